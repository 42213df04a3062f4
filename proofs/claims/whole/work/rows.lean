section
-- ===== PART A: goes FIRST, ahead of the names: the tables' words, and 'selects' of the private methods out of them =====
/-- a private method of a class that the tables say can be made, by its rows of tables_1 -/
def lw_okq (q : MethodName × Nat) : Prop := (q.1.cls ≠ "java/lang/invoke/MethodHandle" ∧ q.1.cls ≠ "java/lang/invoke/VarHandle") ∧ Cond.instantiable q.1.cls q.2 ∈ tables_1 ∧ Cond.privateMethod q.1 ∈ tables_1 ∧ Cond.instanceMethod q.1 ∈ tables_1
theorem lw_p0 : lw_okq (⟨"ThrusterSelector", "isThruster", "(I)Z"⟩, 4) := ⟨⟨by decide +kernel, by decide +kernel⟩, List.mem_of_getElem? (i := 12) (by decide +kernel), List.mem_of_getElem? (i := 220) (by decide +kernel), List.mem_of_getElem? (i := 221) (by decide +kernel)⟩
theorem lw_p1 : lw_okq (⟨"ThrusterSelector$Selection", "clear", "()V"⟩, 8) := ⟨⟨by decide +kernel, by decide +kernel⟩, List.mem_of_getElem? (i := 99) (by decide +kernel), List.mem_of_getElem? (i := 347) (by decide +kernel), List.mem_of_getElem? (i := 348) (by decide +kernel)⟩
theorem lw_p2 : lw_okq (⟨"ThrusterSelector$Selection", "consider", "(LThrusterSelector$State;III)V"⟩, 8) := ⟨⟨by decide +kernel, by decide +kernel⟩, List.mem_of_getElem? (i := 99) (by decide +kernel), List.mem_of_getElem? (i := 356) (by decide +kernel), List.mem_of_getElem? (i := 357) (by decide +kernel)⟩
theorem lw_p3 : lw_okq (⟨"ThrusterSelector$Selection", "isBetter", "(JJI)Z"⟩, 8) := ⟨⟨by decide +kernel, by decide +kernel⟩, List.mem_of_getElem? (i := 99) (by decide +kernel), List.mem_of_getElem? (i := 369) (by decide +kernel), List.mem_of_getElem? (i := 370) (by decide +kernel)⟩
theorem lw_p4 : lw_okq (⟨"ThrusterSelector", "putRequest", "(IIIZ)I"⟩, 4) := ⟨⟨by decide +kernel, by decide +kernel⟩, List.mem_of_getElem? (i := 12) (by decide +kernel), List.mem_of_getElem? (i := 396) (by decide +kernel), List.mem_of_getElem? (i := 397) (by decide +kernel)⟩
theorem lw_p5 : lw_okq (⟨"ThrusterSelector", "isPlace", "(I)Z"⟩, 4) := ⟨⟨by decide +kernel, by decide +kernel⟩, List.mem_of_getElem? (i := 12) (by decide +kernel), List.mem_of_getElem? (i := 412) (by decide +kernel), List.mem_of_getElem? (i := 413) (by decide +kernel)⟩
theorem lw_p6 : lw_okq (⟨"ThrusterSelector", "runCycle", "()I"⟩, 4) := ⟨⟨by decide +kernel, by decide +kernel⟩, List.mem_of_getElem? (i := 12) (by decide +kernel), List.mem_of_getElem? (i := 432) (by decide +kernel), List.mem_of_getElem? (i := 433) (by decide +kernel)⟩
theorem lw_p7 : lw_okq (⟨"ThrusterSelector$State", "wasSound", "(I)Z"⟩, 12) := ⟨⟨by decide +kernel, by decide +kernel⟩, List.mem_of_getElem? (i := 20) (by decide +kernel), List.mem_of_getElem? (i := 499) (by decide +kernel), List.mem_of_getElem? (i := 500) (by decide +kernel)⟩
theorem lw_p8 : lw_okq (⟨"ThrusterSelector$State", "isImpulse", "(IIIII)Z"⟩, 12) := ⟨⟨by decide +kernel, by decide +kernel⟩, List.mem_of_getElem? (i := 20) (by decide +kernel), List.mem_of_getElem? (i := 503) (by decide +kernel), List.mem_of_getElem? (i := 504) (by decide +kernel)⟩
theorem lw_p9 : lw_okq (⟨"ThrusterSelector$Text", "readRequest", "(I)V"⟩, 7) := ⟨⟨by decide +kernel, by decide +kernel⟩, List.mem_of_getElem? (i := 134) (by decide +kernel), List.mem_of_getElem? (i := 540) (by decide +kernel), List.mem_of_getElem? (i := 541) (by decide +kernel)⟩
theorem lw_p10 : lw_okq (⟨"ThrusterSelector$Text", "skipBlanks", "()V"⟩, 7) := ⟨⟨by decide +kernel, by decide +kernel⟩, List.mem_of_getElem? (i := 134) (by decide +kernel), List.mem_of_getElem? (i := 544) (by decide +kernel), List.mem_of_getElem? (i := 545) (by decide +kernel)⟩
theorem lw_p11 : lw_okq (⟨"ThrusterSelector$Text", "accept", "(C)Z"⟩, 7) := ⟨⟨by decide +kernel, by decide +kernel⟩, List.mem_of_getElem? (i := 134) (by decide +kernel), List.mem_of_getElem? (i := 548) (by decide +kernel), List.mem_of_getElem? (i := 549) (by decide +kernel)⟩
theorem lw_p12 : lw_okq (⟨"ThrusterSelector$Text", "readSigned", "()I"⟩, 7) := ⟨⟨by decide +kernel, by decide +kernel⟩, List.mem_of_getElem? (i := 134) (by decide +kernel), List.mem_of_getElem? (i := 552) (by decide +kernel), List.mem_of_getElem? (i := 553) (by decide +kernel)⟩
theorem lw_p13 : lw_okq (⟨"ThrusterSelector$Text", "readNumber", "()I"⟩, 7) := ⟨⟨by decide +kernel, by decide +kernel⟩, List.mem_of_getElem? (i := 134) (by decide +kernel), List.mem_of_getElem? (i := 556) (by decide +kernel), List.mem_of_getElem? (i := 557) (by decide +kernel)⟩
theorem lw_p14 : lw_okq (⟨"ThrusterSelectorModel", "saves", "()V"⟩, 16) := ⟨⟨by decide +kernel, by decide +kernel⟩, List.mem_of_getElem? (i := 573) (by decide +kernel), List.mem_of_getElem? (i := 642) (by decide +kernel), List.mem_of_getElem? (i := 643) (by decide +kernel)⟩
theorem lw_p15 : lw_okq (⟨"ThrusterSelectorModel", "copies", "(II)V"⟩, 16) := ⟨⟨by decide +kernel, by decide +kernel⟩, List.mem_of_getElem? (i := 573) (by decide +kernel), List.mem_of_getElem? (i := 646) (by decide +kernel), List.mem_of_getElem? (i := 647) (by decide +kernel)⟩
def lw_privs_1 : List (MethodName × Nat) := [(⟨"ThrusterSelector", "isThruster", "(I)Z"⟩, 4), (⟨"ThrusterSelector$Selection", "clear", "()V"⟩, 8), (⟨"ThrusterSelector$Selection", "consider", "(LThrusterSelector$State;III)V"⟩, 8), (⟨"ThrusterSelector$Selection", "isBetter", "(JJI)Z"⟩, 8), (⟨"ThrusterSelector", "putRequest", "(IIIZ)I"⟩, 4), (⟨"ThrusterSelector", "isPlace", "(I)Z"⟩, 4), (⟨"ThrusterSelector", "runCycle", "()I"⟩, 4), (⟨"ThrusterSelector$State", "wasSound", "(I)Z"⟩, 12), (⟨"ThrusterSelector$State", "isImpulse", "(IIIII)Z"⟩, 12), (⟨"ThrusterSelector$Text", "readRequest", "(I)V"⟩, 7), (⟨"ThrusterSelector$Text", "skipBlanks", "()V"⟩, 7), (⟨"ThrusterSelector$Text", "accept", "(C)Z"⟩, 7), (⟨"ThrusterSelector$Text", "readSigned", "()I"⟩, 7), (⟨"ThrusterSelector$Text", "readNumber", "()I"⟩, 7), (⟨"ThrusterSelectorModel", "saves", "()V"⟩, 16), (⟨"ThrusterSelectorModel", "copies", "(II)V"⟩, 16)]
theorem lw_r1 : ∀ q ∈ lw_privs_1, lw_okq q := List.forall_mem_cons.mpr ⟨lw_p0, List.forall_mem_cons.mpr ⟨lw_p1, List.forall_mem_cons.mpr ⟨lw_p2, List.forall_mem_cons.mpr ⟨lw_p3, List.forall_mem_cons.mpr ⟨lw_p4, List.forall_mem_cons.mpr ⟨lw_p5, List.forall_mem_cons.mpr ⟨lw_p6, List.forall_mem_cons.mpr ⟨lw_p7, List.forall_mem_cons.mpr ⟨lw_p8, List.forall_mem_cons.mpr ⟨lw_p9, List.forall_mem_cons.mpr ⟨lw_p10, List.forall_mem_cons.mpr ⟨lw_p11, List.forall_mem_cons.mpr ⟨lw_p12, List.forall_mem_cons.mpr ⟨lw_p13, List.forall_mem_cons.mpr ⟨lw_p14, List.forall_mem_cons.mpr ⟨lw_p15, fun _ h => absurd h List.not_mem_nil⟩⟩⟩⟩⟩⟩⟩⟩⟩⟩⟩⟩⟩⟩⟩⟩
theorem lw_p16 : lw_okq (⟨"ThrusterSelectorModel", "isThruster", "(I)Z"⟩, 16) := ⟨⟨by decide +kernel, by decide +kernel⟩, List.mem_of_getElem? (i := 573) (by decide +kernel), List.mem_of_getElem? (i := 654) (by decide +kernel), List.mem_of_getElem? (i := 655) (by decide +kernel)⟩
theorem lw_p17 : lw_okq (⟨"ThrusterSelectorModel", "of", "(II)I"⟩, 16) := ⟨⟨by decide +kernel, by decide +kernel⟩, List.mem_of_getElem? (i := 573) (by decide +kernel), List.mem_of_getElem? (i := 658) (by decide +kernel), List.mem_of_getElem? (i := 659) (by decide +kernel)⟩
theorem lw_p18 : lw_okq (⟨"ThrusterSelectorModel", "isUsable", "(I)Z"⟩, 16) := ⟨⟨by decide +kernel, by decide +kernel⟩, List.mem_of_getElem? (i := 573) (by decide +kernel), List.mem_of_getElem? (i := 670) (by decide +kernel), List.mem_of_getElem? (i := 671) (by decide +kernel)⟩
theorem lw_p19 : lw_okq (⟨"ThrusterSelectorModel", "fuelOf", "(I)I"⟩, 16) := ⟨⟨by decide +kernel, by decide +kernel⟩, List.mem_of_getElem? (i := 573) (by decide +kernel), List.mem_of_getElem? (i := 674) (by decide +kernel), List.mem_of_getElem? (i := 675) (by decide +kernel)⟩
theorem lw_p20 : lw_okq (⟨"ThrusterSelectorModel", "isRunning", "(I)Z"⟩, 16) := ⟨⟨by decide +kernel, by decide +kernel⟩, List.mem_of_getElem? (i := 573) (by decide +kernel), List.mem_of_getElem? (i := 678) (by decide +kernel), List.mem_of_getElem? (i := 679) (by decide +kernel)⟩
theorem lw_p21 : lw_okq (⟨"ThrusterSelectorModel", "unitOf", "(II)I"⟩, 16) := ⟨⟨by decide +kernel, by decide +kernel⟩, List.mem_of_getElem? (i := 573) (by decide +kernel), List.mem_of_getElem? (i := 689) (by decide +kernel), List.mem_of_getElem? (i := 690) (by decide +kernel)⟩
theorem lw_p22 : lw_okq (⟨"ThrusterSelectorModel", "lays", "(II)V"⟩, 16) := ⟨⟨by decide +kernel, by decide +kernel⟩, List.mem_of_getElem? (i := 573) (by decide +kernel), List.mem_of_getElem? (i := 697) (by decide +kernel), List.mem_of_getElem? (i := 698) (by decide +kernel)⟩
theorem lw_p23 : lw_okq (⟨"ThrusterSelectorModel", "determined", "()J"⟩, 16) := ⟨⟨by decide +kernel, by decide +kernel⟩, List.mem_of_getElem? (i := 573) (by decide +kernel), List.mem_of_getElem? (i := 701) (by decide +kernel), List.mem_of_getElem? (i := 702) (by decide +kernel)⟩
theorem lw_p24 : lw_okq (⟨"ThrusterSelectorModel", "find", "(I)I"⟩, 16) := ⟨⟨by decide +kernel, by decide +kernel⟩, List.mem_of_getElem? (i := 573) (by decide +kernel), List.mem_of_getElem? (i := 720) (by decide +kernel), List.mem_of_getElem? (i := 721) (by decide +kernel)⟩
theorem lw_p25 : lw_okq (⟨"ThrusterSelectorModel", "isBad", "(I)Z"⟩, 16) := ⟨⟨by decide +kernel, by decide +kernel⟩, List.mem_of_getElem? (i := 573) (by decide +kernel), List.mem_of_getElem? (i := 733) (by decide +kernel), List.mem_of_getElem? (i := 734) (by decide +kernel)⟩
theorem lw_p26 : lw_okq (⟨"ThrusterSelectorModel", "running", "()I"⟩, 16) := ⟨⟨by decide +kernel, by decide +kernel⟩, List.mem_of_getElem? (i := 573) (by decide +kernel), List.mem_of_getElem? (i := 737) (by decide +kernel), List.mem_of_getElem? (i := 738) (by decide +kernel)⟩
theorem lw_p27 : lw_okq (⟨"ThrusterSelectorModel", "aims", "(III)V"⟩, 16) := ⟨⟨by decide +kernel, by decide +kernel⟩, List.mem_of_getElem? (i := 573) (by decide +kernel), List.mem_of_getElem? (i := 750) (by decide +kernel), List.mem_of_getElem? (i := 751) (by decide +kernel)⟩
theorem lw_p28 : lw_okq (⟨"ThrusterSelectorModel", "finds", "()Z"⟩, 16) := ⟨⟨by decide +kernel, by decide +kernel⟩, List.mem_of_getElem? (i := 573) (by decide +kernel), List.mem_of_getElem? (i := 754) (by decide +kernel), List.mem_of_getElem? (i := 755) (by decide +kernel)⟩
theorem lw_p29 : lw_okq (⟨"ThrusterSelectorModel", "looksAt", "(III)V"⟩, 16) := ⟨⟨by decide +kernel, by decide +kernel⟩, List.mem_of_getElem? (i := 573) (by decide +kernel), List.mem_of_getElem? (i := 758) (by decide +kernel), List.mem_of_getElem? (i := 759) (by decide +kernel)⟩
theorem lw_p30 : lw_okq (⟨"ThrusterSelectorModel", "dear", "(I)I"⟩, 16) := ⟨⟨by decide +kernel, by decide +kernel⟩, List.mem_of_getElem? (i := 573) (by decide +kernel), List.mem_of_getElem? (i := 766) (by decide +kernel), List.mem_of_getElem? (i := 767) (by decide +kernel)⟩
theorem lw_p31 : lw_okq (⟨"ThrusterSelectorModel", "pulseOf", "(I)I"⟩, 16) := ⟨⟨by decide +kernel, by decide +kernel⟩, List.mem_of_getElem? (i := 573) (by decide +kernel), List.mem_of_getElem? (i := 775) (by decide +kernel), List.mem_of_getElem? (i := 776) (by decide +kernel)⟩
def lw_privs_2 : List (MethodName × Nat) := [(⟨"ThrusterSelectorModel", "isThruster", "(I)Z"⟩, 16), (⟨"ThrusterSelectorModel", "of", "(II)I"⟩, 16), (⟨"ThrusterSelectorModel", "isUsable", "(I)Z"⟩, 16), (⟨"ThrusterSelectorModel", "fuelOf", "(I)I"⟩, 16), (⟨"ThrusterSelectorModel", "isRunning", "(I)Z"⟩, 16), (⟨"ThrusterSelectorModel", "unitOf", "(II)I"⟩, 16), (⟨"ThrusterSelectorModel", "lays", "(II)V"⟩, 16), (⟨"ThrusterSelectorModel", "determined", "()J"⟩, 16), (⟨"ThrusterSelectorModel", "find", "(I)I"⟩, 16), (⟨"ThrusterSelectorModel", "isBad", "(I)Z"⟩, 16), (⟨"ThrusterSelectorModel", "running", "()I"⟩, 16), (⟨"ThrusterSelectorModel", "aims", "(III)V"⟩, 16), (⟨"ThrusterSelectorModel", "finds", "()Z"⟩, 16), (⟨"ThrusterSelectorModel", "looksAt", "(III)V"⟩, 16), (⟨"ThrusterSelectorModel", "dear", "(I)I"⟩, 16), (⟨"ThrusterSelectorModel", "pulseOf", "(I)I"⟩, 16)]
theorem lw_r2 : ∀ q ∈ lw_privs_2, lw_okq q := List.forall_mem_cons.mpr ⟨lw_p16, List.forall_mem_cons.mpr ⟨lw_p17, List.forall_mem_cons.mpr ⟨lw_p18, List.forall_mem_cons.mpr ⟨lw_p19, List.forall_mem_cons.mpr ⟨lw_p20, List.forall_mem_cons.mpr ⟨lw_p21, List.forall_mem_cons.mpr ⟨lw_p22, List.forall_mem_cons.mpr ⟨lw_p23, List.forall_mem_cons.mpr ⟨lw_p24, List.forall_mem_cons.mpr ⟨lw_p25, List.forall_mem_cons.mpr ⟨lw_p26, List.forall_mem_cons.mpr ⟨lw_p27, List.forall_mem_cons.mpr ⟨lw_p28, List.forall_mem_cons.mpr ⟨lw_p29, List.forall_mem_cons.mpr ⟨lw_p30, List.forall_mem_cons.mpr ⟨lw_p31, fun _ h => absurd h List.not_mem_nil⟩⟩⟩⟩⟩⟩⟩⟩⟩⟩⟩⟩⟩⟩⟩⟩
theorem lw_p32 : lw_okq (⟨"ThrusterSelectorModel", "asks", "(ZIII)I"⟩, 16) := ⟨⟨by decide +kernel, by decide +kernel⟩, List.mem_of_getElem? (i := 573) (by decide +kernel), List.mem_of_getElem? (i := 789) (by decide +kernel), List.mem_of_getElem? (i := 790) (by decide +kernel)⟩
theorem lw_p33 : lw_okq (⟨"ThrusterSelectorModel", "puts", "(IIII)V"⟩, 16) := ⟨⟨by decide +kernel, by decide +kernel⟩, List.mem_of_getElem? (i := 573) (by decide +kernel), List.mem_of_getElem? (i := 796) (by decide +kernel), List.mem_of_getElem? (i := 797) (by decide +kernel)⟩
theorem lw_p34 : lw_okq (⟨"ThrusterSelectorModel", "isPlace", "(I)Z"⟩, 16) := ⟨⟨by decide +kernel, by decide +kernel⟩, List.mem_of_getElem? (i := 573) (by decide +kernel), List.mem_of_getElem? (i := 808) (by decide +kernel), List.mem_of_getElem? (i := 809) (by decide +kernel)⟩
theorem lw_p35 : lw_okq (⟨"ThrusterSelectorModel", "takes", "(I)V"⟩, 16) := ⟨⟨by decide +kernel, by decide +kernel⟩, List.mem_of_getElem? (i := 573) (by decide +kernel), List.mem_of_getElem? (i := 812) (by decide +kernel), List.mem_of_getElem? (i := 813) (by decide +kernel)⟩
theorem lw_p36 : lw_okq (⟨"ThrusterSelectorModel", "runs", "()Z"⟩, 16) := ⟨⟨by decide +kernel, by decide +kernel⟩, List.mem_of_getElem? (i := 573) (by decide +kernel), List.mem_of_getElem? (i := 828) (by decide +kernel), List.mem_of_getElem? (i := 829) (by decide +kernel)⟩
theorem lw_p37 : lw_okq (⟨"ThrusterSelectorModel", "firedSet", "()I"⟩, 16) := ⟨⟨by decide +kernel, by decide +kernel⟩, List.mem_of_getElem? (i := 573) (by decide +kernel), List.mem_of_getElem? (i := 835) (by decide +kernel), List.mem_of_getElem? (i := 836) (by decide +kernel)⟩
theorem lw_p38 : lw_okq (⟨"ThrusterSelectorModel", "explains", "(II)Z"⟩, 16) := ⟨⟨by decide +kernel, by decide +kernel⟩, List.mem_of_getElem? (i := 573) (by decide +kernel), List.mem_of_getElem? (i := 869) (by decide +kernel), List.mem_of_getElem? (i := 870) (by decide +kernel)⟩
theorem lw_p39 : lw_okq (⟨"ThrusterSelectorModel", "readsAll", "(Z)Z"⟩, 16) := ⟨⟨by decide +kernel, by decide +kernel⟩, List.mem_of_getElem? (i := 573) (by decide +kernel), List.mem_of_getElem? (i := 889) (by decide +kernel), List.mem_of_getElem? (i := 890) (by decide +kernel)⟩
theorem lw_p40 : lw_okq (⟨"ThrusterSelectorModel", "readsRequest", "(Z)Z"⟩, 16) := ⟨⟨by decide +kernel, by decide +kernel⟩, List.mem_of_getElem? (i := 573) (by decide +kernel), List.mem_of_getElem? (i := 893) (by decide +kernel), List.mem_of_getElem? (i := 894) (by decide +kernel)⟩
theorem lw_p41 : lw_okq (⟨"ThrusterSelectorModel", "here", "()I"⟩, 16) := ⟨⟨by decide +kernel, by decide +kernel⟩, List.mem_of_getElem? (i := 573) (by decide +kernel), List.mem_of_getElem? (i := 897) (by decide +kernel), List.mem_of_getElem? (i := 898) (by decide +kernel)⟩
theorem lw_p42 : lw_okq (⟨"ThrusterSelectorModel", "sign", "(I)Z"⟩, 16) := ⟨⟨by decide +kernel, by decide +kernel⟩, List.mem_of_getElem? (i := 573) (by decide +kernel), List.mem_of_getElem? (i := 901) (by decide +kernel), List.mem_of_getElem? (i := 902) (by decide +kernel)⟩
theorem lw_p43 : lw_okq (⟨"ThrusterSelectorModel", "readsPart", "(I)Z"⟩, 16) := ⟨⟨by decide +kernel, by decide +kernel⟩, List.mem_of_getElem? (i := 573) (by decide +kernel), List.mem_of_getElem? (i := 905) (by decide +kernel), List.mem_of_getElem? (i := 906) (by decide +kernel)⟩
theorem lw_p44 : lw_okq (⟨"ThrusterSelectorModel", "note", "(J)V"⟩, 16) := ⟨⟨by decide +kernel, by decide +kernel⟩, List.mem_of_getElem? (i := 573) (by decide +kernel), List.mem_of_getElem? (i := 918) (by decide +kernel), List.mem_of_getElem? (i := 919) (by decide +kernel)⟩
def lw_privs_3 : List (MethodName × Nat) := [(⟨"ThrusterSelectorModel", "asks", "(ZIII)I"⟩, 16), (⟨"ThrusterSelectorModel", "puts", "(IIII)V"⟩, 16), (⟨"ThrusterSelectorModel", "isPlace", "(I)Z"⟩, 16), (⟨"ThrusterSelectorModel", "takes", "(I)V"⟩, 16), (⟨"ThrusterSelectorModel", "runs", "()Z"⟩, 16), (⟨"ThrusterSelectorModel", "firedSet", "()I"⟩, 16), (⟨"ThrusterSelectorModel", "explains", "(II)Z"⟩, 16), (⟨"ThrusterSelectorModel", "readsAll", "(Z)Z"⟩, 16), (⟨"ThrusterSelectorModel", "readsRequest", "(Z)Z"⟩, 16), (⟨"ThrusterSelectorModel", "here", "()I"⟩, 16), (⟨"ThrusterSelectorModel", "sign", "(I)Z"⟩, 16), (⟨"ThrusterSelectorModel", "readsPart", "(I)Z"⟩, 16), (⟨"ThrusterSelectorModel", "note", "(J)V"⟩, 16)]
theorem lw_r3 : ∀ q ∈ lw_privs_3, lw_okq q := List.forall_mem_cons.mpr ⟨lw_p32, List.forall_mem_cons.mpr ⟨lw_p33, List.forall_mem_cons.mpr ⟨lw_p34, List.forall_mem_cons.mpr ⟨lw_p35, List.forall_mem_cons.mpr ⟨lw_p36, List.forall_mem_cons.mpr ⟨lw_p37, List.forall_mem_cons.mpr ⟨lw_p38, List.forall_mem_cons.mpr ⟨lw_p39, List.forall_mem_cons.mpr ⟨lw_p40, List.forall_mem_cons.mpr ⟨lw_p41, List.forall_mem_cons.mpr ⟨lw_p42, List.forall_mem_cons.mpr ⟨lw_p43, List.forall_mem_cons.mpr ⟨lw_p44, fun _ h => absurd h List.not_mem_nil⟩⟩⟩⟩⟩⟩⟩⟩⟩⟩⟩⟩⟩
def lw_privs : List (MethodName × Nat) := lw_privs_1 ++ (lw_privs_2 ++ (lw_privs_3))
def lw_tbl : List Cond := k2_sels lw_privs ++ tables_1
theorem lw_privs_ok : ∀ q ∈ lw_privs, lw_okq q := by
  show ∀ q ∈ lw_privs_1 ++ (lw_privs_2 ++ (lw_privs_3)), lw_okq q
  exact List.forall_mem_append.mpr ⟨lw_r1, List.forall_mem_append.mpr ⟨lw_r2, lw_r3⟩⟩
end
section
def RX0 : String := "ThrusterSelector$History"
def TX0 : u_T := fun k => match k with
  | 0 => ("ThrusterSelector$History", "states", "[LThrusterSelector$State;", true)
  | 1 => ("ThrusterSelector$History", "oldest", "I", false)
  | _ => ("ThrusterSelector$History", "count", "I", false)
def tyX0 : Nat → FieldType := fun k => match k with
  | 0 => .array (.object "ThrusterSelector$State")
  | 1 => .int
  | _ => .int
theorem nmX0 : ∀ a, a < 3 → ∀ b, b < 3 → a ≠ b → (TX0 a).2.1 ≠ (TX0 b).2.1 := by decide +kernel
theorem tyX0_ok : ∀ k, k < 3 → parseFieldDescriptor (TX0 k).2.2.1 = some (tyX0 k) := by decide +kernel
abbrev cX0_init : ByteArray := prog_2_method_1_code
def yX0_init : MethodName := ⟨RX0, "<init>", "()V"⟩
abbrev cX0_keep : ByteArray := prog_2_method_2_code
def yX0_keep : MethodName := ⟨RX0, "keep", "(LThrusterSelector$State;)V"⟩
abbrev cX0_restore : ByteArray := prog_2_method_3_code
def yX0_restore : MethodName := ⟨RX0, "restore", "(LThrusterSelector$State;)V"⟩
def RX1 : String := "ThrusterSelector$Selection"
def TX1 : u_T := fun k => match k with
  | 0 => ("ThrusterSelector$Selection", "units", "[[I", true)
  | 1 => ("ThrusterSelector$Selection", "tickPrices", "[I", true)
  | 2 => ("ThrusterSelector$Selection", "shares", "[J", true)
  | 3 => ("ThrusterSelector$Selection", "denominator", "J", false)
  | 4 => ("ThrusterSelector$Selection", "cost", "J", false)
  | 5 => ("ThrusterSelector$Selection", "mask", "I", false)
  | 6 => ("ThrusterSelector$Selection", "running", "I", false)
  | _ => ("ThrusterSelector$Selection", "found", "Z", false)
def tyX1 : Nat → FieldType := fun k => match k with
  | 0 => .array (.array .int)
  | 1 => .array .int
  | 2 => .array .long
  | 3 => .long
  | 4 => .long
  | 5 => .int
  | 6 => .int
  | _ => .boolean
theorem nmX1 : ∀ a, a < 8 → ∀ b, b < 8 → a ≠ b → (TX1 a).2.1 ≠ (TX1 b).2.1 := by decide +kernel
theorem tyX1_ok : ∀ k, k < 8 → parseFieldDescriptor (TX1 k).2.2.1 = some (tyX1 k) := by decide +kernel
abbrev cX1_init : ByteArray := prog_3_method_1_code
def yX1_init : MethodName := ⟨RX1, "<init>", "()V"⟩
abbrev cX1_readThrusters : ByteArray := prog_3_method_2_code
def yX1_readThrusters : MethodName := ⟨RX1, "readThrusters", "(LThrusterSelector$State;)V"⟩
abbrev cX1_determinantOf : ByteArray := prog_3_method_3_code
def yX1_determinantOf : MethodName := ⟨RX1, "determinantOf", "(III)J"⟩
abbrev cX1_find : ByteArray := prog_3_method_4_code
def yX1_find : MethodName := ⟨RX1, "find", "(LThrusterSelector$State;III)V"⟩
abbrev cX1_clear : ByteArray := prog_3_method_5_code
def yX1_clear : MethodName := ⟨RX1, "clear", "()V"⟩
abbrev cX1_consider : ByteArray := prog_3_method_6_code
def yX1_consider : MethodName := ⟨RX1, "consider", "(LThrusterSelector$State;III)V"⟩
abbrev cX1_isPossible : ByteArray := prog_3_method_7_code
def yX1_isPossible : MethodName := ⟨RX1, "isPossible", "(JJ)Z"⟩
abbrev cX1_bitIf : ByteArray := prog_3_method_8_code
def yX1_bitIf : MethodName := ⟨RX1, "bitIf", "(ZI)I"⟩
abbrev cX1_isBetter : ByteArray := prog_3_method_9_code
def yX1_isBetter : MethodName := ⟨RX1, "isBetter", "(JJI)Z"⟩
abbrev cX1_pulseOf : ByteArray := prog_3_method_10_code
def yX1_pulseOf : MethodName := ⟨RX1, "pulseOf", "(II)I"⟩
abbrev cX1_thousandths : ByteArray := prog_3_method_11_code
def yX1_thousandths : MethodName := ⟨RX1, "thousandths", "()I"⟩
def RX2 : String := "ThrusterSelector$State"
def TX2 : u_T := fun k => match k with
  | 0 => ("ThrusterSelector$State", "properties", "[I", true)
  | 1 => ("ThrusterSelector$State", "pulses", "[I", true)
  | 2 => ("ThrusterSelector$State", "tanks", "[I", true)
  | 3 => ("ThrusterSelector$State", "sets", "[I", true)
  | 4 => ("ThrusterSelector$State", "queue", "[I", true)
  | 5 => ("ThrusterSelector$State", "impulses", "[I", true)
  | 6 => ("ThrusterSelector$State", "sums", "[J", true)
  | 7 => ("ThrusterSelector$State", "thrusterCount", "I", false)
  | 8 => ("ThrusterSelector$State", "setCount", "I", false)
  | 9 => ("ThrusterSelector$State", "requestCount", "I", false)
  | 10 => ("ThrusterSelector$State", "cycleNumber", "I", false)
  | _ => ("ThrusterSelector$State", "soundMask", "I", false)
def tyX2 : Nat → FieldType := fun k => match k with
  | 0 => .array .int
  | 1 => .array .int
  | 2 => .array .int
  | 3 => .array .int
  | 4 => .array .int
  | 5 => .array .int
  | 6 => .array .long
  | 7 => .int
  | 8 => .int
  | 9 => .int
  | 10 => .int
  | _ => .int
theorem nmX2 : ∀ a, a < 12 → ∀ b, b < 12 → a ≠ b → (TX2 a).2.1 ≠ (TX2 b).2.1 := by decide +kernel
theorem tyX2_ok : ∀ k, k < 12 → parseFieldDescriptor (TX2 k).2.2.1 = some (tyX2 k) := by decide +kernel
abbrev cX2_init : ByteArray := prog_4_method_1_code
def yX2_init : MethodName := ⟨RX2, "<init>", "()V"⟩
abbrev cX2_copyFrom : ByteArray := prog_4_method_2_code
def yX2_copyFrom : MethodName := ⟨RX2, "copyFrom", "(LThrusterSelector$State;)V"⟩
abbrev cX2_property : ByteArray := prog_4_method_3_code
def yX2_property : MethodName := ⟨RX2, "property", "(II)I"⟩
abbrev cX2_setProperty : ByteArray := prog_4_method_4_code
def yX2_setProperty : MethodName := ⟨RX2, "setProperty", "(III)V"⟩
abbrev cX2_impulsePart : ByteArray := prog_4_method_5_code
def yX2_impulsePart : MethodName := ⟨RX2, "impulsePart", "(II)I"⟩
abbrev cX2_appendThruster : ByteArray := prog_4_method_6_code
def yX2_appendThruster : MethodName := ⟨RX2, "appendThruster", "(IIIIII)I"⟩
abbrev cX2_unitPart : ByteArray := prog_4_method_7_code
def yX2_unitPart : MethodName := ⟨RX2, "unitPart", "(II)I"⟩
abbrev cX2_fuelOf : ByteArray := prog_4_method_8_code
def yX2_fuelOf : MethodName := ⟨RX2, "fuelOf", "(I)I"⟩
abbrev cX2_isUsable : ByteArray := prog_4_method_9_code
def yX2_isUsable : MethodName := ⟨RX2, "isUsable", "(I)Z"⟩
abbrev cX2_isRunning : ByteArray := prog_4_method_10_code
def yX2_isRunning : MethodName := ⟨RX2, "isRunning", "(I)Z"⟩
abbrev cX2_runningMask : ByteArray := prog_4_method_11_code
def yX2_runningMask : MethodName := ⟨RX2, "runningMask", "()I"⟩
abbrev cX2_priceOfTick : ByteArray := prog_4_method_12_code
def yX2_priceOfTick : MethodName := ⟨RX2, "priceOfTick", "(I)I"⟩
abbrev cX2_placeOfSet : ByteArray := prog_4_method_13_code
def yX2_placeOfSet : MethodName := ⟨RX2, "placeOfSet", "(I)I"⟩
abbrev cX2_appendSet : ByteArray := prog_4_method_14_code
def yX2_appendSet : MethodName := ⟨RX2, "appendSet", "(I)I"⟩
abbrev cX2_removeSet : ByteArray := prog_4_method_15_code
def yX2_removeSet : MethodName := ⟨RX2, "removeSet", "(I)I"⟩
abbrev cX2_forbids : ByteArray := prog_4_method_16_code
def yX2_forbids : MethodName := ⟨RX2, "forbids", "(I)Z"⟩
abbrev cX2_insertRequest : ByteArray := prog_4_method_17_code
def yX2_insertRequest : MethodName := ⟨RX2, "insertRequest", "(IIIZ)V"⟩
abbrev cX2_removeRequest : ByteArray := prog_4_method_18_code
def yX2_removeRequest : MethodName := ⟨RX2, "removeRequest", "(I)V"⟩
abbrev cX2_takeTarget : ByteArray := prog_4_method_19_code
def yX2_takeTarget : MethodName := ⟨RX2, "takeTarget", "(I)V"⟩
abbrev cX2_ranTicks : ByteArray := prog_4_method_20_code
def yX2_ranTicks : MethodName := ⟨RX2, "ranTicks", "(II)I"⟩
abbrev cX2_setPulses : ByteArray := prog_4_method_21_code
def yX2_setPulses : MethodName := ⟨RX2, "setPulses", "(LThrusterSelector$Selection;)I"⟩
abbrev cX2_deliver : ByteArray := prog_4_method_22_code
def yX2_deliver : MethodName := ⟨RX2, "deliver", "(I)V"⟩
abbrev cX2_burn : ByteArray := prog_4_method_23_code
def yX2_burn : MethodName := ⟨RX2, "burn", "(I)V"⟩
abbrev cX2_wasSound : ByteArray := prog_4_method_24_code
def yX2_wasSound : MethodName := ⟨RX2, "wasSound", "(I)Z"⟩
abbrev cX2_isImpulse : ByteArray := prog_4_method_25_code
def yX2_isImpulse : MethodName := ⟨RX2, "isImpulse", "(IIIII)Z"⟩
abbrev cX2_firstSilent : ByteArray := prog_4_method_26_code
def yX2_firstSilent : MethodName := ⟨RX2, "firstSilent", "(III)I"⟩
abbrev cX2_firstSteady : ByteArray := prog_4_method_27_code
def yX2_firstSteady : MethodName := ⟨RX2, "firstSteady", "(III)I"⟩
def RX3 : String := "ThrusterSelector$Text"
def TX3 : u_T := fun k => match k with
  | 0 => ("ThrusterSelector$Text", "bytes", "[I", true)
  | 1 => ("ThrusterSelector$Text", "parts", "[I", true)
  | 2 => ("ThrusterSelector$Text", "urgent", "[Z", true)
  | 3 => ("ThrusterSelector$Text", "length", "I", false)
  | 4 => ("ThrusterSelector$Text", "readCount", "I", false)
  | 5 => ("ThrusterSelector$Text", "at", "I", false)
  | _ => ("ThrusterSelector$Text", "fault", "I", false)
def tyX3 : Nat → FieldType := fun k => match k with
  | 0 => .array .int
  | 1 => .array .int
  | 2 => .array .boolean
  | 3 => .int
  | 4 => .int
  | 5 => .int
  | _ => .int
theorem nmX3 : ∀ a, a < 7 → ∀ b, b < 7 → a ≠ b → (TX3 a).2.1 ≠ (TX3 b).2.1 := by decide +kernel
theorem tyX3_ok : ∀ k, k < 7 → parseFieldDescriptor (TX3 k).2.2.1 = some (tyX3 k) := by decide +kernel
abbrev cX3_init : ByteArray := prog_5_method_1_code
def yX3_init : MethodName := ⟨RX3, "<init>", "()V"⟩
abbrev cX3_append : ByteArray := prog_5_method_2_code
def yX3_append : MethodName := ⟨RX3, "append", "(I)Z"⟩
abbrev cX3_read : ByteArray := prog_5_method_3_code
def yX3_read : MethodName := ⟨RX3, "read", "(I)I"⟩
abbrev cX3_readRequest : ByteArray := prog_5_method_4_code
def yX3_readRequest : MethodName := ⟨RX3, "readRequest", "(I)V"⟩
abbrev cX3_readSigned : ByteArray := prog_5_method_5_code
def yX3_readSigned : MethodName := ⟨RX3, "readSigned", "()I"⟩
abbrev cX3_readNumber : ByteArray := prog_5_method_6_code
def yX3_readNumber : MethodName := ⟨RX3, "readNumber", "()I"⟩
abbrev cX3_isDigit : ByteArray := prog_5_method_7_code
def yX3_isDigit : MethodName := ⟨RX3, "isDigit", "(I)Z"⟩
abbrev cX3_accept : ByteArray := prog_5_method_8_code
def yX3_accept : MethodName := ⟨RX3, "accept", "(C)Z"⟩
abbrev cX3_skipBlanks : ByteArray := prog_5_method_9_code
def yX3_skipBlanks : MethodName := ⟨RX3, "skipBlanks", "()V"⟩
def RX4 : String := "ThrusterSelector"
def TX4 : u_T := fun k => match k with
  | 0 => ("ThrusterSelector", "state", "LThrusterSelector$State;", true)
  | 1 => ("ThrusterSelector", "history", "LThrusterSelector$History;", true)
  | 2 => ("ThrusterSelector", "selection", "LThrusterSelector$Selection;", true)
  | _ => ("ThrusterSelector", "text", "LThrusterSelector$Text;", true)
def tyX4 : Nat → FieldType := fun k => match k with
  | 0 => .object "ThrusterSelector$State"
  | 1 => .object "ThrusterSelector$History"
  | 2 => .object "ThrusterSelector$Selection"
  | _ => .object "ThrusterSelector$Text"
theorem nmX4 : ∀ a, a < 4 → ∀ b, b < 4 → a ≠ b → (TX4 a).2.1 ≠ (TX4 b).2.1 := by decide +kernel
theorem tyX4_ok : ∀ k, k < 4 → parseFieldDescriptor (TX4 k).2.2.1 = some (tyX4 k) := by decide +kernel
abbrev cX4_init : ByteArray := prog_1_method_1_code
def yX4_init : MethodName := ⟨RX4, "<init>", "()V"⟩
abbrev cX4_addThruster : ByteArray := prog_1_method_2_code
def yX4_addThruster : MethodName := ⟨RX4, "addThruster", "(IIIIII)I"⟩
abbrev cX4_setState : ByteArray := prog_1_method_3_code
def yX4_setState : MethodName := ⟨RX4, "setState", "(II)I"⟩
abbrev cX4_thrusters : ByteArray := prog_1_method_4_code
def yX4_thrusters : MethodName := ⟨RX4, "thrusters", "()I"⟩
abbrev cX4_thruster : ByteArray := prog_1_method_5_code
def yX4_thruster : MethodName := ⟨RX4, "thruster", "(II)I"⟩
abbrev cX4_unit : ByteArray := prog_1_method_6_code
def yX4_unit : MethodName := ⟨RX4, "unit", "(II)I"⟩
abbrev cX4_determinant : ByteArray := prog_1_method_7_code
def yX4_determinant : MethodName := ⟨RX4, "determinant", "(III)I"⟩
abbrev cX4_refuel : ByteArray := prog_1_method_8_code
def yX4_refuel : MethodName := ⟨RX4, "refuel", "(II)I"⟩
abbrev cX4_fuel : ByteArray := prog_1_method_9_code
def yX4_fuel : MethodName := ⟨RX4, "fuel", "(I)I"⟩
abbrev cX4_forbid : ByteArray := prog_1_method_10_code
def yX4_forbid : MethodName := ⟨RX4, "forbid", "(I)I"⟩
abbrev cX4_allow : ByteArray := prog_1_method_11_code
def yX4_allow : MethodName := ⟨RX4, "allow", "(I)I"⟩
abbrev cX4_isForbidden : ByteArray := prog_1_method_12_code
def yX4_isForbidden : MethodName := ⟨RX4, "isForbidden", "(I)I"⟩
abbrev cX4_select : ByteArray := prog_1_method_13_code
def yX4_select : MethodName := ⟨RX4, "select", "(III)I"⟩
abbrev cX4_pulse : ByteArray := prog_1_method_14_code
def yX4_pulse : MethodName := ⟨RX4, "pulse", "(IIII)I"⟩
abbrev cX4_price : ByteArray := prog_1_method_15_code
def yX4_price : MethodName := ⟨RX4, "price", "(III)I"⟩
abbrev cX4_request : ByteArray := prog_1_method_16_code
def yX4_request : MethodName := ⟨RX4, "request", "(III)I"⟩
abbrev cX4_urge : ByteArray := prog_1_method_17_code
def yX4_urge : MethodName := ⟨RX4, "urge", "(III)I"⟩
abbrev cX4_cancel : ByteArray := prog_1_method_18_code
def yX4_cancel : MethodName := ⟨RX4, "cancel", "(I)I"⟩
abbrev cX4_queued : ByteArray := prog_1_method_19_code
def yX4_queued : MethodName := ⟨RX4, "queued", "()I"⟩
abbrev cX4_requested : ByteArray := prog_1_method_20_code
def yX4_requested : MethodName := ⟨RX4, "requested", "(II)I"⟩
abbrev cX4_cycle : ByteArray := prog_1_method_21_code
def yX4_cycle : MethodName := ⟨RX4, "cycle", "()I"⟩
abbrev cX4_cycles : ByteArray := prog_1_method_22_code
def yX4_cycles : MethodName := ⟨RX4, "cycles", "(I)I"⟩
abbrev cX4_cycleCount : ByteArray := prog_1_method_23_code
def yX4_cycleCount : MethodName := ⟨RX4, "cycleCount", "()I"⟩
abbrev cX4_fired : ByteArray := prog_1_method_24_code
def yX4_fired : MethodName := ⟨RX4, "fired", "(I)I"⟩
abbrev cX4_impulse : ByteArray := prog_1_method_25_code
def yX4_impulse : MethodName := ⟨RX4, "impulse", "(II)I"⟩
abbrev cX4_total : ByteArray := prog_1_method_26_code
def yX4_total : MethodName := ⟨RX4, "total", "(I)J"⟩
abbrev cX4_suspect : ByteArray := prog_1_method_27_code
def yX4_suspect : MethodName := ⟨RX4, "suspect", "(III)I"⟩
abbrev cX4_undo : ByteArray := prog_1_method_28_code
def yX4_undo : MethodName := ⟨RX4, "undo", "()I"⟩
abbrev cX4_type : ByteArray := prog_1_method_29_code
def yX4_type : MethodName := ⟨RX4, "type", "(I)I"⟩
abbrev cX4_clearText : ByteArray := prog_1_method_30_code
def yX4_clearText : MethodName := ⟨RX4, "clearText", "()I"⟩
abbrev cX4_textFault : ByteArray := prog_1_method_31_code
def yX4_textFault : MethodName := ⟨RX4, "textFault", "()I"⟩
abbrev cX4_load : ByteArray := prog_1_method_32_code
def yX4_load : MethodName := ⟨RX4, "load", "()I"⟩
abbrev cX4_digest : ByteArray := prog_1_method_33_code
def yX4_digest : MethodName := ⟨RX4, "digest", "()J"⟩
abbrev cX4_isWithin : ByteArray := prog_1_method_34_code
def yX4_isWithin : MethodName := ⟨RX4, "isWithin", "(III)Z"⟩
abbrev cX4_isAtMost : ByteArray := prog_1_method_35_code
def yX4_isAtMost : MethodName := ⟨RX4, "isAtMost", "(II)Z"⟩
abbrev cX4_areAtMost : ByteArray := prog_1_method_36_code
def yX4_areAtMost : MethodName := ⟨RX4, "areAtMost", "(IIII)Z"⟩
abbrev cX4_isTarget : ByteArray := prog_1_method_37_code
def yX4_isTarget : MethodName := ⟨RX4, "isTarget", "(III)Z"⟩
abbrev cX4_isTank : ByteArray := prog_1_method_38_code
def yX4_isTank : MethodName := ⟨RX4, "isTank", "(I)Z"⟩
abbrev cX4_isPart : ByteArray := prog_1_method_39_code
def yX4_isPart : MethodName := ⟨RX4, "isPart", "(I)Z"⟩
abbrev cX4_isThruster : ByteArray := prog_1_method_40_code
def yX4_isThruster : MethodName := ⟨RX4, "isThruster", "(I)Z"⟩
abbrev cX4_isPlace : ByteArray := prog_1_method_41_code
def yX4_isPlace : MethodName := ⟨RX4, "isPlace", "(I)Z"⟩
abbrev cX4_putRequest : ByteArray := prog_1_method_42_code
def yX4_putRequest : MethodName := ⟨RX4, "putRequest", "(IIIZ)I"⟩
abbrev cX4_runCycle : ByteArray := prog_1_method_43_code
def yX4_runCycle : MethodName := ⟨RX4, "runCycle", "()I"⟩
def RX5 : String := "ThrusterSelectorModel"
def TX5 : u_T := fun k => match k with
  | 0 => ("ThrusterSelectorModel", "row", "[I", true)
  | 1 => ("ThrusterSelectorModel", "total", "[J", true)
  | 2 => ("ThrusterSelectorModel", "saved", "I", false)
  | 3 => ("ThrusterSelectorModel", "table", "[J", true)
  | 4 => ("ThrusterSelectorModel", "goal", "[J", true)
  | 5 => ("ThrusterSelectorModel", "best", "[J", true)
  | 6 => ("ThrusterSelectorModel", "bestWhole", "J", false)
  | 7 => ("ThrusterSelectorModel", "bestPrice", "J", false)
  | 8 => ("ThrusterSelectorModel", "bestSet", "I", false)
  | 9 => ("ThrusterSelectorModel", "ticks", "[J", true)
  | 10 => ("ThrusterSelectorModel", "text", "[I", true)
  | 11 => ("ThrusterSelectorModel", "length", "I", false)
  | 12 => ("ThrusterSelectorModel", "at", "I", false)
  | 13 => ("ThrusterSelectorModel", "parts", "[I", true)
  | 14 => ("ThrusterSelectorModel", "asked", "I", false)
  | _ => ("ThrusterSelectorModel", "h", "J", false)
def tyX5 : Nat → FieldType := fun k => match k with
  | 0 => .array .int
  | 1 => .array .long
  | 2 => .int
  | 3 => .array .long
  | 4 => .array .long
  | 5 => .array .long
  | 6 => .long
  | 7 => .long
  | 8 => .int
  | 9 => .array .long
  | 10 => .array .int
  | 11 => .int
  | 12 => .int
  | 13 => .array .int
  | 14 => .int
  | _ => .long
theorem nmX5 : ∀ a, a < 16 → ∀ b, b < 16 → a ≠ b → (TX5 a).2.1 ≠ (TX5 b).2.1 := by decide +kernel
theorem tyX5_ok : ∀ k, k < 16 → parseFieldDescriptor (TX5 k).2.2.1 = some (tyX5 k) := by decide +kernel
abbrev cX5_init : ByteArray := prog_7_method_1_code
def yX5_init : MethodName := ⟨RX5, "<init>", "()V"⟩
abbrev cX5_in : ByteArray := prog_7_method_2_code
def yX5_in : MethodName := ⟨RX5, "in", "(III)Z"⟩
abbrev cX5_copies : ByteArray := prog_7_method_3_code
def yX5_copies : MethodName := ⟨RX5, "copies", "(II)V"⟩
abbrev cX5_saves : ByteArray := prog_7_method_4_code
def yX5_saves : MethodName := ⟨RX5, "saves", "()V"⟩
abbrev cX5_isThruster : ByteArray := prog_7_method_5_code
def yX5_isThruster : MethodName := ⟨RX5, "isThruster", "(I)Z"⟩
abbrev cX5_isTank : ByteArray := prog_7_method_6_code
def yX5_isTank : MethodName := ⟨RX5, "isTank", "(I)Z"⟩
abbrev cX5_isPart : ByteArray := prog_7_method_7_code
def yX5_isPart : MethodName := ⟨RX5, "isPart", "(I)Z"⟩
abbrev cX5_of : ByteArray := prog_7_method_8_code
def yX5_of : MethodName := ⟨RX5, "of", "(II)I"⟩
abbrev cX5_fuelOf : ByteArray := prog_7_method_9_code
def yX5_fuelOf : MethodName := ⟨RX5, "fuelOf", "(I)I"⟩
abbrev cX5_isUsable : ByteArray := prog_7_method_10_code
def yX5_isUsable : MethodName := ⟨RX5, "isUsable", "(I)Z"⟩
abbrev cX5_isRunning : ByteArray := prog_7_method_11_code
def yX5_isRunning : MethodName := ⟨RX5, "isRunning", "(I)Z"⟩
abbrev cX5_unitOf : ByteArray := prog_7_method_12_code
def yX5_unitOf : MethodName := ⟨RX5, "unitOf", "(II)I"⟩
abbrev cX5_running : ByteArray := prog_7_method_13_code
def yX5_running : MethodName := ⟨RX5, "running", "()I"⟩
abbrev cX5_addThruster : ByteArray := prog_7_method_14_code
def yX5_addThruster : MethodName := ⟨RX5, "addThruster", "(IIIIII)I"⟩
abbrev cX5_setState : ByteArray := prog_7_method_15_code
def yX5_setState : MethodName := ⟨RX5, "setState", "(II)I"⟩
abbrev cX5_thrusters : ByteArray := prog_7_method_16_code
def yX5_thrusters : MethodName := ⟨RX5, "thrusters", "()I"⟩
abbrev cX5_thruster : ByteArray := prog_7_method_17_code
def yX5_thruster : MethodName := ⟨RX5, "thruster", "(II)I"⟩
abbrev cX5_unit : ByteArray := prog_7_method_18_code
def yX5_unit : MethodName := ⟨RX5, "unit", "(II)I"⟩
abbrev cX5_lays : ByteArray := prog_7_method_19_code
def yX5_lays : MethodName := ⟨RX5, "lays", "(II)V"⟩
abbrev cX5_determined : ByteArray := prog_7_method_20_code
def yX5_determined : MethodName := ⟨RX5, "determined", "()J"⟩
abbrev cX5_determinant : ByteArray := prog_7_method_21_code
def yX5_determinant : MethodName := ⟨RX5, "determinant", "(III)I"⟩
abbrev cX5_refuel : ByteArray := prog_7_method_22_code
def yX5_refuel : MethodName := ⟨RX5, "refuel", "(II)I"⟩
abbrev cX5_fuel : ByteArray := prog_7_method_23_code
def yX5_fuel : MethodName := ⟨RX5, "fuel", "(I)I"⟩
abbrev cX5_bits : ByteArray := prog_7_method_24_code
def yX5_bits : MethodName := ⟨RX5, "bits", "(I)I"⟩
abbrev cX5_find : ByteArray := prog_7_method_25_code
def yX5_find : MethodName := ⟨RX5, "find", "(I)I"⟩
abbrev cX5_forbid : ByteArray := prog_7_method_26_code
def yX5_forbid : MethodName := ⟨RX5, "forbid", "(I)I"⟩
abbrev cX5_allow : ByteArray := prog_7_method_27_code
def yX5_allow : MethodName := ⟨RX5, "allow", "(I)I"⟩
abbrev cX5_isBad : ByteArray := prog_7_method_28_code
def yX5_isBad : MethodName := ⟨RX5, "isBad", "(I)Z"⟩
abbrev cX5_isForbidden : ByteArray := prog_7_method_29_code
def yX5_isForbidden : MethodName := ⟨RX5, "isForbidden", "(I)I"⟩
abbrev cX5_aims : ByteArray := prog_7_method_30_code
def yX5_aims : MethodName := ⟨RX5, "aims", "(III)V"⟩
abbrev cX5_dear : ByteArray := prog_7_method_31_code
def yX5_dear : MethodName := ⟨RX5, "dear", "(I)I"⟩
abbrev cX5_member : ByteArray := prog_7_method_32_code
def yX5_member : MethodName := ⟨RX5, "member", "(IIII)I"⟩
abbrev cX5_looksAt : ByteArray := prog_7_method_33_code
def yX5_looksAt : MethodName := ⟨RX5, "looksAt", "(III)V"⟩
abbrev cX5_finds : ByteArray := prog_7_method_34_code
def yX5_finds : MethodName := ⟨RX5, "finds", "()Z"⟩
abbrev cX5_pulseOf : ByteArray := prog_7_method_35_code
def yX5_pulseOf : MethodName := ⟨RX5, "pulseOf", "(I)I"⟩
abbrev cX5_isTarget : ByteArray := prog_7_method_36_code
def yX5_isTarget : MethodName := ⟨RX5, "isTarget", "(III)Z"⟩
abbrev cX5_select : ByteArray := prog_7_method_37_code
def yX5_select : MethodName := ⟨RX5, "select", "(III)I"⟩
abbrev cX5_pulse : ByteArray := prog_7_method_38_code
def yX5_pulse : MethodName := ⟨RX5, "pulse", "(IIII)I"⟩
abbrev cX5_price : ByteArray := prog_7_method_39_code
def yX5_price : MethodName := ⟨RX5, "price", "(III)I"⟩
abbrev cX5_isRequest : ByteArray := prog_7_method_40_code
def yX5_isRequest : MethodName := ⟨RX5, "isRequest", "(III)Z"⟩
abbrev cX5_puts : ByteArray := prog_7_method_41_code
def yX5_puts : MethodName := ⟨RX5, "puts", "(IIII)V"⟩
abbrev cX5_takes : ByteArray := prog_7_method_42_code
def yX5_takes : MethodName := ⟨RX5, "takes", "(I)V"⟩
abbrev cX5_asks : ByteArray := prog_7_method_43_code
def yX5_asks : MethodName := ⟨RX5, "asks", "(ZIII)I"⟩
abbrev cX5_request : ByteArray := prog_7_method_44_code
def yX5_request : MethodName := ⟨RX5, "request", "(III)I"⟩
abbrev cX5_urge : ByteArray := prog_7_method_45_code
def yX5_urge : MethodName := ⟨RX5, "urge", "(III)I"⟩
abbrev cX5_isPlace : ByteArray := prog_7_method_46_code
def yX5_isPlace : MethodName := ⟨RX5, "isPlace", "(I)Z"⟩
abbrev cX5_cancel : ByteArray := prog_7_method_47_code
def yX5_cancel : MethodName := ⟨RX5, "cancel", "(I)I"⟩
abbrev cX5_queued : ByteArray := prog_7_method_48_code
def yX5_queued : MethodName := ⟨RX5, "queued", "()I"⟩
abbrev cX5_requested : ByteArray := prog_7_method_49_code
def yX5_requested : MethodName := ⟨RX5, "requested", "(II)I"⟩
abbrev cX5_held : ByteArray := prog_7_method_50_code
def yX5_held : MethodName := ⟨RX5, "held", "(I)I"⟩
abbrev cX5_runs : ByteArray := prog_7_method_51_code
def yX5_runs : MethodName := ⟨RX5, "runs", "()Z"⟩
abbrev cX5_firedSet : ByteArray := prog_7_method_52_code
def yX5_firedSet : MethodName := ⟨RX5, "firedSet", "()I"⟩
abbrev cX5_cycle : ByteArray := prog_7_method_53_code
def yX5_cycle : MethodName := ⟨RX5, "cycle", "()I"⟩
abbrev cX5_cycles : ByteArray := prog_7_method_54_code
def yX5_cycles : MethodName := ⟨RX5, "cycles", "(I)I"⟩
abbrev cX5_cycleCount : ByteArray := prog_7_method_55_code
def yX5_cycleCount : MethodName := ⟨RX5, "cycleCount", "()I"⟩
abbrev cX5_fired : ByteArray := prog_7_method_56_code
def yX5_fired : MethodName := ⟨RX5, "fired", "(I)I"⟩
abbrev cX5_impulse : ByteArray := prog_7_method_57_code
def yX5_impulse : MethodName := ⟨RX5, "impulse", "(II)I"⟩
abbrev cX5_total : ByteArray := prog_7_method_58_code
def yX5_total : MethodName := ⟨RX5, "total", "(I)J"⟩
abbrev cX5_explains : ByteArray := prog_7_method_59_code
def yX5_explains : MethodName := ⟨RX5, "explains", "(II)Z"⟩
abbrev cX5_isMeasured : ByteArray := prog_7_method_60_code
def yX5_isMeasured : MethodName := ⟨RX5, "isMeasured", "(I)Z"⟩
abbrev cX5_suspect : ByteArray := prog_7_method_61_code
def yX5_suspect : MethodName := ⟨RX5, "suspect", "(III)I"⟩
abbrev cX5_undo : ByteArray := prog_7_method_62_code
def yX5_undo : MethodName := ⟨RX5, "undo", "()I"⟩
abbrev cX5_type : ByteArray := prog_7_method_63_code
def yX5_type : MethodName := ⟨RX5, "type", "(I)I"⟩
abbrev cX5_clearText : ByteArray := prog_7_method_64_code
def yX5_clearText : MethodName := ⟨RX5, "clearText", "()I"⟩
abbrev cX5_here : ByteArray := prog_7_method_65_code
def yX5_here : MethodName := ⟨RX5, "here", "()I"⟩
abbrev cX5_sign : ByteArray := prog_7_method_66_code
def yX5_sign : MethodName := ⟨RX5, "sign", "(I)Z"⟩
abbrev cX5_readsPart : ByteArray := prog_7_method_67_code
def yX5_readsPart : MethodName := ⟨RX5, "readsPart", "(I)Z"⟩
abbrev cX5_readsRequest : ByteArray := prog_7_method_68_code
def yX5_readsRequest : MethodName := ⟨RX5, "readsRequest", "(Z)Z"⟩
abbrev cX5_readsAll : ByteArray := prog_7_method_69_code
def yX5_readsAll : MethodName := ⟨RX5, "readsAll", "(Z)Z"⟩
abbrev cX5_textFault : ByteArray := prog_7_method_70_code
def yX5_textFault : MethodName := ⟨RX5, "textFault", "()I"⟩
abbrev cX5_load : ByteArray := prog_7_method_71_code
def yX5_load : MethodName := ⟨RX5, "load", "()I"⟩
abbrev cX5_note : ByteArray := prog_7_method_72_code
def yX5_note : MethodName := ⟨RX5, "note", "(J)V"⟩
abbrev cX5_digest : ByteArray := prog_7_method_73_code
def yX5_digest : MethodName := ⟨RX5, "digest", "()J"⟩
def RJ6 : String := "java/lang/Integer"
def TJ6 : u_T := fun k => match k with
  | _ => ("", "", "", false)
def tyJ6 : Nat → FieldType := fun k => match k with
  | _ => .int
theorem nmJ6 : ∀ a, a < 0 → ∀ b, b < 0 → a ≠ b → (TJ6 a).2.1 ≠ (TJ6 b).2.1 := by decide +kernel
theorem tyJ6_ok : ∀ k, k < 0 → parseFieldDescriptor (TJ6 k).2.2.1 = some (tyJ6 k) := by decide +kernel
abbrev cJ6_bitCount_0f7a4 : ByteArray := prog_8_method_49_code
def yJ6_bitCount_0f7a4 : MethodName := ⟨RJ6, "bitCount", "(I)I"⟩
def RJ9 : String := "java/lang/Math"
def TJ9 : u_T := fun k => match k with
  | _ => ("", "", "", false)
def tyJ9 : Nat → FieldType := fun k => match k with
  | _ => .int
theorem nmJ9 : ∀ a, a < 0 → ∀ b, b < 0 → a ≠ b → (TJ9 a).2.1 ≠ (TJ9 b).2.1 := by decide +kernel
theorem tyJ9_ok : ∀ k, k < 0 → parseFieldDescriptor (TJ9 k).2.2.1 = some (tyJ9 k) := by decide +kernel
abbrev cJ9_max_7cf53 : ByteArray := prog_9_method_65_code
def yJ9_max_7cf53 : MethodName := ⟨RJ9, "max", "(II)I"⟩
abbrev cJ9_min_7cf53 : ByteArray := prog_9_method_69_code
def yJ9_min_7cf53 : MethodName := ⟨RJ9, "min", "(II)I"⟩
def RJ10 : String := "java/lang/System"
def TJ10 : u_T := fun k => match k with
  | _ => ("", "", "", false)
def tyJ10 : Nat → FieldType := fun k => match k with
  | _ => .int
theorem nmJ10 : ∀ a, a < 0 → ∀ b, b < 0 → a ≠ b → (TJ10 a).2.1 ≠ (TJ10 b).2.1 := by decide +kernel
theorem tyJ10_ok : ∀ k, k < 0 → parseFieldDescriptor (TJ10 k).2.2.1 = some (tyJ10 k) := by decide +kernel
def RJ7 : String := "java/util/Arrays"
def TJ7 : u_T := fun k => match k with
  | _ => ("", "", "", false)
def tyJ7 : Nat → FieldType := fun k => match k with
  | _ => .int
theorem nmJ7 : ∀ a, a < 0 → ∀ b, b < 0 → a ≠ b → (TJ7 a).2.1 ≠ (TJ7 b).2.1 := by decide +kernel
theorem tyJ7_ok : ∀ k, k < 0 → parseFieldDescriptor (TJ7 k).2.2.1 = some (tyJ7 k) := by decide +kernel
abbrev cJ7_fill_d0a16 : ByteArray := prog_11_method_101_code
def yJ7_fill_d0a16 : MethodName := ⟨RJ7, "fill", "([JJ)V"⟩
abbrev cJ7_fill_53178 : ByteArray := prog_11_method_103_code
def yJ7_fill_53178 : MethodName := ⟨RJ7, "fill", "([II)V"⟩
def RL : String := "ThrusterSelectorLaw"
abbrev cL_law : ByteArray := code
def yL_law : MethodName := ⟨RL, "law", "([I)Z"⟩
theorem dX0_init_0 : decode cX0_init 0 = .ok (.aload_n 0, 1) := by decide +kernel
theorem dX0_init_1 : decode cX0_init 1 = .ok (.invokespecial 3, 3) := by decide +kernel
theorem dX0_init_4 : decode cX0_init 4 = .ok (.aload_n 0, 1) := by decide +kernel
theorem dX0_init_5 : decode cX0_init 5 = .ok (.iconst 5, 1) := by decide +kernel
theorem dX0_init_6 : decode cX0_init 6 = .ok (.anewarray 9, 3) := by decide +kernel
theorem dX0_init_9 : decode cX0_init 9 = .ok (.putfield 11, 3) := by decide +kernel
theorem dX0_init_12 : decode cX0_init 12 = .ok (.iconst 0, 1) := by decide +kernel
theorem dX0_init_13 : decode cX0_init 13 = .ok (.istore_n 1, 1) := by decide +kernel
theorem dX0_init_14 : decode cX0_init 14 = .ok (.iload_n 1, 1) := by decide +kernel
theorem dX0_init_15 : decode cX0_init 15 = .ok (.iconst 5, 1) := by decide +kernel
theorem dX0_init_16 : decode cX0_init 16 = .ok (.if_icmp .ge 22, 3) := by decide +kernel
theorem dX0_init_19 : decode cX0_init 19 = .ok (.aload_n 0, 1) := by decide +kernel
theorem dX0_init_20 : decode cX0_init 20 = .ok (.getfield 11, 3) := by decide +kernel
theorem dX0_init_23 : decode cX0_init 23 = .ok (.iload_n 1, 1) := by decide +kernel
theorem dX0_init_24 : decode cX0_init 24 = .ok (.new 9, 3) := by decide +kernel
theorem dX0_init_27 : decode cX0_init 27 = .ok (.dup, 1) := by decide +kernel
theorem dX0_init_28 : decode cX0_init 28 = .ok (.invokespecial 17, 3) := by decide +kernel
theorem dX0_init_31 : decode cX0_init 31 = .ok (.aastore, 1) := by decide +kernel
theorem dX0_init_32 : decode cX0_init 32 = .ok (.iinc 1 1, 3) := by decide +kernel
theorem dX0_init_35 : decode cX0_init 35 = .ok (.goto (-21), 3) := by decide +kernel
theorem dX0_init_38 : decode cX0_init 38 = .ok (.return_, 1) := by decide +kernel
theorem dX0_keep_0 : decode cX0_keep 0 = .ok (.aload_n 0, 1) := by decide +kernel
theorem dX0_keep_1 : decode cX0_keep 1 = .ok (.getfield 11, 3) := by decide +kernel
theorem dX0_keep_4 : decode cX0_keep 4 = .ok (.aload_n 0, 1) := by decide +kernel
theorem dX0_keep_5 : decode cX0_keep 5 = .ok (.getfield 18, 3) := by decide +kernel
theorem dX0_keep_8 : decode cX0_keep 8 = .ok (.aload_n 0, 1) := by decide +kernel
theorem dX0_keep_9 : decode cX0_keep 9 = .ok (.getfield 22, 3) := by decide +kernel
theorem dX0_keep_12 : decode cX0_keep 12 = .ok (.iadd, 1) := by decide +kernel
theorem dX0_keep_13 : decode cX0_keep 13 = .ok (.iconst 5, 1) := by decide +kernel
theorem dX0_keep_14 : decode cX0_keep 14 = .ok (.irem, 1) := by decide +kernel
theorem dX0_keep_15 : decode cX0_keep 15 = .ok (.aaload, 1) := by decide +kernel
theorem dX0_keep_16 : decode cX0_keep 16 = .ok (.aload_n 1, 1) := by decide +kernel
theorem dX0_keep_17 : decode cX0_keep 17 = .ok (.invokevirtual 25, 3) := by decide +kernel
theorem dX0_keep_20 : decode cX0_keep 20 = .ok (.aload_n 0, 1) := by decide +kernel
theorem dX0_keep_21 : decode cX0_keep 21 = .ok (.getfield 22, 3) := by decide +kernel
theorem dX0_keep_24 : decode cX0_keep 24 = .ok (.iconst 5, 1) := by decide +kernel
theorem dX0_keep_25 : decode cX0_keep 25 = .ok (.if_icmp .ge 16, 3) := by decide +kernel
theorem dX0_keep_28 : decode cX0_keep 28 = .ok (.aload_n 0, 1) := by decide +kernel
theorem dX0_keep_29 : decode cX0_keep 29 = .ok (.dup, 1) := by decide +kernel
theorem dX0_keep_30 : decode cX0_keep 30 = .ok (.getfield 22, 3) := by decide +kernel
theorem dX0_keep_33 : decode cX0_keep 33 = .ok (.iconst 1, 1) := by decide +kernel
theorem dX0_keep_34 : decode cX0_keep 34 = .ok (.iadd, 1) := by decide +kernel
theorem dX0_keep_35 : decode cX0_keep 35 = .ok (.putfield 22, 3) := by decide +kernel
theorem dX0_keep_38 : decode cX0_keep 38 = .ok (.goto 15, 3) := by decide +kernel
theorem dX0_keep_41 : decode cX0_keep 41 = .ok (.aload_n 0, 1) := by decide +kernel
theorem dX0_keep_42 : decode cX0_keep 42 = .ok (.aload_n 0, 1) := by decide +kernel
theorem dX0_keep_43 : decode cX0_keep 43 = .ok (.getfield 18, 3) := by decide +kernel
theorem dX0_keep_46 : decode cX0_keep 46 = .ok (.iconst 1, 1) := by decide +kernel
theorem dX0_keep_47 : decode cX0_keep 47 = .ok (.iadd, 1) := by decide +kernel
theorem dX0_keep_48 : decode cX0_keep 48 = .ok (.iconst 5, 1) := by decide +kernel
theorem dX0_keep_49 : decode cX0_keep 49 = .ok (.irem, 1) := by decide +kernel
theorem dX0_keep_50 : decode cX0_keep 50 = .ok (.putfield 18, 3) := by decide +kernel
theorem dX0_keep_53 : decode cX0_keep 53 = .ok (.return_, 1) := by decide +kernel
theorem dX0_restore_0 : decode cX0_restore 0 = .ok (.aload_n 0, 1) := by decide +kernel
theorem dX0_restore_1 : decode cX0_restore 1 = .ok (.getfield 22, 3) := by decide +kernel
theorem dX0_restore_4 : decode cX0_restore 4 = .ok (.ifCond .le 33, 3) := by decide +kernel
theorem dX0_restore_7 : decode cX0_restore 7 = .ok (.aload_n 0, 1) := by decide +kernel
theorem dX0_restore_8 : decode cX0_restore 8 = .ok (.dup, 1) := by decide +kernel
theorem dX0_restore_9 : decode cX0_restore 9 = .ok (.getfield 22, 3) := by decide +kernel
theorem dX0_restore_12 : decode cX0_restore 12 = .ok (.iconst 1, 1) := by decide +kernel
theorem dX0_restore_13 : decode cX0_restore 13 = .ok (.isub, 1) := by decide +kernel
theorem dX0_restore_14 : decode cX0_restore 14 = .ok (.putfield 22, 3) := by decide +kernel
theorem dX0_restore_17 : decode cX0_restore 17 = .ok (.aload_n 1, 1) := by decide +kernel
theorem dX0_restore_18 : decode cX0_restore 18 = .ok (.aload_n 0, 1) := by decide +kernel
theorem dX0_restore_19 : decode cX0_restore 19 = .ok (.getfield 11, 3) := by decide +kernel
theorem dX0_restore_22 : decode cX0_restore 22 = .ok (.aload_n 0, 1) := by decide +kernel
theorem dX0_restore_23 : decode cX0_restore 23 = .ok (.getfield 18, 3) := by decide +kernel
theorem dX0_restore_26 : decode cX0_restore 26 = .ok (.aload_n 0, 1) := by decide +kernel
theorem dX0_restore_27 : decode cX0_restore 27 = .ok (.getfield 22, 3) := by decide +kernel
theorem dX0_restore_30 : decode cX0_restore 30 = .ok (.iadd, 1) := by decide +kernel
theorem dX0_restore_31 : decode cX0_restore 31 = .ok (.iconst 5, 1) := by decide +kernel
theorem dX0_restore_32 : decode cX0_restore 32 = .ok (.irem, 1) := by decide +kernel
theorem dX0_restore_33 : decode cX0_restore 33 = .ok (.aaload, 1) := by decide +kernel
theorem dX0_restore_34 : decode cX0_restore 34 = .ok (.invokevirtual 25, 3) := by decide +kernel
theorem dX0_restore_37 : decode cX0_restore 37 = .ok (.return_, 1) := by decide +kernel
theorem dX1_init_0 : decode cX1_init 0 = .ok (.aload_n 0, 1) := by decide +kernel
theorem dX1_init_1 : decode cX1_init 1 = .ok (.invokespecial 3, 3) := by decide +kernel
theorem dX1_init_4 : decode cX1_init 4 = .ok (.aload_n 0, 1) := by decide +kernel
theorem dX1_init_5 : decode cX1_init 5 = .ok (.bipush 9, 2) := by decide +kernel
theorem dX1_init_7 : decode cX1_init 7 = .ok (.iconst 3, 1) := by decide +kernel
theorem dX1_init_8 : decode cX1_init 8 = .ok (.multianewarray 9 2, 4) := by decide +kernel
theorem dX1_init_12 : decode cX1_init 12 = .ok (.putfield 11, 3) := by decide +kernel
theorem dX1_init_15 : decode cX1_init 15 = .ok (.aload_n 0, 1) := by decide +kernel
theorem dX1_init_16 : decode cX1_init 16 = .ok (.bipush 8, 2) := by decide +kernel
theorem dX1_init_18 : decode cX1_init 18 = .ok (.newarray .int, 2) := by decide +kernel
theorem dX1_init_20 : decode cX1_init 20 = .ok (.putfield 16, 3) := by decide +kernel
theorem dX1_init_23 : decode cX1_init 23 = .ok (.aload_n 0, 1) := by decide +kernel
theorem dX1_init_24 : decode cX1_init 24 = .ok (.bipush 8, 2) := by decide +kernel
theorem dX1_init_26 : decode cX1_init 26 = .ok (.newarray .long, 2) := by decide +kernel
theorem dX1_init_28 : decode cX1_init 28 = .ok (.putfield 20, 3) := by decide +kernel
theorem dX1_init_31 : decode cX1_init 31 = .ok (.aload_n 0, 1) := by decide +kernel
theorem dX1_init_32 : decode cX1_init 32 = .ok (.lconst 1, 1) := by decide +kernel
theorem dX1_init_33 : decode cX1_init 33 = .ok (.putfield 24, 3) := by decide +kernel
theorem dX1_init_36 : decode cX1_init 36 = .ok (.return_, 1) := by decide +kernel
theorem dX1_readThrusters_0 : decode cX1_readThrusters 0 = .ok (.aload_n 0, 1) := by decide +kernel
theorem dX1_readThrusters_1 : decode cX1_readThrusters 1 = .ok (.aload_n 1, 1) := by decide +kernel
theorem dX1_readThrusters_2 : decode cX1_readThrusters 2 = .ok (.invokevirtual 28, 3) := by decide +kernel
theorem dX1_readThrusters_5 : decode cX1_readThrusters 5 = .ok (.putfield 34, 3) := by decide +kernel
theorem dX1_readThrusters_8 : decode cX1_readThrusters 8 = .ok (.iconst 0, 1) := by decide +kernel
theorem dX1_readThrusters_9 : decode cX1_readThrusters 9 = .ok (.istore_n 2, 1) := by decide +kernel
theorem dX1_readThrusters_10 : decode cX1_readThrusters 10 = .ok (.iload_n 2, 1) := by decide +kernel
theorem dX1_readThrusters_11 : decode cX1_readThrusters 11 = .ok (.aload_n 1, 1) := by decide +kernel
theorem dX1_readThrusters_12 : decode cX1_readThrusters 12 = .ok (.getfield 38, 3) := by decide +kernel
theorem dX1_readThrusters_15 : decode cX1_readThrusters 15 = .ok (.if_icmp .ge 47, 3) := by decide +kernel
theorem dX1_readThrusters_18 : decode cX1_readThrusters 18 = .ok (.aload_n 0, 1) := by decide +kernel
theorem dX1_readThrusters_19 : decode cX1_readThrusters 19 = .ok (.getfield 16, 3) := by decide +kernel
theorem dX1_readThrusters_22 : decode cX1_readThrusters 22 = .ok (.iload_n 2, 1) := by decide +kernel
theorem dX1_readThrusters_23 : decode cX1_readThrusters 23 = .ok (.aload_n 1, 1) := by decide +kernel
theorem dX1_readThrusters_24 : decode cX1_readThrusters 24 = .ok (.iload_n 2, 1) := by decide +kernel
theorem dX1_readThrusters_25 : decode cX1_readThrusters 25 = .ok (.invokevirtual 41, 3) := by decide +kernel
theorem dX1_readThrusters_28 : decode cX1_readThrusters 28 = .ok (.iastore, 1) := by decide +kernel
theorem dX1_readThrusters_29 : decode cX1_readThrusters 29 = .ok (.iconst 0, 1) := by decide +kernel
theorem dX1_readThrusters_30 : decode cX1_readThrusters 30 = .ok (.istore_n 3, 1) := by decide +kernel
theorem dX1_readThrusters_31 : decode cX1_readThrusters 31 = .ok (.iload_n 3, 1) := by decide +kernel
theorem dX1_readThrusters_32 : decode cX1_readThrusters 32 = .ok (.iconst 3, 1) := by decide +kernel
theorem dX1_readThrusters_33 : decode cX1_readThrusters 33 = .ok (.if_icmp .ge 23, 3) := by decide +kernel
theorem dX1_readThrusters_36 : decode cX1_readThrusters 36 = .ok (.aload_n 0, 1) := by decide +kernel
theorem dX1_readThrusters_37 : decode cX1_readThrusters 37 = .ok (.getfield 11, 3) := by decide +kernel
theorem dX1_readThrusters_40 : decode cX1_readThrusters 40 = .ok (.iload_n 2, 1) := by decide +kernel
theorem dX1_readThrusters_41 : decode cX1_readThrusters 41 = .ok (.aaload, 1) := by decide +kernel
theorem dX1_readThrusters_42 : decode cX1_readThrusters 42 = .ok (.iload_n 3, 1) := by decide +kernel
theorem dX1_readThrusters_43 : decode cX1_readThrusters 43 = .ok (.aload_n 1, 1) := by decide +kernel
theorem dX1_readThrusters_44 : decode cX1_readThrusters 44 = .ok (.iload_n 2, 1) := by decide +kernel
theorem dX1_readThrusters_45 : decode cX1_readThrusters 45 = .ok (.iload_n 3, 1) := by decide +kernel
theorem dX1_readThrusters_46 : decode cX1_readThrusters 46 = .ok (.invokevirtual 45, 3) := by decide +kernel
theorem dX1_readThrusters_49 : decode cX1_readThrusters 49 = .ok (.iastore, 1) := by decide +kernel
theorem dX1_readThrusters_50 : decode cX1_readThrusters 50 = .ok (.iinc 3 1, 3) := by decide +kernel
theorem dX1_readThrusters_53 : decode cX1_readThrusters 53 = .ok (.goto (-22), 3) := by decide +kernel
theorem dX1_readThrusters_56 : decode cX1_readThrusters 56 = .ok (.iinc 2 1, 3) := by decide +kernel
theorem dX1_readThrusters_59 : decode cX1_readThrusters 59 = .ok (.goto (-49), 3) := by decide +kernel
theorem dX1_readThrusters_62 : decode cX1_readThrusters 62 = .ok (.return_, 1) := by decide +kernel
theorem dX1_determinantOf_0 : decode cX1_determinantOf 0 = .ok (.aload_n 0, 1) := by decide +kernel
theorem dX1_determinantOf_1 : decode cX1_determinantOf 1 = .ok (.getfield 11, 3) := by decide +kernel
theorem dX1_determinantOf_4 : decode cX1_determinantOf 4 = .ok (.iload_n 1, 1) := by decide +kernel
theorem dX1_determinantOf_5 : decode cX1_determinantOf 5 = .ok (.aaload, 1) := by decide +kernel
theorem dX1_determinantOf_6 : decode cX1_determinantOf 6 = .ok (.astore 4, 2) := by decide +kernel
theorem dX1_determinantOf_8 : decode cX1_determinantOf 8 = .ok (.aload_n 0, 1) := by decide +kernel
theorem dX1_determinantOf_9 : decode cX1_determinantOf 9 = .ok (.getfield 11, 3) := by decide +kernel
theorem dX1_determinantOf_12 : decode cX1_determinantOf 12 = .ok (.iload_n 2, 1) := by decide +kernel
theorem dX1_determinantOf_13 : decode cX1_determinantOf 13 = .ok (.aaload, 1) := by decide +kernel
theorem dX1_determinantOf_14 : decode cX1_determinantOf 14 = .ok (.astore 5, 2) := by decide +kernel
theorem dX1_determinantOf_16 : decode cX1_determinantOf 16 = .ok (.aload_n 0, 1) := by decide +kernel
theorem dX1_determinantOf_17 : decode cX1_determinantOf 17 = .ok (.getfield 11, 3) := by decide +kernel
theorem dX1_determinantOf_20 : decode cX1_determinantOf 20 = .ok (.iload_n 3, 1) := by decide +kernel
theorem dX1_determinantOf_21 : decode cX1_determinantOf 21 = .ok (.aaload, 1) := by decide +kernel
theorem dX1_determinantOf_22 : decode cX1_determinantOf 22 = .ok (.astore 6, 2) := by decide +kernel
theorem dX1_determinantOf_24 : decode cX1_determinantOf 24 = .ok (.aload 5, 2) := by decide +kernel
theorem dX1_determinantOf_26 : decode cX1_determinantOf 26 = .ok (.iconst 1, 1) := by decide +kernel
theorem dX1_determinantOf_27 : decode cX1_determinantOf 27 = .ok (.iaload, 1) := by decide +kernel
theorem dX1_determinantOf_28 : decode cX1_determinantOf 28 = .ok (.i2l, 1) := by decide +kernel
theorem dX1_determinantOf_29 : decode cX1_determinantOf 29 = .ok (.aload 6, 2) := by decide +kernel
theorem dX1_determinantOf_31 : decode cX1_determinantOf 31 = .ok (.iconst 2, 1) := by decide +kernel
theorem dX1_determinantOf_32 : decode cX1_determinantOf 32 = .ok (.iaload, 1) := by decide +kernel
theorem dX1_determinantOf_33 : decode cX1_determinantOf 33 = .ok (.i2l, 1) := by decide +kernel
theorem dX1_determinantOf_34 : decode cX1_determinantOf 34 = .ok (.lmul, 1) := by decide +kernel
theorem dX1_determinantOf_35 : decode cX1_determinantOf 35 = .ok (.aload 5, 2) := by decide +kernel
theorem dX1_determinantOf_37 : decode cX1_determinantOf 37 = .ok (.iconst 2, 1) := by decide +kernel
theorem dX1_determinantOf_38 : decode cX1_determinantOf 38 = .ok (.iaload, 1) := by decide +kernel
theorem dX1_determinantOf_39 : decode cX1_determinantOf 39 = .ok (.i2l, 1) := by decide +kernel
theorem dX1_determinantOf_40 : decode cX1_determinantOf 40 = .ok (.aload 6, 2) := by decide +kernel
theorem dX1_determinantOf_42 : decode cX1_determinantOf 42 = .ok (.iconst 1, 1) := by decide +kernel
theorem dX1_determinantOf_43 : decode cX1_determinantOf 43 = .ok (.iaload, 1) := by decide +kernel
theorem dX1_determinantOf_44 : decode cX1_determinantOf 44 = .ok (.i2l, 1) := by decide +kernel
theorem dX1_determinantOf_45 : decode cX1_determinantOf 45 = .ok (.lmul, 1) := by decide +kernel
theorem dX1_determinantOf_46 : decode cX1_determinantOf 46 = .ok (.lsub, 1) := by decide +kernel
theorem dX1_determinantOf_47 : decode cX1_determinantOf 47 = .ok (.lstore 7, 2) := by decide +kernel
theorem dX1_determinantOf_49 : decode cX1_determinantOf 49 = .ok (.aload 5, 2) := by decide +kernel
theorem dX1_determinantOf_51 : decode cX1_determinantOf 51 = .ok (.iconst 0, 1) := by decide +kernel
theorem dX1_determinantOf_52 : decode cX1_determinantOf 52 = .ok (.iaload, 1) := by decide +kernel
theorem dX1_determinantOf_53 : decode cX1_determinantOf 53 = .ok (.i2l, 1) := by decide +kernel
theorem dX1_determinantOf_54 : decode cX1_determinantOf 54 = .ok (.aload 6, 2) := by decide +kernel
theorem dX1_determinantOf_56 : decode cX1_determinantOf 56 = .ok (.iconst 2, 1) := by decide +kernel
theorem dX1_determinantOf_57 : decode cX1_determinantOf 57 = .ok (.iaload, 1) := by decide +kernel
theorem dX1_determinantOf_58 : decode cX1_determinantOf 58 = .ok (.i2l, 1) := by decide +kernel
theorem dX1_determinantOf_59 : decode cX1_determinantOf 59 = .ok (.lmul, 1) := by decide +kernel
theorem dX1_determinantOf_60 : decode cX1_determinantOf 60 = .ok (.aload 5, 2) := by decide +kernel
theorem dX1_determinantOf_62 : decode cX1_determinantOf 62 = .ok (.iconst 2, 1) := by decide +kernel
theorem dX1_determinantOf_63 : decode cX1_determinantOf 63 = .ok (.iaload, 1) := by decide +kernel
theorem dX1_determinantOf_64 : decode cX1_determinantOf 64 = .ok (.i2l, 1) := by decide +kernel
theorem dX1_determinantOf_65 : decode cX1_determinantOf 65 = .ok (.aload 6, 2) := by decide +kernel
theorem dX1_determinantOf_67 : decode cX1_determinantOf 67 = .ok (.iconst 0, 1) := by decide +kernel
theorem dX1_determinantOf_68 : decode cX1_determinantOf 68 = .ok (.iaload, 1) := by decide +kernel
theorem dX1_determinantOf_69 : decode cX1_determinantOf 69 = .ok (.i2l, 1) := by decide +kernel
theorem dX1_determinantOf_70 : decode cX1_determinantOf 70 = .ok (.lmul, 1) := by decide +kernel
theorem dX1_determinantOf_71 : decode cX1_determinantOf 71 = .ok (.lsub, 1) := by decide +kernel
theorem dX1_determinantOf_72 : decode cX1_determinantOf 72 = .ok (.lstore 9, 2) := by decide +kernel
theorem dX1_determinantOf_74 : decode cX1_determinantOf 74 = .ok (.aload 5, 2) := by decide +kernel
theorem dX1_determinantOf_76 : decode cX1_determinantOf 76 = .ok (.iconst 0, 1) := by decide +kernel
theorem dX1_determinantOf_77 : decode cX1_determinantOf 77 = .ok (.iaload, 1) := by decide +kernel
theorem dX1_determinantOf_78 : decode cX1_determinantOf 78 = .ok (.i2l, 1) := by decide +kernel
theorem dX1_determinantOf_79 : decode cX1_determinantOf 79 = .ok (.aload 6, 2) := by decide +kernel
theorem dX1_determinantOf_81 : decode cX1_determinantOf 81 = .ok (.iconst 1, 1) := by decide +kernel
theorem dX1_determinantOf_82 : decode cX1_determinantOf 82 = .ok (.iaload, 1) := by decide +kernel
theorem dX1_determinantOf_83 : decode cX1_determinantOf 83 = .ok (.i2l, 1) := by decide +kernel
theorem dX1_determinantOf_84 : decode cX1_determinantOf 84 = .ok (.lmul, 1) := by decide +kernel
theorem dX1_determinantOf_85 : decode cX1_determinantOf 85 = .ok (.aload 5, 2) := by decide +kernel
theorem dX1_determinantOf_87 : decode cX1_determinantOf 87 = .ok (.iconst 1, 1) := by decide +kernel
theorem dX1_determinantOf_88 : decode cX1_determinantOf 88 = .ok (.iaload, 1) := by decide +kernel
theorem dX1_determinantOf_89 : decode cX1_determinantOf 89 = .ok (.i2l, 1) := by decide +kernel
theorem dX1_determinantOf_90 : decode cX1_determinantOf 90 = .ok (.aload 6, 2) := by decide +kernel
theorem dX1_determinantOf_92 : decode cX1_determinantOf 92 = .ok (.iconst 0, 1) := by decide +kernel
theorem dX1_determinantOf_93 : decode cX1_determinantOf 93 = .ok (.iaload, 1) := by decide +kernel
theorem dX1_determinantOf_94 : decode cX1_determinantOf 94 = .ok (.i2l, 1) := by decide +kernel
theorem dX1_determinantOf_95 : decode cX1_determinantOf 95 = .ok (.lmul, 1) := by decide +kernel
theorem dX1_determinantOf_96 : decode cX1_determinantOf 96 = .ok (.lsub, 1) := by decide +kernel
theorem dX1_determinantOf_97 : decode cX1_determinantOf 97 = .ok (.lstore 11, 2) := by decide +kernel
theorem dX1_determinantOf_99 : decode cX1_determinantOf 99 = .ok (.aload 4, 2) := by decide +kernel
theorem dX1_determinantOf_101 : decode cX1_determinantOf 101 = .ok (.iconst 0, 1) := by decide +kernel
theorem dX1_determinantOf_102 : decode cX1_determinantOf 102 = .ok (.iaload, 1) := by decide +kernel
theorem dX1_determinantOf_103 : decode cX1_determinantOf 103 = .ok (.i2l, 1) := by decide +kernel
theorem dX1_determinantOf_104 : decode cX1_determinantOf 104 = .ok (.lload 7, 2) := by decide +kernel
theorem dX1_determinantOf_106 : decode cX1_determinantOf 106 = .ok (.lmul, 1) := by decide +kernel
theorem dX1_determinantOf_107 : decode cX1_determinantOf 107 = .ok (.aload 4, 2) := by decide +kernel
theorem dX1_determinantOf_109 : decode cX1_determinantOf 109 = .ok (.iconst 1, 1) := by decide +kernel
theorem dX1_determinantOf_110 : decode cX1_determinantOf 110 = .ok (.iaload, 1) := by decide +kernel
theorem dX1_determinantOf_111 : decode cX1_determinantOf 111 = .ok (.i2l, 1) := by decide +kernel
theorem dX1_determinantOf_112 : decode cX1_determinantOf 112 = .ok (.lload 9, 2) := by decide +kernel
theorem dX1_determinantOf_114 : decode cX1_determinantOf 114 = .ok (.lmul, 1) := by decide +kernel
theorem dX1_determinantOf_115 : decode cX1_determinantOf 115 = .ok (.lsub, 1) := by decide +kernel
theorem dX1_determinantOf_116 : decode cX1_determinantOf 116 = .ok (.aload 4, 2) := by decide +kernel
theorem dX1_determinantOf_118 : decode cX1_determinantOf 118 = .ok (.iconst 2, 1) := by decide +kernel
theorem dX1_determinantOf_119 : decode cX1_determinantOf 119 = .ok (.iaload, 1) := by decide +kernel
theorem dX1_determinantOf_120 : decode cX1_determinantOf 120 = .ok (.i2l, 1) := by decide +kernel
theorem dX1_determinantOf_121 : decode cX1_determinantOf 121 = .ok (.lload 11, 2) := by decide +kernel
theorem dX1_determinantOf_123 : decode cX1_determinantOf 123 = .ok (.lmul, 1) := by decide +kernel
theorem dX1_determinantOf_124 : decode cX1_determinantOf 124 = .ok (.ladd, 1) := by decide +kernel
theorem dX1_determinantOf_125 : decode cX1_determinantOf 125 = .ok (.lreturn, 1) := by decide +kernel
theorem dX1_find_0 : decode cX1_find 0 = .ok (.aload_n 0, 1) := by decide +kernel
theorem dX1_find_1 : decode cX1_find 1 = .ok (.invokevirtual 49, 3) := by decide +kernel
theorem dX1_find_4 : decode cX1_find 4 = .ok (.iload_n 2, 1) := by decide +kernel
theorem dX1_find_5 : decode cX1_find 5 = .ok (.ifCond .ne 18, 3) := by decide +kernel
theorem dX1_find_8 : decode cX1_find 8 = .ok (.iload_n 3, 1) := by decide +kernel
theorem dX1_find_9 : decode cX1_find 9 = .ok (.ifCond .ne 14, 3) := by decide +kernel
theorem dX1_find_12 : decode cX1_find 12 = .ok (.iload 4, 2) := by decide +kernel
theorem dX1_find_14 : decode cX1_find 14 = .ok (.ifCond .ne 9, 3) := by decide +kernel
theorem dX1_find_17 : decode cX1_find 17 = .ok (.aload_n 0, 1) := by decide +kernel
theorem dX1_find_18 : decode cX1_find 18 = .ok (.iconst 1, 1) := by decide +kernel
theorem dX1_find_19 : decode cX1_find 19 = .ok (.putfield 52, 3) := by decide +kernel
theorem dX1_find_22 : decode cX1_find 22 = .ok (.return_, 1) := by decide +kernel
theorem dX1_find_23 : decode cX1_find 23 = .ok (.aload_n 0, 1) := by decide +kernel
theorem dX1_find_24 : decode cX1_find 24 = .ok (.aload_n 1, 1) := by decide +kernel
theorem dX1_find_25 : decode cX1_find 25 = .ok (.invokevirtual 56, 3) := by decide +kernel
theorem dX1_find_28 : decode cX1_find 28 = .ok (.aload_n 0, 1) := by decide +kernel
theorem dX1_find_29 : decode cX1_find 29 = .ok (.getfield 11, 3) := by decide +kernel
theorem dX1_find_32 : decode cX1_find 32 = .ok (.bipush 8, 2) := by decide +kernel
theorem dX1_find_34 : decode cX1_find 34 = .ok (.aaload, 1) := by decide +kernel
theorem dX1_find_35 : decode cX1_find 35 = .ok (.iconst 0, 1) := by decide +kernel
theorem dX1_find_36 : decode cX1_find 36 = .ok (.iload_n 2, 1) := by decide +kernel
theorem dX1_find_37 : decode cX1_find 37 = .ok (.iastore, 1) := by decide +kernel
theorem dX1_find_38 : decode cX1_find 38 = .ok (.aload_n 0, 1) := by decide +kernel
theorem dX1_find_39 : decode cX1_find 39 = .ok (.getfield 11, 3) := by decide +kernel
theorem dX1_find_42 : decode cX1_find 42 = .ok (.bipush 8, 2) := by decide +kernel
theorem dX1_find_44 : decode cX1_find 44 = .ok (.aaload, 1) := by decide +kernel
theorem dX1_find_45 : decode cX1_find 45 = .ok (.iconst 1, 1) := by decide +kernel
theorem dX1_find_46 : decode cX1_find 46 = .ok (.iload_n 3, 1) := by decide +kernel
theorem dX1_find_47 : decode cX1_find 47 = .ok (.iastore, 1) := by decide +kernel
theorem dX1_find_48 : decode cX1_find 48 = .ok (.aload_n 0, 1) := by decide +kernel
theorem dX1_find_49 : decode cX1_find 49 = .ok (.getfield 11, 3) := by decide +kernel
theorem dX1_find_52 : decode cX1_find 52 = .ok (.bipush 8, 2) := by decide +kernel
theorem dX1_find_54 : decode cX1_find 54 = .ok (.aaload, 1) := by decide +kernel
theorem dX1_find_55 : decode cX1_find 55 = .ok (.iconst 2, 1) := by decide +kernel
theorem dX1_find_56 : decode cX1_find 56 = .ok (.iload 4, 2) := by decide +kernel
theorem dX1_find_58 : decode cX1_find 58 = .ok (.iastore, 1) := by decide +kernel
theorem dX1_find_59 : decode cX1_find 59 = .ok (.iconst 0, 1) := by decide +kernel
theorem dX1_find_60 : decode cX1_find 60 = .ok (.istore 5, 2) := by decide +kernel
theorem dX1_find_62 : decode cX1_find 62 = .ok (.iload 5, 2) := by decide +kernel
theorem dX1_find_64 : decode cX1_find 64 = .ok (.aload_n 1, 1) := by decide +kernel
theorem dX1_find_65 : decode cX1_find 65 = .ok (.getfield 38, 3) := by decide +kernel
theorem dX1_find_68 : decode cX1_find 68 = .ok (.if_icmp .ge 89, 3) := by decide +kernel
theorem dX1_find_71 : decode cX1_find 71 = .ok (.iload 5, 2) := by decide +kernel
theorem dX1_find_73 : decode cX1_find 73 = .ok (.iconst 1, 1) := by decide +kernel
theorem dX1_find_74 : decode cX1_find 74 = .ok (.iadd, 1) := by decide +kernel
theorem dX1_find_75 : decode cX1_find 75 = .ok (.istore 6, 2) := by decide +kernel
theorem dX1_find_77 : decode cX1_find 77 = .ok (.iload 6, 2) := by decide +kernel
theorem dX1_find_79 : decode cX1_find 79 = .ok (.aload_n 1, 1) := by decide +kernel
theorem dX1_find_80 : decode cX1_find 80 = .ok (.getfield 38, 3) := by decide +kernel
theorem dX1_find_83 : decode cX1_find 83 = .ok (.if_icmp .ge 68, 3) := by decide +kernel
theorem dX1_find_86 : decode cX1_find 86 = .ok (.iload 6, 2) := by decide +kernel
theorem dX1_find_88 : decode cX1_find 88 = .ok (.iconst 1, 1) := by decide +kernel
theorem dX1_find_89 : decode cX1_find 89 = .ok (.iadd, 1) := by decide +kernel
theorem dX1_find_90 : decode cX1_find 90 = .ok (.istore 7, 2) := by decide +kernel
theorem dX1_find_92 : decode cX1_find 92 = .ok (.iload 7, 2) := by decide +kernel
theorem dX1_find_94 : decode cX1_find 94 = .ok (.aload_n 1, 1) := by decide +kernel
theorem dX1_find_95 : decode cX1_find 95 = .ok (.getfield 38, 3) := by decide +kernel
theorem dX1_find_98 : decode cX1_find 98 = .ok (.if_icmp .ge 47, 3) := by decide +kernel
theorem dX1_find_101 : decode cX1_find 101 = .ok (.aload_n 1, 1) := by decide +kernel
theorem dX1_find_102 : decode cX1_find 102 = .ok (.iload 5, 2) := by decide +kernel
theorem dX1_find_104 : decode cX1_find 104 = .ok (.invokevirtual 60, 3) := by decide +kernel
theorem dX1_find_107 : decode cX1_find 107 = .ok (.ifCond .eq 32, 3) := by decide +kernel
theorem dX1_find_110 : decode cX1_find 110 = .ok (.aload_n 1, 1) := by decide +kernel
theorem dX1_find_111 : decode cX1_find 111 = .ok (.iload 6, 2) := by decide +kernel
theorem dX1_find_113 : decode cX1_find 113 = .ok (.invokevirtual 60, 3) := by decide +kernel
theorem dX1_find_116 : decode cX1_find 116 = .ok (.ifCond .eq 23, 3) := by decide +kernel
theorem dX1_find_119 : decode cX1_find 119 = .ok (.aload_n 1, 1) := by decide +kernel
theorem dX1_find_120 : decode cX1_find 120 = .ok (.iload 7, 2) := by decide +kernel
theorem dX1_find_122 : decode cX1_find 122 = .ok (.invokevirtual 60, 3) := by decide +kernel
theorem dX1_find_125 : decode cX1_find 125 = .ok (.ifCond .eq 14, 3) := by decide +kernel
theorem dX1_find_128 : decode cX1_find 128 = .ok (.aload_n 0, 1) := by decide +kernel
theorem dX1_find_129 : decode cX1_find 129 = .ok (.aload_n 1, 1) := by decide +kernel
theorem dX1_find_130 : decode cX1_find 130 = .ok (.iload 5, 2) := by decide +kernel
theorem dX1_find_132 : decode cX1_find 132 = .ok (.iload 6, 2) := by decide +kernel
theorem dX1_find_134 : decode cX1_find 134 = .ok (.iload 7, 2) := by decide +kernel
theorem dX1_find_136 : decode cX1_find 136 = .ok (.invokevirtual 64, 3) := by decide +kernel
theorem dX1_find_139 : decode cX1_find 139 = .ok (.iinc 7 1, 3) := by decide +kernel
theorem dX1_find_142 : decode cX1_find 142 = .ok (.goto (-50), 3) := by decide +kernel
theorem dX1_find_145 : decode cX1_find 145 = .ok (.iinc 6 1, 3) := by decide +kernel
theorem dX1_find_148 : decode cX1_find 148 = .ok (.goto (-71), 3) := by decide +kernel
theorem dX1_find_151 : decode cX1_find 151 = .ok (.iinc 5 1, 3) := by decide +kernel
theorem dX1_find_154 : decode cX1_find 154 = .ok (.goto (-92), 3) := by decide +kernel
theorem dX1_find_157 : decode cX1_find 157 = .ok (.return_, 1) := by decide +kernel
theorem dX1_clear_0 : decode cX1_clear 0 = .ok (.aload_n 0, 1) := by decide +kernel
theorem dX1_clear_1 : decode cX1_clear 1 = .ok (.iconst 0, 1) := by decide +kernel
theorem dX1_clear_2 : decode cX1_clear 2 = .ok (.putfield 52, 3) := by decide +kernel
theorem dX1_clear_5 : decode cX1_clear 5 = .ok (.aload_n 0, 1) := by decide +kernel
theorem dX1_clear_6 : decode cX1_clear 6 = .ok (.iconst 0, 1) := by decide +kernel
theorem dX1_clear_7 : decode cX1_clear 7 = .ok (.putfield 68, 3) := by decide +kernel
theorem dX1_clear_10 : decode cX1_clear 10 = .ok (.aload_n 0, 1) := by decide +kernel
theorem dX1_clear_11 : decode cX1_clear 11 = .ok (.lconst 0, 1) := by decide +kernel
theorem dX1_clear_12 : decode cX1_clear 12 = .ok (.putfield 71, 3) := by decide +kernel
theorem dX1_clear_15 : decode cX1_clear 15 = .ok (.aload_n 0, 1) := by decide +kernel
theorem dX1_clear_16 : decode cX1_clear 16 = .ok (.lconst 1, 1) := by decide +kernel
theorem dX1_clear_17 : decode cX1_clear 17 = .ok (.putfield 24, 3) := by decide +kernel
theorem dX1_clear_20 : decode cX1_clear 20 = .ok (.aload_n 0, 1) := by decide +kernel
theorem dX1_clear_21 : decode cX1_clear 21 = .ok (.getfield 20, 3) := by decide +kernel
theorem dX1_clear_24 : decode cX1_clear 24 = .ok (.lconst 0, 1) := by decide +kernel
theorem dX1_clear_25 : decode cX1_clear 25 = .ok (.invokestatic 74, 3) := by decide +kernel
theorem dX1_clear_28 : decode cX1_clear 28 = .ok (.return_, 1) := by decide +kernel
theorem dX1_consider_0 : decode cX1_consider 0 = .ok (.aload_n 0, 1) := by decide +kernel
theorem dX1_consider_1 : decode cX1_consider 1 = .ok (.iload_n 2, 1) := by decide +kernel
theorem dX1_consider_2 : decode cX1_consider 2 = .ok (.iload_n 3, 1) := by decide +kernel
theorem dX1_consider_3 : decode cX1_consider 3 = .ok (.iload 4, 2) := by decide +kernel
theorem dX1_consider_5 : decode cX1_consider 5 = .ok (.invokevirtual 80, 3) := by decide +kernel
theorem dX1_consider_8 : decode cX1_consider 8 = .ok (.lstore 5, 2) := by decide +kernel
theorem dX1_consider_10 : decode cX1_consider 10 = .ok (.lload 5, 2) := by decide +kernel
theorem dX1_consider_12 : decode cX1_consider 12 = .ok (.lconst 0, 1) := by decide +kernel
theorem dX1_consider_13 : decode cX1_consider 13 = .ok (.lcmp, 1) := by decide +kernel
theorem dX1_consider_14 : decode cX1_consider 14 = .ok (.ifCond .ne 4, 3) := by decide +kernel
theorem dX1_consider_17 : decode cX1_consider 17 = .ok (.return_, 1) := by decide +kernel
theorem dX1_consider_18 : decode cX1_consider 18 = .ok (.lload 5, 2) := by decide +kernel
theorem dX1_consider_20 : decode cX1_consider 20 = .ok (.lconst 0, 1) := by decide +kernel
theorem dX1_consider_21 : decode cX1_consider 21 = .ok (.lcmp, 1) := by decide +kernel
theorem dX1_consider_22 : decode cX1_consider 22 = .ok (.ifCond .ge 7, 3) := by decide +kernel
theorem dX1_consider_25 : decode cX1_consider 25 = .ok (.iconst (-1), 1) := by decide +kernel
theorem dX1_consider_26 : decode cX1_consider 26 = .ok (.goto 4, 3) := by decide +kernel
theorem dX1_consider_29 : decode cX1_consider 29 = .ok (.iconst 1, 1) := by decide +kernel
theorem dX1_consider_30 : decode cX1_consider 30 = .ok (.istore 7, 2) := by decide +kernel
theorem dX1_consider_32 : decode cX1_consider 32 = .ok (.lload 5, 2) := by decide +kernel
theorem dX1_consider_34 : decode cX1_consider 34 = .ok (.iload 7, 2) := by decide +kernel
theorem dX1_consider_36 : decode cX1_consider 36 = .ok (.i2l, 1) := by decide +kernel
theorem dX1_consider_37 : decode cX1_consider 37 = .ok (.lmul, 1) := by decide +kernel
theorem dX1_consider_38 : decode cX1_consider 38 = .ok (.lstore 5, 2) := by decide +kernel
theorem dX1_consider_40 : decode cX1_consider 40 = .ok (.iload 7, 2) := by decide +kernel
theorem dX1_consider_42 : decode cX1_consider 42 = .ok (.i2l, 1) := by decide +kernel
theorem dX1_consider_43 : decode cX1_consider 43 = .ok (.aload_n 0, 1) := by decide +kernel
theorem dX1_consider_44 : decode cX1_consider 44 = .ok (.bipush 8, 2) := by decide +kernel
theorem dX1_consider_46 : decode cX1_consider 46 = .ok (.iload_n 3, 1) := by decide +kernel
theorem dX1_consider_47 : decode cX1_consider 47 = .ok (.iload 4, 2) := by decide +kernel
theorem dX1_consider_49 : decode cX1_consider 49 = .ok (.invokevirtual 80, 3) := by decide +kernel
theorem dX1_consider_52 : decode cX1_consider 52 = .ok (.lmul, 1) := by decide +kernel
theorem dX1_consider_53 : decode cX1_consider 53 = .ok (.lstore 8, 2) := by decide +kernel
theorem dX1_consider_55 : decode cX1_consider 55 = .ok (.iload 7, 2) := by decide +kernel
theorem dX1_consider_57 : decode cX1_consider 57 = .ok (.i2l, 1) := by decide +kernel
theorem dX1_consider_58 : decode cX1_consider 58 = .ok (.aload_n 0, 1) := by decide +kernel
theorem dX1_consider_59 : decode cX1_consider 59 = .ok (.iload_n 2, 1) := by decide +kernel
theorem dX1_consider_60 : decode cX1_consider 60 = .ok (.bipush 8, 2) := by decide +kernel
theorem dX1_consider_62 : decode cX1_consider 62 = .ok (.iload 4, 2) := by decide +kernel
theorem dX1_consider_64 : decode cX1_consider 64 = .ok (.invokevirtual 80, 3) := by decide +kernel
theorem dX1_consider_67 : decode cX1_consider 67 = .ok (.lmul, 1) := by decide +kernel
theorem dX1_consider_68 : decode cX1_consider 68 = .ok (.lstore 10, 2) := by decide +kernel
theorem dX1_consider_70 : decode cX1_consider 70 = .ok (.iload 7, 2) := by decide +kernel
theorem dX1_consider_72 : decode cX1_consider 72 = .ok (.i2l, 1) := by decide +kernel
theorem dX1_consider_73 : decode cX1_consider 73 = .ok (.aload_n 0, 1) := by decide +kernel
theorem dX1_consider_74 : decode cX1_consider 74 = .ok (.iload_n 2, 1) := by decide +kernel
theorem dX1_consider_75 : decode cX1_consider 75 = .ok (.iload_n 3, 1) := by decide +kernel
theorem dX1_consider_76 : decode cX1_consider 76 = .ok (.bipush 8, 2) := by decide +kernel
theorem dX1_consider_78 : decode cX1_consider 78 = .ok (.invokevirtual 80, 3) := by decide +kernel
theorem dX1_consider_81 : decode cX1_consider 81 = .ok (.lmul, 1) := by decide +kernel
theorem dX1_consider_82 : decode cX1_consider 82 = .ok (.lstore 12, 2) := by decide +kernel
theorem dX1_consider_84 : decode cX1_consider 84 = .ok (.lload 8, 2) := by decide +kernel
theorem dX1_consider_86 : decode cX1_consider 86 = .ok (.lload 5, 2) := by decide +kernel
theorem dX1_consider_88 : decode cX1_consider 88 = .ok (.invokestatic 84, 3) := by decide +kernel
theorem dX1_consider_91 : decode cX1_consider 91 = .ok (.ifCond .eq 23, 3) := by decide +kernel
theorem dX1_consider_94 : decode cX1_consider 94 = .ok (.lload 10, 2) := by decide +kernel
theorem dX1_consider_96 : decode cX1_consider 96 = .ok (.lload 5, 2) := by decide +kernel
theorem dX1_consider_98 : decode cX1_consider 98 = .ok (.invokestatic 84, 3) := by decide +kernel
theorem dX1_consider_101 : decode cX1_consider 101 = .ok (.ifCond .eq 13, 3) := by decide +kernel
theorem dX1_consider_104 : decode cX1_consider 104 = .ok (.lload 12, 2) := by decide +kernel
theorem dX1_consider_106 : decode cX1_consider 106 = .ok (.lload 5, 2) := by decide +kernel
theorem dX1_consider_108 : decode cX1_consider 108 = .ok (.invokestatic 84, 3) := by decide +kernel
theorem dX1_consider_111 : decode cX1_consider 111 = .ok (.ifCond .ne 4, 3) := by decide +kernel
theorem dX1_consider_114 : decode cX1_consider 114 = .ok (.return_, 1) := by decide +kernel
theorem dX1_consider_115 : decode cX1_consider 115 = .ok (.lload 8, 2) := by decide +kernel
theorem dX1_consider_117 : decode cX1_consider 117 = .ok (.lconst 0, 1) := by decide +kernel
theorem dX1_consider_118 : decode cX1_consider 118 = .ok (.lcmp, 1) := by decide +kernel
theorem dX1_consider_119 : decode cX1_consider 119 = .ok (.ifCond .le 7, 3) := by decide +kernel
theorem dX1_consider_122 : decode cX1_consider 122 = .ok (.iconst 1, 1) := by decide +kernel
theorem dX1_consider_123 : decode cX1_consider 123 = .ok (.goto 4, 3) := by decide +kernel
theorem dX1_consider_126 : decode cX1_consider 126 = .ok (.iconst 0, 1) := by decide +kernel
theorem dX1_consider_127 : decode cX1_consider 127 = .ok (.iload_n 2, 1) := by decide +kernel
theorem dX1_consider_128 : decode cX1_consider 128 = .ok (.invokestatic 88, 3) := by decide +kernel
theorem dX1_consider_131 : decode cX1_consider 131 = .ok (.lload 10, 2) := by decide +kernel
theorem dX1_consider_133 : decode cX1_consider 133 = .ok (.lconst 0, 1) := by decide +kernel
theorem dX1_consider_134 : decode cX1_consider 134 = .ok (.lcmp, 1) := by decide +kernel
theorem dX1_consider_135 : decode cX1_consider 135 = .ok (.ifCond .le 7, 3) := by decide +kernel
theorem dX1_consider_138 : decode cX1_consider 138 = .ok (.iconst 1, 1) := by decide +kernel
theorem dX1_consider_139 : decode cX1_consider 139 = .ok (.goto 4, 3) := by decide +kernel
theorem dX1_consider_142 : decode cX1_consider 142 = .ok (.iconst 0, 1) := by decide +kernel
theorem dX1_consider_143 : decode cX1_consider 143 = .ok (.iload_n 3, 1) := by decide +kernel
theorem dX1_consider_144 : decode cX1_consider 144 = .ok (.invokestatic 88, 3) := by decide +kernel
theorem dX1_consider_147 : decode cX1_consider 147 = .ok (.ior, 1) := by decide +kernel
theorem dX1_consider_148 : decode cX1_consider 148 = .ok (.lload 12, 2) := by decide +kernel
theorem dX1_consider_150 : decode cX1_consider 150 = .ok (.lconst 0, 1) := by decide +kernel
theorem dX1_consider_151 : decode cX1_consider 151 = .ok (.lcmp, 1) := by decide +kernel
theorem dX1_consider_152 : decode cX1_consider 152 = .ok (.ifCond .le 7, 3) := by decide +kernel
theorem dX1_consider_155 : decode cX1_consider 155 = .ok (.iconst 1, 1) := by decide +kernel
theorem dX1_consider_156 : decode cX1_consider 156 = .ok (.goto 4, 3) := by decide +kernel
theorem dX1_consider_159 : decode cX1_consider 159 = .ok (.iconst 0, 1) := by decide +kernel
theorem dX1_consider_160 : decode cX1_consider 160 = .ok (.iload 4, 2) := by decide +kernel
theorem dX1_consider_162 : decode cX1_consider 162 = .ok (.invokestatic 88, 3) := by decide +kernel
theorem dX1_consider_165 : decode cX1_consider 165 = .ok (.ior, 1) := by decide +kernel
theorem dX1_consider_166 : decode cX1_consider 166 = .ok (.istore 14, 2) := by decide +kernel
theorem dX1_consider_168 : decode cX1_consider 168 = .ok (.aload_n 1, 1) := by decide +kernel
theorem dX1_consider_169 : decode cX1_consider 169 = .ok (.iload 14, 2) := by decide +kernel
theorem dX1_consider_171 : decode cX1_consider 171 = .ok (.aload_n 0, 1) := by decide +kernel
theorem dX1_consider_172 : decode cX1_consider 172 = .ok (.getfield 34, 3) := by decide +kernel
theorem dX1_consider_175 : decode cX1_consider 175 = .ok (.ior, 1) := by decide +kernel
theorem dX1_consider_176 : decode cX1_consider 176 = .ok (.invokevirtual 92, 3) := by decide +kernel
theorem dX1_consider_179 : decode cX1_consider 179 = .ok (.ifCond .eq 4, 3) := by decide +kernel
theorem dX1_consider_182 : decode cX1_consider 182 = .ok (.return_, 1) := by decide +kernel
theorem dX1_consider_183 : decode cX1_consider 183 = .ok (.lload 8, 2) := by decide +kernel
theorem dX1_consider_185 : decode cX1_consider 185 = .ok (.aload_n 0, 1) := by decide +kernel
theorem dX1_consider_186 : decode cX1_consider 186 = .ok (.getfield 16, 3) := by decide +kernel
theorem dX1_consider_189 : decode cX1_consider 189 = .ok (.iload_n 2, 1) := by decide +kernel
theorem dX1_consider_190 : decode cX1_consider 190 = .ok (.iaload, 1) := by decide +kernel
theorem dX1_consider_191 : decode cX1_consider 191 = .ok (.i2l, 1) := by decide +kernel
theorem dX1_consider_192 : decode cX1_consider 192 = .ok (.lmul, 1) := by decide +kernel
theorem dX1_consider_193 : decode cX1_consider 193 = .ok (.lload 10, 2) := by decide +kernel
theorem dX1_consider_195 : decode cX1_consider 195 = .ok (.aload_n 0, 1) := by decide +kernel
theorem dX1_consider_196 : decode cX1_consider 196 = .ok (.getfield 16, 3) := by decide +kernel
theorem dX1_consider_199 : decode cX1_consider 199 = .ok (.iload_n 3, 1) := by decide +kernel
theorem dX1_consider_200 : decode cX1_consider 200 = .ok (.iaload, 1) := by decide +kernel
theorem dX1_consider_201 : decode cX1_consider 201 = .ok (.i2l, 1) := by decide +kernel
theorem dX1_consider_202 : decode cX1_consider 202 = .ok (.lmul, 1) := by decide +kernel
theorem dX1_consider_203 : decode cX1_consider 203 = .ok (.ladd, 1) := by decide +kernel
theorem dX1_consider_204 : decode cX1_consider 204 = .ok (.lload 12, 2) := by decide +kernel
theorem dX1_consider_206 : decode cX1_consider 206 = .ok (.aload_n 0, 1) := by decide +kernel
theorem dX1_consider_207 : decode cX1_consider 207 = .ok (.getfield 16, 3) := by decide +kernel
theorem dX1_consider_210 : decode cX1_consider 210 = .ok (.iload 4, 2) := by decide +kernel
theorem dX1_consider_212 : decode cX1_consider 212 = .ok (.iaload, 1) := by decide +kernel
theorem dX1_consider_213 : decode cX1_consider 213 = .ok (.i2l, 1) := by decide +kernel
theorem dX1_consider_214 : decode cX1_consider 214 = .ok (.lmul, 1) := by decide +kernel
theorem dX1_consider_215 : decode cX1_consider 215 = .ok (.ladd, 1) := by decide +kernel
theorem dX1_consider_216 : decode cX1_consider 216 = .ok (.lstore 15, 2) := by decide +kernel
theorem dX1_consider_218 : decode cX1_consider 218 = .ok (.aload_n 0, 1) := by decide +kernel
theorem dX1_consider_219 : decode cX1_consider 219 = .ok (.getfield 52, 3) := by decide +kernel
theorem dX1_consider_222 : decode cX1_consider 222 = .ok (.ifCond .eq 17, 3) := by decide +kernel
theorem dX1_consider_225 : decode cX1_consider 225 = .ok (.aload_n 0, 1) := by decide +kernel
theorem dX1_consider_226 : decode cX1_consider 226 = .ok (.lload 15, 2) := by decide +kernel
theorem dX1_consider_228 : decode cX1_consider 228 = .ok (.lload 5, 2) := by decide +kernel
theorem dX1_consider_230 : decode cX1_consider 230 = .ok (.iload 14, 2) := by decide +kernel
theorem dX1_consider_232 : decode cX1_consider 232 = .ok (.invokevirtual 95, 3) := by decide +kernel
theorem dX1_consider_235 : decode cX1_consider 235 = .ok (.ifCond .ne 4, 3) := by decide +kernel
theorem dX1_consider_238 : decode cX1_consider 238 = .ok (.return_, 1) := by decide +kernel
theorem dX1_consider_239 : decode cX1_consider 239 = .ok (.aload_n 0, 1) := by decide +kernel
theorem dX1_consider_240 : decode cX1_consider 240 = .ok (.invokevirtual 49, 3) := by decide +kernel
theorem dX1_consider_243 : decode cX1_consider 243 = .ok (.aload_n 0, 1) := by decide +kernel
theorem dX1_consider_244 : decode cX1_consider 244 = .ok (.iconst 1, 1) := by decide +kernel
theorem dX1_consider_245 : decode cX1_consider 245 = .ok (.putfield 52, 3) := by decide +kernel
theorem dX1_consider_248 : decode cX1_consider 248 = .ok (.aload_n 0, 1) := by decide +kernel
theorem dX1_consider_249 : decode cX1_consider 249 = .ok (.iload 14, 2) := by decide +kernel
theorem dX1_consider_251 : decode cX1_consider 251 = .ok (.putfield 68, 3) := by decide +kernel
theorem dX1_consider_254 : decode cX1_consider 254 = .ok (.aload_n 0, 1) := by decide +kernel
theorem dX1_consider_255 : decode cX1_consider 255 = .ok (.lload 15, 2) := by decide +kernel
theorem dX1_consider_257 : decode cX1_consider 257 = .ok (.putfield 71, 3) := by decide +kernel
theorem dX1_consider_260 : decode cX1_consider 260 = .ok (.aload_n 0, 1) := by decide +kernel
theorem dX1_consider_261 : decode cX1_consider 261 = .ok (.lload 5, 2) := by decide +kernel
theorem dX1_consider_263 : decode cX1_consider 263 = .ok (.putfield 24, 3) := by decide +kernel
theorem dX1_consider_266 : decode cX1_consider 266 = .ok (.aload_n 0, 1) := by decide +kernel
theorem dX1_consider_267 : decode cX1_consider 267 = .ok (.getfield 20, 3) := by decide +kernel
theorem dX1_consider_270 : decode cX1_consider 270 = .ok (.iload_n 2, 1) := by decide +kernel
theorem dX1_consider_271 : decode cX1_consider 271 = .ok (.lload 8, 2) := by decide +kernel
theorem dX1_consider_273 : decode cX1_consider 273 = .ok (.lastore, 1) := by decide +kernel
theorem dX1_consider_274 : decode cX1_consider 274 = .ok (.aload_n 0, 1) := by decide +kernel
theorem dX1_consider_275 : decode cX1_consider 275 = .ok (.getfield 20, 3) := by decide +kernel
theorem dX1_consider_278 : decode cX1_consider 278 = .ok (.iload_n 3, 1) := by decide +kernel
theorem dX1_consider_279 : decode cX1_consider 279 = .ok (.lload 10, 2) := by decide +kernel
theorem dX1_consider_281 : decode cX1_consider 281 = .ok (.lastore, 1) := by decide +kernel
theorem dX1_consider_282 : decode cX1_consider 282 = .ok (.aload_n 0, 1) := by decide +kernel
theorem dX1_consider_283 : decode cX1_consider 283 = .ok (.getfield 20, 3) := by decide +kernel
theorem dX1_consider_286 : decode cX1_consider 286 = .ok (.iload 4, 2) := by decide +kernel
theorem dX1_consider_288 : decode cX1_consider 288 = .ok (.lload 12, 2) := by decide +kernel
theorem dX1_consider_290 : decode cX1_consider 290 = .ok (.lastore, 1) := by decide +kernel
theorem dX1_consider_291 : decode cX1_consider 291 = .ok (.return_, 1) := by decide +kernel
theorem dX1_isPossible_0 : decode cX1_isPossible 0 = .ok (.lload_n 0, 1) := by decide +kernel
theorem dX1_isPossible_1 : decode cX1_isPossible 1 = .ok (.lconst 0, 1) := by decide +kernel
theorem dX1_isPossible_2 : decode cX1_isPossible 2 = .ok (.lcmp, 1) := by decide +kernel
theorem dX1_isPossible_3 : decode cX1_isPossible 3 = .ok (.ifCond .lt 17, 3) := by decide +kernel
theorem dX1_isPossible_6 : decode cX1_isPossible 6 = .ok (.lload_n 0, 1) := by decide +kernel
theorem dX1_isPossible_7 : decode cX1_isPossible 7 = .ok (.ldc2_w 99, 3) := by decide +kernel
theorem dX1_isPossible_10 : decode cX1_isPossible 10 = .ok (.lload_n 2, 1) := by decide +kernel
theorem dX1_isPossible_11 : decode cX1_isPossible 11 = .ok (.lmul, 1) := by decide +kernel
theorem dX1_isPossible_12 : decode cX1_isPossible 12 = .ok (.lcmp, 1) := by decide +kernel
theorem dX1_isPossible_13 : decode cX1_isPossible 13 = .ok (.ifCond .gt 7, 3) := by decide +kernel
theorem dX1_isPossible_16 : decode cX1_isPossible 16 = .ok (.iconst 1, 1) := by decide +kernel
theorem dX1_isPossible_17 : decode cX1_isPossible 17 = .ok (.goto 4, 3) := by decide +kernel
theorem dX1_isPossible_20 : decode cX1_isPossible 20 = .ok (.iconst 0, 1) := by decide +kernel
theorem dX1_isPossible_21 : decode cX1_isPossible 21 = .ok (.ireturn, 1) := by decide +kernel
theorem dX1_bitIf_0 : decode cX1_bitIf 0 = .ok (.iload_n 0, 1) := by decide +kernel
theorem dX1_bitIf_1 : decode cX1_bitIf 1 = .ok (.ifCond .eq 9, 3) := by decide +kernel
theorem dX1_bitIf_4 : decode cX1_bitIf 4 = .ok (.iconst 1, 1) := by decide +kernel
theorem dX1_bitIf_5 : decode cX1_bitIf 5 = .ok (.iload_n 1, 1) := by decide +kernel
theorem dX1_bitIf_6 : decode cX1_bitIf 6 = .ok (.ishl, 1) := by decide +kernel
theorem dX1_bitIf_7 : decode cX1_bitIf 7 = .ok (.goto 4, 3) := by decide +kernel
theorem dX1_bitIf_10 : decode cX1_bitIf 10 = .ok (.iconst 0, 1) := by decide +kernel
theorem dX1_bitIf_11 : decode cX1_bitIf 11 = .ok (.ireturn, 1) := by decide +kernel
theorem dX1_isBetter_0 : decode cX1_isBetter 0 = .ok (.aload_n 0, 1) := by decide +kernel
theorem dX1_isBetter_1 : decode cX1_isBetter 1 = .ok (.getfield 71, 3) := by decide +kernel
theorem dX1_isBetter_4 : decode cX1_isBetter 4 = .ok (.lload_n 3, 1) := by decide +kernel
theorem dX1_isBetter_5 : decode cX1_isBetter 5 = .ok (.lmul, 1) := by decide +kernel
theorem dX1_isBetter_6 : decode cX1_isBetter 6 = .ok (.lstore 6, 2) := by decide +kernel
theorem dX1_isBetter_8 : decode cX1_isBetter 8 = .ok (.lload_n 1, 1) := by decide +kernel
theorem dX1_isBetter_9 : decode cX1_isBetter 9 = .ok (.aload_n 0, 1) := by decide +kernel
theorem dX1_isBetter_10 : decode cX1_isBetter 10 = .ok (.getfield 24, 3) := by decide +kernel
theorem dX1_isBetter_13 : decode cX1_isBetter 13 = .ok (.lmul, 1) := by decide +kernel
theorem dX1_isBetter_14 : decode cX1_isBetter 14 = .ok (.lstore 8, 2) := by decide +kernel
theorem dX1_isBetter_16 : decode cX1_isBetter 16 = .ok (.lload 8, 2) := by decide +kernel
theorem dX1_isBetter_18 : decode cX1_isBetter 18 = .ok (.lload 6, 2) := by decide +kernel
theorem dX1_isBetter_20 : decode cX1_isBetter 20 = .ok (.lcmp, 1) := by decide +kernel
theorem dX1_isBetter_21 : decode cX1_isBetter 21 = .ok (.ifCond .lt 20, 3) := by decide +kernel
theorem dX1_isBetter_24 : decode cX1_isBetter 24 = .ok (.lload 8, 2) := by decide +kernel
theorem dX1_isBetter_26 : decode cX1_isBetter 26 = .ok (.lload 6, 2) := by decide +kernel
theorem dX1_isBetter_28 : decode cX1_isBetter 28 = .ok (.lcmp, 1) := by decide +kernel
theorem dX1_isBetter_29 : decode cX1_isBetter 29 = .ok (.ifCond .ne 16, 3) := by decide +kernel
theorem dX1_isBetter_32 : decode cX1_isBetter 32 = .ok (.iload 5, 2) := by decide +kernel
theorem dX1_isBetter_34 : decode cX1_isBetter 34 = .ok (.aload_n 0, 1) := by decide +kernel
theorem dX1_isBetter_35 : decode cX1_isBetter 35 = .ok (.getfield 68, 3) := by decide +kernel
theorem dX1_isBetter_38 : decode cX1_isBetter 38 = .ok (.if_icmp .ge 7, 3) := by decide +kernel
theorem dX1_isBetter_41 : decode cX1_isBetter 41 = .ok (.iconst 1, 1) := by decide +kernel
theorem dX1_isBetter_42 : decode cX1_isBetter 42 = .ok (.goto 4, 3) := by decide +kernel
theorem dX1_isBetter_45 : decode cX1_isBetter 45 = .ok (.iconst 0, 1) := by decide +kernel
theorem dX1_isBetter_46 : decode cX1_isBetter 46 = .ok (.ireturn, 1) := by decide +kernel
theorem dX1_pulseOf_0 : decode cX1_pulseOf 0 = .ok (.aload_n 0, 1) := by decide +kernel
theorem dX1_pulseOf_1 : decode cX1_pulseOf 1 = .ok (.getfield 20, 3) := by decide +kernel
theorem dX1_pulseOf_4 : decode cX1_pulseOf 4 = .ok (.iload_n 1, 1) := by decide +kernel
theorem dX1_pulseOf_5 : decode cX1_pulseOf 5 = .ok (.laload, 1) := by decide +kernel
theorem dX1_pulseOf_6 : decode cX1_pulseOf 6 = .ok (.lstore_n 3, 1) := by decide +kernel
theorem dX1_pulseOf_7 : decode cX1_pulseOf 7 = .ok (.lload_n 3, 1) := by decide +kernel
theorem dX1_pulseOf_8 : decode cX1_pulseOf 8 = .ok (.lconst 0, 1) := by decide +kernel
theorem dX1_pulseOf_9 : decode cX1_pulseOf 9 = .ok (.lcmp, 1) := by decide +kernel
theorem dX1_pulseOf_10 : decode cX1_pulseOf 10 = .ok (.ifCond .le 12, 3) := by decide +kernel
theorem dX1_pulseOf_13 : decode cX1_pulseOf 13 = .ok (.aload_n 0, 1) := by decide +kernel
theorem dX1_pulseOf_14 : decode cX1_pulseOf 14 = .ok (.getfield 24, 3) := by decide +kernel
theorem dX1_pulseOf_17 : decode cX1_pulseOf 17 = .ok (.lconst 0, 1) := by decide +kernel
theorem dX1_pulseOf_18 : decode cX1_pulseOf 18 = .ok (.lcmp, 1) := by decide +kernel
theorem dX1_pulseOf_19 : decode cX1_pulseOf 19 = .ok (.ifCond .gt 5, 3) := by decide +kernel
theorem dX1_pulseOf_22 : decode cX1_pulseOf 22 = .ok (.iconst 0, 1) := by decide +kernel
theorem dX1_pulseOf_23 : decode cX1_pulseOf 23 = .ok (.ireturn, 1) := by decide +kernel
theorem dX1_pulseOf_24 : decode cX1_pulseOf 24 = .ok (.ldc2_w 101, 3) := by decide +kernel
theorem dX1_pulseOf_27 : decode cX1_pulseOf 27 = .ok (.lload_n 3, 1) := by decide +kernel
theorem dX1_pulseOf_28 : decode cX1_pulseOf 28 = .ok (.lmul, 1) := by decide +kernel
theorem dX1_pulseOf_29 : decode cX1_pulseOf 29 = .ok (.aload_n 0, 1) := by decide +kernel
theorem dX1_pulseOf_30 : decode cX1_pulseOf 30 = .ok (.getfield 24, 3) := by decide +kernel
theorem dX1_pulseOf_33 : decode cX1_pulseOf 33 = .ok (.ladd, 1) := by decide +kernel
theorem dX1_pulseOf_34 : decode cX1_pulseOf 34 = .ok (.ldc2_w 101, 3) := by decide +kernel
theorem dX1_pulseOf_37 : decode cX1_pulseOf 37 = .ok (.aload_n 0, 1) := by decide +kernel
theorem dX1_pulseOf_38 : decode cX1_pulseOf 38 = .ok (.getfield 24, 3) := by decide +kernel
theorem dX1_pulseOf_41 : decode cX1_pulseOf 41 = .ok (.lmul, 1) := by decide +kernel
theorem dX1_pulseOf_42 : decode cX1_pulseOf 42 = .ok (.ldiv, 1) := by decide +kernel
theorem dX1_pulseOf_43 : decode cX1_pulseOf 43 = .ok (.l2i, 1) := by decide +kernel
theorem dX1_pulseOf_44 : decode cX1_pulseOf 44 = .ok (.istore 5, 2) := by decide +kernel
theorem dX1_pulseOf_46 : decode cX1_pulseOf 46 = .ok (.iload 5, 2) := by decide +kernel
theorem dX1_pulseOf_48 : decode cX1_pulseOf 48 = .ok (.iload_n 2, 1) := by decide +kernel
theorem dX1_pulseOf_49 : decode cX1_pulseOf 49 = .ok (.if_icmp .lt 6, 3) := by decide +kernel
theorem dX1_pulseOf_52 : decode cX1_pulseOf 52 = .ok (.iload 5, 2) := by decide +kernel
theorem dX1_pulseOf_54 : decode cX1_pulseOf 54 = .ok (.ireturn, 1) := by decide +kernel
theorem dX1_pulseOf_55 : decode cX1_pulseOf 55 = .ok (.ldc2_w 101, 3) := by decide +kernel
theorem dX1_pulseOf_58 : decode cX1_pulseOf 58 = .ok (.lload_n 3, 1) := by decide +kernel
theorem dX1_pulseOf_59 : decode cX1_pulseOf 59 = .ok (.lmul, 1) := by decide +kernel
theorem dX1_pulseOf_60 : decode cX1_pulseOf 60 = .ok (.iload_n 2, 1) := by decide +kernel
theorem dX1_pulseOf_61 : decode cX1_pulseOf 61 = .ok (.i2l, 1) := by decide +kernel
theorem dX1_pulseOf_62 : decode cX1_pulseOf 62 = .ok (.aload_n 0, 1) := by decide +kernel
theorem dX1_pulseOf_63 : decode cX1_pulseOf 63 = .ok (.getfield 24, 3) := by decide +kernel
theorem dX1_pulseOf_66 : decode cX1_pulseOf 66 = .ok (.lmul, 1) := by decide +kernel
theorem dX1_pulseOf_67 : decode cX1_pulseOf 67 = .ok (.lcmp, 1) := by decide +kernel
theorem dX1_pulseOf_68 : decode cX1_pulseOf 68 = .ok (.ifCond .lt 7, 3) := by decide +kernel
theorem dX1_pulseOf_71 : decode cX1_pulseOf 71 = .ok (.iload_n 2, 1) := by decide +kernel
theorem dX1_pulseOf_72 : decode cX1_pulseOf 72 = .ok (.goto 4, 3) := by decide +kernel
theorem dX1_pulseOf_75 : decode cX1_pulseOf 75 = .ok (.iconst 0, 1) := by decide +kernel
theorem dX1_pulseOf_76 : decode cX1_pulseOf 76 = .ok (.ireturn, 1) := by decide +kernel
theorem dX1_thousandths_0 : decode cX1_thousandths 0 = .ok (.aload_n 0, 1) := by decide +kernel
theorem dX1_thousandths_1 : decode cX1_thousandths 1 = .ok (.getfield 24, 3) := by decide +kernel
theorem dX1_thousandths_4 : decode cX1_thousandths 4 = .ok (.lconst 0, 1) := by decide +kernel
theorem dX1_thousandths_5 : decode cX1_thousandths 5 = .ok (.lcmp, 1) := by decide +kernel
theorem dX1_thousandths_6 : decode cX1_thousandths 6 = .ok (.ifCond .le 20, 3) := by decide +kernel
theorem dX1_thousandths_9 : decode cX1_thousandths 9 = .ok (.ldc2_w 103, 3) := by decide +kernel
theorem dX1_thousandths_12 : decode cX1_thousandths 12 = .ok (.aload_n 0, 1) := by decide +kernel
theorem dX1_thousandths_13 : decode cX1_thousandths 13 = .ok (.getfield 71, 3) := by decide +kernel
theorem dX1_thousandths_16 : decode cX1_thousandths 16 = .ok (.lmul, 1) := by decide +kernel
theorem dX1_thousandths_17 : decode cX1_thousandths 17 = .ok (.aload_n 0, 1) := by decide +kernel
theorem dX1_thousandths_18 : decode cX1_thousandths 18 = .ok (.getfield 24, 3) := by decide +kernel
theorem dX1_thousandths_21 : decode cX1_thousandths 21 = .ok (.ldiv, 1) := by decide +kernel
theorem dX1_thousandths_22 : decode cX1_thousandths 22 = .ok (.l2i, 1) := by decide +kernel
theorem dX1_thousandths_23 : decode cX1_thousandths 23 = .ok (.goto 4, 3) := by decide +kernel
theorem dX1_thousandths_26 : decode cX1_thousandths 26 = .ok (.iconst 0, 1) := by decide +kernel
theorem dX1_thousandths_27 : decode cX1_thousandths 27 = .ok (.ireturn, 1) := by decide +kernel
theorem dX2_init_0 : decode cX2_init 0 = .ok (.aload_n 0, 1) := by decide +kernel
theorem dX2_init_1 : decode cX2_init 1 = .ok (.invokespecial 3, 3) := by decide +kernel
theorem dX2_init_4 : decode cX2_init 4 = .ok (.aload_n 0, 1) := by decide +kernel
theorem dX2_init_5 : decode cX2_init 5 = .ok (.bipush 56, 2) := by decide +kernel
theorem dX2_init_7 : decode cX2_init 7 = .ok (.newarray .int, 2) := by decide +kernel
theorem dX2_init_9 : decode cX2_init 9 = .ok (.putfield 9, 3) := by decide +kernel
theorem dX2_init_12 : decode cX2_init 12 = .ok (.aload_n 0, 1) := by decide +kernel
theorem dX2_init_13 : decode cX2_init 13 = .ok (.bipush 8, 2) := by decide +kernel
theorem dX2_init_15 : decode cX2_init 15 = .ok (.newarray .int, 2) := by decide +kernel
theorem dX2_init_17 : decode cX2_init 17 = .ok (.putfield 15, 3) := by decide +kernel
theorem dX2_init_20 : decode cX2_init 20 = .ok (.aload_n 0, 1) := by decide +kernel
theorem dX2_init_21 : decode cX2_init 21 = .ok (.iconst 2, 1) := by decide +kernel
theorem dX2_init_22 : decode cX2_init 22 = .ok (.newarray .int, 2) := by decide +kernel
theorem dX2_init_24 : decode cX2_init 24 = .ok (.putfield 18, 3) := by decide +kernel
theorem dX2_init_27 : decode cX2_init 27 = .ok (.aload_n 0, 1) := by decide +kernel
theorem dX2_init_28 : decode cX2_init 28 = .ok (.bipush 8, 2) := by decide +kernel
theorem dX2_init_30 : decode cX2_init 30 = .ok (.newarray .int, 2) := by decide +kernel
theorem dX2_init_32 : decode cX2_init 32 = .ok (.putfield 21, 3) := by decide +kernel
theorem dX2_init_35 : decode cX2_init 35 = .ok (.aload_n 0, 1) := by decide +kernel
theorem dX2_init_36 : decode cX2_init 36 = .ok (.bipush 30, 2) := by decide +kernel
theorem dX2_init_38 : decode cX2_init 38 = .ok (.newarray .int, 2) := by decide +kernel
theorem dX2_init_40 : decode cX2_init 40 = .ok (.putfield 24, 3) := by decide +kernel
theorem dX2_init_43 : decode cX2_init 43 = .ok (.aload_n 0, 1) := by decide +kernel
theorem dX2_init_44 : decode cX2_init 44 = .ok (.bipush 9, 2) := by decide +kernel
theorem dX2_init_46 : decode cX2_init 46 = .ok (.newarray .int, 2) := by decide +kernel
theorem dX2_init_48 : decode cX2_init 48 = .ok (.putfield 27, 3) := by decide +kernel
theorem dX2_init_51 : decode cX2_init 51 = .ok (.aload_n 0, 1) := by decide +kernel
theorem dX2_init_52 : decode cX2_init 52 = .ok (.iconst 3, 1) := by decide +kernel
theorem dX2_init_53 : decode cX2_init 53 = .ok (.newarray .long, 2) := by decide +kernel
theorem dX2_init_55 : decode cX2_init 55 = .ok (.putfield 30, 3) := by decide +kernel
theorem dX2_init_58 : decode cX2_init 58 = .ok (.aload_n 0, 1) := by decide +kernel
theorem dX2_init_59 : decode cX2_init 59 = .ok (.getfield 18, 3) := by decide +kernel
theorem dX2_init_62 : decode cX2_init 62 = .ok (.ldc 34, 2) := by decide +kernel
theorem dX2_init_64 : decode cX2_init 64 = .ok (.invokestatic 35, 3) := by decide +kernel
theorem dX2_init_67 : decode cX2_init 67 = .ok (.return_, 1) := by decide +kernel
theorem dX2_copyFrom_0 : decode cX2_copyFrom 0 = .ok (.aload_n 1, 1) := by decide +kernel
theorem dX2_copyFrom_1 : decode cX2_copyFrom 1 = .ok (.getfield 9, 3) := by decide +kernel
theorem dX2_copyFrom_4 : decode cX2_copyFrom 4 = .ok (.iconst 0, 1) := by decide +kernel
theorem dX2_copyFrom_5 : decode cX2_copyFrom 5 = .ok (.aload_n 0, 1) := by decide +kernel
theorem dX2_copyFrom_6 : decode cX2_copyFrom 6 = .ok (.getfield 9, 3) := by decide +kernel
theorem dX2_copyFrom_9 : decode cX2_copyFrom 9 = .ok (.iconst 0, 1) := by decide +kernel
theorem dX2_copyFrom_10 : decode cX2_copyFrom 10 = .ok (.aload_n 0, 1) := by decide +kernel
theorem dX2_copyFrom_11 : decode cX2_copyFrom 11 = .ok (.getfield 9, 3) := by decide +kernel
theorem dX2_copyFrom_14 : decode cX2_copyFrom 14 = .ok (.arraylength, 1) := by decide +kernel
theorem dX2_copyFrom_15 : decode cX2_copyFrom 15 = .ok (.invokestatic 41, 3) := by decide +kernel
theorem dX2_copyFrom_18 : decode cX2_copyFrom 18 = .ok (.aload_n 1, 1) := by decide +kernel
theorem dX2_copyFrom_19 : decode cX2_copyFrom 19 = .ok (.getfield 15, 3) := by decide +kernel
theorem dX2_copyFrom_22 : decode cX2_copyFrom 22 = .ok (.iconst 0, 1) := by decide +kernel
theorem dX2_copyFrom_23 : decode cX2_copyFrom 23 = .ok (.aload_n 0, 1) := by decide +kernel
theorem dX2_copyFrom_24 : decode cX2_copyFrom 24 = .ok (.getfield 15, 3) := by decide +kernel
theorem dX2_copyFrom_27 : decode cX2_copyFrom 27 = .ok (.iconst 0, 1) := by decide +kernel
theorem dX2_copyFrom_28 : decode cX2_copyFrom 28 = .ok (.aload_n 0, 1) := by decide +kernel
theorem dX2_copyFrom_29 : decode cX2_copyFrom 29 = .ok (.getfield 15, 3) := by decide +kernel
theorem dX2_copyFrom_32 : decode cX2_copyFrom 32 = .ok (.arraylength, 1) := by decide +kernel
theorem dX2_copyFrom_33 : decode cX2_copyFrom 33 = .ok (.invokestatic 41, 3) := by decide +kernel
theorem dX2_copyFrom_36 : decode cX2_copyFrom 36 = .ok (.aload_n 1, 1) := by decide +kernel
theorem dX2_copyFrom_37 : decode cX2_copyFrom 37 = .ok (.getfield 18, 3) := by decide +kernel
theorem dX2_copyFrom_40 : decode cX2_copyFrom 40 = .ok (.iconst 0, 1) := by decide +kernel
theorem dX2_copyFrom_41 : decode cX2_copyFrom 41 = .ok (.aload_n 0, 1) := by decide +kernel
theorem dX2_copyFrom_42 : decode cX2_copyFrom 42 = .ok (.getfield 18, 3) := by decide +kernel
theorem dX2_copyFrom_45 : decode cX2_copyFrom 45 = .ok (.iconst 0, 1) := by decide +kernel
theorem dX2_copyFrom_46 : decode cX2_copyFrom 46 = .ok (.aload_n 0, 1) := by decide +kernel
theorem dX2_copyFrom_47 : decode cX2_copyFrom 47 = .ok (.getfield 18, 3) := by decide +kernel
theorem dX2_copyFrom_50 : decode cX2_copyFrom 50 = .ok (.arraylength, 1) := by decide +kernel
theorem dX2_copyFrom_51 : decode cX2_copyFrom 51 = .ok (.invokestatic 41, 3) := by decide +kernel
theorem dX2_copyFrom_54 : decode cX2_copyFrom 54 = .ok (.aload_n 1, 1) := by decide +kernel
theorem dX2_copyFrom_55 : decode cX2_copyFrom 55 = .ok (.getfield 21, 3) := by decide +kernel
theorem dX2_copyFrom_58 : decode cX2_copyFrom 58 = .ok (.iconst 0, 1) := by decide +kernel
theorem dX2_copyFrom_59 : decode cX2_copyFrom 59 = .ok (.aload_n 0, 1) := by decide +kernel
theorem dX2_copyFrom_60 : decode cX2_copyFrom 60 = .ok (.getfield 21, 3) := by decide +kernel
theorem dX2_copyFrom_63 : decode cX2_copyFrom 63 = .ok (.iconst 0, 1) := by decide +kernel
theorem dX2_copyFrom_64 : decode cX2_copyFrom 64 = .ok (.aload_n 0, 1) := by decide +kernel
theorem dX2_copyFrom_65 : decode cX2_copyFrom 65 = .ok (.getfield 21, 3) := by decide +kernel
theorem dX2_copyFrom_68 : decode cX2_copyFrom 68 = .ok (.arraylength, 1) := by decide +kernel
theorem dX2_copyFrom_69 : decode cX2_copyFrom 69 = .ok (.invokestatic 41, 3) := by decide +kernel
theorem dX2_copyFrom_72 : decode cX2_copyFrom 72 = .ok (.aload_n 1, 1) := by decide +kernel
theorem dX2_copyFrom_73 : decode cX2_copyFrom 73 = .ok (.getfield 24, 3) := by decide +kernel
theorem dX2_copyFrom_76 : decode cX2_copyFrom 76 = .ok (.iconst 0, 1) := by decide +kernel
theorem dX2_copyFrom_77 : decode cX2_copyFrom 77 = .ok (.aload_n 0, 1) := by decide +kernel
theorem dX2_copyFrom_78 : decode cX2_copyFrom 78 = .ok (.getfield 24, 3) := by decide +kernel
theorem dX2_copyFrom_81 : decode cX2_copyFrom 81 = .ok (.iconst 0, 1) := by decide +kernel
theorem dX2_copyFrom_82 : decode cX2_copyFrom 82 = .ok (.aload_n 0, 1) := by decide +kernel
theorem dX2_copyFrom_83 : decode cX2_copyFrom 83 = .ok (.getfield 24, 3) := by decide +kernel
theorem dX2_copyFrom_86 : decode cX2_copyFrom 86 = .ok (.arraylength, 1) := by decide +kernel
theorem dX2_copyFrom_87 : decode cX2_copyFrom 87 = .ok (.invokestatic 41, 3) := by decide +kernel
theorem dX2_copyFrom_90 : decode cX2_copyFrom 90 = .ok (.aload_n 1, 1) := by decide +kernel
theorem dX2_copyFrom_91 : decode cX2_copyFrom 91 = .ok (.getfield 27, 3) := by decide +kernel
theorem dX2_copyFrom_94 : decode cX2_copyFrom 94 = .ok (.iconst 0, 1) := by decide +kernel
theorem dX2_copyFrom_95 : decode cX2_copyFrom 95 = .ok (.aload_n 0, 1) := by decide +kernel
theorem dX2_copyFrom_96 : decode cX2_copyFrom 96 = .ok (.getfield 27, 3) := by decide +kernel
theorem dX2_copyFrom_99 : decode cX2_copyFrom 99 = .ok (.iconst 0, 1) := by decide +kernel
theorem dX2_copyFrom_100 : decode cX2_copyFrom 100 = .ok (.aload_n 0, 1) := by decide +kernel
theorem dX2_copyFrom_101 : decode cX2_copyFrom 101 = .ok (.getfield 27, 3) := by decide +kernel
theorem dX2_copyFrom_104 : decode cX2_copyFrom 104 = .ok (.arraylength, 1) := by decide +kernel
theorem dX2_copyFrom_105 : decode cX2_copyFrom 105 = .ok (.invokestatic 41, 3) := by decide +kernel
theorem dX2_copyFrom_108 : decode cX2_copyFrom 108 = .ok (.aload_n 1, 1) := by decide +kernel
theorem dX2_copyFrom_109 : decode cX2_copyFrom 109 = .ok (.getfield 30, 3) := by decide +kernel
theorem dX2_copyFrom_112 : decode cX2_copyFrom 112 = .ok (.iconst 0, 1) := by decide +kernel
theorem dX2_copyFrom_113 : decode cX2_copyFrom 113 = .ok (.aload_n 0, 1) := by decide +kernel
theorem dX2_copyFrom_114 : decode cX2_copyFrom 114 = .ok (.getfield 30, 3) := by decide +kernel
theorem dX2_copyFrom_117 : decode cX2_copyFrom 117 = .ok (.iconst 0, 1) := by decide +kernel
theorem dX2_copyFrom_118 : decode cX2_copyFrom 118 = .ok (.aload_n 0, 1) := by decide +kernel
theorem dX2_copyFrom_119 : decode cX2_copyFrom 119 = .ok (.getfield 30, 3) := by decide +kernel
theorem dX2_copyFrom_122 : decode cX2_copyFrom 122 = .ok (.arraylength, 1) := by decide +kernel
theorem dX2_copyFrom_123 : decode cX2_copyFrom 123 = .ok (.invokestatic 41, 3) := by decide +kernel
theorem dX2_copyFrom_126 : decode cX2_copyFrom 126 = .ok (.aload_n 0, 1) := by decide +kernel
theorem dX2_copyFrom_127 : decode cX2_copyFrom 127 = .ok (.aload_n 1, 1) := by decide +kernel
theorem dX2_copyFrom_128 : decode cX2_copyFrom 128 = .ok (.getfield 47, 3) := by decide +kernel
theorem dX2_copyFrom_131 : decode cX2_copyFrom 131 = .ok (.putfield 47, 3) := by decide +kernel
theorem dX2_copyFrom_134 : decode cX2_copyFrom 134 = .ok (.aload_n 0, 1) := by decide +kernel
theorem dX2_copyFrom_135 : decode cX2_copyFrom 135 = .ok (.aload_n 1, 1) := by decide +kernel
theorem dX2_copyFrom_136 : decode cX2_copyFrom 136 = .ok (.getfield 51, 3) := by decide +kernel
theorem dX2_copyFrom_139 : decode cX2_copyFrom 139 = .ok (.putfield 51, 3) := by decide +kernel
theorem dX2_copyFrom_142 : decode cX2_copyFrom 142 = .ok (.aload_n 0, 1) := by decide +kernel
theorem dX2_copyFrom_143 : decode cX2_copyFrom 143 = .ok (.aload_n 1, 1) := by decide +kernel
theorem dX2_copyFrom_144 : decode cX2_copyFrom 144 = .ok (.getfield 54, 3) := by decide +kernel
theorem dX2_copyFrom_147 : decode cX2_copyFrom 147 = .ok (.putfield 54, 3) := by decide +kernel
theorem dX2_copyFrom_150 : decode cX2_copyFrom 150 = .ok (.aload_n 0, 1) := by decide +kernel
theorem dX2_copyFrom_151 : decode cX2_copyFrom 151 = .ok (.aload_n 1, 1) := by decide +kernel
theorem dX2_copyFrom_152 : decode cX2_copyFrom 152 = .ok (.getfield 57, 3) := by decide +kernel
theorem dX2_copyFrom_155 : decode cX2_copyFrom 155 = .ok (.putfield 57, 3) := by decide +kernel
theorem dX2_copyFrom_158 : decode cX2_copyFrom 158 = .ok (.aload_n 0, 1) := by decide +kernel
theorem dX2_copyFrom_159 : decode cX2_copyFrom 159 = .ok (.aload_n 1, 1) := by decide +kernel
theorem dX2_copyFrom_160 : decode cX2_copyFrom 160 = .ok (.getfield 60, 3) := by decide +kernel
theorem dX2_copyFrom_163 : decode cX2_copyFrom 163 = .ok (.putfield 60, 3) := by decide +kernel
theorem dX2_copyFrom_166 : decode cX2_copyFrom 166 = .ok (.return_, 1) := by decide +kernel
theorem dX2_property_0 : decode cX2_property 0 = .ok (.aload_n 0, 1) := by decide +kernel
theorem dX2_property_1 : decode cX2_property 1 = .ok (.getfield 9, 3) := by decide +kernel
theorem dX2_property_4 : decode cX2_property 4 = .ok (.iload_n 1, 1) := by decide +kernel
theorem dX2_property_5 : decode cX2_property 5 = .ok (.bipush 7, 2) := by decide +kernel
theorem dX2_property_7 : decode cX2_property 7 = .ok (.imul, 1) := by decide +kernel
theorem dX2_property_8 : decode cX2_property 8 = .ok (.iload_n 2, 1) := by decide +kernel
theorem dX2_property_9 : decode cX2_property 9 = .ok (.iadd, 1) := by decide +kernel
theorem dX2_property_10 : decode cX2_property 10 = .ok (.iaload, 1) := by decide +kernel
theorem dX2_property_11 : decode cX2_property 11 = .ok (.ireturn, 1) := by decide +kernel
theorem dX2_setProperty_0 : decode cX2_setProperty 0 = .ok (.aload_n 0, 1) := by decide +kernel
theorem dX2_setProperty_1 : decode cX2_setProperty 1 = .ok (.getfield 9, 3) := by decide +kernel
theorem dX2_setProperty_4 : decode cX2_setProperty 4 = .ok (.iload_n 1, 1) := by decide +kernel
theorem dX2_setProperty_5 : decode cX2_setProperty 5 = .ok (.bipush 7, 2) := by decide +kernel
theorem dX2_setProperty_7 : decode cX2_setProperty 7 = .ok (.imul, 1) := by decide +kernel
theorem dX2_setProperty_8 : decode cX2_setProperty 8 = .ok (.iload_n 2, 1) := by decide +kernel
theorem dX2_setProperty_9 : decode cX2_setProperty 9 = .ok (.iadd, 1) := by decide +kernel
theorem dX2_setProperty_10 : decode cX2_setProperty 10 = .ok (.iload_n 3, 1) := by decide +kernel
theorem dX2_setProperty_11 : decode cX2_setProperty 11 = .ok (.iastore, 1) := by decide +kernel
theorem dX2_setProperty_12 : decode cX2_setProperty 12 = .ok (.return_, 1) := by decide +kernel
theorem dX2_impulsePart_0 : decode cX2_impulsePart 0 = .ok (.aload_n 0, 1) := by decide +kernel
theorem dX2_impulsePart_1 : decode cX2_impulsePart 1 = .ok (.getfield 27, 3) := by decide +kernel
theorem dX2_impulsePart_4 : decode cX2_impulsePart 4 = .ok (.iload_n 1, 1) := by decide +kernel
theorem dX2_impulsePart_5 : decode cX2_impulsePart 5 = .ok (.iconst 3, 1) := by decide +kernel
theorem dX2_impulsePart_6 : decode cX2_impulsePart 6 = .ok (.imul, 1) := by decide +kernel
theorem dX2_impulsePart_7 : decode cX2_impulsePart 7 = .ok (.iload_n 2, 1) := by decide +kernel
theorem dX2_impulsePart_8 : decode cX2_impulsePart 8 = .ok (.iadd, 1) := by decide +kernel
theorem dX2_impulsePart_9 : decode cX2_impulsePart 9 = .ok (.iaload, 1) := by decide +kernel
theorem dX2_impulsePart_10 : decode cX2_impulsePart 10 = .ok (.ireturn, 1) := by decide +kernel
theorem dX2_appendThruster_0 : decode cX2_appendThruster 0 = .ok (.aload_n 0, 1) := by decide +kernel
theorem dX2_appendThruster_1 : decode cX2_appendThruster 1 = .ok (.getfield 47, 3) := by decide +kernel
theorem dX2_appendThruster_4 : decode cX2_appendThruster 4 = .ok (.istore 7, 2) := by decide +kernel
theorem dX2_appendThruster_6 : decode cX2_appendThruster 6 = .ok (.aload_n 0, 1) := by decide +kernel
theorem dX2_appendThruster_7 : decode cX2_appendThruster 7 = .ok (.iload 7, 2) := by decide +kernel
theorem dX2_appendThruster_9 : decode cX2_appendThruster 9 = .ok (.iconst 0, 1) := by decide +kernel
theorem dX2_appendThruster_10 : decode cX2_appendThruster 10 = .ok (.iload_n 1, 1) := by decide +kernel
theorem dX2_appendThruster_11 : decode cX2_appendThruster 11 = .ok (.invokevirtual 63, 3) := by decide +kernel
theorem dX2_appendThruster_14 : decode cX2_appendThruster 14 = .ok (.aload_n 0, 1) := by decide +kernel
theorem dX2_appendThruster_15 : decode cX2_appendThruster 15 = .ok (.iload 7, 2) := by decide +kernel
theorem dX2_appendThruster_17 : decode cX2_appendThruster 17 = .ok (.iconst 1, 1) := by decide +kernel
theorem dX2_appendThruster_18 : decode cX2_appendThruster 18 = .ok (.iload_n 2, 1) := by decide +kernel
theorem dX2_appendThruster_19 : decode cX2_appendThruster 19 = .ok (.invokevirtual 63, 3) := by decide +kernel
theorem dX2_appendThruster_22 : decode cX2_appendThruster 22 = .ok (.aload_n 0, 1) := by decide +kernel
theorem dX2_appendThruster_23 : decode cX2_appendThruster 23 = .ok (.iload 7, 2) := by decide +kernel
theorem dX2_appendThruster_25 : decode cX2_appendThruster 25 = .ok (.iconst 2, 1) := by decide +kernel
theorem dX2_appendThruster_26 : decode cX2_appendThruster 26 = .ok (.iload_n 3, 1) := by decide +kernel
theorem dX2_appendThruster_27 : decode cX2_appendThruster 27 = .ok (.invokevirtual 63, 3) := by decide +kernel
theorem dX2_appendThruster_30 : decode cX2_appendThruster 30 = .ok (.aload_n 0, 1) := by decide +kernel
theorem dX2_appendThruster_31 : decode cX2_appendThruster 31 = .ok (.iload 7, 2) := by decide +kernel
theorem dX2_appendThruster_33 : decode cX2_appendThruster 33 = .ok (.iconst 3, 1) := by decide +kernel
theorem dX2_appendThruster_34 : decode cX2_appendThruster 34 = .ok (.iload 4, 2) := by decide +kernel
theorem dX2_appendThruster_36 : decode cX2_appendThruster 36 = .ok (.invokevirtual 63, 3) := by decide +kernel
theorem dX2_appendThruster_39 : decode cX2_appendThruster 39 = .ok (.aload_n 0, 1) := by decide +kernel
theorem dX2_appendThruster_40 : decode cX2_appendThruster 40 = .ok (.iload 7, 2) := by decide +kernel
theorem dX2_appendThruster_42 : decode cX2_appendThruster 42 = .ok (.iconst 4, 1) := by decide +kernel
theorem dX2_appendThruster_43 : decode cX2_appendThruster 43 = .ok (.iload 5, 2) := by decide +kernel
theorem dX2_appendThruster_45 : decode cX2_appendThruster 45 = .ok (.invokevirtual 63, 3) := by decide +kernel
theorem dX2_appendThruster_48 : decode cX2_appendThruster 48 = .ok (.aload_n 0, 1) := by decide +kernel
theorem dX2_appendThruster_49 : decode cX2_appendThruster 49 = .ok (.iload 7, 2) := by decide +kernel
theorem dX2_appendThruster_51 : decode cX2_appendThruster 51 = .ok (.iconst 5, 1) := by decide +kernel
theorem dX2_appendThruster_52 : decode cX2_appendThruster 52 = .ok (.iload 6, 2) := by decide +kernel
theorem dX2_appendThruster_54 : decode cX2_appendThruster 54 = .ok (.invokevirtual 63, 3) := by decide +kernel
theorem dX2_appendThruster_57 : decode cX2_appendThruster 57 = .ok (.aload_n 0, 1) := by decide +kernel
theorem dX2_appendThruster_58 : decode cX2_appendThruster 58 = .ok (.iload 7, 2) := by decide +kernel
theorem dX2_appendThruster_60 : decode cX2_appendThruster 60 = .ok (.bipush 6, 2) := by decide +kernel
theorem dX2_appendThruster_62 : decode cX2_appendThruster 62 = .ok (.iconst 0, 1) := by decide +kernel
theorem dX2_appendThruster_63 : decode cX2_appendThruster 63 = .ok (.invokevirtual 63, 3) := by decide +kernel
theorem dX2_appendThruster_66 : decode cX2_appendThruster 66 = .ok (.aload_n 0, 1) := by decide +kernel
theorem dX2_appendThruster_67 : decode cX2_appendThruster 67 = .ok (.getfield 15, 3) := by decide +kernel
theorem dX2_appendThruster_70 : decode cX2_appendThruster 70 = .ok (.iload 7, 2) := by decide +kernel
theorem dX2_appendThruster_72 : decode cX2_appendThruster 72 = .ok (.iconst 0, 1) := by decide +kernel
theorem dX2_appendThruster_73 : decode cX2_appendThruster 73 = .ok (.iastore, 1) := by decide +kernel
theorem dX2_appendThruster_74 : decode cX2_appendThruster 74 = .ok (.aload_n 0, 1) := by decide +kernel
theorem dX2_appendThruster_75 : decode cX2_appendThruster 75 = .ok (.iload 7, 2) := by decide +kernel
theorem dX2_appendThruster_77 : decode cX2_appendThruster 77 = .ok (.iconst 1, 1) := by decide +kernel
theorem dX2_appendThruster_78 : decode cX2_appendThruster 78 = .ok (.iadd, 1) := by decide +kernel
theorem dX2_appendThruster_79 : decode cX2_appendThruster 79 = .ok (.putfield 47, 3) := by decide +kernel
theorem dX2_appendThruster_82 : decode cX2_appendThruster 82 = .ok (.iload 7, 2) := by decide +kernel
theorem dX2_appendThruster_84 : decode cX2_appendThruster 84 = .ok (.ireturn, 1) := by decide +kernel
theorem dX2_unitPart_0 : decode cX2_unitPart 0 = .ok (.aload_n 0, 1) := by decide +kernel
theorem dX2_unitPart_1 : decode cX2_unitPart 1 = .ok (.iload_n 1, 1) := by decide +kernel
theorem dX2_unitPart_2 : decode cX2_unitPart 2 = .ok (.iconst 3, 1) := by decide +kernel
theorem dX2_unitPart_3 : decode cX2_unitPart 3 = .ok (.invokevirtual 67, 3) := by decide +kernel
theorem dX2_unitPart_6 : decode cX2_unitPart 6 = .ok (.istore_n 3, 1) := by decide +kernel
theorem dX2_unitPart_7 : decode cX2_unitPart 7 = .ok (.getstatic 71, 3) := by decide +kernel
theorem dX2_unitPart_10 : decode cX2_unitPart 10 = .ok (.aload_n 0, 1) := by decide +kernel
theorem dX2_unitPart_11 : decode cX2_unitPart 11 = .ok (.iload_n 1, 1) := by decide +kernel
theorem dX2_unitPart_12 : decode cX2_unitPart 12 = .ok (.iconst 2, 1) := by decide +kernel
theorem dX2_unitPart_13 : decode cX2_unitPart 13 = .ok (.invokevirtual 67, 3) := by decide +kernel
theorem dX2_unitPart_16 : decode cX2_unitPart 16 = .ok (.iaload, 1) := by decide +kernel
theorem dX2_unitPart_17 : decode cX2_unitPart 17 = .ok (.istore 4, 2) := by decide +kernel
theorem dX2_unitPart_19 : decode cX2_unitPart 19 = .ok (.getstatic 74, 3) := by decide +kernel
theorem dX2_unitPart_22 : decode cX2_unitPart 22 = .ok (.aload_n 0, 1) := by decide +kernel
theorem dX2_unitPart_23 : decode cX2_unitPart 23 = .ok (.iload_n 1, 1) := by decide +kernel
theorem dX2_unitPart_24 : decode cX2_unitPart 24 = .ok (.iconst 2, 1) := by decide +kernel
theorem dX2_unitPart_25 : decode cX2_unitPart 25 = .ok (.invokevirtual 67, 3) := by decide +kernel
theorem dX2_unitPart_28 : decode cX2_unitPart 28 = .ok (.iaload, 1) := by decide +kernel
theorem dX2_unitPart_29 : decode cX2_unitPart 29 = .ok (.istore 5, 2) := by decide +kernel
theorem dX2_unitPart_31 : decode cX2_unitPart 31 = .ok (.iload_n 2, 1) := by decide +kernel
theorem dX2_unitPart_32 : decode cX2_unitPart 32 = .ok (.ifCond .ne 8, 3) := by decide +kernel
theorem dX2_unitPart_35 : decode cX2_unitPart 35 = .ok (.iload_n 3, 1) := by decide +kernel
theorem dX2_unitPart_36 : decode cX2_unitPart 36 = .ok (.iload 4, 2) := by decide +kernel
theorem dX2_unitPart_38 : decode cX2_unitPart 38 = .ok (.imul, 1) := by decide +kernel
theorem dX2_unitPart_39 : decode cX2_unitPart 39 = .ok (.ireturn, 1) := by decide +kernel
theorem dX2_unitPart_40 : decode cX2_unitPart 40 = .ok (.iload_n 2, 1) := by decide +kernel
theorem dX2_unitPart_41 : decode cX2_unitPart 41 = .ok (.iconst 1, 1) := by decide +kernel
theorem dX2_unitPart_42 : decode cX2_unitPart 42 = .ok (.if_icmp .ne 8, 3) := by decide +kernel
theorem dX2_unitPart_45 : decode cX2_unitPart 45 = .ok (.iload_n 3, 1) := by decide +kernel
theorem dX2_unitPart_46 : decode cX2_unitPart 46 = .ok (.iload 5, 2) := by decide +kernel
theorem dX2_unitPart_48 : decode cX2_unitPart 48 = .ok (.imul, 1) := by decide +kernel
theorem dX2_unitPart_49 : decode cX2_unitPart 49 = .ok (.ireturn, 1) := by decide +kernel
theorem dX2_unitPart_50 : decode cX2_unitPart 50 = .ok (.iload_n 3, 1) := by decide +kernel
theorem dX2_unitPart_51 : decode cX2_unitPart 51 = .ok (.aload_n 0, 1) := by decide +kernel
theorem dX2_unitPart_52 : decode cX2_unitPart 52 = .ok (.iload_n 1, 1) := by decide +kernel
theorem dX2_unitPart_53 : decode cX2_unitPart 53 = .ok (.iconst 0, 1) := by decide +kernel
theorem dX2_unitPart_54 : decode cX2_unitPart 54 = .ok (.invokevirtual 67, 3) := by decide +kernel
theorem dX2_unitPart_57 : decode cX2_unitPart 57 = .ok (.iload 5, 2) := by decide +kernel
theorem dX2_unitPart_59 : decode cX2_unitPart 59 = .ok (.imul, 1) := by decide +kernel
theorem dX2_unitPart_60 : decode cX2_unitPart 60 = .ok (.aload_n 0, 1) := by decide +kernel
theorem dX2_unitPart_61 : decode cX2_unitPart 61 = .ok (.iload_n 1, 1) := by decide +kernel
theorem dX2_unitPart_62 : decode cX2_unitPart 62 = .ok (.iconst 1, 1) := by decide +kernel
theorem dX2_unitPart_63 : decode cX2_unitPart 63 = .ok (.invokevirtual 67, 3) := by decide +kernel
theorem dX2_unitPart_66 : decode cX2_unitPart 66 = .ok (.iload 4, 2) := by decide +kernel
theorem dX2_unitPart_68 : decode cX2_unitPart 68 = .ok (.imul, 1) := by decide +kernel
theorem dX2_unitPart_69 : decode cX2_unitPart 69 = .ok (.isub, 1) := by decide +kernel
theorem dX2_unitPart_70 : decode cX2_unitPart 70 = .ok (.imul, 1) := by decide +kernel
theorem dX2_unitPart_71 : decode cX2_unitPart 71 = .ok (.ireturn, 1) := by decide +kernel
theorem dX2_fuelOf_0 : decode cX2_fuelOf 0 = .ok (.aload_n 0, 1) := by decide +kernel
theorem dX2_fuelOf_1 : decode cX2_fuelOf 1 = .ok (.getfield 18, 3) := by decide +kernel
theorem dX2_fuelOf_4 : decode cX2_fuelOf 4 = .ok (.aload_n 0, 1) := by decide +kernel
theorem dX2_fuelOf_5 : decode cX2_fuelOf 5 = .ok (.iload_n 1, 1) := by decide +kernel
theorem dX2_fuelOf_6 : decode cX2_fuelOf 6 = .ok (.iconst 4, 1) := by decide +kernel
theorem dX2_fuelOf_7 : decode cX2_fuelOf 7 = .ok (.invokevirtual 67, 3) := by decide +kernel
theorem dX2_fuelOf_10 : decode cX2_fuelOf 10 = .ok (.iaload, 1) := by decide +kernel
theorem dX2_fuelOf_11 : decode cX2_fuelOf 11 = .ok (.ireturn, 1) := by decide +kernel
theorem dX2_isUsable_0 : decode cX2_isUsable 0 = .ok (.aload_n 0, 1) := by decide +kernel
theorem dX2_isUsable_1 : decode cX2_isUsable 1 = .ok (.iload_n 1, 1) := by decide +kernel
theorem dX2_isUsable_2 : decode cX2_isUsable 2 = .ok (.bipush 6, 2) := by decide +kernel
theorem dX2_isUsable_4 : decode cX2_isUsable 4 = .ok (.invokevirtual 67, 3) := by decide +kernel
theorem dX2_isUsable_7 : decode cX2_isUsable 7 = .ok (.ifCond .ne 18, 3) := by decide +kernel
theorem dX2_isUsable_10 : decode cX2_isUsable 10 = .ok (.aload_n 0, 1) := by decide +kernel
theorem dX2_isUsable_11 : decode cX2_isUsable 11 = .ok (.iload_n 1, 1) := by decide +kernel
theorem dX2_isUsable_12 : decode cX2_isUsable 12 = .ok (.invokevirtual 77, 3) := by decide +kernel
theorem dX2_isUsable_15 : decode cX2_isUsable 15 = .ok (.sipush 600, 3) := by decide +kernel
theorem dX2_isUsable_18 : decode cX2_isUsable 18 = .ok (.if_icmp .lt 7, 3) := by decide +kernel
theorem dX2_isUsable_21 : decode cX2_isUsable 21 = .ok (.iconst 1, 1) := by decide +kernel
theorem dX2_isUsable_22 : decode cX2_isUsable 22 = .ok (.goto 4, 3) := by decide +kernel
theorem dX2_isUsable_25 : decode cX2_isUsable 25 = .ok (.iconst 0, 1) := by decide +kernel
theorem dX2_isUsable_26 : decode cX2_isUsable 26 = .ok (.ireturn, 1) := by decide +kernel
theorem dX2_isRunning_0 : decode cX2_isRunning 0 = .ok (.aload_n 0, 1) := by decide +kernel
theorem dX2_isRunning_1 : decode cX2_isRunning 1 = .ok (.iload_n 1, 1) := by decide +kernel
theorem dX2_isRunning_2 : decode cX2_isRunning 2 = .ok (.bipush 6, 2) := by decide +kernel
theorem dX2_isRunning_4 : decode cX2_isRunning 4 = .ok (.invokevirtual 67, 3) := by decide +kernel
theorem dX2_isRunning_7 : decode cX2_isRunning 7 = .ok (.iconst 2, 1) := by decide +kernel
theorem dX2_isRunning_8 : decode cX2_isRunning 8 = .ok (.if_icmp .ne 24, 3) := by decide +kernel
theorem dX2_isRunning_11 : decode cX2_isRunning 11 = .ok (.aload_n 0, 1) := by decide +kernel
theorem dX2_isRunning_12 : decode cX2_isRunning 12 = .ok (.iload_n 1, 1) := by decide +kernel
theorem dX2_isRunning_13 : decode cX2_isRunning 13 = .ok (.invokevirtual 77, 3) := by decide +kernel
theorem dX2_isRunning_16 : decode cX2_isRunning 16 = .ok (.bipush 20, 2) := by decide +kernel
theorem dX2_isRunning_18 : decode cX2_isRunning 18 = .ok (.aload_n 0, 1) := by decide +kernel
theorem dX2_isRunning_19 : decode cX2_isRunning 19 = .ok (.iload_n 1, 1) := by decide +kernel
theorem dX2_isRunning_20 : decode cX2_isRunning 20 = .ok (.iconst 3, 1) := by decide +kernel
theorem dX2_isRunning_21 : decode cX2_isRunning 21 = .ok (.invokevirtual 67, 3) := by decide +kernel
theorem dX2_isRunning_24 : decode cX2_isRunning 24 = .ok (.imul, 1) := by decide +kernel
theorem dX2_isRunning_25 : decode cX2_isRunning 25 = .ok (.if_icmp .lt 7, 3) := by decide +kernel
theorem dX2_isRunning_28 : decode cX2_isRunning 28 = .ok (.iconst 1, 1) := by decide +kernel
theorem dX2_isRunning_29 : decode cX2_isRunning 29 = .ok (.goto 4, 3) := by decide +kernel
theorem dX2_isRunning_32 : decode cX2_isRunning 32 = .ok (.iconst 0, 1) := by decide +kernel
theorem dX2_isRunning_33 : decode cX2_isRunning 33 = .ok (.ireturn, 1) := by decide +kernel
theorem dX2_runningMask_0 : decode cX2_runningMask 0 = .ok (.iconst 0, 1) := by decide +kernel
theorem dX2_runningMask_1 : decode cX2_runningMask 1 = .ok (.istore_n 1, 1) := by decide +kernel
theorem dX2_runningMask_2 : decode cX2_runningMask 2 = .ok (.iconst 0, 1) := by decide +kernel
theorem dX2_runningMask_3 : decode cX2_runningMask 3 = .ok (.istore_n 2, 1) := by decide +kernel
theorem dX2_runningMask_4 : decode cX2_runningMask 4 = .ok (.iload_n 2, 1) := by decide +kernel
theorem dX2_runningMask_5 : decode cX2_runningMask 5 = .ok (.aload_n 0, 1) := by decide +kernel
theorem dX2_runningMask_6 : decode cX2_runningMask 6 = .ok (.getfield 47, 3) := by decide +kernel
theorem dX2_runningMask_9 : decode cX2_runningMask 9 = .ok (.if_icmp .ge 27, 3) := by decide +kernel
theorem dX2_runningMask_12 : decode cX2_runningMask 12 = .ok (.iload_n 1, 1) := by decide +kernel
theorem dX2_runningMask_13 : decode cX2_runningMask 13 = .ok (.aload_n 0, 1) := by decide +kernel
theorem dX2_runningMask_14 : decode cX2_runningMask 14 = .ok (.iload_n 2, 1) := by decide +kernel
theorem dX2_runningMask_15 : decode cX2_runningMask 15 = .ok (.invokevirtual 81, 3) := by decide +kernel
theorem dX2_runningMask_18 : decode cX2_runningMask 18 = .ok (.ifCond .eq 9, 3) := by decide +kernel
theorem dX2_runningMask_21 : decode cX2_runningMask 21 = .ok (.iconst 1, 1) := by decide +kernel
theorem dX2_runningMask_22 : decode cX2_runningMask 22 = .ok (.iload_n 2, 1) := by decide +kernel
theorem dX2_runningMask_23 : decode cX2_runningMask 23 = .ok (.ishl, 1) := by decide +kernel
theorem dX2_runningMask_24 : decode cX2_runningMask 24 = .ok (.goto 4, 3) := by decide +kernel
theorem dX2_runningMask_27 : decode cX2_runningMask 27 = .ok (.iconst 0, 1) := by decide +kernel
theorem dX2_runningMask_28 : decode cX2_runningMask 28 = .ok (.ior, 1) := by decide +kernel
theorem dX2_runningMask_29 : decode cX2_runningMask 29 = .ok (.istore_n 1, 1) := by decide +kernel
theorem dX2_runningMask_30 : decode cX2_runningMask 30 = .ok (.iinc 2 1, 3) := by decide +kernel
theorem dX2_runningMask_33 : decode cX2_runningMask 33 = .ok (.goto (-29), 3) := by decide +kernel
theorem dX2_runningMask_36 : decode cX2_runningMask 36 = .ok (.iload_n 1, 1) := by decide +kernel
theorem dX2_runningMask_37 : decode cX2_runningMask 37 = .ok (.ireturn, 1) := by decide +kernel
theorem dX2_priceOfTick_0 : decode cX2_priceOfTick 0 = .ok (.aload_n 0, 1) := by decide +kernel
theorem dX2_priceOfTick_1 : decode cX2_priceOfTick 1 = .ok (.getfield 18, 3) := by decide +kernel
theorem dX2_priceOfTick_4 : decode cX2_priceOfTick 4 = .ok (.iconst 1, 1) := by decide +kernel
theorem dX2_priceOfTick_5 : decode cX2_priceOfTick 5 = .ok (.aload_n 0, 1) := by decide +kernel
theorem dX2_priceOfTick_6 : decode cX2_priceOfTick 6 = .ok (.iload_n 1, 1) := by decide +kernel
theorem dX2_priceOfTick_7 : decode cX2_priceOfTick 7 = .ok (.iconst 4, 1) := by decide +kernel
theorem dX2_priceOfTick_8 : decode cX2_priceOfTick 8 = .ok (.invokevirtual 67, 3) := by decide +kernel
theorem dX2_priceOfTick_11 : decode cX2_priceOfTick 11 = .ok (.isub, 1) := by decide +kernel
theorem dX2_priceOfTick_12 : decode cX2_priceOfTick 12 = .ok (.iaload, 1) := by decide +kernel
theorem dX2_priceOfTick_13 : decode cX2_priceOfTick 13 = .ok (.istore_n 2, 1) := by decide +kernel
theorem dX2_priceOfTick_14 : decode cX2_priceOfTick 14 = .ok (.aload_n 0, 1) := by decide +kernel
theorem dX2_priceOfTick_15 : decode cX2_priceOfTick 15 = .ok (.iload_n 1, 1) := by decide +kernel
theorem dX2_priceOfTick_16 : decode cX2_priceOfTick 16 = .ok (.iconst 3, 1) := by decide +kernel
theorem dX2_priceOfTick_17 : decode cX2_priceOfTick 17 = .ok (.invokevirtual 67, 3) := by decide +kernel
theorem dX2_priceOfTick_20 : decode cX2_priceOfTick 20 = .ok (.aload_n 0, 1) := by decide +kernel
theorem dX2_priceOfTick_21 : decode cX2_priceOfTick 21 = .ok (.iload_n 1, 1) := by decide +kernel
theorem dX2_priceOfTick_22 : decode cX2_priceOfTick 22 = .ok (.invokevirtual 77, 3) := by decide +kernel
theorem dX2_priceOfTick_25 : decode cX2_priceOfTick 25 = .ok (.iload_n 2, 1) := by decide +kernel
theorem dX2_priceOfTick_26 : decode cX2_priceOfTick 26 = .ok (.if_icmp .ge 7, 3) := by decide +kernel
theorem dX2_priceOfTick_29 : decode cX2_priceOfTick 29 = .ok (.iconst 2, 1) := by decide +kernel
theorem dX2_priceOfTick_30 : decode cX2_priceOfTick 30 = .ok (.goto 4, 3) := by decide +kernel
theorem dX2_priceOfTick_33 : decode cX2_priceOfTick 33 = .ok (.iconst 1, 1) := by decide +kernel
theorem dX2_priceOfTick_34 : decode cX2_priceOfTick 34 = .ok (.imul, 1) := by decide +kernel
theorem dX2_priceOfTick_35 : decode cX2_priceOfTick 35 = .ok (.ireturn, 1) := by decide +kernel
theorem dX2_placeOfSet_0 : decode cX2_placeOfSet 0 = .ok (.iconst 0, 1) := by decide +kernel
theorem dX2_placeOfSet_1 : decode cX2_placeOfSet 1 = .ok (.istore_n 2, 1) := by decide +kernel
theorem dX2_placeOfSet_2 : decode cX2_placeOfSet 2 = .ok (.iload_n 2, 1) := by decide +kernel
theorem dX2_placeOfSet_3 : decode cX2_placeOfSet 3 = .ok (.aload_n 0, 1) := by decide +kernel
theorem dX2_placeOfSet_4 : decode cX2_placeOfSet 4 = .ok (.getfield 51, 3) := by decide +kernel
theorem dX2_placeOfSet_7 : decode cX2_placeOfSet 7 = .ok (.if_icmp .ge 21, 3) := by decide +kernel
theorem dX2_placeOfSet_10 : decode cX2_placeOfSet 10 = .ok (.aload_n 0, 1) := by decide +kernel
theorem dX2_placeOfSet_11 : decode cX2_placeOfSet 11 = .ok (.getfield 21, 3) := by decide +kernel
theorem dX2_placeOfSet_14 : decode cX2_placeOfSet 14 = .ok (.iload_n 2, 1) := by decide +kernel
theorem dX2_placeOfSet_15 : decode cX2_placeOfSet 15 = .ok (.iaload, 1) := by decide +kernel
theorem dX2_placeOfSet_16 : decode cX2_placeOfSet 16 = .ok (.iload_n 1, 1) := by decide +kernel
theorem dX2_placeOfSet_17 : decode cX2_placeOfSet 17 = .ok (.if_icmp .ne 5, 3) := by decide +kernel
theorem dX2_placeOfSet_20 : decode cX2_placeOfSet 20 = .ok (.iload_n 2, 1) := by decide +kernel
theorem dX2_placeOfSet_21 : decode cX2_placeOfSet 21 = .ok (.ireturn, 1) := by decide +kernel
theorem dX2_placeOfSet_22 : decode cX2_placeOfSet 22 = .ok (.iinc 2 1, 3) := by decide +kernel
theorem dX2_placeOfSet_25 : decode cX2_placeOfSet 25 = .ok (.goto (-23), 3) := by decide +kernel
theorem dX2_placeOfSet_28 : decode cX2_placeOfSet 28 = .ok (.iconst (-1), 1) := by decide +kernel
theorem dX2_placeOfSet_29 : decode cX2_placeOfSet 29 = .ok (.ireturn, 1) := by decide +kernel
theorem dX2_appendSet_0 : decode cX2_appendSet 0 = .ok (.aload_n 0, 1) := by decide +kernel
theorem dX2_appendSet_1 : decode cX2_appendSet 1 = .ok (.getfield 21, 3) := by decide +kernel
theorem dX2_appendSet_4 : decode cX2_appendSet 4 = .ok (.aload_n 0, 1) := by decide +kernel
theorem dX2_appendSet_5 : decode cX2_appendSet 5 = .ok (.getfield 51, 3) := by decide +kernel
theorem dX2_appendSet_8 : decode cX2_appendSet 8 = .ok (.iload_n 1, 1) := by decide +kernel
theorem dX2_appendSet_9 : decode cX2_appendSet 9 = .ok (.iastore, 1) := by decide +kernel
theorem dX2_appendSet_10 : decode cX2_appendSet 10 = .ok (.aload_n 0, 1) := by decide +kernel
theorem dX2_appendSet_11 : decode cX2_appendSet 11 = .ok (.dup, 1) := by decide +kernel
theorem dX2_appendSet_12 : decode cX2_appendSet 12 = .ok (.getfield 51, 3) := by decide +kernel
theorem dX2_appendSet_15 : decode cX2_appendSet 15 = .ok (.iconst 1, 1) := by decide +kernel
theorem dX2_appendSet_16 : decode cX2_appendSet 16 = .ok (.iadd, 1) := by decide +kernel
theorem dX2_appendSet_17 : decode cX2_appendSet 17 = .ok (.putfield 51, 3) := by decide +kernel
theorem dX2_appendSet_20 : decode cX2_appendSet 20 = .ok (.aload_n 0, 1) := by decide +kernel
theorem dX2_appendSet_21 : decode cX2_appendSet 21 = .ok (.getfield 51, 3) := by decide +kernel
theorem dX2_appendSet_24 : decode cX2_appendSet 24 = .ok (.ireturn, 1) := by decide +kernel
theorem dX2_removeSet_0 : decode cX2_removeSet 0 = .ok (.iload_n 1, 1) := by decide +kernel
theorem dX2_removeSet_1 : decode cX2_removeSet 1 = .ok (.istore_n 2, 1) := by decide +kernel
theorem dX2_removeSet_2 : decode cX2_removeSet 2 = .ok (.iload_n 2, 1) := by decide +kernel
theorem dX2_removeSet_3 : decode cX2_removeSet 3 = .ok (.aload_n 0, 1) := by decide +kernel
theorem dX2_removeSet_4 : decode cX2_removeSet 4 = .ok (.getfield 51, 3) := by decide +kernel
theorem dX2_removeSet_7 : decode cX2_removeSet 7 = .ok (.iconst 1, 1) := by decide +kernel
theorem dX2_removeSet_8 : decode cX2_removeSet 8 = .ok (.isub, 1) := by decide +kernel
theorem dX2_removeSet_9 : decode cX2_removeSet 9 = .ok (.if_icmp .ge 23, 3) := by decide +kernel
theorem dX2_removeSet_12 : decode cX2_removeSet 12 = .ok (.aload_n 0, 1) := by decide +kernel
theorem dX2_removeSet_13 : decode cX2_removeSet 13 = .ok (.getfield 21, 3) := by decide +kernel
theorem dX2_removeSet_16 : decode cX2_removeSet 16 = .ok (.iload_n 2, 1) := by decide +kernel
theorem dX2_removeSet_17 : decode cX2_removeSet 17 = .ok (.aload_n 0, 1) := by decide +kernel
theorem dX2_removeSet_18 : decode cX2_removeSet 18 = .ok (.getfield 21, 3) := by decide +kernel
theorem dX2_removeSet_21 : decode cX2_removeSet 21 = .ok (.iload_n 2, 1) := by decide +kernel
theorem dX2_removeSet_22 : decode cX2_removeSet 22 = .ok (.iconst 1, 1) := by decide +kernel
theorem dX2_removeSet_23 : decode cX2_removeSet 23 = .ok (.iadd, 1) := by decide +kernel
theorem dX2_removeSet_24 : decode cX2_removeSet 24 = .ok (.iaload, 1) := by decide +kernel
theorem dX2_removeSet_25 : decode cX2_removeSet 25 = .ok (.iastore, 1) := by decide +kernel
theorem dX2_removeSet_26 : decode cX2_removeSet 26 = .ok (.iinc 2 1, 3) := by decide +kernel
theorem dX2_removeSet_29 : decode cX2_removeSet 29 = .ok (.goto (-27), 3) := by decide +kernel
theorem dX2_removeSet_32 : decode cX2_removeSet 32 = .ok (.aload_n 0, 1) := by decide +kernel
theorem dX2_removeSet_33 : decode cX2_removeSet 33 = .ok (.dup, 1) := by decide +kernel
theorem dX2_removeSet_34 : decode cX2_removeSet 34 = .ok (.getfield 51, 3) := by decide +kernel
theorem dX2_removeSet_37 : decode cX2_removeSet 37 = .ok (.iconst 1, 1) := by decide +kernel
theorem dX2_removeSet_38 : decode cX2_removeSet 38 = .ok (.isub, 1) := by decide +kernel
theorem dX2_removeSet_39 : decode cX2_removeSet 39 = .ok (.putfield 51, 3) := by decide +kernel
theorem dX2_removeSet_42 : decode cX2_removeSet 42 = .ok (.aload_n 0, 1) := by decide +kernel
theorem dX2_removeSet_43 : decode cX2_removeSet 43 = .ok (.getfield 51, 3) := by decide +kernel
theorem dX2_removeSet_46 : decode cX2_removeSet 46 = .ok (.ireturn, 1) := by decide +kernel
theorem dX2_forbids_0 : decode cX2_forbids 0 = .ok (.iconst 0, 1) := by decide +kernel
theorem dX2_forbids_1 : decode cX2_forbids 1 = .ok (.istore_n 2, 1) := by decide +kernel
theorem dX2_forbids_2 : decode cX2_forbids 2 = .ok (.iload_n 2, 1) := by decide +kernel
theorem dX2_forbids_3 : decode cX2_forbids 3 = .ok (.aload_n 0, 1) := by decide +kernel
theorem dX2_forbids_4 : decode cX2_forbids 4 = .ok (.getfield 51, 3) := by decide +kernel
theorem dX2_forbids_7 : decode cX2_forbids 7 = .ok (.if_icmp .ge 28, 3) := by decide +kernel
theorem dX2_forbids_10 : decode cX2_forbids 10 = .ok (.iload_n 1, 1) := by decide +kernel
theorem dX2_forbids_11 : decode cX2_forbids 11 = .ok (.aload_n 0, 1) := by decide +kernel
theorem dX2_forbids_12 : decode cX2_forbids 12 = .ok (.getfield 21, 3) := by decide +kernel
theorem dX2_forbids_15 : decode cX2_forbids 15 = .ok (.iload_n 2, 1) := by decide +kernel
theorem dX2_forbids_16 : decode cX2_forbids 16 = .ok (.iaload, 1) := by decide +kernel
theorem dX2_forbids_17 : decode cX2_forbids 17 = .ok (.iand, 1) := by decide +kernel
theorem dX2_forbids_18 : decode cX2_forbids 18 = .ok (.aload_n 0, 1) := by decide +kernel
theorem dX2_forbids_19 : decode cX2_forbids 19 = .ok (.getfield 21, 3) := by decide +kernel
theorem dX2_forbids_22 : decode cX2_forbids 22 = .ok (.iload_n 2, 1) := by decide +kernel
theorem dX2_forbids_23 : decode cX2_forbids 23 = .ok (.iaload, 1) := by decide +kernel
theorem dX2_forbids_24 : decode cX2_forbids 24 = .ok (.if_icmp .ne 5, 3) := by decide +kernel
theorem dX2_forbids_27 : decode cX2_forbids 27 = .ok (.iconst 1, 1) := by decide +kernel
theorem dX2_forbids_28 : decode cX2_forbids 28 = .ok (.ireturn, 1) := by decide +kernel
theorem dX2_forbids_29 : decode cX2_forbids 29 = .ok (.iinc 2 1, 3) := by decide +kernel
theorem dX2_forbids_32 : decode cX2_forbids 32 = .ok (.goto (-30), 3) := by decide +kernel
theorem dX2_forbids_35 : decode cX2_forbids 35 = .ok (.iconst 0, 1) := by decide +kernel
theorem dX2_forbids_36 : decode cX2_forbids 36 = .ok (.ireturn, 1) := by decide +kernel
theorem dX2_insertRequest_0 : decode cX2_insertRequest 0 = .ok (.aload_n 0, 1) := by decide +kernel
theorem dX2_insertRequest_1 : decode cX2_insertRequest 1 = .ok (.getfield 54, 3) := by decide +kernel
theorem dX2_insertRequest_4 : decode cX2_insertRequest 4 = .ok (.iconst 3, 1) := by decide +kernel
theorem dX2_insertRequest_5 : decode cX2_insertRequest 5 = .ok (.imul, 1) := by decide +kernel
theorem dX2_insertRequest_6 : decode cX2_insertRequest 6 = .ok (.istore 5, 2) := by decide +kernel
theorem dX2_insertRequest_8 : decode cX2_insertRequest 8 = .ok (.iload 5, 2) := by decide +kernel
theorem dX2_insertRequest_10 : decode cX2_insertRequest 10 = .ok (.iconst 3, 1) := by decide +kernel
theorem dX2_insertRequest_11 : decode cX2_insertRequest 11 = .ok (.iadd, 1) := by decide +kernel
theorem dX2_insertRequest_12 : decode cX2_insertRequest 12 = .ok (.aload_n 0, 1) := by decide +kernel
theorem dX2_insertRequest_13 : decode cX2_insertRequest 13 = .ok (.getfield 24, 3) := by decide +kernel
theorem dX2_insertRequest_16 : decode cX2_insertRequest 16 = .ok (.arraylength, 1) := by decide +kernel
theorem dX2_insertRequest_17 : decode cX2_insertRequest 17 = .ok (.if_icmp .le 4, 3) := by decide +kernel
theorem dX2_insertRequest_20 : decode cX2_insertRequest 20 = .ok (.return_, 1) := by decide +kernel
theorem dX2_insertRequest_21 : decode cX2_insertRequest 21 = .ok (.iload 4, 2) := by decide +kernel
theorem dX2_insertRequest_23 : decode cX2_insertRequest 23 = .ok (.ifCond .eq 18, 3) := by decide +kernel
theorem dX2_insertRequest_26 : decode cX2_insertRequest 26 = .ok (.aload_n 0, 1) := by decide +kernel
theorem dX2_insertRequest_27 : decode cX2_insertRequest 27 = .ok (.getfield 24, 3) := by decide +kernel
theorem dX2_insertRequest_30 : decode cX2_insertRequest 30 = .ok (.iconst 0, 1) := by decide +kernel
theorem dX2_insertRequest_31 : decode cX2_insertRequest 31 = .ok (.aload_n 0, 1) := by decide +kernel
theorem dX2_insertRequest_32 : decode cX2_insertRequest 32 = .ok (.getfield 24, 3) := by decide +kernel
theorem dX2_insertRequest_35 : decode cX2_insertRequest 35 = .ok (.iconst 3, 1) := by decide +kernel
theorem dX2_insertRequest_36 : decode cX2_insertRequest 36 = .ok (.iload 5, 2) := by decide +kernel
theorem dX2_insertRequest_38 : decode cX2_insertRequest 38 = .ok (.invokestatic 41, 3) := by decide +kernel
theorem dX2_insertRequest_41 : decode cX2_insertRequest 41 = .ok (.iload 4, 2) := by decide +kernel
theorem dX2_insertRequest_43 : decode cX2_insertRequest 43 = .ok (.ifCond .eq 7, 3) := by decide +kernel
theorem dX2_insertRequest_46 : decode cX2_insertRequest 46 = .ok (.iconst 0, 1) := by decide +kernel
theorem dX2_insertRequest_47 : decode cX2_insertRequest 47 = .ok (.goto 5, 3) := by decide +kernel
theorem dX2_insertRequest_50 : decode cX2_insertRequest 50 = .ok (.iload 5, 2) := by decide +kernel
theorem dX2_insertRequest_52 : decode cX2_insertRequest 52 = .ok (.istore 6, 2) := by decide +kernel
theorem dX2_insertRequest_54 : decode cX2_insertRequest 54 = .ok (.aload_n 0, 1) := by decide +kernel
theorem dX2_insertRequest_55 : decode cX2_insertRequest 55 = .ok (.getfield 24, 3) := by decide +kernel
theorem dX2_insertRequest_58 : decode cX2_insertRequest 58 = .ok (.iload 6, 2) := by decide +kernel
theorem dX2_insertRequest_60 : decode cX2_insertRequest 60 = .ok (.iload_n 1, 1) := by decide +kernel
theorem dX2_insertRequest_61 : decode cX2_insertRequest 61 = .ok (.iastore, 1) := by decide +kernel
theorem dX2_insertRequest_62 : decode cX2_insertRequest 62 = .ok (.aload_n 0, 1) := by decide +kernel
theorem dX2_insertRequest_63 : decode cX2_insertRequest 63 = .ok (.getfield 24, 3) := by decide +kernel
theorem dX2_insertRequest_66 : decode cX2_insertRequest 66 = .ok (.iload 6, 2) := by decide +kernel
theorem dX2_insertRequest_68 : decode cX2_insertRequest 68 = .ok (.iconst 1, 1) := by decide +kernel
theorem dX2_insertRequest_69 : decode cX2_insertRequest 69 = .ok (.iadd, 1) := by decide +kernel
theorem dX2_insertRequest_70 : decode cX2_insertRequest 70 = .ok (.iload_n 2, 1) := by decide +kernel
theorem dX2_insertRequest_71 : decode cX2_insertRequest 71 = .ok (.iastore, 1) := by decide +kernel
theorem dX2_insertRequest_72 : decode cX2_insertRequest 72 = .ok (.aload_n 0, 1) := by decide +kernel
theorem dX2_insertRequest_73 : decode cX2_insertRequest 73 = .ok (.getfield 24, 3) := by decide +kernel
theorem dX2_insertRequest_76 : decode cX2_insertRequest 76 = .ok (.iload 6, 2) := by decide +kernel
theorem dX2_insertRequest_78 : decode cX2_insertRequest 78 = .ok (.iconst 2, 1) := by decide +kernel
theorem dX2_insertRequest_79 : decode cX2_insertRequest 79 = .ok (.iadd, 1) := by decide +kernel
theorem dX2_insertRequest_80 : decode cX2_insertRequest 80 = .ok (.iload_n 3, 1) := by decide +kernel
theorem dX2_insertRequest_81 : decode cX2_insertRequest 81 = .ok (.iastore, 1) := by decide +kernel
theorem dX2_insertRequest_82 : decode cX2_insertRequest 82 = .ok (.aload_n 0, 1) := by decide +kernel
theorem dX2_insertRequest_83 : decode cX2_insertRequest 83 = .ok (.dup, 1) := by decide +kernel
theorem dX2_insertRequest_84 : decode cX2_insertRequest 84 = .ok (.getfield 54, 3) := by decide +kernel
theorem dX2_insertRequest_87 : decode cX2_insertRequest 87 = .ok (.iconst 1, 1) := by decide +kernel
theorem dX2_insertRequest_88 : decode cX2_insertRequest 88 = .ok (.iadd, 1) := by decide +kernel
theorem dX2_insertRequest_89 : decode cX2_insertRequest 89 = .ok (.putfield 54, 3) := by decide +kernel
theorem dX2_insertRequest_92 : decode cX2_insertRequest 92 = .ok (.return_, 1) := by decide +kernel
theorem dX2_removeRequest_0 : decode cX2_removeRequest 0 = .ok (.iload_n 1, 1) := by decide +kernel
theorem dX2_removeRequest_1 : decode cX2_removeRequest 1 = .ok (.iconst 1, 1) := by decide +kernel
theorem dX2_removeRequest_2 : decode cX2_removeRequest 2 = .ok (.iadd, 1) := by decide +kernel
theorem dX2_removeRequest_3 : decode cX2_removeRequest 3 = .ok (.iconst 3, 1) := by decide +kernel
theorem dX2_removeRequest_4 : decode cX2_removeRequest 4 = .ok (.imul, 1) := by decide +kernel
theorem dX2_removeRequest_5 : decode cX2_removeRequest 5 = .ok (.istore_n 2, 1) := by decide +kernel
theorem dX2_removeRequest_6 : decode cX2_removeRequest 6 = .ok (.aload_n 0, 1) := by decide +kernel
theorem dX2_removeRequest_7 : decode cX2_removeRequest 7 = .ok (.getfield 24, 3) := by decide +kernel
theorem dX2_removeRequest_10 : decode cX2_removeRequest 10 = .ok (.iload_n 2, 1) := by decide +kernel
theorem dX2_removeRequest_11 : decode cX2_removeRequest 11 = .ok (.aload_n 0, 1) := by decide +kernel
theorem dX2_removeRequest_12 : decode cX2_removeRequest 12 = .ok (.getfield 24, 3) := by decide +kernel
theorem dX2_removeRequest_15 : decode cX2_removeRequest 15 = .ok (.iload_n 1, 1) := by decide +kernel
theorem dX2_removeRequest_16 : decode cX2_removeRequest 16 = .ok (.iconst 3, 1) := by decide +kernel
theorem dX2_removeRequest_17 : decode cX2_removeRequest 17 = .ok (.imul, 1) := by decide +kernel
theorem dX2_removeRequest_18 : decode cX2_removeRequest 18 = .ok (.aload_n 0, 1) := by decide +kernel
theorem dX2_removeRequest_19 : decode cX2_removeRequest 19 = .ok (.getfield 54, 3) := by decide +kernel
theorem dX2_removeRequest_22 : decode cX2_removeRequest 22 = .ok (.iconst 3, 1) := by decide +kernel
theorem dX2_removeRequest_23 : decode cX2_removeRequest 23 = .ok (.imul, 1) := by decide +kernel
theorem dX2_removeRequest_24 : decode cX2_removeRequest 24 = .ok (.iload_n 2, 1) := by decide +kernel
theorem dX2_removeRequest_25 : decode cX2_removeRequest 25 = .ok (.isub, 1) := by decide +kernel
theorem dX2_removeRequest_26 : decode cX2_removeRequest 26 = .ok (.invokestatic 41, 3) := by decide +kernel
theorem dX2_removeRequest_29 : decode cX2_removeRequest 29 = .ok (.aload_n 0, 1) := by decide +kernel
theorem dX2_removeRequest_30 : decode cX2_removeRequest 30 = .ok (.dup, 1) := by decide +kernel
theorem dX2_removeRequest_31 : decode cX2_removeRequest 31 = .ok (.getfield 54, 3) := by decide +kernel
theorem dX2_removeRequest_34 : decode cX2_removeRequest 34 = .ok (.iconst 1, 1) := by decide +kernel
theorem dX2_removeRequest_35 : decode cX2_removeRequest 35 = .ok (.isub, 1) := by decide +kernel
theorem dX2_removeRequest_36 : decode cX2_removeRequest 36 = .ok (.putfield 54, 3) := by decide +kernel
theorem dX2_removeRequest_39 : decode cX2_removeRequest 39 = .ok (.return_, 1) := by decide +kernel
theorem dX2_takeTarget_0 : decode cX2_takeTarget 0 = .ok (.iconst 0, 1) := by decide +kernel
theorem dX2_takeTarget_1 : decode cX2_takeTarget 1 = .ok (.istore_n 2, 1) := by decide +kernel
theorem dX2_takeTarget_2 : decode cX2_takeTarget 2 = .ok (.iload_n 2, 1) := by decide +kernel
theorem dX2_takeTarget_3 : decode cX2_takeTarget 3 = .ok (.iconst 3, 1) := by decide +kernel
theorem dX2_takeTarget_4 : decode cX2_takeTarget 4 = .ok (.if_icmp .ge 79, 3) := by decide +kernel
theorem dX2_takeTarget_7 : decode cX2_takeTarget 7 = .ok (.aload_n 0, 1) := by decide +kernel
theorem dX2_takeTarget_8 : decode cX2_takeTarget 8 = .ok (.iconst 0, 1) := by decide +kernel
theorem dX2_takeTarget_9 : decode cX2_takeTarget 9 = .ok (.iload_n 2, 1) := by decide +kernel
theorem dX2_takeTarget_10 : decode cX2_takeTarget 10 = .ok (.invokevirtual 85, 3) := by decide +kernel
theorem dX2_takeTarget_13 : decode cX2_takeTarget 13 = .ok (.aload_n 0, 1) := by decide +kernel
theorem dX2_takeTarget_14 : decode cX2_takeTarget 14 = .ok (.getfield 54, 3) := by decide +kernel
theorem dX2_takeTarget_17 : decode cX2_takeTarget 17 = .ok (.ifCond .le 12, 3) := by decide +kernel
theorem dX2_takeTarget_20 : decode cX2_takeTarget 20 = .ok (.aload_n 0, 1) := by decide +kernel
theorem dX2_takeTarget_21 : decode cX2_takeTarget 21 = .ok (.getfield 24, 3) := by decide +kernel
theorem dX2_takeTarget_24 : decode cX2_takeTarget 24 = .ok (.iload_n 2, 1) := by decide +kernel
theorem dX2_takeTarget_25 : decode cX2_takeTarget 25 = .ok (.iaload, 1) := by decide +kernel
theorem dX2_takeTarget_26 : decode cX2_takeTarget 26 = .ok (.goto 4, 3) := by decide +kernel
theorem dX2_takeTarget_29 : decode cX2_takeTarget 29 = .ok (.iconst 0, 1) := by decide +kernel
theorem dX2_takeTarget_30 : decode cX2_takeTarget 30 = .ok (.iadd, 1) := by decide +kernel
theorem dX2_takeTarget_31 : decode cX2_takeTarget 31 = .ok (.istore_n 3, 1) := by decide +kernel
theorem dX2_takeTarget_32 : decode cX2_takeTarget 32 = .ok (.iconst 0, 1) := by decide +kernel
theorem dX2_takeTarget_33 : decode cX2_takeTarget 33 = .ok (.istore 4, 2) := by decide +kernel
theorem dX2_takeTarget_35 : decode cX2_takeTarget 35 = .ok (.iload 4, 2) := by decide +kernel
theorem dX2_takeTarget_37 : decode cX2_takeTarget 37 = .ok (.aload_n 0, 1) := by decide +kernel
theorem dX2_takeTarget_38 : decode cX2_takeTarget 38 = .ok (.getfield 47, 3) := by decide +kernel
theorem dX2_takeTarget_41 : decode cX2_takeTarget 41 = .ok (.if_icmp .ge 26, 3) := by decide +kernel
theorem dX2_takeTarget_44 : decode cX2_takeTarget 44 = .ok (.iload_n 3, 1) := by decide +kernel
theorem dX2_takeTarget_45 : decode cX2_takeTarget 45 = .ok (.iload_n 1, 1) := by decide +kernel
theorem dX2_takeTarget_46 : decode cX2_takeTarget 46 = .ok (.iload 4, 2) := by decide +kernel
theorem dX2_takeTarget_48 : decode cX2_takeTarget 48 = .ok (.invokestatic 88, 3) := by decide +kernel
theorem dX2_takeTarget_51 : decode cX2_takeTarget 51 = .ok (.aload_n 0, 1) := by decide +kernel
theorem dX2_takeTarget_52 : decode cX2_takeTarget 52 = .ok (.iload 4, 2) := by decide +kernel
theorem dX2_takeTarget_54 : decode cX2_takeTarget 54 = .ok (.iload_n 2, 1) := by decide +kernel
theorem dX2_takeTarget_55 : decode cX2_takeTarget 55 = .ok (.invokevirtual 91, 3) := by decide +kernel
theorem dX2_takeTarget_58 : decode cX2_takeTarget 58 = .ok (.imul, 1) := by decide +kernel
theorem dX2_takeTarget_59 : decode cX2_takeTarget 59 = .ok (.isub, 1) := by decide +kernel
theorem dX2_takeTarget_60 : decode cX2_takeTarget 60 = .ok (.istore_n 3, 1) := by decide +kernel
theorem dX2_takeTarget_61 : decode cX2_takeTarget 61 = .ok (.iinc 4 1, 3) := by decide +kernel
theorem dX2_takeTarget_64 : decode cX2_takeTarget 64 = .ok (.goto (-29), 3) := by decide +kernel
theorem dX2_takeTarget_67 : decode cX2_takeTarget 67 = .ok (.aload_n 0, 1) := by decide +kernel
theorem dX2_takeTarget_68 : decode cX2_takeTarget 68 = .ok (.getfield 27, 3) := by decide +kernel
theorem dX2_takeTarget_71 : decode cX2_takeTarget 71 = .ok (.bipush 6, 2) := by decide +kernel
theorem dX2_takeTarget_73 : decode cX2_takeTarget 73 = .ok (.iload_n 2, 1) := by decide +kernel
theorem dX2_takeTarget_74 : decode cX2_takeTarget 74 = .ok (.iadd, 1) := by decide +kernel
theorem dX2_takeTarget_75 : decode cX2_takeTarget 75 = .ok (.iload_n 3, 1) := by decide +kernel
theorem dX2_takeTarget_76 : decode cX2_takeTarget 76 = .ok (.iastore, 1) := by decide +kernel
theorem dX2_takeTarget_77 : decode cX2_takeTarget 77 = .ok (.iinc 2 1, 3) := by decide +kernel
theorem dX2_takeTarget_80 : decode cX2_takeTarget 80 = .ok (.goto (-78), 3) := by decide +kernel
theorem dX2_takeTarget_83 : decode cX2_takeTarget 83 = .ok (.aload_n 0, 1) := by decide +kernel
theorem dX2_takeTarget_84 : decode cX2_takeTarget 84 = .ok (.getfield 54, 3) := by decide +kernel
theorem dX2_takeTarget_87 : decode cX2_takeTarget 87 = .ok (.ifCond .le 8, 3) := by decide +kernel
theorem dX2_takeTarget_90 : decode cX2_takeTarget 90 = .ok (.aload_n 0, 1) := by decide +kernel
theorem dX2_takeTarget_91 : decode cX2_takeTarget 91 = .ok (.iconst 0, 1) := by decide +kernel
theorem dX2_takeTarget_92 : decode cX2_takeTarget 92 = .ok (.invokevirtual 94, 3) := by decide +kernel
theorem dX2_takeTarget_95 : decode cX2_takeTarget 95 = .ok (.return_, 1) := by decide +kernel
theorem dX2_ranTicks_0 : decode cX2_ranTicks 0 = .ok (.iload_n 0, 1) := by decide +kernel
theorem dX2_ranTicks_1 : decode cX2_ranTicks 1 = .ok (.iload_n 1, 1) := by decide +kernel
theorem dX2_ranTicks_2 : decode cX2_ranTicks 2 = .ok (.ishr, 1) := by decide +kernel
theorem dX2_ranTicks_3 : decode cX2_ranTicks 3 = .ok (.iconst 1, 1) := by decide +kernel
theorem dX2_ranTicks_4 : decode cX2_ranTicks 4 = .ok (.iand, 1) := by decide +kernel
theorem dX2_ranTicks_5 : decode cX2_ranTicks 5 = .ok (.bipush 20, 2) := by decide +kernel
theorem dX2_ranTicks_7 : decode cX2_ranTicks 7 = .ok (.imul, 1) := by decide +kernel
theorem dX2_ranTicks_8 : decode cX2_ranTicks 8 = .ok (.ireturn, 1) := by decide +kernel
theorem dX2_setPulses_0 : decode cX2_setPulses 0 = .ok (.iconst 0, 1) := by decide +kernel
theorem dX2_setPulses_1 : decode cX2_setPulses 1 = .ok (.istore_n 2, 1) := by decide +kernel
theorem dX2_setPulses_2 : decode cX2_setPulses 2 = .ok (.aload_n 0, 1) := by decide +kernel
theorem dX2_setPulses_3 : decode cX2_setPulses 3 = .ok (.iconst 0, 1) := by decide +kernel
theorem dX2_setPulses_4 : decode cX2_setPulses 4 = .ok (.putfield 60, 3) := by decide +kernel
theorem dX2_setPulses_7 : decode cX2_setPulses 7 = .ok (.iconst 0, 1) := by decide +kernel
theorem dX2_setPulses_8 : decode cX2_setPulses 8 = .ok (.istore_n 3, 1) := by decide +kernel
theorem dX2_setPulses_9 : decode cX2_setPulses 9 = .ok (.iload_n 3, 1) := by decide +kernel
theorem dX2_setPulses_10 : decode cX2_setPulses 10 = .ok (.aload_n 0, 1) := by decide +kernel
theorem dX2_setPulses_11 : decode cX2_setPulses 11 = .ok (.getfield 47, 3) := by decide +kernel
theorem dX2_setPulses_14 : decode cX2_setPulses 14 = .ok (.if_icmp .ge 71, 3) := by decide +kernel
theorem dX2_setPulses_17 : decode cX2_setPulses 17 = .ok (.aload_n 0, 1) := by decide +kernel
theorem dX2_setPulses_18 : decode cX2_setPulses 18 = .ok (.getfield 15, 3) := by decide +kernel
theorem dX2_setPulses_21 : decode cX2_setPulses 21 = .ok (.iload_n 3, 1) := by decide +kernel
theorem dX2_setPulses_22 : decode cX2_setPulses 22 = .ok (.aload_n 1, 1) := by decide +kernel
theorem dX2_setPulses_23 : decode cX2_setPulses 23 = .ok (.iload_n 3, 1) := by decide +kernel
theorem dX2_setPulses_24 : decode cX2_setPulses 24 = .ok (.aload_n 0, 1) := by decide +kernel
theorem dX2_setPulses_25 : decode cX2_setPulses 25 = .ok (.iload_n 3, 1) := by decide +kernel
theorem dX2_setPulses_26 : decode cX2_setPulses 26 = .ok (.iconst 5, 1) := by decide +kernel
theorem dX2_setPulses_27 : decode cX2_setPulses 27 = .ok (.invokevirtual 67, 3) := by decide +kernel
theorem dX2_setPulses_30 : decode cX2_setPulses 30 = .ok (.invokevirtual 98, 3) := by decide +kernel
theorem dX2_setPulses_33 : decode cX2_setPulses 33 = .ok (.iastore, 1) := by decide +kernel
theorem dX2_setPulses_34 : decode cX2_setPulses 34 = .ok (.iload_n 2, 1) := by decide +kernel
theorem dX2_setPulses_35 : decode cX2_setPulses 35 = .ok (.aload_n 0, 1) := by decide +kernel
theorem dX2_setPulses_36 : decode cX2_setPulses 36 = .ok (.getfield 15, 3) := by decide +kernel
theorem dX2_setPulses_39 : decode cX2_setPulses 39 = .ok (.iload_n 3, 1) := by decide +kernel
theorem dX2_setPulses_40 : decode cX2_setPulses 40 = .ok (.iaload, 1) := by decide +kernel
theorem dX2_setPulses_41 : decode cX2_setPulses 41 = .ok (.ifCond .le 9, 3) := by decide +kernel
theorem dX2_setPulses_44 : decode cX2_setPulses 44 = .ok (.iconst 1, 1) := by decide +kernel
theorem dX2_setPulses_45 : decode cX2_setPulses 45 = .ok (.iload_n 3, 1) := by decide +kernel
theorem dX2_setPulses_46 : decode cX2_setPulses 46 = .ok (.ishl, 1) := by decide +kernel
theorem dX2_setPulses_47 : decode cX2_setPulses 47 = .ok (.goto 4, 3) := by decide +kernel
theorem dX2_setPulses_50 : decode cX2_setPulses 50 = .ok (.iconst 0, 1) := by decide +kernel
theorem dX2_setPulses_51 : decode cX2_setPulses 51 = .ok (.ior, 1) := by decide +kernel
theorem dX2_setPulses_52 : decode cX2_setPulses 52 = .ok (.istore_n 2, 1) := by decide +kernel
theorem dX2_setPulses_53 : decode cX2_setPulses 53 = .ok (.aload_n 0, 1) := by decide +kernel
theorem dX2_setPulses_54 : decode cX2_setPulses 54 = .ok (.dup, 1) := by decide +kernel
theorem dX2_setPulses_55 : decode cX2_setPulses 55 = .ok (.getfield 60, 3) := by decide +kernel
theorem dX2_setPulses_58 : decode cX2_setPulses 58 = .ok (.aload_n 0, 1) := by decide +kernel
theorem dX2_setPulses_59 : decode cX2_setPulses 59 = .ok (.iload_n 3, 1) := by decide +kernel
theorem dX2_setPulses_60 : decode cX2_setPulses 60 = .ok (.bipush 6, 2) := by decide +kernel
theorem dX2_setPulses_62 : decode cX2_setPulses 62 = .ok (.invokevirtual 67, 3) := by decide +kernel
theorem dX2_setPulses_65 : decode cX2_setPulses 65 = .ok (.ifCond .ne 9, 3) := by decide +kernel
theorem dX2_setPulses_68 : decode cX2_setPulses 68 = .ok (.iconst 1, 1) := by decide +kernel
theorem dX2_setPulses_69 : decode cX2_setPulses 69 = .ok (.iload_n 3, 1) := by decide +kernel
theorem dX2_setPulses_70 : decode cX2_setPulses 70 = .ok (.ishl, 1) := by decide +kernel
theorem dX2_setPulses_71 : decode cX2_setPulses 71 = .ok (.goto 4, 3) := by decide +kernel
theorem dX2_setPulses_74 : decode cX2_setPulses 74 = .ok (.iconst 0, 1) := by decide +kernel
theorem dX2_setPulses_75 : decode cX2_setPulses 75 = .ok (.ior, 1) := by decide +kernel
theorem dX2_setPulses_76 : decode cX2_setPulses 76 = .ok (.putfield 60, 3) := by decide +kernel
theorem dX2_setPulses_79 : decode cX2_setPulses 79 = .ok (.iinc 3 1, 3) := by decide +kernel
theorem dX2_setPulses_82 : decode cX2_setPulses 82 = .ok (.goto (-73), 3) := by decide +kernel
theorem dX2_setPulses_85 : decode cX2_setPulses 85 = .ok (.iload_n 2, 1) := by decide +kernel
theorem dX2_setPulses_86 : decode cX2_setPulses 86 = .ok (.ireturn, 1) := by decide +kernel
theorem dX2_deliver_0 : decode cX2_deliver 0 = .ok (.iconst 0, 1) := by decide +kernel
theorem dX2_deliver_1 : decode cX2_deliver 1 = .ok (.istore_n 2, 1) := by decide +kernel
theorem dX2_deliver_2 : decode cX2_deliver 2 = .ok (.iload_n 2, 1) := by decide +kernel
theorem dX2_deliver_3 : decode cX2_deliver 3 = .ok (.iconst 3, 1) := by decide +kernel
theorem dX2_deliver_4 : decode cX2_deliver 4 = .ok (.if_icmp .ge 127, 3) := by decide +kernel
theorem dX2_deliver_7 : decode cX2_deliver 7 = .ok (.iconst 0, 1) := by decide +kernel
theorem dX2_deliver_8 : decode cX2_deliver 8 = .ok (.istore_n 3, 1) := by decide +kernel
theorem dX2_deliver_9 : decode cX2_deliver 9 = .ok (.iconst 0, 1) := by decide +kernel
theorem dX2_deliver_10 : decode cX2_deliver 10 = .ok (.istore 4, 2) := by decide +kernel
theorem dX2_deliver_12 : decode cX2_deliver 12 = .ok (.iconst 0, 1) := by decide +kernel
theorem dX2_deliver_13 : decode cX2_deliver 13 = .ok (.istore 5, 2) := by decide +kernel
theorem dX2_deliver_15 : decode cX2_deliver 15 = .ok (.iload 5, 2) := by decide +kernel
theorem dX2_deliver_17 : decode cX2_deliver 17 = .ok (.aload_n 0, 1) := by decide +kernel
theorem dX2_deliver_18 : decode cX2_deliver 18 = .ok (.getfield 47, 3) := by decide +kernel
theorem dX2_deliver_21 : decode cX2_deliver 21 = .ok (.if_icmp .ge 46, 3) := by decide +kernel
theorem dX2_deliver_24 : decode cX2_deliver 24 = .ok (.iload_n 3, 1) := by decide +kernel
theorem dX2_deliver_25 : decode cX2_deliver 25 = .ok (.aload_n 0, 1) := by decide +kernel
theorem dX2_deliver_26 : decode cX2_deliver 26 = .ok (.getfield 15, 3) := by decide +kernel
theorem dX2_deliver_29 : decode cX2_deliver 29 = .ok (.iload 5, 2) := by decide +kernel
theorem dX2_deliver_31 : decode cX2_deliver 31 = .ok (.iaload, 1) := by decide +kernel
theorem dX2_deliver_32 : decode cX2_deliver 32 = .ok (.aload_n 0, 1) := by decide +kernel
theorem dX2_deliver_33 : decode cX2_deliver 33 = .ok (.iload 5, 2) := by decide +kernel
theorem dX2_deliver_35 : decode cX2_deliver 35 = .ok (.iload_n 2, 1) := by decide +kernel
theorem dX2_deliver_36 : decode cX2_deliver 36 = .ok (.invokevirtual 91, 3) := by decide +kernel
theorem dX2_deliver_39 : decode cX2_deliver 39 = .ok (.imul, 1) := by decide +kernel
theorem dX2_deliver_40 : decode cX2_deliver 40 = .ok (.iadd, 1) := by decide +kernel
theorem dX2_deliver_41 : decode cX2_deliver 41 = .ok (.istore_n 3, 1) := by decide +kernel
theorem dX2_deliver_42 : decode cX2_deliver 42 = .ok (.iload 4, 2) := by decide +kernel
theorem dX2_deliver_44 : decode cX2_deliver 44 = .ok (.iload_n 1, 1) := by decide +kernel
theorem dX2_deliver_45 : decode cX2_deliver 45 = .ok (.iload 5, 2) := by decide +kernel
theorem dX2_deliver_47 : decode cX2_deliver 47 = .ok (.invokestatic 88, 3) := by decide +kernel
theorem dX2_deliver_50 : decode cX2_deliver 50 = .ok (.aload_n 0, 1) := by decide +kernel
theorem dX2_deliver_51 : decode cX2_deliver 51 = .ok (.iload 5, 2) := by decide +kernel
theorem dX2_deliver_53 : decode cX2_deliver 53 = .ok (.iload_n 2, 1) := by decide +kernel
theorem dX2_deliver_54 : decode cX2_deliver 54 = .ok (.invokevirtual 91, 3) := by decide +kernel
theorem dX2_deliver_57 : decode cX2_deliver 57 = .ok (.imul, 1) := by decide +kernel
theorem dX2_deliver_58 : decode cX2_deliver 58 = .ok (.iadd, 1) := by decide +kernel
theorem dX2_deliver_59 : decode cX2_deliver 59 = .ok (.istore 4, 2) := by decide +kernel
theorem dX2_deliver_61 : decode cX2_deliver 61 = .ok (.iinc 5 1, 3) := by decide +kernel
theorem dX2_deliver_64 : decode cX2_deliver 64 = .ok (.goto (-49), 3) := by decide +kernel
theorem dX2_deliver_67 : decode cX2_deliver 67 = .ok (.aload_n 0, 1) := by decide +kernel
theorem dX2_deliver_68 : decode cX2_deliver 68 = .ok (.iconst 2, 1) := by decide +kernel
theorem dX2_deliver_69 : decode cX2_deliver 69 = .ok (.iload_n 2, 1) := by decide +kernel
theorem dX2_deliver_70 : decode cX2_deliver 70 = .ok (.invokevirtual 85, 3) := by decide +kernel
theorem dX2_deliver_73 : decode cX2_deliver 73 = .ok (.iload_n 3, 1) := by decide +kernel
theorem dX2_deliver_74 : decode cX2_deliver 74 = .ok (.isub, 1) := by decide +kernel
theorem dX2_deliver_75 : decode cX2_deliver 75 = .ok (.istore 5, 2) := by decide +kernel
theorem dX2_deliver_77 : decode cX2_deliver 77 = .ok (.aload_n 0, 1) := by decide +kernel
theorem dX2_deliver_78 : decode cX2_deliver 78 = .ok (.getfield 27, 3) := by decide +kernel
theorem dX2_deliver_81 : decode cX2_deliver 81 = .ok (.iconst 0, 1) := by decide +kernel
theorem dX2_deliver_82 : decode cX2_deliver 82 = .ok (.iload_n 2, 1) := by decide +kernel
theorem dX2_deliver_83 : decode cX2_deliver 83 = .ok (.iadd, 1) := by decide +kernel
theorem dX2_deliver_84 : decode cX2_deliver 84 = .ok (.sipush (-4000), 3) := by decide +kernel
theorem dX2_deliver_87 : decode cX2_deliver 87 = .ok (.sipush 4000, 3) := by decide +kernel
theorem dX2_deliver_90 : decode cX2_deliver 90 = .ok (.iload 5, 2) := by decide +kernel
theorem dX2_deliver_92 : decode cX2_deliver 92 = .ok (.invokestatic 103, 3) := by decide +kernel
theorem dX2_deliver_95 : decode cX2_deliver 95 = .ok (.invokestatic 108, 3) := by decide +kernel
theorem dX2_deliver_98 : decode cX2_deliver 98 = .ok (.iastore, 1) := by decide +kernel
theorem dX2_deliver_99 : decode cX2_deliver 99 = .ok (.aload_n 0, 1) := by decide +kernel
theorem dX2_deliver_100 : decode cX2_deliver 100 = .ok (.getfield 27, 3) := by decide +kernel
theorem dX2_deliver_103 : decode cX2_deliver 103 = .ok (.iconst 3, 1) := by decide +kernel
theorem dX2_deliver_104 : decode cX2_deliver 104 = .ok (.iload_n 2, 1) := by decide +kernel
theorem dX2_deliver_105 : decode cX2_deliver 105 = .ok (.iadd, 1) := by decide +kernel
theorem dX2_deliver_106 : decode cX2_deliver 106 = .ok (.iload_n 3, 1) := by decide +kernel
theorem dX2_deliver_107 : decode cX2_deliver 107 = .ok (.iload 4, 2) := by decide +kernel
theorem dX2_deliver_109 : decode cX2_deliver 109 = .ok (.iadd, 1) := by decide +kernel
theorem dX2_deliver_110 : decode cX2_deliver 110 = .ok (.iastore, 1) := by decide +kernel
theorem dX2_deliver_111 : decode cX2_deliver 111 = .ok (.aload_n 0, 1) := by decide +kernel
theorem dX2_deliver_112 : decode cX2_deliver 112 = .ok (.getfield 30, 3) := by decide +kernel
theorem dX2_deliver_115 : decode cX2_deliver 115 = .ok (.iload_n 2, 1) := by decide +kernel
theorem dX2_deliver_116 : decode cX2_deliver 116 = .ok (.dup2, 1) := by decide +kernel
theorem dX2_deliver_117 : decode cX2_deliver 117 = .ok (.laload, 1) := by decide +kernel
theorem dX2_deliver_118 : decode cX2_deliver 118 = .ok (.iload_n 3, 1) := by decide +kernel
theorem dX2_deliver_119 : decode cX2_deliver 119 = .ok (.iload 4, 2) := by decide +kernel
theorem dX2_deliver_121 : decode cX2_deliver 121 = .ok (.iadd, 1) := by decide +kernel
theorem dX2_deliver_122 : decode cX2_deliver 122 = .ok (.i2l, 1) := by decide +kernel
theorem dX2_deliver_123 : decode cX2_deliver 123 = .ok (.ladd, 1) := by decide +kernel
theorem dX2_deliver_124 : decode cX2_deliver 124 = .ok (.lastore, 1) := by decide +kernel
theorem dX2_deliver_125 : decode cX2_deliver 125 = .ok (.iinc 2 1, 3) := by decide +kernel
theorem dX2_deliver_128 : decode cX2_deliver 128 = .ok (.goto (-126), 3) := by decide +kernel
theorem dX2_deliver_131 : decode cX2_deliver 131 = .ok (.return_, 1) := by decide +kernel
theorem dX2_burn_0 : decode cX2_burn 0 = .ok (.iconst 0, 1) := by decide +kernel
theorem dX2_burn_1 : decode cX2_burn 1 = .ok (.istore_n 2, 1) := by decide +kernel
theorem dX2_burn_2 : decode cX2_burn 2 = .ok (.iload_n 2, 1) := by decide +kernel
theorem dX2_burn_3 : decode cX2_burn 3 = .ok (.aload_n 0, 1) := by decide +kernel
theorem dX2_burn_4 : decode cX2_burn 4 = .ok (.getfield 47, 3) := by decide +kernel
theorem dX2_burn_7 : decode cX2_burn 7 = .ok (.if_icmp .ge 51, 3) := by decide +kernel
theorem dX2_burn_10 : decode cX2_burn 10 = .ok (.aload_n 0, 1) := by decide +kernel
theorem dX2_burn_11 : decode cX2_burn 11 = .ok (.getfield 15, 3) := by decide +kernel
theorem dX2_burn_14 : decode cX2_burn 14 = .ok (.iload_n 2, 1) := by decide +kernel
theorem dX2_burn_15 : decode cX2_burn 15 = .ok (.iaload, 1) := by decide +kernel
theorem dX2_burn_16 : decode cX2_burn 16 = .ok (.iload_n 1, 1) := by decide +kernel
theorem dX2_burn_17 : decode cX2_burn 17 = .ok (.iload_n 2, 1) := by decide +kernel
theorem dX2_burn_18 : decode cX2_burn 18 = .ok (.invokestatic 88, 3) := by decide +kernel
theorem dX2_burn_21 : decode cX2_burn 21 = .ok (.iadd, 1) := by decide +kernel
theorem dX2_burn_22 : decode cX2_burn 22 = .ok (.aload_n 0, 1) := by decide +kernel
theorem dX2_burn_23 : decode cX2_burn 23 = .ok (.iload_n 2, 1) := by decide +kernel
theorem dX2_burn_24 : decode cX2_burn 24 = .ok (.iconst 3, 1) := by decide +kernel
theorem dX2_burn_25 : decode cX2_burn 25 = .ok (.invokevirtual 67, 3) := by decide +kernel
theorem dX2_burn_28 : decode cX2_burn 28 = .ok (.imul, 1) := by decide +kernel
theorem dX2_burn_29 : decode cX2_burn 29 = .ok (.istore_n 3, 1) := by decide +kernel
theorem dX2_burn_30 : decode cX2_burn 30 = .ok (.aload_n 0, 1) := by decide +kernel
theorem dX2_burn_31 : decode cX2_burn 31 = .ok (.getfield 18, 3) := by decide +kernel
theorem dX2_burn_34 : decode cX2_burn 34 = .ok (.aload_n 0, 1) := by decide +kernel
theorem dX2_burn_35 : decode cX2_burn 35 = .ok (.iload_n 2, 1) := by decide +kernel
theorem dX2_burn_36 : decode cX2_burn 36 = .ok (.iconst 4, 1) := by decide +kernel
theorem dX2_burn_37 : decode cX2_burn 37 = .ok (.invokevirtual 67, 3) := by decide +kernel
theorem dX2_burn_40 : decode cX2_burn 40 = .ok (.iconst 0, 1) := by decide +kernel
theorem dX2_burn_41 : decode cX2_burn 41 = .ok (.aload_n 0, 1) := by decide +kernel
theorem dX2_burn_42 : decode cX2_burn 42 = .ok (.iload_n 2, 1) := by decide +kernel
theorem dX2_burn_43 : decode cX2_burn 43 = .ok (.invokevirtual 77, 3) := by decide +kernel
theorem dX2_burn_46 : decode cX2_burn 46 = .ok (.iload_n 3, 1) := by decide +kernel
theorem dX2_burn_47 : decode cX2_burn 47 = .ok (.isub, 1) := by decide +kernel
theorem dX2_burn_48 : decode cX2_burn 48 = .ok (.invokestatic 108, 3) := by decide +kernel
theorem dX2_burn_51 : decode cX2_burn 51 = .ok (.iastore, 1) := by decide +kernel
theorem dX2_burn_52 : decode cX2_burn 52 = .ok (.iinc 2 1, 3) := by decide +kernel
theorem dX2_burn_55 : decode cX2_burn 55 = .ok (.goto (-53), 3) := by decide +kernel
theorem dX2_burn_58 : decode cX2_burn 58 = .ok (.return_, 1) := by decide +kernel
theorem dX2_wasSound_0 : decode cX2_wasSound 0 = .ok (.aload_n 0, 1) := by decide +kernel
theorem dX2_wasSound_1 : decode cX2_wasSound 1 = .ok (.getfield 60, 3) := by decide +kernel
theorem dX2_wasSound_4 : decode cX2_wasSound 4 = .ok (.iload_n 1, 1) := by decide +kernel
theorem dX2_wasSound_5 : decode cX2_wasSound 5 = .ok (.ishr, 1) := by decide +kernel
theorem dX2_wasSound_6 : decode cX2_wasSound 6 = .ok (.iconst 1, 1) := by decide +kernel
theorem dX2_wasSound_7 : decode cX2_wasSound 7 = .ok (.iand, 1) := by decide +kernel
theorem dX2_wasSound_8 : decode cX2_wasSound 8 = .ok (.iconst 1, 1) := by decide +kernel
theorem dX2_wasSound_9 : decode cX2_wasSound 9 = .ok (.if_icmp .ne 7, 3) := by decide +kernel
theorem dX2_wasSound_12 : decode cX2_wasSound 12 = .ok (.iconst 1, 1) := by decide +kernel
theorem dX2_wasSound_13 : decode cX2_wasSound 13 = .ok (.goto 4, 3) := by decide +kernel
theorem dX2_wasSound_16 : decode cX2_wasSound 16 = .ok (.iconst 0, 1) := by decide +kernel
theorem dX2_wasSound_17 : decode cX2_wasSound 17 = .ok (.ireturn, 1) := by decide +kernel
theorem dX2_isImpulse_0 : decode cX2_isImpulse 0 = .ok (.iload_n 2, 1) := by decide +kernel
theorem dX2_isImpulse_1 : decode cX2_isImpulse 1 = .ok (.aload_n 0, 1) := by decide +kernel
theorem dX2_isImpulse_2 : decode cX2_isImpulse 2 = .ok (.iload_n 1, 1) := by decide +kernel
theorem dX2_isImpulse_3 : decode cX2_isImpulse 3 = .ok (.iconst 0, 1) := by decide +kernel
theorem dX2_isImpulse_4 : decode cX2_isImpulse 4 = .ok (.invokevirtual 91, 3) := by decide +kernel
theorem dX2_isImpulse_7 : decode cX2_isImpulse 7 = .ok (.imul, 1) := by decide +kernel
theorem dX2_isImpulse_8 : decode cX2_isImpulse 8 = .ok (.iload_n 3, 1) := by decide +kernel
theorem dX2_isImpulse_9 : decode cX2_isImpulse 9 = .ok (.if_icmp .ne 33, 3) := by decide +kernel
theorem dX2_isImpulse_12 : decode cX2_isImpulse 12 = .ok (.iload_n 2, 1) := by decide +kernel
theorem dX2_isImpulse_13 : decode cX2_isImpulse 13 = .ok (.aload_n 0, 1) := by decide +kernel
theorem dX2_isImpulse_14 : decode cX2_isImpulse 14 = .ok (.iload_n 1, 1) := by decide +kernel
theorem dX2_isImpulse_15 : decode cX2_isImpulse 15 = .ok (.iconst 1, 1) := by decide +kernel
theorem dX2_isImpulse_16 : decode cX2_isImpulse 16 = .ok (.invokevirtual 91, 3) := by decide +kernel
theorem dX2_isImpulse_19 : decode cX2_isImpulse 19 = .ok (.imul, 1) := by decide +kernel
theorem dX2_isImpulse_20 : decode cX2_isImpulse 20 = .ok (.iload 4, 2) := by decide +kernel
theorem dX2_isImpulse_22 : decode cX2_isImpulse 22 = .ok (.if_icmp .ne 20, 3) := by decide +kernel
theorem dX2_isImpulse_25 : decode cX2_isImpulse 25 = .ok (.iload_n 2, 1) := by decide +kernel
theorem dX2_isImpulse_26 : decode cX2_isImpulse 26 = .ok (.aload_n 0, 1) := by decide +kernel
theorem dX2_isImpulse_27 : decode cX2_isImpulse 27 = .ok (.iload_n 1, 1) := by decide +kernel
theorem dX2_isImpulse_28 : decode cX2_isImpulse 28 = .ok (.iconst 2, 1) := by decide +kernel
theorem dX2_isImpulse_29 : decode cX2_isImpulse 29 = .ok (.invokevirtual 91, 3) := by decide +kernel
theorem dX2_isImpulse_32 : decode cX2_isImpulse 32 = .ok (.imul, 1) := by decide +kernel
theorem dX2_isImpulse_33 : decode cX2_isImpulse 33 = .ok (.iload 5, 2) := by decide +kernel
theorem dX2_isImpulse_35 : decode cX2_isImpulse 35 = .ok (.if_icmp .ne 7, 3) := by decide +kernel
theorem dX2_isImpulse_38 : decode cX2_isImpulse 38 = .ok (.iconst 1, 1) := by decide +kernel
theorem dX2_isImpulse_39 : decode cX2_isImpulse 39 = .ok (.goto 4, 3) := by decide +kernel
theorem dX2_isImpulse_42 : decode cX2_isImpulse 42 = .ok (.iconst 0, 1) := by decide +kernel
theorem dX2_isImpulse_43 : decode cX2_isImpulse 43 = .ok (.ireturn, 1) := by decide +kernel
theorem dX2_firstSilent_0 : decode cX2_firstSilent 0 = .ok (.iconst 0, 1) := by decide +kernel
theorem dX2_firstSilent_1 : decode cX2_firstSilent 1 = .ok (.istore 4, 2) := by decide +kernel
theorem dX2_firstSilent_3 : decode cX2_firstSilent 3 = .ok (.iload 4, 2) := by decide +kernel
theorem dX2_firstSilent_5 : decode cX2_firstSilent 5 = .ok (.aload_n 0, 1) := by decide +kernel
theorem dX2_firstSilent_6 : decode cX2_firstSilent 6 = .ok (.getfield 47, 3) := by decide +kernel
theorem dX2_firstSilent_9 : decode cX2_firstSilent 9 = .ok (.if_icmp .ge 51, 3) := by decide +kernel
theorem dX2_firstSilent_12 : decode cX2_firstSilent 12 = .ok (.aload_n 0, 1) := by decide +kernel
theorem dX2_firstSilent_13 : decode cX2_firstSilent 13 = .ok (.iload 4, 2) := by decide +kernel
theorem dX2_firstSilent_15 : decode cX2_firstSilent 15 = .ok (.invokevirtual 111, 3) := by decide +kernel
theorem dX2_firstSilent_18 : decode cX2_firstSilent 18 = .ok (.ifCond .eq 36, 3) := by decide +kernel
theorem dX2_firstSilent_21 : decode cX2_firstSilent 21 = .ok (.aload_n 0, 1) := by decide +kernel
theorem dX2_firstSilent_22 : decode cX2_firstSilent 22 = .ok (.getfield 15, 3) := by decide +kernel
theorem dX2_firstSilent_25 : decode cX2_firstSilent 25 = .ok (.iload 4, 2) := by decide +kernel
theorem dX2_firstSilent_27 : decode cX2_firstSilent 27 = .ok (.iaload, 1) := by decide +kernel
theorem dX2_firstSilent_28 : decode cX2_firstSilent 28 = .ok (.ifCond .le 26, 3) := by decide +kernel
theorem dX2_firstSilent_31 : decode cX2_firstSilent 31 = .ok (.aload_n 0, 1) := by decide +kernel
theorem dX2_firstSilent_32 : decode cX2_firstSilent 32 = .ok (.iload 4, 2) := by decide +kernel
theorem dX2_firstSilent_34 : decode cX2_firstSilent 34 = .ok (.aload_n 0, 1) := by decide +kernel
theorem dX2_firstSilent_35 : decode cX2_firstSilent 35 = .ok (.getfield 15, 3) := by decide +kernel
theorem dX2_firstSilent_38 : decode cX2_firstSilent 38 = .ok (.iload 4, 2) := by decide +kernel
theorem dX2_firstSilent_40 : decode cX2_firstSilent 40 = .ok (.iaload, 1) := by decide +kernel
theorem dX2_firstSilent_41 : decode cX2_firstSilent 41 = .ok (.ineg, 1) := by decide +kernel
theorem dX2_firstSilent_42 : decode cX2_firstSilent 42 = .ok (.iload_n 1, 1) := by decide +kernel
theorem dX2_firstSilent_43 : decode cX2_firstSilent 43 = .ok (.iload_n 2, 1) := by decide +kernel
theorem dX2_firstSilent_44 : decode cX2_firstSilent 44 = .ok (.iload_n 3, 1) := by decide +kernel
theorem dX2_firstSilent_45 : decode cX2_firstSilent 45 = .ok (.invokevirtual 114, 3) := by decide +kernel
theorem dX2_firstSilent_48 : decode cX2_firstSilent 48 = .ok (.ifCond .eq 6, 3) := by decide +kernel
theorem dX2_firstSilent_51 : decode cX2_firstSilent 51 = .ok (.iload 4, 2) := by decide +kernel
theorem dX2_firstSilent_53 : decode cX2_firstSilent 53 = .ok (.ireturn, 1) := by decide +kernel
theorem dX2_firstSilent_54 : decode cX2_firstSilent 54 = .ok (.iinc 4 1, 3) := by decide +kernel
theorem dX2_firstSilent_57 : decode cX2_firstSilent 57 = .ok (.goto (-54), 3) := by decide +kernel
theorem dX2_firstSilent_60 : decode cX2_firstSilent 60 = .ok (.iconst (-1), 1) := by decide +kernel
theorem dX2_firstSilent_61 : decode cX2_firstSilent 61 = .ok (.ireturn, 1) := by decide +kernel
theorem dX2_firstSteady_0 : decode cX2_firstSteady 0 = .ok (.iconst 0, 1) := by decide +kernel
theorem dX2_firstSteady_1 : decode cX2_firstSteady 1 = .ok (.istore 4, 2) := by decide +kernel
theorem dX2_firstSteady_3 : decode cX2_firstSteady 3 = .ok (.iload 4, 2) := by decide +kernel
theorem dX2_firstSteady_5 : decode cX2_firstSteady 5 = .ok (.aload_n 0, 1) := by decide +kernel
theorem dX2_firstSteady_6 : decode cX2_firstSteady 6 = .ok (.getfield 47, 3) := by decide +kernel
theorem dX2_firstSteady_9 : decode cX2_firstSteady 9 = .ok (.if_icmp .ge 55, 3) := by decide +kernel
theorem dX2_firstSteady_12 : decode cX2_firstSteady 12 = .ok (.aload_n 0, 1) := by decide +kernel
theorem dX2_firstSteady_13 : decode cX2_firstSteady 13 = .ok (.iload 4, 2) := by decide +kernel
theorem dX2_firstSteady_15 : decode cX2_firstSteady 15 = .ok (.invokevirtual 111, 3) := by decide +kernel
theorem dX2_firstSteady_18 : decode cX2_firstSteady 18 = .ok (.ifCond .eq 40, 3) := by decide +kernel
theorem dX2_firstSteady_21 : decode cX2_firstSteady 21 = .ok (.aload_n 0, 1) := by decide +kernel
theorem dX2_firstSteady_22 : decode cX2_firstSteady 22 = .ok (.getfield 15, 3) := by decide +kernel
theorem dX2_firstSteady_25 : decode cX2_firstSteady 25 = .ok (.iload 4, 2) := by decide +kernel
theorem dX2_firstSteady_27 : decode cX2_firstSteady 27 = .ok (.iaload, 1) := by decide +kernel
theorem dX2_firstSteady_28 : decode cX2_firstSteady 28 = .ok (.bipush 20, 2) := by decide +kernel
theorem dX2_firstSteady_30 : decode cX2_firstSteady 30 = .ok (.if_icmp .ge 28, 3) := by decide +kernel
theorem dX2_firstSteady_33 : decode cX2_firstSteady 33 = .ok (.aload_n 0, 1) := by decide +kernel
theorem dX2_firstSteady_34 : decode cX2_firstSteady 34 = .ok (.iload 4, 2) := by decide +kernel
theorem dX2_firstSteady_36 : decode cX2_firstSteady 36 = .ok (.bipush 20, 2) := by decide +kernel
theorem dX2_firstSteady_38 : decode cX2_firstSteady 38 = .ok (.aload_n 0, 1) := by decide +kernel
theorem dX2_firstSteady_39 : decode cX2_firstSteady 39 = .ok (.getfield 15, 3) := by decide +kernel
theorem dX2_firstSteady_42 : decode cX2_firstSteady 42 = .ok (.iload 4, 2) := by decide +kernel
theorem dX2_firstSteady_44 : decode cX2_firstSteady 44 = .ok (.iaload, 1) := by decide +kernel
theorem dX2_firstSteady_45 : decode cX2_firstSteady 45 = .ok (.isub, 1) := by decide +kernel
theorem dX2_firstSteady_46 : decode cX2_firstSteady 46 = .ok (.iload_n 1, 1) := by decide +kernel
theorem dX2_firstSteady_47 : decode cX2_firstSteady 47 = .ok (.iload_n 2, 1) := by decide +kernel
theorem dX2_firstSteady_48 : decode cX2_firstSteady 48 = .ok (.iload_n 3, 1) := by decide +kernel
theorem dX2_firstSteady_49 : decode cX2_firstSteady 49 = .ok (.invokevirtual 114, 3) := by decide +kernel
theorem dX2_firstSteady_52 : decode cX2_firstSteady 52 = .ok (.ifCond .eq 6, 3) := by decide +kernel
theorem dX2_firstSteady_55 : decode cX2_firstSteady 55 = .ok (.iload 4, 2) := by decide +kernel
theorem dX2_firstSteady_57 : decode cX2_firstSteady 57 = .ok (.ireturn, 1) := by decide +kernel
theorem dX2_firstSteady_58 : decode cX2_firstSteady 58 = .ok (.iinc 4 1, 3) := by decide +kernel
theorem dX2_firstSteady_61 : decode cX2_firstSteady 61 = .ok (.goto (-58), 3) := by decide +kernel
theorem dX2_firstSteady_64 : decode cX2_firstSteady 64 = .ok (.iconst (-1), 1) := by decide +kernel
theorem dX2_firstSteady_65 : decode cX2_firstSteady 65 = .ok (.ireturn, 1) := by decide +kernel
theorem dX3_init_0 : decode cX3_init 0 = .ok (.aload_n 0, 1) := by decide +kernel
theorem dX3_init_1 : decode cX3_init 1 = .ok (.invokespecial 3, 3) := by decide +kernel
theorem dX3_init_4 : decode cX3_init 4 = .ok (.aload_n 0, 1) := by decide +kernel
theorem dX3_init_5 : decode cX3_init 5 = .ok (.bipush 100, 2) := by decide +kernel
theorem dX3_init_7 : decode cX3_init 7 = .ok (.newarray .int, 2) := by decide +kernel
theorem dX3_init_9 : decode cX3_init 9 = .ok (.putfield 9, 3) := by decide +kernel
theorem dX3_init_12 : decode cX3_init 12 = .ok (.aload_n 0, 1) := by decide +kernel
theorem dX3_init_13 : decode cX3_init 13 = .ok (.bipush 30, 2) := by decide +kernel
theorem dX3_init_15 : decode cX3_init 15 = .ok (.newarray .int, 2) := by decide +kernel
theorem dX3_init_17 : decode cX3_init 17 = .ok (.putfield 15, 3) := by decide +kernel
theorem dX3_init_20 : decode cX3_init 20 = .ok (.aload_n 0, 1) := by decide +kernel
theorem dX3_init_21 : decode cX3_init 21 = .ok (.bipush 10, 2) := by decide +kernel
theorem dX3_init_23 : decode cX3_init 23 = .ok (.newarray .boolean, 2) := by decide +kernel
theorem dX3_init_25 : decode cX3_init 25 = .ok (.putfield 18, 3) := by decide +kernel
theorem dX3_init_28 : decode cX3_init 28 = .ok (.aload_n 0, 1) := by decide +kernel
theorem dX3_init_29 : decode cX3_init 29 = .ok (.ldc 22, 2) := by decide +kernel
theorem dX3_init_31 : decode cX3_init 31 = .ok (.putfield 23, 3) := by decide +kernel
theorem dX3_init_34 : decode cX3_init 34 = .ok (.return_, 1) := by decide +kernel
theorem dX3_append_0 : decode cX3_append 0 = .ok (.aload_n 0, 1) := by decide +kernel
theorem dX3_append_1 : decode cX3_append 1 = .ok (.getfield 27, 3) := by decide +kernel
theorem dX3_append_4 : decode cX3_append 4 = .ok (.bipush 100, 2) := by decide +kernel
theorem dX3_append_6 : decode cX3_append 6 = .ok (.if_icmp .lt 5, 3) := by decide +kernel
theorem dX3_append_9 : decode cX3_append 9 = .ok (.iconst 0, 1) := by decide +kernel
theorem dX3_append_10 : decode cX3_append 10 = .ok (.ireturn, 1) := by decide +kernel
theorem dX3_append_11 : decode cX3_append 11 = .ok (.aload_n 0, 1) := by decide +kernel
theorem dX3_append_12 : decode cX3_append 12 = .ok (.getfield 9, 3) := by decide +kernel
theorem dX3_append_15 : decode cX3_append 15 = .ok (.aload_n 0, 1) := by decide +kernel
theorem dX3_append_16 : decode cX3_append 16 = .ok (.getfield 27, 3) := by decide +kernel
theorem dX3_append_19 : decode cX3_append 19 = .ok (.iload_n 1, 1) := by decide +kernel
theorem dX3_append_20 : decode cX3_append 20 = .ok (.iastore, 1) := by decide +kernel
theorem dX3_append_21 : decode cX3_append 21 = .ok (.aload_n 0, 1) := by decide +kernel
theorem dX3_append_22 : decode cX3_append 22 = .ok (.dup, 1) := by decide +kernel
theorem dX3_append_23 : decode cX3_append 23 = .ok (.getfield 27, 3) := by decide +kernel
theorem dX3_append_26 : decode cX3_append 26 = .ok (.iconst 1, 1) := by decide +kernel
theorem dX3_append_27 : decode cX3_append 27 = .ok (.iadd, 1) := by decide +kernel
theorem dX3_append_28 : decode cX3_append 28 = .ok (.putfield 27, 3) := by decide +kernel
theorem dX3_append_31 : decode cX3_append 31 = .ok (.iconst 1, 1) := by decide +kernel
theorem dX3_append_32 : decode cX3_append 32 = .ok (.ireturn, 1) := by decide +kernel
theorem dX3_read_0 : decode cX3_read 0 = .ok (.aload_n 0, 1) := by decide +kernel
theorem dX3_read_1 : decode cX3_read 1 = .ok (.iconst 0, 1) := by decide +kernel
theorem dX3_read_2 : decode cX3_read 2 = .ok (.putfield 30, 3) := by decide +kernel
theorem dX3_read_5 : decode cX3_read 5 = .ok (.aload_n 0, 1) := by decide +kernel
theorem dX3_read_6 : decode cX3_read 6 = .ok (.iconst 0, 1) := by decide +kernel
theorem dX3_read_7 : decode cX3_read 7 = .ok (.putfield 33, 3) := by decide +kernel
theorem dX3_read_10 : decode cX3_read 10 = .ok (.aload_n 0, 1) := by decide +kernel
theorem dX3_read_11 : decode cX3_read 11 = .ok (.ldc 22, 2) := by decide +kernel
theorem dX3_read_13 : decode cX3_read 13 = .ok (.putfield 23, 3) := by decide +kernel
theorem dX3_read_16 : decode cX3_read 16 = .ok (.iconst 0, 1) := by decide +kernel
theorem dX3_read_17 : decode cX3_read 17 = .ok (.istore_n 2, 1) := by decide +kernel
theorem dX3_read_18 : decode cX3_read 18 = .ok (.iload_n 2, 1) := by decide +kernel
theorem dX3_read_19 : decode cX3_read 19 = .ok (.bipush 10, 2) := by decide +kernel
theorem dX3_read_21 : decode cX3_read 21 = .ok (.if_icmp .gt 62, 3) := by decide +kernel
theorem dX3_read_24 : decode cX3_read 24 = .ok (.aload_n 0, 1) := by decide +kernel
theorem dX3_read_25 : decode cX3_read 25 = .ok (.iload_n 1, 1) := by decide +kernel
theorem dX3_read_26 : decode cX3_read 26 = .ok (.bipush 10, 2) := by decide +kernel
theorem dX3_read_28 : decode cX3_read 28 = .ok (.invokestatic 36, 3) := by decide +kernel
theorem dX3_read_31 : decode cX3_read 31 = .ok (.invokevirtual 42, 3) := by decide +kernel
theorem dX3_read_34 : decode cX3_read 34 = .ok (.aload_n 0, 1) := by decide +kernel
theorem dX3_read_35 : decode cX3_read 35 = .ok (.invokevirtual 46, 3) := by decide +kernel
theorem dX3_read_38 : decode cX3_read 38 = .ok (.aload_n 0, 1) := by decide +kernel
theorem dX3_read_39 : decode cX3_read 39 = .ok (.getfield 23, 3) := by decide +kernel
theorem dX3_read_42 : decode cX3_read 42 = .ok (.ldc 22, 2) := by decide +kernel
theorem dX3_read_44 : decode cX3_read 44 = .ok (.if_icmp .ne 14, 3) := by decide +kernel
theorem dX3_read_47 : decode cX3_read 47 = .ok (.aload_n 0, 1) := by decide +kernel
theorem dX3_read_48 : decode cX3_read 48 = .ok (.getfield 30, 3) := by decide +kernel
theorem dX3_read_51 : decode cX3_read 51 = .ok (.aload_n 0, 1) := by decide +kernel
theorem dX3_read_52 : decode cX3_read 52 = .ok (.getfield 27, 3) := by decide +kernel
theorem dX3_read_55 : decode cX3_read 55 = .ok (.if_icmp .lt 8, 3) := by decide +kernel
theorem dX3_read_58 : decode cX3_read 58 = .ok (.aload_n 0, 1) := by decide +kernel
theorem dX3_read_59 : decode cX3_read 59 = .ok (.getfield 23, 3) := by decide +kernel
theorem dX3_read_62 : decode cX3_read 62 = .ok (.ireturn, 1) := by decide +kernel
theorem dX3_read_63 : decode cX3_read 63 = .ok (.aload_n 0, 1) := by decide +kernel
theorem dX3_read_64 : decode cX3_read 64 = .ok (.bipush 59, 2) := by decide +kernel
theorem dX3_read_66 : decode cX3_read 66 = .ok (.invokevirtual 49, 3) := by decide +kernel
theorem dX3_read_69 : decode cX3_read 69 = .ok (.ifCond .ne 8, 3) := by decide +kernel
theorem dX3_read_72 : decode cX3_read 72 = .ok (.aload_n 0, 1) := by decide +kernel
theorem dX3_read_73 : decode cX3_read 73 = .ok (.getfield 30, 3) := by decide +kernel
theorem dX3_read_76 : decode cX3_read 76 = .ok (.ireturn, 1) := by decide +kernel
theorem dX3_read_77 : decode cX3_read 77 = .ok (.iinc 2 1, 3) := by decide +kernel
theorem dX3_read_80 : decode cX3_read 80 = .ok (.goto (-62), 3) := by decide +kernel
theorem dX3_read_83 : decode cX3_read 83 = .ok (.aload_n 0, 1) := by decide +kernel
theorem dX3_read_84 : decode cX3_read 84 = .ok (.getfield 30, 3) := by decide +kernel
theorem dX3_read_87 : decode cX3_read 87 = .ok (.ireturn, 1) := by decide +kernel
theorem dX3_readRequest_0 : decode cX3_readRequest 0 = .ok (.aload_n 0, 1) := by decide +kernel
theorem dX3_readRequest_1 : decode cX3_readRequest 1 = .ok (.invokevirtual 46, 3) := by decide +kernel
theorem dX3_readRequest_4 : decode cX3_readRequest 4 = .ok (.aload_n 0, 1) := by decide +kernel
theorem dX3_readRequest_5 : decode cX3_readRequest 5 = .ok (.getfield 33, 3) := by decide +kernel
theorem dX3_readRequest_8 : decode cX3_readRequest 8 = .ok (.iload_n 1, 1) := by decide +kernel
theorem dX3_readRequest_9 : decode cX3_readRequest 9 = .ok (.if_icmp .lt 12, 3) := by decide +kernel
theorem dX3_readRequest_12 : decode cX3_readRequest 12 = .ok (.aload_n 0, 1) := by decide +kernel
theorem dX3_readRequest_13 : decode cX3_readRequest 13 = .ok (.aload_n 0, 1) := by decide +kernel
theorem dX3_readRequest_14 : decode cX3_readRequest 14 = .ok (.getfield 30, 3) := by decide +kernel
theorem dX3_readRequest_17 : decode cX3_readRequest 17 = .ok (.putfield 23, 3) := by decide +kernel
theorem dX3_readRequest_20 : decode cX3_readRequest 20 = .ok (.return_, 1) := by decide +kernel
theorem dX3_readRequest_21 : decode cX3_readRequest 21 = .ok (.aload_n 0, 1) := by decide +kernel
theorem dX3_readRequest_22 : decode cX3_readRequest 22 = .ok (.bipush 33, 2) := by decide +kernel
theorem dX3_readRequest_24 : decode cX3_readRequest 24 = .ok (.invokevirtual 49, 3) := by decide +kernel
theorem dX3_readRequest_27 : decode cX3_readRequest 27 = .ok (.istore_n 2, 1) := by decide +kernel
theorem dX3_readRequest_28 : decode cX3_readRequest 28 = .ok (.iconst 0, 1) := by decide +kernel
theorem dX3_readRequest_29 : decode cX3_readRequest 29 = .ok (.istore_n 3, 1) := by decide +kernel
theorem dX3_readRequest_30 : decode cX3_readRequest 30 = .ok (.iload_n 3, 1) := by decide +kernel
theorem dX3_readRequest_31 : decode cX3_readRequest 31 = .ok (.iconst 3, 1) := by decide +kernel
theorem dX3_readRequest_32 : decode cX3_readRequest 32 = .ok (.if_icmp .ge 57, 3) := by decide +kernel
theorem dX3_readRequest_35 : decode cX3_readRequest 35 = .ok (.aload_n 0, 1) := by decide +kernel
theorem dX3_readRequest_36 : decode cX3_readRequest 36 = .ok (.getfield 23, 3) := by decide +kernel
theorem dX3_readRequest_39 : decode cX3_readRequest 39 = .ok (.ldc 22, 2) := by decide +kernel
theorem dX3_readRequest_41 : decode cX3_readRequest 41 = .ok (.if_icmp .ne 48, 3) := by decide +kernel
theorem dX3_readRequest_44 : decode cX3_readRequest 44 = .ok (.iload_n 3, 1) := by decide +kernel
theorem dX3_readRequest_45 : decode cX3_readRequest 45 = .ok (.ifCond .le 21, 3) := by decide +kernel
theorem dX3_readRequest_48 : decode cX3_readRequest 48 = .ok (.aload_n 0, 1) := by decide +kernel
theorem dX3_readRequest_49 : decode cX3_readRequest 49 = .ok (.bipush 44, 2) := by decide +kernel
theorem dX3_readRequest_51 : decode cX3_readRequest 51 = .ok (.invokevirtual 49, 3) := by decide +kernel
theorem dX3_readRequest_54 : decode cX3_readRequest 54 = .ok (.ifCond .ne 12, 3) := by decide +kernel
theorem dX3_readRequest_57 : decode cX3_readRequest 57 = .ok (.aload_n 0, 1) := by decide +kernel
theorem dX3_readRequest_58 : decode cX3_readRequest 58 = .ok (.aload_n 0, 1) := by decide +kernel
theorem dX3_readRequest_59 : decode cX3_readRequest 59 = .ok (.getfield 30, 3) := by decide +kernel
theorem dX3_readRequest_62 : decode cX3_readRequest 62 = .ok (.putfield 23, 3) := by decide +kernel
theorem dX3_readRequest_65 : decode cX3_readRequest 65 = .ok (.return_, 1) := by decide +kernel
theorem dX3_readRequest_66 : decode cX3_readRequest 66 = .ok (.aload_n 0, 1) := by decide +kernel
theorem dX3_readRequest_67 : decode cX3_readRequest 67 = .ok (.getfield 15, 3) := by decide +kernel
theorem dX3_readRequest_70 : decode cX3_readRequest 70 = .ok (.aload_n 0, 1) := by decide +kernel
theorem dX3_readRequest_71 : decode cX3_readRequest 71 = .ok (.getfield 33, 3) := by decide +kernel
theorem dX3_readRequest_74 : decode cX3_readRequest 74 = .ok (.iconst 3, 1) := by decide +kernel
theorem dX3_readRequest_75 : decode cX3_readRequest 75 = .ok (.imul, 1) := by decide +kernel
theorem dX3_readRequest_76 : decode cX3_readRequest 76 = .ok (.iload_n 3, 1) := by decide +kernel
theorem dX3_readRequest_77 : decode cX3_readRequest 77 = .ok (.iadd, 1) := by decide +kernel
theorem dX3_readRequest_78 : decode cX3_readRequest 78 = .ok (.aload_n 0, 1) := by decide +kernel
theorem dX3_readRequest_79 : decode cX3_readRequest 79 = .ok (.invokevirtual 53, 3) := by decide +kernel
theorem dX3_readRequest_82 : decode cX3_readRequest 82 = .ok (.iastore, 1) := by decide +kernel
theorem dX3_readRequest_83 : decode cX3_readRequest 83 = .ok (.iinc 3 1, 3) := by decide +kernel
theorem dX3_readRequest_86 : decode cX3_readRequest 86 = .ok (.goto (-56), 3) := by decide +kernel
theorem dX3_readRequest_89 : decode cX3_readRequest 89 = .ok (.aload_n 0, 1) := by decide +kernel
theorem dX3_readRequest_90 : decode cX3_readRequest 90 = .ok (.getfield 18, 3) := by decide +kernel
theorem dX3_readRequest_93 : decode cX3_readRequest 93 = .ok (.aload_n 0, 1) := by decide +kernel
theorem dX3_readRequest_94 : decode cX3_readRequest 94 = .ok (.getfield 33, 3) := by decide +kernel
theorem dX3_readRequest_97 : decode cX3_readRequest 97 = .ok (.iload_n 2, 1) := by decide +kernel
theorem dX3_readRequest_98 : decode cX3_readRequest 98 = .ok (.bastore, 1) := by decide +kernel
theorem dX3_readRequest_99 : decode cX3_readRequest 99 = .ok (.aload_n 0, 1) := by decide +kernel
theorem dX3_readRequest_100 : decode cX3_readRequest 100 = .ok (.dup, 1) := by decide +kernel
theorem dX3_readRequest_101 : decode cX3_readRequest 101 = .ok (.getfield 33, 3) := by decide +kernel
theorem dX3_readRequest_104 : decode cX3_readRequest 104 = .ok (.iconst 1, 1) := by decide +kernel
theorem dX3_readRequest_105 : decode cX3_readRequest 105 = .ok (.iadd, 1) := by decide +kernel
theorem dX3_readRequest_106 : decode cX3_readRequest 106 = .ok (.putfield 33, 3) := by decide +kernel
theorem dX3_readRequest_109 : decode cX3_readRequest 109 = .ok (.return_, 1) := by decide +kernel
theorem dX3_readSigned_0 : decode cX3_readSigned 0 = .ok (.aload_n 0, 1) := by decide +kernel
theorem dX3_readSigned_1 : decode cX3_readSigned 1 = .ok (.bipush 45, 2) := by decide +kernel
theorem dX3_readSigned_3 : decode cX3_readSigned 3 = .ok (.invokevirtual 49, 3) := by decide +kernel
theorem dX3_readSigned_6 : decode cX3_readSigned 6 = .ok (.istore_n 1, 1) := by decide +kernel
theorem dX3_readSigned_7 : decode cX3_readSigned 7 = .ok (.aload_n 0, 1) := by decide +kernel
theorem dX3_readSigned_8 : decode cX3_readSigned 8 = .ok (.invokevirtual 46, 3) := by decide +kernel
theorem dX3_readSigned_11 : decode cX3_readSigned 11 = .ok (.aload_n 0, 1) := by decide +kernel
theorem dX3_readSigned_12 : decode cX3_readSigned 12 = .ok (.invokevirtual 57, 3) := by decide +kernel
theorem dX3_readSigned_15 : decode cX3_readSigned 15 = .ok (.istore_n 2, 1) := by decide +kernel
theorem dX3_readSigned_16 : decode cX3_readSigned 16 = .ok (.iload_n 1, 1) := by decide +kernel
theorem dX3_readSigned_17 : decode cX3_readSigned 17 = .ok (.ifCond .eq 8, 3) := by decide +kernel
theorem dX3_readSigned_20 : decode cX3_readSigned 20 = .ok (.iload_n 2, 1) := by decide +kernel
theorem dX3_readSigned_21 : decode cX3_readSigned 21 = .ok (.ineg, 1) := by decide +kernel
theorem dX3_readSigned_22 : decode cX3_readSigned 22 = .ok (.goto 4, 3) := by decide +kernel
theorem dX3_readSigned_25 : decode cX3_readSigned 25 = .ok (.iload_n 2, 1) := by decide +kernel
theorem dX3_readSigned_26 : decode cX3_readSigned 26 = .ok (.ireturn, 1) := by decide +kernel
theorem dX3_readNumber_0 : decode cX3_readNumber 0 = .ok (.aload_n 0, 1) := by decide +kernel
theorem dX3_readNumber_1 : decode cX3_readNumber 1 = .ok (.getfield 30, 3) := by decide +kernel
theorem dX3_readNumber_4 : decode cX3_readNumber 4 = .ok (.istore_n 1, 1) := by decide +kernel
theorem dX3_readNumber_5 : decode cX3_readNumber 5 = .ok (.iconst 0, 1) := by decide +kernel
theorem dX3_readNumber_6 : decode cX3_readNumber 6 = .ok (.istore_n 2, 1) := by decide +kernel
theorem dX3_readNumber_7 : decode cX3_readNumber 7 = .ok (.aload_n 0, 1) := by decide +kernel
theorem dX3_readNumber_8 : decode cX3_readNumber 8 = .ok (.getfield 30, 3) := by decide +kernel
theorem dX3_readNumber_11 : decode cX3_readNumber 11 = .ok (.aload_n 0, 1) := by decide +kernel
theorem dX3_readNumber_12 : decode cX3_readNumber 12 = .ok (.getfield 27, 3) := by decide +kernel
theorem dX3_readNumber_15 : decode cX3_readNumber 15 = .ok (.if_icmp .ge 49, 3) := by decide +kernel
theorem dX3_readNumber_18 : decode cX3_readNumber 18 = .ok (.aload_n 0, 1) := by decide +kernel
theorem dX3_readNumber_19 : decode cX3_readNumber 19 = .ok (.getfield 9, 3) := by decide +kernel
theorem dX3_readNumber_22 : decode cX3_readNumber 22 = .ok (.aload_n 0, 1) := by decide +kernel
theorem dX3_readNumber_23 : decode cX3_readNumber 23 = .ok (.getfield 30, 3) := by decide +kernel
theorem dX3_readNumber_26 : decode cX3_readNumber 26 = .ok (.iaload, 1) := by decide +kernel
theorem dX3_readNumber_27 : decode cX3_readNumber 27 = .ok (.invokestatic 60, 3) := by decide +kernel
theorem dX3_readNumber_30 : decode cX3_readNumber 30 = .ok (.ifCond .eq 34, 3) := by decide +kernel
theorem dX3_readNumber_33 : decode cX3_readNumber 33 = .ok (.iload_n 2, 1) := by decide +kernel
theorem dX3_readNumber_34 : decode cX3_readNumber 34 = .ok (.bipush 10, 2) := by decide +kernel
theorem dX3_readNumber_36 : decode cX3_readNumber 36 = .ok (.imul, 1) := by decide +kernel
theorem dX3_readNumber_37 : decode cX3_readNumber 37 = .ok (.aload_n 0, 1) := by decide +kernel
theorem dX3_readNumber_38 : decode cX3_readNumber 38 = .ok (.getfield 9, 3) := by decide +kernel
theorem dX3_readNumber_41 : decode cX3_readNumber 41 = .ok (.aload_n 0, 1) := by decide +kernel
theorem dX3_readNumber_42 : decode cX3_readNumber 42 = .ok (.getfield 30, 3) := by decide +kernel
theorem dX3_readNumber_45 : decode cX3_readNumber 45 = .ok (.iaload, 1) := by decide +kernel
theorem dX3_readNumber_46 : decode cX3_readNumber 46 = .ok (.iadd, 1) := by decide +kernel
theorem dX3_readNumber_47 : decode cX3_readNumber 47 = .ok (.bipush 48, 2) := by decide +kernel
theorem dX3_readNumber_49 : decode cX3_readNumber 49 = .ok (.isub, 1) := by decide +kernel
theorem dX3_readNumber_50 : decode cX3_readNumber 50 = .ok (.istore_n 2, 1) := by decide +kernel
theorem dX3_readNumber_51 : decode cX3_readNumber 51 = .ok (.aload_n 0, 1) := by decide +kernel
theorem dX3_readNumber_52 : decode cX3_readNumber 52 = .ok (.dup, 1) := by decide +kernel
theorem dX3_readNumber_53 : decode cX3_readNumber 53 = .ok (.getfield 30, 3) := by decide +kernel
theorem dX3_readNumber_56 : decode cX3_readNumber 56 = .ok (.iconst 1, 1) := by decide +kernel
theorem dX3_readNumber_57 : decode cX3_readNumber 57 = .ok (.iadd, 1) := by decide +kernel
theorem dX3_readNumber_58 : decode cX3_readNumber 58 = .ok (.putfield 30, 3) := by decide +kernel
theorem dX3_readNumber_61 : decode cX3_readNumber 61 = .ok (.goto (-54), 3) := by decide +kernel
theorem dX3_readNumber_64 : decode cX3_readNumber 64 = .ok (.aload_n 0, 1) := by decide +kernel
theorem dX3_readNumber_65 : decode cX3_readNumber 65 = .ok (.getfield 30, 3) := by decide +kernel
theorem dX3_readNumber_68 : decode cX3_readNumber 68 = .ok (.iload_n 1, 1) := by decide +kernel
theorem dX3_readNumber_69 : decode cX3_readNumber 69 = .ok (.isub, 1) := by decide +kernel
theorem dX3_readNumber_70 : decode cX3_readNumber 70 = .ok (.istore_n 3, 1) := by decide +kernel
theorem dX3_readNumber_71 : decode cX3_readNumber 71 = .ok (.iload_n 3, 1) := by decide +kernel
theorem dX3_readNumber_72 : decode cX3_readNumber 72 = .ok (.ifCond .eq 15, 3) := by decide +kernel
theorem dX3_readNumber_75 : decode cX3_readNumber 75 = .ok (.iload_n 3, 1) := by decide +kernel
theorem dX3_readNumber_76 : decode cX3_readNumber 76 = .ok (.iconst 4, 1) := by decide +kernel
theorem dX3_readNumber_77 : decode cX3_readNumber 77 = .ok (.if_icmp .gt 10, 3) := by decide +kernel
theorem dX3_readNumber_80 : decode cX3_readNumber 80 = .ok (.iload_n 2, 1) := by decide +kernel
theorem dX3_readNumber_81 : decode cX3_readNumber 81 = .ok (.sipush 2000, 3) := by decide +kernel
theorem dX3_readNumber_84 : decode cX3_readNumber 84 = .ok (.if_icmp .le 8, 3) := by decide +kernel
theorem dX3_readNumber_87 : decode cX3_readNumber 87 = .ok (.aload_n 0, 1) := by decide +kernel
theorem dX3_readNumber_88 : decode cX3_readNumber 88 = .ok (.iload_n 1, 1) := by decide +kernel
theorem dX3_readNumber_89 : decode cX3_readNumber 89 = .ok (.putfield 23, 3) := by decide +kernel
theorem dX3_readNumber_92 : decode cX3_readNumber 92 = .ok (.iload_n 2, 1) := by decide +kernel
theorem dX3_readNumber_93 : decode cX3_readNumber 93 = .ok (.ireturn, 1) := by decide +kernel
theorem dX3_isDigit_0 : decode cX3_isDigit 0 = .ok (.iload_n 0, 1) := by decide +kernel
theorem dX3_isDigit_1 : decode cX3_isDigit 1 = .ok (.bipush 48, 2) := by decide +kernel
theorem dX3_isDigit_3 : decode cX3_isDigit 3 = .ok (.if_icmp .lt 13, 3) := by decide +kernel
theorem dX3_isDigit_6 : decode cX3_isDigit 6 = .ok (.iload_n 0, 1) := by decide +kernel
theorem dX3_isDigit_7 : decode cX3_isDigit 7 = .ok (.bipush 57, 2) := by decide +kernel
theorem dX3_isDigit_9 : decode cX3_isDigit 9 = .ok (.if_icmp .gt 7, 3) := by decide +kernel
theorem dX3_isDigit_12 : decode cX3_isDigit 12 = .ok (.iconst 1, 1) := by decide +kernel
theorem dX3_isDigit_13 : decode cX3_isDigit 13 = .ok (.goto 4, 3) := by decide +kernel
theorem dX3_isDigit_16 : decode cX3_isDigit 16 = .ok (.iconst 0, 1) := by decide +kernel
theorem dX3_isDigit_17 : decode cX3_isDigit 17 = .ok (.ireturn, 1) := by decide +kernel
theorem dX3_accept_0 : decode cX3_accept 0 = .ok (.aload_n 0, 1) := by decide +kernel
theorem dX3_accept_1 : decode cX3_accept 1 = .ok (.invokevirtual 46, 3) := by decide +kernel
theorem dX3_accept_4 : decode cX3_accept 4 = .ok (.aload_n 0, 1) := by decide +kernel
theorem dX3_accept_5 : decode cX3_accept 5 = .ok (.getfield 30, 3) := by decide +kernel
theorem dX3_accept_8 : decode cX3_accept 8 = .ok (.aload_n 0, 1) := by decide +kernel
theorem dX3_accept_9 : decode cX3_accept 9 = .ok (.getfield 27, 3) := by decide +kernel
theorem dX3_accept_12 : decode cX3_accept 12 = .ok (.if_icmp .ge 16, 3) := by decide +kernel
theorem dX3_accept_15 : decode cX3_accept 15 = .ok (.aload_n 0, 1) := by decide +kernel
theorem dX3_accept_16 : decode cX3_accept 16 = .ok (.getfield 9, 3) := by decide +kernel
theorem dX3_accept_19 : decode cX3_accept 19 = .ok (.aload_n 0, 1) := by decide +kernel
theorem dX3_accept_20 : decode cX3_accept 20 = .ok (.getfield 30, 3) := by decide +kernel
theorem dX3_accept_23 : decode cX3_accept 23 = .ok (.iaload, 1) := by decide +kernel
theorem dX3_accept_24 : decode cX3_accept 24 = .ok (.iload_n 1, 1) := by decide +kernel
theorem dX3_accept_25 : decode cX3_accept 25 = .ok (.if_icmp .eq 5, 3) := by decide +kernel
theorem dX3_accept_28 : decode cX3_accept 28 = .ok (.iconst 0, 1) := by decide +kernel
theorem dX3_accept_29 : decode cX3_accept 29 = .ok (.ireturn, 1) := by decide +kernel
theorem dX3_accept_30 : decode cX3_accept 30 = .ok (.aload_n 0, 1) := by decide +kernel
theorem dX3_accept_31 : decode cX3_accept 31 = .ok (.dup, 1) := by decide +kernel
theorem dX3_accept_32 : decode cX3_accept 32 = .ok (.getfield 30, 3) := by decide +kernel
theorem dX3_accept_35 : decode cX3_accept 35 = .ok (.iconst 1, 1) := by decide +kernel
theorem dX3_accept_36 : decode cX3_accept 36 = .ok (.iadd, 1) := by decide +kernel
theorem dX3_accept_37 : decode cX3_accept 37 = .ok (.putfield 30, 3) := by decide +kernel
theorem dX3_accept_40 : decode cX3_accept 40 = .ok (.iconst 1, 1) := by decide +kernel
theorem dX3_accept_41 : decode cX3_accept 41 = .ok (.ireturn, 1) := by decide +kernel
theorem dX3_skipBlanks_0 : decode cX3_skipBlanks 0 = .ok (.aload_n 0, 1) := by decide +kernel
theorem dX3_skipBlanks_1 : decode cX3_skipBlanks 1 = .ok (.getfield 30, 3) := by decide +kernel
theorem dX3_skipBlanks_4 : decode cX3_skipBlanks 4 = .ok (.aload_n 0, 1) := by decide +kernel
theorem dX3_skipBlanks_5 : decode cX3_skipBlanks 5 = .ok (.getfield 27, 3) := by decide +kernel
theorem dX3_skipBlanks_8 : decode cX3_skipBlanks 8 = .ok (.if_icmp .ge 30, 3) := by decide +kernel
theorem dX3_skipBlanks_11 : decode cX3_skipBlanks 11 = .ok (.aload_n 0, 1) := by decide +kernel
theorem dX3_skipBlanks_12 : decode cX3_skipBlanks 12 = .ok (.getfield 9, 3) := by decide +kernel
theorem dX3_skipBlanks_15 : decode cX3_skipBlanks 15 = .ok (.aload_n 0, 1) := by decide +kernel
theorem dX3_skipBlanks_16 : decode cX3_skipBlanks 16 = .ok (.getfield 30, 3) := by decide +kernel
theorem dX3_skipBlanks_19 : decode cX3_skipBlanks 19 = .ok (.iaload, 1) := by decide +kernel
theorem dX3_skipBlanks_20 : decode cX3_skipBlanks 20 = .ok (.bipush 32, 2) := by decide +kernel
theorem dX3_skipBlanks_22 : decode cX3_skipBlanks 22 = .ok (.if_icmp .ne 16, 3) := by decide +kernel
theorem dX3_skipBlanks_25 : decode cX3_skipBlanks 25 = .ok (.aload_n 0, 1) := by decide +kernel
theorem dX3_skipBlanks_26 : decode cX3_skipBlanks 26 = .ok (.dup, 1) := by decide +kernel
theorem dX3_skipBlanks_27 : decode cX3_skipBlanks 27 = .ok (.getfield 30, 3) := by decide +kernel
theorem dX3_skipBlanks_30 : decode cX3_skipBlanks 30 = .ok (.iconst 1, 1) := by decide +kernel
theorem dX3_skipBlanks_31 : decode cX3_skipBlanks 31 = .ok (.iadd, 1) := by decide +kernel
theorem dX3_skipBlanks_32 : decode cX3_skipBlanks 32 = .ok (.putfield 30, 3) := by decide +kernel
theorem dX3_skipBlanks_35 : decode cX3_skipBlanks 35 = .ok (.goto (-35), 3) := by decide +kernel
theorem dX3_skipBlanks_38 : decode cX3_skipBlanks 38 = .ok (.return_, 1) := by decide +kernel
theorem dX4_init_0 : decode cX4_init 0 = .ok (.aload_n 0, 1) := by decide +kernel
theorem dX4_init_1 : decode cX4_init 1 = .ok (.invokespecial 1, 3) := by decide +kernel
theorem dX4_init_4 : decode cX4_init 4 = .ok (.aload_n 0, 1) := by decide +kernel
theorem dX4_init_5 : decode cX4_init 5 = .ok (.new 7, 3) := by decide +kernel
theorem dX4_init_8 : decode cX4_init 8 = .ok (.dup, 1) := by decide +kernel
theorem dX4_init_9 : decode cX4_init 9 = .ok (.invokespecial 9, 3) := by decide +kernel
theorem dX4_init_12 : decode cX4_init 12 = .ok (.putfield 10, 3) := by decide +kernel
theorem dX4_init_15 : decode cX4_init 15 = .ok (.aload_n 0, 1) := by decide +kernel
theorem dX4_init_16 : decode cX4_init 16 = .ok (.new 16, 3) := by decide +kernel
theorem dX4_init_19 : decode cX4_init 19 = .ok (.dup, 1) := by decide +kernel
theorem dX4_init_20 : decode cX4_init 20 = .ok (.invokespecial 18, 3) := by decide +kernel
theorem dX4_init_23 : decode cX4_init 23 = .ok (.putfield 19, 3) := by decide +kernel
theorem dX4_init_26 : decode cX4_init 26 = .ok (.aload_n 0, 1) := by decide +kernel
theorem dX4_init_27 : decode cX4_init 27 = .ok (.new 23, 3) := by decide +kernel
theorem dX4_init_30 : decode cX4_init 30 = .ok (.dup, 1) := by decide +kernel
theorem dX4_init_31 : decode cX4_init 31 = .ok (.invokespecial 25, 3) := by decide +kernel
theorem dX4_init_34 : decode cX4_init 34 = .ok (.putfield 26, 3) := by decide +kernel
theorem dX4_init_37 : decode cX4_init 37 = .ok (.aload_n 0, 1) := by decide +kernel
theorem dX4_init_38 : decode cX4_init 38 = .ok (.new 30, 3) := by decide +kernel
theorem dX4_init_41 : decode cX4_init 41 = .ok (.dup, 1) := by decide +kernel
theorem dX4_init_42 : decode cX4_init 42 = .ok (.invokespecial 32, 3) := by decide +kernel
theorem dX4_init_45 : decode cX4_init 45 = .ok (.putfield 33, 3) := by decide +kernel
theorem dX4_init_48 : decode cX4_init 48 = .ok (.return_, 1) := by decide +kernel
theorem dX4_addThruster_0 : decode cX4_addThruster 0 = .ok (.iload 5, 2) := by decide +kernel
theorem dX4_addThruster_2 : decode cX4_addThruster 2 = .ok (.invokestatic 37, 3) := by decide +kernel
theorem dX4_addThruster_5 : decode cX4_addThruster 5 = .ok (.ifCond .ne 6, 3) := by decide +kernel
theorem dX4_addThruster_8 : decode cX4_addThruster 8 = .ok (.ldc 41, 2) := by decide +kernel
theorem dX4_addThruster_10 : decode cX4_addThruster 10 = .ok (.ireturn, 1) := by decide +kernel
theorem dX4_addThruster_11 : decode cX4_addThruster 11 = .ok (.iload_n 1, 1) := by decide +kernel
theorem dX4_addThruster_12 : decode cX4_addThruster 12 = .ok (.bipush 10, 2) := by decide +kernel
theorem dX4_addThruster_14 : decode cX4_addThruster 14 = .ok (.invokestatic 42, 3) := by decide +kernel
theorem dX4_addThruster_17 : decode cX4_addThruster 17 = .ok (.ifCond .eq 16, 3) := by decide +kernel
theorem dX4_addThruster_20 : decode cX4_addThruster 20 = .ok (.iload_n 2, 1) := by decide +kernel
theorem dX4_addThruster_21 : decode cX4_addThruster 21 = .ok (.bipush 10, 2) := by decide +kernel
theorem dX4_addThruster_23 : decode cX4_addThruster 23 = .ok (.invokestatic 42, 3) := by decide +kernel
theorem dX4_addThruster_26 : decode cX4_addThruster 26 = .ok (.ifCond .eq 7, 3) := by decide +kernel
theorem dX4_addThruster_29 : decode cX4_addThruster 29 = .ok (.iconst 1, 1) := by decide +kernel
theorem dX4_addThruster_30 : decode cX4_addThruster 30 = .ok (.goto 4, 3) := by decide +kernel
theorem dX4_addThruster_33 : decode cX4_addThruster 33 = .ok (.iconst 0, 1) := by decide +kernel
theorem dX4_addThruster_34 : decode cX4_addThruster 34 = .ok (.istore 7, 2) := by decide +kernel
theorem dX4_addThruster_36 : decode cX4_addThruster 36 = .ok (.iload_n 3, 1) := by decide +kernel
theorem dX4_addThruster_37 : decode cX4_addThruster 37 = .ok (.iconst 0, 1) := by decide +kernel
theorem dX4_addThruster_38 : decode cX4_addThruster 38 = .ok (.iconst 3, 1) := by decide +kernel
theorem dX4_addThruster_39 : decode cX4_addThruster 39 = .ok (.invokestatic 46, 3) := by decide +kernel
theorem dX4_addThruster_42 : decode cX4_addThruster 42 = .ok (.ifCond .eq 29, 3) := by decide +kernel
theorem dX4_addThruster_45 : decode cX4_addThruster 45 = .ok (.iload 4, 2) := by decide +kernel
theorem dX4_addThruster_47 : decode cX4_addThruster 47 = .ok (.iconst 1, 1) := by decide +kernel
theorem dX4_addThruster_48 : decode cX4_addThruster 48 = .ok (.bipush 10, 2) := by decide +kernel
theorem dX4_addThruster_50 : decode cX4_addThruster 50 = .ok (.invokestatic 46, 3) := by decide +kernel
theorem dX4_addThruster_53 : decode cX4_addThruster 53 = .ok (.ifCond .eq 18, 3) := by decide +kernel
theorem dX4_addThruster_56 : decode cX4_addThruster 56 = .ok (.iload 6, 2) := by decide +kernel
theorem dX4_addThruster_58 : decode cX4_addThruster 58 = .ok (.iconst 1, 1) := by decide +kernel
theorem dX4_addThruster_59 : decode cX4_addThruster 59 = .ok (.bipush 10, 2) := by decide +kernel
theorem dX4_addThruster_61 : decode cX4_addThruster 61 = .ok (.invokestatic 46, 3) := by decide +kernel
theorem dX4_addThruster_64 : decode cX4_addThruster 64 = .ok (.ifCond .eq 7, 3) := by decide +kernel
theorem dX4_addThruster_67 : decode cX4_addThruster 67 = .ok (.iconst 1, 1) := by decide +kernel
theorem dX4_addThruster_68 : decode cX4_addThruster 68 = .ok (.goto 4, 3) := by decide +kernel
theorem dX4_addThruster_71 : decode cX4_addThruster 71 = .ok (.iconst 0, 1) := by decide +kernel
theorem dX4_addThruster_72 : decode cX4_addThruster 72 = .ok (.istore 8, 2) := by decide +kernel
theorem dX4_addThruster_74 : decode cX4_addThruster 74 = .ok (.iload 7, 2) := by decide +kernel
theorem dX4_addThruster_76 : decode cX4_addThruster 76 = .ok (.ifCond .eq 8, 3) := by decide +kernel
theorem dX4_addThruster_79 : decode cX4_addThruster 79 = .ok (.iload 8, 2) := by decide +kernel
theorem dX4_addThruster_81 : decode cX4_addThruster 81 = .ok (.ifCond .ne 6, 3) := by decide +kernel
theorem dX4_addThruster_84 : decode cX4_addThruster 84 = .ok (.ldc 50, 2) := by decide +kernel
theorem dX4_addThruster_86 : decode cX4_addThruster 86 = .ok (.ireturn, 1) := by decide +kernel
theorem dX4_addThruster_87 : decode cX4_addThruster 87 = .ok (.aload_n 0, 1) := by decide +kernel
theorem dX4_addThruster_88 : decode cX4_addThruster 88 = .ok (.getfield 10, 3) := by decide +kernel
theorem dX4_addThruster_91 : decode cX4_addThruster 91 = .ok (.getfield 51, 3) := by decide +kernel
theorem dX4_addThruster_94 : decode cX4_addThruster 94 = .ok (.bipush 8, 2) := by decide +kernel
theorem dX4_addThruster_96 : decode cX4_addThruster 96 = .ok (.if_icmp .lt 6, 3) := by decide +kernel
theorem dX4_addThruster_99 : decode cX4_addThruster 99 = .ok (.ldc 55, 2) := by decide +kernel
theorem dX4_addThruster_101 : decode cX4_addThruster 101 = .ok (.ireturn, 1) := by decide +kernel
theorem dX4_addThruster_102 : decode cX4_addThruster 102 = .ok (.aload_n 0, 1) := by decide +kernel
theorem dX4_addThruster_103 : decode cX4_addThruster 103 = .ok (.getfield 19, 3) := by decide +kernel
theorem dX4_addThruster_106 : decode cX4_addThruster 106 = .ok (.aload_n 0, 1) := by decide +kernel
theorem dX4_addThruster_107 : decode cX4_addThruster 107 = .ok (.getfield 10, 3) := by decide +kernel
theorem dX4_addThruster_110 : decode cX4_addThruster 110 = .ok (.invokevirtual 56, 3) := by decide +kernel
theorem dX4_addThruster_113 : decode cX4_addThruster 113 = .ok (.aload_n 0, 1) := by decide +kernel
theorem dX4_addThruster_114 : decode cX4_addThruster 114 = .ok (.getfield 10, 3) := by decide +kernel
theorem dX4_addThruster_117 : decode cX4_addThruster 117 = .ok (.iload_n 1, 1) := by decide +kernel
theorem dX4_addThruster_118 : decode cX4_addThruster 118 = .ok (.iload_n 2, 1) := by decide +kernel
theorem dX4_addThruster_119 : decode cX4_addThruster 119 = .ok (.iload_n 3, 1) := by decide +kernel
theorem dX4_addThruster_120 : decode cX4_addThruster 120 = .ok (.iload 4, 2) := by decide +kernel
theorem dX4_addThruster_122 : decode cX4_addThruster 122 = .ok (.iload 5, 2) := by decide +kernel
theorem dX4_addThruster_124 : decode cX4_addThruster 124 = .ok (.iload 6, 2) := by decide +kernel
theorem dX4_addThruster_126 : decode cX4_addThruster 126 = .ok (.invokevirtual 60, 3) := by decide +kernel
theorem dX4_addThruster_129 : decode cX4_addThruster 129 = .ok (.ireturn, 1) := by decide +kernel
theorem dX4_setState_0 : decode cX4_setState 0 = .ok (.aload_n 0, 1) := by decide +kernel
theorem dX4_setState_1 : decode cX4_setState 1 = .ok (.iload_n 1, 1) := by decide +kernel
theorem dX4_setState_2 : decode cX4_setState 2 = .ok (.invokevirtual 64, 3) := by decide +kernel
theorem dX4_setState_5 : decode cX4_setState 5 = .ok (.ifCond .ne 6, 3) := by decide +kernel
theorem dX4_setState_8 : decode cX4_setState 8 = .ok (.ldc 41, 2) := by decide +kernel
theorem dX4_setState_10 : decode cX4_setState 10 = .ok (.ireturn, 1) := by decide +kernel
theorem dX4_setState_11 : decode cX4_setState 11 = .ok (.iload_n 2, 1) := by decide +kernel
theorem dX4_setState_12 : decode cX4_setState 12 = .ok (.iconst 0, 1) := by decide +kernel
theorem dX4_setState_13 : decode cX4_setState 13 = .ok (.iconst 2, 1) := by decide +kernel
theorem dX4_setState_14 : decode cX4_setState 14 = .ok (.invokestatic 46, 3) := by decide +kernel
theorem dX4_setState_17 : decode cX4_setState 17 = .ok (.ifCond .ne 6, 3) := by decide +kernel
theorem dX4_setState_20 : decode cX4_setState 20 = .ok (.ldc 50, 2) := by decide +kernel
theorem dX4_setState_22 : decode cX4_setState 22 = .ok (.ireturn, 1) := by decide +kernel
theorem dX4_setState_23 : decode cX4_setState 23 = .ok (.aload_n 0, 1) := by decide +kernel
theorem dX4_setState_24 : decode cX4_setState 24 = .ok (.getfield 19, 3) := by decide +kernel
theorem dX4_setState_27 : decode cX4_setState 27 = .ok (.aload_n 0, 1) := by decide +kernel
theorem dX4_setState_28 : decode cX4_setState 28 = .ok (.getfield 10, 3) := by decide +kernel
theorem dX4_setState_31 : decode cX4_setState 31 = .ok (.invokevirtual 56, 3) := by decide +kernel
theorem dX4_setState_34 : decode cX4_setState 34 = .ok (.aload_n 0, 1) := by decide +kernel
theorem dX4_setState_35 : decode cX4_setState 35 = .ok (.getfield 10, 3) := by decide +kernel
theorem dX4_setState_38 : decode cX4_setState 38 = .ok (.iload_n 1, 1) := by decide +kernel
theorem dX4_setState_39 : decode cX4_setState 39 = .ok (.bipush 6, 2) := by decide +kernel
theorem dX4_setState_41 : decode cX4_setState 41 = .ok (.invokevirtual 67, 3) := by decide +kernel
theorem dX4_setState_44 : decode cX4_setState 44 = .ok (.istore_n 3, 1) := by decide +kernel
theorem dX4_setState_45 : decode cX4_setState 45 = .ok (.aload_n 0, 1) := by decide +kernel
theorem dX4_setState_46 : decode cX4_setState 46 = .ok (.getfield 10, 3) := by decide +kernel
theorem dX4_setState_49 : decode cX4_setState 49 = .ok (.iload_n 1, 1) := by decide +kernel
theorem dX4_setState_50 : decode cX4_setState 50 = .ok (.bipush 6, 2) := by decide +kernel
theorem dX4_setState_52 : decode cX4_setState 52 = .ok (.iload_n 2, 1) := by decide +kernel
theorem dX4_setState_53 : decode cX4_setState 53 = .ok (.invokevirtual 71, 3) := by decide +kernel
theorem dX4_setState_56 : decode cX4_setState 56 = .ok (.iload_n 3, 1) := by decide +kernel
theorem dX4_setState_57 : decode cX4_setState 57 = .ok (.ireturn, 1) := by decide +kernel
theorem dX4_thrusters_0 : decode cX4_thrusters 0 = .ok (.aload_n 0, 1) := by decide +kernel
theorem dX4_thrusters_1 : decode cX4_thrusters 1 = .ok (.getfield 10, 3) := by decide +kernel
theorem dX4_thrusters_4 : decode cX4_thrusters 4 = .ok (.getfield 51, 3) := by decide +kernel
theorem dX4_thrusters_7 : decode cX4_thrusters 7 = .ok (.ireturn, 1) := by decide +kernel
theorem dX4_thruster_0 : decode cX4_thruster 0 = .ok (.aload_n 0, 1) := by decide +kernel
theorem dX4_thruster_1 : decode cX4_thruster 1 = .ok (.iload_n 1, 1) := by decide +kernel
theorem dX4_thruster_2 : decode cX4_thruster 2 = .ok (.invokevirtual 64, 3) := by decide +kernel
theorem dX4_thruster_5 : decode cX4_thruster 5 = .ok (.ifCond .ne 6, 3) := by decide +kernel
theorem dX4_thruster_8 : decode cX4_thruster 8 = .ok (.ldc 41, 2) := by decide +kernel
theorem dX4_thruster_10 : decode cX4_thruster 10 = .ok (.ireturn, 1) := by decide +kernel
theorem dX4_thruster_11 : decode cX4_thruster 11 = .ok (.iload_n 2, 1) := by decide +kernel
theorem dX4_thruster_12 : decode cX4_thruster 12 = .ok (.iconst 0, 1) := by decide +kernel
theorem dX4_thruster_13 : decode cX4_thruster 13 = .ok (.bipush 8, 2) := by decide +kernel
theorem dX4_thruster_15 : decode cX4_thruster 15 = .ok (.invokestatic 46, 3) := by decide +kernel
theorem dX4_thruster_18 : decode cX4_thruster 18 = .ok (.ifCond .ne 6, 3) := by decide +kernel
theorem dX4_thruster_21 : decode cX4_thruster 21 = .ok (.ldc 50, 2) := by decide +kernel
theorem dX4_thruster_23 : decode cX4_thruster 23 = .ok (.ireturn, 1) := by decide +kernel
theorem dX4_thruster_24 : decode cX4_thruster 24 = .ok (.iload_n 2, 1) := by decide +kernel
theorem dX4_thruster_25 : decode cX4_thruster 25 = .ok (.bipush 7, 2) := by decide +kernel
theorem dX4_thruster_27 : decode cX4_thruster 27 = .ok (.if_icmp .ne 20, 3) := by decide +kernel
theorem dX4_thruster_30 : decode cX4_thruster 30 = .ok (.aload_n 0, 1) := by decide +kernel
theorem dX4_thruster_31 : decode cX4_thruster 31 = .ok (.getfield 10, 3) := by decide +kernel
theorem dX4_thruster_34 : decode cX4_thruster 34 = .ok (.iload_n 1, 1) := by decide +kernel
theorem dX4_thruster_35 : decode cX4_thruster 35 = .ok (.invokevirtual 75, 3) := by decide +kernel
theorem dX4_thruster_38 : decode cX4_thruster 38 = .ok (.ifCond .eq 7, 3) := by decide +kernel
theorem dX4_thruster_41 : decode cX4_thruster 41 = .ok (.iconst 1, 1) := by decide +kernel
theorem dX4_thruster_42 : decode cX4_thruster 42 = .ok (.goto 4, 3) := by decide +kernel
theorem dX4_thruster_45 : decode cX4_thruster 45 = .ok (.iconst 0, 1) := by decide +kernel
theorem dX4_thruster_46 : decode cX4_thruster 46 = .ok (.ireturn, 1) := by decide +kernel
theorem dX4_thruster_47 : decode cX4_thruster 47 = .ok (.iload_n 2, 1) := by decide +kernel
theorem dX4_thruster_48 : decode cX4_thruster 48 = .ok (.bipush 8, 2) := by decide +kernel
theorem dX4_thruster_50 : decode cX4_thruster 50 = .ok (.if_icmp .ne 20, 3) := by decide +kernel
theorem dX4_thruster_53 : decode cX4_thruster 53 = .ok (.aload_n 0, 1) := by decide +kernel
theorem dX4_thruster_54 : decode cX4_thruster 54 = .ok (.getfield 10, 3) := by decide +kernel
theorem dX4_thruster_57 : decode cX4_thruster 57 = .ok (.iload_n 1, 1) := by decide +kernel
theorem dX4_thruster_58 : decode cX4_thruster 58 = .ok (.invokevirtual 78, 3) := by decide +kernel
theorem dX4_thruster_61 : decode cX4_thruster 61 = .ok (.ifCond .eq 7, 3) := by decide +kernel
theorem dX4_thruster_64 : decode cX4_thruster 64 = .ok (.iconst 1, 1) := by decide +kernel
theorem dX4_thruster_65 : decode cX4_thruster 65 = .ok (.goto 4, 3) := by decide +kernel
theorem dX4_thruster_68 : decode cX4_thruster 68 = .ok (.iconst 0, 1) := by decide +kernel
theorem dX4_thruster_69 : decode cX4_thruster 69 = .ok (.ireturn, 1) := by decide +kernel
theorem dX4_thruster_70 : decode cX4_thruster 70 = .ok (.aload_n 0, 1) := by decide +kernel
theorem dX4_thruster_71 : decode cX4_thruster 71 = .ok (.getfield 10, 3) := by decide +kernel
theorem dX4_thruster_74 : decode cX4_thruster 74 = .ok (.iload_n 1, 1) := by decide +kernel
theorem dX4_thruster_75 : decode cX4_thruster 75 = .ok (.iload_n 2, 1) := by decide +kernel
theorem dX4_thruster_76 : decode cX4_thruster 76 = .ok (.invokevirtual 67, 3) := by decide +kernel
theorem dX4_thruster_79 : decode cX4_thruster 79 = .ok (.ireturn, 1) := by decide +kernel
theorem dX4_unit_0 : decode cX4_unit 0 = .ok (.aload_n 0, 1) := by decide +kernel
theorem dX4_unit_1 : decode cX4_unit 1 = .ok (.iload_n 1, 1) := by decide +kernel
theorem dX4_unit_2 : decode cX4_unit 2 = .ok (.invokevirtual 64, 3) := by decide +kernel
theorem dX4_unit_5 : decode cX4_unit 5 = .ok (.ifCond .eq 10, 3) := by decide +kernel
theorem dX4_unit_8 : decode cX4_unit 8 = .ok (.iload_n 2, 1) := by decide +kernel
theorem dX4_unit_9 : decode cX4_unit 9 = .ok (.invokestatic 81, 3) := by decide +kernel
theorem dX4_unit_12 : decode cX4_unit 12 = .ok (.ifCond .ne 6, 3) := by decide +kernel
theorem dX4_unit_15 : decode cX4_unit 15 = .ok (.ldc 41, 2) := by decide +kernel
theorem dX4_unit_17 : decode cX4_unit 17 = .ok (.ireturn, 1) := by decide +kernel
theorem dX4_unit_18 : decode cX4_unit 18 = .ok (.aload_n 0, 1) := by decide +kernel
theorem dX4_unit_19 : decode cX4_unit 19 = .ok (.getfield 10, 3) := by decide +kernel
theorem dX4_unit_22 : decode cX4_unit 22 = .ok (.iload_n 1, 1) := by decide +kernel
theorem dX4_unit_23 : decode cX4_unit 23 = .ok (.iload_n 2, 1) := by decide +kernel
theorem dX4_unit_24 : decode cX4_unit 24 = .ok (.invokevirtual 84, 3) := by decide +kernel
theorem dX4_unit_27 : decode cX4_unit 27 = .ok (.ireturn, 1) := by decide +kernel
theorem dX4_determinant_0 : decode cX4_determinant 0 = .ok (.aload_n 0, 1) := by decide +kernel
theorem dX4_determinant_1 : decode cX4_determinant 1 = .ok (.iload_n 1, 1) := by decide +kernel
theorem dX4_determinant_2 : decode cX4_determinant 2 = .ok (.invokevirtual 64, 3) := by decide +kernel
theorem dX4_determinant_5 : decode cX4_determinant 5 = .ok (.ifCond .eq 19, 3) := by decide +kernel
theorem dX4_determinant_8 : decode cX4_determinant 8 = .ok (.aload_n 0, 1) := by decide +kernel
theorem dX4_determinant_9 : decode cX4_determinant 9 = .ok (.iload_n 2, 1) := by decide +kernel
theorem dX4_determinant_10 : decode cX4_determinant 10 = .ok (.invokevirtual 64, 3) := by decide +kernel
theorem dX4_determinant_13 : decode cX4_determinant 13 = .ok (.ifCond .eq 11, 3) := by decide +kernel
theorem dX4_determinant_16 : decode cX4_determinant 16 = .ok (.aload_n 0, 1) := by decide +kernel
theorem dX4_determinant_17 : decode cX4_determinant 17 = .ok (.iload_n 3, 1) := by decide +kernel
theorem dX4_determinant_18 : decode cX4_determinant 18 = .ok (.invokevirtual 64, 3) := by decide +kernel
theorem dX4_determinant_21 : decode cX4_determinant 21 = .ok (.ifCond .ne 6, 3) := by decide +kernel
theorem dX4_determinant_24 : decode cX4_determinant 24 = .ok (.ldc 41, 2) := by decide +kernel
theorem dX4_determinant_26 : decode cX4_determinant 26 = .ok (.ireturn, 1) := by decide +kernel
theorem dX4_determinant_27 : decode cX4_determinant 27 = .ok (.aload_n 0, 1) := by decide +kernel
theorem dX4_determinant_28 : decode cX4_determinant 28 = .ok (.getfield 26, 3) := by decide +kernel
theorem dX4_determinant_31 : decode cX4_determinant 31 = .ok (.aload_n 0, 1) := by decide +kernel
theorem dX4_determinant_32 : decode cX4_determinant 32 = .ok (.getfield 10, 3) := by decide +kernel
theorem dX4_determinant_35 : decode cX4_determinant 35 = .ok (.invokevirtual 87, 3) := by decide +kernel
theorem dX4_determinant_38 : decode cX4_determinant 38 = .ok (.aload_n 0, 1) := by decide +kernel
theorem dX4_determinant_39 : decode cX4_determinant 39 = .ok (.getfield 26, 3) := by decide +kernel
theorem dX4_determinant_42 : decode cX4_determinant 42 = .ok (.iload_n 1, 1) := by decide +kernel
theorem dX4_determinant_43 : decode cX4_determinant 43 = .ok (.iload_n 2, 1) := by decide +kernel
theorem dX4_determinant_44 : decode cX4_determinant 44 = .ok (.iload_n 3, 1) := by decide +kernel
theorem dX4_determinant_45 : decode cX4_determinant 45 = .ok (.invokevirtual 90, 3) := by decide +kernel
theorem dX4_determinant_48 : decode cX4_determinant 48 = .ok (.l2i, 1) := by decide +kernel
theorem dX4_determinant_49 : decode cX4_determinant 49 = .ok (.ireturn, 1) := by decide +kernel
theorem dX4_refuel_0 : decode cX4_refuel 0 = .ok (.iload_n 1, 1) := by decide +kernel
theorem dX4_refuel_1 : decode cX4_refuel 1 = .ok (.invokestatic 37, 3) := by decide +kernel
theorem dX4_refuel_4 : decode cX4_refuel 4 = .ok (.ifCond .ne 6, 3) := by decide +kernel
theorem dX4_refuel_7 : decode cX4_refuel 7 = .ok (.ldc 41, 2) := by decide +kernel
theorem dX4_refuel_9 : decode cX4_refuel 9 = .ok (.ireturn, 1) := by decide +kernel
theorem dX4_refuel_10 : decode cX4_refuel 10 = .ok (.iload_n 2, 1) := by decide +kernel
theorem dX4_refuel_11 : decode cX4_refuel 11 = .ok (.iconst 0, 1) := by decide +kernel
theorem dX4_refuel_12 : decode cX4_refuel 12 = .ok (.ldc 94, 2) := by decide +kernel
theorem dX4_refuel_14 : decode cX4_refuel 14 = .ok (.invokestatic 46, 3) := by decide +kernel
theorem dX4_refuel_17 : decode cX4_refuel 17 = .ok (.ifCond .ne 6, 3) := by decide +kernel
theorem dX4_refuel_20 : decode cX4_refuel 20 = .ok (.ldc 50, 2) := by decide +kernel
theorem dX4_refuel_22 : decode cX4_refuel 22 = .ok (.ireturn, 1) := by decide +kernel
theorem dX4_refuel_23 : decode cX4_refuel 23 = .ok (.aload_n 0, 1) := by decide +kernel
theorem dX4_refuel_24 : decode cX4_refuel 24 = .ok (.getfield 19, 3) := by decide +kernel
theorem dX4_refuel_27 : decode cX4_refuel 27 = .ok (.aload_n 0, 1) := by decide +kernel
theorem dX4_refuel_28 : decode cX4_refuel 28 = .ok (.getfield 10, 3) := by decide +kernel
theorem dX4_refuel_31 : decode cX4_refuel 31 = .ok (.invokevirtual 56, 3) := by decide +kernel
theorem dX4_refuel_34 : decode cX4_refuel 34 = .ok (.aload_n 0, 1) := by decide +kernel
theorem dX4_refuel_35 : decode cX4_refuel 35 = .ok (.getfield 10, 3) := by decide +kernel
theorem dX4_refuel_38 : decode cX4_refuel 38 = .ok (.getfield 95, 3) := by decide +kernel
theorem dX4_refuel_41 : decode cX4_refuel 41 = .ok (.iload_n 1, 1) := by decide +kernel
theorem dX4_refuel_42 : decode cX4_refuel 42 = .ok (.iaload, 1) := by decide +kernel
theorem dX4_refuel_43 : decode cX4_refuel 43 = .ok (.istore_n 3, 1) := by decide +kernel
theorem dX4_refuel_44 : decode cX4_refuel 44 = .ok (.aload_n 0, 1) := by decide +kernel
theorem dX4_refuel_45 : decode cX4_refuel 45 = .ok (.getfield 10, 3) := by decide +kernel
theorem dX4_refuel_48 : decode cX4_refuel 48 = .ok (.getfield 95, 3) := by decide +kernel
theorem dX4_refuel_51 : decode cX4_refuel 51 = .ok (.iload_n 1, 1) := by decide +kernel
theorem dX4_refuel_52 : decode cX4_refuel 52 = .ok (.iload_n 2, 1) := by decide +kernel
theorem dX4_refuel_53 : decode cX4_refuel 53 = .ok (.iastore, 1) := by decide +kernel
theorem dX4_refuel_54 : decode cX4_refuel 54 = .ok (.iload_n 3, 1) := by decide +kernel
theorem dX4_refuel_55 : decode cX4_refuel 55 = .ok (.ireturn, 1) := by decide +kernel
theorem dX4_fuel_0 : decode cX4_fuel 0 = .ok (.iload_n 1, 1) := by decide +kernel
theorem dX4_fuel_1 : decode cX4_fuel 1 = .ok (.invokestatic 37, 3) := by decide +kernel
theorem dX4_fuel_4 : decode cX4_fuel 4 = .ok (.ifCond .eq 15, 3) := by decide +kernel
theorem dX4_fuel_7 : decode cX4_fuel 7 = .ok (.aload_n 0, 1) := by decide +kernel
theorem dX4_fuel_8 : decode cX4_fuel 8 = .ok (.getfield 10, 3) := by decide +kernel
theorem dX4_fuel_11 : decode cX4_fuel 11 = .ok (.getfield 95, 3) := by decide +kernel
theorem dX4_fuel_14 : decode cX4_fuel 14 = .ok (.iload_n 1, 1) := by decide +kernel
theorem dX4_fuel_15 : decode cX4_fuel 15 = .ok (.iaload, 1) := by decide +kernel
theorem dX4_fuel_16 : decode cX4_fuel 16 = .ok (.goto 5, 3) := by decide +kernel
theorem dX4_fuel_19 : decode cX4_fuel 19 = .ok (.ldc 41, 2) := by decide +kernel
theorem dX4_fuel_21 : decode cX4_fuel 21 = .ok (.ireturn, 1) := by decide +kernel
theorem dX4_forbid_0 : decode cX4_forbid 0 = .ok (.iload_n 1, 1) := by decide +kernel
theorem dX4_forbid_1 : decode cX4_forbid 1 = .ok (.iconst 0, 1) := by decide +kernel
theorem dX4_forbid_2 : decode cX4_forbid 2 = .ok (.iconst 1, 1) := by decide +kernel
theorem dX4_forbid_3 : decode cX4_forbid 3 = .ok (.aload_n 0, 1) := by decide +kernel
theorem dX4_forbid_4 : decode cX4_forbid 4 = .ok (.getfield 10, 3) := by decide +kernel
theorem dX4_forbid_7 : decode cX4_forbid 7 = .ok (.getfield 51, 3) := by decide +kernel
theorem dX4_forbid_10 : decode cX4_forbid 10 = .ok (.ishl, 1) := by decide +kernel
theorem dX4_forbid_11 : decode cX4_forbid 11 = .ok (.iconst 1, 1) := by decide +kernel
theorem dX4_forbid_12 : decode cX4_forbid 12 = .ok (.isub, 1) := by decide +kernel
theorem dX4_forbid_13 : decode cX4_forbid 13 = .ok (.invokestatic 46, 3) := by decide +kernel
theorem dX4_forbid_16 : decode cX4_forbid 16 = .ok (.istore_n 2, 1) := by decide +kernel
theorem dX4_forbid_17 : decode cX4_forbid 17 = .ok (.iload_n 2, 1) := by decide +kernel
theorem dX4_forbid_18 : decode cX4_forbid 18 = .ok (.ifCond .eq 11, 3) := by decide +kernel
theorem dX4_forbid_21 : decode cX4_forbid 21 = .ok (.iload_n 1, 1) := by decide +kernel
theorem dX4_forbid_22 : decode cX4_forbid 22 = .ok (.invokestatic 99, 3) := by decide +kernel
theorem dX4_forbid_25 : decode cX4_forbid 25 = .ok (.iconst 2, 1) := by decide +kernel
theorem dX4_forbid_26 : decode cX4_forbid 26 = .ok (.if_icmp .ge 6, 3) := by decide +kernel
theorem dX4_forbid_29 : decode cX4_forbid 29 = .ok (.ldc 50, 2) := by decide +kernel
theorem dX4_forbid_31 : decode cX4_forbid 31 = .ok (.ireturn, 1) := by decide +kernel
theorem dX4_forbid_32 : decode cX4_forbid 32 = .ok (.aload_n 0, 1) := by decide +kernel
theorem dX4_forbid_33 : decode cX4_forbid 33 = .ok (.getfield 10, 3) := by decide +kernel
theorem dX4_forbid_36 : decode cX4_forbid 36 = .ok (.iload_n 1, 1) := by decide +kernel
theorem dX4_forbid_37 : decode cX4_forbid 37 = .ok (.invokevirtual 105, 3) := by decide +kernel
theorem dX4_forbid_40 : decode cX4_forbid 40 = .ok (.ifCond .lt 6, 3) := by decide +kernel
theorem dX4_forbid_43 : decode cX4_forbid 43 = .ok (.ldc 108, 2) := by decide +kernel
theorem dX4_forbid_45 : decode cX4_forbid 45 = .ok (.ireturn, 1) := by decide +kernel
theorem dX4_forbid_46 : decode cX4_forbid 46 = .ok (.aload_n 0, 1) := by decide +kernel
theorem dX4_forbid_47 : decode cX4_forbid 47 = .ok (.getfield 10, 3) := by decide +kernel
theorem dX4_forbid_50 : decode cX4_forbid 50 = .ok (.getfield 109, 3) := by decide +kernel
theorem dX4_forbid_53 : decode cX4_forbid 53 = .ok (.bipush 8, 2) := by decide +kernel
theorem dX4_forbid_55 : decode cX4_forbid 55 = .ok (.if_icmp .lt 6, 3) := by decide +kernel
theorem dX4_forbid_58 : decode cX4_forbid 58 = .ok (.ldc 55, 2) := by decide +kernel
theorem dX4_forbid_60 : decode cX4_forbid 60 = .ok (.ireturn, 1) := by decide +kernel
theorem dX4_forbid_61 : decode cX4_forbid 61 = .ok (.aload_n 0, 1) := by decide +kernel
theorem dX4_forbid_62 : decode cX4_forbid 62 = .ok (.getfield 19, 3) := by decide +kernel
theorem dX4_forbid_65 : decode cX4_forbid 65 = .ok (.aload_n 0, 1) := by decide +kernel
theorem dX4_forbid_66 : decode cX4_forbid 66 = .ok (.getfield 10, 3) := by decide +kernel
theorem dX4_forbid_69 : decode cX4_forbid 69 = .ok (.invokevirtual 56, 3) := by decide +kernel
theorem dX4_forbid_72 : decode cX4_forbid 72 = .ok (.aload_n 0, 1) := by decide +kernel
theorem dX4_forbid_73 : decode cX4_forbid 73 = .ok (.getfield 10, 3) := by decide +kernel
theorem dX4_forbid_76 : decode cX4_forbid 76 = .ok (.iload_n 1, 1) := by decide +kernel
theorem dX4_forbid_77 : decode cX4_forbid 77 = .ok (.invokevirtual 112, 3) := by decide +kernel
theorem dX4_forbid_80 : decode cX4_forbid 80 = .ok (.ireturn, 1) := by decide +kernel
theorem dX4_allow_0 : decode cX4_allow 0 = .ok (.aload_n 0, 1) := by decide +kernel
theorem dX4_allow_1 : decode cX4_allow 1 = .ok (.getfield 10, 3) := by decide +kernel
theorem dX4_allow_4 : decode cX4_allow 4 = .ok (.iload_n 1, 1) := by decide +kernel
theorem dX4_allow_5 : decode cX4_allow 5 = .ok (.invokevirtual 105, 3) := by decide +kernel
theorem dX4_allow_8 : decode cX4_allow 8 = .ok (.istore_n 2, 1) := by decide +kernel
theorem dX4_allow_9 : decode cX4_allow 9 = .ok (.iload_n 2, 1) := by decide +kernel
theorem dX4_allow_10 : decode cX4_allow 10 = .ok (.ifCond .ge 6, 3) := by decide +kernel
theorem dX4_allow_13 : decode cX4_allow 13 = .ok (.ldc 108, 2) := by decide +kernel
theorem dX4_allow_15 : decode cX4_allow 15 = .ok (.ireturn, 1) := by decide +kernel
theorem dX4_allow_16 : decode cX4_allow 16 = .ok (.aload_n 0, 1) := by decide +kernel
theorem dX4_allow_17 : decode cX4_allow 17 = .ok (.getfield 19, 3) := by decide +kernel
theorem dX4_allow_20 : decode cX4_allow 20 = .ok (.aload_n 0, 1) := by decide +kernel
theorem dX4_allow_21 : decode cX4_allow 21 = .ok (.getfield 10, 3) := by decide +kernel
theorem dX4_allow_24 : decode cX4_allow 24 = .ok (.invokevirtual 56, 3) := by decide +kernel
theorem dX4_allow_27 : decode cX4_allow 27 = .ok (.aload_n 0, 1) := by decide +kernel
theorem dX4_allow_28 : decode cX4_allow 28 = .ok (.getfield 10, 3) := by decide +kernel
theorem dX4_allow_31 : decode cX4_allow 31 = .ok (.iload_n 2, 1) := by decide +kernel
theorem dX4_allow_32 : decode cX4_allow 32 = .ok (.invokevirtual 115, 3) := by decide +kernel
theorem dX4_allow_35 : decode cX4_allow 35 = .ok (.ireturn, 1) := by decide +kernel
theorem dX4_isForbidden_0 : decode cX4_isForbidden 0 = .ok (.iload_n 1, 1) := by decide +kernel
theorem dX4_isForbidden_1 : decode cX4_isForbidden 1 = .ok (.iconst 0, 1) := by decide +kernel
theorem dX4_isForbidden_2 : decode cX4_isForbidden 2 = .ok (.sipush 255, 3) := by decide +kernel
theorem dX4_isForbidden_5 : decode cX4_isForbidden 5 = .ok (.invokestatic 46, 3) := by decide +kernel
theorem dX4_isForbidden_8 : decode cX4_isForbidden 8 = .ok (.ifCond .ne 6, 3) := by decide +kernel
theorem dX4_isForbidden_11 : decode cX4_isForbidden 11 = .ok (.ldc 50, 2) := by decide +kernel
theorem dX4_isForbidden_13 : decode cX4_isForbidden 13 = .ok (.ireturn, 1) := by decide +kernel
theorem dX4_isForbidden_14 : decode cX4_isForbidden 14 = .ok (.aload_n 0, 1) := by decide +kernel
theorem dX4_isForbidden_15 : decode cX4_isForbidden 15 = .ok (.getfield 10, 3) := by decide +kernel
theorem dX4_isForbidden_18 : decode cX4_isForbidden 18 = .ok (.iload_n 1, 1) := by decide +kernel
theorem dX4_isForbidden_19 : decode cX4_isForbidden 19 = .ok (.aload_n 0, 1) := by decide +kernel
theorem dX4_isForbidden_20 : decode cX4_isForbidden 20 = .ok (.getfield 10, 3) := by decide +kernel
theorem dX4_isForbidden_23 : decode cX4_isForbidden 23 = .ok (.invokevirtual 118, 3) := by decide +kernel
theorem dX4_isForbidden_26 : decode cX4_isForbidden 26 = .ok (.ior, 1) := by decide +kernel
theorem dX4_isForbidden_27 : decode cX4_isForbidden 27 = .ok (.invokevirtual 122, 3) := by decide +kernel
theorem dX4_isForbidden_30 : decode cX4_isForbidden 30 = .ok (.ifCond .eq 7, 3) := by decide +kernel
theorem dX4_isForbidden_33 : decode cX4_isForbidden 33 = .ok (.iconst 1, 1) := by decide +kernel
theorem dX4_isForbidden_34 : decode cX4_isForbidden 34 = .ok (.goto 4, 3) := by decide +kernel
theorem dX4_isForbidden_37 : decode cX4_isForbidden 37 = .ok (.iconst 0, 1) := by decide +kernel
theorem dX4_isForbidden_38 : decode cX4_isForbidden 38 = .ok (.ireturn, 1) := by decide +kernel
theorem dX4_select_0 : decode cX4_select 0 = .ok (.iload_n 1, 1) := by decide +kernel
theorem dX4_select_1 : decode cX4_select 1 = .ok (.iload_n 2, 1) := by decide +kernel
theorem dX4_select_2 : decode cX4_select 2 = .ok (.iload_n 3, 1) := by decide +kernel
theorem dX4_select_3 : decode cX4_select 3 = .ok (.invokestatic 125, 3) := by decide +kernel
theorem dX4_select_6 : decode cX4_select 6 = .ok (.ifCond .ne 6, 3) := by decide +kernel
theorem dX4_select_9 : decode cX4_select 9 = .ok (.ldc 50, 2) := by decide +kernel
theorem dX4_select_11 : decode cX4_select 11 = .ok (.ireturn, 1) := by decide +kernel
theorem dX4_select_12 : decode cX4_select 12 = .ok (.aload_n 0, 1) := by decide +kernel
theorem dX4_select_13 : decode cX4_select 13 = .ok (.getfield 26, 3) := by decide +kernel
theorem dX4_select_16 : decode cX4_select 16 = .ok (.aload_n 0, 1) := by decide +kernel
theorem dX4_select_17 : decode cX4_select 17 = .ok (.getfield 10, 3) := by decide +kernel
theorem dX4_select_20 : decode cX4_select 20 = .ok (.iload_n 1, 1) := by decide +kernel
theorem dX4_select_21 : decode cX4_select 21 = .ok (.iload_n 2, 1) := by decide +kernel
theorem dX4_select_22 : decode cX4_select 22 = .ok (.iload_n 3, 1) := by decide +kernel
theorem dX4_select_23 : decode cX4_select 23 = .ok (.invokevirtual 128, 3) := by decide +kernel
theorem dX4_select_26 : decode cX4_select 26 = .ok (.aload_n 0, 1) := by decide +kernel
theorem dX4_select_27 : decode cX4_select 27 = .ok (.getfield 26, 3) := by decide +kernel
theorem dX4_select_30 : decode cX4_select 30 = .ok (.getfield 132, 3) := by decide +kernel
theorem dX4_select_33 : decode cX4_select 33 = .ok (.ifCond .eq 13, 3) := by decide +kernel
theorem dX4_select_36 : decode cX4_select 36 = .ok (.aload_n 0, 1) := by decide +kernel
theorem dX4_select_37 : decode cX4_select 37 = .ok (.getfield 26, 3) := by decide +kernel
theorem dX4_select_40 : decode cX4_select 40 = .ok (.getfield 136, 3) := by decide +kernel
theorem dX4_select_43 : decode cX4_select 43 = .ok (.goto 5, 3) := by decide +kernel
theorem dX4_select_46 : decode cX4_select 46 = .ok (.ldc 139, 2) := by decide +kernel
theorem dX4_select_48 : decode cX4_select 48 = .ok (.ireturn, 1) := by decide +kernel
theorem dX4_pulse_0 : decode cX4_pulse 0 = .ok (.aload_n 0, 1) := by decide +kernel
theorem dX4_pulse_1 : decode cX4_pulse 1 = .ok (.iload 4, 2) := by decide +kernel
theorem dX4_pulse_3 : decode cX4_pulse 3 = .ok (.invokevirtual 64, 3) := by decide +kernel
theorem dX4_pulse_6 : decode cX4_pulse 6 = .ok (.ifCond .ne 6, 3) := by decide +kernel
theorem dX4_pulse_9 : decode cX4_pulse 9 = .ok (.ldc 41, 2) := by decide +kernel
theorem dX4_pulse_11 : decode cX4_pulse 11 = .ok (.ireturn, 1) := by decide +kernel
theorem dX4_pulse_12 : decode cX4_pulse 12 = .ok (.iload_n 1, 1) := by decide +kernel
theorem dX4_pulse_13 : decode cX4_pulse 13 = .ok (.iload_n 2, 1) := by decide +kernel
theorem dX4_pulse_14 : decode cX4_pulse 14 = .ok (.iload_n 3, 1) := by decide +kernel
theorem dX4_pulse_15 : decode cX4_pulse 15 = .ok (.invokestatic 125, 3) := by decide +kernel
theorem dX4_pulse_18 : decode cX4_pulse 18 = .ok (.ifCond .ne 6, 3) := by decide +kernel
theorem dX4_pulse_21 : decode cX4_pulse 21 = .ok (.ldc 50, 2) := by decide +kernel
theorem dX4_pulse_23 : decode cX4_pulse 23 = .ok (.ireturn, 1) := by decide +kernel
theorem dX4_pulse_24 : decode cX4_pulse 24 = .ok (.aload_n 0, 1) := by decide +kernel
theorem dX4_pulse_25 : decode cX4_pulse 25 = .ok (.getfield 26, 3) := by decide +kernel
theorem dX4_pulse_28 : decode cX4_pulse 28 = .ok (.aload_n 0, 1) := by decide +kernel
theorem dX4_pulse_29 : decode cX4_pulse 29 = .ok (.getfield 10, 3) := by decide +kernel
theorem dX4_pulse_32 : decode cX4_pulse 32 = .ok (.iload_n 1, 1) := by decide +kernel
theorem dX4_pulse_33 : decode cX4_pulse 33 = .ok (.iload_n 2, 1) := by decide +kernel
theorem dX4_pulse_34 : decode cX4_pulse 34 = .ok (.iload_n 3, 1) := by decide +kernel
theorem dX4_pulse_35 : decode cX4_pulse 35 = .ok (.invokevirtual 128, 3) := by decide +kernel
theorem dX4_pulse_38 : decode cX4_pulse 38 = .ok (.aload_n 0, 1) := by decide +kernel
theorem dX4_pulse_39 : decode cX4_pulse 39 = .ok (.getfield 26, 3) := by decide +kernel
theorem dX4_pulse_42 : decode cX4_pulse 42 = .ok (.getfield 132, 3) := by decide +kernel
theorem dX4_pulse_45 : decode cX4_pulse 45 = .ok (.ifCond .eq 25, 3) := by decide +kernel
theorem dX4_pulse_48 : decode cX4_pulse 48 = .ok (.aload_n 0, 1) := by decide +kernel
theorem dX4_pulse_49 : decode cX4_pulse 49 = .ok (.getfield 26, 3) := by decide +kernel
theorem dX4_pulse_52 : decode cX4_pulse 52 = .ok (.iload 4, 2) := by decide +kernel
theorem dX4_pulse_54 : decode cX4_pulse 54 = .ok (.aload_n 0, 1) := by decide +kernel
theorem dX4_pulse_55 : decode cX4_pulse 55 = .ok (.getfield 10, 3) := by decide +kernel
theorem dX4_pulse_58 : decode cX4_pulse 58 = .ok (.iload 4, 2) := by decide +kernel
theorem dX4_pulse_60 : decode cX4_pulse 60 = .ok (.iconst 5, 1) := by decide +kernel
theorem dX4_pulse_61 : decode cX4_pulse 61 = .ok (.invokevirtual 67, 3) := by decide +kernel
theorem dX4_pulse_64 : decode cX4_pulse 64 = .ok (.invokevirtual 140, 3) := by decide +kernel
theorem dX4_pulse_67 : decode cX4_pulse 67 = .ok (.goto 5, 3) := by decide +kernel
theorem dX4_pulse_70 : decode cX4_pulse 70 = .ok (.ldc 139, 2) := by decide +kernel
theorem dX4_pulse_72 : decode cX4_pulse 72 = .ok (.ireturn, 1) := by decide +kernel
theorem dX4_price_0 : decode cX4_price 0 = .ok (.iload_n 1, 1) := by decide +kernel
theorem dX4_price_1 : decode cX4_price 1 = .ok (.iload_n 2, 1) := by decide +kernel
theorem dX4_price_2 : decode cX4_price 2 = .ok (.iload_n 3, 1) := by decide +kernel
theorem dX4_price_3 : decode cX4_price 3 = .ok (.invokestatic 125, 3) := by decide +kernel
theorem dX4_price_6 : decode cX4_price 6 = .ok (.ifCond .ne 6, 3) := by decide +kernel
theorem dX4_price_9 : decode cX4_price 9 = .ok (.ldc 50, 2) := by decide +kernel
theorem dX4_price_11 : decode cX4_price 11 = .ok (.ireturn, 1) := by decide +kernel
theorem dX4_price_12 : decode cX4_price 12 = .ok (.aload_n 0, 1) := by decide +kernel
theorem dX4_price_13 : decode cX4_price 13 = .ok (.getfield 26, 3) := by decide +kernel
theorem dX4_price_16 : decode cX4_price 16 = .ok (.aload_n 0, 1) := by decide +kernel
theorem dX4_price_17 : decode cX4_price 17 = .ok (.getfield 10, 3) := by decide +kernel
theorem dX4_price_20 : decode cX4_price 20 = .ok (.iload_n 1, 1) := by decide +kernel
theorem dX4_price_21 : decode cX4_price 21 = .ok (.iload_n 2, 1) := by decide +kernel
theorem dX4_price_22 : decode cX4_price 22 = .ok (.iload_n 3, 1) := by decide +kernel
theorem dX4_price_23 : decode cX4_price 23 = .ok (.invokevirtual 128, 3) := by decide +kernel
theorem dX4_price_26 : decode cX4_price 26 = .ok (.aload_n 0, 1) := by decide +kernel
theorem dX4_price_27 : decode cX4_price 27 = .ok (.getfield 26, 3) := by decide +kernel
theorem dX4_price_30 : decode cX4_price 30 = .ok (.getfield 132, 3) := by decide +kernel
theorem dX4_price_33 : decode cX4_price 33 = .ok (.ifCond .eq 13, 3) := by decide +kernel
theorem dX4_price_36 : decode cX4_price 36 = .ok (.aload_n 0, 1) := by decide +kernel
theorem dX4_price_37 : decode cX4_price 37 = .ok (.getfield 26, 3) := by decide +kernel
theorem dX4_price_40 : decode cX4_price 40 = .ok (.invokevirtual 143, 3) := by decide +kernel
theorem dX4_price_43 : decode cX4_price 43 = .ok (.goto 5, 3) := by decide +kernel
theorem dX4_price_46 : decode cX4_price 46 = .ok (.ldc 139, 2) := by decide +kernel
theorem dX4_price_48 : decode cX4_price 48 = .ok (.ireturn, 1) := by decide +kernel
theorem dX4_request_0 : decode cX4_request 0 = .ok (.aload_n 0, 1) := by decide +kernel
theorem dX4_request_1 : decode cX4_request 1 = .ok (.iload_n 1, 1) := by decide +kernel
theorem dX4_request_2 : decode cX4_request 2 = .ok (.iload_n 2, 1) := by decide +kernel
theorem dX4_request_3 : decode cX4_request 3 = .ok (.iload_n 3, 1) := by decide +kernel
theorem dX4_request_4 : decode cX4_request 4 = .ok (.iconst 0, 1) := by decide +kernel
theorem dX4_request_5 : decode cX4_request 5 = .ok (.invokevirtual 146, 3) := by decide +kernel
theorem dX4_request_8 : decode cX4_request 8 = .ok (.ireturn, 1) := by decide +kernel
theorem dX4_urge_0 : decode cX4_urge 0 = .ok (.aload_n 0, 1) := by decide +kernel
theorem dX4_urge_1 : decode cX4_urge 1 = .ok (.iload_n 1, 1) := by decide +kernel
theorem dX4_urge_2 : decode cX4_urge 2 = .ok (.iload_n 2, 1) := by decide +kernel
theorem dX4_urge_3 : decode cX4_urge 3 = .ok (.iload_n 3, 1) := by decide +kernel
theorem dX4_urge_4 : decode cX4_urge 4 = .ok (.iconst 1, 1) := by decide +kernel
theorem dX4_urge_5 : decode cX4_urge 5 = .ok (.invokevirtual 146, 3) := by decide +kernel
theorem dX4_urge_8 : decode cX4_urge 8 = .ok (.ireturn, 1) := by decide +kernel
theorem dX4_cancel_0 : decode cX4_cancel 0 = .ok (.aload_n 0, 1) := by decide +kernel
theorem dX4_cancel_1 : decode cX4_cancel 1 = .ok (.iload_n 1, 1) := by decide +kernel
theorem dX4_cancel_2 : decode cX4_cancel 2 = .ok (.invokevirtual 150, 3) := by decide +kernel
theorem dX4_cancel_5 : decode cX4_cancel 5 = .ok (.ifCond .ne 6, 3) := by decide +kernel
theorem dX4_cancel_8 : decode cX4_cancel 8 = .ok (.ldc 41, 2) := by decide +kernel
theorem dX4_cancel_10 : decode cX4_cancel 10 = .ok (.ireturn, 1) := by decide +kernel
theorem dX4_cancel_11 : decode cX4_cancel 11 = .ok (.aload_n 0, 1) := by decide +kernel
theorem dX4_cancel_12 : decode cX4_cancel 12 = .ok (.getfield 19, 3) := by decide +kernel
theorem dX4_cancel_15 : decode cX4_cancel 15 = .ok (.aload_n 0, 1) := by decide +kernel
theorem dX4_cancel_16 : decode cX4_cancel 16 = .ok (.getfield 10, 3) := by decide +kernel
theorem dX4_cancel_19 : decode cX4_cancel 19 = .ok (.invokevirtual 56, 3) := by decide +kernel
theorem dX4_cancel_22 : decode cX4_cancel 22 = .ok (.aload_n 0, 1) := by decide +kernel
theorem dX4_cancel_23 : decode cX4_cancel 23 = .ok (.getfield 10, 3) := by decide +kernel
theorem dX4_cancel_26 : decode cX4_cancel 26 = .ok (.iload_n 1, 1) := by decide +kernel
theorem dX4_cancel_27 : decode cX4_cancel 27 = .ok (.invokevirtual 153, 3) := by decide +kernel
theorem dX4_cancel_30 : decode cX4_cancel 30 = .ok (.aload_n 0, 1) := by decide +kernel
theorem dX4_cancel_31 : decode cX4_cancel 31 = .ok (.getfield 10, 3) := by decide +kernel
theorem dX4_cancel_34 : decode cX4_cancel 34 = .ok (.getfield 157, 3) := by decide +kernel
theorem dX4_cancel_37 : decode cX4_cancel 37 = .ok (.ireturn, 1) := by decide +kernel
theorem dX4_queued_0 : decode cX4_queued 0 = .ok (.aload_n 0, 1) := by decide +kernel
theorem dX4_queued_1 : decode cX4_queued 1 = .ok (.getfield 10, 3) := by decide +kernel
theorem dX4_queued_4 : decode cX4_queued 4 = .ok (.getfield 157, 3) := by decide +kernel
theorem dX4_queued_7 : decode cX4_queued 7 = .ok (.ireturn, 1) := by decide +kernel
theorem dX4_requested_0 : decode cX4_requested 0 = .ok (.aload_n 0, 1) := by decide +kernel
theorem dX4_requested_1 : decode cX4_requested 1 = .ok (.iload_n 1, 1) := by decide +kernel
theorem dX4_requested_2 : decode cX4_requested 2 = .ok (.invokevirtual 150, 3) := by decide +kernel
theorem dX4_requested_5 : decode cX4_requested 5 = .ok (.ifCond .eq 10, 3) := by decide +kernel
theorem dX4_requested_8 : decode cX4_requested 8 = .ok (.iload_n 2, 1) := by decide +kernel
theorem dX4_requested_9 : decode cX4_requested 9 = .ok (.invokestatic 81, 3) := by decide +kernel
theorem dX4_requested_12 : decode cX4_requested 12 = .ok (.ifCond .ne 6, 3) := by decide +kernel
theorem dX4_requested_15 : decode cX4_requested 15 = .ok (.ldc 41, 2) := by decide +kernel
theorem dX4_requested_17 : decode cX4_requested 17 = .ok (.ireturn, 1) := by decide +kernel
theorem dX4_requested_18 : decode cX4_requested 18 = .ok (.aload_n 0, 1) := by decide +kernel
theorem dX4_requested_19 : decode cX4_requested 19 = .ok (.getfield 10, 3) := by decide +kernel
theorem dX4_requested_22 : decode cX4_requested 22 = .ok (.getfield 160, 3) := by decide +kernel
theorem dX4_requested_25 : decode cX4_requested 25 = .ok (.iload_n 1, 1) := by decide +kernel
theorem dX4_requested_26 : decode cX4_requested 26 = .ok (.iconst 3, 1) := by decide +kernel
theorem dX4_requested_27 : decode cX4_requested 27 = .ok (.imul, 1) := by decide +kernel
theorem dX4_requested_28 : decode cX4_requested 28 = .ok (.iload_n 2, 1) := by decide +kernel
theorem dX4_requested_29 : decode cX4_requested 29 = .ok (.iadd, 1) := by decide +kernel
theorem dX4_requested_30 : decode cX4_requested 30 = .ok (.iaload, 1) := by decide +kernel
theorem dX4_requested_31 : decode cX4_requested 31 = .ok (.ireturn, 1) := by decide +kernel
theorem dX4_cycle_0 : decode cX4_cycle 0 = .ok (.aload_n 0, 1) := by decide +kernel
theorem dX4_cycle_1 : decode cX4_cycle 1 = .ok (.getfield 19, 3) := by decide +kernel
theorem dX4_cycle_4 : decode cX4_cycle 4 = .ok (.aload_n 0, 1) := by decide +kernel
theorem dX4_cycle_5 : decode cX4_cycle 5 = .ok (.getfield 10, 3) := by decide +kernel
theorem dX4_cycle_8 : decode cX4_cycle 8 = .ok (.invokevirtual 56, 3) := by decide +kernel
theorem dX4_cycle_11 : decode cX4_cycle 11 = .ok (.aload_n 0, 1) := by decide +kernel
theorem dX4_cycle_12 : decode cX4_cycle 12 = .ok (.invokevirtual 163, 3) := by decide +kernel
theorem dX4_cycle_15 : decode cX4_cycle 15 = .ok (.ireturn, 1) := by decide +kernel
theorem dX4_cycles_0 : decode cX4_cycles 0 = .ok (.iload_n 1, 1) := by decide +kernel
theorem dX4_cycles_1 : decode cX4_cycles 1 = .ok (.iconst 1, 1) := by decide +kernel
theorem dX4_cycles_2 : decode cX4_cycles 2 = .ok (.bipush 20, 2) := by decide +kernel
theorem dX4_cycles_4 : decode cX4_cycles 4 = .ok (.invokestatic 46, 3) := by decide +kernel
theorem dX4_cycles_7 : decode cX4_cycles 7 = .ok (.ifCond .ne 6, 3) := by decide +kernel
theorem dX4_cycles_10 : decode cX4_cycles 10 = .ok (.ldc 50, 2) := by decide +kernel
theorem dX4_cycles_12 : decode cX4_cycles 12 = .ok (.ireturn, 1) := by decide +kernel
theorem dX4_cycles_13 : decode cX4_cycles 13 = .ok (.aload_n 0, 1) := by decide +kernel
theorem dX4_cycles_14 : decode cX4_cycles 14 = .ok (.getfield 19, 3) := by decide +kernel
theorem dX4_cycles_17 : decode cX4_cycles 17 = .ok (.aload_n 0, 1) := by decide +kernel
theorem dX4_cycles_18 : decode cX4_cycles 18 = .ok (.getfield 10, 3) := by decide +kernel
theorem dX4_cycles_21 : decode cX4_cycles 21 = .ok (.invokevirtual 56, 3) := by decide +kernel
theorem dX4_cycles_24 : decode cX4_cycles 24 = .ok (.iconst 0, 1) := by decide +kernel
theorem dX4_cycles_25 : decode cX4_cycles 25 = .ok (.istore_n 2, 1) := by decide +kernel
theorem dX4_cycles_26 : decode cX4_cycles 26 = .ok (.iconst 0, 1) := by decide +kernel
theorem dX4_cycles_27 : decode cX4_cycles 27 = .ok (.istore_n 3, 1) := by decide +kernel
theorem dX4_cycles_28 : decode cX4_cycles 28 = .ok (.iload_n 3, 1) := by decide +kernel
theorem dX4_cycles_29 : decode cX4_cycles 29 = .ok (.iload_n 1, 1) := by decide +kernel
theorem dX4_cycles_30 : decode cX4_cycles 30 = .ok (.if_icmp .ge 21, 3) := by decide +kernel
theorem dX4_cycles_33 : decode cX4_cycles 33 = .ok (.aload_n 0, 1) := by decide +kernel
theorem dX4_cycles_34 : decode cX4_cycles 34 = .ok (.invokevirtual 163, 3) := by decide +kernel
theorem dX4_cycles_37 : decode cX4_cycles 37 = .ok (.ldc 139, 2) := by decide +kernel
theorem dX4_cycles_39 : decode cX4_cycles 39 = .ok (.if_icmp .eq 6, 3) := by decide +kernel
theorem dX4_cycles_42 : decode cX4_cycles 42 = .ok (.iinc 2 1, 3) := by decide +kernel
theorem dX4_cycles_45 : decode cX4_cycles 45 = .ok (.iinc 3 1, 3) := by decide +kernel
theorem dX4_cycles_48 : decode cX4_cycles 48 = .ok (.goto (-20), 3) := by decide +kernel
theorem dX4_cycles_51 : decode cX4_cycles 51 = .ok (.iload_n 2, 1) := by decide +kernel
theorem dX4_cycles_52 : decode cX4_cycles 52 = .ok (.ireturn, 1) := by decide +kernel
theorem dX4_cycleCount_0 : decode cX4_cycleCount 0 = .ok (.aload_n 0, 1) := by decide +kernel
theorem dX4_cycleCount_1 : decode cX4_cycleCount 1 = .ok (.getfield 10, 3) := by decide +kernel
theorem dX4_cycleCount_4 : decode cX4_cycleCount 4 = .ok (.getfield 166, 3) := by decide +kernel
theorem dX4_cycleCount_7 : decode cX4_cycleCount 7 = .ok (.ireturn, 1) := by decide +kernel
theorem dX4_fired_0 : decode cX4_fired 0 = .ok (.aload_n 0, 1) := by decide +kernel
theorem dX4_fired_1 : decode cX4_fired 1 = .ok (.iload_n 1, 1) := by decide +kernel
theorem dX4_fired_2 : decode cX4_fired 2 = .ok (.invokevirtual 64, 3) := by decide +kernel
theorem dX4_fired_5 : decode cX4_fired 5 = .ok (.ifCond .eq 15, 3) := by decide +kernel
theorem dX4_fired_8 : decode cX4_fired 8 = .ok (.aload_n 0, 1) := by decide +kernel
theorem dX4_fired_9 : decode cX4_fired 9 = .ok (.getfield 10, 3) := by decide +kernel
theorem dX4_fired_12 : decode cX4_fired 12 = .ok (.getfield 169, 3) := by decide +kernel
theorem dX4_fired_15 : decode cX4_fired 15 = .ok (.iload_n 1, 1) := by decide +kernel
theorem dX4_fired_16 : decode cX4_fired 16 = .ok (.iaload, 1) := by decide +kernel
theorem dX4_fired_17 : decode cX4_fired 17 = .ok (.goto 5, 3) := by decide +kernel
theorem dX4_fired_20 : decode cX4_fired 20 = .ok (.ldc 41, 2) := by decide +kernel
theorem dX4_fired_22 : decode cX4_fired 22 = .ok (.ireturn, 1) := by decide +kernel
theorem dX4_impulse_0 : decode cX4_impulse 0 = .ok (.iload_n 2, 1) := by decide +kernel
theorem dX4_impulse_1 : decode cX4_impulse 1 = .ok (.invokestatic 81, 3) := by decide +kernel
theorem dX4_impulse_4 : decode cX4_impulse 4 = .ok (.ifCond .ne 6, 3) := by decide +kernel
theorem dX4_impulse_7 : decode cX4_impulse 7 = .ok (.ldc 41, 2) := by decide +kernel
theorem dX4_impulse_9 : decode cX4_impulse 9 = .ok (.ireturn, 1) := by decide +kernel
theorem dX4_impulse_10 : decode cX4_impulse 10 = .ok (.iload_n 1, 1) := by decide +kernel
theorem dX4_impulse_11 : decode cX4_impulse 11 = .ok (.iconst 0, 1) := by decide +kernel
theorem dX4_impulse_12 : decode cX4_impulse 12 = .ok (.iconst 2, 1) := by decide +kernel
theorem dX4_impulse_13 : decode cX4_impulse 13 = .ok (.invokestatic 46, 3) := by decide +kernel
theorem dX4_impulse_16 : decode cX4_impulse 16 = .ok (.ifCond .ne 6, 3) := by decide +kernel
theorem dX4_impulse_19 : decode cX4_impulse 19 = .ok (.ldc 50, 2) := by decide +kernel
theorem dX4_impulse_21 : decode cX4_impulse 21 = .ok (.ireturn, 1) := by decide +kernel
theorem dX4_impulse_22 : decode cX4_impulse 22 = .ok (.aload_n 0, 1) := by decide +kernel
theorem dX4_impulse_23 : decode cX4_impulse 23 = .ok (.getfield 10, 3) := by decide +kernel
theorem dX4_impulse_26 : decode cX4_impulse 26 = .ok (.iload_n 1, 1) := by decide +kernel
theorem dX4_impulse_27 : decode cX4_impulse 27 = .ok (.iload_n 2, 1) := by decide +kernel
theorem dX4_impulse_28 : decode cX4_impulse 28 = .ok (.invokevirtual 172, 3) := by decide +kernel
theorem dX4_impulse_31 : decode cX4_impulse 31 = .ok (.ireturn, 1) := by decide +kernel
theorem dX4_total_0 : decode cX4_total 0 = .ok (.iload_n 1, 1) := by decide +kernel
theorem dX4_total_1 : decode cX4_total 1 = .ok (.invokestatic 81, 3) := by decide +kernel
theorem dX4_total_4 : decode cX4_total 4 = .ok (.ifCond .eq 15, 3) := by decide +kernel
theorem dX4_total_7 : decode cX4_total 7 = .ok (.aload_n 0, 1) := by decide +kernel
theorem dX4_total_8 : decode cX4_total 8 = .ok (.getfield 10, 3) := by decide +kernel
theorem dX4_total_11 : decode cX4_total 11 = .ok (.getfield 175, 3) := by decide +kernel
theorem dX4_total_14 : decode cX4_total 14 = .ok (.iload_n 1, 1) := by decide +kernel
theorem dX4_total_15 : decode cX4_total 15 = .ok (.laload, 1) := by decide +kernel
theorem dX4_total_16 : decode cX4_total 16 = .ok (.goto 6, 3) := by decide +kernel
theorem dX4_total_19 : decode cX4_total 19 = .ok (.ldc2_w 179, 3) := by decide +kernel
theorem dX4_total_22 : decode cX4_total 22 = .ok (.lreturn, 1) := by decide +kernel
theorem dX4_suspect_0 : decode cX4_suspect 0 = .ok (.iload_n 1, 1) := by decide +kernel
theorem dX4_suspect_1 : decode cX4_suspect 1 = .ok (.iload_n 2, 1) := by decide +kernel
theorem dX4_suspect_2 : decode cX4_suspect 2 = .ok (.iload_n 3, 1) := by decide +kernel
theorem dX4_suspect_3 : decode cX4_suspect 3 = .ok (.ldc 181, 2) := by decide +kernel
theorem dX4_suspect_5 : decode cX4_suspect 5 = .ok (.invokestatic 182, 3) := by decide +kernel
theorem dX4_suspect_8 : decode cX4_suspect 8 = .ok (.ifCond .ne 6, 3) := by decide +kernel
theorem dX4_suspect_11 : decode cX4_suspect 11 = .ok (.ldc 50, 2) := by decide +kernel
theorem dX4_suspect_13 : decode cX4_suspect 13 = .ok (.ireturn, 1) := by decide +kernel
theorem dX4_suspect_14 : decode cX4_suspect 14 = .ok (.aload_n 0, 1) := by decide +kernel
theorem dX4_suspect_15 : decode cX4_suspect 15 = .ok (.getfield 10, 3) := by decide +kernel
theorem dX4_suspect_18 : decode cX4_suspect 18 = .ok (.getfield 166, 3) := by decide +kernel
theorem dX4_suspect_21 : decode cX4_suspect 21 = .ok (.ifCond .ne 6, 3) := by decide +kernel
theorem dX4_suspect_24 : decode cX4_suspect 24 = .ok (.ldc 108, 2) := by decide +kernel
theorem dX4_suspect_26 : decode cX4_suspect 26 = .ok (.ireturn, 1) := by decide +kernel
theorem dX4_suspect_27 : decode cX4_suspect 27 = .ok (.iload_n 1, 1) := by decide +kernel
theorem dX4_suspect_28 : decode cX4_suspect 28 = .ok (.aload_n 0, 1) := by decide +kernel
theorem dX4_suspect_29 : decode cX4_suspect 29 = .ok (.getfield 10, 3) := by decide +kernel
theorem dX4_suspect_32 : decode cX4_suspect 32 = .ok (.iconst 1, 1) := by decide +kernel
theorem dX4_suspect_33 : decode cX4_suspect 33 = .ok (.iconst 0, 1) := by decide +kernel
theorem dX4_suspect_34 : decode cX4_suspect 34 = .ok (.invokevirtual 172, 3) := by decide +kernel
theorem dX4_suspect_37 : decode cX4_suspect 37 = .ok (.isub, 1) := by decide +kernel
theorem dX4_suspect_38 : decode cX4_suspect 38 = .ok (.istore 4, 2) := by decide +kernel
theorem dX4_suspect_40 : decode cX4_suspect 40 = .ok (.iload_n 2, 1) := by decide +kernel
theorem dX4_suspect_41 : decode cX4_suspect 41 = .ok (.aload_n 0, 1) := by decide +kernel
theorem dX4_suspect_42 : decode cX4_suspect 42 = .ok (.getfield 10, 3) := by decide +kernel
theorem dX4_suspect_45 : decode cX4_suspect 45 = .ok (.iconst 1, 1) := by decide +kernel
theorem dX4_suspect_46 : decode cX4_suspect 46 = .ok (.iconst 1, 1) := by decide +kernel
theorem dX4_suspect_47 : decode cX4_suspect 47 = .ok (.invokevirtual 172, 3) := by decide +kernel
theorem dX4_suspect_50 : decode cX4_suspect 50 = .ok (.isub, 1) := by decide +kernel
theorem dX4_suspect_51 : decode cX4_suspect 51 = .ok (.istore 5, 2) := by decide +kernel
theorem dX4_suspect_53 : decode cX4_suspect 53 = .ok (.iload_n 3, 1) := by decide +kernel
theorem dX4_suspect_54 : decode cX4_suspect 54 = .ok (.aload_n 0, 1) := by decide +kernel
theorem dX4_suspect_55 : decode cX4_suspect 55 = .ok (.getfield 10, 3) := by decide +kernel
theorem dX4_suspect_58 : decode cX4_suspect 58 = .ok (.iconst 1, 1) := by decide +kernel
theorem dX4_suspect_59 : decode cX4_suspect 59 = .ok (.iconst 2, 1) := by decide +kernel
theorem dX4_suspect_60 : decode cX4_suspect 60 = .ok (.invokevirtual 172, 3) := by decide +kernel
theorem dX4_suspect_63 : decode cX4_suspect 63 = .ok (.isub, 1) := by decide +kernel
theorem dX4_suspect_64 : decode cX4_suspect 64 = .ok (.istore 6, 2) := by decide +kernel
theorem dX4_suspect_66 : decode cX4_suspect 66 = .ok (.iload 4, 2) := by decide +kernel
theorem dX4_suspect_68 : decode cX4_suspect 68 = .ok (.ifCond .ne 15, 3) := by decide +kernel
theorem dX4_suspect_71 : decode cX4_suspect 71 = .ok (.iload 5, 2) := by decide +kernel
theorem dX4_suspect_73 : decode cX4_suspect 73 = .ok (.ifCond .ne 10, 3) := by decide +kernel
theorem dX4_suspect_76 : decode cX4_suspect 76 = .ok (.iload 6, 2) := by decide +kernel
theorem dX4_suspect_78 : decode cX4_suspect 78 = .ok (.ifCond .ne 5, 3) := by decide +kernel
theorem dX4_suspect_81 : decode cX4_suspect 81 = .ok (.iconst 0, 1) := by decide +kernel
theorem dX4_suspect_82 : decode cX4_suspect 82 = .ok (.ireturn, 1) := by decide +kernel
theorem dX4_suspect_83 : decode cX4_suspect 83 = .ok (.aload_n 0, 1) := by decide +kernel
theorem dX4_suspect_84 : decode cX4_suspect 84 = .ok (.getfield 10, 3) := by decide +kernel
theorem dX4_suspect_87 : decode cX4_suspect 87 = .ok (.iload 4, 2) := by decide +kernel
theorem dX4_suspect_89 : decode cX4_suspect 89 = .ok (.iload 5, 2) := by decide +kernel
theorem dX4_suspect_91 : decode cX4_suspect 91 = .ok (.iload 6, 2) := by decide +kernel
theorem dX4_suspect_93 : decode cX4_suspect 93 = .ok (.invokevirtual 186, 3) := by decide +kernel
theorem dX4_suspect_96 : decode cX4_suspect 96 = .ok (.istore 7, 2) := by decide +kernel
theorem dX4_suspect_98 : decode cX4_suspect 98 = .ok (.iload 7, 2) := by decide +kernel
theorem dX4_suspect_100 : decode cX4_suspect 100 = .ok (.ifCond .lt 9, 3) := by decide +kernel
theorem dX4_suspect_103 : decode cX4_suspect 103 = .ok (.bipush 100, 2) := by decide +kernel
theorem dX4_suspect_105 : decode cX4_suspect 105 = .ok (.iload 7, 2) := by decide +kernel
theorem dX4_suspect_107 : decode cX4_suspect 107 = .ok (.iadd, 1) := by decide +kernel
theorem dX4_suspect_108 : decode cX4_suspect 108 = .ok (.ireturn, 1) := by decide +kernel
theorem dX4_suspect_109 : decode cX4_suspect 109 = .ok (.aload_n 0, 1) := by decide +kernel
theorem dX4_suspect_110 : decode cX4_suspect 110 = .ok (.getfield 10, 3) := by decide +kernel
theorem dX4_suspect_113 : decode cX4_suspect 113 = .ok (.iload 4, 2) := by decide +kernel
theorem dX4_suspect_115 : decode cX4_suspect 115 = .ok (.iload 5, 2) := by decide +kernel
theorem dX4_suspect_117 : decode cX4_suspect 117 = .ok (.iload 6, 2) := by decide +kernel
theorem dX4_suspect_119 : decode cX4_suspect 119 = .ok (.invokevirtual 190, 3) := by decide +kernel
theorem dX4_suspect_122 : decode cX4_suspect 122 = .ok (.istore 8, 2) := by decide +kernel
theorem dX4_suspect_124 : decode cX4_suspect 124 = .ok (.iload 8, 2) := by decide +kernel
theorem dX4_suspect_126 : decode cX4_suspect 126 = .ok (.ifCond .lt 12, 3) := by decide +kernel
theorem dX4_suspect_129 : decode cX4_suspect 129 = .ok (.sipush 200, 3) := by decide +kernel
theorem dX4_suspect_132 : decode cX4_suspect 132 = .ok (.iload 8, 2) := by decide +kernel
theorem dX4_suspect_134 : decode cX4_suspect 134 = .ok (.iadd, 1) := by decide +kernel
theorem dX4_suspect_135 : decode cX4_suspect 135 = .ok (.goto 5, 3) := by decide +kernel
theorem dX4_suspect_138 : decode cX4_suspect 138 = .ok (.ldc 139, 2) := by decide +kernel
theorem dX4_suspect_140 : decode cX4_suspect 140 = .ok (.ireturn, 1) := by decide +kernel
theorem dX4_undo_0 : decode cX4_undo 0 = .ok (.aload_n 0, 1) := by decide +kernel
theorem dX4_undo_1 : decode cX4_undo 1 = .ok (.getfield 19, 3) := by decide +kernel
theorem dX4_undo_4 : decode cX4_undo 4 = .ok (.getfield 193, 3) := by decide +kernel
theorem dX4_undo_7 : decode cX4_undo 7 = .ok (.ifCond .ne 6, 3) := by decide +kernel
theorem dX4_undo_10 : decode cX4_undo 10 = .ok (.ldc 108, 2) := by decide +kernel
theorem dX4_undo_12 : decode cX4_undo 12 = .ok (.ireturn, 1) := by decide +kernel
theorem dX4_undo_13 : decode cX4_undo 13 = .ok (.aload_n 0, 1) := by decide +kernel
theorem dX4_undo_14 : decode cX4_undo 14 = .ok (.getfield 19, 3) := by decide +kernel
theorem dX4_undo_17 : decode cX4_undo 17 = .ok (.aload_n 0, 1) := by decide +kernel
theorem dX4_undo_18 : decode cX4_undo 18 = .ok (.getfield 10, 3) := by decide +kernel
theorem dX4_undo_21 : decode cX4_undo 21 = .ok (.invokevirtual 196, 3) := by decide +kernel
theorem dX4_undo_24 : decode cX4_undo 24 = .ok (.aload_n 0, 1) := by decide +kernel
theorem dX4_undo_25 : decode cX4_undo 25 = .ok (.getfield 19, 3) := by decide +kernel
theorem dX4_undo_28 : decode cX4_undo 28 = .ok (.getfield 193, 3) := by decide +kernel
theorem dX4_undo_31 : decode cX4_undo 31 = .ok (.ireturn, 1) := by decide +kernel
theorem dX4_type_0 : decode cX4_type 0 = .ok (.iload_n 1, 1) := by decide +kernel
theorem dX4_type_1 : decode cX4_type 1 = .ok (.iconst 0, 1) := by decide +kernel
theorem dX4_type_2 : decode cX4_type 2 = .ok (.sipush 255, 3) := by decide +kernel
theorem dX4_type_5 : decode cX4_type 5 = .ok (.invokestatic 46, 3) := by decide +kernel
theorem dX4_type_8 : decode cX4_type 8 = .ok (.ifCond .ne 6, 3) := by decide +kernel
theorem dX4_type_11 : decode cX4_type 11 = .ok (.ldc 50, 2) := by decide +kernel
theorem dX4_type_13 : decode cX4_type 13 = .ok (.ireturn, 1) := by decide +kernel
theorem dX4_type_14 : decode cX4_type 14 = .ok (.aload_n 0, 1) := by decide +kernel
theorem dX4_type_15 : decode cX4_type 15 = .ok (.getfield 33, 3) := by decide +kernel
theorem dX4_type_18 : decode cX4_type 18 = .ok (.iload_n 1, 1) := by decide +kernel
theorem dX4_type_19 : decode cX4_type 19 = .ok (.invokevirtual 199, 3) := by decide +kernel
theorem dX4_type_22 : decode cX4_type 22 = .ok (.ifCond .eq 13, 3) := by decide +kernel
theorem dX4_type_25 : decode cX4_type 25 = .ok (.aload_n 0, 1) := by decide +kernel
theorem dX4_type_26 : decode cX4_type 26 = .ok (.getfield 33, 3) := by decide +kernel
theorem dX4_type_29 : decode cX4_type 29 = .ok (.getfield 202, 3) := by decide +kernel
theorem dX4_type_32 : decode cX4_type 32 = .ok (.goto 5, 3) := by decide +kernel
theorem dX4_type_35 : decode cX4_type 35 = .ok (.ldc 55, 2) := by decide +kernel
theorem dX4_type_37 : decode cX4_type 37 = .ok (.ireturn, 1) := by decide +kernel
theorem dX4_clearText_0 : decode cX4_clearText 0 = .ok (.aload_n 0, 1) := by decide +kernel
theorem dX4_clearText_1 : decode cX4_clearText 1 = .ok (.getfield 33, 3) := by decide +kernel
theorem dX4_clearText_4 : decode cX4_clearText 4 = .ok (.getfield 202, 3) := by decide +kernel
theorem dX4_clearText_7 : decode cX4_clearText 7 = .ok (.istore_n 1, 1) := by decide +kernel
theorem dX4_clearText_8 : decode cX4_clearText 8 = .ok (.aload_n 0, 1) := by decide +kernel
theorem dX4_clearText_9 : decode cX4_clearText 9 = .ok (.getfield 33, 3) := by decide +kernel
theorem dX4_clearText_12 : decode cX4_clearText 12 = .ok (.iconst 0, 1) := by decide +kernel
theorem dX4_clearText_13 : decode cX4_clearText 13 = .ok (.putfield 202, 3) := by decide +kernel
theorem dX4_clearText_16 : decode cX4_clearText 16 = .ok (.iload_n 1, 1) := by decide +kernel
theorem dX4_clearText_17 : decode cX4_clearText 17 = .ok (.ireturn, 1) := by decide +kernel
theorem dX4_textFault_0 : decode cX4_textFault 0 = .ok (.aload_n 0, 1) := by decide +kernel
theorem dX4_textFault_1 : decode cX4_textFault 1 = .ok (.getfield 33, 3) := by decide +kernel
theorem dX4_textFault_4 : decode cX4_textFault 4 = .ok (.bipush 10, 2) := by decide +kernel
theorem dX4_textFault_6 : decode cX4_textFault 6 = .ok (.aload_n 0, 1) := by decide +kernel
theorem dX4_textFault_7 : decode cX4_textFault 7 = .ok (.getfield 10, 3) := by decide +kernel
theorem dX4_textFault_10 : decode cX4_textFault 10 = .ok (.getfield 157, 3) := by decide +kernel
theorem dX4_textFault_13 : decode cX4_textFault 13 = .ok (.isub, 1) := by decide +kernel
theorem dX4_textFault_14 : decode cX4_textFault 14 = .ok (.invokevirtual 205, 3) := by decide +kernel
theorem dX4_textFault_17 : decode cX4_textFault 17 = .ok (.ireturn, 1) := by decide +kernel
theorem dX4_load_0 : decode cX4_load 0 = .ok (.aload_n 0, 1) := by decide +kernel
theorem dX4_load_1 : decode cX4_load 1 = .ok (.getfield 33, 3) := by decide +kernel
theorem dX4_load_4 : decode cX4_load 4 = .ok (.bipush 10, 2) := by decide +kernel
theorem dX4_load_6 : decode cX4_load 6 = .ok (.aload_n 0, 1) := by decide +kernel
theorem dX4_load_7 : decode cX4_load 7 = .ok (.getfield 10, 3) := by decide +kernel
theorem dX4_load_10 : decode cX4_load 10 = .ok (.getfield 157, 3) := by decide +kernel
theorem dX4_load_13 : decode cX4_load 13 = .ok (.isub, 1) := by decide +kernel
theorem dX4_load_14 : decode cX4_load 14 = .ok (.invokevirtual 205, 3) := by decide +kernel
theorem dX4_load_17 : decode cX4_load 17 = .ok (.ldc 139, 2) := by decide +kernel
theorem dX4_load_19 : decode cX4_load 19 = .ok (.if_icmp .eq 6, 3) := by decide +kernel
theorem dX4_load_22 : decode cX4_load 22 = .ok (.ldc 108, 2) := by decide +kernel
theorem dX4_load_24 : decode cX4_load 24 = .ok (.ireturn, 1) := by decide +kernel
theorem dX4_load_25 : decode cX4_load 25 = .ok (.aload_n 0, 1) := by decide +kernel
theorem dX4_load_26 : decode cX4_load 26 = .ok (.getfield 19, 3) := by decide +kernel
theorem dX4_load_29 : decode cX4_load 29 = .ok (.aload_n 0, 1) := by decide +kernel
theorem dX4_load_30 : decode cX4_load 30 = .ok (.getfield 10, 3) := by decide +kernel
theorem dX4_load_33 : decode cX4_load 33 = .ok (.invokevirtual 56, 3) := by decide +kernel
theorem dX4_load_36 : decode cX4_load 36 = .ok (.iconst 0, 1) := by decide +kernel
theorem dX4_load_37 : decode cX4_load 37 = .ok (.istore_n 1, 1) := by decide +kernel
theorem dX4_load_38 : decode cX4_load 38 = .ok (.iload_n 1, 1) := by decide +kernel
theorem dX4_load_39 : decode cX4_load 39 = .ok (.aload_n 0, 1) := by decide +kernel
theorem dX4_load_40 : decode cX4_load 40 = .ok (.getfield 33, 3) := by decide +kernel
theorem dX4_load_43 : decode cX4_load 43 = .ok (.getfield 208, 3) := by decide +kernel
theorem dX4_load_46 : decode cX4_load 46 = .ok (.if_icmp .ge 60, 3) := by decide +kernel
theorem dX4_load_49 : decode cX4_load 49 = .ok (.iload_n 1, 1) := by decide +kernel
theorem dX4_load_50 : decode cX4_load 50 = .ok (.iconst 3, 1) := by decide +kernel
theorem dX4_load_51 : decode cX4_load 51 = .ok (.imul, 1) := by decide +kernel
theorem dX4_load_52 : decode cX4_load 52 = .ok (.istore_n 2, 1) := by decide +kernel
theorem dX4_load_53 : decode cX4_load 53 = .ok (.aload_n 0, 1) := by decide +kernel
theorem dX4_load_54 : decode cX4_load 54 = .ok (.getfield 10, 3) := by decide +kernel
theorem dX4_load_57 : decode cX4_load 57 = .ok (.aload_n 0, 1) := by decide +kernel
theorem dX4_load_58 : decode cX4_load 58 = .ok (.getfield 33, 3) := by decide +kernel
theorem dX4_load_61 : decode cX4_load 61 = .ok (.getfield 211, 3) := by decide +kernel
theorem dX4_load_64 : decode cX4_load 64 = .ok (.iload_n 2, 1) := by decide +kernel
theorem dX4_load_65 : decode cX4_load 65 = .ok (.iaload, 1) := by decide +kernel
theorem dX4_load_66 : decode cX4_load 66 = .ok (.aload_n 0, 1) := by decide +kernel
theorem dX4_load_67 : decode cX4_load 67 = .ok (.getfield 33, 3) := by decide +kernel
theorem dX4_load_70 : decode cX4_load 70 = .ok (.getfield 211, 3) := by decide +kernel
theorem dX4_load_73 : decode cX4_load 73 = .ok (.iload_n 2, 1) := by decide +kernel
theorem dX4_load_74 : decode cX4_load 74 = .ok (.iconst 1, 1) := by decide +kernel
theorem dX4_load_75 : decode cX4_load 75 = .ok (.iadd, 1) := by decide +kernel
theorem dX4_load_76 : decode cX4_load 76 = .ok (.iaload, 1) := by decide +kernel
theorem dX4_load_77 : decode cX4_load 77 = .ok (.aload_n 0, 1) := by decide +kernel
theorem dX4_load_78 : decode cX4_load 78 = .ok (.getfield 33, 3) := by decide +kernel
theorem dX4_load_81 : decode cX4_load 81 = .ok (.getfield 211, 3) := by decide +kernel
theorem dX4_load_84 : decode cX4_load 84 = .ok (.iload_n 2, 1) := by decide +kernel
theorem dX4_load_85 : decode cX4_load 85 = .ok (.iconst 2, 1) := by decide +kernel
theorem dX4_load_86 : decode cX4_load 86 = .ok (.iadd, 1) := by decide +kernel
theorem dX4_load_87 : decode cX4_load 87 = .ok (.iaload, 1) := by decide +kernel
theorem dX4_load_88 : decode cX4_load 88 = .ok (.aload_n 0, 1) := by decide +kernel
theorem dX4_load_89 : decode cX4_load 89 = .ok (.getfield 33, 3) := by decide +kernel
theorem dX4_load_92 : decode cX4_load 92 = .ok (.getfield 214, 3) := by decide +kernel
theorem dX4_load_95 : decode cX4_load 95 = .ok (.iload_n 1, 1) := by decide +kernel
theorem dX4_load_96 : decode cX4_load 96 = .ok (.baload, 1) := by decide +kernel
theorem dX4_load_97 : decode cX4_load 97 = .ok (.invokevirtual 218, 3) := by decide +kernel
theorem dX4_load_100 : decode cX4_load 100 = .ok (.iinc 1 1, 3) := by decide +kernel
theorem dX4_load_103 : decode cX4_load 103 = .ok (.goto (-65), 3) := by decide +kernel
theorem dX4_load_106 : decode cX4_load 106 = .ok (.aload_n 0, 1) := by decide +kernel
theorem dX4_load_107 : decode cX4_load 107 = .ok (.getfield 10, 3) := by decide +kernel
theorem dX4_load_110 : decode cX4_load 110 = .ok (.getfield 157, 3) := by decide +kernel
theorem dX4_load_113 : decode cX4_load 113 = .ok (.ireturn, 1) := by decide +kernel
theorem dX4_digest_0 : decode cX4_digest 0 = .ok (.ldc2_w 222, 3) := by decide +kernel
theorem dX4_digest_3 : decode cX4_digest 3 = .ok (.aload_n 0, 1) := by decide +kernel
theorem dX4_digest_4 : decode cX4_digest 4 = .ok (.getfield 10, 3) := by decide +kernel
theorem dX4_digest_7 : decode cX4_digest 7 = .ok (.getfield 51, 3) := by decide +kernel
theorem dX4_digest_10 : decode cX4_digest 10 = .ok (.i2l, 1) := by decide +kernel
theorem dX4_digest_11 : decode cX4_digest 11 = .ok (.ladd, 1) := by decide +kernel
theorem dX4_digest_12 : decode cX4_digest 12 = .ok (.lstore_n 1, 1) := by decide +kernel
theorem dX4_digest_13 : decode cX4_digest 13 = .ok (.iconst 0, 1) := by decide +kernel
theorem dX4_digest_14 : decode cX4_digest 14 = .ok (.istore_n 3, 1) := by decide +kernel
theorem dX4_digest_15 : decode cX4_digest 15 = .ok (.iload_n 3, 1) := by decide +kernel
theorem dX4_digest_16 : decode cX4_digest 16 = .ok (.aload_n 0, 1) := by decide +kernel
theorem dX4_digest_17 : decode cX4_digest 17 = .ok (.getfield 10, 3) := by decide +kernel
theorem dX4_digest_20 : decode cX4_digest 20 = .ok (.getfield 51, 3) := by decide +kernel
theorem dX4_digest_23 : decode cX4_digest 23 = .ok (.if_icmp .ge 60, 3) := by decide +kernel
theorem dX4_digest_26 : decode cX4_digest 26 = .ok (.iconst 0, 1) := by decide +kernel
theorem dX4_digest_27 : decode cX4_digest 27 = .ok (.istore 4, 2) := by decide +kernel
theorem dX4_digest_29 : decode cX4_digest 29 = .ok (.iload 4, 2) := by decide +kernel
theorem dX4_digest_31 : decode cX4_digest 31 = .ok (.bipush 7, 2) := by decide +kernel
theorem dX4_digest_33 : decode cX4_digest 33 = .ok (.if_icmp .ge 27, 3) := by decide +kernel
theorem dX4_digest_36 : decode cX4_digest 36 = .ok (.ldc2_w 224, 3) := by decide +kernel
theorem dX4_digest_39 : decode cX4_digest 39 = .ok (.lload_n 1, 1) := by decide +kernel
theorem dX4_digest_40 : decode cX4_digest 40 = .ok (.lmul, 1) := by decide +kernel
theorem dX4_digest_41 : decode cX4_digest 41 = .ok (.aload_n 0, 1) := by decide +kernel
theorem dX4_digest_42 : decode cX4_digest 42 = .ok (.getfield 10, 3) := by decide +kernel
theorem dX4_digest_45 : decode cX4_digest 45 = .ok (.iload_n 3, 1) := by decide +kernel
theorem dX4_digest_46 : decode cX4_digest 46 = .ok (.iload 4, 2) := by decide +kernel
theorem dX4_digest_48 : decode cX4_digest 48 = .ok (.invokevirtual 67, 3) := by decide +kernel
theorem dX4_digest_51 : decode cX4_digest 51 = .ok (.i2l, 1) := by decide +kernel
theorem dX4_digest_52 : decode cX4_digest 52 = .ok (.ladd, 1) := by decide +kernel
theorem dX4_digest_53 : decode cX4_digest 53 = .ok (.lstore_n 1, 1) := by decide +kernel
theorem dX4_digest_54 : decode cX4_digest 54 = .ok (.iinc 4 1, 3) := by decide +kernel
theorem dX4_digest_57 : decode cX4_digest 57 = .ok (.goto (-28), 3) := by decide +kernel
theorem dX4_digest_60 : decode cX4_digest 60 = .ok (.ldc2_w 224, 3) := by decide +kernel
theorem dX4_digest_63 : decode cX4_digest 63 = .ok (.lload_n 1, 1) := by decide +kernel
theorem dX4_digest_64 : decode cX4_digest 64 = .ok (.lmul, 1) := by decide +kernel
theorem dX4_digest_65 : decode cX4_digest 65 = .ok (.aload_n 0, 1) := by decide +kernel
theorem dX4_digest_66 : decode cX4_digest 66 = .ok (.getfield 10, 3) := by decide +kernel
theorem dX4_digest_69 : decode cX4_digest 69 = .ok (.getfield 169, 3) := by decide +kernel
theorem dX4_digest_72 : decode cX4_digest 72 = .ok (.iload_n 3, 1) := by decide +kernel
theorem dX4_digest_73 : decode cX4_digest 73 = .ok (.iaload, 1) := by decide +kernel
theorem dX4_digest_74 : decode cX4_digest 74 = .ok (.i2l, 1) := by decide +kernel
theorem dX4_digest_75 : decode cX4_digest 75 = .ok (.ladd, 1) := by decide +kernel
theorem dX4_digest_76 : decode cX4_digest 76 = .ok (.lstore_n 1, 1) := by decide +kernel
theorem dX4_digest_77 : decode cX4_digest 77 = .ok (.iinc 3 1, 3) := by decide +kernel
theorem dX4_digest_80 : decode cX4_digest 80 = .ok (.goto (-65), 3) := by decide +kernel
theorem dX4_digest_83 : decode cX4_digest 83 = .ok (.iconst 0, 1) := by decide +kernel
theorem dX4_digest_84 : decode cX4_digest 84 = .ok (.istore_n 3, 1) := by decide +kernel
theorem dX4_digest_85 : decode cX4_digest 85 = .ok (.iload_n 3, 1) := by decide +kernel
theorem dX4_digest_86 : decode cX4_digest 86 = .ok (.iconst 2, 1) := by decide +kernel
theorem dX4_digest_87 : decode cX4_digest 87 = .ok (.if_icmp .ge 26, 3) := by decide +kernel
theorem dX4_digest_90 : decode cX4_digest 90 = .ok (.ldc2_w 224, 3) := by decide +kernel
theorem dX4_digest_93 : decode cX4_digest 93 = .ok (.lload_n 1, 1) := by decide +kernel
theorem dX4_digest_94 : decode cX4_digest 94 = .ok (.lmul, 1) := by decide +kernel
theorem dX4_digest_95 : decode cX4_digest 95 = .ok (.aload_n 0, 1) := by decide +kernel
theorem dX4_digest_96 : decode cX4_digest 96 = .ok (.getfield 10, 3) := by decide +kernel
theorem dX4_digest_99 : decode cX4_digest 99 = .ok (.getfield 95, 3) := by decide +kernel
theorem dX4_digest_102 : decode cX4_digest 102 = .ok (.iload_n 3, 1) := by decide +kernel
theorem dX4_digest_103 : decode cX4_digest 103 = .ok (.iaload, 1) := by decide +kernel
theorem dX4_digest_104 : decode cX4_digest 104 = .ok (.i2l, 1) := by decide +kernel
theorem dX4_digest_105 : decode cX4_digest 105 = .ok (.ladd, 1) := by decide +kernel
theorem dX4_digest_106 : decode cX4_digest 106 = .ok (.lstore_n 1, 1) := by decide +kernel
theorem dX4_digest_107 : decode cX4_digest 107 = .ok (.iinc 3 1, 3) := by decide +kernel
theorem dX4_digest_110 : decode cX4_digest 110 = .ok (.goto (-25), 3) := by decide +kernel
theorem dX4_digest_113 : decode cX4_digest 113 = .ok (.ldc2_w 224, 3) := by decide +kernel
theorem dX4_digest_116 : decode cX4_digest 116 = .ok (.lload_n 1, 1) := by decide +kernel
theorem dX4_digest_117 : decode cX4_digest 117 = .ok (.lmul, 1) := by decide +kernel
theorem dX4_digest_118 : decode cX4_digest 118 = .ok (.aload_n 0, 1) := by decide +kernel
theorem dX4_digest_119 : decode cX4_digest 119 = .ok (.getfield 10, 3) := by decide +kernel
theorem dX4_digest_122 : decode cX4_digest 122 = .ok (.getfield 157, 3) := by decide +kernel
theorem dX4_digest_125 : decode cX4_digest 125 = .ok (.i2l, 1) := by decide +kernel
theorem dX4_digest_126 : decode cX4_digest 126 = .ok (.ladd, 1) := by decide +kernel
theorem dX4_digest_127 : decode cX4_digest 127 = .ok (.lstore_n 1, 1) := by decide +kernel
theorem dX4_digest_128 : decode cX4_digest 128 = .ok (.iconst 0, 1) := by decide +kernel
theorem dX4_digest_129 : decode cX4_digest 129 = .ok (.istore_n 3, 1) := by decide +kernel
theorem dX4_digest_130 : decode cX4_digest 130 = .ok (.iload_n 3, 1) := by decide +kernel
theorem dX4_digest_131 : decode cX4_digest 131 = .ok (.aload_n 0, 1) := by decide +kernel
theorem dX4_digest_132 : decode cX4_digest 132 = .ok (.getfield 10, 3) := by decide +kernel
theorem dX4_digest_135 : decode cX4_digest 135 = .ok (.getfield 157, 3) := by decide +kernel
theorem dX4_digest_138 : decode cX4_digest 138 = .ok (.iconst 3, 1) := by decide +kernel
theorem dX4_digest_139 : decode cX4_digest 139 = .ok (.imul, 1) := by decide +kernel
theorem dX4_digest_140 : decode cX4_digest 140 = .ok (.if_icmp .ge 26, 3) := by decide +kernel
theorem dX4_digest_143 : decode cX4_digest 143 = .ok (.ldc2_w 224, 3) := by decide +kernel
theorem dX4_digest_146 : decode cX4_digest 146 = .ok (.lload_n 1, 1) := by decide +kernel
theorem dX4_digest_147 : decode cX4_digest 147 = .ok (.lmul, 1) := by decide +kernel
theorem dX4_digest_148 : decode cX4_digest 148 = .ok (.aload_n 0, 1) := by decide +kernel
theorem dX4_digest_149 : decode cX4_digest 149 = .ok (.getfield 10, 3) := by decide +kernel
theorem dX4_digest_152 : decode cX4_digest 152 = .ok (.getfield 160, 3) := by decide +kernel
theorem dX4_digest_155 : decode cX4_digest 155 = .ok (.iload_n 3, 1) := by decide +kernel
theorem dX4_digest_156 : decode cX4_digest 156 = .ok (.iaload, 1) := by decide +kernel
theorem dX4_digest_157 : decode cX4_digest 157 = .ok (.i2l, 1) := by decide +kernel
theorem dX4_digest_158 : decode cX4_digest 158 = .ok (.ladd, 1) := by decide +kernel
theorem dX4_digest_159 : decode cX4_digest 159 = .ok (.lstore_n 1, 1) := by decide +kernel
theorem dX4_digest_160 : decode cX4_digest 160 = .ok (.iinc 3 1, 3) := by decide +kernel
theorem dX4_digest_163 : decode cX4_digest 163 = .ok (.goto (-33), 3) := by decide +kernel
theorem dX4_digest_166 : decode cX4_digest 166 = .ok (.iconst 0, 1) := by decide +kernel
theorem dX4_digest_167 : decode cX4_digest 167 = .ok (.istore_n 3, 1) := by decide +kernel
theorem dX4_digest_168 : decode cX4_digest 168 = .ok (.iload_n 3, 1) := by decide +kernel
theorem dX4_digest_169 : decode cX4_digest 169 = .ok (.bipush 9, 2) := by decide +kernel
theorem dX4_digest_171 : decode cX4_digest 171 = .ok (.if_icmp .ge 26, 3) := by decide +kernel
theorem dX4_digest_174 : decode cX4_digest 174 = .ok (.ldc2_w 224, 3) := by decide +kernel
theorem dX4_digest_177 : decode cX4_digest 177 = .ok (.lload_n 1, 1) := by decide +kernel
theorem dX4_digest_178 : decode cX4_digest 178 = .ok (.lmul, 1) := by decide +kernel
theorem dX4_digest_179 : decode cX4_digest 179 = .ok (.aload_n 0, 1) := by decide +kernel
theorem dX4_digest_180 : decode cX4_digest 180 = .ok (.getfield 10, 3) := by decide +kernel
theorem dX4_digest_183 : decode cX4_digest 183 = .ok (.getfield 226, 3) := by decide +kernel
theorem dX4_digest_186 : decode cX4_digest 186 = .ok (.iload_n 3, 1) := by decide +kernel
theorem dX4_digest_187 : decode cX4_digest 187 = .ok (.iaload, 1) := by decide +kernel
theorem dX4_digest_188 : decode cX4_digest 188 = .ok (.i2l, 1) := by decide +kernel
theorem dX4_digest_189 : decode cX4_digest 189 = .ok (.ladd, 1) := by decide +kernel
theorem dX4_digest_190 : decode cX4_digest 190 = .ok (.lstore_n 1, 1) := by decide +kernel
theorem dX4_digest_191 : decode cX4_digest 191 = .ok (.iinc 3 1, 3) := by decide +kernel
theorem dX4_digest_194 : decode cX4_digest 194 = .ok (.goto (-26), 3) := by decide +kernel
theorem dX4_digest_197 : decode cX4_digest 197 = .ok (.iconst 0, 1) := by decide +kernel
theorem dX4_digest_198 : decode cX4_digest 198 = .ok (.istore_n 3, 1) := by decide +kernel
theorem dX4_digest_199 : decode cX4_digest 199 = .ok (.iload_n 3, 1) := by decide +kernel
theorem dX4_digest_200 : decode cX4_digest 200 = .ok (.iconst 3, 1) := by decide +kernel
theorem dX4_digest_201 : decode cX4_digest 201 = .ok (.if_icmp .ge 25, 3) := by decide +kernel
theorem dX4_digest_204 : decode cX4_digest 204 = .ok (.ldc2_w 224, 3) := by decide +kernel
theorem dX4_digest_207 : decode cX4_digest 207 = .ok (.lload_n 1, 1) := by decide +kernel
theorem dX4_digest_208 : decode cX4_digest 208 = .ok (.lmul, 1) := by decide +kernel
theorem dX4_digest_209 : decode cX4_digest 209 = .ok (.aload_n 0, 1) := by decide +kernel
theorem dX4_digest_210 : decode cX4_digest 210 = .ok (.getfield 10, 3) := by decide +kernel
theorem dX4_digest_213 : decode cX4_digest 213 = .ok (.getfield 175, 3) := by decide +kernel
theorem dX4_digest_216 : decode cX4_digest 216 = .ok (.iload_n 3, 1) := by decide +kernel
theorem dX4_digest_217 : decode cX4_digest 217 = .ok (.laload, 1) := by decide +kernel
theorem dX4_digest_218 : decode cX4_digest 218 = .ok (.ladd, 1) := by decide +kernel
theorem dX4_digest_219 : decode cX4_digest 219 = .ok (.lstore_n 1, 1) := by decide +kernel
theorem dX4_digest_220 : decode cX4_digest 220 = .ok (.iinc 3 1, 3) := by decide +kernel
theorem dX4_digest_223 : decode cX4_digest 223 = .ok (.goto (-24), 3) := by decide +kernel
theorem dX4_digest_226 : decode cX4_digest 226 = .ok (.ldc2_w 224, 3) := by decide +kernel
theorem dX4_digest_229 : decode cX4_digest 229 = .ok (.lload_n 1, 1) := by decide +kernel
theorem dX4_digest_230 : decode cX4_digest 230 = .ok (.lmul, 1) := by decide +kernel
theorem dX4_digest_231 : decode cX4_digest 231 = .ok (.aload_n 0, 1) := by decide +kernel
theorem dX4_digest_232 : decode cX4_digest 232 = .ok (.getfield 10, 3) := by decide +kernel
theorem dX4_digest_235 : decode cX4_digest 235 = .ok (.getfield 166, 3) := by decide +kernel
theorem dX4_digest_238 : decode cX4_digest 238 = .ok (.i2l, 1) := by decide +kernel
theorem dX4_digest_239 : decode cX4_digest 239 = .ok (.ladd, 1) := by decide +kernel
theorem dX4_digest_240 : decode cX4_digest 240 = .ok (.lreturn, 1) := by decide +kernel
theorem dX4_isWithin_0 : decode cX4_isWithin 0 = .ok (.iload_n 0, 1) := by decide +kernel
theorem dX4_isWithin_1 : decode cX4_isWithin 1 = .ok (.iload_n 1, 1) := by decide +kernel
theorem dX4_isWithin_2 : decode cX4_isWithin 2 = .ok (.if_icmp .lt 12, 3) := by decide +kernel
theorem dX4_isWithin_5 : decode cX4_isWithin 5 = .ok (.iload_n 0, 1) := by decide +kernel
theorem dX4_isWithin_6 : decode cX4_isWithin 6 = .ok (.iload_n 2, 1) := by decide +kernel
theorem dX4_isWithin_7 : decode cX4_isWithin 7 = .ok (.if_icmp .gt 7, 3) := by decide +kernel
theorem dX4_isWithin_10 : decode cX4_isWithin 10 = .ok (.iconst 1, 1) := by decide +kernel
theorem dX4_isWithin_11 : decode cX4_isWithin 11 = .ok (.goto 4, 3) := by decide +kernel
theorem dX4_isWithin_14 : decode cX4_isWithin 14 = .ok (.iconst 0, 1) := by decide +kernel
theorem dX4_isWithin_15 : decode cX4_isWithin 15 = .ok (.ireturn, 1) := by decide +kernel
theorem dX4_isAtMost_0 : decode cX4_isAtMost 0 = .ok (.iload_n 0, 1) := by decide +kernel
theorem dX4_isAtMost_1 : decode cX4_isAtMost 1 = .ok (.iload_n 1, 1) := by decide +kernel
theorem dX4_isAtMost_2 : decode cX4_isAtMost 2 = .ok (.ineg, 1) := by decide +kernel
theorem dX4_isAtMost_3 : decode cX4_isAtMost 3 = .ok (.iload_n 1, 1) := by decide +kernel
theorem dX4_isAtMost_4 : decode cX4_isAtMost 4 = .ok (.invokestatic 46, 3) := by decide +kernel
theorem dX4_isAtMost_7 : decode cX4_isAtMost 7 = .ok (.ireturn, 1) := by decide +kernel
theorem dX4_areAtMost_0 : decode cX4_areAtMost 0 = .ok (.iload_n 0, 1) := by decide +kernel
theorem dX4_areAtMost_1 : decode cX4_areAtMost 1 = .ok (.iload_n 3, 1) := by decide +kernel
theorem dX4_areAtMost_2 : decode cX4_areAtMost 2 = .ok (.invokestatic 42, 3) := by decide +kernel
theorem dX4_areAtMost_5 : decode cX4_areAtMost 5 = .ok (.ifCond .eq 23, 3) := by decide +kernel
theorem dX4_areAtMost_8 : decode cX4_areAtMost 8 = .ok (.iload_n 1, 1) := by decide +kernel
theorem dX4_areAtMost_9 : decode cX4_areAtMost 9 = .ok (.iload_n 3, 1) := by decide +kernel
theorem dX4_areAtMost_10 : decode cX4_areAtMost 10 = .ok (.invokestatic 42, 3) := by decide +kernel
theorem dX4_areAtMost_13 : decode cX4_areAtMost 13 = .ok (.ifCond .eq 15, 3) := by decide +kernel
theorem dX4_areAtMost_16 : decode cX4_areAtMost 16 = .ok (.iload_n 2, 1) := by decide +kernel
theorem dX4_areAtMost_17 : decode cX4_areAtMost 17 = .ok (.iload_n 3, 1) := by decide +kernel
theorem dX4_areAtMost_18 : decode cX4_areAtMost 18 = .ok (.invokestatic 42, 3) := by decide +kernel
theorem dX4_areAtMost_21 : decode cX4_areAtMost 21 = .ok (.ifCond .eq 7, 3) := by decide +kernel
theorem dX4_areAtMost_24 : decode cX4_areAtMost 24 = .ok (.iconst 1, 1) := by decide +kernel
theorem dX4_areAtMost_25 : decode cX4_areAtMost 25 = .ok (.goto 4, 3) := by decide +kernel
theorem dX4_areAtMost_28 : decode cX4_areAtMost 28 = .ok (.iconst 0, 1) := by decide +kernel
theorem dX4_areAtMost_29 : decode cX4_areAtMost 29 = .ok (.ireturn, 1) := by decide +kernel
theorem dX4_isTarget_0 : decode cX4_isTarget 0 = .ok (.iload_n 0, 1) := by decide +kernel
theorem dX4_isTarget_1 : decode cX4_isTarget 1 = .ok (.iload_n 1, 1) := by decide +kernel
theorem dX4_isTarget_2 : decode cX4_isTarget 2 = .ok (.iload_n 2, 1) := by decide +kernel
theorem dX4_isTarget_3 : decode cX4_isTarget 3 = .ok (.ldc 229, 2) := by decide +kernel
theorem dX4_isTarget_5 : decode cX4_isTarget 5 = .ok (.invokestatic 182, 3) := by decide +kernel
theorem dX4_isTarget_8 : decode cX4_isTarget 8 = .ok (.ireturn, 1) := by decide +kernel
theorem dX4_isTank_0 : decode cX4_isTank 0 = .ok (.iload_n 0, 1) := by decide +kernel
theorem dX4_isTank_1 : decode cX4_isTank 1 = .ok (.iconst 0, 1) := by decide +kernel
theorem dX4_isTank_2 : decode cX4_isTank 2 = .ok (.iconst 1, 1) := by decide +kernel
theorem dX4_isTank_3 : decode cX4_isTank 3 = .ok (.invokestatic 46, 3) := by decide +kernel
theorem dX4_isTank_6 : decode cX4_isTank 6 = .ok (.ireturn, 1) := by decide +kernel
theorem dX4_isPart_0 : decode cX4_isPart 0 = .ok (.iload_n 0, 1) := by decide +kernel
theorem dX4_isPart_1 : decode cX4_isPart 1 = .ok (.iconst 0, 1) := by decide +kernel
theorem dX4_isPart_2 : decode cX4_isPart 2 = .ok (.iconst 2, 1) := by decide +kernel
theorem dX4_isPart_3 : decode cX4_isPart 3 = .ok (.invokestatic 46, 3) := by decide +kernel
theorem dX4_isPart_6 : decode cX4_isPart 6 = .ok (.ireturn, 1) := by decide +kernel
theorem dX4_isThruster_0 : decode cX4_isThruster 0 = .ok (.iload_n 1, 1) := by decide +kernel
theorem dX4_isThruster_1 : decode cX4_isThruster 1 = .ok (.iconst 0, 1) := by decide +kernel
theorem dX4_isThruster_2 : decode cX4_isThruster 2 = .ok (.aload_n 0, 1) := by decide +kernel
theorem dX4_isThruster_3 : decode cX4_isThruster 3 = .ok (.getfield 10, 3) := by decide +kernel
theorem dX4_isThruster_6 : decode cX4_isThruster 6 = .ok (.getfield 51, 3) := by decide +kernel
theorem dX4_isThruster_9 : decode cX4_isThruster 9 = .ok (.iconst 1, 1) := by decide +kernel
theorem dX4_isThruster_10 : decode cX4_isThruster 10 = .ok (.isub, 1) := by decide +kernel
theorem dX4_isThruster_11 : decode cX4_isThruster 11 = .ok (.invokestatic 46, 3) := by decide +kernel
theorem dX4_isThruster_14 : decode cX4_isThruster 14 = .ok (.ireturn, 1) := by decide +kernel
theorem dX4_isPlace_0 : decode cX4_isPlace 0 = .ok (.iload_n 1, 1) := by decide +kernel
theorem dX4_isPlace_1 : decode cX4_isPlace 1 = .ok (.iconst 0, 1) := by decide +kernel
theorem dX4_isPlace_2 : decode cX4_isPlace 2 = .ok (.aload_n 0, 1) := by decide +kernel
theorem dX4_isPlace_3 : decode cX4_isPlace 3 = .ok (.getfield 10, 3) := by decide +kernel
theorem dX4_isPlace_6 : decode cX4_isPlace 6 = .ok (.getfield 157, 3) := by decide +kernel
theorem dX4_isPlace_9 : decode cX4_isPlace 9 = .ok (.iconst 1, 1) := by decide +kernel
theorem dX4_isPlace_10 : decode cX4_isPlace 10 = .ok (.isub, 1) := by decide +kernel
theorem dX4_isPlace_11 : decode cX4_isPlace 11 = .ok (.invokestatic 46, 3) := by decide +kernel
theorem dX4_isPlace_14 : decode cX4_isPlace 14 = .ok (.ireturn, 1) := by decide +kernel
theorem dX4_putRequest_0 : decode cX4_putRequest 0 = .ok (.iload_n 1, 1) := by decide +kernel
theorem dX4_putRequest_1 : decode cX4_putRequest 1 = .ok (.iload_n 2, 1) := by decide +kernel
theorem dX4_putRequest_2 : decode cX4_putRequest 2 = .ok (.iload_n 3, 1) := by decide +kernel
theorem dX4_putRequest_3 : decode cX4_putRequest 3 = .ok (.sipush 2000, 3) := by decide +kernel
theorem dX4_putRequest_6 : decode cX4_putRequest 6 = .ok (.invokestatic 182, 3) := by decide +kernel
theorem dX4_putRequest_9 : decode cX4_putRequest 9 = .ok (.ifCond .ne 6, 3) := by decide +kernel
theorem dX4_putRequest_12 : decode cX4_putRequest 12 = .ok (.ldc 50, 2) := by decide +kernel
theorem dX4_putRequest_14 : decode cX4_putRequest 14 = .ok (.ireturn, 1) := by decide +kernel
theorem dX4_putRequest_15 : decode cX4_putRequest 15 = .ok (.aload_n 0, 1) := by decide +kernel
theorem dX4_putRequest_16 : decode cX4_putRequest 16 = .ok (.getfield 10, 3) := by decide +kernel
theorem dX4_putRequest_19 : decode cX4_putRequest 19 = .ok (.getfield 157, 3) := by decide +kernel
theorem dX4_putRequest_22 : decode cX4_putRequest 22 = .ok (.bipush 10, 2) := by decide +kernel
theorem dX4_putRequest_24 : decode cX4_putRequest 24 = .ok (.if_icmp .lt 6, 3) := by decide +kernel
theorem dX4_putRequest_27 : decode cX4_putRequest 27 = .ok (.ldc 55, 2) := by decide +kernel
theorem dX4_putRequest_29 : decode cX4_putRequest 29 = .ok (.ireturn, 1) := by decide +kernel
theorem dX4_putRequest_30 : decode cX4_putRequest 30 = .ok (.aload_n 0, 1) := by decide +kernel
theorem dX4_putRequest_31 : decode cX4_putRequest 31 = .ok (.getfield 19, 3) := by decide +kernel
theorem dX4_putRequest_34 : decode cX4_putRequest 34 = .ok (.aload_n 0, 1) := by decide +kernel
theorem dX4_putRequest_35 : decode cX4_putRequest 35 = .ok (.getfield 10, 3) := by decide +kernel
theorem dX4_putRequest_38 : decode cX4_putRequest 38 = .ok (.invokevirtual 56, 3) := by decide +kernel
theorem dX4_putRequest_41 : decode cX4_putRequest 41 = .ok (.aload_n 0, 1) := by decide +kernel
theorem dX4_putRequest_42 : decode cX4_putRequest 42 = .ok (.getfield 10, 3) := by decide +kernel
theorem dX4_putRequest_45 : decode cX4_putRequest 45 = .ok (.iload_n 1, 1) := by decide +kernel
theorem dX4_putRequest_46 : decode cX4_putRequest 46 = .ok (.iload_n 2, 1) := by decide +kernel
theorem dX4_putRequest_47 : decode cX4_putRequest 47 = .ok (.iload_n 3, 1) := by decide +kernel
theorem dX4_putRequest_48 : decode cX4_putRequest 48 = .ok (.iload 4, 2) := by decide +kernel
theorem dX4_putRequest_50 : decode cX4_putRequest 50 = .ok (.invokevirtual 218, 3) := by decide +kernel
theorem dX4_putRequest_53 : decode cX4_putRequest 53 = .ok (.aload_n 0, 1) := by decide +kernel
theorem dX4_putRequest_54 : decode cX4_putRequest 54 = .ok (.getfield 10, 3) := by decide +kernel
theorem dX4_putRequest_57 : decode cX4_putRequest 57 = .ok (.getfield 157, 3) := by decide +kernel
theorem dX4_putRequest_60 : decode cX4_putRequest 60 = .ok (.ireturn, 1) := by decide +kernel
theorem dX4_runCycle_0 : decode cX4_runCycle 0 = .ok (.aload_n 0, 1) := by decide +kernel
theorem dX4_runCycle_1 : decode cX4_runCycle 1 = .ok (.getfield 10, 3) := by decide +kernel
theorem dX4_runCycle_4 : decode cX4_runCycle 4 = .ok (.invokevirtual 118, 3) := by decide +kernel
theorem dX4_runCycle_7 : decode cX4_runCycle 7 = .ok (.istore_n 1, 1) := by decide +kernel
theorem dX4_runCycle_8 : decode cX4_runCycle 8 = .ok (.aload_n 0, 1) := by decide +kernel
theorem dX4_runCycle_9 : decode cX4_runCycle 9 = .ok (.getfield 10, 3) := by decide +kernel
theorem dX4_runCycle_12 : decode cX4_runCycle 12 = .ok (.iload_n 1, 1) := by decide +kernel
theorem dX4_runCycle_13 : decode cX4_runCycle 13 = .ok (.invokevirtual 230, 3) := by decide +kernel
theorem dX4_runCycle_16 : decode cX4_runCycle 16 = .ok (.aload_n 0, 1) := by decide +kernel
theorem dX4_runCycle_17 : decode cX4_runCycle 17 = .ok (.getfield 26, 3) := by decide +kernel
theorem dX4_runCycle_20 : decode cX4_runCycle 20 = .ok (.aload_n 0, 1) := by decide +kernel
theorem dX4_runCycle_21 : decode cX4_runCycle 21 = .ok (.getfield 10, 3) := by decide +kernel
theorem dX4_runCycle_24 : decode cX4_runCycle 24 = .ok (.aload_n 0, 1) := by decide +kernel
theorem dX4_runCycle_25 : decode cX4_runCycle 25 = .ok (.getfield 10, 3) := by decide +kernel
theorem dX4_runCycle_28 : decode cX4_runCycle 28 = .ok (.iconst 2, 1) := by decide +kernel
theorem dX4_runCycle_29 : decode cX4_runCycle 29 = .ok (.iconst 0, 1) := by decide +kernel
theorem dX4_runCycle_30 : decode cX4_runCycle 30 = .ok (.invokevirtual 172, 3) := by decide +kernel
theorem dX4_runCycle_33 : decode cX4_runCycle 33 = .ok (.aload_n 0, 1) := by decide +kernel
theorem dX4_runCycle_34 : decode cX4_runCycle 34 = .ok (.getfield 10, 3) := by decide +kernel
theorem dX4_runCycle_37 : decode cX4_runCycle 37 = .ok (.iconst 2, 1) := by decide +kernel
theorem dX4_runCycle_38 : decode cX4_runCycle 38 = .ok (.iconst 1, 1) := by decide +kernel
theorem dX4_runCycle_39 : decode cX4_runCycle 39 = .ok (.invokevirtual 172, 3) := by decide +kernel
theorem dX4_runCycle_42 : decode cX4_runCycle 42 = .ok (.aload_n 0, 1) := by decide +kernel
theorem dX4_runCycle_43 : decode cX4_runCycle 43 = .ok (.getfield 10, 3) := by decide +kernel
theorem dX4_runCycle_46 : decode cX4_runCycle 46 = .ok (.iconst 2, 1) := by decide +kernel
theorem dX4_runCycle_47 : decode cX4_runCycle 47 = .ok (.iconst 2, 1) := by decide +kernel
theorem dX4_runCycle_48 : decode cX4_runCycle 48 = .ok (.invokevirtual 172, 3) := by decide +kernel
theorem dX4_runCycle_51 : decode cX4_runCycle 51 = .ok (.invokevirtual 128, 3) := by decide +kernel
theorem dX4_runCycle_54 : decode cX4_runCycle 54 = .ok (.aload_n 0, 1) := by decide +kernel
theorem dX4_runCycle_55 : decode cX4_runCycle 55 = .ok (.getfield 10, 3) := by decide +kernel
theorem dX4_runCycle_58 : decode cX4_runCycle 58 = .ok (.aload_n 0, 1) := by decide +kernel
theorem dX4_runCycle_59 : decode cX4_runCycle 59 = .ok (.getfield 26, 3) := by decide +kernel
theorem dX4_runCycle_62 : decode cX4_runCycle 62 = .ok (.invokevirtual 233, 3) := by decide +kernel
theorem dX4_runCycle_65 : decode cX4_runCycle 65 = .ok (.istore_n 2, 1) := by decide +kernel
theorem dX4_runCycle_66 : decode cX4_runCycle 66 = .ok (.aload_n 0, 1) := by decide +kernel
theorem dX4_runCycle_67 : decode cX4_runCycle 67 = .ok (.getfield 10, 3) := by decide +kernel
theorem dX4_runCycle_70 : decode cX4_runCycle 70 = .ok (.iload_n 1, 1) := by decide +kernel
theorem dX4_runCycle_71 : decode cX4_runCycle 71 = .ok (.invokevirtual 237, 3) := by decide +kernel
theorem dX4_runCycle_74 : decode cX4_runCycle 74 = .ok (.aload_n 0, 1) := by decide +kernel
theorem dX4_runCycle_75 : decode cX4_runCycle 75 = .ok (.getfield 10, 3) := by decide +kernel
theorem dX4_runCycle_78 : decode cX4_runCycle 78 = .ok (.iload_n 1, 1) := by decide +kernel
theorem dX4_runCycle_79 : decode cX4_runCycle 79 = .ok (.invokevirtual 240, 3) := by decide +kernel
theorem dX4_runCycle_82 : decode cX4_runCycle 82 = .ok (.aload_n 0, 1) := by decide +kernel
theorem dX4_runCycle_83 : decode cX4_runCycle 83 = .ok (.getfield 10, 3) := by decide +kernel
theorem dX4_runCycle_86 : decode cX4_runCycle 86 = .ok (.dup, 1) := by decide +kernel
theorem dX4_runCycle_87 : decode cX4_runCycle 87 = .ok (.getfield 166, 3) := by decide +kernel
theorem dX4_runCycle_90 : decode cX4_runCycle 90 = .ok (.iconst 1, 1) := by decide +kernel
theorem dX4_runCycle_91 : decode cX4_runCycle 91 = .ok (.iadd, 1) := by decide +kernel
theorem dX4_runCycle_92 : decode cX4_runCycle 92 = .ok (.putfield 166, 3) := by decide +kernel
theorem dX4_runCycle_95 : decode cX4_runCycle 95 = .ok (.aload_n 0, 1) := by decide +kernel
theorem dX4_runCycle_96 : decode cX4_runCycle 96 = .ok (.getfield 26, 3) := by decide +kernel
theorem dX4_runCycle_99 : decode cX4_runCycle 99 = .ok (.getfield 132, 3) := by decide +kernel
theorem dX4_runCycle_102 : decode cX4_runCycle 102 = .ok (.ifCond .eq 7, 3) := by decide +kernel
theorem dX4_runCycle_105 : decode cX4_runCycle 105 = .ok (.iload_n 2, 1) := by decide +kernel
theorem dX4_runCycle_106 : decode cX4_runCycle 106 = .ok (.goto 5, 3) := by decide +kernel
theorem dX4_runCycle_109 : decode cX4_runCycle 109 = .ok (.ldc 139, 2) := by decide +kernel
theorem dX4_runCycle_111 : decode cX4_runCycle 111 = .ok (.ireturn, 1) := by decide +kernel
theorem dX5_init_0 : decode cX5_init 0 = .ok (.aload_n 0, 1) := by decide +kernel
theorem dX5_init_1 : decode cX5_init 1 = .ok (.invokespecial 1, 3) := by decide +kernel
theorem dX5_init_4 : decode cX5_init 4 = .ok (.aload_n 0, 1) := by decide +kernel
theorem dX5_init_5 : decode cX5_init 5 = .ok (.sipush 708, 3) := by decide +kernel
theorem dX5_init_8 : decode cX5_init 8 = .ok (.newarray .int, 2) := by decide +kernel
theorem dX5_init_10 : decode cX5_init 10 = .ok (.putfield 7, 3) := by decide +kernel
theorem dX5_init_13 : decode cX5_init 13 = .ok (.aload_n 0, 1) := by decide +kernel
theorem dX5_init_14 : decode cX5_init 14 = .ok (.bipush 18, 2) := by decide +kernel
theorem dX5_init_16 : decode cX5_init 16 = .ok (.newarray .long, 2) := by decide +kernel
theorem dX5_init_18 : decode cX5_init 18 = .ok (.putfield 13, 3) := by decide +kernel
theorem dX5_init_21 : decode cX5_init 21 = .ok (.aload_n 0, 1) := by decide +kernel
theorem dX5_init_22 : decode cX5_init 22 = .ok (.bipush 9, 2) := by decide +kernel
theorem dX5_init_24 : decode cX5_init 24 = .ok (.newarray .long, 2) := by decide +kernel
theorem dX5_init_26 : decode cX5_init 26 = .ok (.putfield 17, 3) := by decide +kernel
theorem dX5_init_29 : decode cX5_init 29 = .ok (.aload_n 0, 1) := by decide +kernel
theorem dX5_init_30 : decode cX5_init 30 = .ok (.iconst 3, 1) := by decide +kernel
theorem dX5_init_31 : decode cX5_init 31 = .ok (.newarray .long, 2) := by decide +kernel
theorem dX5_init_33 : decode cX5_init 33 = .ok (.putfield 20, 3) := by decide +kernel
theorem dX5_init_36 : decode cX5_init 36 = .ok (.aload_n 0, 1) := by decide +kernel
theorem dX5_init_37 : decode cX5_init 37 = .ok (.bipush 8, 2) := by decide +kernel
theorem dX5_init_39 : decode cX5_init 39 = .ok (.newarray .long, 2) := by decide +kernel
theorem dX5_init_41 : decode cX5_init 41 = .ok (.putfield 23, 3) := by decide +kernel
theorem dX5_init_44 : decode cX5_init 44 = .ok (.aload_n 0, 1) := by decide +kernel
theorem dX5_init_45 : decode cX5_init 45 = .ok (.iconst 3, 1) := by decide +kernel
theorem dX5_init_46 : decode cX5_init 46 = .ok (.newarray .long, 2) := by decide +kernel
theorem dX5_init_48 : decode cX5_init 48 = .ok (.putfield 26, 3) := by decide +kernel
theorem dX5_init_51 : decode cX5_init 51 = .ok (.aload_n 0, 1) := by decide +kernel
theorem dX5_init_52 : decode cX5_init 52 = .ok (.bipush 100, 2) := by decide +kernel
theorem dX5_init_54 : decode cX5_init 54 = .ok (.newarray .int, 2) := by decide +kernel
theorem dX5_init_56 : decode cX5_init 56 = .ok (.putfield 29, 3) := by decide +kernel
theorem dX5_init_59 : decode cX5_init 59 = .ok (.aload_n 0, 1) := by decide +kernel
theorem dX5_init_60 : decode cX5_init 60 = .ok (.iconst 3, 1) := by decide +kernel
theorem dX5_init_61 : decode cX5_init 61 = .ok (.newarray .int, 2) := by decide +kernel
theorem dX5_init_63 : decode cX5_init 63 = .ok (.putfield 32, 3) := by decide +kernel
theorem dX5_init_66 : decode cX5_init 66 = .ok (.aload_n 0, 1) := by decide +kernel
theorem dX5_init_67 : decode cX5_init 67 = .ok (.getfield 7, 3) := by decide +kernel
theorem dX5_init_70 : decode cX5_init 70 = .ok (.bipush 57, 2) := by decide +kernel
theorem dX5_init_72 : decode cX5_init 72 = .ok (.ldc 35, 2) := by decide +kernel
theorem dX5_init_74 : decode cX5_init 74 = .ok (.iastore, 1) := by decide +kernel
theorem dX5_init_75 : decode cX5_init 75 = .ok (.aload_n 0, 1) := by decide +kernel
theorem dX5_init_76 : decode cX5_init 76 = .ok (.getfield 7, 3) := by decide +kernel
theorem dX5_init_79 : decode cX5_init 79 = .ok (.bipush 58, 2) := by decide +kernel
theorem dX5_init_81 : decode cX5_init 81 = .ok (.ldc 35, 2) := by decide +kernel
theorem dX5_init_83 : decode cX5_init 83 = .ok (.iastore, 1) := by decide +kernel
theorem dX5_init_84 : decode cX5_init 84 = .ok (.return_, 1) := by decide +kernel
theorem dX5_in_0 : decode cX5_in 0 = .ok (.iload_n 0, 1) := by decide +kernel
theorem dX5_in_1 : decode cX5_in 1 = .ok (.iload_n 1, 1) := by decide +kernel
theorem dX5_in_2 : decode cX5_in 2 = .ok (.if_icmp .lt 12, 3) := by decide +kernel
theorem dX5_in_5 : decode cX5_in 5 = .ok (.iload_n 0, 1) := by decide +kernel
theorem dX5_in_6 : decode cX5_in 6 = .ok (.iload_n 2, 1) := by decide +kernel
theorem dX5_in_7 : decode cX5_in 7 = .ok (.if_icmp .gt 7, 3) := by decide +kernel
theorem dX5_in_10 : decode cX5_in 10 = .ok (.iconst 1, 1) := by decide +kernel
theorem dX5_in_11 : decode cX5_in 11 = .ok (.goto 4, 3) := by decide +kernel
theorem dX5_in_14 : decode cX5_in 14 = .ok (.iconst 0, 1) := by decide +kernel
theorem dX5_in_15 : decode cX5_in 15 = .ok (.ireturn, 1) := by decide +kernel
theorem dX5_copies_0 : decode cX5_copies 0 = .ok (.iconst 0, 1) := by decide +kernel
theorem dX5_copies_1 : decode cX5_copies 1 = .ok (.istore_n 3, 1) := by decide +kernel
theorem dX5_copies_2 : decode cX5_copies 2 = .ok (.iload_n 3, 1) := by decide +kernel
theorem dX5_copies_3 : decode cX5_copies 3 = .ok (.bipush 118, 2) := by decide +kernel
theorem dX5_copies_5 : decode cX5_copies 5 = .ok (.if_icmp .ge 31, 3) := by decide +kernel
theorem dX5_copies_8 : decode cX5_copies 8 = .ok (.aload_n 0, 1) := by decide +kernel
theorem dX5_copies_9 : decode cX5_copies 9 = .ok (.getfield 7, 3) := by decide +kernel
theorem dX5_copies_12 : decode cX5_copies 12 = .ok (.bipush 118, 2) := by decide +kernel
theorem dX5_copies_14 : decode cX5_copies 14 = .ok (.iload_n 2, 1) := by decide +kernel
theorem dX5_copies_15 : decode cX5_copies 15 = .ok (.imul, 1) := by decide +kernel
theorem dX5_copies_16 : decode cX5_copies 16 = .ok (.iload_n 3, 1) := by decide +kernel
theorem dX5_copies_17 : decode cX5_copies 17 = .ok (.iadd, 1) := by decide +kernel
theorem dX5_copies_18 : decode cX5_copies 18 = .ok (.aload_n 0, 1) := by decide +kernel
theorem dX5_copies_19 : decode cX5_copies 19 = .ok (.getfield 7, 3) := by decide +kernel
theorem dX5_copies_22 : decode cX5_copies 22 = .ok (.bipush 118, 2) := by decide +kernel
theorem dX5_copies_24 : decode cX5_copies 24 = .ok (.iload_n 1, 1) := by decide +kernel
theorem dX5_copies_25 : decode cX5_copies 25 = .ok (.imul, 1) := by decide +kernel
theorem dX5_copies_26 : decode cX5_copies 26 = .ok (.iload_n 3, 1) := by decide +kernel
theorem dX5_copies_27 : decode cX5_copies 27 = .ok (.iadd, 1) := by decide +kernel
theorem dX5_copies_28 : decode cX5_copies 28 = .ok (.iaload, 1) := by decide +kernel
theorem dX5_copies_29 : decode cX5_copies 29 = .ok (.iastore, 1) := by decide +kernel
theorem dX5_copies_30 : decode cX5_copies 30 = .ok (.iinc 3 1, 3) := by decide +kernel
theorem dX5_copies_33 : decode cX5_copies 33 = .ok (.goto (-31), 3) := by decide +kernel
theorem dX5_copies_36 : decode cX5_copies 36 = .ok (.iconst 0, 1) := by decide +kernel
theorem dX5_copies_37 : decode cX5_copies 37 = .ok (.istore_n 3, 1) := by decide +kernel
theorem dX5_copies_38 : decode cX5_copies 38 = .ok (.iload_n 3, 1) := by decide +kernel
theorem dX5_copies_39 : decode cX5_copies 39 = .ok (.iconst 3, 1) := by decide +kernel
theorem dX5_copies_40 : decode cX5_copies 40 = .ok (.if_icmp .ge 29, 3) := by decide +kernel
theorem dX5_copies_43 : decode cX5_copies 43 = .ok (.aload_n 0, 1) := by decide +kernel
theorem dX5_copies_44 : decode cX5_copies 44 = .ok (.getfield 13, 3) := by decide +kernel
theorem dX5_copies_47 : decode cX5_copies 47 = .ok (.iconst 3, 1) := by decide +kernel
theorem dX5_copies_48 : decode cX5_copies 48 = .ok (.iload_n 2, 1) := by decide +kernel
theorem dX5_copies_49 : decode cX5_copies 49 = .ok (.imul, 1) := by decide +kernel
theorem dX5_copies_50 : decode cX5_copies 50 = .ok (.iload_n 3, 1) := by decide +kernel
theorem dX5_copies_51 : decode cX5_copies 51 = .ok (.iadd, 1) := by decide +kernel
theorem dX5_copies_52 : decode cX5_copies 52 = .ok (.aload_n 0, 1) := by decide +kernel
theorem dX5_copies_53 : decode cX5_copies 53 = .ok (.getfield 13, 3) := by decide +kernel
theorem dX5_copies_56 : decode cX5_copies 56 = .ok (.iconst 3, 1) := by decide +kernel
theorem dX5_copies_57 : decode cX5_copies 57 = .ok (.iload_n 1, 1) := by decide +kernel
theorem dX5_copies_58 : decode cX5_copies 58 = .ok (.imul, 1) := by decide +kernel
theorem dX5_copies_59 : decode cX5_copies 59 = .ok (.iload_n 3, 1) := by decide +kernel
theorem dX5_copies_60 : decode cX5_copies 60 = .ok (.iadd, 1) := by decide +kernel
theorem dX5_copies_61 : decode cX5_copies 61 = .ok (.laload, 1) := by decide +kernel
theorem dX5_copies_62 : decode cX5_copies 62 = .ok (.lastore, 1) := by decide +kernel
theorem dX5_copies_63 : decode cX5_copies 63 = .ok (.iinc 3 1, 3) := by decide +kernel
theorem dX5_copies_66 : decode cX5_copies 66 = .ok (.goto (-28), 3) := by decide +kernel
theorem dX5_copies_69 : decode cX5_copies 69 = .ok (.return_, 1) := by decide +kernel
theorem dX5_saves_0 : decode cX5_saves 0 = .ok (.iconst 1, 1) := by decide +kernel
theorem dX5_saves_1 : decode cX5_saves 1 = .ok (.istore_n 1, 1) := by decide +kernel
theorem dX5_saves_2 : decode cX5_saves 2 = .ok (.iload_n 1, 1) := by decide +kernel
theorem dX5_saves_3 : decode cX5_saves 3 = .ok (.iconst 5, 1) := by decide +kernel
theorem dX5_saves_4 : decode cX5_saves 4 = .ok (.if_icmp .ge 25, 3) := by decide +kernel
theorem dX5_saves_7 : decode cX5_saves 7 = .ok (.aload_n 0, 1) := by decide +kernel
theorem dX5_saves_8 : decode cX5_saves 8 = .ok (.getfield 36, 3) := by decide +kernel
theorem dX5_saves_11 : decode cX5_saves 11 = .ok (.iconst 5, 1) := by decide +kernel
theorem dX5_saves_12 : decode cX5_saves 12 = .ok (.if_icmp .ne 17, 3) := by decide +kernel
theorem dX5_saves_15 : decode cX5_saves 15 = .ok (.aload_n 0, 1) := by decide +kernel
theorem dX5_saves_16 : decode cX5_saves 16 = .ok (.iload_n 1, 1) := by decide +kernel
theorem dX5_saves_17 : decode cX5_saves 17 = .ok (.iconst 1, 1) := by decide +kernel
theorem dX5_saves_18 : decode cX5_saves 18 = .ok (.iadd, 1) := by decide +kernel
theorem dX5_saves_19 : decode cX5_saves 19 = .ok (.iload_n 1, 1) := by decide +kernel
theorem dX5_saves_20 : decode cX5_saves 20 = .ok (.invokevirtual 40, 3) := by decide +kernel
theorem dX5_saves_23 : decode cX5_saves 23 = .ok (.iinc 1 1, 3) := by decide +kernel
theorem dX5_saves_26 : decode cX5_saves 26 = .ok (.goto (-24), 3) := by decide +kernel
theorem dX5_saves_29 : decode cX5_saves 29 = .ok (.aload_n 0, 1) := by decide +kernel
theorem dX5_saves_30 : decode cX5_saves 30 = .ok (.dup, 1) := by decide +kernel
theorem dX5_saves_31 : decode cX5_saves 31 = .ok (.getfield 36, 3) := by decide +kernel
theorem dX5_saves_34 : decode cX5_saves 34 = .ok (.aload_n 0, 1) := by decide +kernel
theorem dX5_saves_35 : decode cX5_saves 35 = .ok (.getfield 36, 3) := by decide +kernel
theorem dX5_saves_38 : decode cX5_saves 38 = .ok (.iconst 5, 1) := by decide +kernel
theorem dX5_saves_39 : decode cX5_saves 39 = .ok (.if_icmp .ne 7, 3) := by decide +kernel
theorem dX5_saves_42 : decode cX5_saves 42 = .ok (.iconst 1, 1) := by decide +kernel
theorem dX5_saves_43 : decode cX5_saves 43 = .ok (.goto 4, 3) := by decide +kernel
theorem dX5_saves_46 : decode cX5_saves 46 = .ok (.iconst 0, 1) := by decide +kernel
theorem dX5_saves_47 : decode cX5_saves 47 = .ok (.isub, 1) := by decide +kernel
theorem dX5_saves_48 : decode cX5_saves 48 = .ok (.putfield 36, 3) := by decide +kernel
theorem dX5_saves_51 : decode cX5_saves 51 = .ok (.aload_n 0, 1) := by decide +kernel
theorem dX5_saves_52 : decode cX5_saves 52 = .ok (.dup, 1) := by decide +kernel
theorem dX5_saves_53 : decode cX5_saves 53 = .ok (.getfield 36, 3) := by decide +kernel
theorem dX5_saves_56 : decode cX5_saves 56 = .ok (.iconst 1, 1) := by decide +kernel
theorem dX5_saves_57 : decode cX5_saves 57 = .ok (.iadd, 1) := by decide +kernel
theorem dX5_saves_58 : decode cX5_saves 58 = .ok (.putfield 36, 3) := by decide +kernel
theorem dX5_saves_61 : decode cX5_saves 61 = .ok (.aload_n 0, 1) := by decide +kernel
theorem dX5_saves_62 : decode cX5_saves 62 = .ok (.iconst 0, 1) := by decide +kernel
theorem dX5_saves_63 : decode cX5_saves 63 = .ok (.aload_n 0, 1) := by decide +kernel
theorem dX5_saves_64 : decode cX5_saves 64 = .ok (.getfield 36, 3) := by decide +kernel
theorem dX5_saves_67 : decode cX5_saves 67 = .ok (.invokevirtual 40, 3) := by decide +kernel
theorem dX5_saves_70 : decode cX5_saves 70 = .ok (.return_, 1) := by decide +kernel
theorem dX5_isThruster_0 : decode cX5_isThruster 0 = .ok (.iload_n 1, 1) := by decide +kernel
theorem dX5_isThruster_1 : decode cX5_isThruster 1 = .ok (.iconst 0, 1) := by decide +kernel
theorem dX5_isThruster_2 : decode cX5_isThruster 2 = .ok (.aload_n 0, 1) := by decide +kernel
theorem dX5_isThruster_3 : decode cX5_isThruster 3 = .ok (.getfield 7, 3) := by decide +kernel
theorem dX5_isThruster_6 : decode cX5_isThruster 6 = .ok (.iconst 0, 1) := by decide +kernel
theorem dX5_isThruster_7 : decode cX5_isThruster 7 = .ok (.iaload, 1) := by decide +kernel
theorem dX5_isThruster_8 : decode cX5_isThruster 8 = .ok (.iconst 1, 1) := by decide +kernel
theorem dX5_isThruster_9 : decode cX5_isThruster 9 = .ok (.isub, 1) := by decide +kernel
theorem dX5_isThruster_10 : decode cX5_isThruster 10 = .ok (.invokestatic 44, 3) := by decide +kernel
theorem dX5_isThruster_13 : decode cX5_isThruster 13 = .ok (.ireturn, 1) := by decide +kernel
theorem dX5_isTank_0 : decode cX5_isTank 0 = .ok (.iload_n 0, 1) := by decide +kernel
theorem dX5_isTank_1 : decode cX5_isTank 1 = .ok (.iconst 0, 1) := by decide +kernel
theorem dX5_isTank_2 : decode cX5_isTank 2 = .ok (.iconst 1, 1) := by decide +kernel
theorem dX5_isTank_3 : decode cX5_isTank 3 = .ok (.invokestatic 44, 3) := by decide +kernel
theorem dX5_isTank_6 : decode cX5_isTank 6 = .ok (.ireturn, 1) := by decide +kernel
theorem dX5_isPart_0 : decode cX5_isPart 0 = .ok (.iload_n 0, 1) := by decide +kernel
theorem dX5_isPart_1 : decode cX5_isPart 1 = .ok (.iconst 0, 1) := by decide +kernel
theorem dX5_isPart_2 : decode cX5_isPart 2 = .ok (.iconst 2, 1) := by decide +kernel
theorem dX5_isPart_3 : decode cX5_isPart 3 = .ok (.invokestatic 44, 3) := by decide +kernel
theorem dX5_isPart_6 : decode cX5_isPart 6 = .ok (.ireturn, 1) := by decide +kernel
theorem dX5_of_0 : decode cX5_of 0 = .ok (.aload_n 0, 1) := by decide +kernel
theorem dX5_of_1 : decode cX5_of 1 = .ok (.getfield 7, 3) := by decide +kernel
theorem dX5_of_4 : decode cX5_of 4 = .ok (.iconst 1, 1) := by decide +kernel
theorem dX5_of_5 : decode cX5_of 5 = .ok (.bipush 7, 2) := by decide +kernel
theorem dX5_of_7 : decode cX5_of 7 = .ok (.iload_n 1, 1) := by decide +kernel
theorem dX5_of_8 : decode cX5_of 8 = .ok (.imul, 1) := by decide +kernel
theorem dX5_of_9 : decode cX5_of 9 = .ok (.iadd, 1) := by decide +kernel
theorem dX5_of_10 : decode cX5_of 10 = .ok (.iload_n 2, 1) := by decide +kernel
theorem dX5_of_11 : decode cX5_of 11 = .ok (.iadd, 1) := by decide +kernel
theorem dX5_of_12 : decode cX5_of 12 = .ok (.iaload, 1) := by decide +kernel
theorem dX5_of_13 : decode cX5_of 13 = .ok (.ireturn, 1) := by decide +kernel
theorem dX5_fuelOf_0 : decode cX5_fuelOf 0 = .ok (.aload_n 0, 1) := by decide +kernel
theorem dX5_fuelOf_1 : decode cX5_fuelOf 1 = .ok (.getfield 7, 3) := by decide +kernel
theorem dX5_fuelOf_4 : decode cX5_fuelOf 4 = .ok (.bipush 57, 2) := by decide +kernel
theorem dX5_fuelOf_6 : decode cX5_fuelOf 6 = .ok (.aload_n 0, 1) := by decide +kernel
theorem dX5_fuelOf_7 : decode cX5_fuelOf 7 = .ok (.iload_n 1, 1) := by decide +kernel
theorem dX5_fuelOf_8 : decode cX5_fuelOf 8 = .ok (.iconst 4, 1) := by decide +kernel
theorem dX5_fuelOf_9 : decode cX5_fuelOf 9 = .ok (.invokevirtual 48, 3) := by decide +kernel
theorem dX5_fuelOf_12 : decode cX5_fuelOf 12 = .ok (.iadd, 1) := by decide +kernel
theorem dX5_fuelOf_13 : decode cX5_fuelOf 13 = .ok (.iaload, 1) := by decide +kernel
theorem dX5_fuelOf_14 : decode cX5_fuelOf 14 = .ok (.ireturn, 1) := by decide +kernel
theorem dX5_isUsable_0 : decode cX5_isUsable 0 = .ok (.aload_n 0, 1) := by decide +kernel
theorem dX5_isUsable_1 : decode cX5_isUsable 1 = .ok (.iload_n 1, 1) := by decide +kernel
theorem dX5_isUsable_2 : decode cX5_isUsable 2 = .ok (.bipush 6, 2) := by decide +kernel
theorem dX5_isUsable_4 : decode cX5_isUsable 4 = .ok (.invokevirtual 48, 3) := by decide +kernel
theorem dX5_isUsable_7 : decode cX5_isUsable 7 = .ok (.ifCond .ne 18, 3) := by decide +kernel
theorem dX5_isUsable_10 : decode cX5_isUsable 10 = .ok (.aload_n 0, 1) := by decide +kernel
theorem dX5_isUsable_11 : decode cX5_isUsable 11 = .ok (.iload_n 1, 1) := by decide +kernel
theorem dX5_isUsable_12 : decode cX5_isUsable 12 = .ok (.invokevirtual 52, 3) := by decide +kernel
theorem dX5_isUsable_15 : decode cX5_isUsable 15 = .ok (.sipush 600, 3) := by decide +kernel
theorem dX5_isUsable_18 : decode cX5_isUsable 18 = .ok (.if_icmp .lt 7, 3) := by decide +kernel
theorem dX5_isUsable_21 : decode cX5_isUsable 21 = .ok (.iconst 1, 1) := by decide +kernel
theorem dX5_isUsable_22 : decode cX5_isUsable 22 = .ok (.goto 4, 3) := by decide +kernel
theorem dX5_isUsable_25 : decode cX5_isUsable 25 = .ok (.iconst 0, 1) := by decide +kernel
theorem dX5_isUsable_26 : decode cX5_isUsable 26 = .ok (.ireturn, 1) := by decide +kernel
theorem dX5_isRunning_0 : decode cX5_isRunning 0 = .ok (.aload_n 0, 1) := by decide +kernel
theorem dX5_isRunning_1 : decode cX5_isRunning 1 = .ok (.iload_n 1, 1) := by decide +kernel
theorem dX5_isRunning_2 : decode cX5_isRunning 2 = .ok (.bipush 6, 2) := by decide +kernel
theorem dX5_isRunning_4 : decode cX5_isRunning 4 = .ok (.invokevirtual 48, 3) := by decide +kernel
theorem dX5_isRunning_7 : decode cX5_isRunning 7 = .ok (.iconst 2, 1) := by decide +kernel
theorem dX5_isRunning_8 : decode cX5_isRunning 8 = .ok (.if_icmp .ne 24, 3) := by decide +kernel
theorem dX5_isRunning_11 : decode cX5_isRunning 11 = .ok (.aload_n 0, 1) := by decide +kernel
theorem dX5_isRunning_12 : decode cX5_isRunning 12 = .ok (.iload_n 1, 1) := by decide +kernel
theorem dX5_isRunning_13 : decode cX5_isRunning 13 = .ok (.invokevirtual 52, 3) := by decide +kernel
theorem dX5_isRunning_16 : decode cX5_isRunning 16 = .ok (.bipush 20, 2) := by decide +kernel
theorem dX5_isRunning_18 : decode cX5_isRunning 18 = .ok (.aload_n 0, 1) := by decide +kernel
theorem dX5_isRunning_19 : decode cX5_isRunning 19 = .ok (.iload_n 1, 1) := by decide +kernel
theorem dX5_isRunning_20 : decode cX5_isRunning 20 = .ok (.iconst 3, 1) := by decide +kernel
theorem dX5_isRunning_21 : decode cX5_isRunning 21 = .ok (.invokevirtual 48, 3) := by decide +kernel
theorem dX5_isRunning_24 : decode cX5_isRunning 24 = .ok (.imul, 1) := by decide +kernel
theorem dX5_isRunning_25 : decode cX5_isRunning 25 = .ok (.if_icmp .lt 7, 3) := by decide +kernel
theorem dX5_isRunning_28 : decode cX5_isRunning 28 = .ok (.iconst 1, 1) := by decide +kernel
theorem dX5_isRunning_29 : decode cX5_isRunning 29 = .ok (.goto 4, 3) := by decide +kernel
theorem dX5_isRunning_32 : decode cX5_isRunning 32 = .ok (.iconst 0, 1) := by decide +kernel
theorem dX5_isRunning_33 : decode cX5_isRunning 33 = .ok (.ireturn, 1) := by decide +kernel
theorem dX5_unitOf_0 : decode cX5_unitOf 0 = .ok (.aload_n 0, 1) := by decide +kernel
theorem dX5_unitOf_1 : decode cX5_unitOf 1 = .ok (.iload_n 1, 1) := by decide +kernel
theorem dX5_unitOf_2 : decode cX5_unitOf 2 = .ok (.iconst 2, 1) := by decide +kernel
theorem dX5_unitOf_3 : decode cX5_unitOf 3 = .ok (.invokevirtual 48, 3) := by decide +kernel
theorem dX5_unitOf_6 : decode cX5_unitOf 6 = .ok (.istore_n 3, 1) := by decide +kernel
theorem dX5_unitOf_7 : decode cX5_unitOf 7 = .ok (.iload_n 3, 1) := by decide +kernel
theorem dX5_unitOf_8 : decode cX5_unitOf 8 = .ok (.ifCond .ne 7, 3) := by decide +kernel
theorem dX5_unitOf_11 : decode cX5_unitOf 11 = .ok (.iconst 1, 1) := by decide +kernel
theorem dX5_unitOf_12 : decode cX5_unitOf 12 = .ok (.goto 13, 3) := by decide +kernel
theorem dX5_unitOf_15 : decode cX5_unitOf 15 = .ok (.iload_n 3, 1) := by decide +kernel
theorem dX5_unitOf_16 : decode cX5_unitOf 16 = .ok (.iconst 2, 1) := by decide +kernel
theorem dX5_unitOf_17 : decode cX5_unitOf 17 = .ok (.if_icmp .ne 7, 3) := by decide +kernel
theorem dX5_unitOf_20 : decode cX5_unitOf 20 = .ok (.iconst (-1), 1) := by decide +kernel
theorem dX5_unitOf_21 : decode cX5_unitOf 21 = .ok (.goto 4, 3) := by decide +kernel
theorem dX5_unitOf_24 : decode cX5_unitOf 24 = .ok (.iconst 0, 1) := by decide +kernel
theorem dX5_unitOf_25 : decode cX5_unitOf 25 = .ok (.istore 4, 2) := by decide +kernel
theorem dX5_unitOf_27 : decode cX5_unitOf 27 = .ok (.iload_n 3, 1) := by decide +kernel
theorem dX5_unitOf_28 : decode cX5_unitOf 28 = .ok (.iconst 1, 1) := by decide +kernel
theorem dX5_unitOf_29 : decode cX5_unitOf 29 = .ok (.if_icmp .ne 7, 3) := by decide +kernel
theorem dX5_unitOf_32 : decode cX5_unitOf 32 = .ok (.iconst 1, 1) := by decide +kernel
theorem dX5_unitOf_33 : decode cX5_unitOf 33 = .ok (.goto 13, 3) := by decide +kernel
theorem dX5_unitOf_36 : decode cX5_unitOf 36 = .ok (.iload_n 3, 1) := by decide +kernel
theorem dX5_unitOf_37 : decode cX5_unitOf 37 = .ok (.iconst 3, 1) := by decide +kernel
theorem dX5_unitOf_38 : decode cX5_unitOf 38 = .ok (.if_icmp .ne 7, 3) := by decide +kernel
theorem dX5_unitOf_41 : decode cX5_unitOf 41 = .ok (.iconst (-1), 1) := by decide +kernel
theorem dX5_unitOf_42 : decode cX5_unitOf 42 = .ok (.goto 4, 3) := by decide +kernel
theorem dX5_unitOf_45 : decode cX5_unitOf 45 = .ok (.iconst 0, 1) := by decide +kernel
theorem dX5_unitOf_46 : decode cX5_unitOf 46 = .ok (.istore 5, 2) := by decide +kernel
theorem dX5_unitOf_48 : decode cX5_unitOf 48 = .ok (.aload_n 0, 1) := by decide +kernel
theorem dX5_unitOf_49 : decode cX5_unitOf 49 = .ok (.iload_n 1, 1) := by decide +kernel
theorem dX5_unitOf_50 : decode cX5_unitOf 50 = .ok (.iconst 3, 1) := by decide +kernel
theorem dX5_unitOf_51 : decode cX5_unitOf 51 = .ok (.invokevirtual 48, 3) := by decide +kernel
theorem dX5_unitOf_54 : decode cX5_unitOf 54 = .ok (.iload_n 2, 1) := by decide +kernel
theorem dX5_unitOf_55 : decode cX5_unitOf 55 = .ok (.ifCond .ne 8, 3) := by decide +kernel
theorem dX5_unitOf_58 : decode cX5_unitOf 58 = .ok (.iload 4, 2) := by decide +kernel
theorem dX5_unitOf_60 : decode cX5_unitOf 60 = .ok (.goto 32, 3) := by decide +kernel
theorem dX5_unitOf_63 : decode cX5_unitOf 63 = .ok (.iload_n 2, 1) := by decide +kernel
theorem dX5_unitOf_64 : decode cX5_unitOf 64 = .ok (.iconst 1, 1) := by decide +kernel
theorem dX5_unitOf_65 : decode cX5_unitOf 65 = .ok (.if_icmp .ne 8, 3) := by decide +kernel
theorem dX5_unitOf_68 : decode cX5_unitOf 68 = .ok (.iload 5, 2) := by decide +kernel
theorem dX5_unitOf_70 : decode cX5_unitOf 70 = .ok (.goto 22, 3) := by decide +kernel
theorem dX5_unitOf_73 : decode cX5_unitOf 73 = .ok (.aload_n 0, 1) := by decide +kernel
theorem dX5_unitOf_74 : decode cX5_unitOf 74 = .ok (.iload_n 1, 1) := by decide +kernel
theorem dX5_unitOf_75 : decode cX5_unitOf 75 = .ok (.iconst 0, 1) := by decide +kernel
theorem dX5_unitOf_76 : decode cX5_unitOf 76 = .ok (.invokevirtual 48, 3) := by decide +kernel
theorem dX5_unitOf_79 : decode cX5_unitOf 79 = .ok (.iload 5, 2) := by decide +kernel
theorem dX5_unitOf_81 : decode cX5_unitOf 81 = .ok (.imul, 1) := by decide +kernel
theorem dX5_unitOf_82 : decode cX5_unitOf 82 = .ok (.aload_n 0, 1) := by decide +kernel
theorem dX5_unitOf_83 : decode cX5_unitOf 83 = .ok (.iload_n 1, 1) := by decide +kernel
theorem dX5_unitOf_84 : decode cX5_unitOf 84 = .ok (.iconst 1, 1) := by decide +kernel
theorem dX5_unitOf_85 : decode cX5_unitOf 85 = .ok (.invokevirtual 48, 3) := by decide +kernel
theorem dX5_unitOf_88 : decode cX5_unitOf 88 = .ok (.iload 4, 2) := by decide +kernel
theorem dX5_unitOf_90 : decode cX5_unitOf 90 = .ok (.imul, 1) := by decide +kernel
theorem dX5_unitOf_91 : decode cX5_unitOf 91 = .ok (.isub, 1) := by decide +kernel
theorem dX5_unitOf_92 : decode cX5_unitOf 92 = .ok (.imul, 1) := by decide +kernel
theorem dX5_unitOf_93 : decode cX5_unitOf 93 = .ok (.ireturn, 1) := by decide +kernel
theorem dX5_running_0 : decode cX5_running 0 = .ok (.iconst 0, 1) := by decide +kernel
theorem dX5_running_1 : decode cX5_running 1 = .ok (.istore_n 1, 1) := by decide +kernel
theorem dX5_running_2 : decode cX5_running 2 = .ok (.iconst 0, 1) := by decide +kernel
theorem dX5_running_3 : decode cX5_running 3 = .ok (.istore_n 2, 1) := by decide +kernel
theorem dX5_running_4 : decode cX5_running 4 = .ok (.iload_n 2, 1) := by decide +kernel
theorem dX5_running_5 : decode cX5_running 5 = .ok (.aload_n 0, 1) := by decide +kernel
theorem dX5_running_6 : decode cX5_running 6 = .ok (.getfield 7, 3) := by decide +kernel
theorem dX5_running_9 : decode cX5_running 9 = .ok (.iconst 0, 1) := by decide +kernel
theorem dX5_running_10 : decode cX5_running 10 = .ok (.iaload, 1) := by decide +kernel
theorem dX5_running_11 : decode cX5_running 11 = .ok (.if_icmp .ge 27, 3) := by decide +kernel
theorem dX5_running_14 : decode cX5_running 14 = .ok (.iload_n 1, 1) := by decide +kernel
theorem dX5_running_15 : decode cX5_running 15 = .ok (.aload_n 0, 1) := by decide +kernel
theorem dX5_running_16 : decode cX5_running 16 = .ok (.iload_n 2, 1) := by decide +kernel
theorem dX5_running_17 : decode cX5_running 17 = .ok (.invokevirtual 56, 3) := by decide +kernel
theorem dX5_running_20 : decode cX5_running 20 = .ok (.ifCond .eq 9, 3) := by decide +kernel
theorem dX5_running_23 : decode cX5_running 23 = .ok (.iconst 1, 1) := by decide +kernel
theorem dX5_running_24 : decode cX5_running 24 = .ok (.iload_n 2, 1) := by decide +kernel
theorem dX5_running_25 : decode cX5_running 25 = .ok (.ishl, 1) := by decide +kernel
theorem dX5_running_26 : decode cX5_running 26 = .ok (.goto 4, 3) := by decide +kernel
theorem dX5_running_29 : decode cX5_running 29 = .ok (.iconst 0, 1) := by decide +kernel
theorem dX5_running_30 : decode cX5_running 30 = .ok (.ior, 1) := by decide +kernel
theorem dX5_running_31 : decode cX5_running 31 = .ok (.istore_n 1, 1) := by decide +kernel
theorem dX5_running_32 : decode cX5_running 32 = .ok (.iinc 2 1, 3) := by decide +kernel
theorem dX5_running_35 : decode cX5_running 35 = .ok (.goto (-31), 3) := by decide +kernel
theorem dX5_running_38 : decode cX5_running 38 = .ok (.iload_n 1, 1) := by decide +kernel
theorem dX5_running_39 : decode cX5_running 39 = .ok (.ireturn, 1) := by decide +kernel
theorem dX5_addThruster_0 : decode cX5_addThruster 0 = .ok (.iload 5, 2) := by decide +kernel
theorem dX5_addThruster_2 : decode cX5_addThruster 2 = .ok (.invokestatic 60, 3) := by decide +kernel
theorem dX5_addThruster_5 : decode cX5_addThruster 5 = .ok (.ifCond .ne 6, 3) := by decide +kernel
theorem dX5_addThruster_8 : decode cX5_addThruster 8 = .ok (.ldc 63, 2) := by decide +kernel
theorem dX5_addThruster_10 : decode cX5_addThruster 10 = .ok (.ireturn, 1) := by decide +kernel
theorem dX5_addThruster_11 : decode cX5_addThruster 11 = .ok (.iload_n 1, 1) := by decide +kernel
theorem dX5_addThruster_12 : decode cX5_addThruster 12 = .ok (.bipush (-10), 2) := by decide +kernel
theorem dX5_addThruster_14 : decode cX5_addThruster 14 = .ok (.bipush 10, 2) := by decide +kernel
theorem dX5_addThruster_16 : decode cX5_addThruster 16 = .ok (.invokestatic 44, 3) := by decide +kernel
theorem dX5_addThruster_19 : decode cX5_addThruster 19 = .ok (.ifCond .eq 45, 3) := by decide +kernel
theorem dX5_addThruster_22 : decode cX5_addThruster 22 = .ok (.iload_n 2, 1) := by decide +kernel
theorem dX5_addThruster_23 : decode cX5_addThruster 23 = .ok (.bipush (-10), 2) := by decide +kernel
theorem dX5_addThruster_25 : decode cX5_addThruster 25 = .ok (.bipush 10, 2) := by decide +kernel
theorem dX5_addThruster_27 : decode cX5_addThruster 27 = .ok (.invokestatic 44, 3) := by decide +kernel
theorem dX5_addThruster_30 : decode cX5_addThruster 30 = .ok (.ifCond .eq 34, 3) := by decide +kernel
theorem dX5_addThruster_33 : decode cX5_addThruster 33 = .ok (.iload_n 3, 1) := by decide +kernel
theorem dX5_addThruster_34 : decode cX5_addThruster 34 = .ok (.iconst 0, 1) := by decide +kernel
theorem dX5_addThruster_35 : decode cX5_addThruster 35 = .ok (.iconst 3, 1) := by decide +kernel
theorem dX5_addThruster_36 : decode cX5_addThruster 36 = .ok (.invokestatic 44, 3) := by decide +kernel
theorem dX5_addThruster_39 : decode cX5_addThruster 39 = .ok (.ifCond .eq 25, 3) := by decide +kernel
theorem dX5_addThruster_42 : decode cX5_addThruster 42 = .ok (.iload 4, 2) := by decide +kernel
theorem dX5_addThruster_44 : decode cX5_addThruster 44 = .ok (.iconst 1, 1) := by decide +kernel
theorem dX5_addThruster_45 : decode cX5_addThruster 45 = .ok (.bipush 10, 2) := by decide +kernel
theorem dX5_addThruster_47 : decode cX5_addThruster 47 = .ok (.invokestatic 44, 3) := by decide +kernel
theorem dX5_addThruster_50 : decode cX5_addThruster 50 = .ok (.ifCond .eq 14, 3) := by decide +kernel
theorem dX5_addThruster_53 : decode cX5_addThruster 53 = .ok (.iload 6, 2) := by decide +kernel
theorem dX5_addThruster_55 : decode cX5_addThruster 55 = .ok (.iconst 1, 1) := by decide +kernel
theorem dX5_addThruster_56 : decode cX5_addThruster 56 = .ok (.bipush 10, 2) := by decide +kernel
theorem dX5_addThruster_58 : decode cX5_addThruster 58 = .ok (.invokestatic 44, 3) := by decide +kernel
theorem dX5_addThruster_61 : decode cX5_addThruster 61 = .ok (.ifCond .ne 6, 3) := by decide +kernel
theorem dX5_addThruster_64 : decode cX5_addThruster 64 = .ok (.ldc 64, 2) := by decide +kernel
theorem dX5_addThruster_66 : decode cX5_addThruster 66 = .ok (.ireturn, 1) := by decide +kernel
theorem dX5_addThruster_67 : decode cX5_addThruster 67 = .ok (.aload_n 0, 1) := by decide +kernel
theorem dX5_addThruster_68 : decode cX5_addThruster 68 = .ok (.getfield 7, 3) := by decide +kernel
theorem dX5_addThruster_71 : decode cX5_addThruster 71 = .ok (.iconst 0, 1) := by decide +kernel
theorem dX5_addThruster_72 : decode cX5_addThruster 72 = .ok (.iaload, 1) := by decide +kernel
theorem dX5_addThruster_73 : decode cX5_addThruster 73 = .ok (.bipush 8, 2) := by decide +kernel
theorem dX5_addThruster_75 : decode cX5_addThruster 75 = .ok (.if_icmp .ne 6, 3) := by decide +kernel
theorem dX5_addThruster_78 : decode cX5_addThruster 78 = .ok (.ldc 65, 2) := by decide +kernel
theorem dX5_addThruster_80 : decode cX5_addThruster 80 = .ok (.ireturn, 1) := by decide +kernel
theorem dX5_addThruster_81 : decode cX5_addThruster 81 = .ok (.aload_n 0, 1) := by decide +kernel
theorem dX5_addThruster_82 : decode cX5_addThruster 82 = .ok (.invokevirtual 66, 3) := by decide +kernel
theorem dX5_addThruster_85 : decode cX5_addThruster 85 = .ok (.iconst 1, 1) := by decide +kernel
theorem dX5_addThruster_86 : decode cX5_addThruster 86 = .ok (.bipush 7, 2) := by decide +kernel
theorem dX5_addThruster_88 : decode cX5_addThruster 88 = .ok (.aload_n 0, 1) := by decide +kernel
theorem dX5_addThruster_89 : decode cX5_addThruster 89 = .ok (.getfield 7, 3) := by decide +kernel
theorem dX5_addThruster_92 : decode cX5_addThruster 92 = .ok (.iconst 0, 1) := by decide +kernel
theorem dX5_addThruster_93 : decode cX5_addThruster 93 = .ok (.iaload, 1) := by decide +kernel
theorem dX5_addThruster_94 : decode cX5_addThruster 94 = .ok (.imul, 1) := by decide +kernel
theorem dX5_addThruster_95 : decode cX5_addThruster 95 = .ok (.iadd, 1) := by decide +kernel
theorem dX5_addThruster_96 : decode cX5_addThruster 96 = .ok (.istore 7, 2) := by decide +kernel
theorem dX5_addThruster_98 : decode cX5_addThruster 98 = .ok (.aload_n 0, 1) := by decide +kernel
theorem dX5_addThruster_99 : decode cX5_addThruster 99 = .ok (.getfield 7, 3) := by decide +kernel
theorem dX5_addThruster_102 : decode cX5_addThruster 102 = .ok (.iload 7, 2) := by decide +kernel
theorem dX5_addThruster_104 : decode cX5_addThruster 104 = .ok (.iload_n 1, 1) := by decide +kernel
theorem dX5_addThruster_105 : decode cX5_addThruster 105 = .ok (.iastore, 1) := by decide +kernel
theorem dX5_addThruster_106 : decode cX5_addThruster 106 = .ok (.aload_n 0, 1) := by decide +kernel
theorem dX5_addThruster_107 : decode cX5_addThruster 107 = .ok (.getfield 7, 3) := by decide +kernel
theorem dX5_addThruster_110 : decode cX5_addThruster 110 = .ok (.iload 7, 2) := by decide +kernel
theorem dX5_addThruster_112 : decode cX5_addThruster 112 = .ok (.iconst 1, 1) := by decide +kernel
theorem dX5_addThruster_113 : decode cX5_addThruster 113 = .ok (.iadd, 1) := by decide +kernel
theorem dX5_addThruster_114 : decode cX5_addThruster 114 = .ok (.iload_n 2, 1) := by decide +kernel
theorem dX5_addThruster_115 : decode cX5_addThruster 115 = .ok (.iastore, 1) := by decide +kernel
theorem dX5_addThruster_116 : decode cX5_addThruster 116 = .ok (.aload_n 0, 1) := by decide +kernel
theorem dX5_addThruster_117 : decode cX5_addThruster 117 = .ok (.getfield 7, 3) := by decide +kernel
theorem dX5_addThruster_120 : decode cX5_addThruster 120 = .ok (.iload 7, 2) := by decide +kernel
theorem dX5_addThruster_122 : decode cX5_addThruster 122 = .ok (.iconst 2, 1) := by decide +kernel
theorem dX5_addThruster_123 : decode cX5_addThruster 123 = .ok (.iadd, 1) := by decide +kernel
theorem dX5_addThruster_124 : decode cX5_addThruster 124 = .ok (.iload_n 3, 1) := by decide +kernel
theorem dX5_addThruster_125 : decode cX5_addThruster 125 = .ok (.iastore, 1) := by decide +kernel
theorem dX5_addThruster_126 : decode cX5_addThruster 126 = .ok (.aload_n 0, 1) := by decide +kernel
theorem dX5_addThruster_127 : decode cX5_addThruster 127 = .ok (.getfield 7, 3) := by decide +kernel
theorem dX5_addThruster_130 : decode cX5_addThruster 130 = .ok (.iload 7, 2) := by decide +kernel
theorem dX5_addThruster_132 : decode cX5_addThruster 132 = .ok (.iconst 3, 1) := by decide +kernel
theorem dX5_addThruster_133 : decode cX5_addThruster 133 = .ok (.iadd, 1) := by decide +kernel
theorem dX5_addThruster_134 : decode cX5_addThruster 134 = .ok (.iload 4, 2) := by decide +kernel
theorem dX5_addThruster_136 : decode cX5_addThruster 136 = .ok (.iastore, 1) := by decide +kernel
theorem dX5_addThruster_137 : decode cX5_addThruster 137 = .ok (.aload_n 0, 1) := by decide +kernel
theorem dX5_addThruster_138 : decode cX5_addThruster 138 = .ok (.getfield 7, 3) := by decide +kernel
theorem dX5_addThruster_141 : decode cX5_addThruster 141 = .ok (.iload 7, 2) := by decide +kernel
theorem dX5_addThruster_143 : decode cX5_addThruster 143 = .ok (.iconst 4, 1) := by decide +kernel
theorem dX5_addThruster_144 : decode cX5_addThruster 144 = .ok (.iadd, 1) := by decide +kernel
theorem dX5_addThruster_145 : decode cX5_addThruster 145 = .ok (.iload 5, 2) := by decide +kernel
theorem dX5_addThruster_147 : decode cX5_addThruster 147 = .ok (.iastore, 1) := by decide +kernel
theorem dX5_addThruster_148 : decode cX5_addThruster 148 = .ok (.aload_n 0, 1) := by decide +kernel
theorem dX5_addThruster_149 : decode cX5_addThruster 149 = .ok (.getfield 7, 3) := by decide +kernel
theorem dX5_addThruster_152 : decode cX5_addThruster 152 = .ok (.iload 7, 2) := by decide +kernel
theorem dX5_addThruster_154 : decode cX5_addThruster 154 = .ok (.iconst 5, 1) := by decide +kernel
theorem dX5_addThruster_155 : decode cX5_addThruster 155 = .ok (.iadd, 1) := by decide +kernel
theorem dX5_addThruster_156 : decode cX5_addThruster 156 = .ok (.iload 6, 2) := by decide +kernel
theorem dX5_addThruster_158 : decode cX5_addThruster 158 = .ok (.iastore, 1) := by decide +kernel
theorem dX5_addThruster_159 : decode cX5_addThruster 159 = .ok (.aload_n 0, 1) := by decide +kernel
theorem dX5_addThruster_160 : decode cX5_addThruster 160 = .ok (.getfield 7, 3) := by decide +kernel
theorem dX5_addThruster_163 : decode cX5_addThruster 163 = .ok (.iload 7, 2) := by decide +kernel
theorem dX5_addThruster_165 : decode cX5_addThruster 165 = .ok (.bipush 6, 2) := by decide +kernel
theorem dX5_addThruster_167 : decode cX5_addThruster 167 = .ok (.iadd, 1) := by decide +kernel
theorem dX5_addThruster_168 : decode cX5_addThruster 168 = .ok (.iconst 0, 1) := by decide +kernel
theorem dX5_addThruster_169 : decode cX5_addThruster 169 = .ok (.iastore, 1) := by decide +kernel
theorem dX5_addThruster_170 : decode cX5_addThruster 170 = .ok (.aload_n 0, 1) := by decide +kernel
theorem dX5_addThruster_171 : decode cX5_addThruster 171 = .ok (.getfield 7, 3) := by decide +kernel
theorem dX5_addThruster_174 : decode cX5_addThruster 174 = .ok (.bipush 108, 2) := by decide +kernel
theorem dX5_addThruster_176 : decode cX5_addThruster 176 = .ok (.aload_n 0, 1) := by decide +kernel
theorem dX5_addThruster_177 : decode cX5_addThruster 177 = .ok (.getfield 7, 3) := by decide +kernel
theorem dX5_addThruster_180 : decode cX5_addThruster 180 = .ok (.iconst 0, 1) := by decide +kernel
theorem dX5_addThruster_181 : decode cX5_addThruster 181 = .ok (.iaload, 1) := by decide +kernel
theorem dX5_addThruster_182 : decode cX5_addThruster 182 = .ok (.iadd, 1) := by decide +kernel
theorem dX5_addThruster_183 : decode cX5_addThruster 183 = .ok (.iconst 0, 1) := by decide +kernel
theorem dX5_addThruster_184 : decode cX5_addThruster 184 = .ok (.iastore, 1) := by decide +kernel
theorem dX5_addThruster_185 : decode cX5_addThruster 185 = .ok (.aload_n 0, 1) := by decide +kernel
theorem dX5_addThruster_186 : decode cX5_addThruster 186 = .ok (.getfield 7, 3) := by decide +kernel
theorem dX5_addThruster_189 : decode cX5_addThruster 189 = .ok (.iconst 0, 1) := by decide +kernel
theorem dX5_addThruster_190 : decode cX5_addThruster 190 = .ok (.dup2, 1) := by decide +kernel
theorem dX5_addThruster_191 : decode cX5_addThruster 191 = .ok (.iaload, 1) := by decide +kernel
theorem dX5_addThruster_192 : decode cX5_addThruster 192 = .ok (.iconst 1, 1) := by decide +kernel
theorem dX5_addThruster_193 : decode cX5_addThruster 193 = .ok (.iadd, 1) := by decide +kernel
theorem dX5_addThruster_194 : decode cX5_addThruster 194 = .ok (.iastore, 1) := by decide +kernel
theorem dX5_addThruster_195 : decode cX5_addThruster 195 = .ok (.aload_n 0, 1) := by decide +kernel
theorem dX5_addThruster_196 : decode cX5_addThruster 196 = .ok (.getfield 7, 3) := by decide +kernel
theorem dX5_addThruster_199 : decode cX5_addThruster 199 = .ok (.iconst 0, 1) := by decide +kernel
theorem dX5_addThruster_200 : decode cX5_addThruster 200 = .ok (.iaload, 1) := by decide +kernel
theorem dX5_addThruster_201 : decode cX5_addThruster 201 = .ok (.iconst 1, 1) := by decide +kernel
theorem dX5_addThruster_202 : decode cX5_addThruster 202 = .ok (.isub, 1) := by decide +kernel
theorem dX5_addThruster_203 : decode cX5_addThruster 203 = .ok (.ireturn, 1) := by decide +kernel
theorem dX5_setState_0 : decode cX5_setState 0 = .ok (.aload_n 0, 1) := by decide +kernel
theorem dX5_setState_1 : decode cX5_setState 1 = .ok (.iload_n 1, 1) := by decide +kernel
theorem dX5_setState_2 : decode cX5_setState 2 = .ok (.invokevirtual 69, 3) := by decide +kernel
theorem dX5_setState_5 : decode cX5_setState 5 = .ok (.ifCond .ne 6, 3) := by decide +kernel
theorem dX5_setState_8 : decode cX5_setState 8 = .ok (.ldc 63, 2) := by decide +kernel
theorem dX5_setState_10 : decode cX5_setState 10 = .ok (.ireturn, 1) := by decide +kernel
theorem dX5_setState_11 : decode cX5_setState 11 = .ok (.iload_n 2, 1) := by decide +kernel
theorem dX5_setState_12 : decode cX5_setState 12 = .ok (.iconst 0, 1) := by decide +kernel
theorem dX5_setState_13 : decode cX5_setState 13 = .ok (.iconst 2, 1) := by decide +kernel
theorem dX5_setState_14 : decode cX5_setState 14 = .ok (.invokestatic 44, 3) := by decide +kernel
theorem dX5_setState_17 : decode cX5_setState 17 = .ok (.ifCond .ne 6, 3) := by decide +kernel
theorem dX5_setState_20 : decode cX5_setState 20 = .ok (.ldc 64, 2) := by decide +kernel
theorem dX5_setState_22 : decode cX5_setState 22 = .ok (.ireturn, 1) := by decide +kernel
theorem dX5_setState_23 : decode cX5_setState 23 = .ok (.aload_n 0, 1) := by decide +kernel
theorem dX5_setState_24 : decode cX5_setState 24 = .ok (.invokevirtual 66, 3) := by decide +kernel
theorem dX5_setState_27 : decode cX5_setState 27 = .ok (.aload_n 0, 1) := by decide +kernel
theorem dX5_setState_28 : decode cX5_setState 28 = .ok (.iload_n 1, 1) := by decide +kernel
theorem dX5_setState_29 : decode cX5_setState 29 = .ok (.bipush 6, 2) := by decide +kernel
theorem dX5_setState_31 : decode cX5_setState 31 = .ok (.invokevirtual 48, 3) := by decide +kernel
theorem dX5_setState_34 : decode cX5_setState 34 = .ok (.istore_n 3, 1) := by decide +kernel
theorem dX5_setState_35 : decode cX5_setState 35 = .ok (.aload_n 0, 1) := by decide +kernel
theorem dX5_setState_36 : decode cX5_setState 36 = .ok (.getfield 7, 3) := by decide +kernel
theorem dX5_setState_39 : decode cX5_setState 39 = .ok (.iconst 1, 1) := by decide +kernel
theorem dX5_setState_40 : decode cX5_setState 40 = .ok (.bipush 7, 2) := by decide +kernel
theorem dX5_setState_42 : decode cX5_setState 42 = .ok (.iload_n 1, 1) := by decide +kernel
theorem dX5_setState_43 : decode cX5_setState 43 = .ok (.imul, 1) := by decide +kernel
theorem dX5_setState_44 : decode cX5_setState 44 = .ok (.iadd, 1) := by decide +kernel
theorem dX5_setState_45 : decode cX5_setState 45 = .ok (.bipush 6, 2) := by decide +kernel
theorem dX5_setState_47 : decode cX5_setState 47 = .ok (.iadd, 1) := by decide +kernel
theorem dX5_setState_48 : decode cX5_setState 48 = .ok (.iload_n 2, 1) := by decide +kernel
theorem dX5_setState_49 : decode cX5_setState 49 = .ok (.iastore, 1) := by decide +kernel
theorem dX5_setState_50 : decode cX5_setState 50 = .ok (.iload_n 3, 1) := by decide +kernel
theorem dX5_setState_51 : decode cX5_setState 51 = .ok (.ireturn, 1) := by decide +kernel
theorem dX5_thrusters_0 : decode cX5_thrusters 0 = .ok (.aload_n 0, 1) := by decide +kernel
theorem dX5_thrusters_1 : decode cX5_thrusters 1 = .ok (.getfield 7, 3) := by decide +kernel
theorem dX5_thrusters_4 : decode cX5_thrusters 4 = .ok (.iconst 0, 1) := by decide +kernel
theorem dX5_thrusters_5 : decode cX5_thrusters 5 = .ok (.iaload, 1) := by decide +kernel
theorem dX5_thrusters_6 : decode cX5_thrusters 6 = .ok (.ireturn, 1) := by decide +kernel
theorem dX5_thruster_0 : decode cX5_thruster 0 = .ok (.aload_n 0, 1) := by decide +kernel
theorem dX5_thruster_1 : decode cX5_thruster 1 = .ok (.iload_n 1, 1) := by decide +kernel
theorem dX5_thruster_2 : decode cX5_thruster 2 = .ok (.invokevirtual 69, 3) := by decide +kernel
theorem dX5_thruster_5 : decode cX5_thruster 5 = .ok (.ifCond .ne 6, 3) := by decide +kernel
theorem dX5_thruster_8 : decode cX5_thruster 8 = .ok (.ldc 63, 2) := by decide +kernel
theorem dX5_thruster_10 : decode cX5_thruster 10 = .ok (.ireturn, 1) := by decide +kernel
theorem dX5_thruster_11 : decode cX5_thruster 11 = .ok (.iload_n 2, 1) := by decide +kernel
theorem dX5_thruster_12 : decode cX5_thruster 12 = .ok (.iconst 0, 1) := by decide +kernel
theorem dX5_thruster_13 : decode cX5_thruster 13 = .ok (.bipush 8, 2) := by decide +kernel
theorem dX5_thruster_15 : decode cX5_thruster 15 = .ok (.invokestatic 44, 3) := by decide +kernel
theorem dX5_thruster_18 : decode cX5_thruster 18 = .ok (.ifCond .ne 6, 3) := by decide +kernel
theorem dX5_thruster_21 : decode cX5_thruster 21 = .ok (.ldc 64, 2) := by decide +kernel
theorem dX5_thruster_23 : decode cX5_thruster 23 = .ok (.ireturn, 1) := by decide +kernel
theorem dX5_thruster_24 : decode cX5_thruster 24 = .ok (.iload_n 2, 1) := by decide +kernel
theorem dX5_thruster_25 : decode cX5_thruster 25 = .ok (.bipush 7, 2) := by decide +kernel
theorem dX5_thruster_27 : decode cX5_thruster 27 = .ok (.if_icmp .ne 11, 3) := by decide +kernel
theorem dX5_thruster_30 : decode cX5_thruster 30 = .ok (.aload_n 0, 1) := by decide +kernel
theorem dX5_thruster_31 : decode cX5_thruster 31 = .ok (.iload_n 1, 1) := by decide +kernel
theorem dX5_thruster_32 : decode cX5_thruster 32 = .ok (.invokevirtual 72, 3) := by decide +kernel
theorem dX5_thruster_35 : decode cX5_thruster 35 = .ok (.goto 8, 3) := by decide +kernel
theorem dX5_thruster_38 : decode cX5_thruster 38 = .ok (.aload_n 0, 1) := by decide +kernel
theorem dX5_thruster_39 : decode cX5_thruster 39 = .ok (.iload_n 1, 1) := by decide +kernel
theorem dX5_thruster_40 : decode cX5_thruster 40 = .ok (.invokevirtual 56, 3) := by decide +kernel
theorem dX5_thruster_43 : decode cX5_thruster 43 = .ok (.istore_n 3, 1) := by decide +kernel
theorem dX5_thruster_44 : decode cX5_thruster 44 = .ok (.iload_n 2, 1) := by decide +kernel
theorem dX5_thruster_45 : decode cX5_thruster 45 = .ok (.bipush 7, 2) := by decide +kernel
theorem dX5_thruster_47 : decode cX5_thruster 47 = .ok (.if_icmp .ge 12, 3) := by decide +kernel
theorem dX5_thruster_50 : decode cX5_thruster 50 = .ok (.aload_n 0, 1) := by decide +kernel
theorem dX5_thruster_51 : decode cX5_thruster 51 = .ok (.iload_n 1, 1) := by decide +kernel
theorem dX5_thruster_52 : decode cX5_thruster 52 = .ok (.iload_n 2, 1) := by decide +kernel
theorem dX5_thruster_53 : decode cX5_thruster 53 = .ok (.invokevirtual 48, 3) := by decide +kernel
theorem dX5_thruster_56 : decode cX5_thruster 56 = .ok (.goto 12, 3) := by decide +kernel
theorem dX5_thruster_59 : decode cX5_thruster 59 = .ok (.iload_n 3, 1) := by decide +kernel
theorem dX5_thruster_60 : decode cX5_thruster 60 = .ok (.ifCond .eq 7, 3) := by decide +kernel
theorem dX5_thruster_63 : decode cX5_thruster 63 = .ok (.iconst 1, 1) := by decide +kernel
theorem dX5_thruster_64 : decode cX5_thruster 64 = .ok (.goto 4, 3) := by decide +kernel
theorem dX5_thruster_67 : decode cX5_thruster 67 = .ok (.iconst 0, 1) := by decide +kernel
theorem dX5_thruster_68 : decode cX5_thruster 68 = .ok (.ireturn, 1) := by decide +kernel
theorem dX5_unit_0 : decode cX5_unit 0 = .ok (.aload_n 0, 1) := by decide +kernel
theorem dX5_unit_1 : decode cX5_unit 1 = .ok (.iload_n 1, 1) := by decide +kernel
theorem dX5_unit_2 : decode cX5_unit 2 = .ok (.invokevirtual 69, 3) := by decide +kernel
theorem dX5_unit_5 : decode cX5_unit 5 = .ok (.ifCond .eq 19, 3) := by decide +kernel
theorem dX5_unit_8 : decode cX5_unit 8 = .ok (.iload_n 2, 1) := by decide +kernel
theorem dX5_unit_9 : decode cX5_unit 9 = .ok (.invokestatic 75, 3) := by decide +kernel
theorem dX5_unit_12 : decode cX5_unit 12 = .ok (.ifCond .eq 12, 3) := by decide +kernel
theorem dX5_unit_15 : decode cX5_unit 15 = .ok (.aload_n 0, 1) := by decide +kernel
theorem dX5_unit_16 : decode cX5_unit 16 = .ok (.iload_n 1, 1) := by decide +kernel
theorem dX5_unit_17 : decode cX5_unit 17 = .ok (.iload_n 2, 1) := by decide +kernel
theorem dX5_unit_18 : decode cX5_unit 18 = .ok (.invokevirtual 78, 3) := by decide +kernel
theorem dX5_unit_21 : decode cX5_unit 21 = .ok (.goto 5, 3) := by decide +kernel
theorem dX5_unit_24 : decode cX5_unit 24 = .ok (.ldc 63, 2) := by decide +kernel
theorem dX5_unit_26 : decode cX5_unit 26 = .ok (.ireturn, 1) := by decide +kernel
theorem dX5_lays_0 : decode cX5_lays 0 = .ok (.iconst 0, 1) := by decide +kernel
theorem dX5_lays_1 : decode cX5_lays 1 = .ok (.istore_n 3, 1) := by decide +kernel
theorem dX5_lays_2 : decode cX5_lays 2 = .ok (.iload_n 3, 1) := by decide +kernel
theorem dX5_lays_3 : decode cX5_lays 3 = .ok (.iconst 3, 1) := by decide +kernel
theorem dX5_lays_4 : decode cX5_lays 4 = .ok (.if_icmp .ge 26, 3) := by decide +kernel
theorem dX5_lays_7 : decode cX5_lays 7 = .ok (.aload_n 0, 1) := by decide +kernel
theorem dX5_lays_8 : decode cX5_lays 8 = .ok (.getfield 17, 3) := by decide +kernel
theorem dX5_lays_11 : decode cX5_lays 11 = .ok (.iconst 3, 1) := by decide +kernel
theorem dX5_lays_12 : decode cX5_lays 12 = .ok (.iload_n 3, 1) := by decide +kernel
theorem dX5_lays_13 : decode cX5_lays 13 = .ok (.imul, 1) := by decide +kernel
theorem dX5_lays_14 : decode cX5_lays 14 = .ok (.iload_n 1, 1) := by decide +kernel
theorem dX5_lays_15 : decode cX5_lays 15 = .ok (.iadd, 1) := by decide +kernel
theorem dX5_lays_16 : decode cX5_lays 16 = .ok (.aload_n 0, 1) := by decide +kernel
theorem dX5_lays_17 : decode cX5_lays 17 = .ok (.iload_n 2, 1) := by decide +kernel
theorem dX5_lays_18 : decode cX5_lays 18 = .ok (.iload_n 3, 1) := by decide +kernel
theorem dX5_lays_19 : decode cX5_lays 19 = .ok (.invokevirtual 78, 3) := by decide +kernel
theorem dX5_lays_22 : decode cX5_lays 22 = .ok (.i2l, 1) := by decide +kernel
theorem dX5_lays_23 : decode cX5_lays 23 = .ok (.lastore, 1) := by decide +kernel
theorem dX5_lays_24 : decode cX5_lays 24 = .ok (.iinc 3 1, 3) := by decide +kernel
theorem dX5_lays_27 : decode cX5_lays 27 = .ok (.goto (-25), 3) := by decide +kernel
theorem dX5_lays_30 : decode cX5_lays 30 = .ok (.return_, 1) := by decide +kernel
theorem dX5_determined_0 : decode cX5_determined 0 = .ok (.lconst 0, 1) := by decide +kernel
theorem dX5_determined_1 : decode cX5_determined 1 = .ok (.lstore_n 1, 1) := by decide +kernel
theorem dX5_determined_2 : decode cX5_determined 2 = .ok (.iconst 0, 1) := by decide +kernel
theorem dX5_determined_3 : decode cX5_determined 3 = .ok (.istore_n 3, 1) := by decide +kernel
theorem dX5_determined_4 : decode cX5_determined 4 = .ok (.iload_n 3, 1) := by decide +kernel
theorem dX5_determined_5 : decode cX5_determined 5 = .ok (.iconst 3, 1) := by decide +kernel
theorem dX5_determined_6 : decode cX5_determined 6 = .ok (.if_icmp .ge 72, 3) := by decide +kernel
theorem dX5_determined_9 : decode cX5_determined 9 = .ok (.lload_n 1, 1) := by decide +kernel
theorem dX5_determined_10 : decode cX5_determined 10 = .ok (.aload_n 0, 1) := by decide +kernel
theorem dX5_determined_11 : decode cX5_determined 11 = .ok (.getfield 17, 3) := by decide +kernel
theorem dX5_determined_14 : decode cX5_determined 14 = .ok (.iload_n 3, 1) := by decide +kernel
theorem dX5_determined_15 : decode cX5_determined 15 = .ok (.laload, 1) := by decide +kernel
theorem dX5_determined_16 : decode cX5_determined 16 = .ok (.aload_n 0, 1) := by decide +kernel
theorem dX5_determined_17 : decode cX5_determined 17 = .ok (.getfield 17, 3) := by decide +kernel
theorem dX5_determined_20 : decode cX5_determined 20 = .ok (.iconst 3, 1) := by decide +kernel
theorem dX5_determined_21 : decode cX5_determined 21 = .ok (.iload_n 3, 1) := by decide +kernel
theorem dX5_determined_22 : decode cX5_determined 22 = .ok (.iconst 1, 1) := by decide +kernel
theorem dX5_determined_23 : decode cX5_determined 23 = .ok (.iadd, 1) := by decide +kernel
theorem dX5_determined_24 : decode cX5_determined 24 = .ok (.iconst 3, 1) := by decide +kernel
theorem dX5_determined_25 : decode cX5_determined 25 = .ok (.irem, 1) := by decide +kernel
theorem dX5_determined_26 : decode cX5_determined 26 = .ok (.iadd, 1) := by decide +kernel
theorem dX5_determined_27 : decode cX5_determined 27 = .ok (.laload, 1) := by decide +kernel
theorem dX5_determined_28 : decode cX5_determined 28 = .ok (.aload_n 0, 1) := by decide +kernel
theorem dX5_determined_29 : decode cX5_determined 29 = .ok (.getfield 17, 3) := by decide +kernel
theorem dX5_determined_32 : decode cX5_determined 32 = .ok (.bipush 6, 2) := by decide +kernel
theorem dX5_determined_34 : decode cX5_determined 34 = .ok (.iload_n 3, 1) := by decide +kernel
theorem dX5_determined_35 : decode cX5_determined 35 = .ok (.iconst 2, 1) := by decide +kernel
theorem dX5_determined_36 : decode cX5_determined 36 = .ok (.iadd, 1) := by decide +kernel
theorem dX5_determined_37 : decode cX5_determined 37 = .ok (.iconst 3, 1) := by decide +kernel
theorem dX5_determined_38 : decode cX5_determined 38 = .ok (.irem, 1) := by decide +kernel
theorem dX5_determined_39 : decode cX5_determined 39 = .ok (.iadd, 1) := by decide +kernel
theorem dX5_determined_40 : decode cX5_determined 40 = .ok (.laload, 1) := by decide +kernel
theorem dX5_determined_41 : decode cX5_determined 41 = .ok (.lmul, 1) := by decide +kernel
theorem dX5_determined_42 : decode cX5_determined 42 = .ok (.aload_n 0, 1) := by decide +kernel
theorem dX5_determined_43 : decode cX5_determined 43 = .ok (.getfield 17, 3) := by decide +kernel
theorem dX5_determined_46 : decode cX5_determined 46 = .ok (.iconst 3, 1) := by decide +kernel
theorem dX5_determined_47 : decode cX5_determined 47 = .ok (.iload_n 3, 1) := by decide +kernel
theorem dX5_determined_48 : decode cX5_determined 48 = .ok (.iconst 2, 1) := by decide +kernel
theorem dX5_determined_49 : decode cX5_determined 49 = .ok (.iadd, 1) := by decide +kernel
theorem dX5_determined_50 : decode cX5_determined 50 = .ok (.iconst 3, 1) := by decide +kernel
theorem dX5_determined_51 : decode cX5_determined 51 = .ok (.irem, 1) := by decide +kernel
theorem dX5_determined_52 : decode cX5_determined 52 = .ok (.iadd, 1) := by decide +kernel
theorem dX5_determined_53 : decode cX5_determined 53 = .ok (.laload, 1) := by decide +kernel
theorem dX5_determined_54 : decode cX5_determined 54 = .ok (.aload_n 0, 1) := by decide +kernel
theorem dX5_determined_55 : decode cX5_determined 55 = .ok (.getfield 17, 3) := by decide +kernel
theorem dX5_determined_58 : decode cX5_determined 58 = .ok (.bipush 6, 2) := by decide +kernel
theorem dX5_determined_60 : decode cX5_determined 60 = .ok (.iload_n 3, 1) := by decide +kernel
theorem dX5_determined_61 : decode cX5_determined 61 = .ok (.iconst 1, 1) := by decide +kernel
theorem dX5_determined_62 : decode cX5_determined 62 = .ok (.iadd, 1) := by decide +kernel
theorem dX5_determined_63 : decode cX5_determined 63 = .ok (.iconst 3, 1) := by decide +kernel
theorem dX5_determined_64 : decode cX5_determined 64 = .ok (.irem, 1) := by decide +kernel
theorem dX5_determined_65 : decode cX5_determined 65 = .ok (.iadd, 1) := by decide +kernel
theorem dX5_determined_66 : decode cX5_determined 66 = .ok (.laload, 1) := by decide +kernel
theorem dX5_determined_67 : decode cX5_determined 67 = .ok (.lmul, 1) := by decide +kernel
theorem dX5_determined_68 : decode cX5_determined 68 = .ok (.lsub, 1) := by decide +kernel
theorem dX5_determined_69 : decode cX5_determined 69 = .ok (.lmul, 1) := by decide +kernel
theorem dX5_determined_70 : decode cX5_determined 70 = .ok (.ladd, 1) := by decide +kernel
theorem dX5_determined_71 : decode cX5_determined 71 = .ok (.lstore_n 1, 1) := by decide +kernel
theorem dX5_determined_72 : decode cX5_determined 72 = .ok (.iinc 3 1, 3) := by decide +kernel
theorem dX5_determined_75 : decode cX5_determined 75 = .ok (.goto (-71), 3) := by decide +kernel
theorem dX5_determined_78 : decode cX5_determined 78 = .ok (.lload_n 1, 1) := by decide +kernel
theorem dX5_determined_79 : decode cX5_determined 79 = .ok (.lreturn, 1) := by decide +kernel
theorem dX5_determinant_0 : decode cX5_determinant 0 = .ok (.aload_n 0, 1) := by decide +kernel
theorem dX5_determinant_1 : decode cX5_determinant 1 = .ok (.iload_n 1, 1) := by decide +kernel
theorem dX5_determinant_2 : decode cX5_determinant 2 = .ok (.invokevirtual 69, 3) := by decide +kernel
theorem dX5_determinant_5 : decode cX5_determinant 5 = .ok (.ifCond .eq 19, 3) := by decide +kernel
theorem dX5_determinant_8 : decode cX5_determinant 8 = .ok (.aload_n 0, 1) := by decide +kernel
theorem dX5_determinant_9 : decode cX5_determinant 9 = .ok (.iload_n 2, 1) := by decide +kernel
theorem dX5_determinant_10 : decode cX5_determinant 10 = .ok (.invokevirtual 69, 3) := by decide +kernel
theorem dX5_determinant_13 : decode cX5_determinant 13 = .ok (.ifCond .eq 11, 3) := by decide +kernel
theorem dX5_determinant_16 : decode cX5_determinant 16 = .ok (.aload_n 0, 1) := by decide +kernel
theorem dX5_determinant_17 : decode cX5_determinant 17 = .ok (.iload_n 3, 1) := by decide +kernel
theorem dX5_determinant_18 : decode cX5_determinant 18 = .ok (.invokevirtual 69, 3) := by decide +kernel
theorem dX5_determinant_21 : decode cX5_determinant 21 = .ok (.ifCond .ne 6, 3) := by decide +kernel
theorem dX5_determinant_24 : decode cX5_determinant 24 = .ok (.ldc 63, 2) := by decide +kernel
theorem dX5_determinant_26 : decode cX5_determinant 26 = .ok (.ireturn, 1) := by decide +kernel
theorem dX5_determinant_27 : decode cX5_determinant 27 = .ok (.aload_n 0, 1) := by decide +kernel
theorem dX5_determinant_28 : decode cX5_determinant 28 = .ok (.iconst 0, 1) := by decide +kernel
theorem dX5_determinant_29 : decode cX5_determinant 29 = .ok (.iload_n 1, 1) := by decide +kernel
theorem dX5_determinant_30 : decode cX5_determinant 30 = .ok (.invokevirtual 81, 3) := by decide +kernel
theorem dX5_determinant_33 : decode cX5_determinant 33 = .ok (.aload_n 0, 1) := by decide +kernel
theorem dX5_determinant_34 : decode cX5_determinant 34 = .ok (.iconst 1, 1) := by decide +kernel
theorem dX5_determinant_35 : decode cX5_determinant 35 = .ok (.iload_n 2, 1) := by decide +kernel
theorem dX5_determinant_36 : decode cX5_determinant 36 = .ok (.invokevirtual 81, 3) := by decide +kernel
theorem dX5_determinant_39 : decode cX5_determinant 39 = .ok (.aload_n 0, 1) := by decide +kernel
theorem dX5_determinant_40 : decode cX5_determinant 40 = .ok (.iconst 2, 1) := by decide +kernel
theorem dX5_determinant_41 : decode cX5_determinant 41 = .ok (.iload_n 3, 1) := by decide +kernel
theorem dX5_determinant_42 : decode cX5_determinant 42 = .ok (.invokevirtual 81, 3) := by decide +kernel
theorem dX5_determinant_45 : decode cX5_determinant 45 = .ok (.aload_n 0, 1) := by decide +kernel
theorem dX5_determinant_46 : decode cX5_determinant 46 = .ok (.invokevirtual 84, 3) := by decide +kernel
theorem dX5_determinant_49 : decode cX5_determinant 49 = .ok (.l2i, 1) := by decide +kernel
theorem dX5_determinant_50 : decode cX5_determinant 50 = .ok (.ireturn, 1) := by decide +kernel
theorem dX5_refuel_0 : decode cX5_refuel 0 = .ok (.iload_n 1, 1) := by decide +kernel
theorem dX5_refuel_1 : decode cX5_refuel 1 = .ok (.invokestatic 60, 3) := by decide +kernel
theorem dX5_refuel_4 : decode cX5_refuel 4 = .ok (.ifCond .ne 6, 3) := by decide +kernel
theorem dX5_refuel_7 : decode cX5_refuel 7 = .ok (.ldc 63, 2) := by decide +kernel
theorem dX5_refuel_9 : decode cX5_refuel 9 = .ok (.ireturn, 1) := by decide +kernel
theorem dX5_refuel_10 : decode cX5_refuel 10 = .ok (.iload_n 2, 1) := by decide +kernel
theorem dX5_refuel_11 : decode cX5_refuel 11 = .ok (.iconst 0, 1) := by decide +kernel
theorem dX5_refuel_12 : decode cX5_refuel 12 = .ok (.ldc 35, 2) := by decide +kernel
theorem dX5_refuel_14 : decode cX5_refuel 14 = .ok (.invokestatic 44, 3) := by decide +kernel
theorem dX5_refuel_17 : decode cX5_refuel 17 = .ok (.ifCond .ne 6, 3) := by decide +kernel
theorem dX5_refuel_20 : decode cX5_refuel 20 = .ok (.ldc 64, 2) := by decide +kernel
theorem dX5_refuel_22 : decode cX5_refuel 22 = .ok (.ireturn, 1) := by decide +kernel
theorem dX5_refuel_23 : decode cX5_refuel 23 = .ok (.aload_n 0, 1) := by decide +kernel
theorem dX5_refuel_24 : decode cX5_refuel 24 = .ok (.invokevirtual 66, 3) := by decide +kernel
theorem dX5_refuel_27 : decode cX5_refuel 27 = .ok (.aload_n 0, 1) := by decide +kernel
theorem dX5_refuel_28 : decode cX5_refuel 28 = .ok (.getfield 7, 3) := by decide +kernel
theorem dX5_refuel_31 : decode cX5_refuel 31 = .ok (.bipush 57, 2) := by decide +kernel
theorem dX5_refuel_33 : decode cX5_refuel 33 = .ok (.iload_n 1, 1) := by decide +kernel
theorem dX5_refuel_34 : decode cX5_refuel 34 = .ok (.iadd, 1) := by decide +kernel
theorem dX5_refuel_35 : decode cX5_refuel 35 = .ok (.iaload, 1) := by decide +kernel
theorem dX5_refuel_36 : decode cX5_refuel 36 = .ok (.istore_n 3, 1) := by decide +kernel
theorem dX5_refuel_37 : decode cX5_refuel 37 = .ok (.aload_n 0, 1) := by decide +kernel
theorem dX5_refuel_38 : decode cX5_refuel 38 = .ok (.getfield 7, 3) := by decide +kernel
theorem dX5_refuel_41 : decode cX5_refuel 41 = .ok (.bipush 57, 2) := by decide +kernel
theorem dX5_refuel_43 : decode cX5_refuel 43 = .ok (.iload_n 1, 1) := by decide +kernel
theorem dX5_refuel_44 : decode cX5_refuel 44 = .ok (.iadd, 1) := by decide +kernel
theorem dX5_refuel_45 : decode cX5_refuel 45 = .ok (.iload_n 2, 1) := by decide +kernel
theorem dX5_refuel_46 : decode cX5_refuel 46 = .ok (.iastore, 1) := by decide +kernel
theorem dX5_refuel_47 : decode cX5_refuel 47 = .ok (.iload_n 3, 1) := by decide +kernel
theorem dX5_refuel_48 : decode cX5_refuel 48 = .ok (.ireturn, 1) := by decide +kernel
theorem dX5_fuel_0 : decode cX5_fuel 0 = .ok (.iload_n 1, 1) := by decide +kernel
theorem dX5_fuel_1 : decode cX5_fuel 1 = .ok (.invokestatic 60, 3) := by decide +kernel
theorem dX5_fuel_4 : decode cX5_fuel 4 = .ok (.ifCond .eq 15, 3) := by decide +kernel
theorem dX5_fuel_7 : decode cX5_fuel 7 = .ok (.aload_n 0, 1) := by decide +kernel
theorem dX5_fuel_8 : decode cX5_fuel 8 = .ok (.getfield 7, 3) := by decide +kernel
theorem dX5_fuel_11 : decode cX5_fuel 11 = .ok (.bipush 57, 2) := by decide +kernel
theorem dX5_fuel_13 : decode cX5_fuel 13 = .ok (.iload_n 1, 1) := by decide +kernel
theorem dX5_fuel_14 : decode cX5_fuel 14 = .ok (.iadd, 1) := by decide +kernel
theorem dX5_fuel_15 : decode cX5_fuel 15 = .ok (.iaload, 1) := by decide +kernel
theorem dX5_fuel_16 : decode cX5_fuel 16 = .ok (.goto 5, 3) := by decide +kernel
theorem dX5_fuel_19 : decode cX5_fuel 19 = .ok (.ldc 63, 2) := by decide +kernel
theorem dX5_fuel_21 : decode cX5_fuel 21 = .ok (.ireturn, 1) := by decide +kernel
theorem dX5_bits_0 : decode cX5_bits 0 = .ok (.iconst 0, 1) := by decide +kernel
theorem dX5_bits_1 : decode cX5_bits 1 = .ok (.istore_n 1, 1) := by decide +kernel
theorem dX5_bits_2 : decode cX5_bits 2 = .ok (.iconst 0, 1) := by decide +kernel
theorem dX5_bits_3 : decode cX5_bits 3 = .ok (.istore_n 2, 1) := by decide +kernel
theorem dX5_bits_4 : decode cX5_bits 4 = .ok (.iload_n 2, 1) := by decide +kernel
theorem dX5_bits_5 : decode cX5_bits 5 = .ok (.bipush 8, 2) := by decide +kernel
theorem dX5_bits_7 : decode cX5_bits 7 = .ok (.if_icmp .ge 17, 3) := by decide +kernel
theorem dX5_bits_10 : decode cX5_bits 10 = .ok (.iload_n 1, 1) := by decide +kernel
theorem dX5_bits_11 : decode cX5_bits 11 = .ok (.iload_n 0, 1) := by decide +kernel
theorem dX5_bits_12 : decode cX5_bits 12 = .ok (.iload_n 2, 1) := by decide +kernel
theorem dX5_bits_13 : decode cX5_bits 13 = .ok (.ishr, 1) := by decide +kernel
theorem dX5_bits_14 : decode cX5_bits 14 = .ok (.iconst 1, 1) := by decide +kernel
theorem dX5_bits_15 : decode cX5_bits 15 = .ok (.iand, 1) := by decide +kernel
theorem dX5_bits_16 : decode cX5_bits 16 = .ok (.iadd, 1) := by decide +kernel
theorem dX5_bits_17 : decode cX5_bits 17 = .ok (.istore_n 1, 1) := by decide +kernel
theorem dX5_bits_18 : decode cX5_bits 18 = .ok (.iinc 2 1, 3) := by decide +kernel
theorem dX5_bits_21 : decode cX5_bits 21 = .ok (.goto (-17), 3) := by decide +kernel
theorem dX5_bits_24 : decode cX5_bits 24 = .ok (.iload_n 1, 1) := by decide +kernel
theorem dX5_bits_25 : decode cX5_bits 25 = .ok (.ireturn, 1) := by decide +kernel
theorem dX5_find_0 : decode cX5_find 0 = .ok (.iconst (-1), 1) := by decide +kernel
theorem dX5_find_1 : decode cX5_find 1 = .ok (.istore_n 2, 1) := by decide +kernel
theorem dX5_find_2 : decode cX5_find 2 = .ok (.iconst 0, 1) := by decide +kernel
theorem dX5_find_3 : decode cX5_find 3 = .ok (.istore_n 3, 1) := by decide +kernel
theorem dX5_find_4 : decode cX5_find 4 = .ok (.iload_n 3, 1) := by decide +kernel
theorem dX5_find_5 : decode cX5_find 5 = .ok (.aload_n 0, 1) := by decide +kernel
theorem dX5_find_6 : decode cX5_find 6 = .ok (.getfield 7, 3) := by decide +kernel
theorem dX5_find_9 : decode cX5_find 9 = .ok (.bipush 59, 2) := by decide +kernel
theorem dX5_find_11 : decode cX5_find 11 = .ok (.iaload, 1) := by decide +kernel
theorem dX5_find_12 : decode cX5_find 12 = .ok (.if_icmp .ge 28, 3) := by decide +kernel
theorem dX5_find_15 : decode cX5_find 15 = .ok (.aload_n 0, 1) := by decide +kernel
theorem dX5_find_16 : decode cX5_find 16 = .ok (.getfield 7, 3) := by decide +kernel
theorem dX5_find_19 : decode cX5_find 19 = .ok (.bipush 60, 2) := by decide +kernel
theorem dX5_find_21 : decode cX5_find 21 = .ok (.iload_n 3, 1) := by decide +kernel
theorem dX5_find_22 : decode cX5_find 22 = .ok (.iadd, 1) := by decide +kernel
theorem dX5_find_23 : decode cX5_find 23 = .ok (.iaload, 1) := by decide +kernel
theorem dX5_find_24 : decode cX5_find 24 = .ok (.iload_n 1, 1) := by decide +kernel
theorem dX5_find_25 : decode cX5_find 25 = .ok (.if_icmp .ne 7, 3) := by decide +kernel
theorem dX5_find_28 : decode cX5_find 28 = .ok (.iload_n 3, 1) := by decide +kernel
theorem dX5_find_29 : decode cX5_find 29 = .ok (.goto 4, 3) := by decide +kernel
theorem dX5_find_32 : decode cX5_find 32 = .ok (.iload_n 2, 1) := by decide +kernel
theorem dX5_find_33 : decode cX5_find 33 = .ok (.istore_n 2, 1) := by decide +kernel
theorem dX5_find_34 : decode cX5_find 34 = .ok (.iinc 3 1, 3) := by decide +kernel
theorem dX5_find_37 : decode cX5_find 37 = .ok (.goto (-33), 3) := by decide +kernel
theorem dX5_find_40 : decode cX5_find 40 = .ok (.iload_n 2, 1) := by decide +kernel
theorem dX5_find_41 : decode cX5_find 41 = .ok (.ireturn, 1) := by decide +kernel
theorem dX5_forbid_0 : decode cX5_forbid 0 = .ok (.iload_n 1, 1) := by decide +kernel
theorem dX5_forbid_1 : decode cX5_forbid 1 = .ok (.iconst 0, 1) := by decide +kernel
theorem dX5_forbid_2 : decode cX5_forbid 2 = .ok (.iconst 1, 1) := by decide +kernel
theorem dX5_forbid_3 : decode cX5_forbid 3 = .ok (.aload_n 0, 1) := by decide +kernel
theorem dX5_forbid_4 : decode cX5_forbid 4 = .ok (.getfield 7, 3) := by decide +kernel
theorem dX5_forbid_7 : decode cX5_forbid 7 = .ok (.iconst 0, 1) := by decide +kernel
theorem dX5_forbid_8 : decode cX5_forbid 8 = .ok (.iaload, 1) := by decide +kernel
theorem dX5_forbid_9 : decode cX5_forbid 9 = .ok (.ishl, 1) := by decide +kernel
theorem dX5_forbid_10 : decode cX5_forbid 10 = .ok (.iconst 1, 1) := by decide +kernel
theorem dX5_forbid_11 : decode cX5_forbid 11 = .ok (.isub, 1) := by decide +kernel
theorem dX5_forbid_12 : decode cX5_forbid 12 = .ok (.invokestatic 44, 3) := by decide +kernel
theorem dX5_forbid_15 : decode cX5_forbid 15 = .ok (.ifCond .eq 11, 3) := by decide +kernel
theorem dX5_forbid_18 : decode cX5_forbid 18 = .ok (.iload_n 1, 1) := by decide +kernel
theorem dX5_forbid_19 : decode cX5_forbid 19 = .ok (.invokestatic 88, 3) := by decide +kernel
theorem dX5_forbid_22 : decode cX5_forbid 22 = .ok (.iconst 2, 1) := by decide +kernel
theorem dX5_forbid_23 : decode cX5_forbid 23 = .ok (.if_icmp .ge 6, 3) := by decide +kernel
theorem dX5_forbid_26 : decode cX5_forbid 26 = .ok (.ldc 64, 2) := by decide +kernel
theorem dX5_forbid_28 : decode cX5_forbid 28 = .ok (.ireturn, 1) := by decide +kernel
theorem dX5_forbid_29 : decode cX5_forbid 29 = .ok (.aload_n 0, 1) := by decide +kernel
theorem dX5_forbid_30 : decode cX5_forbid 30 = .ok (.iload_n 1, 1) := by decide +kernel
theorem dX5_forbid_31 : decode cX5_forbid 31 = .ok (.invokevirtual 91, 3) := by decide +kernel
theorem dX5_forbid_34 : decode cX5_forbid 34 = .ok (.ifCond .lt 6, 3) := by decide +kernel
theorem dX5_forbid_37 : decode cX5_forbid 37 = .ok (.ldc 94, 2) := by decide +kernel
theorem dX5_forbid_39 : decode cX5_forbid 39 = .ok (.ireturn, 1) := by decide +kernel
theorem dX5_forbid_40 : decode cX5_forbid 40 = .ok (.aload_n 0, 1) := by decide +kernel
theorem dX5_forbid_41 : decode cX5_forbid 41 = .ok (.getfield 7, 3) := by decide +kernel
theorem dX5_forbid_44 : decode cX5_forbid 44 = .ok (.bipush 59, 2) := by decide +kernel
theorem dX5_forbid_46 : decode cX5_forbid 46 = .ok (.iaload, 1) := by decide +kernel
theorem dX5_forbid_47 : decode cX5_forbid 47 = .ok (.bipush 8, 2) := by decide +kernel
theorem dX5_forbid_49 : decode cX5_forbid 49 = .ok (.if_icmp .ne 6, 3) := by decide +kernel
theorem dX5_forbid_52 : decode cX5_forbid 52 = .ok (.ldc 65, 2) := by decide +kernel
theorem dX5_forbid_54 : decode cX5_forbid 54 = .ok (.ireturn, 1) := by decide +kernel
theorem dX5_forbid_55 : decode cX5_forbid 55 = .ok (.aload_n 0, 1) := by decide +kernel
theorem dX5_forbid_56 : decode cX5_forbid 56 = .ok (.invokevirtual 66, 3) := by decide +kernel
theorem dX5_forbid_59 : decode cX5_forbid 59 = .ok (.aload_n 0, 1) := by decide +kernel
theorem dX5_forbid_60 : decode cX5_forbid 60 = .ok (.getfield 7, 3) := by decide +kernel
theorem dX5_forbid_63 : decode cX5_forbid 63 = .ok (.bipush 60, 2) := by decide +kernel
theorem dX5_forbid_65 : decode cX5_forbid 65 = .ok (.aload_n 0, 1) := by decide +kernel
theorem dX5_forbid_66 : decode cX5_forbid 66 = .ok (.getfield 7, 3) := by decide +kernel
theorem dX5_forbid_69 : decode cX5_forbid 69 = .ok (.bipush 59, 2) := by decide +kernel
theorem dX5_forbid_71 : decode cX5_forbid 71 = .ok (.iaload, 1) := by decide +kernel
theorem dX5_forbid_72 : decode cX5_forbid 72 = .ok (.iadd, 1) := by decide +kernel
theorem dX5_forbid_73 : decode cX5_forbid 73 = .ok (.iload_n 1, 1) := by decide +kernel
theorem dX5_forbid_74 : decode cX5_forbid 74 = .ok (.iastore, 1) := by decide +kernel
theorem dX5_forbid_75 : decode cX5_forbid 75 = .ok (.aload_n 0, 1) := by decide +kernel
theorem dX5_forbid_76 : decode cX5_forbid 76 = .ok (.getfield 7, 3) := by decide +kernel
theorem dX5_forbid_79 : decode cX5_forbid 79 = .ok (.bipush 59, 2) := by decide +kernel
theorem dX5_forbid_81 : decode cX5_forbid 81 = .ok (.dup2, 1) := by decide +kernel
theorem dX5_forbid_82 : decode cX5_forbid 82 = .ok (.iaload, 1) := by decide +kernel
theorem dX5_forbid_83 : decode cX5_forbid 83 = .ok (.iconst 1, 1) := by decide +kernel
theorem dX5_forbid_84 : decode cX5_forbid 84 = .ok (.iadd, 1) := by decide +kernel
theorem dX5_forbid_85 : decode cX5_forbid 85 = .ok (.iastore, 1) := by decide +kernel
theorem dX5_forbid_86 : decode cX5_forbid 86 = .ok (.aload_n 0, 1) := by decide +kernel
theorem dX5_forbid_87 : decode cX5_forbid 87 = .ok (.getfield 7, 3) := by decide +kernel
theorem dX5_forbid_90 : decode cX5_forbid 90 = .ok (.bipush 59, 2) := by decide +kernel
theorem dX5_forbid_92 : decode cX5_forbid 92 = .ok (.iaload, 1) := by decide +kernel
theorem dX5_forbid_93 : decode cX5_forbid 93 = .ok (.ireturn, 1) := by decide +kernel
theorem dX5_allow_0 : decode cX5_allow 0 = .ok (.aload_n 0, 1) := by decide +kernel
theorem dX5_allow_1 : decode cX5_allow 1 = .ok (.iload_n 1, 1) := by decide +kernel
theorem dX5_allow_2 : decode cX5_allow 2 = .ok (.invokevirtual 91, 3) := by decide +kernel
theorem dX5_allow_5 : decode cX5_allow 5 = .ok (.istore_n 2, 1) := by decide +kernel
theorem dX5_allow_6 : decode cX5_allow 6 = .ok (.iload_n 2, 1) := by decide +kernel
theorem dX5_allow_7 : decode cX5_allow 7 = .ok (.ifCond .ge 6, 3) := by decide +kernel
theorem dX5_allow_10 : decode cX5_allow 10 = .ok (.ldc 94, 2) := by decide +kernel
theorem dX5_allow_12 : decode cX5_allow 12 = .ok (.ireturn, 1) := by decide +kernel
theorem dX5_allow_13 : decode cX5_allow 13 = .ok (.aload_n 0, 1) := by decide +kernel
theorem dX5_allow_14 : decode cX5_allow 14 = .ok (.invokevirtual 66, 3) := by decide +kernel
theorem dX5_allow_17 : decode cX5_allow 17 = .ok (.aload_n 0, 1) := by decide +kernel
theorem dX5_allow_18 : decode cX5_allow 18 = .ok (.getfield 7, 3) := by decide +kernel
theorem dX5_allow_21 : decode cX5_allow 21 = .ok (.bipush 59, 2) := by decide +kernel
theorem dX5_allow_23 : decode cX5_allow 23 = .ok (.dup2, 1) := by decide +kernel
theorem dX5_allow_24 : decode cX5_allow 24 = .ok (.iaload, 1) := by decide +kernel
theorem dX5_allow_25 : decode cX5_allow 25 = .ok (.iconst 1, 1) := by decide +kernel
theorem dX5_allow_26 : decode cX5_allow 26 = .ok (.isub, 1) := by decide +kernel
theorem dX5_allow_27 : decode cX5_allow 27 = .ok (.iastore, 1) := by decide +kernel
theorem dX5_allow_28 : decode cX5_allow 28 = .ok (.iload_n 2, 1) := by decide +kernel
theorem dX5_allow_29 : decode cX5_allow 29 = .ok (.istore_n 3, 1) := by decide +kernel
theorem dX5_allow_30 : decode cX5_allow 30 = .ok (.iload_n 3, 1) := by decide +kernel
theorem dX5_allow_31 : decode cX5_allow 31 = .ok (.aload_n 0, 1) := by decide +kernel
theorem dX5_allow_32 : decode cX5_allow 32 = .ok (.getfield 7, 3) := by decide +kernel
theorem dX5_allow_35 : decode cX5_allow 35 = .ok (.bipush 59, 2) := by decide +kernel
theorem dX5_allow_37 : decode cX5_allow 37 = .ok (.iaload, 1) := by decide +kernel
theorem dX5_allow_38 : decode cX5_allow 38 = .ok (.if_icmp .ge 29, 3) := by decide +kernel
theorem dX5_allow_41 : decode cX5_allow 41 = .ok (.aload_n 0, 1) := by decide +kernel
theorem dX5_allow_42 : decode cX5_allow 42 = .ok (.getfield 7, 3) := by decide +kernel
theorem dX5_allow_45 : decode cX5_allow 45 = .ok (.bipush 60, 2) := by decide +kernel
theorem dX5_allow_47 : decode cX5_allow 47 = .ok (.iload_n 3, 1) := by decide +kernel
theorem dX5_allow_48 : decode cX5_allow 48 = .ok (.iadd, 1) := by decide +kernel
theorem dX5_allow_49 : decode cX5_allow 49 = .ok (.aload_n 0, 1) := by decide +kernel
theorem dX5_allow_50 : decode cX5_allow 50 = .ok (.getfield 7, 3) := by decide +kernel
theorem dX5_allow_53 : decode cX5_allow 53 = .ok (.bipush 60, 2) := by decide +kernel
theorem dX5_allow_55 : decode cX5_allow 55 = .ok (.iload_n 3, 1) := by decide +kernel
theorem dX5_allow_56 : decode cX5_allow 56 = .ok (.iadd, 1) := by decide +kernel
theorem dX5_allow_57 : decode cX5_allow 57 = .ok (.iconst 1, 1) := by decide +kernel
theorem dX5_allow_58 : decode cX5_allow 58 = .ok (.iadd, 1) := by decide +kernel
theorem dX5_allow_59 : decode cX5_allow 59 = .ok (.iaload, 1) := by decide +kernel
theorem dX5_allow_60 : decode cX5_allow 60 = .ok (.iastore, 1) := by decide +kernel
theorem dX5_allow_61 : decode cX5_allow 61 = .ok (.iinc 3 1, 3) := by decide +kernel
theorem dX5_allow_64 : decode cX5_allow 64 = .ok (.goto (-34), 3) := by decide +kernel
theorem dX5_allow_67 : decode cX5_allow 67 = .ok (.aload_n 0, 1) := by decide +kernel
theorem dX5_allow_68 : decode cX5_allow 68 = .ok (.getfield 7, 3) := by decide +kernel
theorem dX5_allow_71 : decode cX5_allow 71 = .ok (.bipush 59, 2) := by decide +kernel
theorem dX5_allow_73 : decode cX5_allow 73 = .ok (.iaload, 1) := by decide +kernel
theorem dX5_allow_74 : decode cX5_allow 74 = .ok (.ireturn, 1) := by decide +kernel
theorem dX5_isBad_0 : decode cX5_isBad 0 = .ok (.iconst 0, 1) := by decide +kernel
theorem dX5_isBad_1 : decode cX5_isBad 1 = .ok (.istore_n 2, 1) := by decide +kernel
theorem dX5_isBad_2 : decode cX5_isBad 2 = .ok (.iload_n 1, 1) := by decide +kernel
theorem dX5_isBad_3 : decode cX5_isBad 3 = .ok (.aload_n 0, 1) := by decide +kernel
theorem dX5_isBad_4 : decode cX5_isBad 4 = .ok (.invokevirtual 95, 3) := by decide +kernel
theorem dX5_isBad_7 : decode cX5_isBad 7 = .ok (.ior, 1) := by decide +kernel
theorem dX5_isBad_8 : decode cX5_isBad 8 = .ok (.istore_n 3, 1) := by decide +kernel
theorem dX5_isBad_9 : decode cX5_isBad 9 = .ok (.iconst 0, 1) := by decide +kernel
theorem dX5_isBad_10 : decode cX5_isBad 10 = .ok (.istore 4, 2) := by decide +kernel
theorem dX5_isBad_12 : decode cX5_isBad 12 = .ok (.iload 4, 2) := by decide +kernel
theorem dX5_isBad_14 : decode cX5_isBad 14 = .ok (.aload_n 0, 1) := by decide +kernel
theorem dX5_isBad_15 : decode cX5_isBad 15 = .ok (.getfield 7, 3) := by decide +kernel
theorem dX5_isBad_18 : decode cX5_isBad 18 = .ok (.bipush 59, 2) := by decide +kernel
theorem dX5_isBad_20 : decode cX5_isBad 20 = .ok (.iaload, 1) := by decide +kernel
theorem dX5_isBad_21 : decode cX5_isBad 21 = .ok (.if_icmp .ge 36, 3) := by decide +kernel
theorem dX5_isBad_24 : decode cX5_isBad 24 = .ok (.iload_n 2, 1) := by decide +kernel
theorem dX5_isBad_25 : decode cX5_isBad 25 = .ok (.ifCond .ne 20, 3) := by decide +kernel
theorem dX5_isBad_28 : decode cX5_isBad 28 = .ok (.aload_n 0, 1) := by decide +kernel
theorem dX5_isBad_29 : decode cX5_isBad 29 = .ok (.getfield 7, 3) := by decide +kernel
theorem dX5_isBad_32 : decode cX5_isBad 32 = .ok (.bipush 60, 2) := by decide +kernel
theorem dX5_isBad_34 : decode cX5_isBad 34 = .ok (.iload 4, 2) := by decide +kernel
theorem dX5_isBad_36 : decode cX5_isBad 36 = .ok (.iadd, 1) := by decide +kernel
theorem dX5_isBad_37 : decode cX5_isBad 37 = .ok (.iaload, 1) := by decide +kernel
theorem dX5_isBad_38 : decode cX5_isBad 38 = .ok (.iload_n 3, 1) := by decide +kernel
theorem dX5_isBad_39 : decode cX5_isBad 39 = .ok (.iconst (-1), 1) := by decide +kernel
theorem dX5_isBad_40 : decode cX5_isBad 40 = .ok (.ixor, 1) := by decide +kernel
theorem dX5_isBad_41 : decode cX5_isBad 41 = .ok (.iand, 1) := by decide +kernel
theorem dX5_isBad_42 : decode cX5_isBad 42 = .ok (.ifCond .ne 7, 3) := by decide +kernel
theorem dX5_isBad_45 : decode cX5_isBad 45 = .ok (.iconst 1, 1) := by decide +kernel
theorem dX5_isBad_46 : decode cX5_isBad 46 = .ok (.goto 4, 3) := by decide +kernel
theorem dX5_isBad_49 : decode cX5_isBad 49 = .ok (.iconst 0, 1) := by decide +kernel
theorem dX5_isBad_50 : decode cX5_isBad 50 = .ok (.istore_n 2, 1) := by decide +kernel
theorem dX5_isBad_51 : decode cX5_isBad 51 = .ok (.iinc 4 1, 3) := by decide +kernel
theorem dX5_isBad_54 : decode cX5_isBad 54 = .ok (.goto (-42), 3) := by decide +kernel
theorem dX5_isBad_57 : decode cX5_isBad 57 = .ok (.iload_n 2, 1) := by decide +kernel
theorem dX5_isBad_58 : decode cX5_isBad 58 = .ok (.ireturn, 1) := by decide +kernel
theorem dX5_isForbidden_0 : decode cX5_isForbidden 0 = .ok (.iload_n 1, 1) := by decide +kernel
theorem dX5_isForbidden_1 : decode cX5_isForbidden 1 = .ok (.iconst 0, 1) := by decide +kernel
theorem dX5_isForbidden_2 : decode cX5_isForbidden 2 = .ok (.sipush 255, 3) := by decide +kernel
theorem dX5_isForbidden_5 : decode cX5_isForbidden 5 = .ok (.invokestatic 44, 3) := by decide +kernel
theorem dX5_isForbidden_8 : decode cX5_isForbidden 8 = .ok (.ifCond .ne 8, 3) := by decide +kernel
theorem dX5_isForbidden_11 : decode cX5_isForbidden 11 = .ok (.ldc 64, 2) := by decide +kernel
theorem dX5_isForbidden_13 : decode cX5_isForbidden 13 = .ok (.goto 16, 3) := by decide +kernel
theorem dX5_isForbidden_16 : decode cX5_isForbidden 16 = .ok (.aload_n 0, 1) := by decide +kernel
theorem dX5_isForbidden_17 : decode cX5_isForbidden 17 = .ok (.iload_n 1, 1) := by decide +kernel
theorem dX5_isForbidden_18 : decode cX5_isForbidden 18 = .ok (.invokevirtual 99, 3) := by decide +kernel
theorem dX5_isForbidden_21 : decode cX5_isForbidden 21 = .ok (.ifCond .eq 7, 3) := by decide +kernel
theorem dX5_isForbidden_24 : decode cX5_isForbidden 24 = .ok (.iconst 1, 1) := by decide +kernel
theorem dX5_isForbidden_25 : decode cX5_isForbidden 25 = .ok (.goto 4, 3) := by decide +kernel
theorem dX5_isForbidden_28 : decode cX5_isForbidden 28 = .ok (.iconst 0, 1) := by decide +kernel
theorem dX5_isForbidden_29 : decode cX5_isForbidden 29 = .ok (.ireturn, 1) := by decide +kernel
theorem dX5_aims_0 : decode cX5_aims 0 = .ok (.aload_n 0, 1) := by decide +kernel
theorem dX5_aims_1 : decode cX5_aims 1 = .ok (.getfield 20, 3) := by decide +kernel
theorem dX5_aims_4 : decode cX5_aims 4 = .ok (.iconst 0, 1) := by decide +kernel
theorem dX5_aims_5 : decode cX5_aims 5 = .ok (.iload_n 1, 1) := by decide +kernel
theorem dX5_aims_6 : decode cX5_aims 6 = .ok (.i2l, 1) := by decide +kernel
theorem dX5_aims_7 : decode cX5_aims 7 = .ok (.lastore, 1) := by decide +kernel
theorem dX5_aims_8 : decode cX5_aims 8 = .ok (.aload_n 0, 1) := by decide +kernel
theorem dX5_aims_9 : decode cX5_aims 9 = .ok (.getfield 20, 3) := by decide +kernel
theorem dX5_aims_12 : decode cX5_aims 12 = .ok (.iconst 1, 1) := by decide +kernel
theorem dX5_aims_13 : decode cX5_aims 13 = .ok (.iload_n 2, 1) := by decide +kernel
theorem dX5_aims_14 : decode cX5_aims 14 = .ok (.i2l, 1) := by decide +kernel
theorem dX5_aims_15 : decode cX5_aims 15 = .ok (.lastore, 1) := by decide +kernel
theorem dX5_aims_16 : decode cX5_aims 16 = .ok (.aload_n 0, 1) := by decide +kernel
theorem dX5_aims_17 : decode cX5_aims 17 = .ok (.getfield 20, 3) := by decide +kernel
theorem dX5_aims_20 : decode cX5_aims 20 = .ok (.iconst 2, 1) := by decide +kernel
theorem dX5_aims_21 : decode cX5_aims 21 = .ok (.iload_n 3, 1) := by decide +kernel
theorem dX5_aims_22 : decode cX5_aims 22 = .ok (.i2l, 1) := by decide +kernel
theorem dX5_aims_23 : decode cX5_aims 23 = .ok (.lastore, 1) := by decide +kernel
theorem dX5_aims_24 : decode cX5_aims 24 = .ok (.return_, 1) := by decide +kernel
theorem dX5_dear_0 : decode cX5_dear 0 = .ok (.aload_n 0, 1) := by decide +kernel
theorem dX5_dear_1 : decode cX5_dear 1 = .ok (.getfield 7, 3) := by decide +kernel
theorem dX5_dear_4 : decode cX5_dear 4 = .ok (.bipush 57, 2) := by decide +kernel
theorem dX5_dear_6 : decode cX5_dear 6 = .ok (.aload_n 0, 1) := by decide +kernel
theorem dX5_dear_7 : decode cX5_dear 7 = .ok (.iload_n 1, 1) := by decide +kernel
theorem dX5_dear_8 : decode cX5_dear 8 = .ok (.iconst 4, 1) := by decide +kernel
theorem dX5_dear_9 : decode cX5_dear 9 = .ok (.invokevirtual 48, 3) := by decide +kernel
theorem dX5_dear_12 : decode cX5_dear 12 = .ok (.iadd, 1) := by decide +kernel
theorem dX5_dear_13 : decode cX5_dear 13 = .ok (.iaload, 1) := by decide +kernel
theorem dX5_dear_14 : decode cX5_dear 14 = .ok (.aload_n 0, 1) := by decide +kernel
theorem dX5_dear_15 : decode cX5_dear 15 = .ok (.getfield 7, 3) := by decide +kernel
theorem dX5_dear_18 : decode cX5_dear 18 = .ok (.bipush 58, 2) := by decide +kernel
theorem dX5_dear_20 : decode cX5_dear 20 = .ok (.aload_n 0, 1) := by decide +kernel
theorem dX5_dear_21 : decode cX5_dear 21 = .ok (.iload_n 1, 1) := by decide +kernel
theorem dX5_dear_22 : decode cX5_dear 22 = .ok (.iconst 4, 1) := by decide +kernel
theorem dX5_dear_23 : decode cX5_dear 23 = .ok (.invokevirtual 48, 3) := by decide +kernel
theorem dX5_dear_26 : decode cX5_dear 26 = .ok (.isub, 1) := by decide +kernel
theorem dX5_dear_27 : decode cX5_dear 27 = .ok (.iaload, 1) := by decide +kernel
theorem dX5_dear_28 : decode cX5_dear 28 = .ok (.if_icmp .ge 7, 3) := by decide +kernel
theorem dX5_dear_31 : decode cX5_dear 31 = .ok (.iconst 2, 1) := by decide +kernel
theorem dX5_dear_32 : decode cX5_dear 32 = .ok (.goto 4, 3) := by decide +kernel
theorem dX5_dear_35 : decode cX5_dear 35 = .ok (.iconst 1, 1) := by decide +kernel
theorem dX5_dear_36 : decode cX5_dear 36 = .ok (.ireturn, 1) := by decide +kernel
theorem dX5_member_0 : decode cX5_member 0 = .ok (.iload_n 3, 1) := by decide +kernel
theorem dX5_member_1 : decode cX5_member 1 = .ok (.ifCond .ne 7, 3) := by decide +kernel
theorem dX5_member_4 : decode cX5_member 4 = .ok (.iload_n 0, 1) := by decide +kernel
theorem dX5_member_5 : decode cX5_member 5 = .ok (.goto 13, 3) := by decide +kernel
theorem dX5_member_8 : decode cX5_member 8 = .ok (.iload_n 3, 1) := by decide +kernel
theorem dX5_member_9 : decode cX5_member 9 = .ok (.iconst 1, 1) := by decide +kernel
theorem dX5_member_10 : decode cX5_member 10 = .ok (.if_icmp .ne 7, 3) := by decide +kernel
theorem dX5_member_13 : decode cX5_member 13 = .ok (.iload_n 1, 1) := by decide +kernel
theorem dX5_member_14 : decode cX5_member 14 = .ok (.goto 4, 3) := by decide +kernel
theorem dX5_member_17 : decode cX5_member 17 = .ok (.iload_n 2, 1) := by decide +kernel
theorem dX5_member_18 : decode cX5_member 18 = .ok (.ireturn, 1) := by decide +kernel
theorem dX5_looksAt_0 : decode cX5_looksAt 0 = .ok (.lconst 0, 1) := by decide +kernel
theorem dX5_looksAt_1 : decode cX5_looksAt 1 = .ok (.lstore 4, 2) := by decide +kernel
theorem dX5_looksAt_3 : decode cX5_looksAt 3 = .ok (.iconst (-1), 1) := by decide +kernel
theorem dX5_looksAt_4 : decode cX5_looksAt 4 = .ok (.istore 6, 2) := by decide +kernel
theorem dX5_looksAt_6 : decode cX5_looksAt 6 = .ok (.iload 6, 2) := by decide +kernel
theorem dX5_looksAt_8 : decode cX5_looksAt 8 = .ok (.iconst 3, 1) := by decide +kernel
theorem dX5_looksAt_9 : decode cX5_looksAt 9 = .ok (.if_icmp .ge 111, 3) := by decide +kernel
theorem dX5_looksAt_12 : decode cX5_looksAt 12 = .ok (.iconst 0, 1) := by decide +kernel
theorem dX5_looksAt_13 : decode cX5_looksAt 13 = .ok (.istore 7, 2) := by decide +kernel
theorem dX5_looksAt_15 : decode cX5_looksAt 15 = .ok (.iload 7, 2) := by decide +kernel
theorem dX5_looksAt_17 : decode cX5_looksAt 17 = .ok (.iconst 3, 1) := by decide +kernel
theorem dX5_looksAt_18 : decode cX5_looksAt 18 = .ok (.if_icmp .ge 23, 3) := by decide +kernel
theorem dX5_looksAt_21 : decode cX5_looksAt 21 = .ok (.aload_n 0, 1) := by decide +kernel
theorem dX5_looksAt_22 : decode cX5_looksAt 22 = .ok (.iload 7, 2) := by decide +kernel
theorem dX5_looksAt_24 : decode cX5_looksAt 24 = .ok (.iload_n 1, 1) := by decide +kernel
theorem dX5_looksAt_25 : decode cX5_looksAt 25 = .ok (.iload_n 2, 1) := by decide +kernel
theorem dX5_looksAt_26 : decode cX5_looksAt 26 = .ok (.iload_n 3, 1) := by decide +kernel
theorem dX5_looksAt_27 : decode cX5_looksAt 27 = .ok (.iload 7, 2) := by decide +kernel
theorem dX5_looksAt_29 : decode cX5_looksAt 29 = .ok (.invokestatic 102, 3) := by decide +kernel
theorem dX5_looksAt_32 : decode cX5_looksAt 32 = .ok (.invokevirtual 81, 3) := by decide +kernel
theorem dX5_looksAt_35 : decode cX5_looksAt 35 = .ok (.iinc 7 1, 3) := by decide +kernel
theorem dX5_looksAt_38 : decode cX5_looksAt 38 = .ok (.goto (-23), 3) := by decide +kernel
theorem dX5_looksAt_41 : decode cX5_looksAt 41 = .ok (.iconst 0, 1) := by decide +kernel
theorem dX5_looksAt_42 : decode cX5_looksAt 42 = .ok (.istore 7, 2) := by decide +kernel
theorem dX5_looksAt_44 : decode cX5_looksAt 44 = .ok (.iload 7, 2) := by decide +kernel
theorem dX5_looksAt_46 : decode cX5_looksAt 46 = .ok (.iconst 3, 1) := by decide +kernel
theorem dX5_looksAt_47 : decode cX5_looksAt 47 = .ok (.if_icmp .ge 33, 3) := by decide +kernel
theorem dX5_looksAt_50 : decode cX5_looksAt 50 = .ok (.iload 6, 2) := by decide +kernel
theorem dX5_looksAt_52 : decode cX5_looksAt 52 = .ok (.ifCond .lt 28, 3) := by decide +kernel
theorem dX5_looksAt_55 : decode cX5_looksAt 55 = .ok (.aload_n 0, 1) := by decide +kernel
theorem dX5_looksAt_56 : decode cX5_looksAt 56 = .ok (.getfield 17, 3) := by decide +kernel
theorem dX5_looksAt_59 : decode cX5_looksAt 59 = .ok (.iconst 3, 1) := by decide +kernel
theorem dX5_looksAt_60 : decode cX5_looksAt 60 = .ok (.iload 7, 2) := by decide +kernel
theorem dX5_looksAt_62 : decode cX5_looksAt 62 = .ok (.imul, 1) := by decide +kernel
theorem dX5_looksAt_63 : decode cX5_looksAt 63 = .ok (.iload 6, 2) := by decide +kernel
theorem dX5_looksAt_65 : decode cX5_looksAt 65 = .ok (.iadd, 1) := by decide +kernel
theorem dX5_looksAt_66 : decode cX5_looksAt 66 = .ok (.aload_n 0, 1) := by decide +kernel
theorem dX5_looksAt_67 : decode cX5_looksAt 67 = .ok (.getfield 20, 3) := by decide +kernel
theorem dX5_looksAt_70 : decode cX5_looksAt 70 = .ok (.iload 7, 2) := by decide +kernel
theorem dX5_looksAt_72 : decode cX5_looksAt 72 = .ok (.laload, 1) := by decide +kernel
theorem dX5_looksAt_73 : decode cX5_looksAt 73 = .ok (.lastore, 1) := by decide +kernel
theorem dX5_looksAt_74 : decode cX5_looksAt 74 = .ok (.iinc 7 1, 3) := by decide +kernel
theorem dX5_looksAt_77 : decode cX5_looksAt 77 = .ok (.goto (-33), 3) := by decide +kernel
theorem dX5_looksAt_80 : decode cX5_looksAt 80 = .ok (.aload_n 0, 1) := by decide +kernel
theorem dX5_looksAt_81 : decode cX5_looksAt 81 = .ok (.invokevirtual 84, 3) := by decide +kernel
theorem dX5_looksAt_84 : decode cX5_looksAt 84 = .ok (.lstore 7, 2) := by decide +kernel
theorem dX5_looksAt_86 : decode cX5_looksAt 86 = .ok (.iload 6, 2) := by decide +kernel
theorem dX5_looksAt_88 : decode cX5_looksAt 88 = .ok (.ifCond .ge 8, 3) := by decide +kernel
theorem dX5_looksAt_91 : decode cX5_looksAt 91 = .ok (.lload 7, 2) := by decide +kernel
theorem dX5_looksAt_93 : decode cX5_looksAt 93 = .ok (.goto 5, 3) := by decide +kernel
theorem dX5_looksAt_96 : decode cX5_looksAt 96 = .ok (.lload 4, 2) := by decide +kernel
theorem dX5_looksAt_98 : decode cX5_looksAt 98 = .ok (.lstore 4, 2) := by decide +kernel
theorem dX5_looksAt_100 : decode cX5_looksAt 100 = .ok (.iload 6, 2) := by decide +kernel
theorem dX5_looksAt_102 : decode cX5_looksAt 102 = .ok (.ifCond .lt 12, 3) := by decide +kernel
theorem dX5_looksAt_105 : decode cX5_looksAt 105 = .ok (.aload_n 0, 1) := by decide +kernel
theorem dX5_looksAt_106 : decode cX5_looksAt 106 = .ok (.getfield 26, 3) := by decide +kernel
theorem dX5_looksAt_109 : decode cX5_looksAt 109 = .ok (.iload 6, 2) := by decide +kernel
theorem dX5_looksAt_111 : decode cX5_looksAt 111 = .ok (.lload 7, 2) := by decide +kernel
theorem dX5_looksAt_113 : decode cX5_looksAt 113 = .ok (.lastore, 1) := by decide +kernel
theorem dX5_looksAt_114 : decode cX5_looksAt 114 = .ok (.iinc 6 1, 3) := by decide +kernel
theorem dX5_looksAt_117 : decode cX5_looksAt 117 = .ok (.goto (-111), 3) := by decide +kernel
theorem dX5_looksAt_120 : decode cX5_looksAt 120 = .ok (.lload 4, 2) := by decide +kernel
theorem dX5_looksAt_122 : decode cX5_looksAt 122 = .ok (.lconst 0, 1) := by decide +kernel
theorem dX5_looksAt_123 : decode cX5_looksAt 123 = .ok (.lcmp, 1) := by decide +kernel
theorem dX5_looksAt_124 : decode cX5_looksAt 124 = .ok (.ifCond .ne 4, 3) := by decide +kernel
theorem dX5_looksAt_127 : decode cX5_looksAt 127 = .ok (.return_, 1) := by decide +kernel
theorem dX5_looksAt_128 : decode cX5_looksAt 128 = .ok (.iconst 0, 1) := by decide +kernel
theorem dX5_looksAt_129 : decode cX5_looksAt 129 = .ok (.istore 6, 2) := by decide +kernel
theorem dX5_looksAt_131 : decode cX5_looksAt 131 = .ok (.lconst 0, 1) := by decide +kernel
theorem dX5_looksAt_132 : decode cX5_looksAt 132 = .ok (.lstore 7, 2) := by decide +kernel
theorem dX5_looksAt_134 : decode cX5_looksAt 134 = .ok (.iconst 1, 1) := by decide +kernel
theorem dX5_looksAt_135 : decode cX5_looksAt 135 = .ok (.istore 9, 2) := by decide +kernel
theorem dX5_looksAt_137 : decode cX5_looksAt 137 = .ok (.iconst 0, 1) := by decide +kernel
theorem dX5_looksAt_138 : decode cX5_looksAt 138 = .ok (.istore 10, 2) := by decide +kernel
theorem dX5_looksAt_140 : decode cX5_looksAt 140 = .ok (.iload 10, 2) := by decide +kernel
theorem dX5_looksAt_142 : decode cX5_looksAt 142 = .ok (.iconst 3, 1) := by decide +kernel
theorem dX5_looksAt_143 : decode cX5_looksAt 143 = .ok (.if_icmp .ge 159, 3) := by decide +kernel
theorem dX5_looksAt_146 : decode cX5_looksAt 146 = .ok (.iload_n 1, 1) := by decide +kernel
theorem dX5_looksAt_147 : decode cX5_looksAt 147 = .ok (.iload_n 2, 1) := by decide +kernel
theorem dX5_looksAt_148 : decode cX5_looksAt 148 = .ok (.iload_n 3, 1) := by decide +kernel
theorem dX5_looksAt_149 : decode cX5_looksAt 149 = .ok (.iload 10, 2) := by decide +kernel
theorem dX5_looksAt_151 : decode cX5_looksAt 151 = .ok (.invokestatic 102, 3) := by decide +kernel
theorem dX5_looksAt_154 : decode cX5_looksAt 154 = .ok (.istore 11, 2) := by decide +kernel
theorem dX5_looksAt_156 : decode cX5_looksAt 156 = .ok (.aload_n 0, 1) := by decide +kernel
theorem dX5_looksAt_157 : decode cX5_looksAt 157 = .ok (.getfield 26, 3) := by decide +kernel
theorem dX5_looksAt_160 : decode cX5_looksAt 160 = .ok (.iload 10, 2) := by decide +kernel
theorem dX5_looksAt_162 : decode cX5_looksAt 162 = .ok (.lload 4, 2) := by decide +kernel
theorem dX5_looksAt_164 : decode cX5_looksAt 164 = .ok (.lconst 0, 1) := by decide +kernel
theorem dX5_looksAt_165 : decode cX5_looksAt 165 = .ok (.lcmp, 1) := by decide +kernel
theorem dX5_looksAt_166 : decode cX5_looksAt 166 = .ok (.ifCond .ge 14, 3) := by decide +kernel
theorem dX5_looksAt_169 : decode cX5_looksAt 169 = .ok (.aload_n 0, 1) := by decide +kernel
theorem dX5_looksAt_170 : decode cX5_looksAt 170 = .ok (.getfield 26, 3) := by decide +kernel
theorem dX5_looksAt_173 : decode cX5_looksAt 173 = .ok (.iload 10, 2) := by decide +kernel
theorem dX5_looksAt_175 : decode cX5_looksAt 175 = .ok (.laload, 1) := by decide +kernel
theorem dX5_looksAt_176 : decode cX5_looksAt 176 = .ok (.lneg, 1) := by decide +kernel
theorem dX5_looksAt_177 : decode cX5_looksAt 177 = .ok (.goto 10, 3) := by decide +kernel
theorem dX5_looksAt_180 : decode cX5_looksAt 180 = .ok (.aload_n 0, 1) := by decide +kernel
theorem dX5_looksAt_181 : decode cX5_looksAt 181 = .ok (.getfield 26, 3) := by decide +kernel
theorem dX5_looksAt_184 : decode cX5_looksAt 184 = .ok (.iload 10, 2) := by decide +kernel
theorem dX5_looksAt_186 : decode cX5_looksAt 186 = .ok (.laload, 1) := by decide +kernel
theorem dX5_looksAt_187 : decode cX5_looksAt 187 = .ok (.lastore, 1) := by decide +kernel
theorem dX5_looksAt_188 : decode cX5_looksAt 188 = .ok (.iload 9, 2) := by decide +kernel
theorem dX5_looksAt_190 : decode cX5_looksAt 190 = .ok (.ifCond .eq 49, 3) := by decide +kernel
theorem dX5_looksAt_193 : decode cX5_looksAt 193 = .ok (.aload_n 0, 1) := by decide +kernel
theorem dX5_looksAt_194 : decode cX5_looksAt 194 = .ok (.getfield 26, 3) := by decide +kernel
theorem dX5_looksAt_197 : decode cX5_looksAt 197 = .ok (.iload 10, 2) := by decide +kernel
theorem dX5_looksAt_199 : decode cX5_looksAt 199 = .ok (.laload, 1) := by decide +kernel
theorem dX5_looksAt_200 : decode cX5_looksAt 200 = .ok (.lconst 0, 1) := by decide +kernel
theorem dX5_looksAt_201 : decode cX5_looksAt 201 = .ok (.lcmp, 1) := by decide +kernel
theorem dX5_looksAt_202 : decode cX5_looksAt 202 = .ok (.ifCond .lt 37, 3) := by decide +kernel
theorem dX5_looksAt_205 : decode cX5_looksAt 205 = .ok (.aload_n 0, 1) := by decide +kernel
theorem dX5_looksAt_206 : decode cX5_looksAt 206 = .ok (.getfield 26, 3) := by decide +kernel
theorem dX5_looksAt_209 : decode cX5_looksAt 209 = .ok (.iload 10, 2) := by decide +kernel
theorem dX5_looksAt_211 : decode cX5_looksAt 211 = .ok (.laload, 1) := by decide +kernel
theorem dX5_looksAt_212 : decode cX5_looksAt 212 = .ok (.ldc2_w 106, 3) := by decide +kernel
theorem dX5_looksAt_215 : decode cX5_looksAt 215 = .ok (.lload 4, 2) := by decide +kernel
theorem dX5_looksAt_217 : decode cX5_looksAt 217 = .ok (.lconst 0, 1) := by decide +kernel
theorem dX5_looksAt_218 : decode cX5_looksAt 218 = .ok (.lcmp, 1) := by decide +kernel
theorem dX5_looksAt_219 : decode cX5_looksAt 219 = .ok (.ifCond .ge 9, 3) := by decide +kernel
theorem dX5_looksAt_222 : decode cX5_looksAt 222 = .ok (.lload 4, 2) := by decide +kernel
theorem dX5_looksAt_224 : decode cX5_looksAt 224 = .ok (.lneg, 1) := by decide +kernel
theorem dX5_looksAt_225 : decode cX5_looksAt 225 = .ok (.goto 5, 3) := by decide +kernel
theorem dX5_looksAt_228 : decode cX5_looksAt 228 = .ok (.lload 4, 2) := by decide +kernel
theorem dX5_looksAt_230 : decode cX5_looksAt 230 = .ok (.lmul, 1) := by decide +kernel
theorem dX5_looksAt_231 : decode cX5_looksAt 231 = .ok (.lcmp, 1) := by decide +kernel
theorem dX5_looksAt_232 : decode cX5_looksAt 232 = .ok (.ifCond .gt 7, 3) := by decide +kernel
theorem dX5_looksAt_235 : decode cX5_looksAt 235 = .ok (.iconst 1, 1) := by decide +kernel
theorem dX5_looksAt_236 : decode cX5_looksAt 236 = .ok (.goto 4, 3) := by decide +kernel
theorem dX5_looksAt_239 : decode cX5_looksAt 239 = .ok (.iconst 0, 1) := by decide +kernel
theorem dX5_looksAt_240 : decode cX5_looksAt 240 = .ok (.istore 9, 2) := by decide +kernel
theorem dX5_looksAt_242 : decode cX5_looksAt 242 = .ok (.iload 6, 2) := by decide +kernel
theorem dX5_looksAt_244 : decode cX5_looksAt 244 = .ok (.aload_n 0, 1) := by decide +kernel
theorem dX5_looksAt_245 : decode cX5_looksAt 245 = .ok (.getfield 26, 3) := by decide +kernel
theorem dX5_looksAt_248 : decode cX5_looksAt 248 = .ok (.iload 10, 2) := by decide +kernel
theorem dX5_looksAt_250 : decode cX5_looksAt 250 = .ok (.laload, 1) := by decide +kernel
theorem dX5_looksAt_251 : decode cX5_looksAt 251 = .ok (.lconst 0, 1) := by decide +kernel
theorem dX5_looksAt_252 : decode cX5_looksAt 252 = .ok (.lcmp, 1) := by decide +kernel
theorem dX5_looksAt_253 : decode cX5_looksAt 253 = .ok (.ifCond .le 10, 3) := by decide +kernel
theorem dX5_looksAt_256 : decode cX5_looksAt 256 = .ok (.iconst 1, 1) := by decide +kernel
theorem dX5_looksAt_257 : decode cX5_looksAt 257 = .ok (.iload 11, 2) := by decide +kernel
theorem dX5_looksAt_259 : decode cX5_looksAt 259 = .ok (.ishl, 1) := by decide +kernel
theorem dX5_looksAt_260 : decode cX5_looksAt 260 = .ok (.goto 4, 3) := by decide +kernel
theorem dX5_looksAt_263 : decode cX5_looksAt 263 = .ok (.iconst 0, 1) := by decide +kernel
theorem dX5_looksAt_264 : decode cX5_looksAt 264 = .ok (.ior, 1) := by decide +kernel
theorem dX5_looksAt_265 : decode cX5_looksAt 265 = .ok (.istore 6, 2) := by decide +kernel
theorem dX5_looksAt_267 : decode cX5_looksAt 267 = .ok (.lload 7, 2) := by decide +kernel
theorem dX5_looksAt_269 : decode cX5_looksAt 269 = .ok (.aload_n 0, 1) := by decide +kernel
theorem dX5_looksAt_270 : decode cX5_looksAt 270 = .ok (.getfield 26, 3) := by decide +kernel
theorem dX5_looksAt_273 : decode cX5_looksAt 273 = .ok (.iload 10, 2) := by decide +kernel
theorem dX5_looksAt_275 : decode cX5_looksAt 275 = .ok (.laload, 1) := by decide +kernel
theorem dX5_looksAt_276 : decode cX5_looksAt 276 = .ok (.aload_n 0, 1) := by decide +kernel
theorem dX5_looksAt_277 : decode cX5_looksAt 277 = .ok (.iload 11, 2) := by decide +kernel
theorem dX5_looksAt_279 : decode cX5_looksAt 279 = .ok (.iconst 3, 1) := by decide +kernel
theorem dX5_looksAt_280 : decode cX5_looksAt 280 = .ok (.invokevirtual 48, 3) := by decide +kernel
theorem dX5_looksAt_283 : decode cX5_looksAt 283 = .ok (.i2l, 1) := by decide +kernel
theorem dX5_looksAt_284 : decode cX5_looksAt 284 = .ok (.lmul, 1) := by decide +kernel
theorem dX5_looksAt_285 : decode cX5_looksAt 285 = .ok (.aload_n 0, 1) := by decide +kernel
theorem dX5_looksAt_286 : decode cX5_looksAt 286 = .ok (.iload 11, 2) := by decide +kernel
theorem dX5_looksAt_288 : decode cX5_looksAt 288 = .ok (.invokevirtual 108, 3) := by decide +kernel
theorem dX5_looksAt_291 : decode cX5_looksAt 291 = .ok (.i2l, 1) := by decide +kernel
theorem dX5_looksAt_292 : decode cX5_looksAt 292 = .ok (.lmul, 1) := by decide +kernel
theorem dX5_looksAt_293 : decode cX5_looksAt 293 = .ok (.ladd, 1) := by decide +kernel
theorem dX5_looksAt_294 : decode cX5_looksAt 294 = .ok (.lstore 7, 2) := by decide +kernel
theorem dX5_looksAt_296 : decode cX5_looksAt 296 = .ok (.iinc 10 1, 3) := by decide +kernel
theorem dX5_looksAt_299 : decode cX5_looksAt 299 = .ok (.goto (-159), 3) := by decide +kernel
theorem dX5_looksAt_302 : decode cX5_looksAt 302 = .ok (.lload 4, 2) := by decide +kernel
theorem dX5_looksAt_304 : decode cX5_looksAt 304 = .ok (.lconst 0, 1) := by decide +kernel
theorem dX5_looksAt_305 : decode cX5_looksAt 305 = .ok (.lcmp, 1) := by decide +kernel
theorem dX5_looksAt_306 : decode cX5_looksAt 306 = .ok (.ifCond .ge 9, 3) := by decide +kernel
theorem dX5_looksAt_309 : decode cX5_looksAt 309 = .ok (.lload 4, 2) := by decide +kernel
theorem dX5_looksAt_311 : decode cX5_looksAt 311 = .ok (.lneg, 1) := by decide +kernel
theorem dX5_looksAt_312 : decode cX5_looksAt 312 = .ok (.goto 5, 3) := by decide +kernel
theorem dX5_looksAt_315 : decode cX5_looksAt 315 = .ok (.lload 4, 2) := by decide +kernel
theorem dX5_looksAt_317 : decode cX5_looksAt 317 = .ok (.lstore 10, 2) := by decide +kernel
theorem dX5_looksAt_319 : decode cX5_looksAt 319 = .ok (.aload_n 0, 1) := by decide +kernel
theorem dX5_looksAt_320 : decode cX5_looksAt 320 = .ok (.getfield 111, 3) := by decide +kernel
theorem dX5_looksAt_323 : decode cX5_looksAt 323 = .ok (.ifCond .lt 48, 3) := by decide +kernel
theorem dX5_looksAt_326 : decode cX5_looksAt 326 = .ok (.lload 7, 2) := by decide +kernel
theorem dX5_looksAt_328 : decode cX5_looksAt 328 = .ok (.aload_n 0, 1) := by decide +kernel
theorem dX5_looksAt_329 : decode cX5_looksAt 329 = .ok (.getfield 114, 3) := by decide +kernel
theorem dX5_looksAt_332 : decode cX5_looksAt 332 = .ok (.lmul, 1) := by decide +kernel
theorem dX5_looksAt_333 : decode cX5_looksAt 333 = .ok (.aload_n 0, 1) := by decide +kernel
theorem dX5_looksAt_334 : decode cX5_looksAt 334 = .ok (.getfield 118, 3) := by decide +kernel
theorem dX5_looksAt_337 : decode cX5_looksAt 337 = .ok (.lload 10, 2) := by decide +kernel
theorem dX5_looksAt_339 : decode cX5_looksAt 339 = .ok (.lmul, 1) := by decide +kernel
theorem dX5_looksAt_340 : decode cX5_looksAt 340 = .ok (.lcmp, 1) := by decide +kernel
theorem dX5_looksAt_341 : decode cX5_looksAt 341 = .ok (.ifCond .lt 30, 3) := by decide +kernel
theorem dX5_looksAt_344 : decode cX5_looksAt 344 = .ok (.lload 7, 2) := by decide +kernel
theorem dX5_looksAt_346 : decode cX5_looksAt 346 = .ok (.aload_n 0, 1) := by decide +kernel
theorem dX5_looksAt_347 : decode cX5_looksAt 347 = .ok (.getfield 114, 3) := by decide +kernel
theorem dX5_looksAt_350 : decode cX5_looksAt 350 = .ok (.lmul, 1) := by decide +kernel
theorem dX5_looksAt_351 : decode cX5_looksAt 351 = .ok (.aload_n 0, 1) := by decide +kernel
theorem dX5_looksAt_352 : decode cX5_looksAt 352 = .ok (.getfield 118, 3) := by decide +kernel
theorem dX5_looksAt_355 : decode cX5_looksAt 355 = .ok (.lload 10, 2) := by decide +kernel
theorem dX5_looksAt_357 : decode cX5_looksAt 357 = .ok (.lmul, 1) := by decide +kernel
theorem dX5_looksAt_358 : decode cX5_looksAt 358 = .ok (.lcmp, 1) := by decide +kernel
theorem dX5_looksAt_359 : decode cX5_looksAt 359 = .ok (.ifCond .ne 16, 3) := by decide +kernel
theorem dX5_looksAt_362 : decode cX5_looksAt 362 = .ok (.iload 6, 2) := by decide +kernel
theorem dX5_looksAt_364 : decode cX5_looksAt 364 = .ok (.aload_n 0, 1) := by decide +kernel
theorem dX5_looksAt_365 : decode cX5_looksAt 365 = .ok (.getfield 111, 3) := by decide +kernel
theorem dX5_looksAt_368 : decode cX5_looksAt 368 = .ok (.if_icmp .ge 7, 3) := by decide +kernel
theorem dX5_looksAt_371 : decode cX5_looksAt 371 = .ok (.iconst 1, 1) := by decide +kernel
theorem dX5_looksAt_372 : decode cX5_looksAt 372 = .ok (.goto 4, 3) := by decide +kernel
theorem dX5_looksAt_375 : decode cX5_looksAt 375 = .ok (.iconst 0, 1) := by decide +kernel
theorem dX5_looksAt_376 : decode cX5_looksAt 376 = .ok (.istore 12, 2) := by decide +kernel
theorem dX5_looksAt_378 : decode cX5_looksAt 378 = .ok (.iload 9, 2) := by decide +kernel
theorem dX5_looksAt_380 : decode cX5_looksAt 380 = .ok (.ifCond .eq 95, 3) := by decide +kernel
theorem dX5_looksAt_383 : decode cX5_looksAt 383 = .ok (.aload_n 0, 1) := by decide +kernel
theorem dX5_looksAt_384 : decode cX5_looksAt 384 = .ok (.iload 6, 2) := by decide +kernel
theorem dX5_looksAt_386 : decode cX5_looksAt 386 = .ok (.invokevirtual 99, 3) := by decide +kernel
theorem dX5_looksAt_389 : decode cX5_looksAt 389 = .ok (.ifCond .ne 86, 3) := by decide +kernel
theorem dX5_looksAt_392 : decode cX5_looksAt 392 = .ok (.iload 12, 2) := by decide +kernel
theorem dX5_looksAt_394 : decode cX5_looksAt 394 = .ok (.ifCond .eq 81, 3) := by decide +kernel
theorem dX5_looksAt_397 : decode cX5_looksAt 397 = .ok (.aload_n 0, 1) := by decide +kernel
theorem dX5_looksAt_398 : decode cX5_looksAt 398 = .ok (.iload 6, 2) := by decide +kernel
theorem dX5_looksAt_400 : decode cX5_looksAt 400 = .ok (.putfield 111, 3) := by decide +kernel
theorem dX5_looksAt_403 : decode cX5_looksAt 403 = .ok (.aload_n 0, 1) := by decide +kernel
theorem dX5_looksAt_404 : decode cX5_looksAt 404 = .ok (.lload 7, 2) := by decide +kernel
theorem dX5_looksAt_406 : decode cX5_looksAt 406 = .ok (.putfield 118, 3) := by decide +kernel
theorem dX5_looksAt_409 : decode cX5_looksAt 409 = .ok (.aload_n 0, 1) := by decide +kernel
theorem dX5_looksAt_410 : decode cX5_looksAt 410 = .ok (.lload 10, 2) := by decide +kernel
theorem dX5_looksAt_412 : decode cX5_looksAt 412 = .ok (.putfield 114, 3) := by decide +kernel
theorem dX5_looksAt_415 : decode cX5_looksAt 415 = .ok (.iconst 0, 1) := by decide +kernel
theorem dX5_looksAt_416 : decode cX5_looksAt 416 = .ok (.istore 13, 2) := by decide +kernel
theorem dX5_looksAt_418 : decode cX5_looksAt 418 = .ok (.iload 13, 2) := by decide +kernel
theorem dX5_looksAt_420 : decode cX5_looksAt 420 = .ok (.bipush 8, 2) := by decide +kernel
theorem dX5_looksAt_422 : decode cX5_looksAt 422 = .ok (.if_icmp .ge 17, 3) := by decide +kernel
theorem dX5_looksAt_425 : decode cX5_looksAt 425 = .ok (.aload_n 0, 1) := by decide +kernel
theorem dX5_looksAt_426 : decode cX5_looksAt 426 = .ok (.getfield 23, 3) := by decide +kernel
theorem dX5_looksAt_429 : decode cX5_looksAt 429 = .ok (.iload 13, 2) := by decide +kernel
theorem dX5_looksAt_431 : decode cX5_looksAt 431 = .ok (.lconst 0, 1) := by decide +kernel
theorem dX5_looksAt_432 : decode cX5_looksAt 432 = .ok (.lastore, 1) := by decide +kernel
theorem dX5_looksAt_433 : decode cX5_looksAt 433 = .ok (.iinc 13 1, 3) := by decide +kernel
theorem dX5_looksAt_436 : decode cX5_looksAt 436 = .ok (.goto (-18), 3) := by decide +kernel
theorem dX5_looksAt_439 : decode cX5_looksAt 439 = .ok (.aload_n 0, 1) := by decide +kernel
theorem dX5_looksAt_440 : decode cX5_looksAt 440 = .ok (.getfield 23, 3) := by decide +kernel
theorem dX5_looksAt_443 : decode cX5_looksAt 443 = .ok (.iload_n 1, 1) := by decide +kernel
theorem dX5_looksAt_444 : decode cX5_looksAt 444 = .ok (.aload_n 0, 1) := by decide +kernel
theorem dX5_looksAt_445 : decode cX5_looksAt 445 = .ok (.getfield 26, 3) := by decide +kernel
theorem dX5_looksAt_448 : decode cX5_looksAt 448 = .ok (.iconst 0, 1) := by decide +kernel
theorem dX5_looksAt_449 : decode cX5_looksAt 449 = .ok (.laload, 1) := by decide +kernel
theorem dX5_looksAt_450 : decode cX5_looksAt 450 = .ok (.lastore, 1) := by decide +kernel
theorem dX5_looksAt_451 : decode cX5_looksAt 451 = .ok (.aload_n 0, 1) := by decide +kernel
theorem dX5_looksAt_452 : decode cX5_looksAt 452 = .ok (.getfield 23, 3) := by decide +kernel
theorem dX5_looksAt_455 : decode cX5_looksAt 455 = .ok (.iload_n 2, 1) := by decide +kernel
theorem dX5_looksAt_456 : decode cX5_looksAt 456 = .ok (.aload_n 0, 1) := by decide +kernel
theorem dX5_looksAt_457 : decode cX5_looksAt 457 = .ok (.getfield 26, 3) := by decide +kernel
theorem dX5_looksAt_460 : decode cX5_looksAt 460 = .ok (.iconst 1, 1) := by decide +kernel
theorem dX5_looksAt_461 : decode cX5_looksAt 461 = .ok (.laload, 1) := by decide +kernel
theorem dX5_looksAt_462 : decode cX5_looksAt 462 = .ok (.lastore, 1) := by decide +kernel
theorem dX5_looksAt_463 : decode cX5_looksAt 463 = .ok (.aload_n 0, 1) := by decide +kernel
theorem dX5_looksAt_464 : decode cX5_looksAt 464 = .ok (.getfield 23, 3) := by decide +kernel
theorem dX5_looksAt_467 : decode cX5_looksAt 467 = .ok (.iload_n 3, 1) := by decide +kernel
theorem dX5_looksAt_468 : decode cX5_looksAt 468 = .ok (.aload_n 0, 1) := by decide +kernel
theorem dX5_looksAt_469 : decode cX5_looksAt 469 = .ok (.getfield 26, 3) := by decide +kernel
theorem dX5_looksAt_472 : decode cX5_looksAt 472 = .ok (.iconst 2, 1) := by decide +kernel
theorem dX5_looksAt_473 : decode cX5_looksAt 473 = .ok (.laload, 1) := by decide +kernel
theorem dX5_looksAt_474 : decode cX5_looksAt 474 = .ok (.lastore, 1) := by decide +kernel
theorem dX5_looksAt_475 : decode cX5_looksAt 475 = .ok (.return_, 1) := by decide +kernel
theorem dX5_finds_0 : decode cX5_finds 0 = .ok (.aload_n 0, 1) := by decide +kernel
theorem dX5_finds_1 : decode cX5_finds 1 = .ok (.iconst (-1), 1) := by decide +kernel
theorem dX5_finds_2 : decode cX5_finds 2 = .ok (.putfield 111, 3) := by decide +kernel
theorem dX5_finds_5 : decode cX5_finds 5 = .ok (.aload_n 0, 1) := by decide +kernel
theorem dX5_finds_6 : decode cX5_finds 6 = .ok (.lconst 1, 1) := by decide +kernel
theorem dX5_finds_7 : decode cX5_finds 7 = .ok (.putfield 114, 3) := by decide +kernel
theorem dX5_finds_10 : decode cX5_finds 10 = .ok (.aload_n 0, 1) := by decide +kernel
theorem dX5_finds_11 : decode cX5_finds 11 = .ok (.lconst 0, 1) := by decide +kernel
theorem dX5_finds_12 : decode cX5_finds 12 = .ok (.putfield 118, 3) := by decide +kernel
theorem dX5_finds_15 : decode cX5_finds 15 = .ok (.iconst 0, 1) := by decide +kernel
theorem dX5_finds_16 : decode cX5_finds 16 = .ok (.istore_n 1, 1) := by decide +kernel
theorem dX5_finds_17 : decode cX5_finds 17 = .ok (.iload_n 1, 1) := by decide +kernel
theorem dX5_finds_18 : decode cX5_finds 18 = .ok (.bipush 8, 2) := by decide +kernel
theorem dX5_finds_20 : decode cX5_finds 20 = .ok (.if_icmp .ge 16, 3) := by decide +kernel
theorem dX5_finds_23 : decode cX5_finds 23 = .ok (.aload_n 0, 1) := by decide +kernel
theorem dX5_finds_24 : decode cX5_finds 24 = .ok (.getfield 23, 3) := by decide +kernel
theorem dX5_finds_27 : decode cX5_finds 27 = .ok (.iload_n 1, 1) := by decide +kernel
theorem dX5_finds_28 : decode cX5_finds 28 = .ok (.lconst 0, 1) := by decide +kernel
theorem dX5_finds_29 : decode cX5_finds 29 = .ok (.lastore, 1) := by decide +kernel
theorem dX5_finds_30 : decode cX5_finds 30 = .ok (.iinc 1 1, 3) := by decide +kernel
theorem dX5_finds_33 : decode cX5_finds 33 = .ok (.goto (-16), 3) := by decide +kernel
theorem dX5_finds_36 : decode cX5_finds 36 = .ok (.aload_n 0, 1) := by decide +kernel
theorem dX5_finds_37 : decode cX5_finds 37 = .ok (.getfield 20, 3) := by decide +kernel
theorem dX5_finds_40 : decode cX5_finds 40 = .ok (.iconst 0, 1) := by decide +kernel
theorem dX5_finds_41 : decode cX5_finds 41 = .ok (.laload, 1) := by decide +kernel
theorem dX5_finds_42 : decode cX5_finds 42 = .ok (.lconst 0, 1) := by decide +kernel
theorem dX5_finds_43 : decode cX5_finds 43 = .ok (.lcmp, 1) := by decide +kernel
theorem dX5_finds_44 : decode cX5_finds 44 = .ok (.ifCond .ne 32, 3) := by decide +kernel
theorem dX5_finds_47 : decode cX5_finds 47 = .ok (.aload_n 0, 1) := by decide +kernel
theorem dX5_finds_48 : decode cX5_finds 48 = .ok (.getfield 20, 3) := by decide +kernel
theorem dX5_finds_51 : decode cX5_finds 51 = .ok (.iconst 1, 1) := by decide +kernel
theorem dX5_finds_52 : decode cX5_finds 52 = .ok (.laload, 1) := by decide +kernel
theorem dX5_finds_53 : decode cX5_finds 53 = .ok (.lconst 0, 1) := by decide +kernel
theorem dX5_finds_54 : decode cX5_finds 54 = .ok (.lcmp, 1) := by decide +kernel
theorem dX5_finds_55 : decode cX5_finds 55 = .ok (.ifCond .ne 21, 3) := by decide +kernel
theorem dX5_finds_58 : decode cX5_finds 58 = .ok (.aload_n 0, 1) := by decide +kernel
theorem dX5_finds_59 : decode cX5_finds 59 = .ok (.getfield 20, 3) := by decide +kernel
theorem dX5_finds_62 : decode cX5_finds 62 = .ok (.iconst 2, 1) := by decide +kernel
theorem dX5_finds_63 : decode cX5_finds 63 = .ok (.laload, 1) := by decide +kernel
theorem dX5_finds_64 : decode cX5_finds 64 = .ok (.lconst 0, 1) := by decide +kernel
theorem dX5_finds_65 : decode cX5_finds 65 = .ok (.lcmp, 1) := by decide +kernel
theorem dX5_finds_66 : decode cX5_finds 66 = .ok (.ifCond .ne 10, 3) := by decide +kernel
theorem dX5_finds_69 : decode cX5_finds 69 = .ok (.aload_n 0, 1) := by decide +kernel
theorem dX5_finds_70 : decode cX5_finds 70 = .ok (.iconst 0, 1) := by decide +kernel
theorem dX5_finds_71 : decode cX5_finds 71 = .ok (.putfield 111, 3) := by decide +kernel
theorem dX5_finds_74 : decode cX5_finds 74 = .ok (.iconst 1, 1) := by decide +kernel
theorem dX5_finds_75 : decode cX5_finds 75 = .ok (.ireturn, 1) := by decide +kernel
theorem dX5_finds_76 : decode cX5_finds 76 = .ok (.iconst 0, 1) := by decide +kernel
theorem dX5_finds_77 : decode cX5_finds 77 = .ok (.istore_n 1, 1) := by decide +kernel
theorem dX5_finds_78 : decode cX5_finds 78 = .ok (.iload_n 1, 1) := by decide +kernel
theorem dX5_finds_79 : decode cX5_finds 79 = .ok (.aload_n 0, 1) := by decide +kernel
theorem dX5_finds_80 : decode cX5_finds 80 = .ok (.getfield 7, 3) := by decide +kernel
theorem dX5_finds_83 : decode cX5_finds 83 = .ok (.iconst 0, 1) := by decide +kernel
theorem dX5_finds_84 : decode cX5_finds 84 = .ok (.iaload, 1) := by decide +kernel
theorem dX5_finds_85 : decode cX5_finds 85 = .ok (.if_icmp .ge 80, 3) := by decide +kernel
theorem dX5_finds_88 : decode cX5_finds 88 = .ok (.iload_n 1, 1) := by decide +kernel
theorem dX5_finds_89 : decode cX5_finds 89 = .ok (.iconst 1, 1) := by decide +kernel
theorem dX5_finds_90 : decode cX5_finds 90 = .ok (.iadd, 1) := by decide +kernel
theorem dX5_finds_91 : decode cX5_finds 91 = .ok (.istore_n 2, 1) := by decide +kernel
theorem dX5_finds_92 : decode cX5_finds 92 = .ok (.iload_n 2, 1) := by decide +kernel
theorem dX5_finds_93 : decode cX5_finds 93 = .ok (.aload_n 0, 1) := by decide +kernel
theorem dX5_finds_94 : decode cX5_finds 94 = .ok (.getfield 7, 3) := by decide +kernel
theorem dX5_finds_97 : decode cX5_finds 97 = .ok (.iconst 0, 1) := by decide +kernel
theorem dX5_finds_98 : decode cX5_finds 98 = .ok (.iaload, 1) := by decide +kernel
theorem dX5_finds_99 : decode cX5_finds 99 = .ok (.if_icmp .ge 60, 3) := by decide +kernel
theorem dX5_finds_102 : decode cX5_finds 102 = .ok (.iload_n 2, 1) := by decide +kernel
theorem dX5_finds_103 : decode cX5_finds 103 = .ok (.iconst 1, 1) := by decide +kernel
theorem dX5_finds_104 : decode cX5_finds 104 = .ok (.iadd, 1) := by decide +kernel
theorem dX5_finds_105 : decode cX5_finds 105 = .ok (.istore_n 3, 1) := by decide +kernel
theorem dX5_finds_106 : decode cX5_finds 106 = .ok (.iload_n 3, 1) := by decide +kernel
theorem dX5_finds_107 : decode cX5_finds 107 = .ok (.aload_n 0, 1) := by decide +kernel
theorem dX5_finds_108 : decode cX5_finds 108 = .ok (.getfield 7, 3) := by decide +kernel
theorem dX5_finds_111 : decode cX5_finds 111 = .ok (.iconst 0, 1) := by decide +kernel
theorem dX5_finds_112 : decode cX5_finds 112 = .ok (.iaload, 1) := by decide +kernel
theorem dX5_finds_113 : decode cX5_finds 113 = .ok (.if_icmp .ge 40, 3) := by decide +kernel
theorem dX5_finds_116 : decode cX5_finds 116 = .ok (.aload_n 0, 1) := by decide +kernel
theorem dX5_finds_117 : decode cX5_finds 117 = .ok (.iload_n 1, 1) := by decide +kernel
theorem dX5_finds_118 : decode cX5_finds 118 = .ok (.invokevirtual 72, 3) := by decide +kernel
theorem dX5_finds_121 : decode cX5_finds 121 = .ok (.ifCond .eq 26, 3) := by decide +kernel
theorem dX5_finds_124 : decode cX5_finds 124 = .ok (.aload_n 0, 1) := by decide +kernel
theorem dX5_finds_125 : decode cX5_finds 125 = .ok (.iload_n 2, 1) := by decide +kernel
theorem dX5_finds_126 : decode cX5_finds 126 = .ok (.invokevirtual 72, 3) := by decide +kernel
theorem dX5_finds_129 : decode cX5_finds 129 = .ok (.ifCond .eq 18, 3) := by decide +kernel
theorem dX5_finds_132 : decode cX5_finds 132 = .ok (.aload_n 0, 1) := by decide +kernel
theorem dX5_finds_133 : decode cX5_finds 133 = .ok (.iload_n 3, 1) := by decide +kernel
theorem dX5_finds_134 : decode cX5_finds 134 = .ok (.invokevirtual 72, 3) := by decide +kernel
theorem dX5_finds_137 : decode cX5_finds 137 = .ok (.ifCond .eq 10, 3) := by decide +kernel
theorem dX5_finds_140 : decode cX5_finds 140 = .ok (.aload_n 0, 1) := by decide +kernel
theorem dX5_finds_141 : decode cX5_finds 141 = .ok (.iload_n 1, 1) := by decide +kernel
theorem dX5_finds_142 : decode cX5_finds 142 = .ok (.iload_n 2, 1) := by decide +kernel
theorem dX5_finds_143 : decode cX5_finds 143 = .ok (.iload_n 3, 1) := by decide +kernel
theorem dX5_finds_144 : decode cX5_finds 144 = .ok (.invokevirtual 121, 3) := by decide +kernel
theorem dX5_finds_147 : decode cX5_finds 147 = .ok (.iinc 3 1, 3) := by decide +kernel
theorem dX5_finds_150 : decode cX5_finds 150 = .ok (.goto (-44), 3) := by decide +kernel
theorem dX5_finds_153 : decode cX5_finds 153 = .ok (.iinc 2 1, 3) := by decide +kernel
theorem dX5_finds_156 : decode cX5_finds 156 = .ok (.goto (-64), 3) := by decide +kernel
theorem dX5_finds_159 : decode cX5_finds 159 = .ok (.iinc 1 1, 3) := by decide +kernel
theorem dX5_finds_162 : decode cX5_finds 162 = .ok (.goto (-84), 3) := by decide +kernel
theorem dX5_finds_165 : decode cX5_finds 165 = .ok (.aload_n 0, 1) := by decide +kernel
theorem dX5_finds_166 : decode cX5_finds 166 = .ok (.getfield 111, 3) := by decide +kernel
theorem dX5_finds_169 : decode cX5_finds 169 = .ok (.ifCond .lt 7, 3) := by decide +kernel
theorem dX5_finds_172 : decode cX5_finds 172 = .ok (.iconst 1, 1) := by decide +kernel
theorem dX5_finds_173 : decode cX5_finds 173 = .ok (.goto 4, 3) := by decide +kernel
theorem dX5_finds_176 : decode cX5_finds 176 = .ok (.iconst 0, 1) := by decide +kernel
theorem dX5_finds_177 : decode cX5_finds 177 = .ok (.ireturn, 1) := by decide +kernel
theorem dX5_pulseOf_0 : decode cX5_pulseOf 0 = .ok (.ldc2_w 125, 3) := by decide +kernel
theorem dX5_pulseOf_3 : decode cX5_pulseOf 3 = .ok (.aload_n 0, 1) := by decide +kernel
theorem dX5_pulseOf_4 : decode cX5_pulseOf 4 = .ok (.getfield 23, 3) := by decide +kernel
theorem dX5_pulseOf_7 : decode cX5_pulseOf 7 = .ok (.iload_n 1, 1) := by decide +kernel
theorem dX5_pulseOf_8 : decode cX5_pulseOf 8 = .ok (.laload, 1) := by decide +kernel
theorem dX5_pulseOf_9 : decode cX5_pulseOf 9 = .ok (.lmul, 1) := by decide +kernel
theorem dX5_pulseOf_10 : decode cX5_pulseOf 10 = .ok (.aload_n 0, 1) := by decide +kernel
theorem dX5_pulseOf_11 : decode cX5_pulseOf 11 = .ok (.getfield 114, 3) := by decide +kernel
theorem dX5_pulseOf_14 : decode cX5_pulseOf 14 = .ok (.ladd, 1) := by decide +kernel
theorem dX5_pulseOf_15 : decode cX5_pulseOf 15 = .ok (.ldc2_w 125, 3) := by decide +kernel
theorem dX5_pulseOf_18 : decode cX5_pulseOf 18 = .ok (.aload_n 0, 1) := by decide +kernel
theorem dX5_pulseOf_19 : decode cX5_pulseOf 19 = .ok (.getfield 114, 3) := by decide +kernel
theorem dX5_pulseOf_22 : decode cX5_pulseOf 22 = .ok (.lmul, 1) := by decide +kernel
theorem dX5_pulseOf_23 : decode cX5_pulseOf 23 = .ok (.ldiv, 1) := by decide +kernel
theorem dX5_pulseOf_24 : decode cX5_pulseOf 24 = .ok (.l2i, 1) := by decide +kernel
theorem dX5_pulseOf_25 : decode cX5_pulseOf 25 = .ok (.istore_n 2, 1) := by decide +kernel
theorem dX5_pulseOf_26 : decode cX5_pulseOf 26 = .ok (.aload_n 0, 1) := by decide +kernel
theorem dX5_pulseOf_27 : decode cX5_pulseOf 27 = .ok (.iload_n 1, 1) := by decide +kernel
theorem dX5_pulseOf_28 : decode cX5_pulseOf 28 = .ok (.iconst 5, 1) := by decide +kernel
theorem dX5_pulseOf_29 : decode cX5_pulseOf 29 = .ok (.invokevirtual 48, 3) := by decide +kernel
theorem dX5_pulseOf_32 : decode cX5_pulseOf 32 = .ok (.istore_n 3, 1) := by decide +kernel
theorem dX5_pulseOf_33 : decode cX5_pulseOf 33 = .ok (.aload_n 0, 1) := by decide +kernel
theorem dX5_pulseOf_34 : decode cX5_pulseOf 34 = .ok (.getfield 23, 3) := by decide +kernel
theorem dX5_pulseOf_37 : decode cX5_pulseOf 37 = .ok (.iload_n 1, 1) := by decide +kernel
theorem dX5_pulseOf_38 : decode cX5_pulseOf 38 = .ok (.laload, 1) := by decide +kernel
theorem dX5_pulseOf_39 : decode cX5_pulseOf 39 = .ok (.lconst 0, 1) := by decide +kernel
theorem dX5_pulseOf_40 : decode cX5_pulseOf 40 = .ok (.lcmp, 1) := by decide +kernel
theorem dX5_pulseOf_41 : decode cX5_pulseOf 41 = .ok (.ifCond .ne 7, 3) := by decide +kernel
theorem dX5_pulseOf_44 : decode cX5_pulseOf 44 = .ok (.iconst 0, 1) := by decide +kernel
theorem dX5_pulseOf_45 : decode cX5_pulseOf 45 = .ok (.goto 38, 3) := by decide +kernel
theorem dX5_pulseOf_48 : decode cX5_pulseOf 48 = .ok (.iload_n 2, 1) := by decide +kernel
theorem dX5_pulseOf_49 : decode cX5_pulseOf 49 = .ok (.iload_n 3, 1) := by decide +kernel
theorem dX5_pulseOf_50 : decode cX5_pulseOf 50 = .ok (.if_icmp .lt 7, 3) := by decide +kernel
theorem dX5_pulseOf_53 : decode cX5_pulseOf 53 = .ok (.iload_n 2, 1) := by decide +kernel
theorem dX5_pulseOf_54 : decode cX5_pulseOf 54 = .ok (.goto 29, 3) := by decide +kernel
theorem dX5_pulseOf_57 : decode cX5_pulseOf 57 = .ok (.ldc2_w 125, 3) := by decide +kernel
theorem dX5_pulseOf_60 : decode cX5_pulseOf 60 = .ok (.aload_n 0, 1) := by decide +kernel
theorem dX5_pulseOf_61 : decode cX5_pulseOf 61 = .ok (.getfield 23, 3) := by decide +kernel
theorem dX5_pulseOf_64 : decode cX5_pulseOf 64 = .ok (.iload_n 1, 1) := by decide +kernel
theorem dX5_pulseOf_65 : decode cX5_pulseOf 65 = .ok (.laload, 1) := by decide +kernel
theorem dX5_pulseOf_66 : decode cX5_pulseOf 66 = .ok (.lmul, 1) := by decide +kernel
theorem dX5_pulseOf_67 : decode cX5_pulseOf 67 = .ok (.iload_n 3, 1) := by decide +kernel
theorem dX5_pulseOf_68 : decode cX5_pulseOf 68 = .ok (.i2l, 1) := by decide +kernel
theorem dX5_pulseOf_69 : decode cX5_pulseOf 69 = .ok (.aload_n 0, 1) := by decide +kernel
theorem dX5_pulseOf_70 : decode cX5_pulseOf 70 = .ok (.getfield 114, 3) := by decide +kernel
theorem dX5_pulseOf_73 : decode cX5_pulseOf 73 = .ok (.lmul, 1) := by decide +kernel
theorem dX5_pulseOf_74 : decode cX5_pulseOf 74 = .ok (.lcmp, 1) := by decide +kernel
theorem dX5_pulseOf_75 : decode cX5_pulseOf 75 = .ok (.ifCond .lt 7, 3) := by decide +kernel
theorem dX5_pulseOf_78 : decode cX5_pulseOf 78 = .ok (.iload_n 3, 1) := by decide +kernel
theorem dX5_pulseOf_79 : decode cX5_pulseOf 79 = .ok (.goto 4, 3) := by decide +kernel
theorem dX5_pulseOf_82 : decode cX5_pulseOf 82 = .ok (.iconst 0, 1) := by decide +kernel
theorem dX5_pulseOf_83 : decode cX5_pulseOf 83 = .ok (.ireturn, 1) := by decide +kernel
theorem dX5_isTarget_0 : decode cX5_isTarget 0 = .ok (.iload_n 0, 1) := by decide +kernel
theorem dX5_isTarget_1 : decode cX5_isTarget 1 = .ok (.ldc 127, 2) := by decide +kernel
theorem dX5_isTarget_3 : decode cX5_isTarget 3 = .ok (.ldc 128, 2) := by decide +kernel
theorem dX5_isTarget_5 : decode cX5_isTarget 5 = .ok (.invokestatic 44, 3) := by decide +kernel
theorem dX5_isTarget_8 : decode cX5_isTarget 8 = .ok (.ifCond .eq 29, 3) := by decide +kernel
theorem dX5_isTarget_11 : decode cX5_isTarget 11 = .ok (.iload_n 1, 1) := by decide +kernel
theorem dX5_isTarget_12 : decode cX5_isTarget 12 = .ok (.ldc 127, 2) := by decide +kernel
theorem dX5_isTarget_14 : decode cX5_isTarget 14 = .ok (.ldc 128, 2) := by decide +kernel
theorem dX5_isTarget_16 : decode cX5_isTarget 16 = .ok (.invokestatic 44, 3) := by decide +kernel
theorem dX5_isTarget_19 : decode cX5_isTarget 19 = .ok (.ifCond .eq 18, 3) := by decide +kernel
theorem dX5_isTarget_22 : decode cX5_isTarget 22 = .ok (.iload_n 2, 1) := by decide +kernel
theorem dX5_isTarget_23 : decode cX5_isTarget 23 = .ok (.ldc 127, 2) := by decide +kernel
theorem dX5_isTarget_25 : decode cX5_isTarget 25 = .ok (.ldc 128, 2) := by decide +kernel
theorem dX5_isTarget_27 : decode cX5_isTarget 27 = .ok (.invokestatic 44, 3) := by decide +kernel
theorem dX5_isTarget_30 : decode cX5_isTarget 30 = .ok (.ifCond .eq 7, 3) := by decide +kernel
theorem dX5_isTarget_33 : decode cX5_isTarget 33 = .ok (.iconst 1, 1) := by decide +kernel
theorem dX5_isTarget_34 : decode cX5_isTarget 34 = .ok (.goto 4, 3) := by decide +kernel
theorem dX5_isTarget_37 : decode cX5_isTarget 37 = .ok (.iconst 0, 1) := by decide +kernel
theorem dX5_isTarget_38 : decode cX5_isTarget 38 = .ok (.ireturn, 1) := by decide +kernel
theorem dX5_select_0 : decode cX5_select 0 = .ok (.iload_n 1, 1) := by decide +kernel
theorem dX5_select_1 : decode cX5_select 1 = .ok (.iload_n 2, 1) := by decide +kernel
theorem dX5_select_2 : decode cX5_select 2 = .ok (.iload_n 3, 1) := by decide +kernel
theorem dX5_select_3 : decode cX5_select 3 = .ok (.invokestatic 129, 3) := by decide +kernel
theorem dX5_select_6 : decode cX5_select 6 = .ok (.ifCond .ne 6, 3) := by decide +kernel
theorem dX5_select_9 : decode cX5_select 9 = .ok (.ldc 64, 2) := by decide +kernel
theorem dX5_select_11 : decode cX5_select 11 = .ok (.ireturn, 1) := by decide +kernel
theorem dX5_select_12 : decode cX5_select 12 = .ok (.aload_n 0, 1) := by decide +kernel
theorem dX5_select_13 : decode cX5_select 13 = .ok (.iload_n 1, 1) := by decide +kernel
theorem dX5_select_14 : decode cX5_select 14 = .ok (.iload_n 2, 1) := by decide +kernel
theorem dX5_select_15 : decode cX5_select 15 = .ok (.iload_n 3, 1) := by decide +kernel
theorem dX5_select_16 : decode cX5_select 16 = .ok (.invokevirtual 132, 3) := by decide +kernel
theorem dX5_select_19 : decode cX5_select 19 = .ok (.aload_n 0, 1) := by decide +kernel
theorem dX5_select_20 : decode cX5_select 20 = .ok (.invokevirtual 135, 3) := by decide +kernel
theorem dX5_select_23 : decode cX5_select 23 = .ok (.ifCond .eq 10, 3) := by decide +kernel
theorem dX5_select_26 : decode cX5_select 26 = .ok (.aload_n 0, 1) := by decide +kernel
theorem dX5_select_27 : decode cX5_select 27 = .ok (.getfield 111, 3) := by decide +kernel
theorem dX5_select_30 : decode cX5_select 30 = .ok (.goto 5, 3) := by decide +kernel
theorem dX5_select_33 : decode cX5_select 33 = .ok (.ldc 139, 2) := by decide +kernel
theorem dX5_select_35 : decode cX5_select 35 = .ok (.ireturn, 1) := by decide +kernel
theorem dX5_pulse_0 : decode cX5_pulse 0 = .ok (.aload_n 0, 1) := by decide +kernel
theorem dX5_pulse_1 : decode cX5_pulse 1 = .ok (.iload 4, 2) := by decide +kernel
theorem dX5_pulse_3 : decode cX5_pulse 3 = .ok (.invokevirtual 69, 3) := by decide +kernel
theorem dX5_pulse_6 : decode cX5_pulse 6 = .ok (.ifCond .ne 6, 3) := by decide +kernel
theorem dX5_pulse_9 : decode cX5_pulse 9 = .ok (.ldc 63, 2) := by decide +kernel
theorem dX5_pulse_11 : decode cX5_pulse 11 = .ok (.ireturn, 1) := by decide +kernel
theorem dX5_pulse_12 : decode cX5_pulse 12 = .ok (.iload_n 1, 1) := by decide +kernel
theorem dX5_pulse_13 : decode cX5_pulse 13 = .ok (.iload_n 2, 1) := by decide +kernel
theorem dX5_pulse_14 : decode cX5_pulse 14 = .ok (.iload_n 3, 1) := by decide +kernel
theorem dX5_pulse_15 : decode cX5_pulse 15 = .ok (.invokestatic 129, 3) := by decide +kernel
theorem dX5_pulse_18 : decode cX5_pulse 18 = .ok (.ifCond .ne 6, 3) := by decide +kernel
theorem dX5_pulse_21 : decode cX5_pulse 21 = .ok (.ldc 64, 2) := by decide +kernel
theorem dX5_pulse_23 : decode cX5_pulse 23 = .ok (.ireturn, 1) := by decide +kernel
theorem dX5_pulse_24 : decode cX5_pulse 24 = .ok (.aload_n 0, 1) := by decide +kernel
theorem dX5_pulse_25 : decode cX5_pulse 25 = .ok (.iload_n 1, 1) := by decide +kernel
theorem dX5_pulse_26 : decode cX5_pulse 26 = .ok (.iload_n 2, 1) := by decide +kernel
theorem dX5_pulse_27 : decode cX5_pulse 27 = .ok (.iload_n 3, 1) := by decide +kernel
theorem dX5_pulse_28 : decode cX5_pulse 28 = .ok (.invokevirtual 132, 3) := by decide +kernel
theorem dX5_pulse_31 : decode cX5_pulse 31 = .ok (.aload_n 0, 1) := by decide +kernel
theorem dX5_pulse_32 : decode cX5_pulse 32 = .ok (.invokevirtual 135, 3) := by decide +kernel
theorem dX5_pulse_35 : decode cX5_pulse 35 = .ok (.ifCond .eq 12, 3) := by decide +kernel
theorem dX5_pulse_38 : decode cX5_pulse 38 = .ok (.aload_n 0, 1) := by decide +kernel
theorem dX5_pulse_39 : decode cX5_pulse 39 = .ok (.iload 4, 2) := by decide +kernel
theorem dX5_pulse_41 : decode cX5_pulse 41 = .ok (.invokevirtual 140, 3) := by decide +kernel
theorem dX5_pulse_44 : decode cX5_pulse 44 = .ok (.goto 5, 3) := by decide +kernel
theorem dX5_pulse_47 : decode cX5_pulse 47 = .ok (.ldc 139, 2) := by decide +kernel
theorem dX5_pulse_49 : decode cX5_pulse 49 = .ok (.ireturn, 1) := by decide +kernel
theorem dX5_price_0 : decode cX5_price 0 = .ok (.iload_n 1, 1) := by decide +kernel
theorem dX5_price_1 : decode cX5_price 1 = .ok (.iload_n 2, 1) := by decide +kernel
theorem dX5_price_2 : decode cX5_price 2 = .ok (.iload_n 3, 1) := by decide +kernel
theorem dX5_price_3 : decode cX5_price 3 = .ok (.invokestatic 129, 3) := by decide +kernel
theorem dX5_price_6 : decode cX5_price 6 = .ok (.ifCond .ne 6, 3) := by decide +kernel
theorem dX5_price_9 : decode cX5_price 9 = .ok (.ldc 64, 2) := by decide +kernel
theorem dX5_price_11 : decode cX5_price 11 = .ok (.ireturn, 1) := by decide +kernel
theorem dX5_price_12 : decode cX5_price 12 = .ok (.aload_n 0, 1) := by decide +kernel
theorem dX5_price_13 : decode cX5_price 13 = .ok (.iload_n 1, 1) := by decide +kernel
theorem dX5_price_14 : decode cX5_price 14 = .ok (.iload_n 2, 1) := by decide +kernel
theorem dX5_price_15 : decode cX5_price 15 = .ok (.iload_n 3, 1) := by decide +kernel
theorem dX5_price_16 : decode cX5_price 16 = .ok (.invokevirtual 132, 3) := by decide +kernel
theorem dX5_price_19 : decode cX5_price 19 = .ok (.aload_n 0, 1) := by decide +kernel
theorem dX5_price_20 : decode cX5_price 20 = .ok (.invokevirtual 135, 3) := by decide +kernel
theorem dX5_price_23 : decode cX5_price 23 = .ok (.ifCond .eq 20, 3) := by decide +kernel
theorem dX5_price_26 : decode cX5_price 26 = .ok (.ldc2_w 143, 3) := by decide +kernel
theorem dX5_price_29 : decode cX5_price 29 = .ok (.aload_n 0, 1) := by decide +kernel
theorem dX5_price_30 : decode cX5_price 30 = .ok (.getfield 118, 3) := by decide +kernel
theorem dX5_price_33 : decode cX5_price 33 = .ok (.lmul, 1) := by decide +kernel
theorem dX5_price_34 : decode cX5_price 34 = .ok (.aload_n 0, 1) := by decide +kernel
theorem dX5_price_35 : decode cX5_price 35 = .ok (.getfield 114, 3) := by decide +kernel
theorem dX5_price_38 : decode cX5_price 38 = .ok (.ldiv, 1) := by decide +kernel
theorem dX5_price_39 : decode cX5_price 39 = .ok (.l2i, 1) := by decide +kernel
theorem dX5_price_40 : decode cX5_price 40 = .ok (.goto 5, 3) := by decide +kernel
theorem dX5_price_43 : decode cX5_price 43 = .ok (.ldc 139, 2) := by decide +kernel
theorem dX5_price_45 : decode cX5_price 45 = .ok (.ireturn, 1) := by decide +kernel
theorem dX5_isRequest_0 : decode cX5_isRequest 0 = .ok (.iload_n 0, 1) := by decide +kernel
theorem dX5_isRequest_1 : decode cX5_isRequest 1 = .ok (.sipush (-2000), 3) := by decide +kernel
theorem dX5_isRequest_4 : decode cX5_isRequest 4 = .ok (.sipush 2000, 3) := by decide +kernel
theorem dX5_isRequest_7 : decode cX5_isRequest 7 = .ok (.invokestatic 44, 3) := by decide +kernel
theorem dX5_isRequest_10 : decode cX5_isRequest 10 = .ok (.ifCond .eq 33, 3) := by decide +kernel
theorem dX5_isRequest_13 : decode cX5_isRequest 13 = .ok (.iload_n 1, 1) := by decide +kernel
theorem dX5_isRequest_14 : decode cX5_isRequest 14 = .ok (.sipush (-2000), 3) := by decide +kernel
theorem dX5_isRequest_17 : decode cX5_isRequest 17 = .ok (.sipush 2000, 3) := by decide +kernel
theorem dX5_isRequest_20 : decode cX5_isRequest 20 = .ok (.invokestatic 44, 3) := by decide +kernel
theorem dX5_isRequest_23 : decode cX5_isRequest 23 = .ok (.ifCond .eq 20, 3) := by decide +kernel
theorem dX5_isRequest_26 : decode cX5_isRequest 26 = .ok (.iload_n 2, 1) := by decide +kernel
theorem dX5_isRequest_27 : decode cX5_isRequest 27 = .ok (.sipush (-2000), 3) := by decide +kernel
theorem dX5_isRequest_30 : decode cX5_isRequest 30 = .ok (.sipush 2000, 3) := by decide +kernel
theorem dX5_isRequest_33 : decode cX5_isRequest 33 = .ok (.invokestatic 44, 3) := by decide +kernel
theorem dX5_isRequest_36 : decode cX5_isRequest 36 = .ok (.ifCond .eq 7, 3) := by decide +kernel
theorem dX5_isRequest_39 : decode cX5_isRequest 39 = .ok (.iconst 1, 1) := by decide +kernel
theorem dX5_isRequest_40 : decode cX5_isRequest 40 = .ok (.goto 4, 3) := by decide +kernel
theorem dX5_isRequest_43 : decode cX5_isRequest 43 = .ok (.iconst 0, 1) := by decide +kernel
theorem dX5_isRequest_44 : decode cX5_isRequest 44 = .ok (.ireturn, 1) := by decide +kernel
theorem dX5_puts_0 : decode cX5_puts 0 = .ok (.iconst 3, 1) := by decide +kernel
theorem dX5_puts_1 : decode cX5_puts 1 = .ok (.aload_n 0, 1) := by decide +kernel
theorem dX5_puts_2 : decode cX5_puts 2 = .ok (.getfield 7, 3) := by decide +kernel
theorem dX5_puts_5 : decode cX5_puts 5 = .ok (.bipush 68, 2) := by decide +kernel
theorem dX5_puts_7 : decode cX5_puts 7 = .ok (.iaload, 1) := by decide +kernel
theorem dX5_puts_8 : decode cX5_puts 8 = .ok (.imul, 1) := by decide +kernel
theorem dX5_puts_9 : decode cX5_puts 9 = .ok (.iconst 2, 1) := by decide +kernel
theorem dX5_puts_10 : decode cX5_puts 10 = .ok (.iadd, 1) := by decide +kernel
theorem dX5_puts_11 : decode cX5_puts 11 = .ok (.istore 5, 2) := by decide +kernel
theorem dX5_puts_13 : decode cX5_puts 13 = .ok (.iload 5, 2) := by decide +kernel
theorem dX5_puts_15 : decode cX5_puts 15 = .ok (.iconst 3, 1) := by decide +kernel
theorem dX5_puts_16 : decode cX5_puts 16 = .ok (.iload_n 1, 1) := by decide +kernel
theorem dX5_puts_17 : decode cX5_puts 17 = .ok (.imul, 1) := by decide +kernel
theorem dX5_puts_18 : decode cX5_puts 18 = .ok (.iconst 2, 1) := by decide +kernel
theorem dX5_puts_19 : decode cX5_puts 19 = .ok (.iadd, 1) := by decide +kernel
theorem dX5_puts_20 : decode cX5_puts 20 = .ok (.if_icmp .le 31, 3) := by decide +kernel
theorem dX5_puts_23 : decode cX5_puts 23 = .ok (.aload_n 0, 1) := by decide +kernel
theorem dX5_puts_24 : decode cX5_puts 24 = .ok (.getfield 7, 3) := by decide +kernel
theorem dX5_puts_27 : decode cX5_puts 27 = .ok (.bipush 69, 2) := by decide +kernel
theorem dX5_puts_29 : decode cX5_puts 29 = .ok (.iload 5, 2) := by decide +kernel
theorem dX5_puts_31 : decode cX5_puts 31 = .ok (.iadd, 1) := by decide +kernel
theorem dX5_puts_32 : decode cX5_puts 32 = .ok (.aload_n 0, 1) := by decide +kernel
theorem dX5_puts_33 : decode cX5_puts 33 = .ok (.getfield 7, 3) := by decide +kernel
theorem dX5_puts_36 : decode cX5_puts 36 = .ok (.bipush 69, 2) := by decide +kernel
theorem dX5_puts_38 : decode cX5_puts 38 = .ok (.iload 5, 2) := by decide +kernel
theorem dX5_puts_40 : decode cX5_puts 40 = .ok (.iadd, 1) := by decide +kernel
theorem dX5_puts_41 : decode cX5_puts 41 = .ok (.iconst 3, 1) := by decide +kernel
theorem dX5_puts_42 : decode cX5_puts 42 = .ok (.isub, 1) := by decide +kernel
theorem dX5_puts_43 : decode cX5_puts 43 = .ok (.iaload, 1) := by decide +kernel
theorem dX5_puts_44 : decode cX5_puts 44 = .ok (.iastore, 1) := by decide +kernel
theorem dX5_puts_45 : decode cX5_puts 45 = .ok (.iinc 5 (-1), 3) := by decide +kernel
theorem dX5_puts_48 : decode cX5_puts 48 = .ok (.goto (-35), 3) := by decide +kernel
theorem dX5_puts_51 : decode cX5_puts 51 = .ok (.aload_n 0, 1) := by decide +kernel
theorem dX5_puts_52 : decode cX5_puts 52 = .ok (.getfield 7, 3) := by decide +kernel
theorem dX5_puts_55 : decode cX5_puts 55 = .ok (.bipush 69, 2) := by decide +kernel
theorem dX5_puts_57 : decode cX5_puts 57 = .ok (.iconst 3, 1) := by decide +kernel
theorem dX5_puts_58 : decode cX5_puts 58 = .ok (.iload_n 1, 1) := by decide +kernel
theorem dX5_puts_59 : decode cX5_puts 59 = .ok (.imul, 1) := by decide +kernel
theorem dX5_puts_60 : decode cX5_puts 60 = .ok (.iadd, 1) := by decide +kernel
theorem dX5_puts_61 : decode cX5_puts 61 = .ok (.iload_n 2, 1) := by decide +kernel
theorem dX5_puts_62 : decode cX5_puts 62 = .ok (.iastore, 1) := by decide +kernel
theorem dX5_puts_63 : decode cX5_puts 63 = .ok (.aload_n 0, 1) := by decide +kernel
theorem dX5_puts_64 : decode cX5_puts 64 = .ok (.getfield 7, 3) := by decide +kernel
theorem dX5_puts_67 : decode cX5_puts 67 = .ok (.bipush 69, 2) := by decide +kernel
theorem dX5_puts_69 : decode cX5_puts 69 = .ok (.iconst 3, 1) := by decide +kernel
theorem dX5_puts_70 : decode cX5_puts 70 = .ok (.iload_n 1, 1) := by decide +kernel
theorem dX5_puts_71 : decode cX5_puts 71 = .ok (.imul, 1) := by decide +kernel
theorem dX5_puts_72 : decode cX5_puts 72 = .ok (.iadd, 1) := by decide +kernel
theorem dX5_puts_73 : decode cX5_puts 73 = .ok (.iconst 1, 1) := by decide +kernel
theorem dX5_puts_74 : decode cX5_puts 74 = .ok (.iadd, 1) := by decide +kernel
theorem dX5_puts_75 : decode cX5_puts 75 = .ok (.iload_n 3, 1) := by decide +kernel
theorem dX5_puts_76 : decode cX5_puts 76 = .ok (.iastore, 1) := by decide +kernel
theorem dX5_puts_77 : decode cX5_puts 77 = .ok (.aload_n 0, 1) := by decide +kernel
theorem dX5_puts_78 : decode cX5_puts 78 = .ok (.getfield 7, 3) := by decide +kernel
theorem dX5_puts_81 : decode cX5_puts 81 = .ok (.bipush 69, 2) := by decide +kernel
theorem dX5_puts_83 : decode cX5_puts 83 = .ok (.iconst 3, 1) := by decide +kernel
theorem dX5_puts_84 : decode cX5_puts 84 = .ok (.iload_n 1, 1) := by decide +kernel
theorem dX5_puts_85 : decode cX5_puts 85 = .ok (.imul, 1) := by decide +kernel
theorem dX5_puts_86 : decode cX5_puts 86 = .ok (.iadd, 1) := by decide +kernel
theorem dX5_puts_87 : decode cX5_puts 87 = .ok (.iconst 2, 1) := by decide +kernel
theorem dX5_puts_88 : decode cX5_puts 88 = .ok (.iadd, 1) := by decide +kernel
theorem dX5_puts_89 : decode cX5_puts 89 = .ok (.iload 4, 2) := by decide +kernel
theorem dX5_puts_91 : decode cX5_puts 91 = .ok (.iastore, 1) := by decide +kernel
theorem dX5_puts_92 : decode cX5_puts 92 = .ok (.aload_n 0, 1) := by decide +kernel
theorem dX5_puts_93 : decode cX5_puts 93 = .ok (.getfield 7, 3) := by decide +kernel
theorem dX5_puts_96 : decode cX5_puts 96 = .ok (.bipush 68, 2) := by decide +kernel
theorem dX5_puts_98 : decode cX5_puts 98 = .ok (.dup2, 1) := by decide +kernel
theorem dX5_puts_99 : decode cX5_puts 99 = .ok (.iaload, 1) := by decide +kernel
theorem dX5_puts_100 : decode cX5_puts 100 = .ok (.iconst 1, 1) := by decide +kernel
theorem dX5_puts_101 : decode cX5_puts 101 = .ok (.iadd, 1) := by decide +kernel
theorem dX5_puts_102 : decode cX5_puts 102 = .ok (.iastore, 1) := by decide +kernel
theorem dX5_puts_103 : decode cX5_puts 103 = .ok (.return_, 1) := by decide +kernel
theorem dX5_takes_0 : decode cX5_takes 0 = .ok (.aload_n 0, 1) := by decide +kernel
theorem dX5_takes_1 : decode cX5_takes 1 = .ok (.getfield 7, 3) := by decide +kernel
theorem dX5_takes_4 : decode cX5_takes 4 = .ok (.bipush 68, 2) := by decide +kernel
theorem dX5_takes_6 : decode cX5_takes 6 = .ok (.dup2, 1) := by decide +kernel
theorem dX5_takes_7 : decode cX5_takes 7 = .ok (.iaload, 1) := by decide +kernel
theorem dX5_takes_8 : decode cX5_takes 8 = .ok (.iconst 1, 1) := by decide +kernel
theorem dX5_takes_9 : decode cX5_takes 9 = .ok (.isub, 1) := by decide +kernel
theorem dX5_takes_10 : decode cX5_takes 10 = .ok (.iastore, 1) := by decide +kernel
theorem dX5_takes_11 : decode cX5_takes 11 = .ok (.iconst 3, 1) := by decide +kernel
theorem dX5_takes_12 : decode cX5_takes 12 = .ok (.iload_n 1, 1) := by decide +kernel
theorem dX5_takes_13 : decode cX5_takes 13 = .ok (.imul, 1) := by decide +kernel
theorem dX5_takes_14 : decode cX5_takes 14 = .ok (.istore_n 2, 1) := by decide +kernel
theorem dX5_takes_15 : decode cX5_takes 15 = .ok (.iload_n 2, 1) := by decide +kernel
theorem dX5_takes_16 : decode cX5_takes 16 = .ok (.iconst 3, 1) := by decide +kernel
theorem dX5_takes_17 : decode cX5_takes 17 = .ok (.aload_n 0, 1) := by decide +kernel
theorem dX5_takes_18 : decode cX5_takes 18 = .ok (.getfield 7, 3) := by decide +kernel
theorem dX5_takes_21 : decode cX5_takes 21 = .ok (.bipush 68, 2) := by decide +kernel
theorem dX5_takes_23 : decode cX5_takes 23 = .ok (.iaload, 1) := by decide +kernel
theorem dX5_takes_24 : decode cX5_takes 24 = .ok (.imul, 1) := by decide +kernel
theorem dX5_takes_25 : decode cX5_takes 25 = .ok (.if_icmp .ge 29, 3) := by decide +kernel
theorem dX5_takes_28 : decode cX5_takes 28 = .ok (.aload_n 0, 1) := by decide +kernel
theorem dX5_takes_29 : decode cX5_takes 29 = .ok (.getfield 7, 3) := by decide +kernel
theorem dX5_takes_32 : decode cX5_takes 32 = .ok (.bipush 69, 2) := by decide +kernel
theorem dX5_takes_34 : decode cX5_takes 34 = .ok (.iload_n 2, 1) := by decide +kernel
theorem dX5_takes_35 : decode cX5_takes 35 = .ok (.iadd, 1) := by decide +kernel
theorem dX5_takes_36 : decode cX5_takes 36 = .ok (.aload_n 0, 1) := by decide +kernel
theorem dX5_takes_37 : decode cX5_takes 37 = .ok (.getfield 7, 3) := by decide +kernel
theorem dX5_takes_40 : decode cX5_takes 40 = .ok (.bipush 69, 2) := by decide +kernel
theorem dX5_takes_42 : decode cX5_takes 42 = .ok (.iload_n 2, 1) := by decide +kernel
theorem dX5_takes_43 : decode cX5_takes 43 = .ok (.iadd, 1) := by decide +kernel
theorem dX5_takes_44 : decode cX5_takes 44 = .ok (.iconst 3, 1) := by decide +kernel
theorem dX5_takes_45 : decode cX5_takes 45 = .ok (.iadd, 1) := by decide +kernel
theorem dX5_takes_46 : decode cX5_takes 46 = .ok (.iaload, 1) := by decide +kernel
theorem dX5_takes_47 : decode cX5_takes 47 = .ok (.iastore, 1) := by decide +kernel
theorem dX5_takes_48 : decode cX5_takes 48 = .ok (.iinc 2 1, 3) := by decide +kernel
theorem dX5_takes_51 : decode cX5_takes 51 = .ok (.goto (-36), 3) := by decide +kernel
theorem dX5_takes_54 : decode cX5_takes 54 = .ok (.return_, 1) := by decide +kernel
theorem dX5_asks_0 : decode cX5_asks 0 = .ok (.iload_n 2, 1) := by decide +kernel
theorem dX5_asks_1 : decode cX5_asks 1 = .ok (.iload_n 3, 1) := by decide +kernel
theorem dX5_asks_2 : decode cX5_asks 2 = .ok (.iload 4, 2) := by decide +kernel
theorem dX5_asks_4 : decode cX5_asks 4 = .ok (.invokestatic 145, 3) := by decide +kernel
theorem dX5_asks_7 : decode cX5_asks 7 = .ok (.ifCond .ne 6, 3) := by decide +kernel
theorem dX5_asks_10 : decode cX5_asks 10 = .ok (.ldc 64, 2) := by decide +kernel
theorem dX5_asks_12 : decode cX5_asks 12 = .ok (.ireturn, 1) := by decide +kernel
theorem dX5_asks_13 : decode cX5_asks 13 = .ok (.aload_n 0, 1) := by decide +kernel
theorem dX5_asks_14 : decode cX5_asks 14 = .ok (.getfield 7, 3) := by decide +kernel
theorem dX5_asks_17 : decode cX5_asks 17 = .ok (.bipush 68, 2) := by decide +kernel
theorem dX5_asks_19 : decode cX5_asks 19 = .ok (.iaload, 1) := by decide +kernel
theorem dX5_asks_20 : decode cX5_asks 20 = .ok (.bipush 10, 2) := by decide +kernel
theorem dX5_asks_22 : decode cX5_asks 22 = .ok (.if_icmp .ne 6, 3) := by decide +kernel
theorem dX5_asks_25 : decode cX5_asks 25 = .ok (.ldc 65, 2) := by decide +kernel
theorem dX5_asks_27 : decode cX5_asks 27 = .ok (.ireturn, 1) := by decide +kernel
theorem dX5_asks_28 : decode cX5_asks 28 = .ok (.aload_n 0, 1) := by decide +kernel
theorem dX5_asks_29 : decode cX5_asks 29 = .ok (.invokevirtual 66, 3) := by decide +kernel
theorem dX5_asks_32 : decode cX5_asks 32 = .ok (.aload_n 0, 1) := by decide +kernel
theorem dX5_asks_33 : decode cX5_asks 33 = .ok (.iload_n 1, 1) := by decide +kernel
theorem dX5_asks_34 : decode cX5_asks 34 = .ok (.ifCond .eq 7, 3) := by decide +kernel
theorem dX5_asks_37 : decode cX5_asks 37 = .ok (.iconst 0, 1) := by decide +kernel
theorem dX5_asks_38 : decode cX5_asks 38 = .ok (.goto 10, 3) := by decide +kernel
theorem dX5_asks_41 : decode cX5_asks 41 = .ok (.aload_n 0, 1) := by decide +kernel
theorem dX5_asks_42 : decode cX5_asks 42 = .ok (.getfield 7, 3) := by decide +kernel
theorem dX5_asks_45 : decode cX5_asks 45 = .ok (.bipush 68, 2) := by decide +kernel
theorem dX5_asks_47 : decode cX5_asks 47 = .ok (.iaload, 1) := by decide +kernel
theorem dX5_asks_48 : decode cX5_asks 48 = .ok (.iload_n 2, 1) := by decide +kernel
theorem dX5_asks_49 : decode cX5_asks 49 = .ok (.iload_n 3, 1) := by decide +kernel
theorem dX5_asks_50 : decode cX5_asks 50 = .ok (.iload 4, 2) := by decide +kernel
theorem dX5_asks_52 : decode cX5_asks 52 = .ok (.invokevirtual 148, 3) := by decide +kernel
theorem dX5_asks_55 : decode cX5_asks 55 = .ok (.aload_n 0, 1) := by decide +kernel
theorem dX5_asks_56 : decode cX5_asks 56 = .ok (.getfield 7, 3) := by decide +kernel
theorem dX5_asks_59 : decode cX5_asks 59 = .ok (.bipush 68, 2) := by decide +kernel
theorem dX5_asks_61 : decode cX5_asks 61 = .ok (.iaload, 1) := by decide +kernel
theorem dX5_asks_62 : decode cX5_asks 62 = .ok (.ireturn, 1) := by decide +kernel
theorem dX5_request_0 : decode cX5_request 0 = .ok (.aload_n 0, 1) := by decide +kernel
theorem dX5_request_1 : decode cX5_request 1 = .ok (.iconst 0, 1) := by decide +kernel
theorem dX5_request_2 : decode cX5_request 2 = .ok (.iload_n 1, 1) := by decide +kernel
theorem dX5_request_3 : decode cX5_request 3 = .ok (.iload_n 2, 1) := by decide +kernel
theorem dX5_request_4 : decode cX5_request 4 = .ok (.iload_n 3, 1) := by decide +kernel
theorem dX5_request_5 : decode cX5_request 5 = .ok (.invokevirtual 152, 3) := by decide +kernel
theorem dX5_request_8 : decode cX5_request 8 = .ok (.ireturn, 1) := by decide +kernel
theorem dX5_urge_0 : decode cX5_urge 0 = .ok (.aload_n 0, 1) := by decide +kernel
theorem dX5_urge_1 : decode cX5_urge 1 = .ok (.iconst 1, 1) := by decide +kernel
theorem dX5_urge_2 : decode cX5_urge 2 = .ok (.iload_n 1, 1) := by decide +kernel
theorem dX5_urge_3 : decode cX5_urge 3 = .ok (.iload_n 2, 1) := by decide +kernel
theorem dX5_urge_4 : decode cX5_urge 4 = .ok (.iload_n 3, 1) := by decide +kernel
theorem dX5_urge_5 : decode cX5_urge 5 = .ok (.invokevirtual 152, 3) := by decide +kernel
theorem dX5_urge_8 : decode cX5_urge 8 = .ok (.ireturn, 1) := by decide +kernel
theorem dX5_isPlace_0 : decode cX5_isPlace 0 = .ok (.iload_n 1, 1) := by decide +kernel
theorem dX5_isPlace_1 : decode cX5_isPlace 1 = .ok (.iconst 0, 1) := by decide +kernel
theorem dX5_isPlace_2 : decode cX5_isPlace 2 = .ok (.aload_n 0, 1) := by decide +kernel
theorem dX5_isPlace_3 : decode cX5_isPlace 3 = .ok (.getfield 7, 3) := by decide +kernel
theorem dX5_isPlace_6 : decode cX5_isPlace 6 = .ok (.bipush 68, 2) := by decide +kernel
theorem dX5_isPlace_8 : decode cX5_isPlace 8 = .ok (.iaload, 1) := by decide +kernel
theorem dX5_isPlace_9 : decode cX5_isPlace 9 = .ok (.iconst 1, 1) := by decide +kernel
theorem dX5_isPlace_10 : decode cX5_isPlace 10 = .ok (.isub, 1) := by decide +kernel
theorem dX5_isPlace_11 : decode cX5_isPlace 11 = .ok (.invokestatic 44, 3) := by decide +kernel
theorem dX5_isPlace_14 : decode cX5_isPlace 14 = .ok (.ireturn, 1) := by decide +kernel
theorem dX5_cancel_0 : decode cX5_cancel 0 = .ok (.aload_n 0, 1) := by decide +kernel
theorem dX5_cancel_1 : decode cX5_cancel 1 = .ok (.iload_n 1, 1) := by decide +kernel
theorem dX5_cancel_2 : decode cX5_cancel 2 = .ok (.invokevirtual 156, 3) := by decide +kernel
theorem dX5_cancel_5 : decode cX5_cancel 5 = .ok (.ifCond .ne 6, 3) := by decide +kernel
theorem dX5_cancel_8 : decode cX5_cancel 8 = .ok (.ldc 63, 2) := by decide +kernel
theorem dX5_cancel_10 : decode cX5_cancel 10 = .ok (.ireturn, 1) := by decide +kernel
theorem dX5_cancel_11 : decode cX5_cancel 11 = .ok (.aload_n 0, 1) := by decide +kernel
theorem dX5_cancel_12 : decode cX5_cancel 12 = .ok (.invokevirtual 66, 3) := by decide +kernel
theorem dX5_cancel_15 : decode cX5_cancel 15 = .ok (.aload_n 0, 1) := by decide +kernel
theorem dX5_cancel_16 : decode cX5_cancel 16 = .ok (.iload_n 1, 1) := by decide +kernel
theorem dX5_cancel_17 : decode cX5_cancel 17 = .ok (.invokevirtual 159, 3) := by decide +kernel
theorem dX5_cancel_20 : decode cX5_cancel 20 = .ok (.aload_n 0, 1) := by decide +kernel
theorem dX5_cancel_21 : decode cX5_cancel 21 = .ok (.getfield 7, 3) := by decide +kernel
theorem dX5_cancel_24 : decode cX5_cancel 24 = .ok (.bipush 68, 2) := by decide +kernel
theorem dX5_cancel_26 : decode cX5_cancel 26 = .ok (.iaload, 1) := by decide +kernel
theorem dX5_cancel_27 : decode cX5_cancel 27 = .ok (.ireturn, 1) := by decide +kernel
theorem dX5_queued_0 : decode cX5_queued 0 = .ok (.aload_n 0, 1) := by decide +kernel
theorem dX5_queued_1 : decode cX5_queued 1 = .ok (.getfield 7, 3) := by decide +kernel
theorem dX5_queued_4 : decode cX5_queued 4 = .ok (.bipush 68, 2) := by decide +kernel
theorem dX5_queued_6 : decode cX5_queued 6 = .ok (.iaload, 1) := by decide +kernel
theorem dX5_queued_7 : decode cX5_queued 7 = .ok (.ireturn, 1) := by decide +kernel
theorem dX5_requested_0 : decode cX5_requested 0 = .ok (.aload_n 0, 1) := by decide +kernel
theorem dX5_requested_1 : decode cX5_requested 1 = .ok (.iload_n 1, 1) := by decide +kernel
theorem dX5_requested_2 : decode cX5_requested 2 = .ok (.invokevirtual 156, 3) := by decide +kernel
theorem dX5_requested_5 : decode cX5_requested 5 = .ok (.ifCond .eq 26, 3) := by decide +kernel
theorem dX5_requested_8 : decode cX5_requested 8 = .ok (.iload_n 2, 1) := by decide +kernel
theorem dX5_requested_9 : decode cX5_requested 9 = .ok (.invokestatic 75, 3) := by decide +kernel
theorem dX5_requested_12 : decode cX5_requested 12 = .ok (.ifCond .eq 19, 3) := by decide +kernel
theorem dX5_requested_15 : decode cX5_requested 15 = .ok (.aload_n 0, 1) := by decide +kernel
theorem dX5_requested_16 : decode cX5_requested 16 = .ok (.getfield 7, 3) := by decide +kernel
theorem dX5_requested_19 : decode cX5_requested 19 = .ok (.bipush 69, 2) := by decide +kernel
theorem dX5_requested_21 : decode cX5_requested 21 = .ok (.iconst 3, 1) := by decide +kernel
theorem dX5_requested_22 : decode cX5_requested 22 = .ok (.iload_n 1, 1) := by decide +kernel
theorem dX5_requested_23 : decode cX5_requested 23 = .ok (.imul, 1) := by decide +kernel
theorem dX5_requested_24 : decode cX5_requested 24 = .ok (.iadd, 1) := by decide +kernel
theorem dX5_requested_25 : decode cX5_requested 25 = .ok (.iload_n 2, 1) := by decide +kernel
theorem dX5_requested_26 : decode cX5_requested 26 = .ok (.iadd, 1) := by decide +kernel
theorem dX5_requested_27 : decode cX5_requested 27 = .ok (.iaload, 1) := by decide +kernel
theorem dX5_requested_28 : decode cX5_requested 28 = .ok (.goto 5, 3) := by decide +kernel
theorem dX5_requested_31 : decode cX5_requested 31 = .ok (.ldc 63, 2) := by decide +kernel
theorem dX5_requested_33 : decode cX5_requested 33 = .ok (.ireturn, 1) := by decide +kernel
theorem dX5_held_0 : decode cX5_held 0 = .ok (.iload_n 0, 1) := by decide +kernel
theorem dX5_held_1 : decode cX5_held 1 = .ok (.sipush (-4000), 3) := by decide +kernel
theorem dX5_held_4 : decode cX5_held 4 = .ok (.if_icmp .ge 9, 3) := by decide +kernel
theorem dX5_held_7 : decode cX5_held 7 = .ok (.sipush (-4000), 3) := by decide +kernel
theorem dX5_held_10 : decode cX5_held 10 = .ok (.goto 17, 3) := by decide +kernel
theorem dX5_held_13 : decode cX5_held 13 = .ok (.iload_n 0, 1) := by decide +kernel
theorem dX5_held_14 : decode cX5_held 14 = .ok (.sipush 4000, 3) := by decide +kernel
theorem dX5_held_17 : decode cX5_held 17 = .ok (.if_icmp .le 9, 3) := by decide +kernel
theorem dX5_held_20 : decode cX5_held 20 = .ok (.sipush 4000, 3) := by decide +kernel
theorem dX5_held_23 : decode cX5_held 23 = .ok (.goto 4, 3) := by decide +kernel
theorem dX5_held_26 : decode cX5_held 26 = .ok (.iload_n 0, 1) := by decide +kernel
theorem dX5_held_27 : decode cX5_held 27 = .ok (.ireturn, 1) := by decide +kernel
theorem dX5_runs_0 : decode cX5_runs 0 = .ok (.aload_n 0, 1) := by decide +kernel
theorem dX5_runs_1 : decode cX5_runs 1 = .ok (.invokevirtual 95, 3) := by decide +kernel
theorem dX5_runs_4 : decode cX5_runs 4 = .ok (.istore_n 1, 1) := by decide +kernel
theorem dX5_runs_5 : decode cX5_runs 5 = .ok (.iconst 0, 1) := by decide +kernel
theorem dX5_runs_6 : decode cX5_runs 6 = .ok (.istore_n 2, 1) := by decide +kernel
theorem dX5_runs_7 : decode cX5_runs 7 = .ok (.iload_n 2, 1) := by decide +kernel
theorem dX5_runs_8 : decode cX5_runs 8 = .ok (.iconst 3, 1) := by decide +kernel
theorem dX5_runs_9 : decode cX5_runs 9 = .ok (.if_icmp .ge 100, 3) := by decide +kernel
theorem dX5_runs_12 : decode cX5_runs 12 = .ok (.aload_n 0, 1) := by decide +kernel
theorem dX5_runs_13 : decode cX5_runs 13 = .ok (.getfield 7, 3) := by decide +kernel
theorem dX5_runs_16 : decode cX5_runs 16 = .ok (.bipush 99, 2) := by decide +kernel
theorem dX5_runs_18 : decode cX5_runs 18 = .ok (.iload_n 2, 1) := by decide +kernel
theorem dX5_runs_19 : decode cX5_runs 19 = .ok (.iadd, 1) := by decide +kernel
theorem dX5_runs_20 : decode cX5_runs 20 = .ok (.iaload, 1) := by decide +kernel
theorem dX5_runs_21 : decode cX5_runs 21 = .ok (.aload_n 0, 1) := by decide +kernel
theorem dX5_runs_22 : decode cX5_runs 22 = .ok (.getfield 7, 3) := by decide +kernel
theorem dX5_runs_25 : decode cX5_runs 25 = .ok (.bipush 68, 2) := by decide +kernel
theorem dX5_runs_27 : decode cX5_runs 27 = .ok (.iaload, 1) := by decide +kernel
theorem dX5_runs_28 : decode cX5_runs 28 = .ok (.ifCond .le 15, 3) := by decide +kernel
theorem dX5_runs_31 : decode cX5_runs 31 = .ok (.aload_n 0, 1) := by decide +kernel
theorem dX5_runs_32 : decode cX5_runs 32 = .ok (.getfield 7, 3) := by decide +kernel
theorem dX5_runs_35 : decode cX5_runs 35 = .ok (.bipush 69, 2) := by decide +kernel
theorem dX5_runs_37 : decode cX5_runs 37 = .ok (.iload_n 2, 1) := by decide +kernel
theorem dX5_runs_38 : decode cX5_runs 38 = .ok (.iadd, 1) := by decide +kernel
theorem dX5_runs_39 : decode cX5_runs 39 = .ok (.iaload, 1) := by decide +kernel
theorem dX5_runs_40 : decode cX5_runs 40 = .ok (.goto 4, 3) := by decide +kernel
theorem dX5_runs_43 : decode cX5_runs 43 = .ok (.iconst 0, 1) := by decide +kernel
theorem dX5_runs_44 : decode cX5_runs 44 = .ok (.iadd, 1) := by decide +kernel
theorem dX5_runs_45 : decode cX5_runs 45 = .ok (.istore_n 3, 1) := by decide +kernel
theorem dX5_runs_46 : decode cX5_runs 46 = .ok (.iconst 0, 1) := by decide +kernel
theorem dX5_runs_47 : decode cX5_runs 47 = .ok (.istore 4, 2) := by decide +kernel
theorem dX5_runs_49 : decode cX5_runs 49 = .ok (.iload 4, 2) := by decide +kernel
theorem dX5_runs_51 : decode cX5_runs 51 = .ok (.aload_n 0, 1) := by decide +kernel
theorem dX5_runs_52 : decode cX5_runs 52 = .ok (.getfield 7, 3) := by decide +kernel
theorem dX5_runs_55 : decode cX5_runs 55 = .ok (.iconst 0, 1) := by decide +kernel
theorem dX5_runs_56 : decode cX5_runs 56 = .ok (.iaload, 1) := by decide +kernel
theorem dX5_runs_57 : decode cX5_runs 57 = .ok (.if_icmp .ge 36, 3) := by decide +kernel
theorem dX5_runs_60 : decode cX5_runs 60 = .ok (.iload_n 3, 1) := by decide +kernel
theorem dX5_runs_61 : decode cX5_runs 61 = .ok (.iload_n 1, 1) := by decide +kernel
theorem dX5_runs_62 : decode cX5_runs 62 = .ok (.iload 4, 2) := by decide +kernel
theorem dX5_runs_64 : decode cX5_runs 64 = .ok (.ishr, 1) := by decide +kernel
theorem dX5_runs_65 : decode cX5_runs 65 = .ok (.iconst 1, 1) := by decide +kernel
theorem dX5_runs_66 : decode cX5_runs 66 = .ok (.iand, 1) := by decide +kernel
theorem dX5_runs_67 : decode cX5_runs 67 = .ok (.iconst 1, 1) := by decide +kernel
theorem dX5_runs_68 : decode cX5_runs 68 = .ok (.if_icmp .ne 16, 3) := by decide +kernel
theorem dX5_runs_71 : decode cX5_runs 71 = .ok (.bipush 20, 2) := by decide +kernel
theorem dX5_runs_73 : decode cX5_runs 73 = .ok (.aload_n 0, 1) := by decide +kernel
theorem dX5_runs_74 : decode cX5_runs 74 = .ok (.iload 4, 2) := by decide +kernel
theorem dX5_runs_76 : decode cX5_runs 76 = .ok (.iload_n 2, 1) := by decide +kernel
theorem dX5_runs_77 : decode cX5_runs 77 = .ok (.invokevirtual 78, 3) := by decide +kernel
theorem dX5_runs_80 : decode cX5_runs 80 = .ok (.imul, 1) := by decide +kernel
theorem dX5_runs_81 : decode cX5_runs 81 = .ok (.goto 4, 3) := by decide +kernel
theorem dX5_runs_84 : decode cX5_runs 84 = .ok (.iconst 0, 1) := by decide +kernel
theorem dX5_runs_85 : decode cX5_runs 85 = .ok (.isub, 1) := by decide +kernel
theorem dX5_runs_86 : decode cX5_runs 86 = .ok (.istore_n 3, 1) := by decide +kernel
theorem dX5_runs_87 : decode cX5_runs 87 = .ok (.iinc 4 1, 3) := by decide +kernel
theorem dX5_runs_90 : decode cX5_runs 90 = .ok (.goto (-41), 3) := by decide +kernel
theorem dX5_runs_93 : decode cX5_runs 93 = .ok (.aload_n 0, 1) := by decide +kernel
theorem dX5_runs_94 : decode cX5_runs 94 = .ok (.getfield 7, 3) := by decide +kernel
theorem dX5_runs_97 : decode cX5_runs 97 = .ok (.bipush 105, 2) := by decide +kernel
theorem dX5_runs_99 : decode cX5_runs 99 = .ok (.iload_n 2, 1) := by decide +kernel
theorem dX5_runs_100 : decode cX5_runs 100 = .ok (.iadd, 1) := by decide +kernel
theorem dX5_runs_101 : decode cX5_runs 101 = .ok (.iload_n 3, 1) := by decide +kernel
theorem dX5_runs_102 : decode cX5_runs 102 = .ok (.iastore, 1) := by decide +kernel
theorem dX5_runs_103 : decode cX5_runs 103 = .ok (.iinc 2 1, 3) := by decide +kernel
theorem dX5_runs_106 : decode cX5_runs 106 = .ok (.goto (-99), 3) := by decide +kernel
theorem dX5_runs_109 : decode cX5_runs 109 = .ok (.aload_n 0, 1) := by decide +kernel
theorem dX5_runs_110 : decode cX5_runs 110 = .ok (.getfield 7, 3) := by decide +kernel
theorem dX5_runs_113 : decode cX5_runs 113 = .ok (.bipush 68, 2) := by decide +kernel
theorem dX5_runs_115 : decode cX5_runs 115 = .ok (.iaload, 1) := by decide +kernel
theorem dX5_runs_116 : decode cX5_runs 116 = .ok (.ifCond .le 8, 3) := by decide +kernel
theorem dX5_runs_119 : decode cX5_runs 119 = .ok (.aload_n 0, 1) := by decide +kernel
theorem dX5_runs_120 : decode cX5_runs 120 = .ok (.iconst 0, 1) := by decide +kernel
theorem dX5_runs_121 : decode cX5_runs 121 = .ok (.invokevirtual 159, 3) := by decide +kernel
theorem dX5_runs_124 : decode cX5_runs 124 = .ok (.aload_n 0, 1) := by decide +kernel
theorem dX5_runs_125 : decode cX5_runs 125 = .ok (.aload_n 0, 1) := by decide +kernel
theorem dX5_runs_126 : decode cX5_runs 126 = .ok (.getfield 7, 3) := by decide +kernel
theorem dX5_runs_129 : decode cX5_runs 129 = .ok (.bipush 105, 2) := by decide +kernel
theorem dX5_runs_131 : decode cX5_runs 131 = .ok (.iaload, 1) := by decide +kernel
theorem dX5_runs_132 : decode cX5_runs 132 = .ok (.aload_n 0, 1) := by decide +kernel
theorem dX5_runs_133 : decode cX5_runs 133 = .ok (.getfield 7, 3) := by decide +kernel
theorem dX5_runs_136 : decode cX5_runs 136 = .ok (.bipush 106, 2) := by decide +kernel
theorem dX5_runs_138 : decode cX5_runs 138 = .ok (.iaload, 1) := by decide +kernel
theorem dX5_runs_139 : decode cX5_runs 139 = .ok (.aload_n 0, 1) := by decide +kernel
theorem dX5_runs_140 : decode cX5_runs 140 = .ok (.getfield 7, 3) := by decide +kernel
theorem dX5_runs_143 : decode cX5_runs 143 = .ok (.bipush 107, 2) := by decide +kernel
theorem dX5_runs_145 : decode cX5_runs 145 = .ok (.iaload, 1) := by decide +kernel
theorem dX5_runs_146 : decode cX5_runs 146 = .ok (.invokevirtual 132, 3) := by decide +kernel
theorem dX5_runs_149 : decode cX5_runs 149 = .ok (.aload_n 0, 1) := by decide +kernel
theorem dX5_runs_150 : decode cX5_runs 150 = .ok (.invokevirtual 135, 3) := by decide +kernel
theorem dX5_runs_153 : decode cX5_runs 153 = .ok (.istore_n 2, 1) := by decide +kernel
theorem dX5_runs_154 : decode cX5_runs 154 = .ok (.aload_n 0, 1) := by decide +kernel
theorem dX5_runs_155 : decode cX5_runs 155 = .ok (.getfield 7, 3) := by decide +kernel
theorem dX5_runs_158 : decode cX5_runs 158 = .ok (.bipush 116, 2) := by decide +kernel
theorem dX5_runs_160 : decode cX5_runs 160 = .ok (.iconst 0, 1) := by decide +kernel
theorem dX5_runs_161 : decode cX5_runs 161 = .ok (.iastore, 1) := by decide +kernel
theorem dX5_runs_162 : decode cX5_runs 162 = .ok (.iconst 0, 1) := by decide +kernel
theorem dX5_runs_163 : decode cX5_runs 163 = .ok (.istore_n 3, 1) := by decide +kernel
theorem dX5_runs_164 : decode cX5_runs 164 = .ok (.iload_n 3, 1) := by decide +kernel
theorem dX5_runs_165 : decode cX5_runs 165 = .ok (.aload_n 0, 1) := by decide +kernel
theorem dX5_runs_166 : decode cX5_runs 166 = .ok (.getfield 7, 3) := by decide +kernel
theorem dX5_runs_169 : decode cX5_runs 169 = .ok (.iconst 0, 1) := by decide +kernel
theorem dX5_runs_170 : decode cX5_runs 170 = .ok (.iaload, 1) := by decide +kernel
theorem dX5_runs_171 : decode cX5_runs 171 = .ok (.if_icmp .ge 58, 3) := by decide +kernel
theorem dX5_runs_174 : decode cX5_runs 174 = .ok (.aload_n 0, 1) := by decide +kernel
theorem dX5_runs_175 : decode cX5_runs 175 = .ok (.getfield 7, 3) := by decide +kernel
theorem dX5_runs_178 : decode cX5_runs 178 = .ok (.bipush 108, 2) := by decide +kernel
theorem dX5_runs_180 : decode cX5_runs 180 = .ok (.iload_n 3, 1) := by decide +kernel
theorem dX5_runs_181 : decode cX5_runs 181 = .ok (.iadd, 1) := by decide +kernel
theorem dX5_runs_182 : decode cX5_runs 182 = .ok (.iload_n 2, 1) := by decide +kernel
theorem dX5_runs_183 : decode cX5_runs 183 = .ok (.ifCond .eq 11, 3) := by decide +kernel
theorem dX5_runs_186 : decode cX5_runs 186 = .ok (.aload_n 0, 1) := by decide +kernel
theorem dX5_runs_187 : decode cX5_runs 187 = .ok (.iload_n 3, 1) := by decide +kernel
theorem dX5_runs_188 : decode cX5_runs 188 = .ok (.invokevirtual 140, 3) := by decide +kernel
theorem dX5_runs_191 : decode cX5_runs 191 = .ok (.goto 4, 3) := by decide +kernel
theorem dX5_runs_194 : decode cX5_runs 194 = .ok (.iconst 0, 1) := by decide +kernel
theorem dX5_runs_195 : decode cX5_runs 195 = .ok (.iastore, 1) := by decide +kernel
theorem dX5_runs_196 : decode cX5_runs 196 = .ok (.aload_n 0, 1) := by decide +kernel
theorem dX5_runs_197 : decode cX5_runs 197 = .ok (.getfield 7, 3) := by decide +kernel
theorem dX5_runs_200 : decode cX5_runs 200 = .ok (.bipush 116, 2) := by decide +kernel
theorem dX5_runs_202 : decode cX5_runs 202 = .ok (.dup2, 1) := by decide +kernel
theorem dX5_runs_203 : decode cX5_runs 203 = .ok (.iaload, 1) := by decide +kernel
theorem dX5_runs_204 : decode cX5_runs 204 = .ok (.aload_n 0, 1) := by decide +kernel
theorem dX5_runs_205 : decode cX5_runs 205 = .ok (.iload_n 3, 1) := by decide +kernel
theorem dX5_runs_206 : decode cX5_runs 206 = .ok (.bipush 6, 2) := by decide +kernel
theorem dX5_runs_208 : decode cX5_runs 208 = .ok (.invokevirtual 48, 3) := by decide +kernel
theorem dX5_runs_211 : decode cX5_runs 211 = .ok (.ifCond .ne 9, 3) := by decide +kernel
theorem dX5_runs_214 : decode cX5_runs 214 = .ok (.iconst 1, 1) := by decide +kernel
theorem dX5_runs_215 : decode cX5_runs 215 = .ok (.iload_n 3, 1) := by decide +kernel
theorem dX5_runs_216 : decode cX5_runs 216 = .ok (.ishl, 1) := by decide +kernel
theorem dX5_runs_217 : decode cX5_runs 217 = .ok (.goto 4, 3) := by decide +kernel
theorem dX5_runs_220 : decode cX5_runs 220 = .ok (.iconst 0, 1) := by decide +kernel
theorem dX5_runs_221 : decode cX5_runs 221 = .ok (.ior, 1) := by decide +kernel
theorem dX5_runs_222 : decode cX5_runs 222 = .ok (.iastore, 1) := by decide +kernel
theorem dX5_runs_223 : decode cX5_runs 223 = .ok (.iinc 3 1, 3) := by decide +kernel
theorem dX5_runs_226 : decode cX5_runs 226 = .ok (.goto (-62), 3) := by decide +kernel
theorem dX5_runs_229 : decode cX5_runs 229 = .ok (.iconst 0, 1) := by decide +kernel
theorem dX5_runs_230 : decode cX5_runs 230 = .ok (.istore_n 3, 1) := by decide +kernel
theorem dX5_runs_231 : decode cX5_runs 231 = .ok (.iload_n 3, 1) := by decide +kernel
theorem dX5_runs_232 : decode cX5_runs 232 = .ok (.iconst 3, 1) := by decide +kernel
theorem dX5_runs_233 : decode cX5_runs 233 = .ok (.if_icmp .ge 140, 3) := by decide +kernel
theorem dX5_runs_236 : decode cX5_runs 236 = .ok (.iconst 0, 1) := by decide +kernel
theorem dX5_runs_237 : decode cX5_runs 237 = .ok (.istore 4, 2) := by decide +kernel
theorem dX5_runs_239 : decode cX5_runs 239 = .ok (.iconst 0, 1) := by decide +kernel
theorem dX5_runs_240 : decode cX5_runs 240 = .ok (.istore 5, 2) := by decide +kernel
theorem dX5_runs_242 : decode cX5_runs 242 = .ok (.iconst 0, 1) := by decide +kernel
theorem dX5_runs_243 : decode cX5_runs 243 = .ok (.istore 6, 2) := by decide +kernel
theorem dX5_runs_245 : decode cX5_runs 245 = .ok (.iload 6, 2) := by decide +kernel
theorem dX5_runs_247 : decode cX5_runs 247 = .ok (.aload_n 0, 1) := by decide +kernel
theorem dX5_runs_248 : decode cX5_runs 248 = .ok (.getfield 7, 3) := by decide +kernel
theorem dX5_runs_251 : decode cX5_runs 251 = .ok (.iconst 0, 1) := by decide +kernel
theorem dX5_runs_252 : decode cX5_runs 252 = .ok (.iaload, 1) := by decide +kernel
theorem dX5_runs_253 : decode cX5_runs 253 = .ok (.if_icmp .ge 61, 3) := by decide +kernel
theorem dX5_runs_256 : decode cX5_runs 256 = .ok (.iload 4, 2) := by decide +kernel
theorem dX5_runs_258 : decode cX5_runs 258 = .ok (.aload_n 0, 1) := by decide +kernel
theorem dX5_runs_259 : decode cX5_runs 259 = .ok (.getfield 7, 3) := by decide +kernel
theorem dX5_runs_262 : decode cX5_runs 262 = .ok (.bipush 108, 2) := by decide +kernel
theorem dX5_runs_264 : decode cX5_runs 264 = .ok (.iload 6, 2) := by decide +kernel
theorem dX5_runs_266 : decode cX5_runs 266 = .ok (.iadd, 1) := by decide +kernel
theorem dX5_runs_267 : decode cX5_runs 267 = .ok (.iaload, 1) := by decide +kernel
theorem dX5_runs_268 : decode cX5_runs 268 = .ok (.aload_n 0, 1) := by decide +kernel
theorem dX5_runs_269 : decode cX5_runs 269 = .ok (.iload 6, 2) := by decide +kernel
theorem dX5_runs_271 : decode cX5_runs 271 = .ok (.iload_n 3, 1) := by decide +kernel
theorem dX5_runs_272 : decode cX5_runs 272 = .ok (.invokevirtual 78, 3) := by decide +kernel
theorem dX5_runs_275 : decode cX5_runs 275 = .ok (.imul, 1) := by decide +kernel
theorem dX5_runs_276 : decode cX5_runs 276 = .ok (.iadd, 1) := by decide +kernel
theorem dX5_runs_277 : decode cX5_runs 277 = .ok (.istore 4, 2) := by decide +kernel
theorem dX5_runs_279 : decode cX5_runs 279 = .ok (.iload 5, 2) := by decide +kernel
theorem dX5_runs_281 : decode cX5_runs 281 = .ok (.iload_n 1, 1) := by decide +kernel
theorem dX5_runs_282 : decode cX5_runs 282 = .ok (.iload 6, 2) := by decide +kernel
theorem dX5_runs_284 : decode cX5_runs 284 = .ok (.ishr, 1) := by decide +kernel
theorem dX5_runs_285 : decode cX5_runs 285 = .ok (.iconst 1, 1) := by decide +kernel
theorem dX5_runs_286 : decode cX5_runs 286 = .ok (.iand, 1) := by decide +kernel
theorem dX5_runs_287 : decode cX5_runs 287 = .ok (.iconst 1, 1) := by decide +kernel
theorem dX5_runs_288 : decode cX5_runs 288 = .ok (.if_icmp .ne 16, 3) := by decide +kernel
theorem dX5_runs_291 : decode cX5_runs 291 = .ok (.bipush 20, 2) := by decide +kernel
theorem dX5_runs_293 : decode cX5_runs 293 = .ok (.aload_n 0, 1) := by decide +kernel
theorem dX5_runs_294 : decode cX5_runs 294 = .ok (.iload 6, 2) := by decide +kernel
theorem dX5_runs_296 : decode cX5_runs 296 = .ok (.iload_n 3, 1) := by decide +kernel
theorem dX5_runs_297 : decode cX5_runs 297 = .ok (.invokevirtual 78, 3) := by decide +kernel
theorem dX5_runs_300 : decode cX5_runs 300 = .ok (.imul, 1) := by decide +kernel
theorem dX5_runs_301 : decode cX5_runs 301 = .ok (.goto 4, 3) := by decide +kernel
theorem dX5_runs_304 : decode cX5_runs 304 = .ok (.iconst 0, 1) := by decide +kernel
theorem dX5_runs_305 : decode cX5_runs 305 = .ok (.iadd, 1) := by decide +kernel
theorem dX5_runs_306 : decode cX5_runs 306 = .ok (.istore 5, 2) := by decide +kernel
theorem dX5_runs_308 : decode cX5_runs 308 = .ok (.iinc 6 1, 3) := by decide +kernel
theorem dX5_runs_311 : decode cX5_runs 311 = .ok (.goto (-66), 3) := by decide +kernel
theorem dX5_runs_314 : decode cX5_runs 314 = .ok (.aload_n 0, 1) := by decide +kernel
theorem dX5_runs_315 : decode cX5_runs 315 = .ok (.getfield 7, 3) := by decide +kernel
theorem dX5_runs_318 : decode cX5_runs 318 = .ok (.bipush 102, 2) := by decide +kernel
theorem dX5_runs_320 : decode cX5_runs 320 = .ok (.iload_n 3, 1) := by decide +kernel
theorem dX5_runs_321 : decode cX5_runs 321 = .ok (.iadd, 1) := by decide +kernel
theorem dX5_runs_322 : decode cX5_runs 322 = .ok (.iload 4, 2) := by decide +kernel
theorem dX5_runs_324 : decode cX5_runs 324 = .ok (.iload 5, 2) := by decide +kernel
theorem dX5_runs_326 : decode cX5_runs 326 = .ok (.iadd, 1) := by decide +kernel
theorem dX5_runs_327 : decode cX5_runs 327 = .ok (.iastore, 1) := by decide +kernel
theorem dX5_runs_328 : decode cX5_runs 328 = .ok (.aload_n 0, 1) := by decide +kernel
theorem dX5_runs_329 : decode cX5_runs 329 = .ok (.getfield 7, 3) := by decide +kernel
theorem dX5_runs_332 : decode cX5_runs 332 = .ok (.bipush 99, 2) := by decide +kernel
theorem dX5_runs_334 : decode cX5_runs 334 = .ok (.iload_n 3, 1) := by decide +kernel
theorem dX5_runs_335 : decode cX5_runs 335 = .ok (.iadd, 1) := by decide +kernel
theorem dX5_runs_336 : decode cX5_runs 336 = .ok (.aload_n 0, 1) := by decide +kernel
theorem dX5_runs_337 : decode cX5_runs 337 = .ok (.getfield 7, 3) := by decide +kernel
theorem dX5_runs_340 : decode cX5_runs 340 = .ok (.bipush 105, 2) := by decide +kernel
theorem dX5_runs_342 : decode cX5_runs 342 = .ok (.iload_n 3, 1) := by decide +kernel
theorem dX5_runs_343 : decode cX5_runs 343 = .ok (.iadd, 1) := by decide +kernel
theorem dX5_runs_344 : decode cX5_runs 344 = .ok (.iaload, 1) := by decide +kernel
theorem dX5_runs_345 : decode cX5_runs 345 = .ok (.iload 4, 2) := by decide +kernel
theorem dX5_runs_347 : decode cX5_runs 347 = .ok (.isub, 1) := by decide +kernel
theorem dX5_runs_348 : decode cX5_runs 348 = .ok (.invokestatic 163, 3) := by decide +kernel
theorem dX5_runs_351 : decode cX5_runs 351 = .ok (.iastore, 1) := by decide +kernel
theorem dX5_runs_352 : decode cX5_runs 352 = .ok (.aload_n 0, 1) := by decide +kernel
theorem dX5_runs_353 : decode cX5_runs 353 = .ok (.getfield 13, 3) := by decide +kernel
theorem dX5_runs_356 : decode cX5_runs 356 = .ok (.iload_n 3, 1) := by decide +kernel
theorem dX5_runs_357 : decode cX5_runs 357 = .ok (.dup2, 1) := by decide +kernel
theorem dX5_runs_358 : decode cX5_runs 358 = .ok (.laload, 1) := by decide +kernel
theorem dX5_runs_359 : decode cX5_runs 359 = .ok (.iload 4, 2) := by decide +kernel
theorem dX5_runs_361 : decode cX5_runs 361 = .ok (.iload 5, 2) := by decide +kernel
theorem dX5_runs_363 : decode cX5_runs 363 = .ok (.iadd, 1) := by decide +kernel
theorem dX5_runs_364 : decode cX5_runs 364 = .ok (.i2l, 1) := by decide +kernel
theorem dX5_runs_365 : decode cX5_runs 365 = .ok (.ladd, 1) := by decide +kernel
theorem dX5_runs_366 : decode cX5_runs 366 = .ok (.lastore, 1) := by decide +kernel
theorem dX5_runs_367 : decode cX5_runs 367 = .ok (.iinc 3 1, 3) := by decide +kernel
theorem dX5_runs_370 : decode cX5_runs 370 = .ok (.goto (-139), 3) := by decide +kernel
theorem dX5_runs_373 : decode cX5_runs 373 = .ok (.iconst 0, 1) := by decide +kernel
theorem dX5_runs_374 : decode cX5_runs 374 = .ok (.istore_n 3, 1) := by decide +kernel
theorem dX5_runs_375 : decode cX5_runs 375 = .ok (.iload_n 3, 1) := by decide +kernel
theorem dX5_runs_376 : decode cX5_runs 376 = .ok (.aload_n 0, 1) := by decide +kernel
theorem dX5_runs_377 : decode cX5_runs 377 = .ok (.getfield 7, 3) := by decide +kernel
theorem dX5_runs_380 : decode cX5_runs 380 = .ok (.iconst 0, 1) := by decide +kernel
theorem dX5_runs_381 : decode cX5_runs 381 = .ok (.iaload, 1) := by decide +kernel
theorem dX5_runs_382 : decode cX5_runs 382 = .ok (.if_icmp .ge 76, 3) := by decide +kernel
theorem dX5_runs_385 : decode cX5_runs 385 = .ok (.iload_n 1, 1) := by decide +kernel
theorem dX5_runs_386 : decode cX5_runs 386 = .ok (.iload_n 3, 1) := by decide +kernel
theorem dX5_runs_387 : decode cX5_runs 387 = .ok (.ishr, 1) := by decide +kernel
theorem dX5_runs_388 : decode cX5_runs 388 = .ok (.iconst 1, 1) := by decide +kernel
theorem dX5_runs_389 : decode cX5_runs 389 = .ok (.iand, 1) := by decide +kernel
theorem dX5_runs_390 : decode cX5_runs 390 = .ok (.iconst 1, 1) := by decide +kernel
theorem dX5_runs_391 : decode cX5_runs 391 = .ok (.if_icmp .ne 8, 3) := by decide +kernel
theorem dX5_runs_394 : decode cX5_runs 394 = .ok (.bipush 20, 2) := by decide +kernel
theorem dX5_runs_396 : decode cX5_runs 396 = .ok (.goto 12, 3) := by decide +kernel
theorem dX5_runs_399 : decode cX5_runs 399 = .ok (.aload_n 0, 1) := by decide +kernel
theorem dX5_runs_400 : decode cX5_runs 400 = .ok (.getfield 7, 3) := by decide +kernel
theorem dX5_runs_403 : decode cX5_runs 403 = .ok (.bipush 108, 2) := by decide +kernel
theorem dX5_runs_405 : decode cX5_runs 405 = .ok (.iload_n 3, 1) := by decide +kernel
theorem dX5_runs_406 : decode cX5_runs 406 = .ok (.iadd, 1) := by decide +kernel
theorem dX5_runs_407 : decode cX5_runs 407 = .ok (.iaload, 1) := by decide +kernel
theorem dX5_runs_408 : decode cX5_runs 408 = .ok (.istore 4, 2) := by decide +kernel
theorem dX5_runs_410 : decode cX5_runs 410 = .ok (.aload_n 0, 1) := by decide +kernel
theorem dX5_runs_411 : decode cX5_runs 411 = .ok (.iload_n 3, 1) := by decide +kernel
theorem dX5_runs_412 : decode cX5_runs 412 = .ok (.invokevirtual 52, 3) := by decide +kernel
theorem dX5_runs_415 : decode cX5_runs 415 = .ok (.iload 4, 2) := by decide +kernel
theorem dX5_runs_417 : decode cX5_runs 417 = .ok (.aload_n 0, 1) := by decide +kernel
theorem dX5_runs_418 : decode cX5_runs 418 = .ok (.iload_n 3, 1) := by decide +kernel
theorem dX5_runs_419 : decode cX5_runs 419 = .ok (.iconst 3, 1) := by decide +kernel
theorem dX5_runs_420 : decode cX5_runs 420 = .ok (.invokevirtual 48, 3) := by decide +kernel
theorem dX5_runs_423 : decode cX5_runs 423 = .ok (.imul, 1) := by decide +kernel
theorem dX5_runs_424 : decode cX5_runs 424 = .ok (.isub, 1) := by decide +kernel
theorem dX5_runs_425 : decode cX5_runs 425 = .ok (.istore 5, 2) := by decide +kernel
theorem dX5_runs_427 : decode cX5_runs 427 = .ok (.aload_n 0, 1) := by decide +kernel
theorem dX5_runs_428 : decode cX5_runs 428 = .ok (.getfield 7, 3) := by decide +kernel
theorem dX5_runs_431 : decode cX5_runs 431 = .ok (.bipush 57, 2) := by decide +kernel
theorem dX5_runs_433 : decode cX5_runs 433 = .ok (.aload_n 0, 1) := by decide +kernel
theorem dX5_runs_434 : decode cX5_runs 434 = .ok (.iload_n 3, 1) := by decide +kernel
theorem dX5_runs_435 : decode cX5_runs 435 = .ok (.iconst 4, 1) := by decide +kernel
theorem dX5_runs_436 : decode cX5_runs 436 = .ok (.invokevirtual 48, 3) := by decide +kernel
theorem dX5_runs_439 : decode cX5_runs 439 = .ok (.iadd, 1) := by decide +kernel
theorem dX5_runs_440 : decode cX5_runs 440 = .ok (.iload 5, 2) := by decide +kernel
theorem dX5_runs_442 : decode cX5_runs 442 = .ok (.ifCond .ge 7, 3) := by decide +kernel
theorem dX5_runs_445 : decode cX5_runs 445 = .ok (.iconst 0, 1) := by decide +kernel
theorem dX5_runs_446 : decode cX5_runs 446 = .ok (.goto 5, 3) := by decide +kernel
theorem dX5_runs_449 : decode cX5_runs 449 = .ok (.iload 5, 2) := by decide +kernel
theorem dX5_runs_451 : decode cX5_runs 451 = .ok (.iastore, 1) := by decide +kernel
theorem dX5_runs_452 : decode cX5_runs 452 = .ok (.iinc 3 1, 3) := by decide +kernel
theorem dX5_runs_455 : decode cX5_runs 455 = .ok (.goto (-80), 3) := by decide +kernel
theorem dX5_runs_458 : decode cX5_runs 458 = .ok (.aload_n 0, 1) := by decide +kernel
theorem dX5_runs_459 : decode cX5_runs 459 = .ok (.getfield 7, 3) := by decide +kernel
theorem dX5_runs_462 : decode cX5_runs 462 = .ok (.bipush 117, 2) := by decide +kernel
theorem dX5_runs_464 : decode cX5_runs 464 = .ok (.dup2, 1) := by decide +kernel
theorem dX5_runs_465 : decode cX5_runs 465 = .ok (.iaload, 1) := by decide +kernel
theorem dX5_runs_466 : decode cX5_runs 466 = .ok (.iconst 1, 1) := by decide +kernel
theorem dX5_runs_467 : decode cX5_runs 467 = .ok (.iadd, 1) := by decide +kernel
theorem dX5_runs_468 : decode cX5_runs 468 = .ok (.iastore, 1) := by decide +kernel
theorem dX5_runs_469 : decode cX5_runs 469 = .ok (.iload_n 2, 1) := by decide +kernel
theorem dX5_runs_470 : decode cX5_runs 470 = .ok (.ireturn, 1) := by decide +kernel
theorem dX5_firedSet_0 : decode cX5_firedSet 0 = .ok (.iconst 0, 1) := by decide +kernel
theorem dX5_firedSet_1 : decode cX5_firedSet 1 = .ok (.istore_n 1, 1) := by decide +kernel
theorem dX5_firedSet_2 : decode cX5_firedSet 2 = .ok (.iconst 0, 1) := by decide +kernel
theorem dX5_firedSet_3 : decode cX5_firedSet 3 = .ok (.istore_n 2, 1) := by decide +kernel
theorem dX5_firedSet_4 : decode cX5_firedSet 4 = .ok (.iload_n 2, 1) := by decide +kernel
theorem dX5_firedSet_5 : decode cX5_firedSet 5 = .ok (.aload_n 0, 1) := by decide +kernel
theorem dX5_firedSet_6 : decode cX5_firedSet 6 = .ok (.getfield 7, 3) := by decide +kernel
theorem dX5_firedSet_9 : decode cX5_firedSet 9 = .ok (.iconst 0, 1) := by decide +kernel
theorem dX5_firedSet_10 : decode cX5_firedSet 10 = .ok (.iaload, 1) := by decide +kernel
theorem dX5_firedSet_11 : decode cX5_firedSet 11 = .ok (.if_icmp .ge 31, 3) := by decide +kernel
theorem dX5_firedSet_14 : decode cX5_firedSet 14 = .ok (.iload_n 1, 1) := by decide +kernel
theorem dX5_firedSet_15 : decode cX5_firedSet 15 = .ok (.aload_n 0, 1) := by decide +kernel
theorem dX5_firedSet_16 : decode cX5_firedSet 16 = .ok (.getfield 7, 3) := by decide +kernel
theorem dX5_firedSet_19 : decode cX5_firedSet 19 = .ok (.bipush 108, 2) := by decide +kernel
theorem dX5_firedSet_21 : decode cX5_firedSet 21 = .ok (.iload_n 2, 1) := by decide +kernel
theorem dX5_firedSet_22 : decode cX5_firedSet 22 = .ok (.iadd, 1) := by decide +kernel
theorem dX5_firedSet_23 : decode cX5_firedSet 23 = .ok (.iaload, 1) := by decide +kernel
theorem dX5_firedSet_24 : decode cX5_firedSet 24 = .ok (.ifCond .le 9, 3) := by decide +kernel
theorem dX5_firedSet_27 : decode cX5_firedSet 27 = .ok (.iconst 1, 1) := by decide +kernel
theorem dX5_firedSet_28 : decode cX5_firedSet 28 = .ok (.iload_n 2, 1) := by decide +kernel
theorem dX5_firedSet_29 : decode cX5_firedSet 29 = .ok (.ishl, 1) := by decide +kernel
theorem dX5_firedSet_30 : decode cX5_firedSet 30 = .ok (.goto 4, 3) := by decide +kernel
theorem dX5_firedSet_33 : decode cX5_firedSet 33 = .ok (.iconst 0, 1) := by decide +kernel
theorem dX5_firedSet_34 : decode cX5_firedSet 34 = .ok (.ior, 1) := by decide +kernel
theorem dX5_firedSet_35 : decode cX5_firedSet 35 = .ok (.istore_n 1, 1) := by decide +kernel
theorem dX5_firedSet_36 : decode cX5_firedSet 36 = .ok (.iinc 2 1, 3) := by decide +kernel
theorem dX5_firedSet_39 : decode cX5_firedSet 39 = .ok (.goto (-35), 3) := by decide +kernel
theorem dX5_firedSet_42 : decode cX5_firedSet 42 = .ok (.iload_n 1, 1) := by decide +kernel
theorem dX5_firedSet_43 : decode cX5_firedSet 43 = .ok (.ireturn, 1) := by decide +kernel
theorem dX5_cycle_0 : decode cX5_cycle 0 = .ok (.aload_n 0, 1) := by decide +kernel
theorem dX5_cycle_1 : decode cX5_cycle 1 = .ok (.invokevirtual 66, 3) := by decide +kernel
theorem dX5_cycle_4 : decode cX5_cycle 4 = .ok (.aload_n 0, 1) := by decide +kernel
theorem dX5_cycle_5 : decode cX5_cycle 5 = .ok (.invokevirtual 166, 3) := by decide +kernel
theorem dX5_cycle_8 : decode cX5_cycle 8 = .ok (.ifCond .eq 10, 3) := by decide +kernel
theorem dX5_cycle_11 : decode cX5_cycle 11 = .ok (.aload_n 0, 1) := by decide +kernel
theorem dX5_cycle_12 : decode cX5_cycle 12 = .ok (.invokevirtual 169, 3) := by decide +kernel
theorem dX5_cycle_15 : decode cX5_cycle 15 = .ok (.goto 5, 3) := by decide +kernel
theorem dX5_cycle_18 : decode cX5_cycle 18 = .ok (.ldc 139, 2) := by decide +kernel
theorem dX5_cycle_20 : decode cX5_cycle 20 = .ok (.ireturn, 1) := by decide +kernel
theorem dX5_cycles_0 : decode cX5_cycles 0 = .ok (.iload_n 1, 1) := by decide +kernel
theorem dX5_cycles_1 : decode cX5_cycles 1 = .ok (.iconst 1, 1) := by decide +kernel
theorem dX5_cycles_2 : decode cX5_cycles 2 = .ok (.bipush 20, 2) := by decide +kernel
theorem dX5_cycles_4 : decode cX5_cycles 4 = .ok (.invokestatic 44, 3) := by decide +kernel
theorem dX5_cycles_7 : decode cX5_cycles 7 = .ok (.ifCond .ne 6, 3) := by decide +kernel
theorem dX5_cycles_10 : decode cX5_cycles 10 = .ok (.ldc 64, 2) := by decide +kernel
theorem dX5_cycles_12 : decode cX5_cycles 12 = .ok (.ireturn, 1) := by decide +kernel
theorem dX5_cycles_13 : decode cX5_cycles 13 = .ok (.aload_n 0, 1) := by decide +kernel
theorem dX5_cycles_14 : decode cX5_cycles 14 = .ok (.invokevirtual 66, 3) := by decide +kernel
theorem dX5_cycles_17 : decode cX5_cycles 17 = .ok (.iconst 0, 1) := by decide +kernel
theorem dX5_cycles_18 : decode cX5_cycles 18 = .ok (.istore_n 2, 1) := by decide +kernel
theorem dX5_cycles_19 : decode cX5_cycles 19 = .ok (.iconst 0, 1) := by decide +kernel
theorem dX5_cycles_20 : decode cX5_cycles 20 = .ok (.istore_n 3, 1) := by decide +kernel
theorem dX5_cycles_21 : decode cX5_cycles 21 = .ok (.iload_n 3, 1) := by decide +kernel
theorem dX5_cycles_22 : decode cX5_cycles 22 = .ok (.iload_n 1, 1) := by decide +kernel
theorem dX5_cycles_23 : decode cX5_cycles 23 = .ok (.if_icmp .ge 24, 3) := by decide +kernel
theorem dX5_cycles_26 : decode cX5_cycles 26 = .ok (.iload_n 2, 1) := by decide +kernel
theorem dX5_cycles_27 : decode cX5_cycles 27 = .ok (.aload_n 0, 1) := by decide +kernel
theorem dX5_cycles_28 : decode cX5_cycles 28 = .ok (.invokevirtual 166, 3) := by decide +kernel
theorem dX5_cycles_31 : decode cX5_cycles 31 = .ok (.ifCond .eq 7, 3) := by decide +kernel
theorem dX5_cycles_34 : decode cX5_cycles 34 = .ok (.iconst 1, 1) := by decide +kernel
theorem dX5_cycles_35 : decode cX5_cycles 35 = .ok (.goto 4, 3) := by decide +kernel
theorem dX5_cycles_38 : decode cX5_cycles 38 = .ok (.iconst 0, 1) := by decide +kernel
theorem dX5_cycles_39 : decode cX5_cycles 39 = .ok (.iadd, 1) := by decide +kernel
theorem dX5_cycles_40 : decode cX5_cycles 40 = .ok (.istore_n 2, 1) := by decide +kernel
theorem dX5_cycles_41 : decode cX5_cycles 41 = .ok (.iinc 3 1, 3) := by decide +kernel
theorem dX5_cycles_44 : decode cX5_cycles 44 = .ok (.goto (-23), 3) := by decide +kernel
theorem dX5_cycles_47 : decode cX5_cycles 47 = .ok (.iload_n 2, 1) := by decide +kernel
theorem dX5_cycles_48 : decode cX5_cycles 48 = .ok (.ireturn, 1) := by decide +kernel
theorem dX5_cycleCount_0 : decode cX5_cycleCount 0 = .ok (.aload_n 0, 1) := by decide +kernel
theorem dX5_cycleCount_1 : decode cX5_cycleCount 1 = .ok (.getfield 7, 3) := by decide +kernel
theorem dX5_cycleCount_4 : decode cX5_cycleCount 4 = .ok (.bipush 117, 2) := by decide +kernel
theorem dX5_cycleCount_6 : decode cX5_cycleCount 6 = .ok (.iaload, 1) := by decide +kernel
theorem dX5_cycleCount_7 : decode cX5_cycleCount 7 = .ok (.ireturn, 1) := by decide +kernel
theorem dX5_fired_0 : decode cX5_fired 0 = .ok (.aload_n 0, 1) := by decide +kernel
theorem dX5_fired_1 : decode cX5_fired 1 = .ok (.iload_n 1, 1) := by decide +kernel
theorem dX5_fired_2 : decode cX5_fired 2 = .ok (.invokevirtual 69, 3) := by decide +kernel
theorem dX5_fired_5 : decode cX5_fired 5 = .ok (.ifCond .eq 15, 3) := by decide +kernel
theorem dX5_fired_8 : decode cX5_fired 8 = .ok (.aload_n 0, 1) := by decide +kernel
theorem dX5_fired_9 : decode cX5_fired 9 = .ok (.getfield 7, 3) := by decide +kernel
theorem dX5_fired_12 : decode cX5_fired 12 = .ok (.bipush 108, 2) := by decide +kernel
theorem dX5_fired_14 : decode cX5_fired 14 = .ok (.iload_n 1, 1) := by decide +kernel
theorem dX5_fired_15 : decode cX5_fired 15 = .ok (.iadd, 1) := by decide +kernel
theorem dX5_fired_16 : decode cX5_fired 16 = .ok (.iaload, 1) := by decide +kernel
theorem dX5_fired_17 : decode cX5_fired 17 = .ok (.goto 5, 3) := by decide +kernel
theorem dX5_fired_20 : decode cX5_fired 20 = .ok (.ldc 63, 2) := by decide +kernel
theorem dX5_fired_22 : decode cX5_fired 22 = .ok (.ireturn, 1) := by decide +kernel
theorem dX5_impulse_0 : decode cX5_impulse 0 = .ok (.iload_n 2, 1) := by decide +kernel
theorem dX5_impulse_1 : decode cX5_impulse 1 = .ok (.invokestatic 75, 3) := by decide +kernel
theorem dX5_impulse_4 : decode cX5_impulse 4 = .ok (.ifCond .ne 6, 3) := by decide +kernel
theorem dX5_impulse_7 : decode cX5_impulse 7 = .ok (.ldc 63, 2) := by decide +kernel
theorem dX5_impulse_9 : decode cX5_impulse 9 = .ok (.ireturn, 1) := by decide +kernel
theorem dX5_impulse_10 : decode cX5_impulse 10 = .ok (.iload_n 1, 1) := by decide +kernel
theorem dX5_impulse_11 : decode cX5_impulse 11 = .ok (.iconst 0, 1) := by decide +kernel
theorem dX5_impulse_12 : decode cX5_impulse 12 = .ok (.iconst 2, 1) := by decide +kernel
theorem dX5_impulse_13 : decode cX5_impulse 13 = .ok (.invokestatic 44, 3) := by decide +kernel
theorem dX5_impulse_16 : decode cX5_impulse 16 = .ok (.ifCond .eq 19, 3) := by decide +kernel
theorem dX5_impulse_19 : decode cX5_impulse 19 = .ok (.aload_n 0, 1) := by decide +kernel
theorem dX5_impulse_20 : decode cX5_impulse 20 = .ok (.getfield 7, 3) := by decide +kernel
theorem dX5_impulse_23 : decode cX5_impulse 23 = .ok (.bipush 99, 2) := by decide +kernel
theorem dX5_impulse_25 : decode cX5_impulse 25 = .ok (.iconst 3, 1) := by decide +kernel
theorem dX5_impulse_26 : decode cX5_impulse 26 = .ok (.iload_n 1, 1) := by decide +kernel
theorem dX5_impulse_27 : decode cX5_impulse 27 = .ok (.imul, 1) := by decide +kernel
theorem dX5_impulse_28 : decode cX5_impulse 28 = .ok (.iadd, 1) := by decide +kernel
theorem dX5_impulse_29 : decode cX5_impulse 29 = .ok (.iload_n 2, 1) := by decide +kernel
theorem dX5_impulse_30 : decode cX5_impulse 30 = .ok (.iadd, 1) := by decide +kernel
theorem dX5_impulse_31 : decode cX5_impulse 31 = .ok (.iaload, 1) := by decide +kernel
theorem dX5_impulse_32 : decode cX5_impulse 32 = .ok (.goto 5, 3) := by decide +kernel
theorem dX5_impulse_35 : decode cX5_impulse 35 = .ok (.ldc 64, 2) := by decide +kernel
theorem dX5_impulse_37 : decode cX5_impulse 37 = .ok (.ireturn, 1) := by decide +kernel
theorem dX5_total_0 : decode cX5_total 0 = .ok (.iload_n 1, 1) := by decide +kernel
theorem dX5_total_1 : decode cX5_total 1 = .ok (.invokestatic 75, 3) := by decide +kernel
theorem dX5_total_4 : decode cX5_total 4 = .ok (.ifCond .eq 12, 3) := by decide +kernel
theorem dX5_total_7 : decode cX5_total 7 = .ok (.aload_n 0, 1) := by decide +kernel
theorem dX5_total_8 : decode cX5_total 8 = .ok (.getfield 13, 3) := by decide +kernel
theorem dX5_total_11 : decode cX5_total 11 = .ok (.iload_n 1, 1) := by decide +kernel
theorem dX5_total_12 : decode cX5_total 12 = .ok (.laload, 1) := by decide +kernel
theorem dX5_total_13 : decode cX5_total 13 = .ok (.goto 6, 3) := by decide +kernel
theorem dX5_total_16 : decode cX5_total 16 = .ok (.ldc2_w 172, 3) := by decide +kernel
theorem dX5_total_19 : decode cX5_total 19 = .ok (.lreturn, 1) := by decide +kernel
theorem dX5_explains_0 : decode cX5_explains 0 = .ok (.iconst 1, 1) := by decide +kernel
theorem dX5_explains_1 : decode cX5_explains 1 = .ok (.istore_n 3, 1) := by decide +kernel
theorem dX5_explains_2 : decode cX5_explains 2 = .ok (.iconst 0, 1) := by decide +kernel
theorem dX5_explains_3 : decode cX5_explains 3 = .ok (.istore 4, 2) := by decide +kernel
theorem dX5_explains_5 : decode cX5_explains 5 = .ok (.iload 4, 2) := by decide +kernel
theorem dX5_explains_7 : decode cX5_explains 7 = .ok (.iconst 3, 1) := by decide +kernel
theorem dX5_explains_8 : decode cX5_explains 8 = .ok (.if_icmp .ge 51, 3) := by decide +kernel
theorem dX5_explains_11 : decode cX5_explains 11 = .ok (.iload_n 3, 1) := by decide +kernel
theorem dX5_explains_12 : decode cX5_explains 12 = .ok (.ifCond .eq 39, 3) := by decide +kernel
theorem dX5_explains_15 : decode cX5_explains 15 = .ok (.aload_n 0, 1) := by decide +kernel
theorem dX5_explains_16 : decode cX5_explains 16 = .ok (.getfield 7, 3) := by decide +kernel
theorem dX5_explains_19 : decode cX5_explains 19 = .ok (.bipush 102, 2) := by decide +kernel
theorem dX5_explains_21 : decode cX5_explains 21 = .ok (.iload 4, 2) := by decide +kernel
theorem dX5_explains_23 : decode cX5_explains 23 = .ok (.iadd, 1) := by decide +kernel
theorem dX5_explains_24 : decode cX5_explains 24 = .ok (.iaload, 1) := by decide +kernel
theorem dX5_explains_25 : decode cX5_explains 25 = .ok (.iload_n 2, 1) := by decide +kernel
theorem dX5_explains_26 : decode cX5_explains 26 = .ok (.aload_n 0, 1) := by decide +kernel
theorem dX5_explains_27 : decode cX5_explains 27 = .ok (.iload_n 1, 1) := by decide +kernel
theorem dX5_explains_28 : decode cX5_explains 28 = .ok (.iload 4, 2) := by decide +kernel
theorem dX5_explains_30 : decode cX5_explains 30 = .ok (.invokevirtual 78, 3) := by decide +kernel
theorem dX5_explains_33 : decode cX5_explains 33 = .ok (.imul, 1) := by decide +kernel
theorem dX5_explains_34 : decode cX5_explains 34 = .ok (.iadd, 1) := by decide +kernel
theorem dX5_explains_35 : decode cX5_explains 35 = .ok (.i2l, 1) := by decide +kernel
theorem dX5_explains_36 : decode cX5_explains 36 = .ok (.aload_n 0, 1) := by decide +kernel
theorem dX5_explains_37 : decode cX5_explains 37 = .ok (.getfield 20, 3) := by decide +kernel
theorem dX5_explains_40 : decode cX5_explains 40 = .ok (.iload 4, 2) := by decide +kernel
theorem dX5_explains_42 : decode cX5_explains 42 = .ok (.laload, 1) := by decide +kernel
theorem dX5_explains_43 : decode cX5_explains 43 = .ok (.lcmp, 1) := by decide +kernel
theorem dX5_explains_44 : decode cX5_explains 44 = .ok (.ifCond .ne 7, 3) := by decide +kernel
theorem dX5_explains_47 : decode cX5_explains 47 = .ok (.iconst 1, 1) := by decide +kernel
theorem dX5_explains_48 : decode cX5_explains 48 = .ok (.goto 4, 3) := by decide +kernel
theorem dX5_explains_51 : decode cX5_explains 51 = .ok (.iconst 0, 1) := by decide +kernel
theorem dX5_explains_52 : decode cX5_explains 52 = .ok (.istore_n 3, 1) := by decide +kernel
theorem dX5_explains_53 : decode cX5_explains 53 = .ok (.iinc 4 1, 3) := by decide +kernel
theorem dX5_explains_56 : decode cX5_explains 56 = .ok (.goto (-51), 3) := by decide +kernel
theorem dX5_explains_59 : decode cX5_explains 59 = .ok (.iload_n 3, 1) := by decide +kernel
theorem dX5_explains_60 : decode cX5_explains 60 = .ok (.ireturn, 1) := by decide +kernel
theorem dX5_isMeasured_0 : decode cX5_isMeasured 0 = .ok (.iload_n 0, 1) := by decide +kernel
theorem dX5_isMeasured_1 : decode cX5_isMeasured 1 = .ok (.ldc 174, 2) := by decide +kernel
theorem dX5_isMeasured_3 : decode cX5_isMeasured 3 = .ok (.ldc 175, 2) := by decide +kernel
theorem dX5_isMeasured_5 : decode cX5_isMeasured 5 = .ok (.invokestatic 44, 3) := by decide +kernel
theorem dX5_isMeasured_8 : decode cX5_isMeasured 8 = .ok (.ireturn, 1) := by decide +kernel
theorem dX5_suspect_0 : decode cX5_suspect 0 = .ok (.iload_n 1, 1) := by decide +kernel
theorem dX5_suspect_1 : decode cX5_suspect 1 = .ok (.invokestatic 176, 3) := by decide +kernel
theorem dX5_suspect_4 : decode cX5_suspect 4 = .ok (.ifCond .eq 17, 3) := by decide +kernel
theorem dX5_suspect_7 : decode cX5_suspect 7 = .ok (.iload_n 2, 1) := by decide +kernel
theorem dX5_suspect_8 : decode cX5_suspect 8 = .ok (.invokestatic 176, 3) := by decide +kernel
theorem dX5_suspect_11 : decode cX5_suspect 11 = .ok (.ifCond .eq 10, 3) := by decide +kernel
theorem dX5_suspect_14 : decode cX5_suspect 14 = .ok (.iload_n 3, 1) := by decide +kernel
theorem dX5_suspect_15 : decode cX5_suspect 15 = .ok (.invokestatic 176, 3) := by decide +kernel
theorem dX5_suspect_18 : decode cX5_suspect 18 = .ok (.ifCond .ne 6, 3) := by decide +kernel
theorem dX5_suspect_21 : decode cX5_suspect 21 = .ok (.ldc 64, 2) := by decide +kernel
theorem dX5_suspect_23 : decode cX5_suspect 23 = .ok (.ireturn, 1) := by decide +kernel
theorem dX5_suspect_24 : decode cX5_suspect 24 = .ok (.aload_n 0, 1) := by decide +kernel
theorem dX5_suspect_25 : decode cX5_suspect 25 = .ok (.getfield 7, 3) := by decide +kernel
theorem dX5_suspect_28 : decode cX5_suspect 28 = .ok (.bipush 117, 2) := by decide +kernel
theorem dX5_suspect_30 : decode cX5_suspect 30 = .ok (.iaload, 1) := by decide +kernel
theorem dX5_suspect_31 : decode cX5_suspect 31 = .ok (.ifCond .ne 6, 3) := by decide +kernel
theorem dX5_suspect_34 : decode cX5_suspect 34 = .ok (.ldc 94, 2) := by decide +kernel
theorem dX5_suspect_36 : decode cX5_suspect 36 = .ok (.ireturn, 1) := by decide +kernel
theorem dX5_suspect_37 : decode cX5_suspect 37 = .ok (.aload_n 0, 1) := by decide +kernel
theorem dX5_suspect_38 : decode cX5_suspect 38 = .ok (.iload_n 1, 1) := by decide +kernel
theorem dX5_suspect_39 : decode cX5_suspect 39 = .ok (.iload_n 2, 1) := by decide +kernel
theorem dX5_suspect_40 : decode cX5_suspect 40 = .ok (.iload_n 3, 1) := by decide +kernel
theorem dX5_suspect_41 : decode cX5_suspect 41 = .ok (.invokevirtual 132, 3) := by decide +kernel
theorem dX5_suspect_44 : decode cX5_suspect 44 = .ok (.iconst 1, 1) := by decide +kernel
theorem dX5_suspect_45 : decode cX5_suspect 45 = .ok (.istore 4, 2) := by decide +kernel
theorem dX5_suspect_47 : decode cX5_suspect 47 = .ok (.iconst 0, 1) := by decide +kernel
theorem dX5_suspect_48 : decode cX5_suspect 48 = .ok (.istore 5, 2) := by decide +kernel
theorem dX5_suspect_50 : decode cX5_suspect 50 = .ok (.iload 5, 2) := by decide +kernel
theorem dX5_suspect_52 : decode cX5_suspect 52 = .ok (.iconst 3, 1) := by decide +kernel
theorem dX5_suspect_53 : decode cX5_suspect 53 = .ok (.if_icmp .ge 43, 3) := by decide +kernel
theorem dX5_suspect_56 : decode cX5_suspect 56 = .ok (.iload 4, 2) := by decide +kernel
theorem dX5_suspect_58 : decode cX5_suspect 58 = .ok (.ifCond .eq 29, 3) := by decide +kernel
theorem dX5_suspect_61 : decode cX5_suspect 61 = .ok (.aload_n 0, 1) := by decide +kernel
theorem dX5_suspect_62 : decode cX5_suspect 62 = .ok (.getfield 7, 3) := by decide +kernel
theorem dX5_suspect_65 : decode cX5_suspect 65 = .ok (.bipush 102, 2) := by decide +kernel
theorem dX5_suspect_67 : decode cX5_suspect 67 = .ok (.iload 5, 2) := by decide +kernel
theorem dX5_suspect_69 : decode cX5_suspect 69 = .ok (.iadd, 1) := by decide +kernel
theorem dX5_suspect_70 : decode cX5_suspect 70 = .ok (.iaload, 1) := by decide +kernel
theorem dX5_suspect_71 : decode cX5_suspect 71 = .ok (.i2l, 1) := by decide +kernel
theorem dX5_suspect_72 : decode cX5_suspect 72 = .ok (.aload_n 0, 1) := by decide +kernel
theorem dX5_suspect_73 : decode cX5_suspect 73 = .ok (.getfield 20, 3) := by decide +kernel
theorem dX5_suspect_76 : decode cX5_suspect 76 = .ok (.iload 5, 2) := by decide +kernel
theorem dX5_suspect_78 : decode cX5_suspect 78 = .ok (.laload, 1) := by decide +kernel
theorem dX5_suspect_79 : decode cX5_suspect 79 = .ok (.lcmp, 1) := by decide +kernel
theorem dX5_suspect_80 : decode cX5_suspect 80 = .ok (.ifCond .ne 7, 3) := by decide +kernel
theorem dX5_suspect_83 : decode cX5_suspect 83 = .ok (.iconst 1, 1) := by decide +kernel
theorem dX5_suspect_84 : decode cX5_suspect 84 = .ok (.goto 4, 3) := by decide +kernel
theorem dX5_suspect_87 : decode cX5_suspect 87 = .ok (.iconst 0, 1) := by decide +kernel
theorem dX5_suspect_88 : decode cX5_suspect 88 = .ok (.istore 4, 2) := by decide +kernel
theorem dX5_suspect_90 : decode cX5_suspect 90 = .ok (.iinc 5 1, 3) := by decide +kernel
theorem dX5_suspect_93 : decode cX5_suspect 93 = .ok (.goto (-43), 3) := by decide +kernel
theorem dX5_suspect_96 : decode cX5_suspect 96 = .ok (.iload 4, 2) := by decide +kernel
theorem dX5_suspect_98 : decode cX5_suspect 98 = .ok (.ifCond .eq 5, 3) := by decide +kernel
theorem dX5_suspect_101 : decode cX5_suspect 101 = .ok (.iconst 0, 1) := by decide +kernel
theorem dX5_suspect_102 : decode cX5_suspect 102 = .ok (.ireturn, 1) := by decide +kernel
theorem dX5_suspect_103 : decode cX5_suspect 103 = .ok (.iconst 0, 1) := by decide +kernel
theorem dX5_suspect_104 : decode cX5_suspect 104 = .ok (.istore 5, 2) := by decide +kernel
theorem dX5_suspect_106 : decode cX5_suspect 106 = .ok (.iload 5, 2) := by decide +kernel
theorem dX5_suspect_108 : decode cX5_suspect 108 = .ok (.bipush 16, 2) := by decide +kernel
theorem dX5_suspect_110 : decode cX5_suspect 110 = .ok (.if_icmp .ge 124, 3) := by decide +kernel
theorem dX5_suspect_113 : decode cX5_suspect 113 = .ok (.iload 5, 2) := by decide +kernel
theorem dX5_suspect_115 : decode cX5_suspect 115 = .ok (.bipush 8, 2) := by decide +kernel
theorem dX5_suspect_117 : decode cX5_suspect 117 = .ok (.irem, 1) := by decide +kernel
theorem dX5_suspect_118 : decode cX5_suspect 118 = .ok (.istore 6, 2) := by decide +kernel
theorem dX5_suspect_120 : decode cX5_suspect 120 = .ok (.aload_n 0, 1) := by decide +kernel
theorem dX5_suspect_121 : decode cX5_suspect 121 = .ok (.getfield 7, 3) := by decide +kernel
theorem dX5_suspect_124 : decode cX5_suspect 124 = .ok (.bipush 116, 2) := by decide +kernel
theorem dX5_suspect_126 : decode cX5_suspect 126 = .ok (.iaload, 1) := by decide +kernel
theorem dX5_suspect_127 : decode cX5_suspect 127 = .ok (.iload 6, 2) := by decide +kernel
theorem dX5_suspect_129 : decode cX5_suspect 129 = .ok (.ishr, 1) := by decide +kernel
theorem dX5_suspect_130 : decode cX5_suspect 130 = .ok (.iconst 1, 1) := by decide +kernel
theorem dX5_suspect_131 : decode cX5_suspect 131 = .ok (.iand, 1) := by decide +kernel
theorem dX5_suspect_132 : decode cX5_suspect 132 = .ok (.iconst 1, 1) := by decide +kernel
theorem dX5_suspect_133 : decode cX5_suspect 133 = .ok (.if_icmp .ne 7, 3) := by decide +kernel
theorem dX5_suspect_136 : decode cX5_suspect 136 = .ok (.iconst 1, 1) := by decide +kernel
theorem dX5_suspect_137 : decode cX5_suspect 137 = .ok (.goto 4, 3) := by decide +kernel
theorem dX5_suspect_140 : decode cX5_suspect 140 = .ok (.iconst 0, 1) := by decide +kernel
theorem dX5_suspect_141 : decode cX5_suspect 141 = .ok (.istore 7, 2) := by decide +kernel
theorem dX5_suspect_143 : decode cX5_suspect 143 = .ok (.aload_n 0, 1) := by decide +kernel
theorem dX5_suspect_144 : decode cX5_suspect 144 = .ok (.getfield 7, 3) := by decide +kernel
theorem dX5_suspect_147 : decode cX5_suspect 147 = .ok (.bipush 108, 2) := by decide +kernel
theorem dX5_suspect_149 : decode cX5_suspect 149 = .ok (.iload 6, 2) := by decide +kernel
theorem dX5_suspect_151 : decode cX5_suspect 151 = .ok (.iadd, 1) := by decide +kernel
theorem dX5_suspect_152 : decode cX5_suspect 152 = .ok (.iaload, 1) := by decide +kernel
theorem dX5_suspect_153 : decode cX5_suspect 153 = .ok (.istore 8, 2) := by decide +kernel
theorem dX5_suspect_155 : decode cX5_suspect 155 = .ok (.iload 7, 2) := by decide +kernel
theorem dX5_suspect_157 : decode cX5_suspect 157 = .ok (.ifCond .eq 71, 3) := by decide +kernel
theorem dX5_suspect_160 : decode cX5_suspect 160 = .ok (.iload 5, 2) := by decide +kernel
theorem dX5_suspect_162 : decode cX5_suspect 162 = .ok (.bipush 8, 2) := by decide +kernel
theorem dX5_suspect_164 : decode cX5_suspect 164 = .ok (.if_icmp .ge 11, 3) := by decide +kernel
theorem dX5_suspect_167 : decode cX5_suspect 167 = .ok (.iload 8, 2) := by decide +kernel
theorem dX5_suspect_169 : decode cX5_suspect 169 = .ok (.ifCond .le 59, 3) := by decide +kernel
theorem dX5_suspect_172 : decode cX5_suspect 172 = .ok (.goto 10, 3) := by decide +kernel
theorem dX5_suspect_175 : decode cX5_suspect 175 = .ok (.iload 8, 2) := by decide +kernel
theorem dX5_suspect_177 : decode cX5_suspect 177 = .ok (.bipush 20, 2) := by decide +kernel
theorem dX5_suspect_179 : decode cX5_suspect 179 = .ok (.if_icmp .ge 49, 3) := by decide +kernel
theorem dX5_suspect_182 : decode cX5_suspect 182 = .ok (.aload_n 0, 1) := by decide +kernel
theorem dX5_suspect_183 : decode cX5_suspect 183 = .ok (.iload 6, 2) := by decide +kernel
theorem dX5_suspect_185 : decode cX5_suspect 185 = .ok (.iload 5, 2) := by decide +kernel
theorem dX5_suspect_187 : decode cX5_suspect 187 = .ok (.bipush 8, 2) := by decide +kernel
theorem dX5_suspect_189 : decode cX5_suspect 189 = .ok (.if_icmp .ge 9, 3) := by decide +kernel
theorem dX5_suspect_192 : decode cX5_suspect 192 = .ok (.iload 8, 2) := by decide +kernel
theorem dX5_suspect_194 : decode cX5_suspect 194 = .ok (.ineg, 1) := by decide +kernel
theorem dX5_suspect_195 : decode cX5_suspect 195 = .ok (.goto 8, 3) := by decide +kernel
theorem dX5_suspect_198 : decode cX5_suspect 198 = .ok (.bipush 20, 2) := by decide +kernel
theorem dX5_suspect_200 : decode cX5_suspect 200 = .ok (.iload 8, 2) := by decide +kernel
theorem dX5_suspect_202 : decode cX5_suspect 202 = .ok (.isub, 1) := by decide +kernel
theorem dX5_suspect_203 : decode cX5_suspect 203 = .ok (.invokevirtual 179, 3) := by decide +kernel
theorem dX5_suspect_206 : decode cX5_suspect 206 = .ok (.ifCond .eq 22, 3) := by decide +kernel
theorem dX5_suspect_209 : decode cX5_suspect 209 = .ok (.iload 5, 2) := by decide +kernel
theorem dX5_suspect_211 : decode cX5_suspect 211 = .ok (.bipush 8, 2) := by decide +kernel
theorem dX5_suspect_213 : decode cX5_suspect 213 = .ok (.if_icmp .ge 8, 3) := by decide +kernel
theorem dX5_suspect_216 : decode cX5_suspect 216 = .ok (.bipush 100, 2) := by decide +kernel
theorem dX5_suspect_218 : decode cX5_suspect 218 = .ok (.goto 6, 3) := by decide +kernel
theorem dX5_suspect_221 : decode cX5_suspect 221 = .ok (.sipush 200, 3) := by decide +kernel
theorem dX5_suspect_224 : decode cX5_suspect 224 = .ok (.iload 6, 2) := by decide +kernel
theorem dX5_suspect_226 : decode cX5_suspect 226 = .ok (.iadd, 1) := by decide +kernel
theorem dX5_suspect_227 : decode cX5_suspect 227 = .ok (.ireturn, 1) := by decide +kernel
theorem dX5_suspect_228 : decode cX5_suspect 228 = .ok (.iinc 5 1, 3) := by decide +kernel
theorem dX5_suspect_231 : decode cX5_suspect 231 = .ok (.goto (-125), 3) := by decide +kernel
theorem dX5_suspect_234 : decode cX5_suspect 234 = .ok (.ldc 139, 2) := by decide +kernel
theorem dX5_suspect_236 : decode cX5_suspect 236 = .ok (.ireturn, 1) := by decide +kernel
theorem dX5_undo_0 : decode cX5_undo 0 = .ok (.aload_n 0, 1) := by decide +kernel
theorem dX5_undo_1 : decode cX5_undo 1 = .ok (.getfield 36, 3) := by decide +kernel
theorem dX5_undo_4 : decode cX5_undo 4 = .ok (.ifCond .ne 6, 3) := by decide +kernel
theorem dX5_undo_7 : decode cX5_undo 7 = .ok (.ldc 94, 2) := by decide +kernel
theorem dX5_undo_9 : decode cX5_undo 9 = .ok (.ireturn, 1) := by decide +kernel
theorem dX5_undo_10 : decode cX5_undo 10 = .ok (.aload_n 0, 1) := by decide +kernel
theorem dX5_undo_11 : decode cX5_undo 11 = .ok (.aload_n 0, 1) := by decide +kernel
theorem dX5_undo_12 : decode cX5_undo 12 = .ok (.getfield 36, 3) := by decide +kernel
theorem dX5_undo_15 : decode cX5_undo 15 = .ok (.iconst 0, 1) := by decide +kernel
theorem dX5_undo_16 : decode cX5_undo 16 = .ok (.invokevirtual 40, 3) := by decide +kernel
theorem dX5_undo_19 : decode cX5_undo 19 = .ok (.aload_n 0, 1) := by decide +kernel
theorem dX5_undo_20 : decode cX5_undo 20 = .ok (.dup, 1) := by decide +kernel
theorem dX5_undo_21 : decode cX5_undo 21 = .ok (.getfield 36, 3) := by decide +kernel
theorem dX5_undo_24 : decode cX5_undo 24 = .ok (.iconst 1, 1) := by decide +kernel
theorem dX5_undo_25 : decode cX5_undo 25 = .ok (.isub, 1) := by decide +kernel
theorem dX5_undo_26 : decode cX5_undo 26 = .ok (.putfield 36, 3) := by decide +kernel
theorem dX5_undo_29 : decode cX5_undo 29 = .ok (.aload_n 0, 1) := by decide +kernel
theorem dX5_undo_30 : decode cX5_undo 30 = .ok (.getfield 36, 3) := by decide +kernel
theorem dX5_undo_33 : decode cX5_undo 33 = .ok (.ireturn, 1) := by decide +kernel
theorem dX5_type_0 : decode cX5_type 0 = .ok (.iload_n 1, 1) := by decide +kernel
theorem dX5_type_1 : decode cX5_type 1 = .ok (.iconst 0, 1) := by decide +kernel
theorem dX5_type_2 : decode cX5_type 2 = .ok (.sipush 255, 3) := by decide +kernel
theorem dX5_type_5 : decode cX5_type 5 = .ok (.invokestatic 44, 3) := by decide +kernel
theorem dX5_type_8 : decode cX5_type 8 = .ok (.ifCond .ne 6, 3) := by decide +kernel
theorem dX5_type_11 : decode cX5_type 11 = .ok (.ldc 64, 2) := by decide +kernel
theorem dX5_type_13 : decode cX5_type 13 = .ok (.ireturn, 1) := by decide +kernel
theorem dX5_type_14 : decode cX5_type 14 = .ok (.aload_n 0, 1) := by decide +kernel
theorem dX5_type_15 : decode cX5_type 15 = .ok (.getfield 183, 3) := by decide +kernel
theorem dX5_type_18 : decode cX5_type 18 = .ok (.bipush 100, 2) := by decide +kernel
theorem dX5_type_20 : decode cX5_type 20 = .ok (.if_icmp .ne 6, 3) := by decide +kernel
theorem dX5_type_23 : decode cX5_type 23 = .ok (.ldc 65, 2) := by decide +kernel
theorem dX5_type_25 : decode cX5_type 25 = .ok (.ireturn, 1) := by decide +kernel
theorem dX5_type_26 : decode cX5_type 26 = .ok (.aload_n 0, 1) := by decide +kernel
theorem dX5_type_27 : decode cX5_type 27 = .ok (.getfield 29, 3) := by decide +kernel
theorem dX5_type_30 : decode cX5_type 30 = .ok (.aload_n 0, 1) := by decide +kernel
theorem dX5_type_31 : decode cX5_type 31 = .ok (.getfield 183, 3) := by decide +kernel
theorem dX5_type_34 : decode cX5_type 34 = .ok (.iload_n 1, 1) := by decide +kernel
theorem dX5_type_35 : decode cX5_type 35 = .ok (.iastore, 1) := by decide +kernel
theorem dX5_type_36 : decode cX5_type 36 = .ok (.aload_n 0, 1) := by decide +kernel
theorem dX5_type_37 : decode cX5_type 37 = .ok (.dup, 1) := by decide +kernel
theorem dX5_type_38 : decode cX5_type 38 = .ok (.getfield 183, 3) := by decide +kernel
theorem dX5_type_41 : decode cX5_type 41 = .ok (.iconst 1, 1) := by decide +kernel
theorem dX5_type_42 : decode cX5_type 42 = .ok (.iadd, 1) := by decide +kernel
theorem dX5_type_43 : decode cX5_type 43 = .ok (.putfield 183, 3) := by decide +kernel
theorem dX5_type_46 : decode cX5_type 46 = .ok (.aload_n 0, 1) := by decide +kernel
theorem dX5_type_47 : decode cX5_type 47 = .ok (.getfield 183, 3) := by decide +kernel
theorem dX5_type_50 : decode cX5_type 50 = .ok (.ireturn, 1) := by decide +kernel
theorem dX5_clearText_0 : decode cX5_clearText 0 = .ok (.aload_n 0, 1) := by decide +kernel
theorem dX5_clearText_1 : decode cX5_clearText 1 = .ok (.getfield 183, 3) := by decide +kernel
theorem dX5_clearText_4 : decode cX5_clearText 4 = .ok (.istore_n 1, 1) := by decide +kernel
theorem dX5_clearText_5 : decode cX5_clearText 5 = .ok (.aload_n 0, 1) := by decide +kernel
theorem dX5_clearText_6 : decode cX5_clearText 6 = .ok (.iconst 0, 1) := by decide +kernel
theorem dX5_clearText_7 : decode cX5_clearText 7 = .ok (.putfield 183, 3) := by decide +kernel
theorem dX5_clearText_10 : decode cX5_clearText 10 = .ok (.iload_n 1, 1) := by decide +kernel
theorem dX5_clearText_11 : decode cX5_clearText 11 = .ok (.ireturn, 1) := by decide +kernel
theorem dX5_here_0 : decode cX5_here 0 = .ok (.aload_n 0, 1) := by decide +kernel
theorem dX5_here_1 : decode cX5_here 1 = .ok (.getfield 186, 3) := by decide +kernel
theorem dX5_here_4 : decode cX5_here 4 = .ok (.aload_n 0, 1) := by decide +kernel
theorem dX5_here_5 : decode cX5_here 5 = .ok (.getfield 183, 3) := by decide +kernel
theorem dX5_here_8 : decode cX5_here 8 = .ok (.if_icmp .ge 30, 3) := by decide +kernel
theorem dX5_here_11 : decode cX5_here 11 = .ok (.aload_n 0, 1) := by decide +kernel
theorem dX5_here_12 : decode cX5_here 12 = .ok (.getfield 29, 3) := by decide +kernel
theorem dX5_here_15 : decode cX5_here 15 = .ok (.aload_n 0, 1) := by decide +kernel
theorem dX5_here_16 : decode cX5_here 16 = .ok (.getfield 186, 3) := by decide +kernel
theorem dX5_here_19 : decode cX5_here 19 = .ok (.iaload, 1) := by decide +kernel
theorem dX5_here_20 : decode cX5_here 20 = .ok (.bipush 32, 2) := by decide +kernel
theorem dX5_here_22 : decode cX5_here 22 = .ok (.if_icmp .ne 16, 3) := by decide +kernel
theorem dX5_here_25 : decode cX5_here 25 = .ok (.aload_n 0, 1) := by decide +kernel
theorem dX5_here_26 : decode cX5_here 26 = .ok (.dup, 1) := by decide +kernel
theorem dX5_here_27 : decode cX5_here 27 = .ok (.getfield 186, 3) := by decide +kernel
theorem dX5_here_30 : decode cX5_here 30 = .ok (.iconst 1, 1) := by decide +kernel
theorem dX5_here_31 : decode cX5_here 31 = .ok (.iadd, 1) := by decide +kernel
theorem dX5_here_32 : decode cX5_here 32 = .ok (.putfield 186, 3) := by decide +kernel
theorem dX5_here_35 : decode cX5_here 35 = .ok (.goto (-35), 3) := by decide +kernel
theorem dX5_here_38 : decode cX5_here 38 = .ok (.aload_n 0, 1) := by decide +kernel
theorem dX5_here_39 : decode cX5_here 39 = .ok (.getfield 186, 3) := by decide +kernel
theorem dX5_here_42 : decode cX5_here 42 = .ok (.aload_n 0, 1) := by decide +kernel
theorem dX5_here_43 : decode cX5_here 43 = .ok (.getfield 183, 3) := by decide +kernel
theorem dX5_here_46 : decode cX5_here 46 = .ok (.if_icmp .ge 15, 3) := by decide +kernel
theorem dX5_here_49 : decode cX5_here 49 = .ok (.aload_n 0, 1) := by decide +kernel
theorem dX5_here_50 : decode cX5_here 50 = .ok (.getfield 29, 3) := by decide +kernel
theorem dX5_here_53 : decode cX5_here 53 = .ok (.aload_n 0, 1) := by decide +kernel
theorem dX5_here_54 : decode cX5_here 54 = .ok (.getfield 186, 3) := by decide +kernel
theorem dX5_here_57 : decode cX5_here 57 = .ok (.iaload, 1) := by decide +kernel
theorem dX5_here_58 : decode cX5_here 58 = .ok (.goto 4, 3) := by decide +kernel
theorem dX5_here_61 : decode cX5_here 61 = .ok (.iconst (-1), 1) := by decide +kernel
theorem dX5_here_62 : decode cX5_here 62 = .ok (.ireturn, 1) := by decide +kernel
theorem dX5_sign_0 : decode cX5_sign 0 = .ok (.aload_n 0, 1) := by decide +kernel
theorem dX5_sign_1 : decode cX5_sign 1 = .ok (.invokevirtual 189, 3) := by decide +kernel
theorem dX5_sign_4 : decode cX5_sign 4 = .ok (.iload_n 1, 1) := by decide +kernel
theorem dX5_sign_5 : decode cX5_sign 5 = .ok (.if_icmp .ne 7, 3) := by decide +kernel
theorem dX5_sign_8 : decode cX5_sign 8 = .ok (.iconst 1, 1) := by decide +kernel
theorem dX5_sign_9 : decode cX5_sign 9 = .ok (.goto 4, 3) := by decide +kernel
theorem dX5_sign_12 : decode cX5_sign 12 = .ok (.iconst 0, 1) := by decide +kernel
theorem dX5_sign_13 : decode cX5_sign 13 = .ok (.istore_n 2, 1) := by decide +kernel
theorem dX5_sign_14 : decode cX5_sign 14 = .ok (.aload_n 0, 1) := by decide +kernel
theorem dX5_sign_15 : decode cX5_sign 15 = .ok (.dup, 1) := by decide +kernel
theorem dX5_sign_16 : decode cX5_sign 16 = .ok (.getfield 186, 3) := by decide +kernel
theorem dX5_sign_19 : decode cX5_sign 19 = .ok (.iload_n 2, 1) := by decide +kernel
theorem dX5_sign_20 : decode cX5_sign 20 = .ok (.ifCond .eq 7, 3) := by decide +kernel
theorem dX5_sign_23 : decode cX5_sign 23 = .ok (.iconst 1, 1) := by decide +kernel
theorem dX5_sign_24 : decode cX5_sign 24 = .ok (.goto 4, 3) := by decide +kernel
theorem dX5_sign_27 : decode cX5_sign 27 = .ok (.iconst 0, 1) := by decide +kernel
theorem dX5_sign_28 : decode cX5_sign 28 = .ok (.iadd, 1) := by decide +kernel
theorem dX5_sign_29 : decode cX5_sign 29 = .ok (.putfield 186, 3) := by decide +kernel
theorem dX5_sign_32 : decode cX5_sign 32 = .ok (.iload_n 2, 1) := by decide +kernel
theorem dX5_sign_33 : decode cX5_sign 33 = .ok (.ireturn, 1) := by decide +kernel
theorem dX5_readsPart_0 : decode cX5_readsPart 0 = .ok (.aload_n 0, 1) := by decide +kernel
theorem dX5_readsPart_1 : decode cX5_readsPart 1 = .ok (.bipush 45, 2) := by decide +kernel
theorem dX5_readsPart_3 : decode cX5_readsPart 3 = .ok (.invokevirtual 192, 3) := by decide +kernel
theorem dX5_readsPart_6 : decode cX5_readsPart 6 = .ok (.istore_n 2, 1) := by decide +kernel
theorem dX5_readsPart_7 : decode cX5_readsPart 7 = .ok (.aload_n 0, 1) := by decide +kernel
theorem dX5_readsPart_8 : decode cX5_readsPart 8 = .ok (.invokevirtual 189, 3) := by decide +kernel
theorem dX5_readsPart_11 : decode cX5_readsPart 11 = .ok (.istore_n 3, 1) := by decide +kernel
theorem dX5_readsPart_12 : decode cX5_readsPart 12 = .ok (.aload_n 0, 1) := by decide +kernel
theorem dX5_readsPart_13 : decode cX5_readsPart 13 = .ok (.getfield 186, 3) := by decide +kernel
theorem dX5_readsPart_16 : decode cX5_readsPart 16 = .ok (.istore 4, 2) := by decide +kernel
theorem dX5_readsPart_18 : decode cX5_readsPart 18 = .ok (.iconst 0, 1) := by decide +kernel
theorem dX5_readsPart_19 : decode cX5_readsPart 19 = .ok (.istore 5, 2) := by decide +kernel
theorem dX5_readsPart_21 : decode cX5_readsPart 21 = .ok (.iload_n 3, 1) := by decide +kernel
theorem dX5_readsPart_22 : decode cX5_readsPart 22 = .ok (.ifCond .lt 69, 3) := by decide +kernel
theorem dX5_readsPart_25 : decode cX5_readsPart 25 = .ok (.iload 4, 2) := by decide +kernel
theorem dX5_readsPart_27 : decode cX5_readsPart 27 = .ok (.aload_n 0, 1) := by decide +kernel
theorem dX5_readsPart_28 : decode cX5_readsPart 28 = .ok (.getfield 183, 3) := by decide +kernel
theorem dX5_readsPart_31 : decode cX5_readsPart 31 = .ok (.if_icmp .ge 60, 3) := by decide +kernel
theorem dX5_readsPart_34 : decode cX5_readsPart 34 = .ok (.aload_n 0, 1) := by decide +kernel
theorem dX5_readsPart_35 : decode cX5_readsPart 35 = .ok (.getfield 29, 3) := by decide +kernel
theorem dX5_readsPart_38 : decode cX5_readsPart 38 = .ok (.iload 4, 2) := by decide +kernel
theorem dX5_readsPart_40 : decode cX5_readsPart 40 = .ok (.iaload, 1) := by decide +kernel
theorem dX5_readsPart_41 : decode cX5_readsPart 41 = .ok (.bipush 48, 2) := by decide +kernel
theorem dX5_readsPart_43 : decode cX5_readsPart 43 = .ok (.bipush 57, 2) := by decide +kernel
theorem dX5_readsPart_45 : decode cX5_readsPart 45 = .ok (.invokestatic 44, 3) := by decide +kernel
theorem dX5_readsPart_48 : decode cX5_readsPart 48 = .ok (.ifCond .eq 43, 3) := by decide +kernel
theorem dX5_readsPart_51 : decode cX5_readsPart 51 = .ok (.iload 4, 2) := by decide +kernel
theorem dX5_readsPart_53 : decode cX5_readsPart 53 = .ok (.aload_n 0, 1) := by decide +kernel
theorem dX5_readsPart_54 : decode cX5_readsPart 54 = .ok (.getfield 186, 3) := by decide +kernel
theorem dX5_readsPart_57 : decode cX5_readsPart 57 = .ok (.isub, 1) := by decide +kernel
theorem dX5_readsPart_58 : decode cX5_readsPart 58 = .ok (.iconst 5, 1) := by decide +kernel
theorem dX5_readsPart_59 : decode cX5_readsPart 59 = .ok (.if_icmp .ge 22, 3) := by decide +kernel
theorem dX5_readsPart_62 : decode cX5_readsPart 62 = .ok (.bipush 10, 2) := by decide +kernel
theorem dX5_readsPart_64 : decode cX5_readsPart 64 = .ok (.iload 5, 2) := by decide +kernel
theorem dX5_readsPart_66 : decode cX5_readsPart 66 = .ok (.imul, 1) := by decide +kernel
theorem dX5_readsPart_67 : decode cX5_readsPart 67 = .ok (.aload_n 0, 1) := by decide +kernel
theorem dX5_readsPart_68 : decode cX5_readsPart 68 = .ok (.getfield 29, 3) := by decide +kernel
theorem dX5_readsPart_71 : decode cX5_readsPart 71 = .ok (.iload 4, 2) := by decide +kernel
theorem dX5_readsPart_73 : decode cX5_readsPart 73 = .ok (.iaload, 1) := by decide +kernel
theorem dX5_readsPart_74 : decode cX5_readsPart 74 = .ok (.iadd, 1) := by decide +kernel
theorem dX5_readsPart_75 : decode cX5_readsPart 75 = .ok (.bipush 48, 2) := by decide +kernel
theorem dX5_readsPart_77 : decode cX5_readsPart 77 = .ok (.isub, 1) := by decide +kernel
theorem dX5_readsPart_78 : decode cX5_readsPart 78 = .ok (.goto 5, 3) := by decide +kernel
theorem dX5_readsPart_81 : decode cX5_readsPart 81 = .ok (.iload 5, 2) := by decide +kernel
theorem dX5_readsPart_83 : decode cX5_readsPart 83 = .ok (.istore 5, 2) := by decide +kernel
theorem dX5_readsPart_85 : decode cX5_readsPart 85 = .ok (.iinc 4 1, 3) := by decide +kernel
theorem dX5_readsPart_88 : decode cX5_readsPart 88 = .ok (.goto (-67), 3) := by decide +kernel
theorem dX5_readsPart_91 : decode cX5_readsPart 91 = .ok (.iload 4, 2) := by decide +kernel
theorem dX5_readsPart_93 : decode cX5_readsPart 93 = .ok (.aload_n 0, 1) := by decide +kernel
theorem dX5_readsPart_94 : decode cX5_readsPart 94 = .ok (.getfield 186, 3) := by decide +kernel
theorem dX5_readsPart_97 : decode cX5_readsPart 97 = .ok (.if_icmp .eq 22, 3) := by decide +kernel
theorem dX5_readsPart_100 : decode cX5_readsPart 100 = .ok (.iload 4, 2) := by decide +kernel
theorem dX5_readsPart_102 : decode cX5_readsPart 102 = .ok (.aload_n 0, 1) := by decide +kernel
theorem dX5_readsPart_103 : decode cX5_readsPart 103 = .ok (.getfield 186, 3) := by decide +kernel
theorem dX5_readsPart_106 : decode cX5_readsPart 106 = .ok (.isub, 1) := by decide +kernel
theorem dX5_readsPart_107 : decode cX5_readsPart 107 = .ok (.iconst 4, 1) := by decide +kernel
theorem dX5_readsPart_108 : decode cX5_readsPart 108 = .ok (.if_icmp .gt 11, 3) := by decide +kernel
theorem dX5_readsPart_111 : decode cX5_readsPart 111 = .ok (.iload 5, 2) := by decide +kernel
theorem dX5_readsPart_113 : decode cX5_readsPart 113 = .ok (.sipush 2000, 3) := by decide +kernel
theorem dX5_readsPart_116 : decode cX5_readsPart 116 = .ok (.if_icmp .le 5, 3) := by decide +kernel
theorem dX5_readsPart_119 : decode cX5_readsPart 119 = .ok (.iconst 0, 1) := by decide +kernel
theorem dX5_readsPart_120 : decode cX5_readsPart 120 = .ok (.ireturn, 1) := by decide +kernel
theorem dX5_readsPart_121 : decode cX5_readsPart 121 = .ok (.aload_n 0, 1) := by decide +kernel
theorem dX5_readsPart_122 : decode cX5_readsPart 122 = .ok (.iload 4, 2) := by decide +kernel
theorem dX5_readsPart_124 : decode cX5_readsPart 124 = .ok (.putfield 186, 3) := by decide +kernel
theorem dX5_readsPart_127 : decode cX5_readsPart 127 = .ok (.aload_n 0, 1) := by decide +kernel
theorem dX5_readsPart_128 : decode cX5_readsPart 128 = .ok (.getfield 32, 3) := by decide +kernel
theorem dX5_readsPart_131 : decode cX5_readsPart 131 = .ok (.iload_n 1, 1) := by decide +kernel
theorem dX5_readsPart_132 : decode cX5_readsPart 132 = .ok (.iload_n 2, 1) := by decide +kernel
theorem dX5_readsPart_133 : decode cX5_readsPart 133 = .ok (.ifCond .eq 9, 3) := by decide +kernel
theorem dX5_readsPart_136 : decode cX5_readsPart 136 = .ok (.iload 5, 2) := by decide +kernel
theorem dX5_readsPart_138 : decode cX5_readsPart 138 = .ok (.ineg, 1) := by decide +kernel
theorem dX5_readsPart_139 : decode cX5_readsPart 139 = .ok (.goto 5, 3) := by decide +kernel
theorem dX5_readsPart_142 : decode cX5_readsPart 142 = .ok (.iload 5, 2) := by decide +kernel
theorem dX5_readsPart_144 : decode cX5_readsPart 144 = .ok (.iastore, 1) := by decide +kernel
theorem dX5_readsPart_145 : decode cX5_readsPart 145 = .ok (.iconst 1, 1) := by decide +kernel
theorem dX5_readsPart_146 : decode cX5_readsPart 146 = .ok (.ireturn, 1) := by decide +kernel
theorem dX5_readsRequest_0 : decode cX5_readsRequest 0 = .ok (.aload_n 0, 1) := by decide +kernel
theorem dX5_readsRequest_1 : decode cX5_readsRequest 1 = .ok (.invokevirtual 189, 3) := by decide +kernel
theorem dX5_readsRequest_4 : decode cX5_readsRequest 4 = .ok (.istore_n 2, 1) := by decide +kernel
theorem dX5_readsRequest_5 : decode cX5_readsRequest 5 = .ok (.iload_n 2, 1) := by decide +kernel
theorem dX5_readsRequest_6 : decode cX5_readsRequest 6 = .ok (.iconst (-1), 1) := by decide +kernel
theorem dX5_readsRequest_7 : decode cX5_readsRequest 7 = .ok (.if_icmp .eq 12, 3) := by decide +kernel
theorem dX5_readsRequest_10 : decode cX5_readsRequest 10 = .ok (.aload_n 0, 1) := by decide +kernel
theorem dX5_readsRequest_11 : decode cX5_readsRequest 11 = .ok (.getfield 195, 3) := by decide +kernel
theorem dX5_readsRequest_14 : decode cX5_readsRequest 14 = .ok (.bipush 10, 2) := by decide +kernel
theorem dX5_readsRequest_16 : decode cX5_readsRequest 16 = .ok (.if_icmp .ne 5, 3) := by decide +kernel
theorem dX5_readsRequest_19 : decode cX5_readsRequest 19 = .ok (.iconst 0, 1) := by decide +kernel
theorem dX5_readsRequest_20 : decode cX5_readsRequest 20 = .ok (.ireturn, 1) := by decide +kernel
theorem dX5_readsRequest_21 : decode cX5_readsRequest 21 = .ok (.aload_n 0, 1) := by decide +kernel
theorem dX5_readsRequest_22 : decode cX5_readsRequest 22 = .ok (.bipush 33, 2) := by decide +kernel
theorem dX5_readsRequest_24 : decode cX5_readsRequest 24 = .ok (.invokevirtual 192, 3) := by decide +kernel
theorem dX5_readsRequest_27 : decode cX5_readsRequest 27 = .ok (.istore_n 3, 1) := by decide +kernel
theorem dX5_readsRequest_28 : decode cX5_readsRequest 28 = .ok (.iconst 0, 1) := by decide +kernel
theorem dX5_readsRequest_29 : decode cX5_readsRequest 29 = .ok (.istore 4, 2) := by decide +kernel
theorem dX5_readsRequest_31 : decode cX5_readsRequest 31 = .ok (.iload 4, 2) := by decide +kernel
theorem dX5_readsRequest_33 : decode cX5_readsRequest 33 = .ok (.iconst 3, 1) := by decide +kernel
theorem dX5_readsRequest_34 : decode cX5_readsRequest 34 = .ok (.if_icmp .ge 34, 3) := by decide +kernel
theorem dX5_readsRequest_37 : decode cX5_readsRequest 37 = .ok (.iload 4, 2) := by decide +kernel
theorem dX5_readsRequest_39 : decode cX5_readsRequest 39 = .ok (.ifCond .le 12, 3) := by decide +kernel
theorem dX5_readsRequest_42 : decode cX5_readsRequest 42 = .ok (.aload_n 0, 1) := by decide +kernel
theorem dX5_readsRequest_43 : decode cX5_readsRequest 43 = .ok (.bipush 44, 2) := by decide +kernel
theorem dX5_readsRequest_45 : decode cX5_readsRequest 45 = .ok (.invokevirtual 192, 3) := by decide +kernel
theorem dX5_readsRequest_48 : decode cX5_readsRequest 48 = .ok (.ifCond .eq 12, 3) := by decide +kernel
theorem dX5_readsRequest_51 : decode cX5_readsRequest 51 = .ok (.aload_n 0, 1) := by decide +kernel
theorem dX5_readsRequest_52 : decode cX5_readsRequest 52 = .ok (.iload 4, 2) := by decide +kernel
theorem dX5_readsRequest_54 : decode cX5_readsRequest 54 = .ok (.invokevirtual 198, 3) := by decide +kernel
theorem dX5_readsRequest_57 : decode cX5_readsRequest 57 = .ok (.ifCond .ne 5, 3) := by decide +kernel
theorem dX5_readsRequest_60 : decode cX5_readsRequest 60 = .ok (.iconst 0, 1) := by decide +kernel
theorem dX5_readsRequest_61 : decode cX5_readsRequest 61 = .ok (.ireturn, 1) := by decide +kernel
theorem dX5_readsRequest_62 : decode cX5_readsRequest 62 = .ok (.iinc 4 1, 3) := by decide +kernel
theorem dX5_readsRequest_65 : decode cX5_readsRequest 65 = .ok (.goto (-34), 3) := by decide +kernel
theorem dX5_readsRequest_68 : decode cX5_readsRequest 68 = .ok (.aload_n 0, 1) := by decide +kernel
theorem dX5_readsRequest_69 : decode cX5_readsRequest 69 = .ok (.dup, 1) := by decide +kernel
theorem dX5_readsRequest_70 : decode cX5_readsRequest 70 = .ok (.getfield 195, 3) := by decide +kernel
theorem dX5_readsRequest_73 : decode cX5_readsRequest 73 = .ok (.iconst 1, 1) := by decide +kernel
theorem dX5_readsRequest_74 : decode cX5_readsRequest 74 = .ok (.iadd, 1) := by decide +kernel
theorem dX5_readsRequest_75 : decode cX5_readsRequest 75 = .ok (.putfield 195, 3) := by decide +kernel
theorem dX5_readsRequest_78 : decode cX5_readsRequest 78 = .ok (.iload_n 1, 1) := by decide +kernel
theorem dX5_readsRequest_79 : decode cX5_readsRequest 79 = .ok (.ifCond .eq 40, 3) := by decide +kernel
theorem dX5_readsRequest_82 : decode cX5_readsRequest 82 = .ok (.aload_n 0, 1) := by decide +kernel
theorem dX5_readsRequest_83 : decode cX5_readsRequest 83 = .ok (.iload_n 3, 1) := by decide +kernel
theorem dX5_readsRequest_84 : decode cX5_readsRequest 84 = .ok (.ifCond .eq 7, 3) := by decide +kernel
theorem dX5_readsRequest_87 : decode cX5_readsRequest 87 = .ok (.iconst 0, 1) := by decide +kernel
theorem dX5_readsRequest_88 : decode cX5_readsRequest 88 = .ok (.goto 10, 3) := by decide +kernel
theorem dX5_readsRequest_91 : decode cX5_readsRequest 91 = .ok (.aload_n 0, 1) := by decide +kernel
theorem dX5_readsRequest_92 : decode cX5_readsRequest 92 = .ok (.getfield 7, 3) := by decide +kernel
theorem dX5_readsRequest_95 : decode cX5_readsRequest 95 = .ok (.bipush 68, 2) := by decide +kernel
theorem dX5_readsRequest_97 : decode cX5_readsRequest 97 = .ok (.iaload, 1) := by decide +kernel
theorem dX5_readsRequest_98 : decode cX5_readsRequest 98 = .ok (.aload_n 0, 1) := by decide +kernel
theorem dX5_readsRequest_99 : decode cX5_readsRequest 99 = .ok (.getfield 32, 3) := by decide +kernel
theorem dX5_readsRequest_102 : decode cX5_readsRequest 102 = .ok (.iconst 0, 1) := by decide +kernel
theorem dX5_readsRequest_103 : decode cX5_readsRequest 103 = .ok (.iaload, 1) := by decide +kernel
theorem dX5_readsRequest_104 : decode cX5_readsRequest 104 = .ok (.aload_n 0, 1) := by decide +kernel
theorem dX5_readsRequest_105 : decode cX5_readsRequest 105 = .ok (.getfield 32, 3) := by decide +kernel
theorem dX5_readsRequest_108 : decode cX5_readsRequest 108 = .ok (.iconst 1, 1) := by decide +kernel
theorem dX5_readsRequest_109 : decode cX5_readsRequest 109 = .ok (.iaload, 1) := by decide +kernel
theorem dX5_readsRequest_110 : decode cX5_readsRequest 110 = .ok (.aload_n 0, 1) := by decide +kernel
theorem dX5_readsRequest_111 : decode cX5_readsRequest 111 = .ok (.getfield 32, 3) := by decide +kernel
theorem dX5_readsRequest_114 : decode cX5_readsRequest 114 = .ok (.iconst 2, 1) := by decide +kernel
theorem dX5_readsRequest_115 : decode cX5_readsRequest 115 = .ok (.iaload, 1) := by decide +kernel
theorem dX5_readsRequest_116 : decode cX5_readsRequest 116 = .ok (.invokevirtual 148, 3) := by decide +kernel
theorem dX5_readsRequest_119 : decode cX5_readsRequest 119 = .ok (.iconst 1, 1) := by decide +kernel
theorem dX5_readsRequest_120 : decode cX5_readsRequest 120 = .ok (.ireturn, 1) := by decide +kernel
theorem dX5_readsAll_0 : decode cX5_readsAll 0 = .ok (.aload_n 0, 1) := by decide +kernel
theorem dX5_readsAll_1 : decode cX5_readsAll 1 = .ok (.iconst 0, 1) := by decide +kernel
theorem dX5_readsAll_2 : decode cX5_readsAll 2 = .ok (.putfield 186, 3) := by decide +kernel
theorem dX5_readsAll_5 : decode cX5_readsAll 5 = .ok (.aload_n 0, 1) := by decide +kernel
theorem dX5_readsAll_6 : decode cX5_readsAll 6 = .ok (.aload_n 0, 1) := by decide +kernel
theorem dX5_readsAll_7 : decode cX5_readsAll 7 = .ok (.getfield 7, 3) := by decide +kernel
theorem dX5_readsAll_10 : decode cX5_readsAll 10 = .ok (.bipush 68, 2) := by decide +kernel
theorem dX5_readsAll_12 : decode cX5_readsAll 12 = .ok (.iaload, 1) := by decide +kernel
theorem dX5_readsAll_13 : decode cX5_readsAll 13 = .ok (.putfield 195, 3) := by decide +kernel
theorem dX5_readsAll_16 : decode cX5_readsAll 16 = .ok (.aload_n 0, 1) := by decide +kernel
theorem dX5_readsAll_17 : decode cX5_readsAll 17 = .ok (.iload_n 1, 1) := by decide +kernel
theorem dX5_readsAll_18 : decode cX5_readsAll 18 = .ok (.invokevirtual 201, 3) := by decide +kernel
theorem dX5_readsAll_21 : decode cX5_readsAll 21 = .ok (.istore_n 2, 1) := by decide +kernel
theorem dX5_readsAll_22 : decode cX5_readsAll 22 = .ok (.aload_n 0, 1) := by decide +kernel
theorem dX5_readsAll_23 : decode cX5_readsAll 23 = .ok (.invokevirtual 189, 3) := by decide +kernel
theorem dX5_readsAll_26 : decode cX5_readsAll 26 = .ok (.istore_n 3, 1) := by decide +kernel
theorem dX5_readsAll_27 : decode cX5_readsAll 27 = .ok (.iload_n 2, 1) := by decide +kernel
theorem dX5_readsAll_28 : decode cX5_readsAll 28 = .ok (.ifCond .eq 39, 3) := by decide +kernel
theorem dX5_readsAll_31 : decode cX5_readsAll 31 = .ok (.iload_n 3, 1) := by decide +kernel
theorem dX5_readsAll_32 : decode cX5_readsAll 32 = .ok (.iconst (-1), 1) := by decide +kernel
theorem dX5_readsAll_33 : decode cX5_readsAll 33 = .ok (.if_icmp .eq 34, 3) := by decide +kernel
theorem dX5_readsAll_36 : decode cX5_readsAll 36 = .ok (.aload_n 0, 1) := by decide +kernel
theorem dX5_readsAll_37 : decode cX5_readsAll 37 = .ok (.bipush 59, 2) := by decide +kernel
theorem dX5_readsAll_39 : decode cX5_readsAll 39 = .ok (.invokevirtual 192, 3) := by decide +kernel
theorem dX5_readsAll_42 : decode cX5_readsAll 42 = .ok (.ifCond .eq 15, 3) := by decide +kernel
theorem dX5_readsAll_45 : decode cX5_readsAll 45 = .ok (.aload_n 0, 1) := by decide +kernel
theorem dX5_readsAll_46 : decode cX5_readsAll 46 = .ok (.iload_n 1, 1) := by decide +kernel
theorem dX5_readsAll_47 : decode cX5_readsAll 47 = .ok (.invokevirtual 201, 3) := by decide +kernel
theorem dX5_readsAll_50 : decode cX5_readsAll 50 = .ok (.ifCond .eq 7, 3) := by decide +kernel
theorem dX5_readsAll_53 : decode cX5_readsAll 53 = .ok (.iconst 1, 1) := by decide +kernel
theorem dX5_readsAll_54 : decode cX5_readsAll 54 = .ok (.goto 4, 3) := by decide +kernel
theorem dX5_readsAll_57 : decode cX5_readsAll 57 = .ok (.iconst 0, 1) := by decide +kernel
theorem dX5_readsAll_58 : decode cX5_readsAll 58 = .ok (.istore_n 2, 1) := by decide +kernel
theorem dX5_readsAll_59 : decode cX5_readsAll 59 = .ok (.aload_n 0, 1) := by decide +kernel
theorem dX5_readsAll_60 : decode cX5_readsAll 60 = .ok (.invokevirtual 189, 3) := by decide +kernel
theorem dX5_readsAll_63 : decode cX5_readsAll 63 = .ok (.istore_n 3, 1) := by decide +kernel
theorem dX5_readsAll_64 : decode cX5_readsAll 64 = .ok (.goto (-37), 3) := by decide +kernel
theorem dX5_readsAll_67 : decode cX5_readsAll 67 = .ok (.iload_n 2, 1) := by decide +kernel
theorem dX5_readsAll_68 : decode cX5_readsAll 68 = .ok (.ireturn, 1) := by decide +kernel
theorem dX5_textFault_0 : decode cX5_textFault 0 = .ok (.aload_n 0, 1) := by decide +kernel
theorem dX5_textFault_1 : decode cX5_textFault 1 = .ok (.iconst 0, 1) := by decide +kernel
theorem dX5_textFault_2 : decode cX5_textFault 2 = .ok (.invokevirtual 205, 3) := by decide +kernel
theorem dX5_textFault_5 : decode cX5_textFault 5 = .ok (.ifCond .eq 8, 3) := by decide +kernel
theorem dX5_textFault_8 : decode cX5_textFault 8 = .ok (.ldc 139, 2) := by decide +kernel
theorem dX5_textFault_10 : decode cX5_textFault 10 = .ok (.goto 7, 3) := by decide +kernel
theorem dX5_textFault_13 : decode cX5_textFault 13 = .ok (.aload_n 0, 1) := by decide +kernel
theorem dX5_textFault_14 : decode cX5_textFault 14 = .ok (.getfield 186, 3) := by decide +kernel
theorem dX5_textFault_17 : decode cX5_textFault 17 = .ok (.ireturn, 1) := by decide +kernel
theorem dX5_load_0 : decode cX5_load 0 = .ok (.aload_n 0, 1) := by decide +kernel
theorem dX5_load_1 : decode cX5_load 1 = .ok (.iconst 0, 1) := by decide +kernel
theorem dX5_load_2 : decode cX5_load 2 = .ok (.invokevirtual 205, 3) := by decide +kernel
theorem dX5_load_5 : decode cX5_load 5 = .ok (.ifCond .ne 6, 3) := by decide +kernel
theorem dX5_load_8 : decode cX5_load 8 = .ok (.ldc 94, 2) := by decide +kernel
theorem dX5_load_10 : decode cX5_load 10 = .ok (.ireturn, 1) := by decide +kernel
theorem dX5_load_11 : decode cX5_load 11 = .ok (.aload_n 0, 1) := by decide +kernel
theorem dX5_load_12 : decode cX5_load 12 = .ok (.invokevirtual 66, 3) := by decide +kernel
theorem dX5_load_15 : decode cX5_load 15 = .ok (.aload_n 0, 1) := by decide +kernel
theorem dX5_load_16 : decode cX5_load 16 = .ok (.iconst 1, 1) := by decide +kernel
theorem dX5_load_17 : decode cX5_load 17 = .ok (.invokevirtual 205, 3) := by decide +kernel
theorem dX5_load_20 : decode cX5_load 20 = .ok (.istore_n 1, 1) := by decide +kernel
theorem dX5_load_21 : decode cX5_load 21 = .ok (.aload_n 0, 1) := by decide +kernel
theorem dX5_load_22 : decode cX5_load 22 = .ok (.getfield 7, 3) := by decide +kernel
theorem dX5_load_25 : decode cX5_load 25 = .ok (.bipush 68, 2) := by decide +kernel
theorem dX5_load_27 : decode cX5_load 27 = .ok (.iaload, 1) := by decide +kernel
theorem dX5_load_28 : decode cX5_load 28 = .ok (.ireturn, 1) := by decide +kernel
theorem dX5_note_0 : decode cX5_note 0 = .ok (.aload_n 0, 1) := by decide +kernel
theorem dX5_note_1 : decode cX5_note 1 = .ok (.ldc2_w 208, 3) := by decide +kernel
theorem dX5_note_4 : decode cX5_note 4 = .ok (.aload_n 0, 1) := by decide +kernel
theorem dX5_note_5 : decode cX5_note 5 = .ok (.getfield 210, 3) := by decide +kernel
theorem dX5_note_8 : decode cX5_note 8 = .ok (.lmul, 1) := by decide +kernel
theorem dX5_note_9 : decode cX5_note 9 = .ok (.lload_n 1, 1) := by decide +kernel
theorem dX5_note_10 : decode cX5_note 10 = .ok (.ladd, 1) := by decide +kernel
theorem dX5_note_11 : decode cX5_note 11 = .ok (.putfield 210, 3) := by decide +kernel
theorem dX5_note_14 : decode cX5_note 14 = .ok (.return_, 1) := by decide +kernel
theorem dX5_digest_0 : decode cX5_digest 0 = .ok (.aload_n 0, 1) := by decide +kernel
theorem dX5_digest_1 : decode cX5_digest 1 = .ok (.ldc2_w 213, 3) := by decide +kernel
theorem dX5_digest_4 : decode cX5_digest 4 = .ok (.putfield 210, 3) := by decide +kernel
theorem dX5_digest_7 : decode cX5_digest 7 = .ok (.aload_n 0, 1) := by decide +kernel
theorem dX5_digest_8 : decode cX5_digest 8 = .ok (.aload_n 0, 1) := by decide +kernel
theorem dX5_digest_9 : decode cX5_digest 9 = .ok (.getfield 7, 3) := by decide +kernel
theorem dX5_digest_12 : decode cX5_digest 12 = .ok (.iconst 0, 1) := by decide +kernel
theorem dX5_digest_13 : decode cX5_digest 13 = .ok (.iaload, 1) := by decide +kernel
theorem dX5_digest_14 : decode cX5_digest 14 = .ok (.i2l, 1) := by decide +kernel
theorem dX5_digest_15 : decode cX5_digest 15 = .ok (.invokevirtual 215, 3) := by decide +kernel
theorem dX5_digest_18 : decode cX5_digest 18 = .ok (.iconst 0, 1) := by decide +kernel
theorem dX5_digest_19 : decode cX5_digest 19 = .ok (.istore_n 1, 1) := by decide +kernel
theorem dX5_digest_20 : decode cX5_digest 20 = .ok (.iload_n 1, 1) := by decide +kernel
theorem dX5_digest_21 : decode cX5_digest 21 = .ok (.aload_n 0, 1) := by decide +kernel
theorem dX5_digest_22 : decode cX5_digest 22 = .ok (.getfield 7, 3) := by decide +kernel
theorem dX5_digest_25 : decode cX5_digest 25 = .ok (.iconst 0, 1) := by decide +kernel
theorem dX5_digest_26 : decode cX5_digest 26 = .ok (.iaload, 1) := by decide +kernel
theorem dX5_digest_27 : decode cX5_digest 27 = .ok (.if_icmp .ge 48, 3) := by decide +kernel
theorem dX5_digest_30 : decode cX5_digest 30 = .ok (.iconst 0, 1) := by decide +kernel
theorem dX5_digest_31 : decode cX5_digest 31 = .ok (.istore_n 2, 1) := by decide +kernel
theorem dX5_digest_32 : decode cX5_digest 32 = .ok (.iload_n 2, 1) := by decide +kernel
theorem dX5_digest_33 : decode cX5_digest 33 = .ok (.bipush 7, 2) := by decide +kernel
theorem dX5_digest_35 : decode cX5_digest 35 = .ok (.if_icmp .ge 20, 3) := by decide +kernel
theorem dX5_digest_38 : decode cX5_digest 38 = .ok (.aload_n 0, 1) := by decide +kernel
theorem dX5_digest_39 : decode cX5_digest 39 = .ok (.aload_n 0, 1) := by decide +kernel
theorem dX5_digest_40 : decode cX5_digest 40 = .ok (.iload_n 1, 1) := by decide +kernel
theorem dX5_digest_41 : decode cX5_digest 41 = .ok (.iload_n 2, 1) := by decide +kernel
theorem dX5_digest_42 : decode cX5_digest 42 = .ok (.invokevirtual 48, 3) := by decide +kernel
theorem dX5_digest_45 : decode cX5_digest 45 = .ok (.i2l, 1) := by decide +kernel
theorem dX5_digest_46 : decode cX5_digest 46 = .ok (.invokevirtual 215, 3) := by decide +kernel
theorem dX5_digest_49 : decode cX5_digest 49 = .ok (.iinc 2 1, 3) := by decide +kernel
theorem dX5_digest_52 : decode cX5_digest 52 = .ok (.goto (-20), 3) := by decide +kernel
theorem dX5_digest_55 : decode cX5_digest 55 = .ok (.aload_n 0, 1) := by decide +kernel
theorem dX5_digest_56 : decode cX5_digest 56 = .ok (.aload_n 0, 1) := by decide +kernel
theorem dX5_digest_57 : decode cX5_digest 57 = .ok (.getfield 7, 3) := by decide +kernel
theorem dX5_digest_60 : decode cX5_digest 60 = .ok (.bipush 108, 2) := by decide +kernel
theorem dX5_digest_62 : decode cX5_digest 62 = .ok (.iload_n 1, 1) := by decide +kernel
theorem dX5_digest_63 : decode cX5_digest 63 = .ok (.iadd, 1) := by decide +kernel
theorem dX5_digest_64 : decode cX5_digest 64 = .ok (.iaload, 1) := by decide +kernel
theorem dX5_digest_65 : decode cX5_digest 65 = .ok (.i2l, 1) := by decide +kernel
theorem dX5_digest_66 : decode cX5_digest 66 = .ok (.invokevirtual 215, 3) := by decide +kernel
theorem dX5_digest_69 : decode cX5_digest 69 = .ok (.iinc 1 1, 3) := by decide +kernel
theorem dX5_digest_72 : decode cX5_digest 72 = .ok (.goto (-52), 3) := by decide +kernel
theorem dX5_digest_75 : decode cX5_digest 75 = .ok (.aload_n 0, 1) := by decide +kernel
theorem dX5_digest_76 : decode cX5_digest 76 = .ok (.aload_n 0, 1) := by decide +kernel
theorem dX5_digest_77 : decode cX5_digest 77 = .ok (.getfield 7, 3) := by decide +kernel
theorem dX5_digest_80 : decode cX5_digest 80 = .ok (.bipush 57, 2) := by decide +kernel
theorem dX5_digest_82 : decode cX5_digest 82 = .ok (.iaload, 1) := by decide +kernel
theorem dX5_digest_83 : decode cX5_digest 83 = .ok (.i2l, 1) := by decide +kernel
theorem dX5_digest_84 : decode cX5_digest 84 = .ok (.invokevirtual 215, 3) := by decide +kernel
theorem dX5_digest_87 : decode cX5_digest 87 = .ok (.aload_n 0, 1) := by decide +kernel
theorem dX5_digest_88 : decode cX5_digest 88 = .ok (.aload_n 0, 1) := by decide +kernel
theorem dX5_digest_89 : decode cX5_digest 89 = .ok (.getfield 7, 3) := by decide +kernel
theorem dX5_digest_92 : decode cX5_digest 92 = .ok (.bipush 58, 2) := by decide +kernel
theorem dX5_digest_94 : decode cX5_digest 94 = .ok (.iaload, 1) := by decide +kernel
theorem dX5_digest_95 : decode cX5_digest 95 = .ok (.i2l, 1) := by decide +kernel
theorem dX5_digest_96 : decode cX5_digest 96 = .ok (.invokevirtual 215, 3) := by decide +kernel
theorem dX5_digest_99 : decode cX5_digest 99 = .ok (.aload_n 0, 1) := by decide +kernel
theorem dX5_digest_100 : decode cX5_digest 100 = .ok (.aload_n 0, 1) := by decide +kernel
theorem dX5_digest_101 : decode cX5_digest 101 = .ok (.getfield 7, 3) := by decide +kernel
theorem dX5_digest_104 : decode cX5_digest 104 = .ok (.bipush 68, 2) := by decide +kernel
theorem dX5_digest_106 : decode cX5_digest 106 = .ok (.iaload, 1) := by decide +kernel
theorem dX5_digest_107 : decode cX5_digest 107 = .ok (.i2l, 1) := by decide +kernel
theorem dX5_digest_108 : decode cX5_digest 108 = .ok (.invokevirtual 215, 3) := by decide +kernel
theorem dX5_digest_111 : decode cX5_digest 111 = .ok (.iconst 0, 1) := by decide +kernel
theorem dX5_digest_112 : decode cX5_digest 112 = .ok (.istore_n 1, 1) := by decide +kernel
theorem dX5_digest_113 : decode cX5_digest 113 = .ok (.iload_n 1, 1) := by decide +kernel
theorem dX5_digest_114 : decode cX5_digest 114 = .ok (.iconst 3, 1) := by decide +kernel
theorem dX5_digest_115 : decode cX5_digest 115 = .ok (.aload_n 0, 1) := by decide +kernel
theorem dX5_digest_116 : decode cX5_digest 116 = .ok (.getfield 7, 3) := by decide +kernel
theorem dX5_digest_119 : decode cX5_digest 119 = .ok (.bipush 68, 2) := by decide +kernel
theorem dX5_digest_121 : decode cX5_digest 121 = .ok (.iaload, 1) := by decide +kernel
theorem dX5_digest_122 : decode cX5_digest 122 = .ok (.imul, 1) := by decide +kernel
theorem dX5_digest_123 : decode cX5_digest 123 = .ok (.if_icmp .ge 23, 3) := by decide +kernel
theorem dX5_digest_126 : decode cX5_digest 126 = .ok (.aload_n 0, 1) := by decide +kernel
theorem dX5_digest_127 : decode cX5_digest 127 = .ok (.aload_n 0, 1) := by decide +kernel
theorem dX5_digest_128 : decode cX5_digest 128 = .ok (.getfield 7, 3) := by decide +kernel
theorem dX5_digest_131 : decode cX5_digest 131 = .ok (.bipush 69, 2) := by decide +kernel
theorem dX5_digest_133 : decode cX5_digest 133 = .ok (.iload_n 1, 1) := by decide +kernel
theorem dX5_digest_134 : decode cX5_digest 134 = .ok (.iadd, 1) := by decide +kernel
theorem dX5_digest_135 : decode cX5_digest 135 = .ok (.iaload, 1) := by decide +kernel
theorem dX5_digest_136 : decode cX5_digest 136 = .ok (.i2l, 1) := by decide +kernel
theorem dX5_digest_137 : decode cX5_digest 137 = .ok (.invokevirtual 215, 3) := by decide +kernel
theorem dX5_digest_140 : decode cX5_digest 140 = .ok (.iinc 1 1, 3) := by decide +kernel
theorem dX5_digest_143 : decode cX5_digest 143 = .ok (.goto (-30), 3) := by decide +kernel
theorem dX5_digest_146 : decode cX5_digest 146 = .ok (.iconst 0, 1) := by decide +kernel
theorem dX5_digest_147 : decode cX5_digest 147 = .ok (.istore_n 1, 1) := by decide +kernel
theorem dX5_digest_148 : decode cX5_digest 148 = .ok (.iload_n 1, 1) := by decide +kernel
theorem dX5_digest_149 : decode cX5_digest 149 = .ok (.bipush 9, 2) := by decide +kernel
theorem dX5_digest_151 : decode cX5_digest 151 = .ok (.if_icmp .ge 23, 3) := by decide +kernel
theorem dX5_digest_154 : decode cX5_digest 154 = .ok (.aload_n 0, 1) := by decide +kernel
theorem dX5_digest_155 : decode cX5_digest 155 = .ok (.aload_n 0, 1) := by decide +kernel
theorem dX5_digest_156 : decode cX5_digest 156 = .ok (.getfield 7, 3) := by decide +kernel
theorem dX5_digest_159 : decode cX5_digest 159 = .ok (.bipush 99, 2) := by decide +kernel
theorem dX5_digest_161 : decode cX5_digest 161 = .ok (.iload_n 1, 1) := by decide +kernel
theorem dX5_digest_162 : decode cX5_digest 162 = .ok (.iadd, 1) := by decide +kernel
theorem dX5_digest_163 : decode cX5_digest 163 = .ok (.iaload, 1) := by decide +kernel
theorem dX5_digest_164 : decode cX5_digest 164 = .ok (.i2l, 1) := by decide +kernel
theorem dX5_digest_165 : decode cX5_digest 165 = .ok (.invokevirtual 215, 3) := by decide +kernel
theorem dX5_digest_168 : decode cX5_digest 168 = .ok (.iinc 1 1, 3) := by decide +kernel
theorem dX5_digest_171 : decode cX5_digest 171 = .ok (.goto (-23), 3) := by decide +kernel
theorem dX5_digest_174 : decode cX5_digest 174 = .ok (.iconst 0, 1) := by decide +kernel
theorem dX5_digest_175 : decode cX5_digest 175 = .ok (.istore_n 1, 1) := by decide +kernel
theorem dX5_digest_176 : decode cX5_digest 176 = .ok (.iload_n 1, 1) := by decide +kernel
theorem dX5_digest_177 : decode cX5_digest 177 = .ok (.iconst 3, 1) := by decide +kernel
theorem dX5_digest_178 : decode cX5_digest 178 = .ok (.if_icmp .ge 19, 3) := by decide +kernel
theorem dX5_digest_181 : decode cX5_digest 181 = .ok (.aload_n 0, 1) := by decide +kernel
theorem dX5_digest_182 : decode cX5_digest 182 = .ok (.aload_n 0, 1) := by decide +kernel
theorem dX5_digest_183 : decode cX5_digest 183 = .ok (.getfield 13, 3) := by decide +kernel
theorem dX5_digest_186 : decode cX5_digest 186 = .ok (.iload_n 1, 1) := by decide +kernel
theorem dX5_digest_187 : decode cX5_digest 187 = .ok (.laload, 1) := by decide +kernel
theorem dX5_digest_188 : decode cX5_digest 188 = .ok (.invokevirtual 215, 3) := by decide +kernel
theorem dX5_digest_191 : decode cX5_digest 191 = .ok (.iinc 1 1, 3) := by decide +kernel
theorem dX5_digest_194 : decode cX5_digest 194 = .ok (.goto (-18), 3) := by decide +kernel
theorem dX5_digest_197 : decode cX5_digest 197 = .ok (.aload_n 0, 1) := by decide +kernel
theorem dX5_digest_198 : decode cX5_digest 198 = .ok (.aload_n 0, 1) := by decide +kernel
theorem dX5_digest_199 : decode cX5_digest 199 = .ok (.getfield 7, 3) := by decide +kernel
theorem dX5_digest_202 : decode cX5_digest 202 = .ok (.bipush 117, 2) := by decide +kernel
theorem dX5_digest_204 : decode cX5_digest 204 = .ok (.iaload, 1) := by decide +kernel
theorem dX5_digest_205 : decode cX5_digest 205 = .ok (.i2l, 1) := by decide +kernel
theorem dX5_digest_206 : decode cX5_digest 206 = .ok (.invokevirtual 215, 3) := by decide +kernel
theorem dX5_digest_209 : decode cX5_digest 209 = .ok (.aload_n 0, 1) := by decide +kernel
theorem dX5_digest_210 : decode cX5_digest 210 = .ok (.getfield 210, 3) := by decide +kernel
theorem dX5_digest_213 : decode cX5_digest 213 = .ok (.lreturn, 1) := by decide +kernel
theorem dJ6_bitCount_0f7a4_0 : decode cJ6_bitCount_0f7a4 0 = .ok (.iload_n 0, 1) := by decide +kernel
theorem dJ6_bitCount_0f7a4_1 : decode cJ6_bitCount_0f7a4 1 = .ok (.iload_n 0, 1) := by decide +kernel
theorem dJ6_bitCount_0f7a4_2 : decode cJ6_bitCount_0f7a4 2 = .ok (.iconst 1, 1) := by decide +kernel
theorem dJ6_bitCount_0f7a4_3 : decode cJ6_bitCount_0f7a4 3 = .ok (.iushr, 1) := by decide +kernel
theorem dJ6_bitCount_0f7a4_4 : decode cJ6_bitCount_0f7a4 4 = .ok (.ldc_w 265, 3) := by decide +kernel
theorem dJ6_bitCount_0f7a4_7 : decode cJ6_bitCount_0f7a4 7 = .ok (.iand, 1) := by decide +kernel
theorem dJ6_bitCount_0f7a4_8 : decode cJ6_bitCount_0f7a4 8 = .ok (.isub, 1) := by decide +kernel
theorem dJ6_bitCount_0f7a4_9 : decode cJ6_bitCount_0f7a4 9 = .ok (.istore_n 0, 1) := by decide +kernel
theorem dJ6_bitCount_0f7a4_10 : decode cJ6_bitCount_0f7a4 10 = .ok (.iload_n 0, 1) := by decide +kernel
theorem dJ6_bitCount_0f7a4_11 : decode cJ6_bitCount_0f7a4 11 = .ok (.ldc_w 266, 3) := by decide +kernel
theorem dJ6_bitCount_0f7a4_14 : decode cJ6_bitCount_0f7a4 14 = .ok (.iand, 1) := by decide +kernel
theorem dJ6_bitCount_0f7a4_15 : decode cJ6_bitCount_0f7a4 15 = .ok (.iload_n 0, 1) := by decide +kernel
theorem dJ6_bitCount_0f7a4_16 : decode cJ6_bitCount_0f7a4 16 = .ok (.iconst 2, 1) := by decide +kernel
theorem dJ6_bitCount_0f7a4_17 : decode cJ6_bitCount_0f7a4 17 = .ok (.iushr, 1) := by decide +kernel
theorem dJ6_bitCount_0f7a4_18 : decode cJ6_bitCount_0f7a4 18 = .ok (.ldc_w 266, 3) := by decide +kernel
theorem dJ6_bitCount_0f7a4_21 : decode cJ6_bitCount_0f7a4 21 = .ok (.iand, 1) := by decide +kernel
theorem dJ6_bitCount_0f7a4_22 : decode cJ6_bitCount_0f7a4 22 = .ok (.iadd, 1) := by decide +kernel
theorem dJ6_bitCount_0f7a4_23 : decode cJ6_bitCount_0f7a4 23 = .ok (.istore_n 0, 1) := by decide +kernel
theorem dJ6_bitCount_0f7a4_24 : decode cJ6_bitCount_0f7a4 24 = .ok (.iload_n 0, 1) := by decide +kernel
theorem dJ6_bitCount_0f7a4_25 : decode cJ6_bitCount_0f7a4 25 = .ok (.iload_n 0, 1) := by decide +kernel
theorem dJ6_bitCount_0f7a4_26 : decode cJ6_bitCount_0f7a4 26 = .ok (.iconst 4, 1) := by decide +kernel
theorem dJ6_bitCount_0f7a4_27 : decode cJ6_bitCount_0f7a4 27 = .ok (.iushr, 1) := by decide +kernel
theorem dJ6_bitCount_0f7a4_28 : decode cJ6_bitCount_0f7a4 28 = .ok (.iadd, 1) := by decide +kernel
theorem dJ6_bitCount_0f7a4_29 : decode cJ6_bitCount_0f7a4 29 = .ok (.ldc_w 267, 3) := by decide +kernel
theorem dJ6_bitCount_0f7a4_32 : decode cJ6_bitCount_0f7a4 32 = .ok (.iand, 1) := by decide +kernel
theorem dJ6_bitCount_0f7a4_33 : decode cJ6_bitCount_0f7a4 33 = .ok (.istore_n 0, 1) := by decide +kernel
theorem dJ6_bitCount_0f7a4_34 : decode cJ6_bitCount_0f7a4 34 = .ok (.iload_n 0, 1) := by decide +kernel
theorem dJ6_bitCount_0f7a4_35 : decode cJ6_bitCount_0f7a4 35 = .ok (.iload_n 0, 1) := by decide +kernel
theorem dJ6_bitCount_0f7a4_36 : decode cJ6_bitCount_0f7a4 36 = .ok (.bipush 8, 2) := by decide +kernel
theorem dJ6_bitCount_0f7a4_38 : decode cJ6_bitCount_0f7a4 38 = .ok (.iushr, 1) := by decide +kernel
theorem dJ6_bitCount_0f7a4_39 : decode cJ6_bitCount_0f7a4 39 = .ok (.iadd, 1) := by decide +kernel
theorem dJ6_bitCount_0f7a4_40 : decode cJ6_bitCount_0f7a4 40 = .ok (.istore_n 0, 1) := by decide +kernel
theorem dJ6_bitCount_0f7a4_41 : decode cJ6_bitCount_0f7a4 41 = .ok (.iload_n 0, 1) := by decide +kernel
theorem dJ6_bitCount_0f7a4_42 : decode cJ6_bitCount_0f7a4 42 = .ok (.iload_n 0, 1) := by decide +kernel
theorem dJ6_bitCount_0f7a4_43 : decode cJ6_bitCount_0f7a4 43 = .ok (.bipush 16, 2) := by decide +kernel
theorem dJ6_bitCount_0f7a4_45 : decode cJ6_bitCount_0f7a4 45 = .ok (.iushr, 1) := by decide +kernel
theorem dJ6_bitCount_0f7a4_46 : decode cJ6_bitCount_0f7a4 46 = .ok (.iadd, 1) := by decide +kernel
theorem dJ6_bitCount_0f7a4_47 : decode cJ6_bitCount_0f7a4 47 = .ok (.istore_n 0, 1) := by decide +kernel
theorem dJ6_bitCount_0f7a4_48 : decode cJ6_bitCount_0f7a4 48 = .ok (.iload_n 0, 1) := by decide +kernel
theorem dJ6_bitCount_0f7a4_49 : decode cJ6_bitCount_0f7a4 49 = .ok (.bipush 63, 2) := by decide +kernel
theorem dJ6_bitCount_0f7a4_51 : decode cJ6_bitCount_0f7a4 51 = .ok (.iand, 1) := by decide +kernel
theorem dJ6_bitCount_0f7a4_52 : decode cJ6_bitCount_0f7a4 52 = .ok (.ireturn, 1) := by decide +kernel
theorem dJ9_max_7cf53_0 : decode cJ9_max_7cf53 0 = .ok (.iload_n 0, 1) := by decide +kernel
theorem dJ9_max_7cf53_1 : decode cJ9_max_7cf53 1 = .ok (.iload_n 1, 1) := by decide +kernel
theorem dJ9_max_7cf53_2 : decode cJ9_max_7cf53 2 = .ok (.if_icmp .lt 7, 3) := by decide +kernel
theorem dJ9_max_7cf53_5 : decode cJ9_max_7cf53 5 = .ok (.iload_n 0, 1) := by decide +kernel
theorem dJ9_max_7cf53_6 : decode cJ9_max_7cf53 6 = .ok (.goto 4, 3) := by decide +kernel
theorem dJ9_max_7cf53_9 : decode cJ9_max_7cf53 9 = .ok (.iload_n 1, 1) := by decide +kernel
theorem dJ9_max_7cf53_10 : decode cJ9_max_7cf53 10 = .ok (.ireturn, 1) := by decide +kernel
theorem dJ9_min_7cf53_0 : decode cJ9_min_7cf53 0 = .ok (.iload_n 0, 1) := by decide +kernel
theorem dJ9_min_7cf53_1 : decode cJ9_min_7cf53 1 = .ok (.iload_n 1, 1) := by decide +kernel
theorem dJ9_min_7cf53_2 : decode cJ9_min_7cf53 2 = .ok (.if_icmp .gt 7, 3) := by decide +kernel
theorem dJ9_min_7cf53_5 : decode cJ9_min_7cf53 5 = .ok (.iload_n 0, 1) := by decide +kernel
theorem dJ9_min_7cf53_6 : decode cJ9_min_7cf53 6 = .ok (.goto 4, 3) := by decide +kernel
theorem dJ9_min_7cf53_9 : decode cJ9_min_7cf53 9 = .ok (.iload_n 1, 1) := by decide +kernel
theorem dJ9_min_7cf53_10 : decode cJ9_min_7cf53 10 = .ok (.ireturn, 1) := by decide +kernel
theorem dJ7_fill_d0a16_0 : decode cJ7_fill_d0a16 0 = .ok (.iconst 0, 1) := by decide +kernel
theorem dJ7_fill_d0a16_1 : decode cJ7_fill_d0a16 1 = .ok (.istore_n 3, 1) := by decide +kernel
theorem dJ7_fill_d0a16_2 : decode cJ7_fill_d0a16 2 = .ok (.aload_n 0, 1) := by decide +kernel
theorem dJ7_fill_d0a16_3 : decode cJ7_fill_d0a16 3 = .ok (.arraylength, 1) := by decide +kernel
theorem dJ7_fill_d0a16_4 : decode cJ7_fill_d0a16 4 = .ok (.istore 4, 2) := by decide +kernel
theorem dJ7_fill_d0a16_6 : decode cJ7_fill_d0a16 6 = .ok (.iload_n 3, 1) := by decide +kernel
theorem dJ7_fill_d0a16_7 : decode cJ7_fill_d0a16 7 = .ok (.iload 4, 2) := by decide +kernel
theorem dJ7_fill_d0a16_9 : decode cJ7_fill_d0a16 9 = .ok (.if_icmp .ge 13, 3) := by decide +kernel
theorem dJ7_fill_d0a16_12 : decode cJ7_fill_d0a16 12 = .ok (.aload_n 0, 1) := by decide +kernel
theorem dJ7_fill_d0a16_13 : decode cJ7_fill_d0a16 13 = .ok (.iload_n 3, 1) := by decide +kernel
theorem dJ7_fill_d0a16_14 : decode cJ7_fill_d0a16 14 = .ok (.lload_n 1, 1) := by decide +kernel
theorem dJ7_fill_d0a16_15 : decode cJ7_fill_d0a16 15 = .ok (.lastore, 1) := by decide +kernel
theorem dJ7_fill_d0a16_16 : decode cJ7_fill_d0a16 16 = .ok (.iinc 3 1, 3) := by decide +kernel
theorem dJ7_fill_d0a16_19 : decode cJ7_fill_d0a16 19 = .ok (.goto (-13), 3) := by decide +kernel
theorem dJ7_fill_d0a16_22 : decode cJ7_fill_d0a16 22 = .ok (.return_, 1) := by decide +kernel
theorem dJ7_fill_53178_0 : decode cJ7_fill_53178 0 = .ok (.iconst 0, 1) := by decide +kernel
theorem dJ7_fill_53178_1 : decode cJ7_fill_53178 1 = .ok (.istore_n 2, 1) := by decide +kernel
theorem dJ7_fill_53178_2 : decode cJ7_fill_53178 2 = .ok (.aload_n 0, 1) := by decide +kernel
theorem dJ7_fill_53178_3 : decode cJ7_fill_53178 3 = .ok (.arraylength, 1) := by decide +kernel
theorem dJ7_fill_53178_4 : decode cJ7_fill_53178 4 = .ok (.istore_n 3, 1) := by decide +kernel
theorem dJ7_fill_53178_5 : decode cJ7_fill_53178 5 = .ok (.iload_n 2, 1) := by decide +kernel
theorem dJ7_fill_53178_6 : decode cJ7_fill_53178 6 = .ok (.iload_n 3, 1) := by decide +kernel
theorem dJ7_fill_53178_7 : decode cJ7_fill_53178 7 = .ok (.if_icmp .ge 13, 3) := by decide +kernel
theorem dJ7_fill_53178_10 : decode cJ7_fill_53178 10 = .ok (.aload_n 0, 1) := by decide +kernel
theorem dJ7_fill_53178_11 : decode cJ7_fill_53178 11 = .ok (.iload_n 2, 1) := by decide +kernel
theorem dJ7_fill_53178_12 : decode cJ7_fill_53178 12 = .ok (.iload_n 1, 1) := by decide +kernel
theorem dJ7_fill_53178_13 : decode cJ7_fill_53178 13 = .ok (.iastore, 1) := by decide +kernel
theorem dJ7_fill_53178_14 : decode cJ7_fill_53178 14 = .ok (.iinc 2 1, 3) := by decide +kernel
theorem dJ7_fill_53178_17 : decode cJ7_fill_53178 17 = .ok (.goto (-12), 3) := by decide +kernel
theorem dJ7_fill_53178_20 : decode cJ7_fill_53178 20 = .ok (.return_, 1) := by decide +kernel
theorem dL_law_0 : decode cL_law 0 = .ok (.new 7, 3) := by decide +kernel
theorem dL_law_3 : decode cL_law 3 = .ok (.dup, 1) := by decide +kernel
theorem dL_law_4 : decode cL_law 4 = .ok (.invokespecial 9, 3) := by decide +kernel
theorem dL_law_7 : decode cL_law 7 = .ok (.astore_n 1, 1) := by decide +kernel
theorem dL_law_8 : decode cL_law 8 = .ok (.new 10, 3) := by decide +kernel
theorem dL_law_11 : decode cL_law 11 = .ok (.dup, 1) := by decide +kernel
theorem dL_law_12 : decode cL_law 12 = .ok (.invokespecial 12, 3) := by decide +kernel
theorem dL_law_15 : decode cL_law 15 = .ok (.astore_n 2, 1) := by decide +kernel
theorem dL_law_16 : decode cL_law 16 = .ok (.iconst 0, 1) := by decide +kernel
theorem dL_law_17 : decode cL_law 17 = .ok (.istore_n 3, 1) := by decide +kernel
theorem dL_law_18 : decode cL_law 18 = .ok (.iload_n 3, 1) := by decide +kernel
theorem dL_law_19 : decode cL_law 19 = .ok (.aload_n 0, 1) := by decide +kernel
theorem dL_law_20 : decode cL_law 20 = .ok (.arraylength, 1) := by decide +kernel
theorem dL_law_21 : decode cL_law 21 = .ok (.bipush 7, 2) := by decide +kernel
theorem dL_law_23 : decode cL_law 23 = .ok (.isub, 1) := by decide +kernel
theorem dL_law_24 : decode cL_law 24 = .ok (.if_icmp .gt 1068, 3) := by decide +kernel
theorem dL_law_27 : decode cL_law 27 = .ok (.aload_n 0, 1) := by decide +kernel
theorem dL_law_28 : decode cL_law 28 = .ok (.iload_n 3, 1) := by decide +kernel
theorem dL_law_29 : decode cL_law 29 = .ok (.iaload, 1) := by decide +kernel
theorem dL_law_30 : decode cL_law 30 = .ok (.bipush 31, 2) := by decide +kernel
theorem dL_law_32 : decode cL_law 32 = .ok (.iand, 1) := by decide +kernel
theorem dL_law_33 : decode cL_law 33 = .ok (.tableswitch 1053 0 31 #[143, 218, 251, 264, 297, 330, 373, 406, 429, 452, 475, 498, 541, 594, 637, 680, 723, 746, 759, 792, 805, 828, 841, 864, 897, 921, 964, 977, 1000, 1013, 1026, 1039], 143) := by decide +kernel
theorem dL_law_176 : decode cL_law 176 = .ok (.aload_n 1, 1) := by decide +kernel
theorem dL_law_177 : decode cL_law 177 = .ok (.aload_n 0, 1) := by decide +kernel
theorem dL_law_178 : decode cL_law 178 = .ok (.iload_n 3, 1) := by decide +kernel
theorem dL_law_179 : decode cL_law 179 = .ok (.iconst 1, 1) := by decide +kernel
theorem dL_law_180 : decode cL_law 180 = .ok (.iadd, 1) := by decide +kernel
theorem dL_law_181 : decode cL_law 181 = .ok (.iaload, 1) := by decide +kernel
theorem dL_law_182 : decode cL_law 182 = .ok (.aload_n 0, 1) := by decide +kernel
theorem dL_law_183 : decode cL_law 183 = .ok (.iload_n 3, 1) := by decide +kernel
theorem dL_law_184 : decode cL_law 184 = .ok (.iconst 2, 1) := by decide +kernel
theorem dL_law_185 : decode cL_law 185 = .ok (.iadd, 1) := by decide +kernel
theorem dL_law_186 : decode cL_law 186 = .ok (.iaload, 1) := by decide +kernel
theorem dL_law_187 : decode cL_law 187 = .ok (.aload_n 0, 1) := by decide +kernel
theorem dL_law_188 : decode cL_law 188 = .ok (.iload_n 3, 1) := by decide +kernel
theorem dL_law_189 : decode cL_law 189 = .ok (.iconst 3, 1) := by decide +kernel
theorem dL_law_190 : decode cL_law 190 = .ok (.iadd, 1) := by decide +kernel
theorem dL_law_191 : decode cL_law 191 = .ok (.iaload, 1) := by decide +kernel
theorem dL_law_192 : decode cL_law 192 = .ok (.aload_n 0, 1) := by decide +kernel
theorem dL_law_193 : decode cL_law 193 = .ok (.iload_n 3, 1) := by decide +kernel
theorem dL_law_194 : decode cL_law 194 = .ok (.iconst 4, 1) := by decide +kernel
theorem dL_law_195 : decode cL_law 195 = .ok (.iadd, 1) := by decide +kernel
theorem dL_law_196 : decode cL_law 196 = .ok (.iaload, 1) := by decide +kernel
theorem dL_law_197 : decode cL_law 197 = .ok (.aload_n 0, 1) := by decide +kernel
theorem dL_law_198 : decode cL_law 198 = .ok (.iload_n 3, 1) := by decide +kernel
theorem dL_law_199 : decode cL_law 199 = .ok (.iconst 5, 1) := by decide +kernel
theorem dL_law_200 : decode cL_law 200 = .ok (.iadd, 1) := by decide +kernel
theorem dL_law_201 : decode cL_law 201 = .ok (.iaload, 1) := by decide +kernel
theorem dL_law_202 : decode cL_law 202 = .ok (.aload_n 0, 1) := by decide +kernel
theorem dL_law_203 : decode cL_law 203 = .ok (.iload_n 3, 1) := by decide +kernel
theorem dL_law_204 : decode cL_law 204 = .ok (.bipush 6, 2) := by decide +kernel
theorem dL_law_206 : decode cL_law 206 = .ok (.iadd, 1) := by decide +kernel
theorem dL_law_207 : decode cL_law 207 = .ok (.iaload, 1) := by decide +kernel
theorem dL_law_208 : decode cL_law 208 = .ok (.invokevirtual 13, 3) := by decide +kernel
theorem dL_law_211 : decode cL_law 211 = .ok (.aload_n 2, 1) := by decide +kernel
theorem dL_law_212 : decode cL_law 212 = .ok (.aload_n 0, 1) := by decide +kernel
theorem dL_law_213 : decode cL_law 213 = .ok (.iload_n 3, 1) := by decide +kernel
theorem dL_law_214 : decode cL_law 214 = .ok (.iconst 1, 1) := by decide +kernel
theorem dL_law_215 : decode cL_law 215 = .ok (.iadd, 1) := by decide +kernel
theorem dL_law_216 : decode cL_law 216 = .ok (.iaload, 1) := by decide +kernel
theorem dL_law_217 : decode cL_law 217 = .ok (.aload_n 0, 1) := by decide +kernel
theorem dL_law_218 : decode cL_law 218 = .ok (.iload_n 3, 1) := by decide +kernel
theorem dL_law_219 : decode cL_law 219 = .ok (.iconst 2, 1) := by decide +kernel
theorem dL_law_220 : decode cL_law 220 = .ok (.iadd, 1) := by decide +kernel
theorem dL_law_221 : decode cL_law 221 = .ok (.iaload, 1) := by decide +kernel
theorem dL_law_222 : decode cL_law 222 = .ok (.aload_n 0, 1) := by decide +kernel
theorem dL_law_223 : decode cL_law 223 = .ok (.iload_n 3, 1) := by decide +kernel
theorem dL_law_224 : decode cL_law 224 = .ok (.iconst 3, 1) := by decide +kernel
theorem dL_law_225 : decode cL_law 225 = .ok (.iadd, 1) := by decide +kernel
theorem dL_law_226 : decode cL_law 226 = .ok (.iaload, 1) := by decide +kernel
theorem dL_law_227 : decode cL_law 227 = .ok (.aload_n 0, 1) := by decide +kernel
theorem dL_law_228 : decode cL_law 228 = .ok (.iload_n 3, 1) := by decide +kernel
theorem dL_law_229 : decode cL_law 229 = .ok (.iconst 4, 1) := by decide +kernel
theorem dL_law_230 : decode cL_law 230 = .ok (.iadd, 1) := by decide +kernel
theorem dL_law_231 : decode cL_law 231 = .ok (.iaload, 1) := by decide +kernel
theorem dL_law_232 : decode cL_law 232 = .ok (.aload_n 0, 1) := by decide +kernel
theorem dL_law_233 : decode cL_law 233 = .ok (.iload_n 3, 1) := by decide +kernel
theorem dL_law_234 : decode cL_law 234 = .ok (.iconst 5, 1) := by decide +kernel
theorem dL_law_235 : decode cL_law 235 = .ok (.iadd, 1) := by decide +kernel
theorem dL_law_236 : decode cL_law 236 = .ok (.iaload, 1) := by decide +kernel
theorem dL_law_237 : decode cL_law 237 = .ok (.aload_n 0, 1) := by decide +kernel
theorem dL_law_238 : decode cL_law 238 = .ok (.iload_n 3, 1) := by decide +kernel
theorem dL_law_239 : decode cL_law 239 = .ok (.bipush 6, 2) := by decide +kernel
theorem dL_law_241 : decode cL_law 241 = .ok (.iadd, 1) := by decide +kernel
theorem dL_law_242 : decode cL_law 242 = .ok (.iaload, 1) := by decide +kernel
theorem dL_law_243 : decode cL_law 243 = .ok (.invokevirtual 17, 3) := by decide +kernel
theorem dL_law_246 : decode cL_law 246 = .ok (.if_icmp .eq 840, 3) := by decide +kernel
theorem dL_law_249 : decode cL_law 249 = .ok (.iconst 0, 1) := by decide +kernel
theorem dL_law_250 : decode cL_law 250 = .ok (.ireturn, 1) := by decide +kernel
theorem dL_law_251 : decode cL_law 251 = .ok (.aload_n 1, 1) := by decide +kernel
theorem dL_law_252 : decode cL_law 252 = .ok (.aload_n 0, 1) := by decide +kernel
theorem dL_law_253 : decode cL_law 253 = .ok (.iload_n 3, 1) := by decide +kernel
theorem dL_law_254 : decode cL_law 254 = .ok (.iconst 1, 1) := by decide +kernel
theorem dL_law_255 : decode cL_law 255 = .ok (.iadd, 1) := by decide +kernel
theorem dL_law_256 : decode cL_law 256 = .ok (.iaload, 1) := by decide +kernel
theorem dL_law_257 : decode cL_law 257 = .ok (.aload_n 0, 1) := by decide +kernel
theorem dL_law_258 : decode cL_law 258 = .ok (.iload_n 3, 1) := by decide +kernel
theorem dL_law_259 : decode cL_law 259 = .ok (.iconst 2, 1) := by decide +kernel
theorem dL_law_260 : decode cL_law 260 = .ok (.iadd, 1) := by decide +kernel
theorem dL_law_261 : decode cL_law 261 = .ok (.iaload, 1) := by decide +kernel
theorem dL_law_262 : decode cL_law 262 = .ok (.invokevirtual 18, 3) := by decide +kernel
theorem dL_law_265 : decode cL_law 265 = .ok (.aload_n 2, 1) := by decide +kernel
theorem dL_law_266 : decode cL_law 266 = .ok (.aload_n 0, 1) := by decide +kernel
theorem dL_law_267 : decode cL_law 267 = .ok (.iload_n 3, 1) := by decide +kernel
theorem dL_law_268 : decode cL_law 268 = .ok (.iconst 1, 1) := by decide +kernel
theorem dL_law_269 : decode cL_law 269 = .ok (.iadd, 1) := by decide +kernel
theorem dL_law_270 : decode cL_law 270 = .ok (.iaload, 1) := by decide +kernel
theorem dL_law_271 : decode cL_law 271 = .ok (.aload_n 0, 1) := by decide +kernel
theorem dL_law_272 : decode cL_law 272 = .ok (.iload_n 3, 1) := by decide +kernel
theorem dL_law_273 : decode cL_law 273 = .ok (.iconst 2, 1) := by decide +kernel
theorem dL_law_274 : decode cL_law 274 = .ok (.iadd, 1) := by decide +kernel
theorem dL_law_275 : decode cL_law 275 = .ok (.iaload, 1) := by decide +kernel
theorem dL_law_276 : decode cL_law 276 = .ok (.invokevirtual 22, 3) := by decide +kernel
theorem dL_law_279 : decode cL_law 279 = .ok (.if_icmp .eq 807, 3) := by decide +kernel
theorem dL_law_282 : decode cL_law 282 = .ok (.iconst 0, 1) := by decide +kernel
theorem dL_law_283 : decode cL_law 283 = .ok (.ireturn, 1) := by decide +kernel
theorem dL_law_284 : decode cL_law 284 = .ok (.aload_n 1, 1) := by decide +kernel
theorem dL_law_285 : decode cL_law 285 = .ok (.invokevirtual 23, 3) := by decide +kernel
theorem dL_law_288 : decode cL_law 288 = .ok (.aload_n 2, 1) := by decide +kernel
theorem dL_law_289 : decode cL_law 289 = .ok (.invokevirtual 27, 3) := by decide +kernel
theorem dL_law_292 : decode cL_law 292 = .ok (.if_icmp .eq 794, 3) := by decide +kernel
theorem dL_law_295 : decode cL_law 295 = .ok (.iconst 0, 1) := by decide +kernel
theorem dL_law_296 : decode cL_law 296 = .ok (.ireturn, 1) := by decide +kernel
theorem dL_law_297 : decode cL_law 297 = .ok (.aload_n 1, 1) := by decide +kernel
theorem dL_law_298 : decode cL_law 298 = .ok (.aload_n 0, 1) := by decide +kernel
theorem dL_law_299 : decode cL_law 299 = .ok (.iload_n 3, 1) := by decide +kernel
theorem dL_law_300 : decode cL_law 300 = .ok (.iconst 1, 1) := by decide +kernel
theorem dL_law_301 : decode cL_law 301 = .ok (.iadd, 1) := by decide +kernel
theorem dL_law_302 : decode cL_law 302 = .ok (.iaload, 1) := by decide +kernel
theorem dL_law_303 : decode cL_law 303 = .ok (.aload_n 0, 1) := by decide +kernel
theorem dL_law_304 : decode cL_law 304 = .ok (.iload_n 3, 1) := by decide +kernel
theorem dL_law_305 : decode cL_law 305 = .ok (.iconst 2, 1) := by decide +kernel
theorem dL_law_306 : decode cL_law 306 = .ok (.iadd, 1) := by decide +kernel
theorem dL_law_307 : decode cL_law 307 = .ok (.iaload, 1) := by decide +kernel
theorem dL_law_308 : decode cL_law 308 = .ok (.invokevirtual 28, 3) := by decide +kernel
theorem dL_law_311 : decode cL_law 311 = .ok (.aload_n 2, 1) := by decide +kernel
theorem dL_law_312 : decode cL_law 312 = .ok (.aload_n 0, 1) := by decide +kernel
theorem dL_law_313 : decode cL_law 313 = .ok (.iload_n 3, 1) := by decide +kernel
theorem dL_law_314 : decode cL_law 314 = .ok (.iconst 1, 1) := by decide +kernel
theorem dL_law_315 : decode cL_law 315 = .ok (.iadd, 1) := by decide +kernel
theorem dL_law_316 : decode cL_law 316 = .ok (.iaload, 1) := by decide +kernel
theorem dL_law_317 : decode cL_law 317 = .ok (.aload_n 0, 1) := by decide +kernel
theorem dL_law_318 : decode cL_law 318 = .ok (.iload_n 3, 1) := by decide +kernel
theorem dL_law_319 : decode cL_law 319 = .ok (.iconst 2, 1) := by decide +kernel
theorem dL_law_320 : decode cL_law 320 = .ok (.iadd, 1) := by decide +kernel
theorem dL_law_321 : decode cL_law 321 = .ok (.iaload, 1) := by decide +kernel
theorem dL_law_322 : decode cL_law 322 = .ok (.invokevirtual 31, 3) := by decide +kernel
theorem dL_law_325 : decode cL_law 325 = .ok (.if_icmp .eq 761, 3) := by decide +kernel
theorem dL_law_328 : decode cL_law 328 = .ok (.iconst 0, 1) := by decide +kernel
theorem dL_law_329 : decode cL_law 329 = .ok (.ireturn, 1) := by decide +kernel
theorem dL_law_330 : decode cL_law 330 = .ok (.aload_n 1, 1) := by decide +kernel
theorem dL_law_331 : decode cL_law 331 = .ok (.aload_n 0, 1) := by decide +kernel
theorem dL_law_332 : decode cL_law 332 = .ok (.iload_n 3, 1) := by decide +kernel
theorem dL_law_333 : decode cL_law 333 = .ok (.iconst 1, 1) := by decide +kernel
theorem dL_law_334 : decode cL_law 334 = .ok (.iadd, 1) := by decide +kernel
theorem dL_law_335 : decode cL_law 335 = .ok (.iaload, 1) := by decide +kernel
theorem dL_law_336 : decode cL_law 336 = .ok (.aload_n 0, 1) := by decide +kernel
theorem dL_law_337 : decode cL_law 337 = .ok (.iload_n 3, 1) := by decide +kernel
theorem dL_law_338 : decode cL_law 338 = .ok (.iconst 2, 1) := by decide +kernel
theorem dL_law_339 : decode cL_law 339 = .ok (.iadd, 1) := by decide +kernel
theorem dL_law_340 : decode cL_law 340 = .ok (.iaload, 1) := by decide +kernel
theorem dL_law_341 : decode cL_law 341 = .ok (.invokevirtual 32, 3) := by decide +kernel
theorem dL_law_344 : decode cL_law 344 = .ok (.aload_n 2, 1) := by decide +kernel
theorem dL_law_345 : decode cL_law 345 = .ok (.aload_n 0, 1) := by decide +kernel
theorem dL_law_346 : decode cL_law 346 = .ok (.iload_n 3, 1) := by decide +kernel
theorem dL_law_347 : decode cL_law 347 = .ok (.iconst 1, 1) := by decide +kernel
theorem dL_law_348 : decode cL_law 348 = .ok (.iadd, 1) := by decide +kernel
theorem dL_law_349 : decode cL_law 349 = .ok (.iaload, 1) := by decide +kernel
theorem dL_law_350 : decode cL_law 350 = .ok (.aload_n 0, 1) := by decide +kernel
theorem dL_law_351 : decode cL_law 351 = .ok (.iload_n 3, 1) := by decide +kernel
theorem dL_law_352 : decode cL_law 352 = .ok (.iconst 2, 1) := by decide +kernel
theorem dL_law_353 : decode cL_law 353 = .ok (.iadd, 1) := by decide +kernel
theorem dL_law_354 : decode cL_law 354 = .ok (.iaload, 1) := by decide +kernel
theorem dL_law_355 : decode cL_law 355 = .ok (.invokevirtual 35, 3) := by decide +kernel
theorem dL_law_358 : decode cL_law 358 = .ok (.if_icmp .eq 728, 3) := by decide +kernel
theorem dL_law_361 : decode cL_law 361 = .ok (.iconst 0, 1) := by decide +kernel
theorem dL_law_362 : decode cL_law 362 = .ok (.ireturn, 1) := by decide +kernel
theorem dL_law_363 : decode cL_law 363 = .ok (.aload_n 1, 1) := by decide +kernel
theorem dL_law_364 : decode cL_law 364 = .ok (.aload_n 0, 1) := by decide +kernel
theorem dL_law_365 : decode cL_law 365 = .ok (.iload_n 3, 1) := by decide +kernel
theorem dL_law_366 : decode cL_law 366 = .ok (.iconst 1, 1) := by decide +kernel
theorem dL_law_367 : decode cL_law 367 = .ok (.iadd, 1) := by decide +kernel
theorem dL_law_368 : decode cL_law 368 = .ok (.iaload, 1) := by decide +kernel
theorem dL_law_369 : decode cL_law 369 = .ok (.aload_n 0, 1) := by decide +kernel
theorem dL_law_370 : decode cL_law 370 = .ok (.iload_n 3, 1) := by decide +kernel
theorem dL_law_371 : decode cL_law 371 = .ok (.iconst 2, 1) := by decide +kernel
theorem dL_law_372 : decode cL_law 372 = .ok (.iadd, 1) := by decide +kernel
theorem dL_law_373 : decode cL_law 373 = .ok (.iaload, 1) := by decide +kernel
theorem dL_law_374 : decode cL_law 374 = .ok (.aload_n 0, 1) := by decide +kernel
theorem dL_law_375 : decode cL_law 375 = .ok (.iload_n 3, 1) := by decide +kernel
theorem dL_law_376 : decode cL_law 376 = .ok (.iconst 3, 1) := by decide +kernel
theorem dL_law_377 : decode cL_law 377 = .ok (.iadd, 1) := by decide +kernel
theorem dL_law_378 : decode cL_law 378 = .ok (.iaload, 1) := by decide +kernel
theorem dL_law_379 : decode cL_law 379 = .ok (.invokevirtual 36, 3) := by decide +kernel
theorem dL_law_382 : decode cL_law 382 = .ok (.aload_n 2, 1) := by decide +kernel
theorem dL_law_383 : decode cL_law 383 = .ok (.aload_n 0, 1) := by decide +kernel
theorem dL_law_384 : decode cL_law 384 = .ok (.iload_n 3, 1) := by decide +kernel
theorem dL_law_385 : decode cL_law 385 = .ok (.iconst 1, 1) := by decide +kernel
theorem dL_law_386 : decode cL_law 386 = .ok (.iadd, 1) := by decide +kernel
theorem dL_law_387 : decode cL_law 387 = .ok (.iaload, 1) := by decide +kernel
theorem dL_law_388 : decode cL_law 388 = .ok (.aload_n 0, 1) := by decide +kernel
theorem dL_law_389 : decode cL_law 389 = .ok (.iload_n 3, 1) := by decide +kernel
theorem dL_law_390 : decode cL_law 390 = .ok (.iconst 2, 1) := by decide +kernel
theorem dL_law_391 : decode cL_law 391 = .ok (.iadd, 1) := by decide +kernel
theorem dL_law_392 : decode cL_law 392 = .ok (.iaload, 1) := by decide +kernel
theorem dL_law_393 : decode cL_law 393 = .ok (.aload_n 0, 1) := by decide +kernel
theorem dL_law_394 : decode cL_law 394 = .ok (.iload_n 3, 1) := by decide +kernel
theorem dL_law_395 : decode cL_law 395 = .ok (.iconst 3, 1) := by decide +kernel
theorem dL_law_396 : decode cL_law 396 = .ok (.iadd, 1) := by decide +kernel
theorem dL_law_397 : decode cL_law 397 = .ok (.iaload, 1) := by decide +kernel
theorem dL_law_398 : decode cL_law 398 = .ok (.invokevirtual 40, 3) := by decide +kernel
theorem dL_law_401 : decode cL_law 401 = .ok (.if_icmp .eq 685, 3) := by decide +kernel
theorem dL_law_404 : decode cL_law 404 = .ok (.iconst 0, 1) := by decide +kernel
theorem dL_law_405 : decode cL_law 405 = .ok (.ireturn, 1) := by decide +kernel
theorem dL_law_406 : decode cL_law 406 = .ok (.aload_n 1, 1) := by decide +kernel
theorem dL_law_407 : decode cL_law 407 = .ok (.aload_n 0, 1) := by decide +kernel
theorem dL_law_408 : decode cL_law 408 = .ok (.iload_n 3, 1) := by decide +kernel
theorem dL_law_409 : decode cL_law 409 = .ok (.iconst 1, 1) := by decide +kernel
theorem dL_law_410 : decode cL_law 410 = .ok (.iadd, 1) := by decide +kernel
theorem dL_law_411 : decode cL_law 411 = .ok (.iaload, 1) := by decide +kernel
theorem dL_law_412 : decode cL_law 412 = .ok (.aload_n 0, 1) := by decide +kernel
theorem dL_law_413 : decode cL_law 413 = .ok (.iload_n 3, 1) := by decide +kernel
theorem dL_law_414 : decode cL_law 414 = .ok (.iconst 2, 1) := by decide +kernel
theorem dL_law_415 : decode cL_law 415 = .ok (.iadd, 1) := by decide +kernel
theorem dL_law_416 : decode cL_law 416 = .ok (.iaload, 1) := by decide +kernel
theorem dL_law_417 : decode cL_law 417 = .ok (.invokevirtual 41, 3) := by decide +kernel
theorem dL_law_420 : decode cL_law 420 = .ok (.aload_n 2, 1) := by decide +kernel
theorem dL_law_421 : decode cL_law 421 = .ok (.aload_n 0, 1) := by decide +kernel
theorem dL_law_422 : decode cL_law 422 = .ok (.iload_n 3, 1) := by decide +kernel
theorem dL_law_423 : decode cL_law 423 = .ok (.iconst 1, 1) := by decide +kernel
theorem dL_law_424 : decode cL_law 424 = .ok (.iadd, 1) := by decide +kernel
theorem dL_law_425 : decode cL_law 425 = .ok (.iaload, 1) := by decide +kernel
theorem dL_law_426 : decode cL_law 426 = .ok (.aload_n 0, 1) := by decide +kernel
theorem dL_law_427 : decode cL_law 427 = .ok (.iload_n 3, 1) := by decide +kernel
theorem dL_law_428 : decode cL_law 428 = .ok (.iconst 2, 1) := by decide +kernel
theorem dL_law_429 : decode cL_law 429 = .ok (.iadd, 1) := by decide +kernel
theorem dL_law_430 : decode cL_law 430 = .ok (.iaload, 1) := by decide +kernel
theorem dL_law_431 : decode cL_law 431 = .ok (.invokevirtual 44, 3) := by decide +kernel
theorem dL_law_434 : decode cL_law 434 = .ok (.if_icmp .eq 652, 3) := by decide +kernel
theorem dL_law_437 : decode cL_law 437 = .ok (.iconst 0, 1) := by decide +kernel
theorem dL_law_438 : decode cL_law 438 = .ok (.ireturn, 1) := by decide +kernel
theorem dL_law_439 : decode cL_law 439 = .ok (.aload_n 1, 1) := by decide +kernel
theorem dL_law_440 : decode cL_law 440 = .ok (.aload_n 0, 1) := by decide +kernel
theorem dL_law_441 : decode cL_law 441 = .ok (.iload_n 3, 1) := by decide +kernel
theorem dL_law_442 : decode cL_law 442 = .ok (.iconst 1, 1) := by decide +kernel
theorem dL_law_443 : decode cL_law 443 = .ok (.iadd, 1) := by decide +kernel
theorem dL_law_444 : decode cL_law 444 = .ok (.iaload, 1) := by decide +kernel
theorem dL_law_445 : decode cL_law 445 = .ok (.invokevirtual 45, 3) := by decide +kernel
theorem dL_law_448 : decode cL_law 448 = .ok (.aload_n 2, 1) := by decide +kernel
theorem dL_law_449 : decode cL_law 449 = .ok (.aload_n 0, 1) := by decide +kernel
theorem dL_law_450 : decode cL_law 450 = .ok (.iload_n 3, 1) := by decide +kernel
theorem dL_law_451 : decode cL_law 451 = .ok (.iconst 1, 1) := by decide +kernel
theorem dL_law_452 : decode cL_law 452 = .ok (.iadd, 1) := by decide +kernel
theorem dL_law_453 : decode cL_law 453 = .ok (.iaload, 1) := by decide +kernel
theorem dL_law_454 : decode cL_law 454 = .ok (.invokevirtual 49, 3) := by decide +kernel
theorem dL_law_457 : decode cL_law 457 = .ok (.if_icmp .eq 629, 3) := by decide +kernel
theorem dL_law_460 : decode cL_law 460 = .ok (.iconst 0, 1) := by decide +kernel
theorem dL_law_461 : decode cL_law 461 = .ok (.ireturn, 1) := by decide +kernel
theorem dL_law_462 : decode cL_law 462 = .ok (.aload_n 1, 1) := by decide +kernel
theorem dL_law_463 : decode cL_law 463 = .ok (.aload_n 0, 1) := by decide +kernel
theorem dL_law_464 : decode cL_law 464 = .ok (.iload_n 3, 1) := by decide +kernel
theorem dL_law_465 : decode cL_law 465 = .ok (.iconst 1, 1) := by decide +kernel
theorem dL_law_466 : decode cL_law 466 = .ok (.iadd, 1) := by decide +kernel
theorem dL_law_467 : decode cL_law 467 = .ok (.iaload, 1) := by decide +kernel
theorem dL_law_468 : decode cL_law 468 = .ok (.invokevirtual 50, 3) := by decide +kernel
theorem dL_law_471 : decode cL_law 471 = .ok (.aload_n 2, 1) := by decide +kernel
theorem dL_law_472 : decode cL_law 472 = .ok (.aload_n 0, 1) := by decide +kernel
theorem dL_law_473 : decode cL_law 473 = .ok (.iload_n 3, 1) := by decide +kernel
theorem dL_law_474 : decode cL_law 474 = .ok (.iconst 1, 1) := by decide +kernel
theorem dL_law_475 : decode cL_law 475 = .ok (.iadd, 1) := by decide +kernel
theorem dL_law_476 : decode cL_law 476 = .ok (.iaload, 1) := by decide +kernel
theorem dL_law_477 : decode cL_law 477 = .ok (.invokevirtual 53, 3) := by decide +kernel
theorem dL_law_480 : decode cL_law 480 = .ok (.if_icmp .eq 606, 3) := by decide +kernel
theorem dL_law_483 : decode cL_law 483 = .ok (.iconst 0, 1) := by decide +kernel
theorem dL_law_484 : decode cL_law 484 = .ok (.ireturn, 1) := by decide +kernel
theorem dL_law_485 : decode cL_law 485 = .ok (.aload_n 1, 1) := by decide +kernel
theorem dL_law_486 : decode cL_law 486 = .ok (.aload_n 0, 1) := by decide +kernel
theorem dL_law_487 : decode cL_law 487 = .ok (.iload_n 3, 1) := by decide +kernel
theorem dL_law_488 : decode cL_law 488 = .ok (.iconst 1, 1) := by decide +kernel
theorem dL_law_489 : decode cL_law 489 = .ok (.iadd, 1) := by decide +kernel
theorem dL_law_490 : decode cL_law 490 = .ok (.iaload, 1) := by decide +kernel
theorem dL_law_491 : decode cL_law 491 = .ok (.invokevirtual 54, 3) := by decide +kernel
theorem dL_law_494 : decode cL_law 494 = .ok (.aload_n 2, 1) := by decide +kernel
theorem dL_law_495 : decode cL_law 495 = .ok (.aload_n 0, 1) := by decide +kernel
theorem dL_law_496 : decode cL_law 496 = .ok (.iload_n 3, 1) := by decide +kernel
theorem dL_law_497 : decode cL_law 497 = .ok (.iconst 1, 1) := by decide +kernel
theorem dL_law_498 : decode cL_law 498 = .ok (.iadd, 1) := by decide +kernel
theorem dL_law_499 : decode cL_law 499 = .ok (.iaload, 1) := by decide +kernel
theorem dL_law_500 : decode cL_law 500 = .ok (.invokevirtual 57, 3) := by decide +kernel
theorem dL_law_503 : decode cL_law 503 = .ok (.if_icmp .eq 583, 3) := by decide +kernel
theorem dL_law_506 : decode cL_law 506 = .ok (.iconst 0, 1) := by decide +kernel
theorem dL_law_507 : decode cL_law 507 = .ok (.ireturn, 1) := by decide +kernel
theorem dL_law_508 : decode cL_law 508 = .ok (.aload_n 1, 1) := by decide +kernel
theorem dL_law_509 : decode cL_law 509 = .ok (.aload_n 0, 1) := by decide +kernel
theorem dL_law_510 : decode cL_law 510 = .ok (.iload_n 3, 1) := by decide +kernel
theorem dL_law_511 : decode cL_law 511 = .ok (.iconst 1, 1) := by decide +kernel
theorem dL_law_512 : decode cL_law 512 = .ok (.iadd, 1) := by decide +kernel
theorem dL_law_513 : decode cL_law 513 = .ok (.iaload, 1) := by decide +kernel
theorem dL_law_514 : decode cL_law 514 = .ok (.invokevirtual 58, 3) := by decide +kernel
theorem dL_law_517 : decode cL_law 517 = .ok (.aload_n 2, 1) := by decide +kernel
theorem dL_law_518 : decode cL_law 518 = .ok (.aload_n 0, 1) := by decide +kernel
theorem dL_law_519 : decode cL_law 519 = .ok (.iload_n 3, 1) := by decide +kernel
theorem dL_law_520 : decode cL_law 520 = .ok (.iconst 1, 1) := by decide +kernel
theorem dL_law_521 : decode cL_law 521 = .ok (.iadd, 1) := by decide +kernel
theorem dL_law_522 : decode cL_law 522 = .ok (.iaload, 1) := by decide +kernel
theorem dL_law_523 : decode cL_law 523 = .ok (.invokevirtual 61, 3) := by decide +kernel
theorem dL_law_526 : decode cL_law 526 = .ok (.if_icmp .eq 560, 3) := by decide +kernel
theorem dL_law_529 : decode cL_law 529 = .ok (.iconst 0, 1) := by decide +kernel
theorem dL_law_530 : decode cL_law 530 = .ok (.ireturn, 1) := by decide +kernel
theorem dL_law_531 : decode cL_law 531 = .ok (.aload_n 1, 1) := by decide +kernel
theorem dL_law_532 : decode cL_law 532 = .ok (.aload_n 0, 1) := by decide +kernel
theorem dL_law_533 : decode cL_law 533 = .ok (.iload_n 3, 1) := by decide +kernel
theorem dL_law_534 : decode cL_law 534 = .ok (.iconst 1, 1) := by decide +kernel
theorem dL_law_535 : decode cL_law 535 = .ok (.iadd, 1) := by decide +kernel
theorem dL_law_536 : decode cL_law 536 = .ok (.iaload, 1) := by decide +kernel
theorem dL_law_537 : decode cL_law 537 = .ok (.aload_n 0, 1) := by decide +kernel
theorem dL_law_538 : decode cL_law 538 = .ok (.iload_n 3, 1) := by decide +kernel
theorem dL_law_539 : decode cL_law 539 = .ok (.iconst 2, 1) := by decide +kernel
theorem dL_law_540 : decode cL_law 540 = .ok (.iadd, 1) := by decide +kernel
theorem dL_law_541 : decode cL_law 541 = .ok (.iaload, 1) := by decide +kernel
theorem dL_law_542 : decode cL_law 542 = .ok (.aload_n 0, 1) := by decide +kernel
theorem dL_law_543 : decode cL_law 543 = .ok (.iload_n 3, 1) := by decide +kernel
theorem dL_law_544 : decode cL_law 544 = .ok (.iconst 3, 1) := by decide +kernel
theorem dL_law_545 : decode cL_law 545 = .ok (.iadd, 1) := by decide +kernel
theorem dL_law_546 : decode cL_law 546 = .ok (.iaload, 1) := by decide +kernel
theorem dL_law_547 : decode cL_law 547 = .ok (.invokevirtual 62, 3) := by decide +kernel
theorem dL_law_550 : decode cL_law 550 = .ok (.aload_n 2, 1) := by decide +kernel
theorem dL_law_551 : decode cL_law 551 = .ok (.aload_n 0, 1) := by decide +kernel
theorem dL_law_552 : decode cL_law 552 = .ok (.iload_n 3, 1) := by decide +kernel
theorem dL_law_553 : decode cL_law 553 = .ok (.iconst 1, 1) := by decide +kernel
theorem dL_law_554 : decode cL_law 554 = .ok (.iadd, 1) := by decide +kernel
theorem dL_law_555 : decode cL_law 555 = .ok (.iaload, 1) := by decide +kernel
theorem dL_law_556 : decode cL_law 556 = .ok (.aload_n 0, 1) := by decide +kernel
theorem dL_law_557 : decode cL_law 557 = .ok (.iload_n 3, 1) := by decide +kernel
theorem dL_law_558 : decode cL_law 558 = .ok (.iconst 2, 1) := by decide +kernel
theorem dL_law_559 : decode cL_law 559 = .ok (.iadd, 1) := by decide +kernel
theorem dL_law_560 : decode cL_law 560 = .ok (.iaload, 1) := by decide +kernel
theorem dL_law_561 : decode cL_law 561 = .ok (.aload_n 0, 1) := by decide +kernel
theorem dL_law_562 : decode cL_law 562 = .ok (.iload_n 3, 1) := by decide +kernel
theorem dL_law_563 : decode cL_law 563 = .ok (.iconst 3, 1) := by decide +kernel
theorem dL_law_564 : decode cL_law 564 = .ok (.iadd, 1) := by decide +kernel
theorem dL_law_565 : decode cL_law 565 = .ok (.iaload, 1) := by decide +kernel
theorem dL_law_566 : decode cL_law 566 = .ok (.invokevirtual 65, 3) := by decide +kernel
theorem dL_law_569 : decode cL_law 569 = .ok (.if_icmp .eq 517, 3) := by decide +kernel
theorem dL_law_572 : decode cL_law 572 = .ok (.iconst 0, 1) := by decide +kernel
theorem dL_law_573 : decode cL_law 573 = .ok (.ireturn, 1) := by decide +kernel
theorem dL_law_574 : decode cL_law 574 = .ok (.aload_n 1, 1) := by decide +kernel
theorem dL_law_575 : decode cL_law 575 = .ok (.aload_n 0, 1) := by decide +kernel
theorem dL_law_576 : decode cL_law 576 = .ok (.iload_n 3, 1) := by decide +kernel
theorem dL_law_577 : decode cL_law 577 = .ok (.iconst 1, 1) := by decide +kernel
theorem dL_law_578 : decode cL_law 578 = .ok (.iadd, 1) := by decide +kernel
theorem dL_law_579 : decode cL_law 579 = .ok (.iaload, 1) := by decide +kernel
theorem dL_law_580 : decode cL_law 580 = .ok (.aload_n 0, 1) := by decide +kernel
theorem dL_law_581 : decode cL_law 581 = .ok (.iload_n 3, 1) := by decide +kernel
theorem dL_law_582 : decode cL_law 582 = .ok (.iconst 2, 1) := by decide +kernel
theorem dL_law_583 : decode cL_law 583 = .ok (.iadd, 1) := by decide +kernel
theorem dL_law_584 : decode cL_law 584 = .ok (.iaload, 1) := by decide +kernel
theorem dL_law_585 : decode cL_law 585 = .ok (.aload_n 0, 1) := by decide +kernel
theorem dL_law_586 : decode cL_law 586 = .ok (.iload_n 3, 1) := by decide +kernel
theorem dL_law_587 : decode cL_law 587 = .ok (.iconst 3, 1) := by decide +kernel
theorem dL_law_588 : decode cL_law 588 = .ok (.iadd, 1) := by decide +kernel
theorem dL_law_589 : decode cL_law 589 = .ok (.iaload, 1) := by decide +kernel
theorem dL_law_590 : decode cL_law 590 = .ok (.aload_n 0, 1) := by decide +kernel
theorem dL_law_591 : decode cL_law 591 = .ok (.iload_n 3, 1) := by decide +kernel
theorem dL_law_592 : decode cL_law 592 = .ok (.iconst 4, 1) := by decide +kernel
theorem dL_law_593 : decode cL_law 593 = .ok (.iadd, 1) := by decide +kernel
theorem dL_law_594 : decode cL_law 594 = .ok (.iaload, 1) := by decide +kernel
theorem dL_law_595 : decode cL_law 595 = .ok (.invokevirtual 66, 3) := by decide +kernel
theorem dL_law_598 : decode cL_law 598 = .ok (.aload_n 2, 1) := by decide +kernel
theorem dL_law_599 : decode cL_law 599 = .ok (.aload_n 0, 1) := by decide +kernel
theorem dL_law_600 : decode cL_law 600 = .ok (.iload_n 3, 1) := by decide +kernel
theorem dL_law_601 : decode cL_law 601 = .ok (.iconst 1, 1) := by decide +kernel
theorem dL_law_602 : decode cL_law 602 = .ok (.iadd, 1) := by decide +kernel
theorem dL_law_603 : decode cL_law 603 = .ok (.iaload, 1) := by decide +kernel
theorem dL_law_604 : decode cL_law 604 = .ok (.aload_n 0, 1) := by decide +kernel
theorem dL_law_605 : decode cL_law 605 = .ok (.iload_n 3, 1) := by decide +kernel
theorem dL_law_606 : decode cL_law 606 = .ok (.iconst 2, 1) := by decide +kernel
theorem dL_law_607 : decode cL_law 607 = .ok (.iadd, 1) := by decide +kernel
theorem dL_law_608 : decode cL_law 608 = .ok (.iaload, 1) := by decide +kernel
theorem dL_law_609 : decode cL_law 609 = .ok (.aload_n 0, 1) := by decide +kernel
theorem dL_law_610 : decode cL_law 610 = .ok (.iload_n 3, 1) := by decide +kernel
theorem dL_law_611 : decode cL_law 611 = .ok (.iconst 3, 1) := by decide +kernel
theorem dL_law_612 : decode cL_law 612 = .ok (.iadd, 1) := by decide +kernel
theorem dL_law_613 : decode cL_law 613 = .ok (.iaload, 1) := by decide +kernel
theorem dL_law_614 : decode cL_law 614 = .ok (.aload_n 0, 1) := by decide +kernel
theorem dL_law_615 : decode cL_law 615 = .ok (.iload_n 3, 1) := by decide +kernel
theorem dL_law_616 : decode cL_law 616 = .ok (.iconst 4, 1) := by decide +kernel
theorem dL_law_617 : decode cL_law 617 = .ok (.iadd, 1) := by decide +kernel
theorem dL_law_618 : decode cL_law 618 = .ok (.iaload, 1) := by decide +kernel
theorem dL_law_619 : decode cL_law 619 = .ok (.invokevirtual 70, 3) := by decide +kernel
theorem dL_law_622 : decode cL_law 622 = .ok (.if_icmp .eq 464, 3) := by decide +kernel
theorem dL_law_625 : decode cL_law 625 = .ok (.iconst 0, 1) := by decide +kernel
theorem dL_law_626 : decode cL_law 626 = .ok (.ireturn, 1) := by decide +kernel
theorem dL_law_627 : decode cL_law 627 = .ok (.aload_n 1, 1) := by decide +kernel
theorem dL_law_628 : decode cL_law 628 = .ok (.aload_n 0, 1) := by decide +kernel
theorem dL_law_629 : decode cL_law 629 = .ok (.iload_n 3, 1) := by decide +kernel
theorem dL_law_630 : decode cL_law 630 = .ok (.iconst 1, 1) := by decide +kernel
theorem dL_law_631 : decode cL_law 631 = .ok (.iadd, 1) := by decide +kernel
theorem dL_law_632 : decode cL_law 632 = .ok (.iaload, 1) := by decide +kernel
theorem dL_law_633 : decode cL_law 633 = .ok (.aload_n 0, 1) := by decide +kernel
theorem dL_law_634 : decode cL_law 634 = .ok (.iload_n 3, 1) := by decide +kernel
theorem dL_law_635 : decode cL_law 635 = .ok (.iconst 2, 1) := by decide +kernel
theorem dL_law_636 : decode cL_law 636 = .ok (.iadd, 1) := by decide +kernel
theorem dL_law_637 : decode cL_law 637 = .ok (.iaload, 1) := by decide +kernel
theorem dL_law_638 : decode cL_law 638 = .ok (.aload_n 0, 1) := by decide +kernel
theorem dL_law_639 : decode cL_law 639 = .ok (.iload_n 3, 1) := by decide +kernel
theorem dL_law_640 : decode cL_law 640 = .ok (.iconst 3, 1) := by decide +kernel
theorem dL_law_641 : decode cL_law 641 = .ok (.iadd, 1) := by decide +kernel
theorem dL_law_642 : decode cL_law 642 = .ok (.iaload, 1) := by decide +kernel
theorem dL_law_643 : decode cL_law 643 = .ok (.invokevirtual 71, 3) := by decide +kernel
theorem dL_law_646 : decode cL_law 646 = .ok (.aload_n 2, 1) := by decide +kernel
theorem dL_law_647 : decode cL_law 647 = .ok (.aload_n 0, 1) := by decide +kernel
theorem dL_law_648 : decode cL_law 648 = .ok (.iload_n 3, 1) := by decide +kernel
theorem dL_law_649 : decode cL_law 649 = .ok (.iconst 1, 1) := by decide +kernel
theorem dL_law_650 : decode cL_law 650 = .ok (.iadd, 1) := by decide +kernel
theorem dL_law_651 : decode cL_law 651 = .ok (.iaload, 1) := by decide +kernel
theorem dL_law_652 : decode cL_law 652 = .ok (.aload_n 0, 1) := by decide +kernel
theorem dL_law_653 : decode cL_law 653 = .ok (.iload_n 3, 1) := by decide +kernel
theorem dL_law_654 : decode cL_law 654 = .ok (.iconst 2, 1) := by decide +kernel
theorem dL_law_655 : decode cL_law 655 = .ok (.iadd, 1) := by decide +kernel
theorem dL_law_656 : decode cL_law 656 = .ok (.iaload, 1) := by decide +kernel
theorem dL_law_657 : decode cL_law 657 = .ok (.aload_n 0, 1) := by decide +kernel
theorem dL_law_658 : decode cL_law 658 = .ok (.iload_n 3, 1) := by decide +kernel
theorem dL_law_659 : decode cL_law 659 = .ok (.iconst 3, 1) := by decide +kernel
theorem dL_law_660 : decode cL_law 660 = .ok (.iadd, 1) := by decide +kernel
theorem dL_law_661 : decode cL_law 661 = .ok (.iaload, 1) := by decide +kernel
theorem dL_law_662 : decode cL_law 662 = .ok (.invokevirtual 74, 3) := by decide +kernel
theorem dL_law_665 : decode cL_law 665 = .ok (.if_icmp .eq 421, 3) := by decide +kernel
theorem dL_law_668 : decode cL_law 668 = .ok (.iconst 0, 1) := by decide +kernel
theorem dL_law_669 : decode cL_law 669 = .ok (.ireturn, 1) := by decide +kernel
theorem dL_law_670 : decode cL_law 670 = .ok (.aload_n 1, 1) := by decide +kernel
theorem dL_law_671 : decode cL_law 671 = .ok (.aload_n 0, 1) := by decide +kernel
theorem dL_law_672 : decode cL_law 672 = .ok (.iload_n 3, 1) := by decide +kernel
theorem dL_law_673 : decode cL_law 673 = .ok (.iconst 1, 1) := by decide +kernel
theorem dL_law_674 : decode cL_law 674 = .ok (.iadd, 1) := by decide +kernel
theorem dL_law_675 : decode cL_law 675 = .ok (.iaload, 1) := by decide +kernel
theorem dL_law_676 : decode cL_law 676 = .ok (.aload_n 0, 1) := by decide +kernel
theorem dL_law_677 : decode cL_law 677 = .ok (.iload_n 3, 1) := by decide +kernel
theorem dL_law_678 : decode cL_law 678 = .ok (.iconst 2, 1) := by decide +kernel
theorem dL_law_679 : decode cL_law 679 = .ok (.iadd, 1) := by decide +kernel
theorem dL_law_680 : decode cL_law 680 = .ok (.iaload, 1) := by decide +kernel
theorem dL_law_681 : decode cL_law 681 = .ok (.aload_n 0, 1) := by decide +kernel
theorem dL_law_682 : decode cL_law 682 = .ok (.iload_n 3, 1) := by decide +kernel
theorem dL_law_683 : decode cL_law 683 = .ok (.iconst 3, 1) := by decide +kernel
theorem dL_law_684 : decode cL_law 684 = .ok (.iadd, 1) := by decide +kernel
theorem dL_law_685 : decode cL_law 685 = .ok (.iaload, 1) := by decide +kernel
theorem dL_law_686 : decode cL_law 686 = .ok (.invokevirtual 75, 3) := by decide +kernel
theorem dL_law_689 : decode cL_law 689 = .ok (.aload_n 2, 1) := by decide +kernel
theorem dL_law_690 : decode cL_law 690 = .ok (.aload_n 0, 1) := by decide +kernel
theorem dL_law_691 : decode cL_law 691 = .ok (.iload_n 3, 1) := by decide +kernel
theorem dL_law_692 : decode cL_law 692 = .ok (.iconst 1, 1) := by decide +kernel
theorem dL_law_693 : decode cL_law 693 = .ok (.iadd, 1) := by decide +kernel
theorem dL_law_694 : decode cL_law 694 = .ok (.iaload, 1) := by decide +kernel
theorem dL_law_695 : decode cL_law 695 = .ok (.aload_n 0, 1) := by decide +kernel
theorem dL_law_696 : decode cL_law 696 = .ok (.iload_n 3, 1) := by decide +kernel
theorem dL_law_697 : decode cL_law 697 = .ok (.iconst 2, 1) := by decide +kernel
theorem dL_law_698 : decode cL_law 698 = .ok (.iadd, 1) := by decide +kernel
theorem dL_law_699 : decode cL_law 699 = .ok (.iaload, 1) := by decide +kernel
theorem dL_law_700 : decode cL_law 700 = .ok (.aload_n 0, 1) := by decide +kernel
theorem dL_law_701 : decode cL_law 701 = .ok (.iload_n 3, 1) := by decide +kernel
theorem dL_law_702 : decode cL_law 702 = .ok (.iconst 3, 1) := by decide +kernel
theorem dL_law_703 : decode cL_law 703 = .ok (.iadd, 1) := by decide +kernel
theorem dL_law_704 : decode cL_law 704 = .ok (.iaload, 1) := by decide +kernel
theorem dL_law_705 : decode cL_law 705 = .ok (.invokevirtual 78, 3) := by decide +kernel
theorem dL_law_708 : decode cL_law 708 = .ok (.if_icmp .eq 378, 3) := by decide +kernel
theorem dL_law_711 : decode cL_law 711 = .ok (.iconst 0, 1) := by decide +kernel
theorem dL_law_712 : decode cL_law 712 = .ok (.ireturn, 1) := by decide +kernel
theorem dL_law_713 : decode cL_law 713 = .ok (.aload_n 1, 1) := by decide +kernel
theorem dL_law_714 : decode cL_law 714 = .ok (.aload_n 0, 1) := by decide +kernel
theorem dL_law_715 : decode cL_law 715 = .ok (.iload_n 3, 1) := by decide +kernel
theorem dL_law_716 : decode cL_law 716 = .ok (.iconst 1, 1) := by decide +kernel
theorem dL_law_717 : decode cL_law 717 = .ok (.iadd, 1) := by decide +kernel
theorem dL_law_718 : decode cL_law 718 = .ok (.iaload, 1) := by decide +kernel
theorem dL_law_719 : decode cL_law 719 = .ok (.aload_n 0, 1) := by decide +kernel
theorem dL_law_720 : decode cL_law 720 = .ok (.iload_n 3, 1) := by decide +kernel
theorem dL_law_721 : decode cL_law 721 = .ok (.iconst 2, 1) := by decide +kernel
theorem dL_law_722 : decode cL_law 722 = .ok (.iadd, 1) := by decide +kernel
theorem dL_law_723 : decode cL_law 723 = .ok (.iaload, 1) := by decide +kernel
theorem dL_law_724 : decode cL_law 724 = .ok (.aload_n 0, 1) := by decide +kernel
theorem dL_law_725 : decode cL_law 725 = .ok (.iload_n 3, 1) := by decide +kernel
theorem dL_law_726 : decode cL_law 726 = .ok (.iconst 3, 1) := by decide +kernel
theorem dL_law_727 : decode cL_law 727 = .ok (.iadd, 1) := by decide +kernel
theorem dL_law_728 : decode cL_law 728 = .ok (.iaload, 1) := by decide +kernel
theorem dL_law_729 : decode cL_law 729 = .ok (.invokevirtual 79, 3) := by decide +kernel
theorem dL_law_732 : decode cL_law 732 = .ok (.aload_n 2, 1) := by decide +kernel
theorem dL_law_733 : decode cL_law 733 = .ok (.aload_n 0, 1) := by decide +kernel
theorem dL_law_734 : decode cL_law 734 = .ok (.iload_n 3, 1) := by decide +kernel
theorem dL_law_735 : decode cL_law 735 = .ok (.iconst 1, 1) := by decide +kernel
theorem dL_law_736 : decode cL_law 736 = .ok (.iadd, 1) := by decide +kernel
theorem dL_law_737 : decode cL_law 737 = .ok (.iaload, 1) := by decide +kernel
theorem dL_law_738 : decode cL_law 738 = .ok (.aload_n 0, 1) := by decide +kernel
theorem dL_law_739 : decode cL_law 739 = .ok (.iload_n 3, 1) := by decide +kernel
theorem dL_law_740 : decode cL_law 740 = .ok (.iconst 2, 1) := by decide +kernel
theorem dL_law_741 : decode cL_law 741 = .ok (.iadd, 1) := by decide +kernel
theorem dL_law_742 : decode cL_law 742 = .ok (.iaload, 1) := by decide +kernel
theorem dL_law_743 : decode cL_law 743 = .ok (.aload_n 0, 1) := by decide +kernel
theorem dL_law_744 : decode cL_law 744 = .ok (.iload_n 3, 1) := by decide +kernel
theorem dL_law_745 : decode cL_law 745 = .ok (.iconst 3, 1) := by decide +kernel
theorem dL_law_746 : decode cL_law 746 = .ok (.iadd, 1) := by decide +kernel
theorem dL_law_747 : decode cL_law 747 = .ok (.iaload, 1) := by decide +kernel
theorem dL_law_748 : decode cL_law 748 = .ok (.invokevirtual 82, 3) := by decide +kernel
theorem dL_law_751 : decode cL_law 751 = .ok (.if_icmp .eq 335, 3) := by decide +kernel
theorem dL_law_754 : decode cL_law 754 = .ok (.iconst 0, 1) := by decide +kernel
theorem dL_law_755 : decode cL_law 755 = .ok (.ireturn, 1) := by decide +kernel
theorem dL_law_756 : decode cL_law 756 = .ok (.aload_n 1, 1) := by decide +kernel
theorem dL_law_757 : decode cL_law 757 = .ok (.aload_n 0, 1) := by decide +kernel
theorem dL_law_758 : decode cL_law 758 = .ok (.iload_n 3, 1) := by decide +kernel
theorem dL_law_759 : decode cL_law 759 = .ok (.iconst 1, 1) := by decide +kernel
theorem dL_law_760 : decode cL_law 760 = .ok (.iadd, 1) := by decide +kernel
theorem dL_law_761 : decode cL_law 761 = .ok (.iaload, 1) := by decide +kernel
theorem dL_law_762 : decode cL_law 762 = .ok (.invokevirtual 83, 3) := by decide +kernel
theorem dL_law_765 : decode cL_law 765 = .ok (.aload_n 2, 1) := by decide +kernel
theorem dL_law_766 : decode cL_law 766 = .ok (.aload_n 0, 1) := by decide +kernel
theorem dL_law_767 : decode cL_law 767 = .ok (.iload_n 3, 1) := by decide +kernel
theorem dL_law_768 : decode cL_law 768 = .ok (.iconst 1, 1) := by decide +kernel
theorem dL_law_769 : decode cL_law 769 = .ok (.iadd, 1) := by decide +kernel
theorem dL_law_770 : decode cL_law 770 = .ok (.iaload, 1) := by decide +kernel
theorem dL_law_771 : decode cL_law 771 = .ok (.invokevirtual 86, 3) := by decide +kernel
theorem dL_law_774 : decode cL_law 774 = .ok (.if_icmp .eq 312, 3) := by decide +kernel
theorem dL_law_777 : decode cL_law 777 = .ok (.iconst 0, 1) := by decide +kernel
theorem dL_law_778 : decode cL_law 778 = .ok (.ireturn, 1) := by decide +kernel
theorem dL_law_779 : decode cL_law 779 = .ok (.aload_n 1, 1) := by decide +kernel
theorem dL_law_780 : decode cL_law 780 = .ok (.invokevirtual 87, 3) := by decide +kernel
theorem dL_law_783 : decode cL_law 783 = .ok (.aload_n 2, 1) := by decide +kernel
theorem dL_law_784 : decode cL_law 784 = .ok (.invokevirtual 90, 3) := by decide +kernel
theorem dL_law_787 : decode cL_law 787 = .ok (.if_icmp .eq 299, 3) := by decide +kernel
theorem dL_law_790 : decode cL_law 790 = .ok (.iconst 0, 1) := by decide +kernel
theorem dL_law_791 : decode cL_law 791 = .ok (.ireturn, 1) := by decide +kernel
theorem dL_law_792 : decode cL_law 792 = .ok (.aload_n 1, 1) := by decide +kernel
theorem dL_law_793 : decode cL_law 793 = .ok (.aload_n 0, 1) := by decide +kernel
theorem dL_law_794 : decode cL_law 794 = .ok (.iload_n 3, 1) := by decide +kernel
theorem dL_law_795 : decode cL_law 795 = .ok (.iconst 1, 1) := by decide +kernel
theorem dL_law_796 : decode cL_law 796 = .ok (.iadd, 1) := by decide +kernel
theorem dL_law_797 : decode cL_law 797 = .ok (.iaload, 1) := by decide +kernel
theorem dL_law_798 : decode cL_law 798 = .ok (.aload_n 0, 1) := by decide +kernel
theorem dL_law_799 : decode cL_law 799 = .ok (.iload_n 3, 1) := by decide +kernel
theorem dL_law_800 : decode cL_law 800 = .ok (.iconst 2, 1) := by decide +kernel
theorem dL_law_801 : decode cL_law 801 = .ok (.iadd, 1) := by decide +kernel
theorem dL_law_802 : decode cL_law 802 = .ok (.iaload, 1) := by decide +kernel
theorem dL_law_803 : decode cL_law 803 = .ok (.invokevirtual 91, 3) := by decide +kernel
theorem dL_law_806 : decode cL_law 806 = .ok (.aload_n 2, 1) := by decide +kernel
theorem dL_law_807 : decode cL_law 807 = .ok (.aload_n 0, 1) := by decide +kernel
theorem dL_law_808 : decode cL_law 808 = .ok (.iload_n 3, 1) := by decide +kernel
theorem dL_law_809 : decode cL_law 809 = .ok (.iconst 1, 1) := by decide +kernel
theorem dL_law_810 : decode cL_law 810 = .ok (.iadd, 1) := by decide +kernel
theorem dL_law_811 : decode cL_law 811 = .ok (.iaload, 1) := by decide +kernel
theorem dL_law_812 : decode cL_law 812 = .ok (.aload_n 0, 1) := by decide +kernel
theorem dL_law_813 : decode cL_law 813 = .ok (.iload_n 3, 1) := by decide +kernel
theorem dL_law_814 : decode cL_law 814 = .ok (.iconst 2, 1) := by decide +kernel
theorem dL_law_815 : decode cL_law 815 = .ok (.iadd, 1) := by decide +kernel
theorem dL_law_816 : decode cL_law 816 = .ok (.iaload, 1) := by decide +kernel
theorem dL_law_817 : decode cL_law 817 = .ok (.invokevirtual 94, 3) := by decide +kernel
theorem dL_law_820 : decode cL_law 820 = .ok (.if_icmp .eq 266, 3) := by decide +kernel
theorem dL_law_823 : decode cL_law 823 = .ok (.iconst 0, 1) := by decide +kernel
theorem dL_law_824 : decode cL_law 824 = .ok (.ireturn, 1) := by decide +kernel
theorem dL_law_825 : decode cL_law 825 = .ok (.aload_n 1, 1) := by decide +kernel
theorem dL_law_826 : decode cL_law 826 = .ok (.invokevirtual 95, 3) := by decide +kernel
theorem dL_law_829 : decode cL_law 829 = .ok (.aload_n 2, 1) := by decide +kernel
theorem dL_law_830 : decode cL_law 830 = .ok (.invokevirtual 98, 3) := by decide +kernel
theorem dL_law_833 : decode cL_law 833 = .ok (.if_icmp .eq 253, 3) := by decide +kernel
theorem dL_law_836 : decode cL_law 836 = .ok (.iconst 0, 1) := by decide +kernel
theorem dL_law_837 : decode cL_law 837 = .ok (.ireturn, 1) := by decide +kernel
theorem dL_law_838 : decode cL_law 838 = .ok (.aload_n 1, 1) := by decide +kernel
theorem dL_law_839 : decode cL_law 839 = .ok (.aload_n 0, 1) := by decide +kernel
theorem dL_law_840 : decode cL_law 840 = .ok (.iload_n 3, 1) := by decide +kernel
theorem dL_law_841 : decode cL_law 841 = .ok (.iconst 1, 1) := by decide +kernel
theorem dL_law_842 : decode cL_law 842 = .ok (.iadd, 1) := by decide +kernel
theorem dL_law_843 : decode cL_law 843 = .ok (.iaload, 1) := by decide +kernel
theorem dL_law_844 : decode cL_law 844 = .ok (.invokevirtual 99, 3) := by decide +kernel
theorem dL_law_847 : decode cL_law 847 = .ok (.aload_n 2, 1) := by decide +kernel
theorem dL_law_848 : decode cL_law 848 = .ok (.aload_n 0, 1) := by decide +kernel
theorem dL_law_849 : decode cL_law 849 = .ok (.iload_n 3, 1) := by decide +kernel
theorem dL_law_850 : decode cL_law 850 = .ok (.iconst 1, 1) := by decide +kernel
theorem dL_law_851 : decode cL_law 851 = .ok (.iadd, 1) := by decide +kernel
theorem dL_law_852 : decode cL_law 852 = .ok (.iaload, 1) := by decide +kernel
theorem dL_law_853 : decode cL_law 853 = .ok (.invokevirtual 102, 3) := by decide +kernel
theorem dL_law_856 : decode cL_law 856 = .ok (.if_icmp .eq 230, 3) := by decide +kernel
theorem dL_law_859 : decode cL_law 859 = .ok (.iconst 0, 1) := by decide +kernel
theorem dL_law_860 : decode cL_law 860 = .ok (.ireturn, 1) := by decide +kernel
theorem dL_law_861 : decode cL_law 861 = .ok (.aload_n 1, 1) := by decide +kernel
theorem dL_law_862 : decode cL_law 862 = .ok (.invokevirtual 103, 3) := by decide +kernel
theorem dL_law_865 : decode cL_law 865 = .ok (.aload_n 2, 1) := by decide +kernel
theorem dL_law_866 : decode cL_law 866 = .ok (.invokevirtual 106, 3) := by decide +kernel
theorem dL_law_869 : decode cL_law 869 = .ok (.if_icmp .eq 217, 3) := by decide +kernel
theorem dL_law_872 : decode cL_law 872 = .ok (.iconst 0, 1) := by decide +kernel
theorem dL_law_873 : decode cL_law 873 = .ok (.ireturn, 1) := by decide +kernel
theorem dL_law_874 : decode cL_law 874 = .ok (.aload_n 1, 1) := by decide +kernel
theorem dL_law_875 : decode cL_law 875 = .ok (.aload_n 0, 1) := by decide +kernel
theorem dL_law_876 : decode cL_law 876 = .ok (.iload_n 3, 1) := by decide +kernel
theorem dL_law_877 : decode cL_law 877 = .ok (.iconst 1, 1) := by decide +kernel
theorem dL_law_878 : decode cL_law 878 = .ok (.iadd, 1) := by decide +kernel
theorem dL_law_879 : decode cL_law 879 = .ok (.iaload, 1) := by decide +kernel
theorem dL_law_880 : decode cL_law 880 = .ok (.invokevirtual 107, 3) := by decide +kernel
theorem dL_law_883 : decode cL_law 883 = .ok (.aload_n 2, 1) := by decide +kernel
theorem dL_law_884 : decode cL_law 884 = .ok (.aload_n 0, 1) := by decide +kernel
theorem dL_law_885 : decode cL_law 885 = .ok (.iload_n 3, 1) := by decide +kernel
theorem dL_law_886 : decode cL_law 886 = .ok (.iconst 1, 1) := by decide +kernel
theorem dL_law_887 : decode cL_law 887 = .ok (.iadd, 1) := by decide +kernel
theorem dL_law_888 : decode cL_law 888 = .ok (.iaload, 1) := by decide +kernel
theorem dL_law_889 : decode cL_law 889 = .ok (.invokevirtual 110, 3) := by decide +kernel
theorem dL_law_892 : decode cL_law 892 = .ok (.if_icmp .eq 194, 3) := by decide +kernel
theorem dL_law_895 : decode cL_law 895 = .ok (.iconst 0, 1) := by decide +kernel
theorem dL_law_896 : decode cL_law 896 = .ok (.ireturn, 1) := by decide +kernel
theorem dL_law_897 : decode cL_law 897 = .ok (.aload_n 1, 1) := by decide +kernel
theorem dL_law_898 : decode cL_law 898 = .ok (.aload_n 0, 1) := by decide +kernel
theorem dL_law_899 : decode cL_law 899 = .ok (.iload_n 3, 1) := by decide +kernel
theorem dL_law_900 : decode cL_law 900 = .ok (.iconst 1, 1) := by decide +kernel
theorem dL_law_901 : decode cL_law 901 = .ok (.iadd, 1) := by decide +kernel
theorem dL_law_902 : decode cL_law 902 = .ok (.iaload, 1) := by decide +kernel
theorem dL_law_903 : decode cL_law 903 = .ok (.aload_n 0, 1) := by decide +kernel
theorem dL_law_904 : decode cL_law 904 = .ok (.iload_n 3, 1) := by decide +kernel
theorem dL_law_905 : decode cL_law 905 = .ok (.iconst 2, 1) := by decide +kernel
theorem dL_law_906 : decode cL_law 906 = .ok (.iadd, 1) := by decide +kernel
theorem dL_law_907 : decode cL_law 907 = .ok (.iaload, 1) := by decide +kernel
theorem dL_law_908 : decode cL_law 908 = .ok (.invokevirtual 111, 3) := by decide +kernel
theorem dL_law_911 : decode cL_law 911 = .ok (.aload_n 2, 1) := by decide +kernel
theorem dL_law_912 : decode cL_law 912 = .ok (.aload_n 0, 1) := by decide +kernel
theorem dL_law_913 : decode cL_law 913 = .ok (.iload_n 3, 1) := by decide +kernel
theorem dL_law_914 : decode cL_law 914 = .ok (.iconst 1, 1) := by decide +kernel
theorem dL_law_915 : decode cL_law 915 = .ok (.iadd, 1) := by decide +kernel
theorem dL_law_916 : decode cL_law 916 = .ok (.iaload, 1) := by decide +kernel
theorem dL_law_917 : decode cL_law 917 = .ok (.aload_n 0, 1) := by decide +kernel
theorem dL_law_918 : decode cL_law 918 = .ok (.iload_n 3, 1) := by decide +kernel
theorem dL_law_919 : decode cL_law 919 = .ok (.iconst 2, 1) := by decide +kernel
theorem dL_law_920 : decode cL_law 920 = .ok (.iadd, 1) := by decide +kernel
theorem dL_law_921 : decode cL_law 921 = .ok (.iaload, 1) := by decide +kernel
theorem dL_law_922 : decode cL_law 922 = .ok (.invokevirtual 114, 3) := by decide +kernel
theorem dL_law_925 : decode cL_law 925 = .ok (.if_icmp .eq 161, 3) := by decide +kernel
theorem dL_law_928 : decode cL_law 928 = .ok (.iconst 0, 1) := by decide +kernel
theorem dL_law_929 : decode cL_law 929 = .ok (.ireturn, 1) := by decide +kernel
theorem dL_law_930 : decode cL_law 930 = .ok (.aload_n 1, 1) := by decide +kernel
theorem dL_law_931 : decode cL_law 931 = .ok (.aload_n 0, 1) := by decide +kernel
theorem dL_law_932 : decode cL_law 932 = .ok (.iload_n 3, 1) := by decide +kernel
theorem dL_law_933 : decode cL_law 933 = .ok (.iconst 1, 1) := by decide +kernel
theorem dL_law_934 : decode cL_law 934 = .ok (.iadd, 1) := by decide +kernel
theorem dL_law_935 : decode cL_law 935 = .ok (.iaload, 1) := by decide +kernel
theorem dL_law_936 : decode cL_law 936 = .ok (.invokevirtual 115, 3) := by decide +kernel
theorem dL_law_939 : decode cL_law 939 = .ok (.aload_n 2, 1) := by decide +kernel
theorem dL_law_940 : decode cL_law 940 = .ok (.aload_n 0, 1) := by decide +kernel
theorem dL_law_941 : decode cL_law 941 = .ok (.iload_n 3, 1) := by decide +kernel
theorem dL_law_942 : decode cL_law 942 = .ok (.iconst 1, 1) := by decide +kernel
theorem dL_law_943 : decode cL_law 943 = .ok (.iadd, 1) := by decide +kernel
theorem dL_law_944 : decode cL_law 944 = .ok (.iaload, 1) := by decide +kernel
theorem dL_law_945 : decode cL_law 945 = .ok (.invokevirtual 119, 3) := by decide +kernel
theorem dL_law_948 : decode cL_law 948 = .ok (.lcmp, 1) := by decide +kernel
theorem dL_law_949 : decode cL_law 949 = .ok (.ifCond .eq 137, 3) := by decide +kernel
theorem dL_law_952 : decode cL_law 952 = .ok (.iconst 0, 1) := by decide +kernel
theorem dL_law_953 : decode cL_law 953 = .ok (.ireturn, 1) := by decide +kernel
theorem dL_law_954 : decode cL_law 954 = .ok (.aload_n 1, 1) := by decide +kernel
theorem dL_law_955 : decode cL_law 955 = .ok (.aload_n 0, 1) := by decide +kernel
theorem dL_law_956 : decode cL_law 956 = .ok (.iload_n 3, 1) := by decide +kernel
theorem dL_law_957 : decode cL_law 957 = .ok (.iconst 1, 1) := by decide +kernel
theorem dL_law_958 : decode cL_law 958 = .ok (.iadd, 1) := by decide +kernel
theorem dL_law_959 : decode cL_law 959 = .ok (.iaload, 1) := by decide +kernel
theorem dL_law_960 : decode cL_law 960 = .ok (.aload_n 0, 1) := by decide +kernel
theorem dL_law_961 : decode cL_law 961 = .ok (.iload_n 3, 1) := by decide +kernel
theorem dL_law_962 : decode cL_law 962 = .ok (.iconst 2, 1) := by decide +kernel
theorem dL_law_963 : decode cL_law 963 = .ok (.iadd, 1) := by decide +kernel
theorem dL_law_964 : decode cL_law 964 = .ok (.iaload, 1) := by decide +kernel
theorem dL_law_965 : decode cL_law 965 = .ok (.aload_n 0, 1) := by decide +kernel
theorem dL_law_966 : decode cL_law 966 = .ok (.iload_n 3, 1) := by decide +kernel
theorem dL_law_967 : decode cL_law 967 = .ok (.iconst 3, 1) := by decide +kernel
theorem dL_law_968 : decode cL_law 968 = .ok (.iadd, 1) := by decide +kernel
theorem dL_law_969 : decode cL_law 969 = .ok (.iaload, 1) := by decide +kernel
theorem dL_law_970 : decode cL_law 970 = .ok (.invokevirtual 120, 3) := by decide +kernel
theorem dL_law_973 : decode cL_law 973 = .ok (.aload_n 2, 1) := by decide +kernel
theorem dL_law_974 : decode cL_law 974 = .ok (.aload_n 0, 1) := by decide +kernel
theorem dL_law_975 : decode cL_law 975 = .ok (.iload_n 3, 1) := by decide +kernel
theorem dL_law_976 : decode cL_law 976 = .ok (.iconst 1, 1) := by decide +kernel
theorem dL_law_977 : decode cL_law 977 = .ok (.iadd, 1) := by decide +kernel
theorem dL_law_978 : decode cL_law 978 = .ok (.iaload, 1) := by decide +kernel
theorem dL_law_979 : decode cL_law 979 = .ok (.aload_n 0, 1) := by decide +kernel
theorem dL_law_980 : decode cL_law 980 = .ok (.iload_n 3, 1) := by decide +kernel
theorem dL_law_981 : decode cL_law 981 = .ok (.iconst 2, 1) := by decide +kernel
theorem dL_law_982 : decode cL_law 982 = .ok (.iadd, 1) := by decide +kernel
theorem dL_law_983 : decode cL_law 983 = .ok (.iaload, 1) := by decide +kernel
theorem dL_law_984 : decode cL_law 984 = .ok (.aload_n 0, 1) := by decide +kernel
theorem dL_law_985 : decode cL_law 985 = .ok (.iload_n 3, 1) := by decide +kernel
theorem dL_law_986 : decode cL_law 986 = .ok (.iconst 3, 1) := by decide +kernel
theorem dL_law_987 : decode cL_law 987 = .ok (.iadd, 1) := by decide +kernel
theorem dL_law_988 : decode cL_law 988 = .ok (.iaload, 1) := by decide +kernel
theorem dL_law_989 : decode cL_law 989 = .ok (.invokevirtual 123, 3) := by decide +kernel
theorem dL_law_992 : decode cL_law 992 = .ok (.if_icmp .eq 94, 3) := by decide +kernel
theorem dL_law_995 : decode cL_law 995 = .ok (.iconst 0, 1) := by decide +kernel
theorem dL_law_996 : decode cL_law 996 = .ok (.ireturn, 1) := by decide +kernel
theorem dL_law_997 : decode cL_law 997 = .ok (.aload_n 1, 1) := by decide +kernel
theorem dL_law_998 : decode cL_law 998 = .ok (.invokevirtual 124, 3) := by decide +kernel
theorem dL_law_1001 : decode cL_law 1001 = .ok (.aload_n 2, 1) := by decide +kernel
theorem dL_law_1002 : decode cL_law 1002 = .ok (.invokevirtual 127, 3) := by decide +kernel
theorem dL_law_1005 : decode cL_law 1005 = .ok (.if_icmp .eq 81, 3) := by decide +kernel
theorem dL_law_1008 : decode cL_law 1008 = .ok (.iconst 0, 1) := by decide +kernel
theorem dL_law_1009 : decode cL_law 1009 = .ok (.ireturn, 1) := by decide +kernel
theorem dL_law_1010 : decode cL_law 1010 = .ok (.aload_n 1, 1) := by decide +kernel
theorem dL_law_1011 : decode cL_law 1011 = .ok (.aload_n 0, 1) := by decide +kernel
theorem dL_law_1012 : decode cL_law 1012 = .ok (.iload_n 3, 1) := by decide +kernel
theorem dL_law_1013 : decode cL_law 1013 = .ok (.iconst 1, 1) := by decide +kernel
theorem dL_law_1014 : decode cL_law 1014 = .ok (.iadd, 1) := by decide +kernel
theorem dL_law_1015 : decode cL_law 1015 = .ok (.iaload, 1) := by decide +kernel
theorem dL_law_1016 : decode cL_law 1016 = .ok (.invokevirtual 128, 3) := by decide +kernel
theorem dL_law_1019 : decode cL_law 1019 = .ok (.aload_n 2, 1) := by decide +kernel
theorem dL_law_1020 : decode cL_law 1020 = .ok (.aload_n 0, 1) := by decide +kernel
theorem dL_law_1021 : decode cL_law 1021 = .ok (.iload_n 3, 1) := by decide +kernel
theorem dL_law_1022 : decode cL_law 1022 = .ok (.iconst 1, 1) := by decide +kernel
theorem dL_law_1023 : decode cL_law 1023 = .ok (.iadd, 1) := by decide +kernel
theorem dL_law_1024 : decode cL_law 1024 = .ok (.iaload, 1) := by decide +kernel
theorem dL_law_1025 : decode cL_law 1025 = .ok (.invokevirtual 131, 3) := by decide +kernel
theorem dL_law_1028 : decode cL_law 1028 = .ok (.if_icmp .eq 58, 3) := by decide +kernel
theorem dL_law_1031 : decode cL_law 1031 = .ok (.iconst 0, 1) := by decide +kernel
theorem dL_law_1032 : decode cL_law 1032 = .ok (.ireturn, 1) := by decide +kernel
theorem dL_law_1033 : decode cL_law 1033 = .ok (.aload_n 1, 1) := by decide +kernel
theorem dL_law_1034 : decode cL_law 1034 = .ok (.invokevirtual 132, 3) := by decide +kernel
theorem dL_law_1037 : decode cL_law 1037 = .ok (.aload_n 2, 1) := by decide +kernel
theorem dL_law_1038 : decode cL_law 1038 = .ok (.invokevirtual 135, 3) := by decide +kernel
theorem dL_law_1041 : decode cL_law 1041 = .ok (.if_icmp .eq 45, 3) := by decide +kernel
theorem dL_law_1044 : decode cL_law 1044 = .ok (.iconst 0, 1) := by decide +kernel
theorem dL_law_1045 : decode cL_law 1045 = .ok (.ireturn, 1) := by decide +kernel
theorem dL_law_1046 : decode cL_law 1046 = .ok (.aload_n 1, 1) := by decide +kernel
theorem dL_law_1047 : decode cL_law 1047 = .ok (.invokevirtual 136, 3) := by decide +kernel
theorem dL_law_1050 : decode cL_law 1050 = .ok (.aload_n 2, 1) := by decide +kernel
theorem dL_law_1051 : decode cL_law 1051 = .ok (.invokevirtual 139, 3) := by decide +kernel
theorem dL_law_1054 : decode cL_law 1054 = .ok (.if_icmp .eq 32, 3) := by decide +kernel
theorem dL_law_1057 : decode cL_law 1057 = .ok (.iconst 0, 1) := by decide +kernel
theorem dL_law_1058 : decode cL_law 1058 = .ok (.ireturn, 1) := by decide +kernel
theorem dL_law_1059 : decode cL_law 1059 = .ok (.aload_n 1, 1) := by decide +kernel
theorem dL_law_1060 : decode cL_law 1060 = .ok (.invokevirtual 140, 3) := by decide +kernel
theorem dL_law_1063 : decode cL_law 1063 = .ok (.aload_n 2, 1) := by decide +kernel
theorem dL_law_1064 : decode cL_law 1064 = .ok (.invokevirtual 143, 3) := by decide +kernel
theorem dL_law_1067 : decode cL_law 1067 = .ok (.if_icmp .eq 19, 3) := by decide +kernel
theorem dL_law_1070 : decode cL_law 1070 = .ok (.iconst 0, 1) := by decide +kernel
theorem dL_law_1071 : decode cL_law 1071 = .ok (.ireturn, 1) := by decide +kernel
theorem dL_law_1072 : decode cL_law 1072 = .ok (.aload_n 1, 1) := by decide +kernel
theorem dL_law_1073 : decode cL_law 1073 = .ok (.invokevirtual 144, 3) := by decide +kernel
theorem dL_law_1076 : decode cL_law 1076 = .ok (.aload_n 2, 1) := by decide +kernel
theorem dL_law_1077 : decode cL_law 1077 = .ok (.invokevirtual 148, 3) := by decide +kernel
theorem dL_law_1080 : decode cL_law 1080 = .ok (.lcmp, 1) := by decide +kernel
theorem dL_law_1081 : decode cL_law 1081 = .ok (.ifCond .eq 5, 3) := by decide +kernel
theorem dL_law_1084 : decode cL_law 1084 = .ok (.iconst 0, 1) := by decide +kernel
theorem dL_law_1085 : decode cL_law 1085 = .ok (.ireturn, 1) := by decide +kernel
theorem dL_law_1086 : decode cL_law 1086 = .ok (.iinc 3 7, 3) := by decide +kernel
theorem dL_law_1089 : decode cL_law 1089 = .ok (.goto (-1071), 3) := by decide +kernel
theorem dL_law_1092 : decode cL_law 1092 = .ok (.iconst 1, 1) := by decide +kernel
theorem dL_law_1093 : decode cL_law 1093 = .ok (.ireturn, 1) := by decide +kernel
abbrev vwCl : List vw_C := [(RX0, TX0, 3), (RX1, TX1, 8), (RX2, TX2, 12), (RX3, TX3, 7), (RX4, TX4, 4), (RX5, TX5, 16)]
end
section
def tb : List Cond := lw_tbl.filter goodWord
theorem tb_mem {w : Cond} (i : Nat) (h : lw_tbl[i]? = some w) (g : goodWord w = true) : w ∈ tb := List.mem_filter.mpr ⟨List.mem_of_getElem? h, g⟩
theorem tb_lw : ∀ w ∈ tb, w ∈ lw_tbl := fun w h => (List.mem_filter.mp h).1
theorem tb_good : ∀ w ∈ tb, goodWord w = true := fun w h => (List.mem_filter.mp h).2
theorem kw0 : (Jvm.Cond.initialized "ThrusterSelectorLaw") ∈ tb := tb_mem 45 (by decide +kernel) (by decide +kernel)
theorem kw1 : (Jvm.Cond.initialized "ThrusterSelector") ∈ tb := tb_mem 46 (by decide +kernel) (by decide +kernel)
theorem kw2 : (Jvm.Cond.initialized "ThrusterSelector$State") ∈ tb := tb_mem 47 (by decide +kernel) (by decide +kernel)
theorem kw3 : (Jvm.Cond.initialized "java/util/Arrays") ∈ tb := tb_mem 48 (by decide +kernel) (by decide +kernel)
theorem kw4 : (Jvm.Cond.initialized "ThrusterSelector$History") ∈ tb := tb_mem 49 (by decide +kernel) (by decide +kernel)
theorem kw5 : (Jvm.Cond.initialized "ThrusterSelector$Selection") ∈ tb := tb_mem 50 (by decide +kernel) (by decide +kernel)
theorem kw6 : (Jvm.Cond.initialized "ThrusterSelector$Text") ∈ tb := tb_mem 51 (by decide +kernel) (by decide +kernel)
theorem kw7 : (Jvm.Cond.initialized "ThrusterSelectorModel") ∈ tb := tb_mem 52 (by decide +kernel) (by decide +kernel)
theorem kw8 : (Jvm.Cond.initialized "java/lang/System") ∈ tb := tb_mem 53 (by decide +kernel) (by decide +kernel)
theorem kw9 : (Jvm.Cond.initialized "java/lang/Integer") ∈ tb := tb_mem 54 (by decide +kernel) (by decide +kernel)
theorem kw10 : (Jvm.Cond.initialized "java/lang/Math") ∈ tb := tb_mem 55 (by decide +kernel) (by decide +kernel)
theorem kw11 : (Jvm.Cond.classLink "ThrusterSelectorLaw" (7 : Nat) "ThrusterSelector") ∈ tb := tb_mem 56 (by decide +kernel) (by decide +kernel)
theorem kw12 : (Jvm.Cond.instantiable "ThrusterSelector" (4 : Nat)) ∈ tb := tb_mem 57 (by decide +kernel) (by decide +kernel)
theorem kw13 : (Jvm.Cond.methodLink "ThrusterSelectorLaw" (9 : Nat) ({ cls := "ThrusterSelector", name := "<init>", desc := "()V" } : Jvm.MethodName)) ∈ tb := tb_mem 58 (by decide +kernel) (by decide +kernel)
theorem kw14 : (Jvm.Cond.instanceMethod ({ cls := "ThrusterSelector", name := "<init>", desc := "()V" } : Jvm.MethodName)) ∈ tb := tb_mem 59 (by decide +kernel) (by decide +kernel)
theorem kw15 : (Jvm.Cond.code ({ cls := "ThrusterSelector", name := "<init>", desc := "()V" } : Jvm.MethodName) prog_1_method_1_code (1 : Nat) (Option.none : Option Jvm.ClassFile.FieldType)) ∈ tb := tb_mem 60 (by decide +kernel) (by decide +kernel)
theorem kw16 : (Jvm.Cond.methodLink "ThrusterSelector" (1 : Nat) ({ cls := "java/lang/Object", name := "<init>", desc := "()V" } : Jvm.MethodName)) ∈ tb := tb_mem 61 (by decide +kernel) (by decide +kernel)
theorem kw17 : (Jvm.Cond.instanceMethod ({ cls := "java/lang/Object", name := "<init>", desc := "()V" } : Jvm.MethodName)) ∈ tb := tb_mem 62 (by decide +kernel) (by decide +kernel)
theorem kw18 : (Jvm.Cond.code ({ cls := "java/lang/Object", name := "<init>", desc := "()V" } : Jvm.MethodName) object_method_1_code (1 : Nat) (Option.none : Option Jvm.ClassFile.FieldType)) ∈ tb := tb_mem 63 (by decide +kernel) (by decide +kernel)
theorem kw19 : (Jvm.Cond.classLink "ThrusterSelector" (7 : Nat) "ThrusterSelector$State") ∈ tb := tb_mem 64 (by decide +kernel) (by decide +kernel)
theorem kw20 : (Jvm.Cond.instantiable "ThrusterSelector$State" (12 : Nat)) ∈ tb := tb_mem 65 (by decide +kernel) (by decide +kernel)
theorem kw21 : (Jvm.Cond.methodLink "ThrusterSelector" (9 : Nat) ({ cls := "ThrusterSelector$State", name := "<init>", desc := "()V" } : Jvm.MethodName)) ∈ tb := tb_mem 66 (by decide +kernel) (by decide +kernel)
theorem kw22 : (Jvm.Cond.instanceMethod ({ cls := "ThrusterSelector$State", name := "<init>", desc := "()V" } : Jvm.MethodName)) ∈ tb := tb_mem 67 (by decide +kernel) (by decide +kernel)
theorem kw23 : (Jvm.Cond.code ({ cls := "ThrusterSelector$State", name := "<init>", desc := "()V" } : Jvm.MethodName) prog_4_method_1_code (1 : Nat) (Option.none : Option Jvm.ClassFile.FieldType)) ∈ tb := tb_mem 68 (by decide +kernel) (by decide +kernel)
theorem kw24 : (Jvm.Cond.methodLink "ThrusterSelector$State" (3 : Nat) ({ cls := "java/lang/Object", name := "<init>", desc := "()V" } : Jvm.MethodName)) ∈ tb := tb_mem 69 (by decide +kernel) (by decide +kernel)
theorem kw25 : (Jvm.Cond.constant "ThrusterSelector$State" (34 : Nat) (100000 : Int32)) ∈ tb := tb_mem 70 (by decide +kernel) (by decide +kernel)
theorem kw26 : (Jvm.Cond.methodLink "ThrusterSelector$State" (35 : Nat) ({ cls := "java/util/Arrays", name := "fill", desc := "([II)V" } : Jvm.MethodName)) ∈ tb := tb_mem 71 (by decide +kernel) (by decide +kernel)
theorem kw27 : (Jvm.Cond.static ({ cls := "java/util/Arrays", name := "fill", desc := "([II)V" } : Jvm.MethodName)) ∈ tb := tb_mem 72 (by decide +kernel) (by decide +kernel)
theorem kw28 : (Jvm.Cond.code ({ cls := "java/util/Arrays", name := "fill", desc := "([II)V" } : Jvm.MethodName) prog_11_method_103_code (4 : Nat) (Option.none : Option Jvm.ClassFile.FieldType)) ∈ tb := tb_mem 73 (by decide +kernel) (by decide +kernel)
theorem kw29 : (Jvm.Cond.fieldLink "ThrusterSelector$State" (9 : Nat) "ThrusterSelector$State" "properties" "[I") ∈ tb := tb_mem 74 (by decide +kernel) (by decide +kernel)
theorem kw30 : (Jvm.Cond.fieldLink "ThrusterSelector$State" (15 : Nat) "ThrusterSelector$State" "pulses" "[I") ∈ tb := tb_mem 75 (by decide +kernel) (by decide +kernel)
theorem kw32 : (Jvm.Cond.fieldLink "ThrusterSelector$State" (18 : Nat) "ThrusterSelector$State" "tanks" "[I") ∈ tb := tb_mem 77 (by decide +kernel) (by decide +kernel)
theorem kw34 : (Jvm.Cond.fieldLink "ThrusterSelector$State" (21 : Nat) "ThrusterSelector$State" "sets" "[I") ∈ tb := tb_mem 79 (by decide +kernel) (by decide +kernel)
theorem kw35 : (Jvm.Cond.fieldLink "ThrusterSelector$State" (24 : Nat) "ThrusterSelector$State" "queue" "[I") ∈ tb := tb_mem 80 (by decide +kernel) (by decide +kernel)
theorem kw37 : (Jvm.Cond.fieldLink "ThrusterSelector$State" (27 : Nat) "ThrusterSelector$State" "impulses" "[I") ∈ tb := tb_mem 82 (by decide +kernel) (by decide +kernel)
theorem kw39 : (Jvm.Cond.fieldLink "ThrusterSelector$State" (30 : Nat) "ThrusterSelector$State" "sums" "[J") ∈ tb := tb_mem 84 (by decide +kernel) (by decide +kernel)
theorem kw43 : (Jvm.Cond.fieldLink "ThrusterSelector$State" (47 : Nat) "ThrusterSelector$State" "thrusterCount" "I") ∈ tb := tb_mem 88 (by decide +kernel) (by decide +kernel)
theorem kw44 : (Jvm.Cond.fieldLink "ThrusterSelector$State" (51 : Nat) "ThrusterSelector$State" "setCount" "I") ∈ tb := tb_mem 89 (by decide +kernel) (by decide +kernel)
theorem kw46 : (Jvm.Cond.fieldLink "ThrusterSelector$State" (54 : Nat) "ThrusterSelector$State" "requestCount" "I") ∈ tb := tb_mem 91 (by decide +kernel) (by decide +kernel)
theorem kw48 : (Jvm.Cond.fieldLink "ThrusterSelector$State" (57 : Nat) "ThrusterSelector$State" "cycleNumber" "I") ∈ tb := tb_mem 93 (by decide +kernel) (by decide +kernel)
theorem kw50 : (Jvm.Cond.fieldLink "ThrusterSelector$State" (60 : Nat) "ThrusterSelector$State" "soundMask" "I") ∈ tb := tb_mem 95 (by decide +kernel) (by decide +kernel)
theorem kw76 : (Jvm.Cond.arrayClass Jvm.ClassFile.FieldType.int) ∈ tb := tb_mem 121 (by decide +kernel) (by decide +kernel)
theorem kw77 : (Jvm.Cond.arrayClass Jvm.ClassFile.FieldType.long) ∈ tb := tb_mem 122 (by decide +kernel) (by decide +kernel)
theorem kw78 : (Jvm.Cond.classLink "ThrusterSelector" (16 : Nat) "ThrusterSelector$History") ∈ tb := tb_mem 123 (by decide +kernel) (by decide +kernel)
theorem kw79 : (Jvm.Cond.instantiable "ThrusterSelector$History" (3 : Nat)) ∈ tb := tb_mem 124 (by decide +kernel) (by decide +kernel)
theorem kw80 : (Jvm.Cond.methodLink "ThrusterSelector" (18 : Nat) ({ cls := "ThrusterSelector$History", name := "<init>", desc := "()V" } : Jvm.MethodName)) ∈ tb := tb_mem 125 (by decide +kernel) (by decide +kernel)
theorem kw81 : (Jvm.Cond.instanceMethod ({ cls := "ThrusterSelector$History", name := "<init>", desc := "()V" } : Jvm.MethodName)) ∈ tb := tb_mem 126 (by decide +kernel) (by decide +kernel)
theorem kw82 : (Jvm.Cond.code ({ cls := "ThrusterSelector$History", name := "<init>", desc := "()V" } : Jvm.MethodName) prog_2_method_1_code (2 : Nat) (Option.none : Option Jvm.ClassFile.FieldType)) ∈ tb := tb_mem 127 (by decide +kernel) (by decide +kernel)
theorem kw83 : (Jvm.Cond.methodLink "ThrusterSelector$History" (3 : Nat) ({ cls := "java/lang/Object", name := "<init>", desc := "()V" } : Jvm.MethodName)) ∈ tb := tb_mem 128 (by decide +kernel) (by decide +kernel)
theorem kw84 : (Jvm.Cond.classLink "ThrusterSelector$History" (9 : Nat) "ThrusterSelector$State") ∈ tb := tb_mem 129 (by decide +kernel) (by decide +kernel)
theorem kw86 : (Jvm.Cond.methodLink "ThrusterSelector$History" (17 : Nat) ({ cls := "ThrusterSelector$State", name := "<init>", desc := "()V" } : Jvm.MethodName)) ∈ tb := tb_mem 131 (by decide +kernel) (by decide +kernel)
theorem kw87 : (Jvm.Cond.fieldLink "ThrusterSelector$History" (11 : Nat) "ThrusterSelector$History" "states" "[LThrusterSelector$State;") ∈ tb := tb_mem 132 (by decide +kernel) (by decide +kernel)
theorem kw88 : (Jvm.Cond.fieldLink "ThrusterSelector$History" (18 : Nat) "ThrusterSelector$History" "oldest" "I") ∈ tb := tb_mem 133 (by decide +kernel) (by decide +kernel)
theorem kw89 : (Jvm.Cond.fieldLink "ThrusterSelector$History" (22 : Nat) "ThrusterSelector$History" "count" "I") ∈ tb := tb_mem 134 (by decide +kernel) (by decide +kernel)
theorem kw98 : (Jvm.Cond.classLink "ThrusterSelector" (23 : Nat) "ThrusterSelector$Selection") ∈ tb := tb_mem 143 (by decide +kernel) (by decide +kernel)
theorem kw99 : (Jvm.Cond.instantiable "ThrusterSelector$Selection" (8 : Nat)) ∈ tb := tb_mem 144 (by decide +kernel) (by decide +kernel)
theorem kw101 : (Jvm.Cond.instanceMethod ({ cls := "ThrusterSelector$Selection", name := "<init>", desc := "()V" } : Jvm.MethodName)) ∈ tb := tb_mem 146 (by decide +kernel) (by decide +kernel)
theorem kw102 : (Jvm.Cond.code ({ cls := "ThrusterSelector$Selection", name := "<init>", desc := "()V" } : Jvm.MethodName) prog_3_method_1_code (1 : Nat) (Option.none : Option Jvm.ClassFile.FieldType)) ∈ tb := tb_mem 147 (by decide +kernel) (by decide +kernel)
theorem kw103 : (Jvm.Cond.methodLink "ThrusterSelector$Selection" (3 : Nat) ({ cls := "java/lang/Object", name := "<init>", desc := "()V" } : Jvm.MethodName)) ∈ tb := tb_mem 148 (by decide +kernel) (by decide +kernel)
theorem kw104 : (Jvm.Cond.classLink "ThrusterSelector$Selection" (9 : Nat) "[[I") ∈ tb := tb_mem 149 (by decide +kernel) (by decide +kernel)
theorem kw106 : (Jvm.Cond.fieldLink "ThrusterSelector$Selection" (11 : Nat) "ThrusterSelector$Selection" "units" "[[I") ∈ tb := tb_mem 151 (by decide +kernel) (by decide +kernel)
theorem kw107 : (Jvm.Cond.fieldLink "ThrusterSelector$Selection" (16 : Nat) "ThrusterSelector$Selection" "tickPrices" "[I") ∈ tb := tb_mem 152 (by decide +kernel) (by decide +kernel)
theorem kw108 : (Jvm.Cond.fieldLink "ThrusterSelector$Selection" (20 : Nat) "ThrusterSelector$Selection" "shares" "[J") ∈ tb := tb_mem 153 (by decide +kernel) (by decide +kernel)
theorem kw109 : (Jvm.Cond.fieldLink "ThrusterSelector$Selection" (24 : Nat) "ThrusterSelector$Selection" "denominator" "J") ∈ tb := tb_mem 154 (by decide +kernel) (by decide +kernel)
theorem kw110 : (Jvm.Cond.fieldLink "ThrusterSelector$Selection" (71 : Nat) "ThrusterSelector$Selection" "cost" "J") ∈ tb := tb_mem 155 (by decide +kernel) (by decide +kernel)
theorem kw111 : (Jvm.Cond.fieldLink "ThrusterSelector$Selection" (68 : Nat) "ThrusterSelector$Selection" "mask" "I") ∈ tb := tb_mem 156 (by decide +kernel) (by decide +kernel)
theorem kw113 : (Jvm.Cond.fieldLink "ThrusterSelector$Selection" (34 : Nat) "ThrusterSelector$Selection" "running" "I") ∈ tb := tb_mem 158 (by decide +kernel) (by decide +kernel)
theorem kw114 : (Jvm.Cond.fieldLink "ThrusterSelector$Selection" (52 : Nat) "ThrusterSelector$Selection" "found" "Z") ∈ tb := tb_mem 159 (by decide +kernel) (by decide +kernel)
theorem kw133 : (Jvm.Cond.classLink "ThrusterSelector" (30 : Nat) "ThrusterSelector$Text") ∈ tb := tb_mem 178 (by decide +kernel) (by decide +kernel)
theorem kw134 : (Jvm.Cond.instantiable "ThrusterSelector$Text" (7 : Nat)) ∈ tb := tb_mem 179 (by decide +kernel) (by decide +kernel)
theorem kw136 : (Jvm.Cond.instanceMethod ({ cls := "ThrusterSelector$Text", name := "<init>", desc := "()V" } : Jvm.MethodName)) ∈ tb := tb_mem 181 (by decide +kernel) (by decide +kernel)
theorem kw137 : (Jvm.Cond.code ({ cls := "ThrusterSelector$Text", name := "<init>", desc := "()V" } : Jvm.MethodName) prog_5_method_1_code (1 : Nat) (Option.none : Option Jvm.ClassFile.FieldType)) ∈ tb := tb_mem 182 (by decide +kernel) (by decide +kernel)
theorem kw138 : (Jvm.Cond.methodLink "ThrusterSelector$Text" (3 : Nat) ({ cls := "java/lang/Object", name := "<init>", desc := "()V" } : Jvm.MethodName)) ∈ tb := tb_mem 183 (by decide +kernel) (by decide +kernel)
theorem kw139 : (Jvm.Cond.constant "ThrusterSelector$Text" (22 : Nat) (-2000000000 : Int32)) ∈ tb := tb_mem 184 (by decide +kernel) (by decide +kernel)
theorem kw140 : (Jvm.Cond.fieldLink "ThrusterSelector$Text" (9 : Nat) "ThrusterSelector$Text" "bytes" "[I") ∈ tb := tb_mem 185 (by decide +kernel) (by decide +kernel)
theorem kw141 : (Jvm.Cond.fieldLink "ThrusterSelector$Text" (15 : Nat) "ThrusterSelector$Text" "parts" "[I") ∈ tb := tb_mem 186 (by decide +kernel) (by decide +kernel)
theorem kw143 : (Jvm.Cond.fieldLink "ThrusterSelector$Text" (18 : Nat) "ThrusterSelector$Text" "urgent" "[Z") ∈ tb := tb_mem 188 (by decide +kernel) (by decide +kernel)
theorem kw145 : (Jvm.Cond.fieldLink "ThrusterSelector$Text" (27 : Nat) "ThrusterSelector$Text" "length" "I") ∈ tb := tb_mem 190 (by decide +kernel) (by decide +kernel)
theorem kw147 : (Jvm.Cond.fieldLink "ThrusterSelector$Text" (33 : Nat) "ThrusterSelector$Text" "readCount" "I") ∈ tb := tb_mem 192 (by decide +kernel) (by decide +kernel)
theorem kw149 : (Jvm.Cond.fieldLink "ThrusterSelector$Text" (30 : Nat) "ThrusterSelector$Text" "at" "I") ∈ tb := tb_mem 194 (by decide +kernel) (by decide +kernel)
theorem kw150 : (Jvm.Cond.fieldLink "ThrusterSelector$Text" (23 : Nat) "ThrusterSelector$Text" "fault" "I") ∈ tb := tb_mem 195 (by decide +kernel) (by decide +kernel)
theorem kw166 : (Jvm.Cond.arrayClass Jvm.ClassFile.FieldType.boolean) ∈ tb := tb_mem 211 (by decide +kernel) (by decide +kernel)
theorem kw167 : (Jvm.Cond.fieldLink "ThrusterSelector" (10 : Nat) "ThrusterSelector" "state" "LThrusterSelector$State;") ∈ tb := tb_mem 212 (by decide +kernel) (by decide +kernel)
theorem kw168 : (Jvm.Cond.fieldLink "ThrusterSelector" (19 : Nat) "ThrusterSelector" "history" "LThrusterSelector$History;") ∈ tb := tb_mem 213 (by decide +kernel) (by decide +kernel)
theorem kw169 : (Jvm.Cond.fieldLink "ThrusterSelector" (26 : Nat) "ThrusterSelector" "selection" "LThrusterSelector$Selection;") ∈ tb := tb_mem 214 (by decide +kernel) (by decide +kernel)
theorem kw170 : (Jvm.Cond.fieldLink "ThrusterSelector" (33 : Nat) "ThrusterSelector" "text" "LThrusterSelector$Text;") ∈ tb := tb_mem 215 (by decide +kernel) (by decide +kernel)
theorem kw180 : (Jvm.Cond.methodLink "ThrusterSelectorLaw" (13 : Nat) ({ cls := "ThrusterSelector", name := "addThruster", desc := "(IIIIII)I" } : Jvm.MethodName)) ∈ tb := tb_mem 225 (by decide +kernel) (by decide +kernel)
theorem kw181 : (Jvm.Cond.instanceMethod ({ cls := "ThrusterSelector", name := "addThruster", desc := "(IIIIII)I" } : Jvm.MethodName)) ∈ tb := tb_mem 226 (by decide +kernel) (by decide +kernel)
theorem kw182 : (Jvm.Cond.selects "ThrusterSelector" ({ cls := "ThrusterSelector", name := "addThruster", desc := "(IIIIII)I" } : Jvm.MethodName) ({ cls := "ThrusterSelector", name := "addThruster", desc := "(IIIIII)I" } : Jvm.MethodName)) ∈ tb := tb_mem 227 (by decide +kernel) (by decide +kernel)
theorem kw183 : (Jvm.Cond.code ({ cls := "ThrusterSelector", name := "addThruster", desc := "(IIIIII)I" } : Jvm.MethodName) prog_1_method_2_code (9 : Nat) (Option.some Jvm.ClassFile.FieldType.int)) ∈ tb := tb_mem 228 (by decide +kernel) (by decide +kernel)
theorem kw184 : (Jvm.Cond.methodLink "ThrusterSelector" (37 : Nat) ({ cls := "ThrusterSelector", name := "isTank", desc := "(I)Z" } : Jvm.MethodName)) ∈ tb := tb_mem 229 (by decide +kernel) (by decide +kernel)
theorem kw185 : (Jvm.Cond.static ({ cls := "ThrusterSelector", name := "isTank", desc := "(I)Z" } : Jvm.MethodName)) ∈ tb := tb_mem 230 (by decide +kernel) (by decide +kernel)
theorem kw186 : (Jvm.Cond.code ({ cls := "ThrusterSelector", name := "isTank", desc := "(I)Z" } : Jvm.MethodName) prog_1_method_38_code (1 : Nat) (Option.some Jvm.ClassFile.FieldType.boolean)) ∈ tb := tb_mem 231 (by decide +kernel) (by decide +kernel)
theorem kw187 : (Jvm.Cond.methodLink "ThrusterSelector" (46 : Nat) ({ cls := "ThrusterSelector", name := "isWithin", desc := "(III)Z" } : Jvm.MethodName)) ∈ tb := tb_mem 232 (by decide +kernel) (by decide +kernel)
theorem kw188 : (Jvm.Cond.static ({ cls := "ThrusterSelector", name := "isWithin", desc := "(III)Z" } : Jvm.MethodName)) ∈ tb := tb_mem 233 (by decide +kernel) (by decide +kernel)
theorem kw189 : (Jvm.Cond.code ({ cls := "ThrusterSelector", name := "isWithin", desc := "(III)Z" } : Jvm.MethodName) prog_1_method_34_code (3 : Nat) (Option.some Jvm.ClassFile.FieldType.boolean)) ∈ tb := tb_mem 234 (by decide +kernel) (by decide +kernel)
theorem kw190 : (Jvm.Cond.constant "ThrusterSelector" (41 : Nat) (-2000000001 : Int32)) ∈ tb := tb_mem 235 (by decide +kernel) (by decide +kernel)
theorem kw191 : (Jvm.Cond.methodLink "ThrusterSelector" (42 : Nat) ({ cls := "ThrusterSelector", name := "isAtMost", desc := "(II)Z" } : Jvm.MethodName)) ∈ tb := tb_mem 236 (by decide +kernel) (by decide +kernel)
theorem kw192 : (Jvm.Cond.static ({ cls := "ThrusterSelector", name := "isAtMost", desc := "(II)Z" } : Jvm.MethodName)) ∈ tb := tb_mem 237 (by decide +kernel) (by decide +kernel)
theorem kw193 : (Jvm.Cond.code ({ cls := "ThrusterSelector", name := "isAtMost", desc := "(II)Z" } : Jvm.MethodName) prog_1_method_35_code (2 : Nat) (Option.some Jvm.ClassFile.FieldType.boolean)) ∈ tb := tb_mem 238 (by decide +kernel) (by decide +kernel)
theorem kw194 : (Jvm.Cond.constant "ThrusterSelector" (50 : Nat) (-2000000002 : Int32)) ∈ tb := tb_mem 239 (by decide +kernel) (by decide +kernel)
theorem kw195 : (Jvm.Cond.constant "ThrusterSelector" (55 : Nat) (-2000000004 : Int32)) ∈ tb := tb_mem 240 (by decide +kernel) (by decide +kernel)
theorem kw196 : (Jvm.Cond.methodLink "ThrusterSelector" (56 : Nat) ({ cls := "ThrusterSelector$History", name := "keep", desc := "(LThrusterSelector$State;)V" } : Jvm.MethodName)) ∈ tb := tb_mem 241 (by decide +kernel) (by decide +kernel)
theorem kw197 : (Jvm.Cond.instanceMethod ({ cls := "ThrusterSelector$History", name := "keep", desc := "(LThrusterSelector$State;)V" } : Jvm.MethodName)) ∈ tb := tb_mem 242 (by decide +kernel) (by decide +kernel)
theorem kw198 : (Jvm.Cond.selects "ThrusterSelector$History" ({ cls := "ThrusterSelector$History", name := "keep", desc := "(LThrusterSelector$State;)V" } : Jvm.MethodName) ({ cls := "ThrusterSelector$History", name := "keep", desc := "(LThrusterSelector$State;)V" } : Jvm.MethodName)) ∈ tb := tb_mem 243 (by decide +kernel) (by decide +kernel)
theorem kw199 : (Jvm.Cond.code ({ cls := "ThrusterSelector$History", name := "keep", desc := "(LThrusterSelector$State;)V" } : Jvm.MethodName) prog_2_method_2_code (2 : Nat) (Option.none : Option Jvm.ClassFile.FieldType)) ∈ tb := tb_mem 244 (by decide +kernel) (by decide +kernel)
theorem kw200 : (Jvm.Cond.methodLink "ThrusterSelector$History" (25 : Nat) ({ cls := "ThrusterSelector$State", name := "copyFrom", desc := "(LThrusterSelector$State;)V" } : Jvm.MethodName)) ∈ tb := tb_mem 245 (by decide +kernel) (by decide +kernel)
theorem kw201 : (Jvm.Cond.instanceMethod ({ cls := "ThrusterSelector$State", name := "copyFrom", desc := "(LThrusterSelector$State;)V" } : Jvm.MethodName)) ∈ tb := tb_mem 246 (by decide +kernel) (by decide +kernel)
theorem kw202 : (Jvm.Cond.selects "ThrusterSelector$State" ({ cls := "ThrusterSelector$State", name := "copyFrom", desc := "(LThrusterSelector$State;)V" } : Jvm.MethodName) ({ cls := "ThrusterSelector$State", name := "copyFrom", desc := "(LThrusterSelector$State;)V" } : Jvm.MethodName)) ∈ tb := tb_mem 247 (by decide +kernel) (by decide +kernel)
theorem kw203 : (Jvm.Cond.code ({ cls := "ThrusterSelector$State", name := "copyFrom", desc := "(LThrusterSelector$State;)V" } : Jvm.MethodName) prog_4_method_2_code (2 : Nat) (Option.none : Option Jvm.ClassFile.FieldType)) ∈ tb := tb_mem 248 (by decide +kernel) (by decide +kernel)
theorem kw204 : (Jvm.Cond.methodLink "ThrusterSelector$State" (41 : Nat) ({ cls := "java/lang/System", name := "arraycopy", desc := "(Ljava/lang/Object;ILjava/lang/Object;II)V" } : Jvm.MethodName)) ∈ tb := tb_mem 249 (by decide +kernel) (by decide +kernel)
theorem kw205 : (Jvm.Cond.static ({ cls := "java/lang/System", name := "arraycopy", desc := "(Ljava/lang/Object;ILjava/lang/Object;II)V" } : Jvm.MethodName)) ∈ tb := tb_mem 250 (by decide +kernel) (by decide +kernel)
theorem kw206 : (Jvm.Cond.native ({ cls := "java/lang/System", name := "arraycopy", desc := "(Ljava/lang/Object;ILjava/lang/Object;II)V" } : Jvm.MethodName)) ∈ tb := tb_mem 251 (by decide +kernel) (by decide +kernel)
theorem kw207 : (Jvm.Cond.methodLink "ThrusterSelector" (60 : Nat) ({ cls := "ThrusterSelector$State", name := "appendThruster", desc := "(IIIIII)I" } : Jvm.MethodName)) ∈ tb := tb_mem 252 (by decide +kernel) (by decide +kernel)
theorem kw208 : (Jvm.Cond.instanceMethod ({ cls := "ThrusterSelector$State", name := "appendThruster", desc := "(IIIIII)I" } : Jvm.MethodName)) ∈ tb := tb_mem 253 (by decide +kernel) (by decide +kernel)
theorem kw209 : (Jvm.Cond.selects "ThrusterSelector$State" ({ cls := "ThrusterSelector$State", name := "appendThruster", desc := "(IIIIII)I" } : Jvm.MethodName) ({ cls := "ThrusterSelector$State", name := "appendThruster", desc := "(IIIIII)I" } : Jvm.MethodName)) ∈ tb := tb_mem 254 (by decide +kernel) (by decide +kernel)
theorem kw210 : (Jvm.Cond.code ({ cls := "ThrusterSelector$State", name := "appendThruster", desc := "(IIIIII)I" } : Jvm.MethodName) prog_4_method_6_code (8 : Nat) (Option.some Jvm.ClassFile.FieldType.int)) ∈ tb := tb_mem 255 (by decide +kernel) (by decide +kernel)
theorem kw211 : (Jvm.Cond.methodLink "ThrusterSelector$State" (63 : Nat) ({ cls := "ThrusterSelector$State", name := "setProperty", desc := "(III)V" } : Jvm.MethodName)) ∈ tb := tb_mem 256 (by decide +kernel) (by decide +kernel)
theorem kw212 : (Jvm.Cond.instanceMethod ({ cls := "ThrusterSelector$State", name := "setProperty", desc := "(III)V" } : Jvm.MethodName)) ∈ tb := tb_mem 257 (by decide +kernel) (by decide +kernel)
theorem kw213 : (Jvm.Cond.selects "ThrusterSelector$State" ({ cls := "ThrusterSelector$State", name := "setProperty", desc := "(III)V" } : Jvm.MethodName) ({ cls := "ThrusterSelector$State", name := "setProperty", desc := "(III)V" } : Jvm.MethodName)) ∈ tb := tb_mem 258 (by decide +kernel) (by decide +kernel)
theorem kw214 : (Jvm.Cond.code ({ cls := "ThrusterSelector$State", name := "setProperty", desc := "(III)V" } : Jvm.MethodName) prog_4_method_4_code (4 : Nat) (Option.none : Option Jvm.ClassFile.FieldType)) ∈ tb := tb_mem 259 (by decide +kernel) (by decide +kernel)
theorem kw215 : (Jvm.Cond.methodLink "ThrusterSelectorLaw" (18 : Nat) ({ cls := "ThrusterSelector", name := "setState", desc := "(II)I" } : Jvm.MethodName)) ∈ tb := tb_mem 260 (by decide +kernel) (by decide +kernel)
theorem kw216 : (Jvm.Cond.instanceMethod ({ cls := "ThrusterSelector", name := "setState", desc := "(II)I" } : Jvm.MethodName)) ∈ tb := tb_mem 261 (by decide +kernel) (by decide +kernel)
theorem kw217 : (Jvm.Cond.selects "ThrusterSelector" ({ cls := "ThrusterSelector", name := "setState", desc := "(II)I" } : Jvm.MethodName) ({ cls := "ThrusterSelector", name := "setState", desc := "(II)I" } : Jvm.MethodName)) ∈ tb := tb_mem 262 (by decide +kernel) (by decide +kernel)
theorem kw218 : (Jvm.Cond.code ({ cls := "ThrusterSelector", name := "setState", desc := "(II)I" } : Jvm.MethodName) prog_1_method_3_code (4 : Nat) (Option.some Jvm.ClassFile.FieldType.int)) ∈ tb := tb_mem 263 (by decide +kernel) (by decide +kernel)
theorem kw219 : (Jvm.Cond.methodLink "ThrusterSelector" (64 : Nat) ({ cls := "ThrusterSelector", name := "isThruster", desc := "(I)Z" } : Jvm.MethodName)) ∈ tb := tb_mem 264 (by decide +kernel) (by decide +kernel)
theorem kw221 : (Jvm.Cond.instanceMethod ({ cls := "ThrusterSelector", name := "isThruster", desc := "(I)Z" } : Jvm.MethodName)) ∈ tb := tb_mem 266 (by decide +kernel) (by decide +kernel)
theorem kw222 : (Jvm.Cond.code ({ cls := "ThrusterSelector", name := "isThruster", desc := "(I)Z" } : Jvm.MethodName) prog_1_method_40_code (2 : Nat) (Option.some Jvm.ClassFile.FieldType.boolean)) ∈ tb := tb_mem 267 (by decide +kernel) (by decide +kernel)
theorem kw223 : (Jvm.Cond.methodLink "ThrusterSelector" (67 : Nat) ({ cls := "ThrusterSelector$State", name := "property", desc := "(II)I" } : Jvm.MethodName)) ∈ tb := tb_mem 268 (by decide +kernel) (by decide +kernel)
theorem kw224 : (Jvm.Cond.instanceMethod ({ cls := "ThrusterSelector$State", name := "property", desc := "(II)I" } : Jvm.MethodName)) ∈ tb := tb_mem 269 (by decide +kernel) (by decide +kernel)
theorem kw225 : (Jvm.Cond.selects "ThrusterSelector$State" ({ cls := "ThrusterSelector$State", name := "property", desc := "(II)I" } : Jvm.MethodName) ({ cls := "ThrusterSelector$State", name := "property", desc := "(II)I" } : Jvm.MethodName)) ∈ tb := tb_mem 270 (by decide +kernel) (by decide +kernel)
theorem kw226 : (Jvm.Cond.code ({ cls := "ThrusterSelector$State", name := "property", desc := "(II)I" } : Jvm.MethodName) prog_4_method_3_code (3 : Nat) (Option.some Jvm.ClassFile.FieldType.int)) ∈ tb := tb_mem 271 (by decide +kernel) (by decide +kernel)
theorem kw227 : (Jvm.Cond.methodLink "ThrusterSelector" (71 : Nat) ({ cls := "ThrusterSelector$State", name := "setProperty", desc := "(III)V" } : Jvm.MethodName)) ∈ tb := tb_mem 272 (by decide +kernel) (by decide +kernel)
theorem kw228 : (Jvm.Cond.methodLink "ThrusterSelectorLaw" (23 : Nat) ({ cls := "ThrusterSelector", name := "thrusters", desc := "()I" } : Jvm.MethodName)) ∈ tb := tb_mem 273 (by decide +kernel) (by decide +kernel)
theorem kw229 : (Jvm.Cond.instanceMethod ({ cls := "ThrusterSelector", name := "thrusters", desc := "()I" } : Jvm.MethodName)) ∈ tb := tb_mem 274 (by decide +kernel) (by decide +kernel)
theorem kw230 : (Jvm.Cond.selects "ThrusterSelector" ({ cls := "ThrusterSelector", name := "thrusters", desc := "()I" } : Jvm.MethodName) ({ cls := "ThrusterSelector", name := "thrusters", desc := "()I" } : Jvm.MethodName)) ∈ tb := tb_mem 275 (by decide +kernel) (by decide +kernel)
theorem kw231 : (Jvm.Cond.code ({ cls := "ThrusterSelector", name := "thrusters", desc := "()I" } : Jvm.MethodName) prog_1_method_4_code (1 : Nat) (Option.some Jvm.ClassFile.FieldType.int)) ∈ tb := tb_mem 276 (by decide +kernel) (by decide +kernel)
theorem kw232 : (Jvm.Cond.methodLink "ThrusterSelectorLaw" (28 : Nat) ({ cls := "ThrusterSelector", name := "thruster", desc := "(II)I" } : Jvm.MethodName)) ∈ tb := tb_mem 277 (by decide +kernel) (by decide +kernel)
theorem kw233 : (Jvm.Cond.instanceMethod ({ cls := "ThrusterSelector", name := "thruster", desc := "(II)I" } : Jvm.MethodName)) ∈ tb := tb_mem 278 (by decide +kernel) (by decide +kernel)
theorem kw234 : (Jvm.Cond.selects "ThrusterSelector" ({ cls := "ThrusterSelector", name := "thruster", desc := "(II)I" } : Jvm.MethodName) ({ cls := "ThrusterSelector", name := "thruster", desc := "(II)I" } : Jvm.MethodName)) ∈ tb := tb_mem 279 (by decide +kernel) (by decide +kernel)
theorem kw235 : (Jvm.Cond.code ({ cls := "ThrusterSelector", name := "thruster", desc := "(II)I" } : Jvm.MethodName) prog_1_method_5_code (3 : Nat) (Option.some Jvm.ClassFile.FieldType.int)) ∈ tb := tb_mem 280 (by decide +kernel) (by decide +kernel)
theorem kw236 : (Jvm.Cond.methodLink "ThrusterSelector" (75 : Nat) ({ cls := "ThrusterSelector$State", name := "isUsable", desc := "(I)Z" } : Jvm.MethodName)) ∈ tb := tb_mem 281 (by decide +kernel) (by decide +kernel)
theorem kw237 : (Jvm.Cond.instanceMethod ({ cls := "ThrusterSelector$State", name := "isUsable", desc := "(I)Z" } : Jvm.MethodName)) ∈ tb := tb_mem 282 (by decide +kernel) (by decide +kernel)
theorem kw238 : (Jvm.Cond.selects "ThrusterSelector$State" ({ cls := "ThrusterSelector$State", name := "isUsable", desc := "(I)Z" } : Jvm.MethodName) ({ cls := "ThrusterSelector$State", name := "isUsable", desc := "(I)Z" } : Jvm.MethodName)) ∈ tb := tb_mem 283 (by decide +kernel) (by decide +kernel)
theorem kw239 : (Jvm.Cond.code ({ cls := "ThrusterSelector$State", name := "isUsable", desc := "(I)Z" } : Jvm.MethodName) prog_4_method_9_code (2 : Nat) (Option.some Jvm.ClassFile.FieldType.boolean)) ∈ tb := tb_mem 284 (by decide +kernel) (by decide +kernel)
theorem kw240 : (Jvm.Cond.methodLink "ThrusterSelector$State" (67 : Nat) ({ cls := "ThrusterSelector$State", name := "property", desc := "(II)I" } : Jvm.MethodName)) ∈ tb := tb_mem 285 (by decide +kernel) (by decide +kernel)
theorem kw241 : (Jvm.Cond.methodLink "ThrusterSelector$State" (77 : Nat) ({ cls := "ThrusterSelector$State", name := "fuelOf", desc := "(I)I" } : Jvm.MethodName)) ∈ tb := tb_mem 286 (by decide +kernel) (by decide +kernel)
theorem kw242 : (Jvm.Cond.instanceMethod ({ cls := "ThrusterSelector$State", name := "fuelOf", desc := "(I)I" } : Jvm.MethodName)) ∈ tb := tb_mem 287 (by decide +kernel) (by decide +kernel)
theorem kw243 : (Jvm.Cond.selects "ThrusterSelector$State" ({ cls := "ThrusterSelector$State", name := "fuelOf", desc := "(I)I" } : Jvm.MethodName) ({ cls := "ThrusterSelector$State", name := "fuelOf", desc := "(I)I" } : Jvm.MethodName)) ∈ tb := tb_mem 288 (by decide +kernel) (by decide +kernel)
theorem kw244 : (Jvm.Cond.code ({ cls := "ThrusterSelector$State", name := "fuelOf", desc := "(I)I" } : Jvm.MethodName) prog_4_method_8_code (2 : Nat) (Option.some Jvm.ClassFile.FieldType.int)) ∈ tb := tb_mem 289 (by decide +kernel) (by decide +kernel)
theorem kw245 : (Jvm.Cond.methodLink "ThrusterSelector" (78 : Nat) ({ cls := "ThrusterSelector$State", name := "isRunning", desc := "(I)Z" } : Jvm.MethodName)) ∈ tb := tb_mem 290 (by decide +kernel) (by decide +kernel)
theorem kw246 : (Jvm.Cond.instanceMethod ({ cls := "ThrusterSelector$State", name := "isRunning", desc := "(I)Z" } : Jvm.MethodName)) ∈ tb := tb_mem 291 (by decide +kernel) (by decide +kernel)
theorem kw247 : (Jvm.Cond.selects "ThrusterSelector$State" ({ cls := "ThrusterSelector$State", name := "isRunning", desc := "(I)Z" } : Jvm.MethodName) ({ cls := "ThrusterSelector$State", name := "isRunning", desc := "(I)Z" } : Jvm.MethodName)) ∈ tb := tb_mem 292 (by decide +kernel) (by decide +kernel)
theorem kw248 : (Jvm.Cond.code ({ cls := "ThrusterSelector$State", name := "isRunning", desc := "(I)Z" } : Jvm.MethodName) prog_4_method_10_code (2 : Nat) (Option.some Jvm.ClassFile.FieldType.boolean)) ∈ tb := tb_mem 293 (by decide +kernel) (by decide +kernel)
theorem kw249 : (Jvm.Cond.methodLink "ThrusterSelectorLaw" (32 : Nat) ({ cls := "ThrusterSelector", name := "unit", desc := "(II)I" } : Jvm.MethodName)) ∈ tb := tb_mem 294 (by decide +kernel) (by decide +kernel)
theorem kw250 : (Jvm.Cond.instanceMethod ({ cls := "ThrusterSelector", name := "unit", desc := "(II)I" } : Jvm.MethodName)) ∈ tb := tb_mem 295 (by decide +kernel) (by decide +kernel)
theorem kw251 : (Jvm.Cond.selects "ThrusterSelector" ({ cls := "ThrusterSelector", name := "unit", desc := "(II)I" } : Jvm.MethodName) ({ cls := "ThrusterSelector", name := "unit", desc := "(II)I" } : Jvm.MethodName)) ∈ tb := tb_mem 296 (by decide +kernel) (by decide +kernel)
theorem kw252 : (Jvm.Cond.code ({ cls := "ThrusterSelector", name := "unit", desc := "(II)I" } : Jvm.MethodName) prog_1_method_6_code (3 : Nat) (Option.some Jvm.ClassFile.FieldType.int)) ∈ tb := tb_mem 297 (by decide +kernel) (by decide +kernel)
theorem kw253 : (Jvm.Cond.methodLink "ThrusterSelector" (81 : Nat) ({ cls := "ThrusterSelector", name := "isPart", desc := "(I)Z" } : Jvm.MethodName)) ∈ tb := tb_mem 298 (by decide +kernel) (by decide +kernel)
theorem kw254 : (Jvm.Cond.static ({ cls := "ThrusterSelector", name := "isPart", desc := "(I)Z" } : Jvm.MethodName)) ∈ tb := tb_mem 299 (by decide +kernel) (by decide +kernel)
theorem kw255 : (Jvm.Cond.code ({ cls := "ThrusterSelector", name := "isPart", desc := "(I)Z" } : Jvm.MethodName) prog_1_method_39_code (1 : Nat) (Option.some Jvm.ClassFile.FieldType.boolean)) ∈ tb := tb_mem 300 (by decide +kernel) (by decide +kernel)
theorem kw256 : (Jvm.Cond.methodLink "ThrusterSelector" (84 : Nat) ({ cls := "ThrusterSelector$State", name := "unitPart", desc := "(II)I" } : Jvm.MethodName)) ∈ tb := tb_mem 301 (by decide +kernel) (by decide +kernel)
theorem kw257 : (Jvm.Cond.instanceMethod ({ cls := "ThrusterSelector$State", name := "unitPart", desc := "(II)I" } : Jvm.MethodName)) ∈ tb := tb_mem 302 (by decide +kernel) (by decide +kernel)
theorem kw258 : (Jvm.Cond.selects "ThrusterSelector$State" ({ cls := "ThrusterSelector$State", name := "unitPart", desc := "(II)I" } : Jvm.MethodName) ({ cls := "ThrusterSelector$State", name := "unitPart", desc := "(II)I" } : Jvm.MethodName)) ∈ tb := tb_mem 303 (by decide +kernel) (by decide +kernel)
theorem kw259 : (Jvm.Cond.code ({ cls := "ThrusterSelector$State", name := "unitPart", desc := "(II)I" } : Jvm.MethodName) prog_4_method_7_code (6 : Nat) (Option.some Jvm.ClassFile.FieldType.int)) ∈ tb := tb_mem 304 (by decide +kernel) (by decide +kernel)
theorem kw264 : (Jvm.Cond.methodLink "ThrusterSelectorLaw" (36 : Nat) ({ cls := "ThrusterSelector", name := "determinant", desc := "(III)I" } : Jvm.MethodName)) ∈ tb := tb_mem 309 (by decide +kernel) (by decide +kernel)
theorem kw265 : (Jvm.Cond.instanceMethod ({ cls := "ThrusterSelector", name := "determinant", desc := "(III)I" } : Jvm.MethodName)) ∈ tb := tb_mem 310 (by decide +kernel) (by decide +kernel)
theorem kw266 : (Jvm.Cond.selects "ThrusterSelector" ({ cls := "ThrusterSelector", name := "determinant", desc := "(III)I" } : Jvm.MethodName) ({ cls := "ThrusterSelector", name := "determinant", desc := "(III)I" } : Jvm.MethodName)) ∈ tb := tb_mem 311 (by decide +kernel) (by decide +kernel)
theorem kw267 : (Jvm.Cond.code ({ cls := "ThrusterSelector", name := "determinant", desc := "(III)I" } : Jvm.MethodName) prog_1_method_7_code (4 : Nat) (Option.some Jvm.ClassFile.FieldType.int)) ∈ tb := tb_mem 312 (by decide +kernel) (by decide +kernel)
theorem kw268 : (Jvm.Cond.methodLink "ThrusterSelector" (87 : Nat) ({ cls := "ThrusterSelector$Selection", name := "readThrusters", desc := "(LThrusterSelector$State;)V" } : Jvm.MethodName)) ∈ tb := tb_mem 313 (by decide +kernel) (by decide +kernel)
theorem kw269 : (Jvm.Cond.instanceMethod ({ cls := "ThrusterSelector$Selection", name := "readThrusters", desc := "(LThrusterSelector$State;)V" } : Jvm.MethodName)) ∈ tb := tb_mem 314 (by decide +kernel) (by decide +kernel)
theorem kw270 : (Jvm.Cond.selects "ThrusterSelector$Selection" ({ cls := "ThrusterSelector$Selection", name := "readThrusters", desc := "(LThrusterSelector$State;)V" } : Jvm.MethodName) ({ cls := "ThrusterSelector$Selection", name := "readThrusters", desc := "(LThrusterSelector$State;)V" } : Jvm.MethodName)) ∈ tb := tb_mem 315 (by decide +kernel) (by decide +kernel)
theorem kw271 : (Jvm.Cond.code ({ cls := "ThrusterSelector$Selection", name := "readThrusters", desc := "(LThrusterSelector$State;)V" } : Jvm.MethodName) prog_3_method_2_code (4 : Nat) (Option.none : Option Jvm.ClassFile.FieldType)) ∈ tb := tb_mem 316 (by decide +kernel) (by decide +kernel)
theorem kw272 : (Jvm.Cond.methodLink "ThrusterSelector$Selection" (28 : Nat) ({ cls := "ThrusterSelector$State", name := "runningMask", desc := "()I" } : Jvm.MethodName)) ∈ tb := tb_mem 317 (by decide +kernel) (by decide +kernel)
theorem kw273 : (Jvm.Cond.instanceMethod ({ cls := "ThrusterSelector$State", name := "runningMask", desc := "()I" } : Jvm.MethodName)) ∈ tb := tb_mem 318 (by decide +kernel) (by decide +kernel)
theorem kw274 : (Jvm.Cond.selects "ThrusterSelector$State" ({ cls := "ThrusterSelector$State", name := "runningMask", desc := "()I" } : Jvm.MethodName) ({ cls := "ThrusterSelector$State", name := "runningMask", desc := "()I" } : Jvm.MethodName)) ∈ tb := tb_mem 319 (by decide +kernel) (by decide +kernel)
theorem kw275 : (Jvm.Cond.code ({ cls := "ThrusterSelector$State", name := "runningMask", desc := "()I" } : Jvm.MethodName) prog_4_method_11_code (3 : Nat) (Option.some Jvm.ClassFile.FieldType.int)) ∈ tb := tb_mem 320 (by decide +kernel) (by decide +kernel)
theorem kw276 : (Jvm.Cond.methodLink "ThrusterSelector$State" (81 : Nat) ({ cls := "ThrusterSelector$State", name := "isRunning", desc := "(I)Z" } : Jvm.MethodName)) ∈ tb := tb_mem 321 (by decide +kernel) (by decide +kernel)
theorem kw277 : (Jvm.Cond.methodLink "ThrusterSelector$Selection" (41 : Nat) ({ cls := "ThrusterSelector$State", name := "priceOfTick", desc := "(I)I" } : Jvm.MethodName)) ∈ tb := tb_mem 322 (by decide +kernel) (by decide +kernel)
theorem kw278 : (Jvm.Cond.instanceMethod ({ cls := "ThrusterSelector$State", name := "priceOfTick", desc := "(I)I" } : Jvm.MethodName)) ∈ tb := tb_mem 323 (by decide +kernel) (by decide +kernel)
theorem kw279 : (Jvm.Cond.selects "ThrusterSelector$State" ({ cls := "ThrusterSelector$State", name := "priceOfTick", desc := "(I)I" } : Jvm.MethodName) ({ cls := "ThrusterSelector$State", name := "priceOfTick", desc := "(I)I" } : Jvm.MethodName)) ∈ tb := tb_mem 324 (by decide +kernel) (by decide +kernel)
theorem kw280 : (Jvm.Cond.code ({ cls := "ThrusterSelector$State", name := "priceOfTick", desc := "(I)I" } : Jvm.MethodName) prog_4_method_12_code (3 : Nat) (Option.some Jvm.ClassFile.FieldType.int)) ∈ tb := tb_mem 325 (by decide +kernel) (by decide +kernel)
theorem kw281 : (Jvm.Cond.methodLink "ThrusterSelector$Selection" (45 : Nat) ({ cls := "ThrusterSelector$State", name := "unitPart", desc := "(II)I" } : Jvm.MethodName)) ∈ tb := tb_mem 326 (by decide +kernel) (by decide +kernel)
theorem kw282 : (Jvm.Cond.methodLink "ThrusterSelector" (90 : Nat) ({ cls := "ThrusterSelector$Selection", name := "determinantOf", desc := "(III)J" } : Jvm.MethodName)) ∈ tb := tb_mem 327 (by decide +kernel) (by decide +kernel)
theorem kw283 : (Jvm.Cond.instanceMethod ({ cls := "ThrusterSelector$Selection", name := "determinantOf", desc := "(III)J" } : Jvm.MethodName)) ∈ tb := tb_mem 328 (by decide +kernel) (by decide +kernel)
theorem kw284 : (Jvm.Cond.selects "ThrusterSelector$Selection" ({ cls := "ThrusterSelector$Selection", name := "determinantOf", desc := "(III)J" } : Jvm.MethodName) ({ cls := "ThrusterSelector$Selection", name := "determinantOf", desc := "(III)J" } : Jvm.MethodName)) ∈ tb := tb_mem 329 (by decide +kernel) (by decide +kernel)
theorem kw285 : (Jvm.Cond.code ({ cls := "ThrusterSelector$Selection", name := "determinantOf", desc := "(III)J" } : Jvm.MethodName) prog_3_method_3_code (13 : Nat) (Option.some Jvm.ClassFile.FieldType.long)) ∈ tb := tb_mem 330 (by decide +kernel) (by decide +kernel)
theorem kw286 : (Jvm.Cond.methodLink "ThrusterSelectorLaw" (41 : Nat) ({ cls := "ThrusterSelector", name := "refuel", desc := "(II)I" } : Jvm.MethodName)) ∈ tb := tb_mem 331 (by decide +kernel) (by decide +kernel)
theorem kw287 : (Jvm.Cond.instanceMethod ({ cls := "ThrusterSelector", name := "refuel", desc := "(II)I" } : Jvm.MethodName)) ∈ tb := tb_mem 332 (by decide +kernel) (by decide +kernel)
theorem kw288 : (Jvm.Cond.selects "ThrusterSelector" ({ cls := "ThrusterSelector", name := "refuel", desc := "(II)I" } : Jvm.MethodName) ({ cls := "ThrusterSelector", name := "refuel", desc := "(II)I" } : Jvm.MethodName)) ∈ tb := tb_mem 333 (by decide +kernel) (by decide +kernel)
theorem kw289 : (Jvm.Cond.code ({ cls := "ThrusterSelector", name := "refuel", desc := "(II)I" } : Jvm.MethodName) prog_1_method_8_code (4 : Nat) (Option.some Jvm.ClassFile.FieldType.int)) ∈ tb := tb_mem 334 (by decide +kernel) (by decide +kernel)
theorem kw290 : (Jvm.Cond.constant "ThrusterSelector" (94 : Nat) (100000 : Int32)) ∈ tb := tb_mem 335 (by decide +kernel) (by decide +kernel)
theorem kw291 : (Jvm.Cond.methodLink "ThrusterSelectorLaw" (45 : Nat) ({ cls := "ThrusterSelector", name := "fuel", desc := "(I)I" } : Jvm.MethodName)) ∈ tb := tb_mem 336 (by decide +kernel) (by decide +kernel)
theorem kw292 : (Jvm.Cond.instanceMethod ({ cls := "ThrusterSelector", name := "fuel", desc := "(I)I" } : Jvm.MethodName)) ∈ tb := tb_mem 337 (by decide +kernel) (by decide +kernel)
theorem kw293 : (Jvm.Cond.selects "ThrusterSelector" ({ cls := "ThrusterSelector", name := "fuel", desc := "(I)I" } : Jvm.MethodName) ({ cls := "ThrusterSelector", name := "fuel", desc := "(I)I" } : Jvm.MethodName)) ∈ tb := tb_mem 338 (by decide +kernel) (by decide +kernel)
theorem kw294 : (Jvm.Cond.code ({ cls := "ThrusterSelector", name := "fuel", desc := "(I)I" } : Jvm.MethodName) prog_1_method_9_code (2 : Nat) (Option.some Jvm.ClassFile.FieldType.int)) ∈ tb := tb_mem 339 (by decide +kernel) (by decide +kernel)
theorem kw295 : (Jvm.Cond.methodLink "ThrusterSelectorLaw" (50 : Nat) ({ cls := "ThrusterSelector", name := "forbid", desc := "(I)I" } : Jvm.MethodName)) ∈ tb := tb_mem 340 (by decide +kernel) (by decide +kernel)
theorem kw296 : (Jvm.Cond.instanceMethod ({ cls := "ThrusterSelector", name := "forbid", desc := "(I)I" } : Jvm.MethodName)) ∈ tb := tb_mem 341 (by decide +kernel) (by decide +kernel)
theorem kw297 : (Jvm.Cond.selects "ThrusterSelector" ({ cls := "ThrusterSelector", name := "forbid", desc := "(I)I" } : Jvm.MethodName) ({ cls := "ThrusterSelector", name := "forbid", desc := "(I)I" } : Jvm.MethodName)) ∈ tb := tb_mem 342 (by decide +kernel) (by decide +kernel)
theorem kw298 : (Jvm.Cond.code ({ cls := "ThrusterSelector", name := "forbid", desc := "(I)I" } : Jvm.MethodName) prog_1_method_10_code (3 : Nat) (Option.some Jvm.ClassFile.FieldType.int)) ∈ tb := tb_mem 343 (by decide +kernel) (by decide +kernel)
theorem kw299 : (Jvm.Cond.methodLink "ThrusterSelector" (99 : Nat) ({ cls := "java/lang/Integer", name := "bitCount", desc := "(I)I" } : Jvm.MethodName)) ∈ tb := tb_mem 344 (by decide +kernel) (by decide +kernel)
theorem kw300 : (Jvm.Cond.static ({ cls := "java/lang/Integer", name := "bitCount", desc := "(I)I" } : Jvm.MethodName)) ∈ tb := tb_mem 345 (by decide +kernel) (by decide +kernel)
theorem kw301 : (Jvm.Cond.code ({ cls := "java/lang/Integer", name := "bitCount", desc := "(I)I" } : Jvm.MethodName) prog_8_method_49_code (1 : Nat) (Option.some Jvm.ClassFile.FieldType.int)) ∈ tb := tb_mem 346 (by decide +kernel) (by decide +kernel)
theorem kw302 : (Jvm.Cond.constant "java/lang/Integer" (265 : Nat) (1431655765 : Int32)) ∈ tb := tb_mem 347 (by decide +kernel) (by decide +kernel)
theorem kw303 : (Jvm.Cond.constant "java/lang/Integer" (266 : Nat) (858993459 : Int32)) ∈ tb := tb_mem 348 (by decide +kernel) (by decide +kernel)
theorem kw304 : (Jvm.Cond.constant "java/lang/Integer" (267 : Nat) (252645135 : Int32)) ∈ tb := tb_mem 349 (by decide +kernel) (by decide +kernel)
theorem kw305 : (Jvm.Cond.methodLink "ThrusterSelector" (105 : Nat) ({ cls := "ThrusterSelector$State", name := "placeOfSet", desc := "(I)I" } : Jvm.MethodName)) ∈ tb := tb_mem 350 (by decide +kernel) (by decide +kernel)
theorem kw306 : (Jvm.Cond.instanceMethod ({ cls := "ThrusterSelector$State", name := "placeOfSet", desc := "(I)I" } : Jvm.MethodName)) ∈ tb := tb_mem 351 (by decide +kernel) (by decide +kernel)
theorem kw307 : (Jvm.Cond.selects "ThrusterSelector$State" ({ cls := "ThrusterSelector$State", name := "placeOfSet", desc := "(I)I" } : Jvm.MethodName) ({ cls := "ThrusterSelector$State", name := "placeOfSet", desc := "(I)I" } : Jvm.MethodName)) ∈ tb := tb_mem 352 (by decide +kernel) (by decide +kernel)
theorem kw308 : (Jvm.Cond.code ({ cls := "ThrusterSelector$State", name := "placeOfSet", desc := "(I)I" } : Jvm.MethodName) prog_4_method_13_code (3 : Nat) (Option.some Jvm.ClassFile.FieldType.int)) ∈ tb := tb_mem 353 (by decide +kernel) (by decide +kernel)
theorem kw309 : (Jvm.Cond.constant "ThrusterSelector" (108 : Nat) (-2000000003 : Int32)) ∈ tb := tb_mem 354 (by decide +kernel) (by decide +kernel)
theorem kw310 : (Jvm.Cond.methodLink "ThrusterSelector" (112 : Nat) ({ cls := "ThrusterSelector$State", name := "appendSet", desc := "(I)I" } : Jvm.MethodName)) ∈ tb := tb_mem 355 (by decide +kernel) (by decide +kernel)
theorem kw311 : (Jvm.Cond.instanceMethod ({ cls := "ThrusterSelector$State", name := "appendSet", desc := "(I)I" } : Jvm.MethodName)) ∈ tb := tb_mem 356 (by decide +kernel) (by decide +kernel)
theorem kw312 : (Jvm.Cond.selects "ThrusterSelector$State" ({ cls := "ThrusterSelector$State", name := "appendSet", desc := "(I)I" } : Jvm.MethodName) ({ cls := "ThrusterSelector$State", name := "appendSet", desc := "(I)I" } : Jvm.MethodName)) ∈ tb := tb_mem 357 (by decide +kernel) (by decide +kernel)
theorem kw313 : (Jvm.Cond.code ({ cls := "ThrusterSelector$State", name := "appendSet", desc := "(I)I" } : Jvm.MethodName) prog_4_method_14_code (2 : Nat) (Option.some Jvm.ClassFile.FieldType.int)) ∈ tb := tb_mem 358 (by decide +kernel) (by decide +kernel)
theorem kw314 : (Jvm.Cond.methodLink "ThrusterSelectorLaw" (54 : Nat) ({ cls := "ThrusterSelector", name := "allow", desc := "(I)I" } : Jvm.MethodName)) ∈ tb := tb_mem 359 (by decide +kernel) (by decide +kernel)
theorem kw315 : (Jvm.Cond.instanceMethod ({ cls := "ThrusterSelector", name := "allow", desc := "(I)I" } : Jvm.MethodName)) ∈ tb := tb_mem 360 (by decide +kernel) (by decide +kernel)
theorem kw316 : (Jvm.Cond.selects "ThrusterSelector" ({ cls := "ThrusterSelector", name := "allow", desc := "(I)I" } : Jvm.MethodName) ({ cls := "ThrusterSelector", name := "allow", desc := "(I)I" } : Jvm.MethodName)) ∈ tb := tb_mem 361 (by decide +kernel) (by decide +kernel)
theorem kw317 : (Jvm.Cond.code ({ cls := "ThrusterSelector", name := "allow", desc := "(I)I" } : Jvm.MethodName) prog_1_method_11_code (3 : Nat) (Option.some Jvm.ClassFile.FieldType.int)) ∈ tb := tb_mem 362 (by decide +kernel) (by decide +kernel)
theorem kw318 : (Jvm.Cond.methodLink "ThrusterSelector" (115 : Nat) ({ cls := "ThrusterSelector$State", name := "removeSet", desc := "(I)I" } : Jvm.MethodName)) ∈ tb := tb_mem 363 (by decide +kernel) (by decide +kernel)
theorem kw319 : (Jvm.Cond.instanceMethod ({ cls := "ThrusterSelector$State", name := "removeSet", desc := "(I)I" } : Jvm.MethodName)) ∈ tb := tb_mem 364 (by decide +kernel) (by decide +kernel)
theorem kw320 : (Jvm.Cond.selects "ThrusterSelector$State" ({ cls := "ThrusterSelector$State", name := "removeSet", desc := "(I)I" } : Jvm.MethodName) ({ cls := "ThrusterSelector$State", name := "removeSet", desc := "(I)I" } : Jvm.MethodName)) ∈ tb := tb_mem 365 (by decide +kernel) (by decide +kernel)
theorem kw321 : (Jvm.Cond.code ({ cls := "ThrusterSelector$State", name := "removeSet", desc := "(I)I" } : Jvm.MethodName) prog_4_method_15_code (3 : Nat) (Option.some Jvm.ClassFile.FieldType.int)) ∈ tb := tb_mem 366 (by decide +kernel) (by decide +kernel)
theorem kw322 : (Jvm.Cond.methodLink "ThrusterSelectorLaw" (58 : Nat) ({ cls := "ThrusterSelector", name := "isForbidden", desc := "(I)I" } : Jvm.MethodName)) ∈ tb := tb_mem 367 (by decide +kernel) (by decide +kernel)
theorem kw323 : (Jvm.Cond.instanceMethod ({ cls := "ThrusterSelector", name := "isForbidden", desc := "(I)I" } : Jvm.MethodName)) ∈ tb := tb_mem 368 (by decide +kernel) (by decide +kernel)
theorem kw324 : (Jvm.Cond.selects "ThrusterSelector" ({ cls := "ThrusterSelector", name := "isForbidden", desc := "(I)I" } : Jvm.MethodName) ({ cls := "ThrusterSelector", name := "isForbidden", desc := "(I)I" } : Jvm.MethodName)) ∈ tb := tb_mem 369 (by decide +kernel) (by decide +kernel)
theorem kw325 : (Jvm.Cond.code ({ cls := "ThrusterSelector", name := "isForbidden", desc := "(I)I" } : Jvm.MethodName) prog_1_method_12_code (2 : Nat) (Option.some Jvm.ClassFile.FieldType.int)) ∈ tb := tb_mem 370 (by decide +kernel) (by decide +kernel)
theorem kw326 : (Jvm.Cond.methodLink "ThrusterSelector" (118 : Nat) ({ cls := "ThrusterSelector$State", name := "runningMask", desc := "()I" } : Jvm.MethodName)) ∈ tb := tb_mem 371 (by decide +kernel) (by decide +kernel)
theorem kw327 : (Jvm.Cond.methodLink "ThrusterSelector" (122 : Nat) ({ cls := "ThrusterSelector$State", name := "forbids", desc := "(I)Z" } : Jvm.MethodName)) ∈ tb := tb_mem 372 (by decide +kernel) (by decide +kernel)
theorem kw328 : (Jvm.Cond.instanceMethod ({ cls := "ThrusterSelector$State", name := "forbids", desc := "(I)Z" } : Jvm.MethodName)) ∈ tb := tb_mem 373 (by decide +kernel) (by decide +kernel)
theorem kw329 : (Jvm.Cond.selects "ThrusterSelector$State" ({ cls := "ThrusterSelector$State", name := "forbids", desc := "(I)Z" } : Jvm.MethodName) ({ cls := "ThrusterSelector$State", name := "forbids", desc := "(I)Z" } : Jvm.MethodName)) ∈ tb := tb_mem 374 (by decide +kernel) (by decide +kernel)
theorem kw330 : (Jvm.Cond.code ({ cls := "ThrusterSelector$State", name := "forbids", desc := "(I)Z" } : Jvm.MethodName) prog_4_method_16_code (3 : Nat) (Option.some Jvm.ClassFile.FieldType.boolean)) ∈ tb := tb_mem 375 (by decide +kernel) (by decide +kernel)
theorem kw331 : (Jvm.Cond.methodLink "ThrusterSelectorLaw" (62 : Nat) ({ cls := "ThrusterSelector", name := "select", desc := "(III)I" } : Jvm.MethodName)) ∈ tb := tb_mem 376 (by decide +kernel) (by decide +kernel)
theorem kw332 : (Jvm.Cond.instanceMethod ({ cls := "ThrusterSelector", name := "select", desc := "(III)I" } : Jvm.MethodName)) ∈ tb := tb_mem 377 (by decide +kernel) (by decide +kernel)
theorem kw333 : (Jvm.Cond.selects "ThrusterSelector" ({ cls := "ThrusterSelector", name := "select", desc := "(III)I" } : Jvm.MethodName) ({ cls := "ThrusterSelector", name := "select", desc := "(III)I" } : Jvm.MethodName)) ∈ tb := tb_mem 378 (by decide +kernel) (by decide +kernel)
theorem kw334 : (Jvm.Cond.code ({ cls := "ThrusterSelector", name := "select", desc := "(III)I" } : Jvm.MethodName) prog_1_method_13_code (4 : Nat) (Option.some Jvm.ClassFile.FieldType.int)) ∈ tb := tb_mem 379 (by decide +kernel) (by decide +kernel)
theorem kw335 : (Jvm.Cond.methodLink "ThrusterSelector" (125 : Nat) ({ cls := "ThrusterSelector", name := "isTarget", desc := "(III)Z" } : Jvm.MethodName)) ∈ tb := tb_mem 380 (by decide +kernel) (by decide +kernel)
theorem kw336 : (Jvm.Cond.static ({ cls := "ThrusterSelector", name := "isTarget", desc := "(III)Z" } : Jvm.MethodName)) ∈ tb := tb_mem 381 (by decide +kernel) (by decide +kernel)
theorem kw337 : (Jvm.Cond.code ({ cls := "ThrusterSelector", name := "isTarget", desc := "(III)Z" } : Jvm.MethodName) prog_1_method_37_code (3 : Nat) (Option.some Jvm.ClassFile.FieldType.boolean)) ∈ tb := tb_mem 382 (by decide +kernel) (by decide +kernel)
theorem kw338 : (Jvm.Cond.constant "ThrusterSelector" (229 : Nat) (40000 : Int32)) ∈ tb := tb_mem 383 (by decide +kernel) (by decide +kernel)
theorem kw339 : (Jvm.Cond.methodLink "ThrusterSelector" (182 : Nat) ({ cls := "ThrusterSelector", name := "areAtMost", desc := "(IIII)Z" } : Jvm.MethodName)) ∈ tb := tb_mem 384 (by decide +kernel) (by decide +kernel)
theorem kw340 : (Jvm.Cond.static ({ cls := "ThrusterSelector", name := "areAtMost", desc := "(IIII)Z" } : Jvm.MethodName)) ∈ tb := tb_mem 385 (by decide +kernel) (by decide +kernel)
theorem kw341 : (Jvm.Cond.code ({ cls := "ThrusterSelector", name := "areAtMost", desc := "(IIII)Z" } : Jvm.MethodName) prog_1_method_36_code (4 : Nat) (Option.some Jvm.ClassFile.FieldType.boolean)) ∈ tb := tb_mem 386 (by decide +kernel) (by decide +kernel)
theorem kw342 : (Jvm.Cond.methodLink "ThrusterSelector" (128 : Nat) ({ cls := "ThrusterSelector$Selection", name := "find", desc := "(LThrusterSelector$State;III)V" } : Jvm.MethodName)) ∈ tb := tb_mem 387 (by decide +kernel) (by decide +kernel)
theorem kw343 : (Jvm.Cond.instanceMethod ({ cls := "ThrusterSelector$Selection", name := "find", desc := "(LThrusterSelector$State;III)V" } : Jvm.MethodName)) ∈ tb := tb_mem 388 (by decide +kernel) (by decide +kernel)
theorem kw344 : (Jvm.Cond.selects "ThrusterSelector$Selection" ({ cls := "ThrusterSelector$Selection", name := "find", desc := "(LThrusterSelector$State;III)V" } : Jvm.MethodName) ({ cls := "ThrusterSelector$Selection", name := "find", desc := "(LThrusterSelector$State;III)V" } : Jvm.MethodName)) ∈ tb := tb_mem 389 (by decide +kernel) (by decide +kernel)
theorem kw345 : (Jvm.Cond.code ({ cls := "ThrusterSelector$Selection", name := "find", desc := "(LThrusterSelector$State;III)V" } : Jvm.MethodName) prog_3_method_4_code (8 : Nat) (Option.none : Option Jvm.ClassFile.FieldType)) ∈ tb := tb_mem 390 (by decide +kernel) (by decide +kernel)
theorem kw346 : (Jvm.Cond.methodLink "ThrusterSelector$Selection" (49 : Nat) ({ cls := "ThrusterSelector$Selection", name := "clear", desc := "()V" } : Jvm.MethodName)) ∈ tb := tb_mem 391 (by decide +kernel) (by decide +kernel)
theorem kw348 : (Jvm.Cond.instanceMethod ({ cls := "ThrusterSelector$Selection", name := "clear", desc := "()V" } : Jvm.MethodName)) ∈ tb := tb_mem 393 (by decide +kernel) (by decide +kernel)
theorem kw349 : (Jvm.Cond.code ({ cls := "ThrusterSelector$Selection", name := "clear", desc := "()V" } : Jvm.MethodName) prog_3_method_5_code (1 : Nat) (Option.none : Option Jvm.ClassFile.FieldType)) ∈ tb := tb_mem 394 (by decide +kernel) (by decide +kernel)
theorem kw350 : (Jvm.Cond.methodLink "ThrusterSelector$Selection" (74 : Nat) ({ cls := "java/util/Arrays", name := "fill", desc := "([JJ)V" } : Jvm.MethodName)) ∈ tb := tb_mem 395 (by decide +kernel) (by decide +kernel)
theorem kw351 : (Jvm.Cond.static ({ cls := "java/util/Arrays", name := "fill", desc := "([JJ)V" } : Jvm.MethodName)) ∈ tb := tb_mem 396 (by decide +kernel) (by decide +kernel)
theorem kw352 : (Jvm.Cond.code ({ cls := "java/util/Arrays", name := "fill", desc := "([JJ)V" } : Jvm.MethodName) prog_11_method_101_code (5 : Nat) (Option.none : Option Jvm.ClassFile.FieldType)) ∈ tb := tb_mem 397 (by decide +kernel) (by decide +kernel)
theorem kw353 : (Jvm.Cond.methodLink "ThrusterSelector$Selection" (56 : Nat) ({ cls := "ThrusterSelector$Selection", name := "readThrusters", desc := "(LThrusterSelector$State;)V" } : Jvm.MethodName)) ∈ tb := tb_mem 398 (by decide +kernel) (by decide +kernel)
theorem kw354 : (Jvm.Cond.methodLink "ThrusterSelector$Selection" (60 : Nat) ({ cls := "ThrusterSelector$State", name := "isUsable", desc := "(I)Z" } : Jvm.MethodName)) ∈ tb := tb_mem 399 (by decide +kernel) (by decide +kernel)
theorem kw355 : (Jvm.Cond.methodLink "ThrusterSelector$Selection" (64 : Nat) ({ cls := "ThrusterSelector$Selection", name := "consider", desc := "(LThrusterSelector$State;III)V" } : Jvm.MethodName)) ∈ tb := tb_mem 400 (by decide +kernel) (by decide +kernel)
theorem kw357 : (Jvm.Cond.instanceMethod ({ cls := "ThrusterSelector$Selection", name := "consider", desc := "(LThrusterSelector$State;III)V" } : Jvm.MethodName)) ∈ tb := tb_mem 402 (by decide +kernel) (by decide +kernel)
theorem kw358 : (Jvm.Cond.code ({ cls := "ThrusterSelector$Selection", name := "consider", desc := "(LThrusterSelector$State;III)V" } : Jvm.MethodName) prog_3_method_6_code (17 : Nat) (Option.none : Option Jvm.ClassFile.FieldType)) ∈ tb := tb_mem 403 (by decide +kernel) (by decide +kernel)
theorem kw359 : (Jvm.Cond.methodLink "ThrusterSelector$Selection" (80 : Nat) ({ cls := "ThrusterSelector$Selection", name := "determinantOf", desc := "(III)J" } : Jvm.MethodName)) ∈ tb := tb_mem 404 (by decide +kernel) (by decide +kernel)
theorem kw360 : (Jvm.Cond.methodLink "ThrusterSelector$Selection" (84 : Nat) ({ cls := "ThrusterSelector$Selection", name := "isPossible", desc := "(JJ)Z" } : Jvm.MethodName)) ∈ tb := tb_mem 405 (by decide +kernel) (by decide +kernel)
theorem kw361 : (Jvm.Cond.static ({ cls := "ThrusterSelector$Selection", name := "isPossible", desc := "(JJ)Z" } : Jvm.MethodName)) ∈ tb := tb_mem 406 (by decide +kernel) (by decide +kernel)
theorem kw362 : (Jvm.Cond.code ({ cls := "ThrusterSelector$Selection", name := "isPossible", desc := "(JJ)Z" } : Jvm.MethodName) prog_3_method_7_code (4 : Nat) (Option.some Jvm.ClassFile.FieldType.boolean)) ∈ tb := tb_mem 407 (by decide +kernel) (by decide +kernel)
theorem kw363 : (Jvm.Cond.constantLong "ThrusterSelector$Selection" (99 : Nat) (20 : Int64)) ∈ tb := tb_mem 408 (by decide +kernel) (by decide +kernel)
theorem kw364 : (Jvm.Cond.methodLink "ThrusterSelector$Selection" (88 : Nat) ({ cls := "ThrusterSelector$Selection", name := "bitIf", desc := "(ZI)I" } : Jvm.MethodName)) ∈ tb := tb_mem 409 (by decide +kernel) (by decide +kernel)
theorem kw365 : (Jvm.Cond.static ({ cls := "ThrusterSelector$Selection", name := "bitIf", desc := "(ZI)I" } : Jvm.MethodName)) ∈ tb := tb_mem 410 (by decide +kernel) (by decide +kernel)
theorem kw366 : (Jvm.Cond.code ({ cls := "ThrusterSelector$Selection", name := "bitIf", desc := "(ZI)I" } : Jvm.MethodName) prog_3_method_8_code (2 : Nat) (Option.some Jvm.ClassFile.FieldType.int)) ∈ tb := tb_mem 411 (by decide +kernel) (by decide +kernel)
theorem kw367 : (Jvm.Cond.methodLink "ThrusterSelector$Selection" (92 : Nat) ({ cls := "ThrusterSelector$State", name := "forbids", desc := "(I)Z" } : Jvm.MethodName)) ∈ tb := tb_mem 412 (by decide +kernel) (by decide +kernel)
theorem kw368 : (Jvm.Cond.methodLink "ThrusterSelector$Selection" (95 : Nat) ({ cls := "ThrusterSelector$Selection", name := "isBetter", desc := "(JJI)Z" } : Jvm.MethodName)) ∈ tb := tb_mem 413 (by decide +kernel) (by decide +kernel)
theorem kw370 : (Jvm.Cond.instanceMethod ({ cls := "ThrusterSelector$Selection", name := "isBetter", desc := "(JJI)Z" } : Jvm.MethodName)) ∈ tb := tb_mem 415 (by decide +kernel) (by decide +kernel)
theorem kw371 : (Jvm.Cond.code ({ cls := "ThrusterSelector$Selection", name := "isBetter", desc := "(JJI)Z" } : Jvm.MethodName) prog_3_method_9_code (10 : Nat) (Option.some Jvm.ClassFile.FieldType.boolean)) ∈ tb := tb_mem 416 (by decide +kernel) (by decide +kernel)
theorem kw372 : (Jvm.Cond.constant "ThrusterSelector" (139 : Nat) (-2000000000 : Int32)) ∈ tb := tb_mem 417 (by decide +kernel) (by decide +kernel)
theorem kw373 : (Jvm.Cond.methodLink "ThrusterSelectorLaw" (66 : Nat) ({ cls := "ThrusterSelector", name := "pulse", desc := "(IIII)I" } : Jvm.MethodName)) ∈ tb := tb_mem 418 (by decide +kernel) (by decide +kernel)
theorem kw374 : (Jvm.Cond.instanceMethod ({ cls := "ThrusterSelector", name := "pulse", desc := "(IIII)I" } : Jvm.MethodName)) ∈ tb := tb_mem 419 (by decide +kernel) (by decide +kernel)
theorem kw375 : (Jvm.Cond.selects "ThrusterSelector" ({ cls := "ThrusterSelector", name := "pulse", desc := "(IIII)I" } : Jvm.MethodName) ({ cls := "ThrusterSelector", name := "pulse", desc := "(IIII)I" } : Jvm.MethodName)) ∈ tb := tb_mem 420 (by decide +kernel) (by decide +kernel)
theorem kw376 : (Jvm.Cond.code ({ cls := "ThrusterSelector", name := "pulse", desc := "(IIII)I" } : Jvm.MethodName) prog_1_method_14_code (5 : Nat) (Option.some Jvm.ClassFile.FieldType.int)) ∈ tb := tb_mem 421 (by decide +kernel) (by decide +kernel)
theorem kw377 : (Jvm.Cond.methodLink "ThrusterSelector" (140 : Nat) ({ cls := "ThrusterSelector$Selection", name := "pulseOf", desc := "(II)I" } : Jvm.MethodName)) ∈ tb := tb_mem 422 (by decide +kernel) (by decide +kernel)
theorem kw378 : (Jvm.Cond.instanceMethod ({ cls := "ThrusterSelector$Selection", name := "pulseOf", desc := "(II)I" } : Jvm.MethodName)) ∈ tb := tb_mem 423 (by decide +kernel) (by decide +kernel)
theorem kw379 : (Jvm.Cond.selects "ThrusterSelector$Selection" ({ cls := "ThrusterSelector$Selection", name := "pulseOf", desc := "(II)I" } : Jvm.MethodName) ({ cls := "ThrusterSelector$Selection", name := "pulseOf", desc := "(II)I" } : Jvm.MethodName)) ∈ tb := tb_mem 424 (by decide +kernel) (by decide +kernel)
theorem kw380 : (Jvm.Cond.code ({ cls := "ThrusterSelector$Selection", name := "pulseOf", desc := "(II)I" } : Jvm.MethodName) prog_3_method_10_code (6 : Nat) (Option.some Jvm.ClassFile.FieldType.int)) ∈ tb := tb_mem 425 (by decide +kernel) (by decide +kernel)
theorem kw381 : (Jvm.Cond.constantLong "ThrusterSelector$Selection" (101 : Nat) (2 : Int64)) ∈ tb := tb_mem 426 (by decide +kernel) (by decide +kernel)
theorem kw382 : (Jvm.Cond.methodLink "ThrusterSelectorLaw" (71 : Nat) ({ cls := "ThrusterSelector", name := "price", desc := "(III)I" } : Jvm.MethodName)) ∈ tb := tb_mem 427 (by decide +kernel) (by decide +kernel)
theorem kw383 : (Jvm.Cond.instanceMethod ({ cls := "ThrusterSelector", name := "price", desc := "(III)I" } : Jvm.MethodName)) ∈ tb := tb_mem 428 (by decide +kernel) (by decide +kernel)
theorem kw384 : (Jvm.Cond.selects "ThrusterSelector" ({ cls := "ThrusterSelector", name := "price", desc := "(III)I" } : Jvm.MethodName) ({ cls := "ThrusterSelector", name := "price", desc := "(III)I" } : Jvm.MethodName)) ∈ tb := tb_mem 429 (by decide +kernel) (by decide +kernel)
theorem kw385 : (Jvm.Cond.code ({ cls := "ThrusterSelector", name := "price", desc := "(III)I" } : Jvm.MethodName) prog_1_method_15_code (4 : Nat) (Option.some Jvm.ClassFile.FieldType.int)) ∈ tb := tb_mem 430 (by decide +kernel) (by decide +kernel)
theorem kw386 : (Jvm.Cond.methodLink "ThrusterSelector" (143 : Nat) ({ cls := "ThrusterSelector$Selection", name := "thousandths", desc := "()I" } : Jvm.MethodName)) ∈ tb := tb_mem 431 (by decide +kernel) (by decide +kernel)
theorem kw387 : (Jvm.Cond.instanceMethod ({ cls := "ThrusterSelector$Selection", name := "thousandths", desc := "()I" } : Jvm.MethodName)) ∈ tb := tb_mem 432 (by decide +kernel) (by decide +kernel)
theorem kw388 : (Jvm.Cond.selects "ThrusterSelector$Selection" ({ cls := "ThrusterSelector$Selection", name := "thousandths", desc := "()I" } : Jvm.MethodName) ({ cls := "ThrusterSelector$Selection", name := "thousandths", desc := "()I" } : Jvm.MethodName)) ∈ tb := tb_mem 433 (by decide +kernel) (by decide +kernel)
theorem kw389 : (Jvm.Cond.code ({ cls := "ThrusterSelector$Selection", name := "thousandths", desc := "()I" } : Jvm.MethodName) prog_3_method_11_code (1 : Nat) (Option.some Jvm.ClassFile.FieldType.int)) ∈ tb := tb_mem 434 (by decide +kernel) (by decide +kernel)
theorem kw390 : (Jvm.Cond.constantLong "ThrusterSelector$Selection" (103 : Nat) (1000 : Int64)) ∈ tb := tb_mem 435 (by decide +kernel) (by decide +kernel)
theorem kw391 : (Jvm.Cond.methodLink "ThrusterSelectorLaw" (75 : Nat) ({ cls := "ThrusterSelector", name := "request", desc := "(III)I" } : Jvm.MethodName)) ∈ tb := tb_mem 436 (by decide +kernel) (by decide +kernel)
theorem kw392 : (Jvm.Cond.instanceMethod ({ cls := "ThrusterSelector", name := "request", desc := "(III)I" } : Jvm.MethodName)) ∈ tb := tb_mem 437 (by decide +kernel) (by decide +kernel)
theorem kw393 : (Jvm.Cond.selects "ThrusterSelector" ({ cls := "ThrusterSelector", name := "request", desc := "(III)I" } : Jvm.MethodName) ({ cls := "ThrusterSelector", name := "request", desc := "(III)I" } : Jvm.MethodName)) ∈ tb := tb_mem 438 (by decide +kernel) (by decide +kernel)
theorem kw394 : (Jvm.Cond.code ({ cls := "ThrusterSelector", name := "request", desc := "(III)I" } : Jvm.MethodName) prog_1_method_16_code (4 : Nat) (Option.some Jvm.ClassFile.FieldType.int)) ∈ tb := tb_mem 439 (by decide +kernel) (by decide +kernel)
theorem kw395 : (Jvm.Cond.methodLink "ThrusterSelector" (146 : Nat) ({ cls := "ThrusterSelector", name := "putRequest", desc := "(IIIZ)I" } : Jvm.MethodName)) ∈ tb := tb_mem 440 (by decide +kernel) (by decide +kernel)
theorem kw397 : (Jvm.Cond.instanceMethod ({ cls := "ThrusterSelector", name := "putRequest", desc := "(IIIZ)I" } : Jvm.MethodName)) ∈ tb := tb_mem 442 (by decide +kernel) (by decide +kernel)
theorem kw398 : (Jvm.Cond.code ({ cls := "ThrusterSelector", name := "putRequest", desc := "(IIIZ)I" } : Jvm.MethodName) prog_1_method_42_code (5 : Nat) (Option.some Jvm.ClassFile.FieldType.int)) ∈ tb := tb_mem 443 (by decide +kernel) (by decide +kernel)
theorem kw399 : (Jvm.Cond.methodLink "ThrusterSelector" (218 : Nat) ({ cls := "ThrusterSelector$State", name := "insertRequest", desc := "(IIIZ)V" } : Jvm.MethodName)) ∈ tb := tb_mem 444 (by decide +kernel) (by decide +kernel)
theorem kw400 : (Jvm.Cond.instanceMethod ({ cls := "ThrusterSelector$State", name := "insertRequest", desc := "(IIIZ)V" } : Jvm.MethodName)) ∈ tb := tb_mem 445 (by decide +kernel) (by decide +kernel)
theorem kw401 : (Jvm.Cond.selects "ThrusterSelector$State" ({ cls := "ThrusterSelector$State", name := "insertRequest", desc := "(IIIZ)V" } : Jvm.MethodName) ({ cls := "ThrusterSelector$State", name := "insertRequest", desc := "(IIIZ)V" } : Jvm.MethodName)) ∈ tb := tb_mem 446 (by decide +kernel) (by decide +kernel)
theorem kw402 : (Jvm.Cond.code ({ cls := "ThrusterSelector$State", name := "insertRequest", desc := "(IIIZ)V" } : Jvm.MethodName) prog_4_method_17_code (7 : Nat) (Option.none : Option Jvm.ClassFile.FieldType)) ∈ tb := tb_mem 447 (by decide +kernel) (by decide +kernel)
theorem kw403 : (Jvm.Cond.methodLink "ThrusterSelectorLaw" (79 : Nat) ({ cls := "ThrusterSelector", name := "urge", desc := "(III)I" } : Jvm.MethodName)) ∈ tb := tb_mem 448 (by decide +kernel) (by decide +kernel)
theorem kw404 : (Jvm.Cond.instanceMethod ({ cls := "ThrusterSelector", name := "urge", desc := "(III)I" } : Jvm.MethodName)) ∈ tb := tb_mem 449 (by decide +kernel) (by decide +kernel)
theorem kw405 : (Jvm.Cond.selects "ThrusterSelector" ({ cls := "ThrusterSelector", name := "urge", desc := "(III)I" } : Jvm.MethodName) ({ cls := "ThrusterSelector", name := "urge", desc := "(III)I" } : Jvm.MethodName)) ∈ tb := tb_mem 450 (by decide +kernel) (by decide +kernel)
theorem kw406 : (Jvm.Cond.code ({ cls := "ThrusterSelector", name := "urge", desc := "(III)I" } : Jvm.MethodName) prog_1_method_17_code (4 : Nat) (Option.some Jvm.ClassFile.FieldType.int)) ∈ tb := tb_mem 451 (by decide +kernel) (by decide +kernel)
theorem kw407 : (Jvm.Cond.methodLink "ThrusterSelectorLaw" (83 : Nat) ({ cls := "ThrusterSelector", name := "cancel", desc := "(I)I" } : Jvm.MethodName)) ∈ tb := tb_mem 452 (by decide +kernel) (by decide +kernel)
theorem kw408 : (Jvm.Cond.instanceMethod ({ cls := "ThrusterSelector", name := "cancel", desc := "(I)I" } : Jvm.MethodName)) ∈ tb := tb_mem 453 (by decide +kernel) (by decide +kernel)
theorem kw409 : (Jvm.Cond.selects "ThrusterSelector" ({ cls := "ThrusterSelector", name := "cancel", desc := "(I)I" } : Jvm.MethodName) ({ cls := "ThrusterSelector", name := "cancel", desc := "(I)I" } : Jvm.MethodName)) ∈ tb := tb_mem 454 (by decide +kernel) (by decide +kernel)
theorem kw410 : (Jvm.Cond.code ({ cls := "ThrusterSelector", name := "cancel", desc := "(I)I" } : Jvm.MethodName) prog_1_method_18_code (2 : Nat) (Option.some Jvm.ClassFile.FieldType.int)) ∈ tb := tb_mem 455 (by decide +kernel) (by decide +kernel)
theorem kw411 : (Jvm.Cond.methodLink "ThrusterSelector" (150 : Nat) ({ cls := "ThrusterSelector", name := "isPlace", desc := "(I)Z" } : Jvm.MethodName)) ∈ tb := tb_mem 456 (by decide +kernel) (by decide +kernel)
theorem kw413 : (Jvm.Cond.instanceMethod ({ cls := "ThrusterSelector", name := "isPlace", desc := "(I)Z" } : Jvm.MethodName)) ∈ tb := tb_mem 458 (by decide +kernel) (by decide +kernel)
theorem kw414 : (Jvm.Cond.code ({ cls := "ThrusterSelector", name := "isPlace", desc := "(I)Z" } : Jvm.MethodName) prog_1_method_41_code (2 : Nat) (Option.some Jvm.ClassFile.FieldType.boolean)) ∈ tb := tb_mem 459 (by decide +kernel) (by decide +kernel)
theorem kw415 : (Jvm.Cond.methodLink "ThrusterSelector" (153 : Nat) ({ cls := "ThrusterSelector$State", name := "removeRequest", desc := "(I)V" } : Jvm.MethodName)) ∈ tb := tb_mem 460 (by decide +kernel) (by decide +kernel)
theorem kw416 : (Jvm.Cond.instanceMethod ({ cls := "ThrusterSelector$State", name := "removeRequest", desc := "(I)V" } : Jvm.MethodName)) ∈ tb := tb_mem 461 (by decide +kernel) (by decide +kernel)
theorem kw417 : (Jvm.Cond.selects "ThrusterSelector$State" ({ cls := "ThrusterSelector$State", name := "removeRequest", desc := "(I)V" } : Jvm.MethodName) ({ cls := "ThrusterSelector$State", name := "removeRequest", desc := "(I)V" } : Jvm.MethodName)) ∈ tb := tb_mem 462 (by decide +kernel) (by decide +kernel)
theorem kw418 : (Jvm.Cond.code ({ cls := "ThrusterSelector$State", name := "removeRequest", desc := "(I)V" } : Jvm.MethodName) prog_4_method_18_code (3 : Nat) (Option.none : Option Jvm.ClassFile.FieldType)) ∈ tb := tb_mem 463 (by decide +kernel) (by decide +kernel)
theorem kw419 : (Jvm.Cond.methodLink "ThrusterSelectorLaw" (87 : Nat) ({ cls := "ThrusterSelector", name := "queued", desc := "()I" } : Jvm.MethodName)) ∈ tb := tb_mem 464 (by decide +kernel) (by decide +kernel)
theorem kw420 : (Jvm.Cond.instanceMethod ({ cls := "ThrusterSelector", name := "queued", desc := "()I" } : Jvm.MethodName)) ∈ tb := tb_mem 465 (by decide +kernel) (by decide +kernel)
theorem kw421 : (Jvm.Cond.selects "ThrusterSelector" ({ cls := "ThrusterSelector", name := "queued", desc := "()I" } : Jvm.MethodName) ({ cls := "ThrusterSelector", name := "queued", desc := "()I" } : Jvm.MethodName)) ∈ tb := tb_mem 466 (by decide +kernel) (by decide +kernel)
theorem kw422 : (Jvm.Cond.code ({ cls := "ThrusterSelector", name := "queued", desc := "()I" } : Jvm.MethodName) prog_1_method_19_code (1 : Nat) (Option.some Jvm.ClassFile.FieldType.int)) ∈ tb := tb_mem 467 (by decide +kernel) (by decide +kernel)
theorem kw423 : (Jvm.Cond.methodLink "ThrusterSelectorLaw" (91 : Nat) ({ cls := "ThrusterSelector", name := "requested", desc := "(II)I" } : Jvm.MethodName)) ∈ tb := tb_mem 468 (by decide +kernel) (by decide +kernel)
theorem kw424 : (Jvm.Cond.instanceMethod ({ cls := "ThrusterSelector", name := "requested", desc := "(II)I" } : Jvm.MethodName)) ∈ tb := tb_mem 469 (by decide +kernel) (by decide +kernel)
theorem kw425 : (Jvm.Cond.selects "ThrusterSelector" ({ cls := "ThrusterSelector", name := "requested", desc := "(II)I" } : Jvm.MethodName) ({ cls := "ThrusterSelector", name := "requested", desc := "(II)I" } : Jvm.MethodName)) ∈ tb := tb_mem 470 (by decide +kernel) (by decide +kernel)
theorem kw426 : (Jvm.Cond.code ({ cls := "ThrusterSelector", name := "requested", desc := "(II)I" } : Jvm.MethodName) prog_1_method_20_code (3 : Nat) (Option.some Jvm.ClassFile.FieldType.int)) ∈ tb := tb_mem 471 (by decide +kernel) (by decide +kernel)
theorem kw427 : (Jvm.Cond.methodLink "ThrusterSelectorLaw" (95 : Nat) ({ cls := "ThrusterSelector", name := "cycle", desc := "()I" } : Jvm.MethodName)) ∈ tb := tb_mem 472 (by decide +kernel) (by decide +kernel)
theorem kw428 : (Jvm.Cond.instanceMethod ({ cls := "ThrusterSelector", name := "cycle", desc := "()I" } : Jvm.MethodName)) ∈ tb := tb_mem 473 (by decide +kernel) (by decide +kernel)
theorem kw429 : (Jvm.Cond.selects "ThrusterSelector" ({ cls := "ThrusterSelector", name := "cycle", desc := "()I" } : Jvm.MethodName) ({ cls := "ThrusterSelector", name := "cycle", desc := "()I" } : Jvm.MethodName)) ∈ tb := tb_mem 474 (by decide +kernel) (by decide +kernel)
theorem kw430 : (Jvm.Cond.code ({ cls := "ThrusterSelector", name := "cycle", desc := "()I" } : Jvm.MethodName) prog_1_method_21_code (1 : Nat) (Option.some Jvm.ClassFile.FieldType.int)) ∈ tb := tb_mem 475 (by decide +kernel) (by decide +kernel)
theorem kw431 : (Jvm.Cond.methodLink "ThrusterSelector" (163 : Nat) ({ cls := "ThrusterSelector", name := "runCycle", desc := "()I" } : Jvm.MethodName)) ∈ tb := tb_mem 476 (by decide +kernel) (by decide +kernel)
theorem kw433 : (Jvm.Cond.instanceMethod ({ cls := "ThrusterSelector", name := "runCycle", desc := "()I" } : Jvm.MethodName)) ∈ tb := tb_mem 478 (by decide +kernel) (by decide +kernel)
theorem kw434 : (Jvm.Cond.code ({ cls := "ThrusterSelector", name := "runCycle", desc := "()I" } : Jvm.MethodName) prog_1_method_43_code (3 : Nat) (Option.some Jvm.ClassFile.FieldType.int)) ∈ tb := tb_mem 479 (by decide +kernel) (by decide +kernel)
theorem kw435 : (Jvm.Cond.methodLink "ThrusterSelector" (230 : Nat) ({ cls := "ThrusterSelector$State", name := "takeTarget", desc := "(I)V" } : Jvm.MethodName)) ∈ tb := tb_mem 480 (by decide +kernel) (by decide +kernel)
theorem kw436 : (Jvm.Cond.instanceMethod ({ cls := "ThrusterSelector$State", name := "takeTarget", desc := "(I)V" } : Jvm.MethodName)) ∈ tb := tb_mem 481 (by decide +kernel) (by decide +kernel)
theorem kw437 : (Jvm.Cond.selects "ThrusterSelector$State" ({ cls := "ThrusterSelector$State", name := "takeTarget", desc := "(I)V" } : Jvm.MethodName) ({ cls := "ThrusterSelector$State", name := "takeTarget", desc := "(I)V" } : Jvm.MethodName)) ∈ tb := tb_mem 482 (by decide +kernel) (by decide +kernel)
theorem kw438 : (Jvm.Cond.code ({ cls := "ThrusterSelector$State", name := "takeTarget", desc := "(I)V" } : Jvm.MethodName) prog_4_method_19_code (5 : Nat) (Option.none : Option Jvm.ClassFile.FieldType)) ∈ tb := tb_mem 483 (by decide +kernel) (by decide +kernel)
theorem kw439 : (Jvm.Cond.methodLink "ThrusterSelector$State" (85 : Nat) ({ cls := "ThrusterSelector$State", name := "impulsePart", desc := "(II)I" } : Jvm.MethodName)) ∈ tb := tb_mem 484 (by decide +kernel) (by decide +kernel)
theorem kw440 : (Jvm.Cond.instanceMethod ({ cls := "ThrusterSelector$State", name := "impulsePart", desc := "(II)I" } : Jvm.MethodName)) ∈ tb := tb_mem 485 (by decide +kernel) (by decide +kernel)
theorem kw441 : (Jvm.Cond.selects "ThrusterSelector$State" ({ cls := "ThrusterSelector$State", name := "impulsePart", desc := "(II)I" } : Jvm.MethodName) ({ cls := "ThrusterSelector$State", name := "impulsePart", desc := "(II)I" } : Jvm.MethodName)) ∈ tb := tb_mem 486 (by decide +kernel) (by decide +kernel)
theorem kw442 : (Jvm.Cond.code ({ cls := "ThrusterSelector$State", name := "impulsePart", desc := "(II)I" } : Jvm.MethodName) prog_4_method_5_code (3 : Nat) (Option.some Jvm.ClassFile.FieldType.int)) ∈ tb := tb_mem 487 (by decide +kernel) (by decide +kernel)
theorem kw443 : (Jvm.Cond.methodLink "ThrusterSelector$State" (88 : Nat) ({ cls := "ThrusterSelector$State", name := "ranTicks", desc := "(II)I" } : Jvm.MethodName)) ∈ tb := tb_mem 488 (by decide +kernel) (by decide +kernel)
theorem kw444 : (Jvm.Cond.static ({ cls := "ThrusterSelector$State", name := "ranTicks", desc := "(II)I" } : Jvm.MethodName)) ∈ tb := tb_mem 489 (by decide +kernel) (by decide +kernel)
theorem kw445 : (Jvm.Cond.code ({ cls := "ThrusterSelector$State", name := "ranTicks", desc := "(II)I" } : Jvm.MethodName) prog_4_method_20_code (2 : Nat) (Option.some Jvm.ClassFile.FieldType.int)) ∈ tb := tb_mem 490 (by decide +kernel) (by decide +kernel)
theorem kw446 : (Jvm.Cond.methodLink "ThrusterSelector$State" (91 : Nat) ({ cls := "ThrusterSelector$State", name := "unitPart", desc := "(II)I" } : Jvm.MethodName)) ∈ tb := tb_mem 491 (by decide +kernel) (by decide +kernel)
theorem kw447 : (Jvm.Cond.methodLink "ThrusterSelector$State" (94 : Nat) ({ cls := "ThrusterSelector$State", name := "removeRequest", desc := "(I)V" } : Jvm.MethodName)) ∈ tb := tb_mem 492 (by decide +kernel) (by decide +kernel)
theorem kw448 : (Jvm.Cond.methodLink "ThrusterSelector" (172 : Nat) ({ cls := "ThrusterSelector$State", name := "impulsePart", desc := "(II)I" } : Jvm.MethodName)) ∈ tb := tb_mem 493 (by decide +kernel) (by decide +kernel)
theorem kw449 : (Jvm.Cond.methodLink "ThrusterSelector" (233 : Nat) ({ cls := "ThrusterSelector$State", name := "setPulses", desc := "(LThrusterSelector$Selection;)I" } : Jvm.MethodName)) ∈ tb := tb_mem 494 (by decide +kernel) (by decide +kernel)
theorem kw450 : (Jvm.Cond.instanceMethod ({ cls := "ThrusterSelector$State", name := "setPulses", desc := "(LThrusterSelector$Selection;)I" } : Jvm.MethodName)) ∈ tb := tb_mem 495 (by decide +kernel) (by decide +kernel)
theorem kw451 : (Jvm.Cond.selects "ThrusterSelector$State" ({ cls := "ThrusterSelector$State", name := "setPulses", desc := "(LThrusterSelector$Selection;)I" } : Jvm.MethodName) ({ cls := "ThrusterSelector$State", name := "setPulses", desc := "(LThrusterSelector$Selection;)I" } : Jvm.MethodName)) ∈ tb := tb_mem 496 (by decide +kernel) (by decide +kernel)
theorem kw452 : (Jvm.Cond.code ({ cls := "ThrusterSelector$State", name := "setPulses", desc := "(LThrusterSelector$Selection;)I" } : Jvm.MethodName) prog_4_method_21_code (4 : Nat) (Option.some Jvm.ClassFile.FieldType.int)) ∈ tb := tb_mem 497 (by decide +kernel) (by decide +kernel)
theorem kw453 : (Jvm.Cond.methodLink "ThrusterSelector$State" (98 : Nat) ({ cls := "ThrusterSelector$Selection", name := "pulseOf", desc := "(II)I" } : Jvm.MethodName)) ∈ tb := tb_mem 498 (by decide +kernel) (by decide +kernel)
theorem kw454 : (Jvm.Cond.methodLink "ThrusterSelector" (237 : Nat) ({ cls := "ThrusterSelector$State", name := "deliver", desc := "(I)V" } : Jvm.MethodName)) ∈ tb := tb_mem 499 (by decide +kernel) (by decide +kernel)
theorem kw455 : (Jvm.Cond.instanceMethod ({ cls := "ThrusterSelector$State", name := "deliver", desc := "(I)V" } : Jvm.MethodName)) ∈ tb := tb_mem 500 (by decide +kernel) (by decide +kernel)
theorem kw456 : (Jvm.Cond.selects "ThrusterSelector$State" ({ cls := "ThrusterSelector$State", name := "deliver", desc := "(I)V" } : Jvm.MethodName) ({ cls := "ThrusterSelector$State", name := "deliver", desc := "(I)V" } : Jvm.MethodName)) ∈ tb := tb_mem 501 (by decide +kernel) (by decide +kernel)
theorem kw457 : (Jvm.Cond.code ({ cls := "ThrusterSelector$State", name := "deliver", desc := "(I)V" } : Jvm.MethodName) prog_4_method_22_code (6 : Nat) (Option.none : Option Jvm.ClassFile.FieldType)) ∈ tb := tb_mem 502 (by decide +kernel) (by decide +kernel)
theorem kw458 : (Jvm.Cond.methodLink "ThrusterSelector$State" (103 : Nat) ({ cls := "java/lang/Math", name := "min", desc := "(II)I" } : Jvm.MethodName)) ∈ tb := tb_mem 503 (by decide +kernel) (by decide +kernel)
theorem kw459 : (Jvm.Cond.static ({ cls := "java/lang/Math", name := "min", desc := "(II)I" } : Jvm.MethodName)) ∈ tb := tb_mem 504 (by decide +kernel) (by decide +kernel)
theorem kw460 : (Jvm.Cond.code ({ cls := "java/lang/Math", name := "min", desc := "(II)I" } : Jvm.MethodName) prog_9_method_69_code (2 : Nat) (Option.some Jvm.ClassFile.FieldType.int)) ∈ tb := tb_mem 505 (by decide +kernel) (by decide +kernel)
theorem kw461 : (Jvm.Cond.methodLink "ThrusterSelector$State" (108 : Nat) ({ cls := "java/lang/Math", name := "max", desc := "(II)I" } : Jvm.MethodName)) ∈ tb := tb_mem 506 (by decide +kernel) (by decide +kernel)
theorem kw462 : (Jvm.Cond.static ({ cls := "java/lang/Math", name := "max", desc := "(II)I" } : Jvm.MethodName)) ∈ tb := tb_mem 507 (by decide +kernel) (by decide +kernel)
theorem kw463 : (Jvm.Cond.code ({ cls := "java/lang/Math", name := "max", desc := "(II)I" } : Jvm.MethodName) prog_9_method_65_code (2 : Nat) (Option.some Jvm.ClassFile.FieldType.int)) ∈ tb := tb_mem 508 (by decide +kernel) (by decide +kernel)
theorem kw464 : (Jvm.Cond.methodLink "ThrusterSelector" (240 : Nat) ({ cls := "ThrusterSelector$State", name := "burn", desc := "(I)V" } : Jvm.MethodName)) ∈ tb := tb_mem 509 (by decide +kernel) (by decide +kernel)
theorem kw465 : (Jvm.Cond.instanceMethod ({ cls := "ThrusterSelector$State", name := "burn", desc := "(I)V" } : Jvm.MethodName)) ∈ tb := tb_mem 510 (by decide +kernel) (by decide +kernel)
theorem kw466 : (Jvm.Cond.selects "ThrusterSelector$State" ({ cls := "ThrusterSelector$State", name := "burn", desc := "(I)V" } : Jvm.MethodName) ({ cls := "ThrusterSelector$State", name := "burn", desc := "(I)V" } : Jvm.MethodName)) ∈ tb := tb_mem 511 (by decide +kernel) (by decide +kernel)
theorem kw467 : (Jvm.Cond.code ({ cls := "ThrusterSelector$State", name := "burn", desc := "(I)V" } : Jvm.MethodName) prog_4_method_23_code (4 : Nat) (Option.none : Option Jvm.ClassFile.FieldType)) ∈ tb := tb_mem 512 (by decide +kernel) (by decide +kernel)
theorem kw468 : (Jvm.Cond.methodLink "ThrusterSelectorLaw" (99 : Nat) ({ cls := "ThrusterSelector", name := "cycles", desc := "(I)I" } : Jvm.MethodName)) ∈ tb := tb_mem 513 (by decide +kernel) (by decide +kernel)
theorem kw469 : (Jvm.Cond.instanceMethod ({ cls := "ThrusterSelector", name := "cycles", desc := "(I)I" } : Jvm.MethodName)) ∈ tb := tb_mem 514 (by decide +kernel) (by decide +kernel)
theorem kw470 : (Jvm.Cond.selects "ThrusterSelector" ({ cls := "ThrusterSelector", name := "cycles", desc := "(I)I" } : Jvm.MethodName) ({ cls := "ThrusterSelector", name := "cycles", desc := "(I)I" } : Jvm.MethodName)) ∈ tb := tb_mem 515 (by decide +kernel) (by decide +kernel)
theorem kw471 : (Jvm.Cond.code ({ cls := "ThrusterSelector", name := "cycles", desc := "(I)I" } : Jvm.MethodName) prog_1_method_22_code (4 : Nat) (Option.some Jvm.ClassFile.FieldType.int)) ∈ tb := tb_mem 516 (by decide +kernel) (by decide +kernel)
theorem kw472 : (Jvm.Cond.methodLink "ThrusterSelectorLaw" (103 : Nat) ({ cls := "ThrusterSelector", name := "cycleCount", desc := "()I" } : Jvm.MethodName)) ∈ tb := tb_mem 517 (by decide +kernel) (by decide +kernel)
theorem kw473 : (Jvm.Cond.instanceMethod ({ cls := "ThrusterSelector", name := "cycleCount", desc := "()I" } : Jvm.MethodName)) ∈ tb := tb_mem 518 (by decide +kernel) (by decide +kernel)
theorem kw474 : (Jvm.Cond.selects "ThrusterSelector" ({ cls := "ThrusterSelector", name := "cycleCount", desc := "()I" } : Jvm.MethodName) ({ cls := "ThrusterSelector", name := "cycleCount", desc := "()I" } : Jvm.MethodName)) ∈ tb := tb_mem 519 (by decide +kernel) (by decide +kernel)
theorem kw475 : (Jvm.Cond.code ({ cls := "ThrusterSelector", name := "cycleCount", desc := "()I" } : Jvm.MethodName) prog_1_method_23_code (1 : Nat) (Option.some Jvm.ClassFile.FieldType.int)) ∈ tb := tb_mem 520 (by decide +kernel) (by decide +kernel)
theorem kw476 : (Jvm.Cond.methodLink "ThrusterSelectorLaw" (107 : Nat) ({ cls := "ThrusterSelector", name := "fired", desc := "(I)I" } : Jvm.MethodName)) ∈ tb := tb_mem 521 (by decide +kernel) (by decide +kernel)
theorem kw477 : (Jvm.Cond.instanceMethod ({ cls := "ThrusterSelector", name := "fired", desc := "(I)I" } : Jvm.MethodName)) ∈ tb := tb_mem 522 (by decide +kernel) (by decide +kernel)
theorem kw478 : (Jvm.Cond.selects "ThrusterSelector" ({ cls := "ThrusterSelector", name := "fired", desc := "(I)I" } : Jvm.MethodName) ({ cls := "ThrusterSelector", name := "fired", desc := "(I)I" } : Jvm.MethodName)) ∈ tb := tb_mem 523 (by decide +kernel) (by decide +kernel)
theorem kw479 : (Jvm.Cond.code ({ cls := "ThrusterSelector", name := "fired", desc := "(I)I" } : Jvm.MethodName) prog_1_method_24_code (2 : Nat) (Option.some Jvm.ClassFile.FieldType.int)) ∈ tb := tb_mem 524 (by decide +kernel) (by decide +kernel)
theorem kw480 : (Jvm.Cond.methodLink "ThrusterSelectorLaw" (111 : Nat) ({ cls := "ThrusterSelector", name := "impulse", desc := "(II)I" } : Jvm.MethodName)) ∈ tb := tb_mem 525 (by decide +kernel) (by decide +kernel)
theorem kw481 : (Jvm.Cond.instanceMethod ({ cls := "ThrusterSelector", name := "impulse", desc := "(II)I" } : Jvm.MethodName)) ∈ tb := tb_mem 526 (by decide +kernel) (by decide +kernel)
theorem kw482 : (Jvm.Cond.selects "ThrusterSelector" ({ cls := "ThrusterSelector", name := "impulse", desc := "(II)I" } : Jvm.MethodName) ({ cls := "ThrusterSelector", name := "impulse", desc := "(II)I" } : Jvm.MethodName)) ∈ tb := tb_mem 527 (by decide +kernel) (by decide +kernel)
theorem kw483 : (Jvm.Cond.code ({ cls := "ThrusterSelector", name := "impulse", desc := "(II)I" } : Jvm.MethodName) prog_1_method_25_code (3 : Nat) (Option.some Jvm.ClassFile.FieldType.int)) ∈ tb := tb_mem 528 (by decide +kernel) (by decide +kernel)
theorem kw484 : (Jvm.Cond.methodLink "ThrusterSelectorLaw" (115 : Nat) ({ cls := "ThrusterSelector", name := "total", desc := "(I)J" } : Jvm.MethodName)) ∈ tb := tb_mem 529 (by decide +kernel) (by decide +kernel)
theorem kw485 : (Jvm.Cond.instanceMethod ({ cls := "ThrusterSelector", name := "total", desc := "(I)J" } : Jvm.MethodName)) ∈ tb := tb_mem 530 (by decide +kernel) (by decide +kernel)
theorem kw486 : (Jvm.Cond.selects "ThrusterSelector" ({ cls := "ThrusterSelector", name := "total", desc := "(I)J" } : Jvm.MethodName) ({ cls := "ThrusterSelector", name := "total", desc := "(I)J" } : Jvm.MethodName)) ∈ tb := tb_mem 531 (by decide +kernel) (by decide +kernel)
theorem kw487 : (Jvm.Cond.code ({ cls := "ThrusterSelector", name := "total", desc := "(I)J" } : Jvm.MethodName) prog_1_method_26_code (2 : Nat) (Option.some Jvm.ClassFile.FieldType.long)) ∈ tb := tb_mem 532 (by decide +kernel) (by decide +kernel)
theorem kw488 : (Jvm.Cond.constantLong "ThrusterSelector" (179 : Nat) (-2000000001 : Int64)) ∈ tb := tb_mem 533 (by decide +kernel) (by decide +kernel)
theorem kw489 : (Jvm.Cond.methodLink "ThrusterSelectorLaw" (120 : Nat) ({ cls := "ThrusterSelector", name := "suspect", desc := "(III)I" } : Jvm.MethodName)) ∈ tb := tb_mem 534 (by decide +kernel) (by decide +kernel)
theorem kw490 : (Jvm.Cond.instanceMethod ({ cls := "ThrusterSelector", name := "suspect", desc := "(III)I" } : Jvm.MethodName)) ∈ tb := tb_mem 535 (by decide +kernel) (by decide +kernel)
theorem kw491 : (Jvm.Cond.selects "ThrusterSelector" ({ cls := "ThrusterSelector", name := "suspect", desc := "(III)I" } : Jvm.MethodName) ({ cls := "ThrusterSelector", name := "suspect", desc := "(III)I" } : Jvm.MethodName)) ∈ tb := tb_mem 536 (by decide +kernel) (by decide +kernel)
theorem kw492 : (Jvm.Cond.code ({ cls := "ThrusterSelector", name := "suspect", desc := "(III)I" } : Jvm.MethodName) prog_1_method_27_code (9 : Nat) (Option.some Jvm.ClassFile.FieldType.int)) ∈ tb := tb_mem 537 (by decide +kernel) (by decide +kernel)
theorem kw493 : (Jvm.Cond.constant "ThrusterSelector" (181 : Nat) (1000000 : Int32)) ∈ tb := tb_mem 538 (by decide +kernel) (by decide +kernel)
theorem kw494 : (Jvm.Cond.methodLink "ThrusterSelector" (186 : Nat) ({ cls := "ThrusterSelector$State", name := "firstSilent", desc := "(III)I" } : Jvm.MethodName)) ∈ tb := tb_mem 539 (by decide +kernel) (by decide +kernel)
theorem kw495 : (Jvm.Cond.instanceMethod ({ cls := "ThrusterSelector$State", name := "firstSilent", desc := "(III)I" } : Jvm.MethodName)) ∈ tb := tb_mem 540 (by decide +kernel) (by decide +kernel)
theorem kw496 : (Jvm.Cond.selects "ThrusterSelector$State" ({ cls := "ThrusterSelector$State", name := "firstSilent", desc := "(III)I" } : Jvm.MethodName) ({ cls := "ThrusterSelector$State", name := "firstSilent", desc := "(III)I" } : Jvm.MethodName)) ∈ tb := tb_mem 541 (by decide +kernel) (by decide +kernel)
theorem kw497 : (Jvm.Cond.code ({ cls := "ThrusterSelector$State", name := "firstSilent", desc := "(III)I" } : Jvm.MethodName) prog_4_method_26_code (5 : Nat) (Option.some Jvm.ClassFile.FieldType.int)) ∈ tb := tb_mem 542 (by decide +kernel) (by decide +kernel)
theorem kw498 : (Jvm.Cond.methodLink "ThrusterSelector$State" (111 : Nat) ({ cls := "ThrusterSelector$State", name := "wasSound", desc := "(I)Z" } : Jvm.MethodName)) ∈ tb := tb_mem 543 (by decide +kernel) (by decide +kernel)
theorem kw500 : (Jvm.Cond.instanceMethod ({ cls := "ThrusterSelector$State", name := "wasSound", desc := "(I)Z" } : Jvm.MethodName)) ∈ tb := tb_mem 545 (by decide +kernel) (by decide +kernel)
theorem kw501 : (Jvm.Cond.code ({ cls := "ThrusterSelector$State", name := "wasSound", desc := "(I)Z" } : Jvm.MethodName) prog_4_method_24_code (2 : Nat) (Option.some Jvm.ClassFile.FieldType.boolean)) ∈ tb := tb_mem 546 (by decide +kernel) (by decide +kernel)
theorem kw502 : (Jvm.Cond.methodLink "ThrusterSelector$State" (114 : Nat) ({ cls := "ThrusterSelector$State", name := "isImpulse", desc := "(IIIII)Z" } : Jvm.MethodName)) ∈ tb := tb_mem 547 (by decide +kernel) (by decide +kernel)
theorem kw504 : (Jvm.Cond.instanceMethod ({ cls := "ThrusterSelector$State", name := "isImpulse", desc := "(IIIII)Z" } : Jvm.MethodName)) ∈ tb := tb_mem 549 (by decide +kernel) (by decide +kernel)
theorem kw505 : (Jvm.Cond.code ({ cls := "ThrusterSelector$State", name := "isImpulse", desc := "(IIIII)Z" } : Jvm.MethodName) prog_4_method_25_code (6 : Nat) (Option.some Jvm.ClassFile.FieldType.boolean)) ∈ tb := tb_mem 550 (by decide +kernel) (by decide +kernel)
theorem kw506 : (Jvm.Cond.methodLink "ThrusterSelector" (190 : Nat) ({ cls := "ThrusterSelector$State", name := "firstSteady", desc := "(III)I" } : Jvm.MethodName)) ∈ tb := tb_mem 551 (by decide +kernel) (by decide +kernel)
theorem kw507 : (Jvm.Cond.instanceMethod ({ cls := "ThrusterSelector$State", name := "firstSteady", desc := "(III)I" } : Jvm.MethodName)) ∈ tb := tb_mem 552 (by decide +kernel) (by decide +kernel)
theorem kw508 : (Jvm.Cond.selects "ThrusterSelector$State" ({ cls := "ThrusterSelector$State", name := "firstSteady", desc := "(III)I" } : Jvm.MethodName) ({ cls := "ThrusterSelector$State", name := "firstSteady", desc := "(III)I" } : Jvm.MethodName)) ∈ tb := tb_mem 553 (by decide +kernel) (by decide +kernel)
theorem kw509 : (Jvm.Cond.code ({ cls := "ThrusterSelector$State", name := "firstSteady", desc := "(III)I" } : Jvm.MethodName) prog_4_method_27_code (5 : Nat) (Option.some Jvm.ClassFile.FieldType.int)) ∈ tb := tb_mem 554 (by decide +kernel) (by decide +kernel)
theorem kw510 : (Jvm.Cond.methodLink "ThrusterSelectorLaw" (124 : Nat) ({ cls := "ThrusterSelector", name := "undo", desc := "()I" } : Jvm.MethodName)) ∈ tb := tb_mem 555 (by decide +kernel) (by decide +kernel)
theorem kw511 : (Jvm.Cond.instanceMethod ({ cls := "ThrusterSelector", name := "undo", desc := "()I" } : Jvm.MethodName)) ∈ tb := tb_mem 556 (by decide +kernel) (by decide +kernel)
theorem kw512 : (Jvm.Cond.selects "ThrusterSelector" ({ cls := "ThrusterSelector", name := "undo", desc := "()I" } : Jvm.MethodName) ({ cls := "ThrusterSelector", name := "undo", desc := "()I" } : Jvm.MethodName)) ∈ tb := tb_mem 557 (by decide +kernel) (by decide +kernel)
theorem kw513 : (Jvm.Cond.code ({ cls := "ThrusterSelector", name := "undo", desc := "()I" } : Jvm.MethodName) prog_1_method_28_code (1 : Nat) (Option.some Jvm.ClassFile.FieldType.int)) ∈ tb := tb_mem 558 (by decide +kernel) (by decide +kernel)
theorem kw514 : (Jvm.Cond.methodLink "ThrusterSelector" (196 : Nat) ({ cls := "ThrusterSelector$History", name := "restore", desc := "(LThrusterSelector$State;)V" } : Jvm.MethodName)) ∈ tb := tb_mem 559 (by decide +kernel) (by decide +kernel)
theorem kw515 : (Jvm.Cond.instanceMethod ({ cls := "ThrusterSelector$History", name := "restore", desc := "(LThrusterSelector$State;)V" } : Jvm.MethodName)) ∈ tb := tb_mem 560 (by decide +kernel) (by decide +kernel)
theorem kw516 : (Jvm.Cond.selects "ThrusterSelector$History" ({ cls := "ThrusterSelector$History", name := "restore", desc := "(LThrusterSelector$State;)V" } : Jvm.MethodName) ({ cls := "ThrusterSelector$History", name := "restore", desc := "(LThrusterSelector$State;)V" } : Jvm.MethodName)) ∈ tb := tb_mem 561 (by decide +kernel) (by decide +kernel)
theorem kw517 : (Jvm.Cond.code ({ cls := "ThrusterSelector$History", name := "restore", desc := "(LThrusterSelector$State;)V" } : Jvm.MethodName) prog_2_method_3_code (2 : Nat) (Option.none : Option Jvm.ClassFile.FieldType)) ∈ tb := tb_mem 562 (by decide +kernel) (by decide +kernel)
theorem kw518 : (Jvm.Cond.methodLink "ThrusterSelectorLaw" (128 : Nat) ({ cls := "ThrusterSelector", name := "type", desc := "(I)I" } : Jvm.MethodName)) ∈ tb := tb_mem 563 (by decide +kernel) (by decide +kernel)
theorem kw519 : (Jvm.Cond.instanceMethod ({ cls := "ThrusterSelector", name := "type", desc := "(I)I" } : Jvm.MethodName)) ∈ tb := tb_mem 564 (by decide +kernel) (by decide +kernel)
theorem kw520 : (Jvm.Cond.selects "ThrusterSelector" ({ cls := "ThrusterSelector", name := "type", desc := "(I)I" } : Jvm.MethodName) ({ cls := "ThrusterSelector", name := "type", desc := "(I)I" } : Jvm.MethodName)) ∈ tb := tb_mem 565 (by decide +kernel) (by decide +kernel)
theorem kw521 : (Jvm.Cond.code ({ cls := "ThrusterSelector", name := "type", desc := "(I)I" } : Jvm.MethodName) prog_1_method_29_code (2 : Nat) (Option.some Jvm.ClassFile.FieldType.int)) ∈ tb := tb_mem 566 (by decide +kernel) (by decide +kernel)
theorem kw522 : (Jvm.Cond.methodLink "ThrusterSelector" (199 : Nat) ({ cls := "ThrusterSelector$Text", name := "append", desc := "(I)Z" } : Jvm.MethodName)) ∈ tb := tb_mem 567 (by decide +kernel) (by decide +kernel)
theorem kw523 : (Jvm.Cond.instanceMethod ({ cls := "ThrusterSelector$Text", name := "append", desc := "(I)Z" } : Jvm.MethodName)) ∈ tb := tb_mem 568 (by decide +kernel) (by decide +kernel)
theorem kw524 : (Jvm.Cond.selects "ThrusterSelector$Text" ({ cls := "ThrusterSelector$Text", name := "append", desc := "(I)Z" } : Jvm.MethodName) ({ cls := "ThrusterSelector$Text", name := "append", desc := "(I)Z" } : Jvm.MethodName)) ∈ tb := tb_mem 569 (by decide +kernel) (by decide +kernel)
theorem kw525 : (Jvm.Cond.code ({ cls := "ThrusterSelector$Text", name := "append", desc := "(I)Z" } : Jvm.MethodName) prog_5_method_2_code (2 : Nat) (Option.some Jvm.ClassFile.FieldType.boolean)) ∈ tb := tb_mem 570 (by decide +kernel) (by decide +kernel)
theorem kw526 : (Jvm.Cond.methodLink "ThrusterSelectorLaw" (132 : Nat) ({ cls := "ThrusterSelector", name := "clearText", desc := "()I" } : Jvm.MethodName)) ∈ tb := tb_mem 571 (by decide +kernel) (by decide +kernel)
theorem kw527 : (Jvm.Cond.instanceMethod ({ cls := "ThrusterSelector", name := "clearText", desc := "()I" } : Jvm.MethodName)) ∈ tb := tb_mem 572 (by decide +kernel) (by decide +kernel)
theorem kw528 : (Jvm.Cond.selects "ThrusterSelector" ({ cls := "ThrusterSelector", name := "clearText", desc := "()I" } : Jvm.MethodName) ({ cls := "ThrusterSelector", name := "clearText", desc := "()I" } : Jvm.MethodName)) ∈ tb := tb_mem 573 (by decide +kernel) (by decide +kernel)
theorem kw529 : (Jvm.Cond.code ({ cls := "ThrusterSelector", name := "clearText", desc := "()I" } : Jvm.MethodName) prog_1_method_30_code (2 : Nat) (Option.some Jvm.ClassFile.FieldType.int)) ∈ tb := tb_mem 574 (by decide +kernel) (by decide +kernel)
theorem kw530 : (Jvm.Cond.methodLink "ThrusterSelectorLaw" (136 : Nat) ({ cls := "ThrusterSelector", name := "textFault", desc := "()I" } : Jvm.MethodName)) ∈ tb := tb_mem 575 (by decide +kernel) (by decide +kernel)
theorem kw531 : (Jvm.Cond.instanceMethod ({ cls := "ThrusterSelector", name := "textFault", desc := "()I" } : Jvm.MethodName)) ∈ tb := tb_mem 576 (by decide +kernel) (by decide +kernel)
theorem kw532 : (Jvm.Cond.selects "ThrusterSelector" ({ cls := "ThrusterSelector", name := "textFault", desc := "()I" } : Jvm.MethodName) ({ cls := "ThrusterSelector", name := "textFault", desc := "()I" } : Jvm.MethodName)) ∈ tb := tb_mem 577 (by decide +kernel) (by decide +kernel)
theorem kw533 : (Jvm.Cond.code ({ cls := "ThrusterSelector", name := "textFault", desc := "()I" } : Jvm.MethodName) prog_1_method_31_code (1 : Nat) (Option.some Jvm.ClassFile.FieldType.int)) ∈ tb := tb_mem 578 (by decide +kernel) (by decide +kernel)
theorem kw534 : (Jvm.Cond.methodLink "ThrusterSelector" (205 : Nat) ({ cls := "ThrusterSelector$Text", name := "read", desc := "(I)I" } : Jvm.MethodName)) ∈ tb := tb_mem 579 (by decide +kernel) (by decide +kernel)
theorem kw535 : (Jvm.Cond.instanceMethod ({ cls := "ThrusterSelector$Text", name := "read", desc := "(I)I" } : Jvm.MethodName)) ∈ tb := tb_mem 580 (by decide +kernel) (by decide +kernel)
theorem kw536 : (Jvm.Cond.selects "ThrusterSelector$Text" ({ cls := "ThrusterSelector$Text", name := "read", desc := "(I)I" } : Jvm.MethodName) ({ cls := "ThrusterSelector$Text", name := "read", desc := "(I)I" } : Jvm.MethodName)) ∈ tb := tb_mem 581 (by decide +kernel) (by decide +kernel)
theorem kw537 : (Jvm.Cond.code ({ cls := "ThrusterSelector$Text", name := "read", desc := "(I)I" } : Jvm.MethodName) prog_5_method_3_code (3 : Nat) (Option.some Jvm.ClassFile.FieldType.int)) ∈ tb := tb_mem 582 (by decide +kernel) (by decide +kernel)
theorem kw538 : (Jvm.Cond.methodLink "ThrusterSelector$Text" (36 : Nat) ({ cls := "java/lang/Math", name := "min", desc := "(II)I" } : Jvm.MethodName)) ∈ tb := tb_mem 583 (by decide +kernel) (by decide +kernel)
theorem kw539 : (Jvm.Cond.methodLink "ThrusterSelector$Text" (42 : Nat) ({ cls := "ThrusterSelector$Text", name := "readRequest", desc := "(I)V" } : Jvm.MethodName)) ∈ tb := tb_mem 584 (by decide +kernel) (by decide +kernel)
theorem kw541 : (Jvm.Cond.instanceMethod ({ cls := "ThrusterSelector$Text", name := "readRequest", desc := "(I)V" } : Jvm.MethodName)) ∈ tb := tb_mem 586 (by decide +kernel) (by decide +kernel)
theorem kw542 : (Jvm.Cond.code ({ cls := "ThrusterSelector$Text", name := "readRequest", desc := "(I)V" } : Jvm.MethodName) prog_5_method_4_code (4 : Nat) (Option.none : Option Jvm.ClassFile.FieldType)) ∈ tb := tb_mem 587 (by decide +kernel) (by decide +kernel)
theorem kw543 : (Jvm.Cond.methodLink "ThrusterSelector$Text" (46 : Nat) ({ cls := "ThrusterSelector$Text", name := "skipBlanks", desc := "()V" } : Jvm.MethodName)) ∈ tb := tb_mem 588 (by decide +kernel) (by decide +kernel)
theorem kw545 : (Jvm.Cond.instanceMethod ({ cls := "ThrusterSelector$Text", name := "skipBlanks", desc := "()V" } : Jvm.MethodName)) ∈ tb := tb_mem 590 (by decide +kernel) (by decide +kernel)
theorem kw546 : (Jvm.Cond.code ({ cls := "ThrusterSelector$Text", name := "skipBlanks", desc := "()V" } : Jvm.MethodName) prog_5_method_9_code (1 : Nat) (Option.none : Option Jvm.ClassFile.FieldType)) ∈ tb := tb_mem 591 (by decide +kernel) (by decide +kernel)
theorem kw547 : (Jvm.Cond.methodLink "ThrusterSelector$Text" (49 : Nat) ({ cls := "ThrusterSelector$Text", name := "accept", desc := "(C)Z" } : Jvm.MethodName)) ∈ tb := tb_mem 592 (by decide +kernel) (by decide +kernel)
theorem kw549 : (Jvm.Cond.instanceMethod ({ cls := "ThrusterSelector$Text", name := "accept", desc := "(C)Z" } : Jvm.MethodName)) ∈ tb := tb_mem 594 (by decide +kernel) (by decide +kernel)
theorem kw550 : (Jvm.Cond.code ({ cls := "ThrusterSelector$Text", name := "accept", desc := "(C)Z" } : Jvm.MethodName) prog_5_method_8_code (2 : Nat) (Option.some Jvm.ClassFile.FieldType.boolean)) ∈ tb := tb_mem 595 (by decide +kernel) (by decide +kernel)
theorem kw551 : (Jvm.Cond.methodLink "ThrusterSelector$Text" (53 : Nat) ({ cls := "ThrusterSelector$Text", name := "readSigned", desc := "()I" } : Jvm.MethodName)) ∈ tb := tb_mem 596 (by decide +kernel) (by decide +kernel)
theorem kw553 : (Jvm.Cond.instanceMethod ({ cls := "ThrusterSelector$Text", name := "readSigned", desc := "()I" } : Jvm.MethodName)) ∈ tb := tb_mem 598 (by decide +kernel) (by decide +kernel)
theorem kw554 : (Jvm.Cond.code ({ cls := "ThrusterSelector$Text", name := "readSigned", desc := "()I" } : Jvm.MethodName) prog_5_method_5_code (3 : Nat) (Option.some Jvm.ClassFile.FieldType.int)) ∈ tb := tb_mem 599 (by decide +kernel) (by decide +kernel)
theorem kw555 : (Jvm.Cond.methodLink "ThrusterSelector$Text" (57 : Nat) ({ cls := "ThrusterSelector$Text", name := "readNumber", desc := "()I" } : Jvm.MethodName)) ∈ tb := tb_mem 600 (by decide +kernel) (by decide +kernel)
theorem kw557 : (Jvm.Cond.instanceMethod ({ cls := "ThrusterSelector$Text", name := "readNumber", desc := "()I" } : Jvm.MethodName)) ∈ tb := tb_mem 602 (by decide +kernel) (by decide +kernel)
theorem kw558 : (Jvm.Cond.code ({ cls := "ThrusterSelector$Text", name := "readNumber", desc := "()I" } : Jvm.MethodName) prog_5_method_6_code (4 : Nat) (Option.some Jvm.ClassFile.FieldType.int)) ∈ tb := tb_mem 603 (by decide +kernel) (by decide +kernel)
theorem kw559 : (Jvm.Cond.methodLink "ThrusterSelector$Text" (60 : Nat) ({ cls := "ThrusterSelector$Text", name := "isDigit", desc := "(I)Z" } : Jvm.MethodName)) ∈ tb := tb_mem 604 (by decide +kernel) (by decide +kernel)
theorem kw560 : (Jvm.Cond.static ({ cls := "ThrusterSelector$Text", name := "isDigit", desc := "(I)Z" } : Jvm.MethodName)) ∈ tb := tb_mem 605 (by decide +kernel) (by decide +kernel)
theorem kw561 : (Jvm.Cond.code ({ cls := "ThrusterSelector$Text", name := "isDigit", desc := "(I)Z" } : Jvm.MethodName) prog_5_method_7_code (1 : Nat) (Option.some Jvm.ClassFile.FieldType.boolean)) ∈ tb := tb_mem 606 (by decide +kernel) (by decide +kernel)
theorem kw562 : (Jvm.Cond.methodLink "ThrusterSelectorLaw" (140 : Nat) ({ cls := "ThrusterSelector", name := "load", desc := "()I" } : Jvm.MethodName)) ∈ tb := tb_mem 607 (by decide +kernel) (by decide +kernel)
theorem kw563 : (Jvm.Cond.instanceMethod ({ cls := "ThrusterSelector", name := "load", desc := "()I" } : Jvm.MethodName)) ∈ tb := tb_mem 608 (by decide +kernel) (by decide +kernel)
theorem kw564 : (Jvm.Cond.selects "ThrusterSelector" ({ cls := "ThrusterSelector", name := "load", desc := "()I" } : Jvm.MethodName) ({ cls := "ThrusterSelector", name := "load", desc := "()I" } : Jvm.MethodName)) ∈ tb := tb_mem 609 (by decide +kernel) (by decide +kernel)
theorem kw565 : (Jvm.Cond.code ({ cls := "ThrusterSelector", name := "load", desc := "()I" } : Jvm.MethodName) prog_1_method_32_code (3 : Nat) (Option.some Jvm.ClassFile.FieldType.int)) ∈ tb := tb_mem 610 (by decide +kernel) (by decide +kernel)
theorem kw566 : (Jvm.Cond.methodLink "ThrusterSelectorLaw" (144 : Nat) ({ cls := "ThrusterSelector", name := "digest", desc := "()J" } : Jvm.MethodName)) ∈ tb := tb_mem 611 (by decide +kernel) (by decide +kernel)
theorem kw567 : (Jvm.Cond.instanceMethod ({ cls := "ThrusterSelector", name := "digest", desc := "()J" } : Jvm.MethodName)) ∈ tb := tb_mem 612 (by decide +kernel) (by decide +kernel)
theorem kw568 : (Jvm.Cond.selects "ThrusterSelector" ({ cls := "ThrusterSelector", name := "digest", desc := "()J" } : Jvm.MethodName) ({ cls := "ThrusterSelector", name := "digest", desc := "()J" } : Jvm.MethodName)) ∈ tb := tb_mem 613 (by decide +kernel) (by decide +kernel)
theorem kw569 : (Jvm.Cond.code ({ cls := "ThrusterSelector", name := "digest", desc := "()J" } : Jvm.MethodName) prog_1_method_33_code (5 : Nat) (Option.some Jvm.ClassFile.FieldType.long)) ∈ tb := tb_mem 614 (by decide +kernel) (by decide +kernel)
theorem kw570 : (Jvm.Cond.constantLong "ThrusterSelector" (222 : Nat) (527 : Int64)) ∈ tb := tb_mem 615 (by decide +kernel) (by decide +kernel)
theorem kw571 : (Jvm.Cond.constantLong "ThrusterSelector" (224 : Nat) (31 : Int64)) ∈ tb := tb_mem 616 (by decide +kernel) (by decide +kernel)
theorem kw572 : (Jvm.Cond.classLink "ThrusterSelectorLaw" (10 : Nat) "ThrusterSelectorModel") ∈ tb := tb_mem 617 (by decide +kernel) (by decide +kernel)
theorem kw573 : (Jvm.Cond.instantiable "ThrusterSelectorModel" (16 : Nat)) ∈ tb := tb_mem 618 (by decide +kernel) (by decide +kernel)
theorem kw574 : (Jvm.Cond.methodLink "ThrusterSelectorLaw" (12 : Nat) ({ cls := "ThrusterSelectorModel", name := "<init>", desc := "()V" } : Jvm.MethodName)) ∈ tb := tb_mem 619 (by decide +kernel) (by decide +kernel)
theorem kw575 : (Jvm.Cond.instanceMethod ({ cls := "ThrusterSelectorModel", name := "<init>", desc := "()V" } : Jvm.MethodName)) ∈ tb := tb_mem 620 (by decide +kernel) (by decide +kernel)
theorem kw576 : (Jvm.Cond.code ({ cls := "ThrusterSelectorModel", name := "<init>", desc := "()V" } : Jvm.MethodName) prog_7_method_1_code (1 : Nat) (Option.none : Option Jvm.ClassFile.FieldType)) ∈ tb := tb_mem 621 (by decide +kernel) (by decide +kernel)
theorem kw577 : (Jvm.Cond.methodLink "ThrusterSelectorModel" (1 : Nat) ({ cls := "java/lang/Object", name := "<init>", desc := "()V" } : Jvm.MethodName)) ∈ tb := tb_mem 622 (by decide +kernel) (by decide +kernel)
theorem kw578 : (Jvm.Cond.constant "ThrusterSelectorModel" (35 : Nat) (100000 : Int32)) ∈ tb := tb_mem 623 (by decide +kernel) (by decide +kernel)
theorem kw579 : (Jvm.Cond.fieldLink "ThrusterSelectorModel" (7 : Nat) "ThrusterSelectorModel" "row" "[I") ∈ tb := tb_mem 624 (by decide +kernel) (by decide +kernel)
theorem kw580 : (Jvm.Cond.fieldLink "ThrusterSelectorModel" (13 : Nat) "ThrusterSelectorModel" "total" "[J") ∈ tb := tb_mem 625 (by decide +kernel) (by decide +kernel)
theorem kw581 : (Jvm.Cond.fieldLink "ThrusterSelectorModel" (36 : Nat) "ThrusterSelectorModel" "saved" "I") ∈ tb := tb_mem 626 (by decide +kernel) (by decide +kernel)
theorem kw582 : (Jvm.Cond.fieldLink "ThrusterSelectorModel" (17 : Nat) "ThrusterSelectorModel" "table" "[J") ∈ tb := tb_mem 627 (by decide +kernel) (by decide +kernel)
theorem kw583 : (Jvm.Cond.fieldLink "ThrusterSelectorModel" (20 : Nat) "ThrusterSelectorModel" "goal" "[J") ∈ tb := tb_mem 628 (by decide +kernel) (by decide +kernel)
theorem kw584 : (Jvm.Cond.fieldLink "ThrusterSelectorModel" (23 : Nat) "ThrusterSelectorModel" "best" "[J") ∈ tb := tb_mem 629 (by decide +kernel) (by decide +kernel)
theorem kw585 : (Jvm.Cond.fieldLink "ThrusterSelectorModel" (114 : Nat) "ThrusterSelectorModel" "bestWhole" "J") ∈ tb := tb_mem 630 (by decide +kernel) (by decide +kernel)
theorem kw586 : (Jvm.Cond.fieldLink "ThrusterSelectorModel" (118 : Nat) "ThrusterSelectorModel" "bestPrice" "J") ∈ tb := tb_mem 631 (by decide +kernel) (by decide +kernel)
theorem kw587 : (Jvm.Cond.fieldLink "ThrusterSelectorModel" (111 : Nat) "ThrusterSelectorModel" "bestSet" "I") ∈ tb := tb_mem 632 (by decide +kernel) (by decide +kernel)
theorem kw588 : (Jvm.Cond.fieldLink "ThrusterSelectorModel" (26 : Nat) "ThrusterSelectorModel" "ticks" "[J") ∈ tb := tb_mem 633 (by decide +kernel) (by decide +kernel)
theorem kw589 : (Jvm.Cond.fieldLink "ThrusterSelectorModel" (29 : Nat) "ThrusterSelectorModel" "text" "[I") ∈ tb := tb_mem 634 (by decide +kernel) (by decide +kernel)
theorem kw590 : (Jvm.Cond.fieldLink "ThrusterSelectorModel" (183 : Nat) "ThrusterSelectorModel" "length" "I") ∈ tb := tb_mem 635 (by decide +kernel) (by decide +kernel)
theorem kw591 : (Jvm.Cond.fieldLink "ThrusterSelectorModel" (186 : Nat) "ThrusterSelectorModel" "at" "I") ∈ tb := tb_mem 636 (by decide +kernel) (by decide +kernel)
theorem kw592 : (Jvm.Cond.fieldLink "ThrusterSelectorModel" (32 : Nat) "ThrusterSelectorModel" "parts" "[I") ∈ tb := tb_mem 637 (by decide +kernel) (by decide +kernel)
theorem kw593 : (Jvm.Cond.fieldLink "ThrusterSelectorModel" (195 : Nat) "ThrusterSelectorModel" "asked" "I") ∈ tb := tb_mem 638 (by decide +kernel) (by decide +kernel)
theorem kw594 : (Jvm.Cond.fieldLink "ThrusterSelectorModel" (210 : Nat) "ThrusterSelectorModel" "h" "J") ∈ tb := tb_mem 639 (by decide +kernel) (by decide +kernel)
theorem kw628 : (Jvm.Cond.methodLink "ThrusterSelectorLaw" (17 : Nat) ({ cls := "ThrusterSelectorModel", name := "addThruster", desc := "(IIIIII)I" } : Jvm.MethodName)) ∈ tb := tb_mem 673 (by decide +kernel) (by decide +kernel)
theorem kw629 : (Jvm.Cond.instanceMethod ({ cls := "ThrusterSelectorModel", name := "addThruster", desc := "(IIIIII)I" } : Jvm.MethodName)) ∈ tb := tb_mem 674 (by decide +kernel) (by decide +kernel)
theorem kw630 : (Jvm.Cond.selects "ThrusterSelectorModel" ({ cls := "ThrusterSelectorModel", name := "addThruster", desc := "(IIIIII)I" } : Jvm.MethodName) ({ cls := "ThrusterSelectorModel", name := "addThruster", desc := "(IIIIII)I" } : Jvm.MethodName)) ∈ tb := tb_mem 675 (by decide +kernel) (by decide +kernel)
theorem kw631 : (Jvm.Cond.code ({ cls := "ThrusterSelectorModel", name := "addThruster", desc := "(IIIIII)I" } : Jvm.MethodName) prog_7_method_14_code (8 : Nat) (Option.some Jvm.ClassFile.FieldType.int)) ∈ tb := tb_mem 676 (by decide +kernel) (by decide +kernel)
theorem kw632 : (Jvm.Cond.methodLink "ThrusterSelectorModel" (60 : Nat) ({ cls := "ThrusterSelectorModel", name := "isTank", desc := "(I)Z" } : Jvm.MethodName)) ∈ tb := tb_mem 677 (by decide +kernel) (by decide +kernel)
theorem kw633 : (Jvm.Cond.static ({ cls := "ThrusterSelectorModel", name := "isTank", desc := "(I)Z" } : Jvm.MethodName)) ∈ tb := tb_mem 678 (by decide +kernel) (by decide +kernel)
theorem kw634 : (Jvm.Cond.code ({ cls := "ThrusterSelectorModel", name := "isTank", desc := "(I)Z" } : Jvm.MethodName) prog_7_method_6_code (1 : Nat) (Option.some Jvm.ClassFile.FieldType.boolean)) ∈ tb := tb_mem 679 (by decide +kernel) (by decide +kernel)
theorem kw635 : (Jvm.Cond.methodLink "ThrusterSelectorModel" (44 : Nat) ({ cls := "ThrusterSelectorModel", name := "in", desc := "(III)Z" } : Jvm.MethodName)) ∈ tb := tb_mem 680 (by decide +kernel) (by decide +kernel)
theorem kw636 : (Jvm.Cond.static ({ cls := "ThrusterSelectorModel", name := "in", desc := "(III)Z" } : Jvm.MethodName)) ∈ tb := tb_mem 681 (by decide +kernel) (by decide +kernel)
theorem kw637 : (Jvm.Cond.code ({ cls := "ThrusterSelectorModel", name := "in", desc := "(III)Z" } : Jvm.MethodName) prog_7_method_2_code (3 : Nat) (Option.some Jvm.ClassFile.FieldType.boolean)) ∈ tb := tb_mem 682 (by decide +kernel) (by decide +kernel)
theorem kw638 : (Jvm.Cond.constant "ThrusterSelectorModel" (63 : Nat) (-2000000001 : Int32)) ∈ tb := tb_mem 683 (by decide +kernel) (by decide +kernel)
theorem kw639 : (Jvm.Cond.constant "ThrusterSelectorModel" (64 : Nat) (-2000000002 : Int32)) ∈ tb := tb_mem 684 (by decide +kernel) (by decide +kernel)
theorem kw640 : (Jvm.Cond.constant "ThrusterSelectorModel" (65 : Nat) (-2000000004 : Int32)) ∈ tb := tb_mem 685 (by decide +kernel) (by decide +kernel)
theorem kw641 : (Jvm.Cond.methodLink "ThrusterSelectorModel" (66 : Nat) ({ cls := "ThrusterSelectorModel", name := "saves", desc := "()V" } : Jvm.MethodName)) ∈ tb := tb_mem 686 (by decide +kernel) (by decide +kernel)
theorem kw643 : (Jvm.Cond.instanceMethod ({ cls := "ThrusterSelectorModel", name := "saves", desc := "()V" } : Jvm.MethodName)) ∈ tb := tb_mem 688 (by decide +kernel) (by decide +kernel)
theorem kw644 : (Jvm.Cond.code ({ cls := "ThrusterSelectorModel", name := "saves", desc := "()V" } : Jvm.MethodName) prog_7_method_4_code (2 : Nat) (Option.none : Option Jvm.ClassFile.FieldType)) ∈ tb := tb_mem 689 (by decide +kernel) (by decide +kernel)
theorem kw645 : (Jvm.Cond.methodLink "ThrusterSelectorModel" (40 : Nat) ({ cls := "ThrusterSelectorModel", name := "copies", desc := "(II)V" } : Jvm.MethodName)) ∈ tb := tb_mem 690 (by decide +kernel) (by decide +kernel)
theorem kw647 : (Jvm.Cond.instanceMethod ({ cls := "ThrusterSelectorModel", name := "copies", desc := "(II)V" } : Jvm.MethodName)) ∈ tb := tb_mem 692 (by decide +kernel) (by decide +kernel)
theorem kw648 : (Jvm.Cond.code ({ cls := "ThrusterSelectorModel", name := "copies", desc := "(II)V" } : Jvm.MethodName) prog_7_method_3_code (4 : Nat) (Option.none : Option Jvm.ClassFile.FieldType)) ∈ tb := tb_mem 693 (by decide +kernel) (by decide +kernel)
theorem kw649 : (Jvm.Cond.methodLink "ThrusterSelectorLaw" (22 : Nat) ({ cls := "ThrusterSelectorModel", name := "setState", desc := "(II)I" } : Jvm.MethodName)) ∈ tb := tb_mem 694 (by decide +kernel) (by decide +kernel)
theorem kw650 : (Jvm.Cond.instanceMethod ({ cls := "ThrusterSelectorModel", name := "setState", desc := "(II)I" } : Jvm.MethodName)) ∈ tb := tb_mem 695 (by decide +kernel) (by decide +kernel)
theorem kw651 : (Jvm.Cond.selects "ThrusterSelectorModel" ({ cls := "ThrusterSelectorModel", name := "setState", desc := "(II)I" } : Jvm.MethodName) ({ cls := "ThrusterSelectorModel", name := "setState", desc := "(II)I" } : Jvm.MethodName)) ∈ tb := tb_mem 696 (by decide +kernel) (by decide +kernel)
theorem kw652 : (Jvm.Cond.code ({ cls := "ThrusterSelectorModel", name := "setState", desc := "(II)I" } : Jvm.MethodName) prog_7_method_15_code (4 : Nat) (Option.some Jvm.ClassFile.FieldType.int)) ∈ tb := tb_mem 697 (by decide +kernel) (by decide +kernel)
theorem kw653 : (Jvm.Cond.methodLink "ThrusterSelectorModel" (69 : Nat) ({ cls := "ThrusterSelectorModel", name := "isThruster", desc := "(I)Z" } : Jvm.MethodName)) ∈ tb := tb_mem 698 (by decide +kernel) (by decide +kernel)
theorem kw655 : (Jvm.Cond.instanceMethod ({ cls := "ThrusterSelectorModel", name := "isThruster", desc := "(I)Z" } : Jvm.MethodName)) ∈ tb := tb_mem 700 (by decide +kernel) (by decide +kernel)
theorem kw656 : (Jvm.Cond.code ({ cls := "ThrusterSelectorModel", name := "isThruster", desc := "(I)Z" } : Jvm.MethodName) prog_7_method_5_code (2 : Nat) (Option.some Jvm.ClassFile.FieldType.boolean)) ∈ tb := tb_mem 701 (by decide +kernel) (by decide +kernel)
theorem kw657 : (Jvm.Cond.methodLink "ThrusterSelectorModel" (48 : Nat) ({ cls := "ThrusterSelectorModel", name := "of", desc := "(II)I" } : Jvm.MethodName)) ∈ tb := tb_mem 702 (by decide +kernel) (by decide +kernel)
theorem kw659 : (Jvm.Cond.instanceMethod ({ cls := "ThrusterSelectorModel", name := "of", desc := "(II)I" } : Jvm.MethodName)) ∈ tb := tb_mem 704 (by decide +kernel) (by decide +kernel)
theorem kw660 : (Jvm.Cond.code ({ cls := "ThrusterSelectorModel", name := "of", desc := "(II)I" } : Jvm.MethodName) prog_7_method_8_code (3 : Nat) (Option.some Jvm.ClassFile.FieldType.int)) ∈ tb := tb_mem 705 (by decide +kernel) (by decide +kernel)
theorem kw661 : (Jvm.Cond.methodLink "ThrusterSelectorLaw" (27 : Nat) ({ cls := "ThrusterSelectorModel", name := "thrusters", desc := "()I" } : Jvm.MethodName)) ∈ tb := tb_mem 706 (by decide +kernel) (by decide +kernel)
theorem kw662 : (Jvm.Cond.instanceMethod ({ cls := "ThrusterSelectorModel", name := "thrusters", desc := "()I" } : Jvm.MethodName)) ∈ tb := tb_mem 707 (by decide +kernel) (by decide +kernel)
theorem kw663 : (Jvm.Cond.selects "ThrusterSelectorModel" ({ cls := "ThrusterSelectorModel", name := "thrusters", desc := "()I" } : Jvm.MethodName) ({ cls := "ThrusterSelectorModel", name := "thrusters", desc := "()I" } : Jvm.MethodName)) ∈ tb := tb_mem 708 (by decide +kernel) (by decide +kernel)
theorem kw664 : (Jvm.Cond.code ({ cls := "ThrusterSelectorModel", name := "thrusters", desc := "()I" } : Jvm.MethodName) prog_7_method_16_code (1 : Nat) (Option.some Jvm.ClassFile.FieldType.int)) ∈ tb := tb_mem 709 (by decide +kernel) (by decide +kernel)
theorem kw665 : (Jvm.Cond.methodLink "ThrusterSelectorLaw" (31 : Nat) ({ cls := "ThrusterSelectorModel", name := "thruster", desc := "(II)I" } : Jvm.MethodName)) ∈ tb := tb_mem 710 (by decide +kernel) (by decide +kernel)
theorem kw666 : (Jvm.Cond.instanceMethod ({ cls := "ThrusterSelectorModel", name := "thruster", desc := "(II)I" } : Jvm.MethodName)) ∈ tb := tb_mem 711 (by decide +kernel) (by decide +kernel)
theorem kw667 : (Jvm.Cond.selects "ThrusterSelectorModel" ({ cls := "ThrusterSelectorModel", name := "thruster", desc := "(II)I" } : Jvm.MethodName) ({ cls := "ThrusterSelectorModel", name := "thruster", desc := "(II)I" } : Jvm.MethodName)) ∈ tb := tb_mem 712 (by decide +kernel) (by decide +kernel)
theorem kw668 : (Jvm.Cond.code ({ cls := "ThrusterSelectorModel", name := "thruster", desc := "(II)I" } : Jvm.MethodName) prog_7_method_17_code (4 : Nat) (Option.some Jvm.ClassFile.FieldType.int)) ∈ tb := tb_mem 713 (by decide +kernel) (by decide +kernel)
theorem kw669 : (Jvm.Cond.methodLink "ThrusterSelectorModel" (72 : Nat) ({ cls := "ThrusterSelectorModel", name := "isUsable", desc := "(I)Z" } : Jvm.MethodName)) ∈ tb := tb_mem 714 (by decide +kernel) (by decide +kernel)
theorem kw671 : (Jvm.Cond.instanceMethod ({ cls := "ThrusterSelectorModel", name := "isUsable", desc := "(I)Z" } : Jvm.MethodName)) ∈ tb := tb_mem 716 (by decide +kernel) (by decide +kernel)
theorem kw672 : (Jvm.Cond.code ({ cls := "ThrusterSelectorModel", name := "isUsable", desc := "(I)Z" } : Jvm.MethodName) prog_7_method_10_code (2 : Nat) (Option.some Jvm.ClassFile.FieldType.boolean)) ∈ tb := tb_mem 717 (by decide +kernel) (by decide +kernel)
theorem kw673 : (Jvm.Cond.methodLink "ThrusterSelectorModel" (52 : Nat) ({ cls := "ThrusterSelectorModel", name := "fuelOf", desc := "(I)I" } : Jvm.MethodName)) ∈ tb := tb_mem 718 (by decide +kernel) (by decide +kernel)
theorem kw675 : (Jvm.Cond.instanceMethod ({ cls := "ThrusterSelectorModel", name := "fuelOf", desc := "(I)I" } : Jvm.MethodName)) ∈ tb := tb_mem 720 (by decide +kernel) (by decide +kernel)
theorem kw676 : (Jvm.Cond.code ({ cls := "ThrusterSelectorModel", name := "fuelOf", desc := "(I)I" } : Jvm.MethodName) prog_7_method_9_code (2 : Nat) (Option.some Jvm.ClassFile.FieldType.int)) ∈ tb := tb_mem 721 (by decide +kernel) (by decide +kernel)
theorem kw677 : (Jvm.Cond.methodLink "ThrusterSelectorModel" (56 : Nat) ({ cls := "ThrusterSelectorModel", name := "isRunning", desc := "(I)Z" } : Jvm.MethodName)) ∈ tb := tb_mem 722 (by decide +kernel) (by decide +kernel)
theorem kw679 : (Jvm.Cond.instanceMethod ({ cls := "ThrusterSelectorModel", name := "isRunning", desc := "(I)Z" } : Jvm.MethodName)) ∈ tb := tb_mem 724 (by decide +kernel) (by decide +kernel)
theorem kw680 : (Jvm.Cond.code ({ cls := "ThrusterSelectorModel", name := "isRunning", desc := "(I)Z" } : Jvm.MethodName) prog_7_method_11_code (2 : Nat) (Option.some Jvm.ClassFile.FieldType.boolean)) ∈ tb := tb_mem 725 (by decide +kernel) (by decide +kernel)
theorem kw681 : (Jvm.Cond.methodLink "ThrusterSelectorLaw" (35 : Nat) ({ cls := "ThrusterSelectorModel", name := "unit", desc := "(II)I" } : Jvm.MethodName)) ∈ tb := tb_mem 726 (by decide +kernel) (by decide +kernel)
theorem kw682 : (Jvm.Cond.instanceMethod ({ cls := "ThrusterSelectorModel", name := "unit", desc := "(II)I" } : Jvm.MethodName)) ∈ tb := tb_mem 727 (by decide +kernel) (by decide +kernel)
theorem kw683 : (Jvm.Cond.selects "ThrusterSelectorModel" ({ cls := "ThrusterSelectorModel", name := "unit", desc := "(II)I" } : Jvm.MethodName) ({ cls := "ThrusterSelectorModel", name := "unit", desc := "(II)I" } : Jvm.MethodName)) ∈ tb := tb_mem 728 (by decide +kernel) (by decide +kernel)
theorem kw684 : (Jvm.Cond.code ({ cls := "ThrusterSelectorModel", name := "unit", desc := "(II)I" } : Jvm.MethodName) prog_7_method_18_code (3 : Nat) (Option.some Jvm.ClassFile.FieldType.int)) ∈ tb := tb_mem 729 (by decide +kernel) (by decide +kernel)
theorem kw685 : (Jvm.Cond.methodLink "ThrusterSelectorModel" (75 : Nat) ({ cls := "ThrusterSelectorModel", name := "isPart", desc := "(I)Z" } : Jvm.MethodName)) ∈ tb := tb_mem 730 (by decide +kernel) (by decide +kernel)
theorem kw686 : (Jvm.Cond.static ({ cls := "ThrusterSelectorModel", name := "isPart", desc := "(I)Z" } : Jvm.MethodName)) ∈ tb := tb_mem 731 (by decide +kernel) (by decide +kernel)
theorem kw687 : (Jvm.Cond.code ({ cls := "ThrusterSelectorModel", name := "isPart", desc := "(I)Z" } : Jvm.MethodName) prog_7_method_7_code (1 : Nat) (Option.some Jvm.ClassFile.FieldType.boolean)) ∈ tb := tb_mem 732 (by decide +kernel) (by decide +kernel)
theorem kw688 : (Jvm.Cond.methodLink "ThrusterSelectorModel" (78 : Nat) ({ cls := "ThrusterSelectorModel", name := "unitOf", desc := "(II)I" } : Jvm.MethodName)) ∈ tb := tb_mem 733 (by decide +kernel) (by decide +kernel)
theorem kw690 : (Jvm.Cond.instanceMethod ({ cls := "ThrusterSelectorModel", name := "unitOf", desc := "(II)I" } : Jvm.MethodName)) ∈ tb := tb_mem 735 (by decide +kernel) (by decide +kernel)
theorem kw691 : (Jvm.Cond.code ({ cls := "ThrusterSelectorModel", name := "unitOf", desc := "(II)I" } : Jvm.MethodName) prog_7_method_12_code (6 : Nat) (Option.some Jvm.ClassFile.FieldType.int)) ∈ tb := tb_mem 736 (by decide +kernel) (by decide +kernel)
theorem kw692 : (Jvm.Cond.methodLink "ThrusterSelectorLaw" (40 : Nat) ({ cls := "ThrusterSelectorModel", name := "determinant", desc := "(III)I" } : Jvm.MethodName)) ∈ tb := tb_mem 737 (by decide +kernel) (by decide +kernel)
theorem kw693 : (Jvm.Cond.instanceMethod ({ cls := "ThrusterSelectorModel", name := "determinant", desc := "(III)I" } : Jvm.MethodName)) ∈ tb := tb_mem 738 (by decide +kernel) (by decide +kernel)
theorem kw694 : (Jvm.Cond.selects "ThrusterSelectorModel" ({ cls := "ThrusterSelectorModel", name := "determinant", desc := "(III)I" } : Jvm.MethodName) ({ cls := "ThrusterSelectorModel", name := "determinant", desc := "(III)I" } : Jvm.MethodName)) ∈ tb := tb_mem 739 (by decide +kernel) (by decide +kernel)
theorem kw695 : (Jvm.Cond.code ({ cls := "ThrusterSelectorModel", name := "determinant", desc := "(III)I" } : Jvm.MethodName) prog_7_method_21_code (4 : Nat) (Option.some Jvm.ClassFile.FieldType.int)) ∈ tb := tb_mem 740 (by decide +kernel) (by decide +kernel)
theorem kw696 : (Jvm.Cond.methodLink "ThrusterSelectorModel" (81 : Nat) ({ cls := "ThrusterSelectorModel", name := "lays", desc := "(II)V" } : Jvm.MethodName)) ∈ tb := tb_mem 741 (by decide +kernel) (by decide +kernel)
theorem kw698 : (Jvm.Cond.instanceMethod ({ cls := "ThrusterSelectorModel", name := "lays", desc := "(II)V" } : Jvm.MethodName)) ∈ tb := tb_mem 743 (by decide +kernel) (by decide +kernel)
theorem kw699 : (Jvm.Cond.code ({ cls := "ThrusterSelectorModel", name := "lays", desc := "(II)V" } : Jvm.MethodName) prog_7_method_19_code (4 : Nat) (Option.none : Option Jvm.ClassFile.FieldType)) ∈ tb := tb_mem 744 (by decide +kernel) (by decide +kernel)
theorem kw700 : (Jvm.Cond.methodLink "ThrusterSelectorModel" (84 : Nat) ({ cls := "ThrusterSelectorModel", name := "determined", desc := "()J" } : Jvm.MethodName)) ∈ tb := tb_mem 745 (by decide +kernel) (by decide +kernel)
theorem kw702 : (Jvm.Cond.instanceMethod ({ cls := "ThrusterSelectorModel", name := "determined", desc := "()J" } : Jvm.MethodName)) ∈ tb := tb_mem 747 (by decide +kernel) (by decide +kernel)
theorem kw703 : (Jvm.Cond.code ({ cls := "ThrusterSelectorModel", name := "determined", desc := "()J" } : Jvm.MethodName) prog_7_method_20_code (4 : Nat) (Option.some Jvm.ClassFile.FieldType.long)) ∈ tb := tb_mem 748 (by decide +kernel) (by decide +kernel)
theorem kw704 : (Jvm.Cond.methodLink "ThrusterSelectorLaw" (44 : Nat) ({ cls := "ThrusterSelectorModel", name := "refuel", desc := "(II)I" } : Jvm.MethodName)) ∈ tb := tb_mem 749 (by decide +kernel) (by decide +kernel)
theorem kw705 : (Jvm.Cond.instanceMethod ({ cls := "ThrusterSelectorModel", name := "refuel", desc := "(II)I" } : Jvm.MethodName)) ∈ tb := tb_mem 750 (by decide +kernel) (by decide +kernel)
theorem kw706 : (Jvm.Cond.selects "ThrusterSelectorModel" ({ cls := "ThrusterSelectorModel", name := "refuel", desc := "(II)I" } : Jvm.MethodName) ({ cls := "ThrusterSelectorModel", name := "refuel", desc := "(II)I" } : Jvm.MethodName)) ∈ tb := tb_mem 751 (by decide +kernel) (by decide +kernel)
theorem kw707 : (Jvm.Cond.code ({ cls := "ThrusterSelectorModel", name := "refuel", desc := "(II)I" } : Jvm.MethodName) prog_7_method_22_code (4 : Nat) (Option.some Jvm.ClassFile.FieldType.int)) ∈ tb := tb_mem 752 (by decide +kernel) (by decide +kernel)
theorem kw708 : (Jvm.Cond.methodLink "ThrusterSelectorLaw" (49 : Nat) ({ cls := "ThrusterSelectorModel", name := "fuel", desc := "(I)I" } : Jvm.MethodName)) ∈ tb := tb_mem 753 (by decide +kernel) (by decide +kernel)
theorem kw709 : (Jvm.Cond.instanceMethod ({ cls := "ThrusterSelectorModel", name := "fuel", desc := "(I)I" } : Jvm.MethodName)) ∈ tb := tb_mem 754 (by decide +kernel) (by decide +kernel)
theorem kw710 : (Jvm.Cond.selects "ThrusterSelectorModel" ({ cls := "ThrusterSelectorModel", name := "fuel", desc := "(I)I" } : Jvm.MethodName) ({ cls := "ThrusterSelectorModel", name := "fuel", desc := "(I)I" } : Jvm.MethodName)) ∈ tb := tb_mem 755 (by decide +kernel) (by decide +kernel)
theorem kw711 : (Jvm.Cond.code ({ cls := "ThrusterSelectorModel", name := "fuel", desc := "(I)I" } : Jvm.MethodName) prog_7_method_23_code (2 : Nat) (Option.some Jvm.ClassFile.FieldType.int)) ∈ tb := tb_mem 756 (by decide +kernel) (by decide +kernel)
theorem kw712 : (Jvm.Cond.methodLink "ThrusterSelectorLaw" (53 : Nat) ({ cls := "ThrusterSelectorModel", name := "forbid", desc := "(I)I" } : Jvm.MethodName)) ∈ tb := tb_mem 757 (by decide +kernel) (by decide +kernel)
theorem kw713 : (Jvm.Cond.instanceMethod ({ cls := "ThrusterSelectorModel", name := "forbid", desc := "(I)I" } : Jvm.MethodName)) ∈ tb := tb_mem 758 (by decide +kernel) (by decide +kernel)
theorem kw714 : (Jvm.Cond.selects "ThrusterSelectorModel" ({ cls := "ThrusterSelectorModel", name := "forbid", desc := "(I)I" } : Jvm.MethodName) ({ cls := "ThrusterSelectorModel", name := "forbid", desc := "(I)I" } : Jvm.MethodName)) ∈ tb := tb_mem 759 (by decide +kernel) (by decide +kernel)
theorem kw715 : (Jvm.Cond.code ({ cls := "ThrusterSelectorModel", name := "forbid", desc := "(I)I" } : Jvm.MethodName) prog_7_method_26_code (2 : Nat) (Option.some Jvm.ClassFile.FieldType.int)) ∈ tb := tb_mem 760 (by decide +kernel) (by decide +kernel)
theorem kw716 : (Jvm.Cond.methodLink "ThrusterSelectorModel" (88 : Nat) ({ cls := "ThrusterSelectorModel", name := "bits", desc := "(I)I" } : Jvm.MethodName)) ∈ tb := tb_mem 761 (by decide +kernel) (by decide +kernel)
theorem kw717 : (Jvm.Cond.static ({ cls := "ThrusterSelectorModel", name := "bits", desc := "(I)I" } : Jvm.MethodName)) ∈ tb := tb_mem 762 (by decide +kernel) (by decide +kernel)
theorem kw718 : (Jvm.Cond.code ({ cls := "ThrusterSelectorModel", name := "bits", desc := "(I)I" } : Jvm.MethodName) prog_7_method_24_code (3 : Nat) (Option.some Jvm.ClassFile.FieldType.int)) ∈ tb := tb_mem 763 (by decide +kernel) (by decide +kernel)
theorem kw719 : (Jvm.Cond.methodLink "ThrusterSelectorModel" (91 : Nat) ({ cls := "ThrusterSelectorModel", name := "find", desc := "(I)I" } : Jvm.MethodName)) ∈ tb := tb_mem 764 (by decide +kernel) (by decide +kernel)
theorem kw721 : (Jvm.Cond.instanceMethod ({ cls := "ThrusterSelectorModel", name := "find", desc := "(I)I" } : Jvm.MethodName)) ∈ tb := tb_mem 766 (by decide +kernel) (by decide +kernel)
theorem kw722 : (Jvm.Cond.code ({ cls := "ThrusterSelectorModel", name := "find", desc := "(I)I" } : Jvm.MethodName) prog_7_method_25_code (4 : Nat) (Option.some Jvm.ClassFile.FieldType.int)) ∈ tb := tb_mem 767 (by decide +kernel) (by decide +kernel)
theorem kw723 : (Jvm.Cond.constant "ThrusterSelectorModel" (94 : Nat) (-2000000003 : Int32)) ∈ tb := tb_mem 768 (by decide +kernel) (by decide +kernel)
theorem kw724 : (Jvm.Cond.methodLink "ThrusterSelectorLaw" (57 : Nat) ({ cls := "ThrusterSelectorModel", name := "allow", desc := "(I)I" } : Jvm.MethodName)) ∈ tb := tb_mem 769 (by decide +kernel) (by decide +kernel)
theorem kw725 : (Jvm.Cond.instanceMethod ({ cls := "ThrusterSelectorModel", name := "allow", desc := "(I)I" } : Jvm.MethodName)) ∈ tb := tb_mem 770 (by decide +kernel) (by decide +kernel)
theorem kw726 : (Jvm.Cond.selects "ThrusterSelectorModel" ({ cls := "ThrusterSelectorModel", name := "allow", desc := "(I)I" } : Jvm.MethodName) ({ cls := "ThrusterSelectorModel", name := "allow", desc := "(I)I" } : Jvm.MethodName)) ∈ tb := tb_mem 771 (by decide +kernel) (by decide +kernel)
theorem kw727 : (Jvm.Cond.code ({ cls := "ThrusterSelectorModel", name := "allow", desc := "(I)I" } : Jvm.MethodName) prog_7_method_27_code (4 : Nat) (Option.some Jvm.ClassFile.FieldType.int)) ∈ tb := tb_mem 772 (by decide +kernel) (by decide +kernel)
theorem kw728 : (Jvm.Cond.methodLink "ThrusterSelectorLaw" (61 : Nat) ({ cls := "ThrusterSelectorModel", name := "isForbidden", desc := "(I)I" } : Jvm.MethodName)) ∈ tb := tb_mem 773 (by decide +kernel) (by decide +kernel)
theorem kw729 : (Jvm.Cond.instanceMethod ({ cls := "ThrusterSelectorModel", name := "isForbidden", desc := "(I)I" } : Jvm.MethodName)) ∈ tb := tb_mem 774 (by decide +kernel) (by decide +kernel)
theorem kw730 : (Jvm.Cond.selects "ThrusterSelectorModel" ({ cls := "ThrusterSelectorModel", name := "isForbidden", desc := "(I)I" } : Jvm.MethodName) ({ cls := "ThrusterSelectorModel", name := "isForbidden", desc := "(I)I" } : Jvm.MethodName)) ∈ tb := tb_mem 775 (by decide +kernel) (by decide +kernel)
theorem kw731 : (Jvm.Cond.code ({ cls := "ThrusterSelectorModel", name := "isForbidden", desc := "(I)I" } : Jvm.MethodName) prog_7_method_29_code (2 : Nat) (Option.some Jvm.ClassFile.FieldType.int)) ∈ tb := tb_mem 776 (by decide +kernel) (by decide +kernel)
theorem kw732 : (Jvm.Cond.methodLink "ThrusterSelectorModel" (99 : Nat) ({ cls := "ThrusterSelectorModel", name := "isBad", desc := "(I)Z" } : Jvm.MethodName)) ∈ tb := tb_mem 777 (by decide +kernel) (by decide +kernel)
theorem kw734 : (Jvm.Cond.instanceMethod ({ cls := "ThrusterSelectorModel", name := "isBad", desc := "(I)Z" } : Jvm.MethodName)) ∈ tb := tb_mem 779 (by decide +kernel) (by decide +kernel)
theorem kw735 : (Jvm.Cond.code ({ cls := "ThrusterSelectorModel", name := "isBad", desc := "(I)Z" } : Jvm.MethodName) prog_7_method_28_code (5 : Nat) (Option.some Jvm.ClassFile.FieldType.boolean)) ∈ tb := tb_mem 780 (by decide +kernel) (by decide +kernel)
theorem kw736 : (Jvm.Cond.methodLink "ThrusterSelectorModel" (95 : Nat) ({ cls := "ThrusterSelectorModel", name := "running", desc := "()I" } : Jvm.MethodName)) ∈ tb := tb_mem 781 (by decide +kernel) (by decide +kernel)
theorem kw738 : (Jvm.Cond.instanceMethod ({ cls := "ThrusterSelectorModel", name := "running", desc := "()I" } : Jvm.MethodName)) ∈ tb := tb_mem 783 (by decide +kernel) (by decide +kernel)
theorem kw739 : (Jvm.Cond.code ({ cls := "ThrusterSelectorModel", name := "running", desc := "()I" } : Jvm.MethodName) prog_7_method_13_code (3 : Nat) (Option.some Jvm.ClassFile.FieldType.int)) ∈ tb := tb_mem 784 (by decide +kernel) (by decide +kernel)
theorem kw740 : (Jvm.Cond.methodLink "ThrusterSelectorLaw" (65 : Nat) ({ cls := "ThrusterSelectorModel", name := "select", desc := "(III)I" } : Jvm.MethodName)) ∈ tb := tb_mem 785 (by decide +kernel) (by decide +kernel)
theorem kw741 : (Jvm.Cond.instanceMethod ({ cls := "ThrusterSelectorModel", name := "select", desc := "(III)I" } : Jvm.MethodName)) ∈ tb := tb_mem 786 (by decide +kernel) (by decide +kernel)
theorem kw742 : (Jvm.Cond.selects "ThrusterSelectorModel" ({ cls := "ThrusterSelectorModel", name := "select", desc := "(III)I" } : Jvm.MethodName) ({ cls := "ThrusterSelectorModel", name := "select", desc := "(III)I" } : Jvm.MethodName)) ∈ tb := tb_mem 787 (by decide +kernel) (by decide +kernel)
theorem kw743 : (Jvm.Cond.code ({ cls := "ThrusterSelectorModel", name := "select", desc := "(III)I" } : Jvm.MethodName) prog_7_method_37_code (4 : Nat) (Option.some Jvm.ClassFile.FieldType.int)) ∈ tb := tb_mem 788 (by decide +kernel) (by decide +kernel)
theorem kw744 : (Jvm.Cond.methodLink "ThrusterSelectorModel" (129 : Nat) ({ cls := "ThrusterSelectorModel", name := "isTarget", desc := "(III)Z" } : Jvm.MethodName)) ∈ tb := tb_mem 789 (by decide +kernel) (by decide +kernel)
theorem kw745 : (Jvm.Cond.static ({ cls := "ThrusterSelectorModel", name := "isTarget", desc := "(III)Z" } : Jvm.MethodName)) ∈ tb := tb_mem 790 (by decide +kernel) (by decide +kernel)
theorem kw746 : (Jvm.Cond.code ({ cls := "ThrusterSelectorModel", name := "isTarget", desc := "(III)Z" } : Jvm.MethodName) prog_7_method_36_code (3 : Nat) (Option.some Jvm.ClassFile.FieldType.boolean)) ∈ tb := tb_mem 791 (by decide +kernel) (by decide +kernel)
theorem kw747 : (Jvm.Cond.constant "ThrusterSelectorModel" (127 : Nat) (-40000 : Int32)) ∈ tb := tb_mem 792 (by decide +kernel) (by decide +kernel)
theorem kw748 : (Jvm.Cond.constant "ThrusterSelectorModel" (128 : Nat) (40000 : Int32)) ∈ tb := tb_mem 793 (by decide +kernel) (by decide +kernel)
theorem kw749 : (Jvm.Cond.methodLink "ThrusterSelectorModel" (132 : Nat) ({ cls := "ThrusterSelectorModel", name := "aims", desc := "(III)V" } : Jvm.MethodName)) ∈ tb := tb_mem 794 (by decide +kernel) (by decide +kernel)
theorem kw751 : (Jvm.Cond.instanceMethod ({ cls := "ThrusterSelectorModel", name := "aims", desc := "(III)V" } : Jvm.MethodName)) ∈ tb := tb_mem 796 (by decide +kernel) (by decide +kernel)
theorem kw752 : (Jvm.Cond.code ({ cls := "ThrusterSelectorModel", name := "aims", desc := "(III)V" } : Jvm.MethodName) prog_7_method_30_code (4 : Nat) (Option.none : Option Jvm.ClassFile.FieldType)) ∈ tb := tb_mem 797 (by decide +kernel) (by decide +kernel)
theorem kw753 : (Jvm.Cond.methodLink "ThrusterSelectorModel" (135 : Nat) ({ cls := "ThrusterSelectorModel", name := "finds", desc := "()Z" } : Jvm.MethodName)) ∈ tb := tb_mem 798 (by decide +kernel) (by decide +kernel)
theorem kw755 : (Jvm.Cond.instanceMethod ({ cls := "ThrusterSelectorModel", name := "finds", desc := "()Z" } : Jvm.MethodName)) ∈ tb := tb_mem 800 (by decide +kernel) (by decide +kernel)
theorem kw756 : (Jvm.Cond.code ({ cls := "ThrusterSelectorModel", name := "finds", desc := "()Z" } : Jvm.MethodName) prog_7_method_34_code (4 : Nat) (Option.some Jvm.ClassFile.FieldType.boolean)) ∈ tb := tb_mem 801 (by decide +kernel) (by decide +kernel)
theorem kw757 : (Jvm.Cond.methodLink "ThrusterSelectorModel" (121 : Nat) ({ cls := "ThrusterSelectorModel", name := "looksAt", desc := "(III)V" } : Jvm.MethodName)) ∈ tb := tb_mem 802 (by decide +kernel) (by decide +kernel)
theorem kw759 : (Jvm.Cond.instanceMethod ({ cls := "ThrusterSelectorModel", name := "looksAt", desc := "(III)V" } : Jvm.MethodName)) ∈ tb := tb_mem 804 (by decide +kernel) (by decide +kernel)
theorem kw760 : (Jvm.Cond.code ({ cls := "ThrusterSelectorModel", name := "looksAt", desc := "(III)V" } : Jvm.MethodName) prog_7_method_33_code (14 : Nat) (Option.none : Option Jvm.ClassFile.FieldType)) ∈ tb := tb_mem 805 (by decide +kernel) (by decide +kernel)
theorem kw761 : (Jvm.Cond.methodLink "ThrusterSelectorModel" (102 : Nat) ({ cls := "ThrusterSelectorModel", name := "member", desc := "(IIII)I" } : Jvm.MethodName)) ∈ tb := tb_mem 806 (by decide +kernel) (by decide +kernel)
theorem kw762 : (Jvm.Cond.static ({ cls := "ThrusterSelectorModel", name := "member", desc := "(IIII)I" } : Jvm.MethodName)) ∈ tb := tb_mem 807 (by decide +kernel) (by decide +kernel)
theorem kw763 : (Jvm.Cond.code ({ cls := "ThrusterSelectorModel", name := "member", desc := "(IIII)I" } : Jvm.MethodName) prog_7_method_32_code (4 : Nat) (Option.some Jvm.ClassFile.FieldType.int)) ∈ tb := tb_mem 808 (by decide +kernel) (by decide +kernel)
theorem kw764 : (Jvm.Cond.constantLong "ThrusterSelectorModel" (106 : Nat) (20 : Int64)) ∈ tb := tb_mem 809 (by decide +kernel) (by decide +kernel)
theorem kw765 : (Jvm.Cond.methodLink "ThrusterSelectorModel" (108 : Nat) ({ cls := "ThrusterSelectorModel", name := "dear", desc := "(I)I" } : Jvm.MethodName)) ∈ tb := tb_mem 810 (by decide +kernel) (by decide +kernel)
theorem kw767 : (Jvm.Cond.instanceMethod ({ cls := "ThrusterSelectorModel", name := "dear", desc := "(I)I" } : Jvm.MethodName)) ∈ tb := tb_mem 812 (by decide +kernel) (by decide +kernel)
theorem kw768 : (Jvm.Cond.code ({ cls := "ThrusterSelectorModel", name := "dear", desc := "(I)I" } : Jvm.MethodName) prog_7_method_31_code (2 : Nat) (Option.some Jvm.ClassFile.FieldType.int)) ∈ tb := tb_mem 813 (by decide +kernel) (by decide +kernel)
theorem kw769 : (Jvm.Cond.constant "ThrusterSelectorModel" (139 : Nat) (-2000000000 : Int32)) ∈ tb := tb_mem 814 (by decide +kernel) (by decide +kernel)
theorem kw770 : (Jvm.Cond.methodLink "ThrusterSelectorLaw" (70 : Nat) ({ cls := "ThrusterSelectorModel", name := "pulse", desc := "(IIII)I" } : Jvm.MethodName)) ∈ tb := tb_mem 815 (by decide +kernel) (by decide +kernel)
theorem kw771 : (Jvm.Cond.instanceMethod ({ cls := "ThrusterSelectorModel", name := "pulse", desc := "(IIII)I" } : Jvm.MethodName)) ∈ tb := tb_mem 816 (by decide +kernel) (by decide +kernel)
theorem kw772 : (Jvm.Cond.selects "ThrusterSelectorModel" ({ cls := "ThrusterSelectorModel", name := "pulse", desc := "(IIII)I" } : Jvm.MethodName) ({ cls := "ThrusterSelectorModel", name := "pulse", desc := "(IIII)I" } : Jvm.MethodName)) ∈ tb := tb_mem 817 (by decide +kernel) (by decide +kernel)
theorem kw773 : (Jvm.Cond.code ({ cls := "ThrusterSelectorModel", name := "pulse", desc := "(IIII)I" } : Jvm.MethodName) prog_7_method_38_code (5 : Nat) (Option.some Jvm.ClassFile.FieldType.int)) ∈ tb := tb_mem 818 (by decide +kernel) (by decide +kernel)
theorem kw774 : (Jvm.Cond.methodLink "ThrusterSelectorModel" (140 : Nat) ({ cls := "ThrusterSelectorModel", name := "pulseOf", desc := "(I)I" } : Jvm.MethodName)) ∈ tb := tb_mem 819 (by decide +kernel) (by decide +kernel)
theorem kw776 : (Jvm.Cond.instanceMethod ({ cls := "ThrusterSelectorModel", name := "pulseOf", desc := "(I)I" } : Jvm.MethodName)) ∈ tb := tb_mem 821 (by decide +kernel) (by decide +kernel)
theorem kw777 : (Jvm.Cond.code ({ cls := "ThrusterSelectorModel", name := "pulseOf", desc := "(I)I" } : Jvm.MethodName) prog_7_method_35_code (4 : Nat) (Option.some Jvm.ClassFile.FieldType.int)) ∈ tb := tb_mem 822 (by decide +kernel) (by decide +kernel)
theorem kw778 : (Jvm.Cond.constantLong "ThrusterSelectorModel" (125 : Nat) (2 : Int64)) ∈ tb := tb_mem 823 (by decide +kernel) (by decide +kernel)
theorem kw779 : (Jvm.Cond.methodLink "ThrusterSelectorLaw" (74 : Nat) ({ cls := "ThrusterSelectorModel", name := "price", desc := "(III)I" } : Jvm.MethodName)) ∈ tb := tb_mem 824 (by decide +kernel) (by decide +kernel)
theorem kw780 : (Jvm.Cond.instanceMethod ({ cls := "ThrusterSelectorModel", name := "price", desc := "(III)I" } : Jvm.MethodName)) ∈ tb := tb_mem 825 (by decide +kernel) (by decide +kernel)
theorem kw781 : (Jvm.Cond.selects "ThrusterSelectorModel" ({ cls := "ThrusterSelectorModel", name := "price", desc := "(III)I" } : Jvm.MethodName) ({ cls := "ThrusterSelectorModel", name := "price", desc := "(III)I" } : Jvm.MethodName)) ∈ tb := tb_mem 826 (by decide +kernel) (by decide +kernel)
theorem kw782 : (Jvm.Cond.code ({ cls := "ThrusterSelectorModel", name := "price", desc := "(III)I" } : Jvm.MethodName) prog_7_method_39_code (4 : Nat) (Option.some Jvm.ClassFile.FieldType.int)) ∈ tb := tb_mem 827 (by decide +kernel) (by decide +kernel)
theorem kw783 : (Jvm.Cond.constantLong "ThrusterSelectorModel" (143 : Nat) (1000 : Int64)) ∈ tb := tb_mem 828 (by decide +kernel) (by decide +kernel)
theorem kw784 : (Jvm.Cond.methodLink "ThrusterSelectorLaw" (78 : Nat) ({ cls := "ThrusterSelectorModel", name := "request", desc := "(III)I" } : Jvm.MethodName)) ∈ tb := tb_mem 829 (by decide +kernel) (by decide +kernel)
theorem kw785 : (Jvm.Cond.instanceMethod ({ cls := "ThrusterSelectorModel", name := "request", desc := "(III)I" } : Jvm.MethodName)) ∈ tb := tb_mem 830 (by decide +kernel) (by decide +kernel)
theorem kw786 : (Jvm.Cond.selects "ThrusterSelectorModel" ({ cls := "ThrusterSelectorModel", name := "request", desc := "(III)I" } : Jvm.MethodName) ({ cls := "ThrusterSelectorModel", name := "request", desc := "(III)I" } : Jvm.MethodName)) ∈ tb := tb_mem 831 (by decide +kernel) (by decide +kernel)
theorem kw787 : (Jvm.Cond.code ({ cls := "ThrusterSelectorModel", name := "request", desc := "(III)I" } : Jvm.MethodName) prog_7_method_44_code (4 : Nat) (Option.some Jvm.ClassFile.FieldType.int)) ∈ tb := tb_mem 832 (by decide +kernel) (by decide +kernel)
theorem kw788 : (Jvm.Cond.methodLink "ThrusterSelectorModel" (152 : Nat) ({ cls := "ThrusterSelectorModel", name := "asks", desc := "(ZIII)I" } : Jvm.MethodName)) ∈ tb := tb_mem 833 (by decide +kernel) (by decide +kernel)
theorem kw790 : (Jvm.Cond.instanceMethod ({ cls := "ThrusterSelectorModel", name := "asks", desc := "(ZIII)I" } : Jvm.MethodName)) ∈ tb := tb_mem 835 (by decide +kernel) (by decide +kernel)
theorem kw791 : (Jvm.Cond.code ({ cls := "ThrusterSelectorModel", name := "asks", desc := "(ZIII)I" } : Jvm.MethodName) prog_7_method_43_code (5 : Nat) (Option.some Jvm.ClassFile.FieldType.int)) ∈ tb := tb_mem 836 (by decide +kernel) (by decide +kernel)
theorem kw792 : (Jvm.Cond.methodLink "ThrusterSelectorModel" (145 : Nat) ({ cls := "ThrusterSelectorModel", name := "isRequest", desc := "(III)Z" } : Jvm.MethodName)) ∈ tb := tb_mem 837 (by decide +kernel) (by decide +kernel)
theorem kw793 : (Jvm.Cond.static ({ cls := "ThrusterSelectorModel", name := "isRequest", desc := "(III)Z" } : Jvm.MethodName)) ∈ tb := tb_mem 838 (by decide +kernel) (by decide +kernel)
theorem kw794 : (Jvm.Cond.code ({ cls := "ThrusterSelectorModel", name := "isRequest", desc := "(III)Z" } : Jvm.MethodName) prog_7_method_40_code (3 : Nat) (Option.some Jvm.ClassFile.FieldType.boolean)) ∈ tb := tb_mem 839 (by decide +kernel) (by decide +kernel)
theorem kw795 : (Jvm.Cond.methodLink "ThrusterSelectorModel" (148 : Nat) ({ cls := "ThrusterSelectorModel", name := "puts", desc := "(IIII)V" } : Jvm.MethodName)) ∈ tb := tb_mem 840 (by decide +kernel) (by decide +kernel)
theorem kw797 : (Jvm.Cond.instanceMethod ({ cls := "ThrusterSelectorModel", name := "puts", desc := "(IIII)V" } : Jvm.MethodName)) ∈ tb := tb_mem 842 (by decide +kernel) (by decide +kernel)
theorem kw798 : (Jvm.Cond.code ({ cls := "ThrusterSelectorModel", name := "puts", desc := "(IIII)V" } : Jvm.MethodName) prog_7_method_41_code (6 : Nat) (Option.none : Option Jvm.ClassFile.FieldType)) ∈ tb := tb_mem 843 (by decide +kernel) (by decide +kernel)
theorem kw799 : (Jvm.Cond.methodLink "ThrusterSelectorLaw" (82 : Nat) ({ cls := "ThrusterSelectorModel", name := "urge", desc := "(III)I" } : Jvm.MethodName)) ∈ tb := tb_mem 844 (by decide +kernel) (by decide +kernel)
theorem kw800 : (Jvm.Cond.instanceMethod ({ cls := "ThrusterSelectorModel", name := "urge", desc := "(III)I" } : Jvm.MethodName)) ∈ tb := tb_mem 845 (by decide +kernel) (by decide +kernel)
theorem kw801 : (Jvm.Cond.selects "ThrusterSelectorModel" ({ cls := "ThrusterSelectorModel", name := "urge", desc := "(III)I" } : Jvm.MethodName) ({ cls := "ThrusterSelectorModel", name := "urge", desc := "(III)I" } : Jvm.MethodName)) ∈ tb := tb_mem 846 (by decide +kernel) (by decide +kernel)
theorem kw802 : (Jvm.Cond.code ({ cls := "ThrusterSelectorModel", name := "urge", desc := "(III)I" } : Jvm.MethodName) prog_7_method_45_code (4 : Nat) (Option.some Jvm.ClassFile.FieldType.int)) ∈ tb := tb_mem 847 (by decide +kernel) (by decide +kernel)
theorem kw803 : (Jvm.Cond.methodLink "ThrusterSelectorLaw" (86 : Nat) ({ cls := "ThrusterSelectorModel", name := "cancel", desc := "(I)I" } : Jvm.MethodName)) ∈ tb := tb_mem 848 (by decide +kernel) (by decide +kernel)
theorem kw804 : (Jvm.Cond.instanceMethod ({ cls := "ThrusterSelectorModel", name := "cancel", desc := "(I)I" } : Jvm.MethodName)) ∈ tb := tb_mem 849 (by decide +kernel) (by decide +kernel)
theorem kw805 : (Jvm.Cond.selects "ThrusterSelectorModel" ({ cls := "ThrusterSelectorModel", name := "cancel", desc := "(I)I" } : Jvm.MethodName) ({ cls := "ThrusterSelectorModel", name := "cancel", desc := "(I)I" } : Jvm.MethodName)) ∈ tb := tb_mem 850 (by decide +kernel) (by decide +kernel)
theorem kw806 : (Jvm.Cond.code ({ cls := "ThrusterSelectorModel", name := "cancel", desc := "(I)I" } : Jvm.MethodName) prog_7_method_47_code (2 : Nat) (Option.some Jvm.ClassFile.FieldType.int)) ∈ tb := tb_mem 851 (by decide +kernel) (by decide +kernel)
theorem kw807 : (Jvm.Cond.methodLink "ThrusterSelectorModel" (156 : Nat) ({ cls := "ThrusterSelectorModel", name := "isPlace", desc := "(I)Z" } : Jvm.MethodName)) ∈ tb := tb_mem 852 (by decide +kernel) (by decide +kernel)
theorem kw809 : (Jvm.Cond.instanceMethod ({ cls := "ThrusterSelectorModel", name := "isPlace", desc := "(I)Z" } : Jvm.MethodName)) ∈ tb := tb_mem 854 (by decide +kernel) (by decide +kernel)
theorem kw810 : (Jvm.Cond.code ({ cls := "ThrusterSelectorModel", name := "isPlace", desc := "(I)Z" } : Jvm.MethodName) prog_7_method_46_code (2 : Nat) (Option.some Jvm.ClassFile.FieldType.boolean)) ∈ tb := tb_mem 855 (by decide +kernel) (by decide +kernel)
theorem kw811 : (Jvm.Cond.methodLink "ThrusterSelectorModel" (159 : Nat) ({ cls := "ThrusterSelectorModel", name := "takes", desc := "(I)V" } : Jvm.MethodName)) ∈ tb := tb_mem 856 (by decide +kernel) (by decide +kernel)
theorem kw813 : (Jvm.Cond.instanceMethod ({ cls := "ThrusterSelectorModel", name := "takes", desc := "(I)V" } : Jvm.MethodName)) ∈ tb := tb_mem 858 (by decide +kernel) (by decide +kernel)
theorem kw814 : (Jvm.Cond.code ({ cls := "ThrusterSelectorModel", name := "takes", desc := "(I)V" } : Jvm.MethodName) prog_7_method_42_code (3 : Nat) (Option.none : Option Jvm.ClassFile.FieldType)) ∈ tb := tb_mem 859 (by decide +kernel) (by decide +kernel)
theorem kw815 : (Jvm.Cond.methodLink "ThrusterSelectorLaw" (90 : Nat) ({ cls := "ThrusterSelectorModel", name := "queued", desc := "()I" } : Jvm.MethodName)) ∈ tb := tb_mem 860 (by decide +kernel) (by decide +kernel)
theorem kw816 : (Jvm.Cond.instanceMethod ({ cls := "ThrusterSelectorModel", name := "queued", desc := "()I" } : Jvm.MethodName)) ∈ tb := tb_mem 861 (by decide +kernel) (by decide +kernel)
theorem kw817 : (Jvm.Cond.selects "ThrusterSelectorModel" ({ cls := "ThrusterSelectorModel", name := "queued", desc := "()I" } : Jvm.MethodName) ({ cls := "ThrusterSelectorModel", name := "queued", desc := "()I" } : Jvm.MethodName)) ∈ tb := tb_mem 862 (by decide +kernel) (by decide +kernel)
theorem kw818 : (Jvm.Cond.code ({ cls := "ThrusterSelectorModel", name := "queued", desc := "()I" } : Jvm.MethodName) prog_7_method_48_code (1 : Nat) (Option.some Jvm.ClassFile.FieldType.int)) ∈ tb := tb_mem 863 (by decide +kernel) (by decide +kernel)
theorem kw819 : (Jvm.Cond.methodLink "ThrusterSelectorLaw" (94 : Nat) ({ cls := "ThrusterSelectorModel", name := "requested", desc := "(II)I" } : Jvm.MethodName)) ∈ tb := tb_mem 864 (by decide +kernel) (by decide +kernel)
theorem kw820 : (Jvm.Cond.instanceMethod ({ cls := "ThrusterSelectorModel", name := "requested", desc := "(II)I" } : Jvm.MethodName)) ∈ tb := tb_mem 865 (by decide +kernel) (by decide +kernel)
theorem kw821 : (Jvm.Cond.selects "ThrusterSelectorModel" ({ cls := "ThrusterSelectorModel", name := "requested", desc := "(II)I" } : Jvm.MethodName) ({ cls := "ThrusterSelectorModel", name := "requested", desc := "(II)I" } : Jvm.MethodName)) ∈ tb := tb_mem 866 (by decide +kernel) (by decide +kernel)
theorem kw822 : (Jvm.Cond.code ({ cls := "ThrusterSelectorModel", name := "requested", desc := "(II)I" } : Jvm.MethodName) prog_7_method_49_code (3 : Nat) (Option.some Jvm.ClassFile.FieldType.int)) ∈ tb := tb_mem 867 (by decide +kernel) (by decide +kernel)
theorem kw823 : (Jvm.Cond.methodLink "ThrusterSelectorLaw" (98 : Nat) ({ cls := "ThrusterSelectorModel", name := "cycle", desc := "()I" } : Jvm.MethodName)) ∈ tb := tb_mem 868 (by decide +kernel) (by decide +kernel)
theorem kw824 : (Jvm.Cond.instanceMethod ({ cls := "ThrusterSelectorModel", name := "cycle", desc := "()I" } : Jvm.MethodName)) ∈ tb := tb_mem 869 (by decide +kernel) (by decide +kernel)
theorem kw825 : (Jvm.Cond.selects "ThrusterSelectorModel" ({ cls := "ThrusterSelectorModel", name := "cycle", desc := "()I" } : Jvm.MethodName) ({ cls := "ThrusterSelectorModel", name := "cycle", desc := "()I" } : Jvm.MethodName)) ∈ tb := tb_mem 870 (by decide +kernel) (by decide +kernel)
theorem kw826 : (Jvm.Cond.code ({ cls := "ThrusterSelectorModel", name := "cycle", desc := "()I" } : Jvm.MethodName) prog_7_method_53_code (1 : Nat) (Option.some Jvm.ClassFile.FieldType.int)) ∈ tb := tb_mem 871 (by decide +kernel) (by decide +kernel)
theorem kw827 : (Jvm.Cond.methodLink "ThrusterSelectorModel" (166 : Nat) ({ cls := "ThrusterSelectorModel", name := "runs", desc := "()Z" } : Jvm.MethodName)) ∈ tb := tb_mem 872 (by decide +kernel) (by decide +kernel)
theorem kw829 : (Jvm.Cond.instanceMethod ({ cls := "ThrusterSelectorModel", name := "runs", desc := "()Z" } : Jvm.MethodName)) ∈ tb := tb_mem 874 (by decide +kernel) (by decide +kernel)
theorem kw830 : (Jvm.Cond.code ({ cls := "ThrusterSelectorModel", name := "runs", desc := "()Z" } : Jvm.MethodName) prog_7_method_51_code (7 : Nat) (Option.some Jvm.ClassFile.FieldType.boolean)) ∈ tb := tb_mem 875 (by decide +kernel) (by decide +kernel)
theorem kw831 : (Jvm.Cond.methodLink "ThrusterSelectorModel" (163 : Nat) ({ cls := "ThrusterSelectorModel", name := "held", desc := "(I)I" } : Jvm.MethodName)) ∈ tb := tb_mem 876 (by decide +kernel) (by decide +kernel)
theorem kw832 : (Jvm.Cond.static ({ cls := "ThrusterSelectorModel", name := "held", desc := "(I)I" } : Jvm.MethodName)) ∈ tb := tb_mem 877 (by decide +kernel) (by decide +kernel)
theorem kw833 : (Jvm.Cond.code ({ cls := "ThrusterSelectorModel", name := "held", desc := "(I)I" } : Jvm.MethodName) prog_7_method_50_code (1 : Nat) (Option.some Jvm.ClassFile.FieldType.int)) ∈ tb := tb_mem 878 (by decide +kernel) (by decide +kernel)
theorem kw834 : (Jvm.Cond.methodLink "ThrusterSelectorModel" (169 : Nat) ({ cls := "ThrusterSelectorModel", name := "firedSet", desc := "()I" } : Jvm.MethodName)) ∈ tb := tb_mem 879 (by decide +kernel) (by decide +kernel)
theorem kw836 : (Jvm.Cond.instanceMethod ({ cls := "ThrusterSelectorModel", name := "firedSet", desc := "()I" } : Jvm.MethodName)) ∈ tb := tb_mem 881 (by decide +kernel) (by decide +kernel)
theorem kw837 : (Jvm.Cond.code ({ cls := "ThrusterSelectorModel", name := "firedSet", desc := "()I" } : Jvm.MethodName) prog_7_method_52_code (3 : Nat) (Option.some Jvm.ClassFile.FieldType.int)) ∈ tb := tb_mem 882 (by decide +kernel) (by decide +kernel)
theorem kw838 : (Jvm.Cond.methodLink "ThrusterSelectorLaw" (102 : Nat) ({ cls := "ThrusterSelectorModel", name := "cycles", desc := "(I)I" } : Jvm.MethodName)) ∈ tb := tb_mem 883 (by decide +kernel) (by decide +kernel)
theorem kw839 : (Jvm.Cond.instanceMethod ({ cls := "ThrusterSelectorModel", name := "cycles", desc := "(I)I" } : Jvm.MethodName)) ∈ tb := tb_mem 884 (by decide +kernel) (by decide +kernel)
theorem kw840 : (Jvm.Cond.selects "ThrusterSelectorModel" ({ cls := "ThrusterSelectorModel", name := "cycles", desc := "(I)I" } : Jvm.MethodName) ({ cls := "ThrusterSelectorModel", name := "cycles", desc := "(I)I" } : Jvm.MethodName)) ∈ tb := tb_mem 885 (by decide +kernel) (by decide +kernel)
theorem kw841 : (Jvm.Cond.code ({ cls := "ThrusterSelectorModel", name := "cycles", desc := "(I)I" } : Jvm.MethodName) prog_7_method_54_code (4 : Nat) (Option.some Jvm.ClassFile.FieldType.int)) ∈ tb := tb_mem 886 (by decide +kernel) (by decide +kernel)
theorem kw842 : (Jvm.Cond.methodLink "ThrusterSelectorLaw" (106 : Nat) ({ cls := "ThrusterSelectorModel", name := "cycleCount", desc := "()I" } : Jvm.MethodName)) ∈ tb := tb_mem 887 (by decide +kernel) (by decide +kernel)
theorem kw843 : (Jvm.Cond.instanceMethod ({ cls := "ThrusterSelectorModel", name := "cycleCount", desc := "()I" } : Jvm.MethodName)) ∈ tb := tb_mem 888 (by decide +kernel) (by decide +kernel)
theorem kw844 : (Jvm.Cond.selects "ThrusterSelectorModel" ({ cls := "ThrusterSelectorModel", name := "cycleCount", desc := "()I" } : Jvm.MethodName) ({ cls := "ThrusterSelectorModel", name := "cycleCount", desc := "()I" } : Jvm.MethodName)) ∈ tb := tb_mem 889 (by decide +kernel) (by decide +kernel)
theorem kw845 : (Jvm.Cond.code ({ cls := "ThrusterSelectorModel", name := "cycleCount", desc := "()I" } : Jvm.MethodName) prog_7_method_55_code (1 : Nat) (Option.some Jvm.ClassFile.FieldType.int)) ∈ tb := tb_mem 890 (by decide +kernel) (by decide +kernel)
theorem kw846 : (Jvm.Cond.methodLink "ThrusterSelectorLaw" (110 : Nat) ({ cls := "ThrusterSelectorModel", name := "fired", desc := "(I)I" } : Jvm.MethodName)) ∈ tb := tb_mem 891 (by decide +kernel) (by decide +kernel)
theorem kw847 : (Jvm.Cond.instanceMethod ({ cls := "ThrusterSelectorModel", name := "fired", desc := "(I)I" } : Jvm.MethodName)) ∈ tb := tb_mem 892 (by decide +kernel) (by decide +kernel)
theorem kw848 : (Jvm.Cond.selects "ThrusterSelectorModel" ({ cls := "ThrusterSelectorModel", name := "fired", desc := "(I)I" } : Jvm.MethodName) ({ cls := "ThrusterSelectorModel", name := "fired", desc := "(I)I" } : Jvm.MethodName)) ∈ tb := tb_mem 893 (by decide +kernel) (by decide +kernel)
theorem kw849 : (Jvm.Cond.code ({ cls := "ThrusterSelectorModel", name := "fired", desc := "(I)I" } : Jvm.MethodName) prog_7_method_56_code (2 : Nat) (Option.some Jvm.ClassFile.FieldType.int)) ∈ tb := tb_mem 894 (by decide +kernel) (by decide +kernel)
theorem kw850 : (Jvm.Cond.methodLink "ThrusterSelectorLaw" (114 : Nat) ({ cls := "ThrusterSelectorModel", name := "impulse", desc := "(II)I" } : Jvm.MethodName)) ∈ tb := tb_mem 895 (by decide +kernel) (by decide +kernel)
theorem kw851 : (Jvm.Cond.instanceMethod ({ cls := "ThrusterSelectorModel", name := "impulse", desc := "(II)I" } : Jvm.MethodName)) ∈ tb := tb_mem 896 (by decide +kernel) (by decide +kernel)
theorem kw852 : (Jvm.Cond.selects "ThrusterSelectorModel" ({ cls := "ThrusterSelectorModel", name := "impulse", desc := "(II)I" } : Jvm.MethodName) ({ cls := "ThrusterSelectorModel", name := "impulse", desc := "(II)I" } : Jvm.MethodName)) ∈ tb := tb_mem 897 (by decide +kernel) (by decide +kernel)
theorem kw853 : (Jvm.Cond.code ({ cls := "ThrusterSelectorModel", name := "impulse", desc := "(II)I" } : Jvm.MethodName) prog_7_method_57_code (3 : Nat) (Option.some Jvm.ClassFile.FieldType.int)) ∈ tb := tb_mem 898 (by decide +kernel) (by decide +kernel)
theorem kw854 : (Jvm.Cond.methodLink "ThrusterSelectorLaw" (119 : Nat) ({ cls := "ThrusterSelectorModel", name := "total", desc := "(I)J" } : Jvm.MethodName)) ∈ tb := tb_mem 899 (by decide +kernel) (by decide +kernel)
theorem kw855 : (Jvm.Cond.instanceMethod ({ cls := "ThrusterSelectorModel", name := "total", desc := "(I)J" } : Jvm.MethodName)) ∈ tb := tb_mem 900 (by decide +kernel) (by decide +kernel)
theorem kw856 : (Jvm.Cond.selects "ThrusterSelectorModel" ({ cls := "ThrusterSelectorModel", name := "total", desc := "(I)J" } : Jvm.MethodName) ({ cls := "ThrusterSelectorModel", name := "total", desc := "(I)J" } : Jvm.MethodName)) ∈ tb := tb_mem 901 (by decide +kernel) (by decide +kernel)
theorem kw857 : (Jvm.Cond.code ({ cls := "ThrusterSelectorModel", name := "total", desc := "(I)J" } : Jvm.MethodName) prog_7_method_58_code (2 : Nat) (Option.some Jvm.ClassFile.FieldType.long)) ∈ tb := tb_mem 902 (by decide +kernel) (by decide +kernel)
theorem kw858 : (Jvm.Cond.constantLong "ThrusterSelectorModel" (172 : Nat) (-2000000001 : Int64)) ∈ tb := tb_mem 903 (by decide +kernel) (by decide +kernel)
theorem kw859 : (Jvm.Cond.methodLink "ThrusterSelectorLaw" (123 : Nat) ({ cls := "ThrusterSelectorModel", name := "suspect", desc := "(III)I" } : Jvm.MethodName)) ∈ tb := tb_mem 904 (by decide +kernel) (by decide +kernel)
theorem kw860 : (Jvm.Cond.instanceMethod ({ cls := "ThrusterSelectorModel", name := "suspect", desc := "(III)I" } : Jvm.MethodName)) ∈ tb := tb_mem 905 (by decide +kernel) (by decide +kernel)
theorem kw861 : (Jvm.Cond.selects "ThrusterSelectorModel" ({ cls := "ThrusterSelectorModel", name := "suspect", desc := "(III)I" } : Jvm.MethodName) ({ cls := "ThrusterSelectorModel", name := "suspect", desc := "(III)I" } : Jvm.MethodName)) ∈ tb := tb_mem 906 (by decide +kernel) (by decide +kernel)
theorem kw862 : (Jvm.Cond.code ({ cls := "ThrusterSelectorModel", name := "suspect", desc := "(III)I" } : Jvm.MethodName) prog_7_method_61_code (9 : Nat) (Option.some Jvm.ClassFile.FieldType.int)) ∈ tb := tb_mem 907 (by decide +kernel) (by decide +kernel)
theorem kw863 : (Jvm.Cond.methodLink "ThrusterSelectorModel" (176 : Nat) ({ cls := "ThrusterSelectorModel", name := "isMeasured", desc := "(I)Z" } : Jvm.MethodName)) ∈ tb := tb_mem 908 (by decide +kernel) (by decide +kernel)
theorem kw864 : (Jvm.Cond.static ({ cls := "ThrusterSelectorModel", name := "isMeasured", desc := "(I)Z" } : Jvm.MethodName)) ∈ tb := tb_mem 909 (by decide +kernel) (by decide +kernel)
theorem kw865 : (Jvm.Cond.code ({ cls := "ThrusterSelectorModel", name := "isMeasured", desc := "(I)Z" } : Jvm.MethodName) prog_7_method_60_code (1 : Nat) (Option.some Jvm.ClassFile.FieldType.boolean)) ∈ tb := tb_mem 910 (by decide +kernel) (by decide +kernel)
theorem kw866 : (Jvm.Cond.constant "ThrusterSelectorModel" (174 : Nat) (-1000000 : Int32)) ∈ tb := tb_mem 911 (by decide +kernel) (by decide +kernel)
theorem kw867 : (Jvm.Cond.constant "ThrusterSelectorModel" (175 : Nat) (1000000 : Int32)) ∈ tb := tb_mem 912 (by decide +kernel) (by decide +kernel)
theorem kw868 : (Jvm.Cond.methodLink "ThrusterSelectorModel" (179 : Nat) ({ cls := "ThrusterSelectorModel", name := "explains", desc := "(II)Z" } : Jvm.MethodName)) ∈ tb := tb_mem 913 (by decide +kernel) (by decide +kernel)
theorem kw870 : (Jvm.Cond.instanceMethod ({ cls := "ThrusterSelectorModel", name := "explains", desc := "(II)Z" } : Jvm.MethodName)) ∈ tb := tb_mem 915 (by decide +kernel) (by decide +kernel)
theorem kw871 : (Jvm.Cond.code ({ cls := "ThrusterSelectorModel", name := "explains", desc := "(II)Z" } : Jvm.MethodName) prog_7_method_59_code (5 : Nat) (Option.some Jvm.ClassFile.FieldType.boolean)) ∈ tb := tb_mem 916 (by decide +kernel) (by decide +kernel)
theorem kw872 : (Jvm.Cond.methodLink "ThrusterSelectorLaw" (127 : Nat) ({ cls := "ThrusterSelectorModel", name := "undo", desc := "()I" } : Jvm.MethodName)) ∈ tb := tb_mem 917 (by decide +kernel) (by decide +kernel)
theorem kw873 : (Jvm.Cond.instanceMethod ({ cls := "ThrusterSelectorModel", name := "undo", desc := "()I" } : Jvm.MethodName)) ∈ tb := tb_mem 918 (by decide +kernel) (by decide +kernel)
theorem kw874 : (Jvm.Cond.selects "ThrusterSelectorModel" ({ cls := "ThrusterSelectorModel", name := "undo", desc := "()I" } : Jvm.MethodName) ({ cls := "ThrusterSelectorModel", name := "undo", desc := "()I" } : Jvm.MethodName)) ∈ tb := tb_mem 919 (by decide +kernel) (by decide +kernel)
theorem kw875 : (Jvm.Cond.code ({ cls := "ThrusterSelectorModel", name := "undo", desc := "()I" } : Jvm.MethodName) prog_7_method_62_code (1 : Nat) (Option.some Jvm.ClassFile.FieldType.int)) ∈ tb := tb_mem 920 (by decide +kernel) (by decide +kernel)
theorem kw876 : (Jvm.Cond.methodLink "ThrusterSelectorLaw" (131 : Nat) ({ cls := "ThrusterSelectorModel", name := "type", desc := "(I)I" } : Jvm.MethodName)) ∈ tb := tb_mem 921 (by decide +kernel) (by decide +kernel)
theorem kw877 : (Jvm.Cond.instanceMethod ({ cls := "ThrusterSelectorModel", name := "type", desc := "(I)I" } : Jvm.MethodName)) ∈ tb := tb_mem 922 (by decide +kernel) (by decide +kernel)
theorem kw878 : (Jvm.Cond.selects "ThrusterSelectorModel" ({ cls := "ThrusterSelectorModel", name := "type", desc := "(I)I" } : Jvm.MethodName) ({ cls := "ThrusterSelectorModel", name := "type", desc := "(I)I" } : Jvm.MethodName)) ∈ tb := tb_mem 923 (by decide +kernel) (by decide +kernel)
theorem kw879 : (Jvm.Cond.code ({ cls := "ThrusterSelectorModel", name := "type", desc := "(I)I" } : Jvm.MethodName) prog_7_method_63_code (2 : Nat) (Option.some Jvm.ClassFile.FieldType.int)) ∈ tb := tb_mem 924 (by decide +kernel) (by decide +kernel)
theorem kw880 : (Jvm.Cond.methodLink "ThrusterSelectorLaw" (135 : Nat) ({ cls := "ThrusterSelectorModel", name := "clearText", desc := "()I" } : Jvm.MethodName)) ∈ tb := tb_mem 925 (by decide +kernel) (by decide +kernel)
theorem kw881 : (Jvm.Cond.instanceMethod ({ cls := "ThrusterSelectorModel", name := "clearText", desc := "()I" } : Jvm.MethodName)) ∈ tb := tb_mem 926 (by decide +kernel) (by decide +kernel)
theorem kw882 : (Jvm.Cond.selects "ThrusterSelectorModel" ({ cls := "ThrusterSelectorModel", name := "clearText", desc := "()I" } : Jvm.MethodName) ({ cls := "ThrusterSelectorModel", name := "clearText", desc := "()I" } : Jvm.MethodName)) ∈ tb := tb_mem 927 (by decide +kernel) (by decide +kernel)
theorem kw883 : (Jvm.Cond.code ({ cls := "ThrusterSelectorModel", name := "clearText", desc := "()I" } : Jvm.MethodName) prog_7_method_64_code (2 : Nat) (Option.some Jvm.ClassFile.FieldType.int)) ∈ tb := tb_mem 928 (by decide +kernel) (by decide +kernel)
theorem kw884 : (Jvm.Cond.methodLink "ThrusterSelectorLaw" (139 : Nat) ({ cls := "ThrusterSelectorModel", name := "textFault", desc := "()I" } : Jvm.MethodName)) ∈ tb := tb_mem 929 (by decide +kernel) (by decide +kernel)
theorem kw885 : (Jvm.Cond.instanceMethod ({ cls := "ThrusterSelectorModel", name := "textFault", desc := "()I" } : Jvm.MethodName)) ∈ tb := tb_mem 930 (by decide +kernel) (by decide +kernel)
theorem kw886 : (Jvm.Cond.selects "ThrusterSelectorModel" ({ cls := "ThrusterSelectorModel", name := "textFault", desc := "()I" } : Jvm.MethodName) ({ cls := "ThrusterSelectorModel", name := "textFault", desc := "()I" } : Jvm.MethodName)) ∈ tb := tb_mem 931 (by decide +kernel) (by decide +kernel)
theorem kw887 : (Jvm.Cond.code ({ cls := "ThrusterSelectorModel", name := "textFault", desc := "()I" } : Jvm.MethodName) prog_7_method_70_code (1 : Nat) (Option.some Jvm.ClassFile.FieldType.int)) ∈ tb := tb_mem 932 (by decide +kernel) (by decide +kernel)
theorem kw888 : (Jvm.Cond.methodLink "ThrusterSelectorModel" (205 : Nat) ({ cls := "ThrusterSelectorModel", name := "readsAll", desc := "(Z)Z" } : Jvm.MethodName)) ∈ tb := tb_mem 933 (by decide +kernel) (by decide +kernel)
theorem kw890 : (Jvm.Cond.instanceMethod ({ cls := "ThrusterSelectorModel", name := "readsAll", desc := "(Z)Z" } : Jvm.MethodName)) ∈ tb := tb_mem 935 (by decide +kernel) (by decide +kernel)
theorem kw891 : (Jvm.Cond.code ({ cls := "ThrusterSelectorModel", name := "readsAll", desc := "(Z)Z" } : Jvm.MethodName) prog_7_method_69_code (4 : Nat) (Option.some Jvm.ClassFile.FieldType.boolean)) ∈ tb := tb_mem 936 (by decide +kernel) (by decide +kernel)
theorem kw892 : (Jvm.Cond.methodLink "ThrusterSelectorModel" (201 : Nat) ({ cls := "ThrusterSelectorModel", name := "readsRequest", desc := "(Z)Z" } : Jvm.MethodName)) ∈ tb := tb_mem 937 (by decide +kernel) (by decide +kernel)
theorem kw894 : (Jvm.Cond.instanceMethod ({ cls := "ThrusterSelectorModel", name := "readsRequest", desc := "(Z)Z" } : Jvm.MethodName)) ∈ tb := tb_mem 939 (by decide +kernel) (by decide +kernel)
theorem kw895 : (Jvm.Cond.code ({ cls := "ThrusterSelectorModel", name := "readsRequest", desc := "(Z)Z" } : Jvm.MethodName) prog_7_method_68_code (5 : Nat) (Option.some Jvm.ClassFile.FieldType.boolean)) ∈ tb := tb_mem 940 (by decide +kernel) (by decide +kernel)
theorem kw896 : (Jvm.Cond.methodLink "ThrusterSelectorModel" (189 : Nat) ({ cls := "ThrusterSelectorModel", name := "here", desc := "()I" } : Jvm.MethodName)) ∈ tb := tb_mem 941 (by decide +kernel) (by decide +kernel)
theorem kw898 : (Jvm.Cond.instanceMethod ({ cls := "ThrusterSelectorModel", name := "here", desc := "()I" } : Jvm.MethodName)) ∈ tb := tb_mem 943 (by decide +kernel) (by decide +kernel)
theorem kw899 : (Jvm.Cond.code ({ cls := "ThrusterSelectorModel", name := "here", desc := "()I" } : Jvm.MethodName) prog_7_method_65_code (1 : Nat) (Option.some Jvm.ClassFile.FieldType.int)) ∈ tb := tb_mem 944 (by decide +kernel) (by decide +kernel)
theorem kw900 : (Jvm.Cond.methodLink "ThrusterSelectorModel" (192 : Nat) ({ cls := "ThrusterSelectorModel", name := "sign", desc := "(I)Z" } : Jvm.MethodName)) ∈ tb := tb_mem 945 (by decide +kernel) (by decide +kernel)
theorem kw902 : (Jvm.Cond.instanceMethod ({ cls := "ThrusterSelectorModel", name := "sign", desc := "(I)Z" } : Jvm.MethodName)) ∈ tb := tb_mem 947 (by decide +kernel) (by decide +kernel)
theorem kw903 : (Jvm.Cond.code ({ cls := "ThrusterSelectorModel", name := "sign", desc := "(I)Z" } : Jvm.MethodName) prog_7_method_66_code (3 : Nat) (Option.some Jvm.ClassFile.FieldType.boolean)) ∈ tb := tb_mem 948 (by decide +kernel) (by decide +kernel)
theorem kw904 : (Jvm.Cond.methodLink "ThrusterSelectorModel" (198 : Nat) ({ cls := "ThrusterSelectorModel", name := "readsPart", desc := "(I)Z" } : Jvm.MethodName)) ∈ tb := tb_mem 949 (by decide +kernel) (by decide +kernel)
theorem kw906 : (Jvm.Cond.instanceMethod ({ cls := "ThrusterSelectorModel", name := "readsPart", desc := "(I)Z" } : Jvm.MethodName)) ∈ tb := tb_mem 951 (by decide +kernel) (by decide +kernel)
theorem kw907 : (Jvm.Cond.code ({ cls := "ThrusterSelectorModel", name := "readsPart", desc := "(I)Z" } : Jvm.MethodName) prog_7_method_67_code (6 : Nat) (Option.some Jvm.ClassFile.FieldType.boolean)) ∈ tb := tb_mem 952 (by decide +kernel) (by decide +kernel)
theorem kw908 : (Jvm.Cond.methodLink "ThrusterSelectorLaw" (143 : Nat) ({ cls := "ThrusterSelectorModel", name := "load", desc := "()I" } : Jvm.MethodName)) ∈ tb := tb_mem 953 (by decide +kernel) (by decide +kernel)
theorem kw909 : (Jvm.Cond.instanceMethod ({ cls := "ThrusterSelectorModel", name := "load", desc := "()I" } : Jvm.MethodName)) ∈ tb := tb_mem 954 (by decide +kernel) (by decide +kernel)
theorem kw910 : (Jvm.Cond.selects "ThrusterSelectorModel" ({ cls := "ThrusterSelectorModel", name := "load", desc := "()I" } : Jvm.MethodName) ({ cls := "ThrusterSelectorModel", name := "load", desc := "()I" } : Jvm.MethodName)) ∈ tb := tb_mem 955 (by decide +kernel) (by decide +kernel)
theorem kw911 : (Jvm.Cond.code ({ cls := "ThrusterSelectorModel", name := "load", desc := "()I" } : Jvm.MethodName) prog_7_method_71_code (2 : Nat) (Option.some Jvm.ClassFile.FieldType.int)) ∈ tb := tb_mem 956 (by decide +kernel) (by decide +kernel)
theorem kw912 : (Jvm.Cond.methodLink "ThrusterSelectorLaw" (148 : Nat) ({ cls := "ThrusterSelectorModel", name := "digest", desc := "()J" } : Jvm.MethodName)) ∈ tb := tb_mem 957 (by decide +kernel) (by decide +kernel)
theorem kw913 : (Jvm.Cond.instanceMethod ({ cls := "ThrusterSelectorModel", name := "digest", desc := "()J" } : Jvm.MethodName)) ∈ tb := tb_mem 958 (by decide +kernel) (by decide +kernel)
theorem kw914 : (Jvm.Cond.selects "ThrusterSelectorModel" ({ cls := "ThrusterSelectorModel", name := "digest", desc := "()J" } : Jvm.MethodName) ({ cls := "ThrusterSelectorModel", name := "digest", desc := "()J" } : Jvm.MethodName)) ∈ tb := tb_mem 959 (by decide +kernel) (by decide +kernel)
theorem kw915 : (Jvm.Cond.code ({ cls := "ThrusterSelectorModel", name := "digest", desc := "()J" } : Jvm.MethodName) prog_7_method_73_code (3 : Nat) (Option.some Jvm.ClassFile.FieldType.long)) ∈ tb := tb_mem 960 (by decide +kernel) (by decide +kernel)
theorem kw916 : (Jvm.Cond.constantLong "ThrusterSelectorModel" (213 : Nat) (17 : Int64)) ∈ tb := tb_mem 961 (by decide +kernel) (by decide +kernel)
theorem kw917 : (Jvm.Cond.methodLink "ThrusterSelectorModel" (215 : Nat) ({ cls := "ThrusterSelectorModel", name := "note", desc := "(J)V" } : Jvm.MethodName)) ∈ tb := tb_mem 962 (by decide +kernel) (by decide +kernel)
theorem kw919 : (Jvm.Cond.instanceMethod ({ cls := "ThrusterSelectorModel", name := "note", desc := "(J)V" } : Jvm.MethodName)) ∈ tb := tb_mem 964 (by decide +kernel) (by decide +kernel)
theorem kw920 : (Jvm.Cond.code ({ cls := "ThrusterSelectorModel", name := "note", desc := "(J)V" } : Jvm.MethodName) prog_7_method_72_code (3 : Nat) (Option.none : Option Jvm.ClassFile.FieldType)) ∈ tb := tb_mem 965 (by decide +kernel) (by decide +kernel)
theorem kw921 : (Jvm.Cond.constantLong "ThrusterSelectorModel" (208 : Nat) (31 : Int64)) ∈ tb := tb_mem 966 (by decide +kernel) (by decide +kernel)
theorem kv0 : Cond.selects (⟨"ThrusterSelector", "isThruster", "(I)Z"⟩ : MethodName).cls ⟨"ThrusterSelector", "isThruster", "(I)Z"⟩ ⟨"ThrusterSelector", "isThruster", "(I)Z"⟩ ∈ tb := tb_mem 0 (by decide +kernel) (by decide +kernel)
theorem kv1 : Cond.selects (⟨"ThrusterSelector$Selection", "clear", "()V"⟩ : MethodName).cls ⟨"ThrusterSelector$Selection", "clear", "()V"⟩ ⟨"ThrusterSelector$Selection", "clear", "()V"⟩ ∈ tb := tb_mem 1 (by decide +kernel) (by decide +kernel)
theorem kv2 : Cond.selects (⟨"ThrusterSelector$Selection", "consider", "(LThrusterSelector$State;III)V"⟩ : MethodName).cls ⟨"ThrusterSelector$Selection", "consider", "(LThrusterSelector$State;III)V"⟩ ⟨"ThrusterSelector$Selection", "consider", "(LThrusterSelector$State;III)V"⟩ ∈ tb := tb_mem 2 (by decide +kernel) (by decide +kernel)
theorem kv3 : Cond.selects (⟨"ThrusterSelector$Selection", "isBetter", "(JJI)Z"⟩ : MethodName).cls ⟨"ThrusterSelector$Selection", "isBetter", "(JJI)Z"⟩ ⟨"ThrusterSelector$Selection", "isBetter", "(JJI)Z"⟩ ∈ tb := tb_mem 3 (by decide +kernel) (by decide +kernel)
theorem kv4 : Cond.selects (⟨"ThrusterSelector", "putRequest", "(IIIZ)I"⟩ : MethodName).cls ⟨"ThrusterSelector", "putRequest", "(IIIZ)I"⟩ ⟨"ThrusterSelector", "putRequest", "(IIIZ)I"⟩ ∈ tb := tb_mem 4 (by decide +kernel) (by decide +kernel)
theorem kv5 : Cond.selects (⟨"ThrusterSelector", "isPlace", "(I)Z"⟩ : MethodName).cls ⟨"ThrusterSelector", "isPlace", "(I)Z"⟩ ⟨"ThrusterSelector", "isPlace", "(I)Z"⟩ ∈ tb := tb_mem 5 (by decide +kernel) (by decide +kernel)
theorem kv6 : Cond.selects (⟨"ThrusterSelector", "runCycle", "()I"⟩ : MethodName).cls ⟨"ThrusterSelector", "runCycle", "()I"⟩ ⟨"ThrusterSelector", "runCycle", "()I"⟩ ∈ tb := tb_mem 6 (by decide +kernel) (by decide +kernel)
theorem kv7 : Cond.selects (⟨"ThrusterSelector$State", "wasSound", "(I)Z"⟩ : MethodName).cls ⟨"ThrusterSelector$State", "wasSound", "(I)Z"⟩ ⟨"ThrusterSelector$State", "wasSound", "(I)Z"⟩ ∈ tb := tb_mem 7 (by decide +kernel) (by decide +kernel)
theorem kv8 : Cond.selects (⟨"ThrusterSelector$State", "isImpulse", "(IIIII)Z"⟩ : MethodName).cls ⟨"ThrusterSelector$State", "isImpulse", "(IIIII)Z"⟩ ⟨"ThrusterSelector$State", "isImpulse", "(IIIII)Z"⟩ ∈ tb := tb_mem 8 (by decide +kernel) (by decide +kernel)
theorem kv9 : Cond.selects (⟨"ThrusterSelector$Text", "readRequest", "(I)V"⟩ : MethodName).cls ⟨"ThrusterSelector$Text", "readRequest", "(I)V"⟩ ⟨"ThrusterSelector$Text", "readRequest", "(I)V"⟩ ∈ tb := tb_mem 9 (by decide +kernel) (by decide +kernel)
theorem kv10 : Cond.selects (⟨"ThrusterSelector$Text", "skipBlanks", "()V"⟩ : MethodName).cls ⟨"ThrusterSelector$Text", "skipBlanks", "()V"⟩ ⟨"ThrusterSelector$Text", "skipBlanks", "()V"⟩ ∈ tb := tb_mem 10 (by decide +kernel) (by decide +kernel)
theorem kv11 : Cond.selects (⟨"ThrusterSelector$Text", "accept", "(C)Z"⟩ : MethodName).cls ⟨"ThrusterSelector$Text", "accept", "(C)Z"⟩ ⟨"ThrusterSelector$Text", "accept", "(C)Z"⟩ ∈ tb := tb_mem 11 (by decide +kernel) (by decide +kernel)
theorem kv12 : Cond.selects (⟨"ThrusterSelector$Text", "readSigned", "()I"⟩ : MethodName).cls ⟨"ThrusterSelector$Text", "readSigned", "()I"⟩ ⟨"ThrusterSelector$Text", "readSigned", "()I"⟩ ∈ tb := tb_mem 12 (by decide +kernel) (by decide +kernel)
theorem kv13 : Cond.selects (⟨"ThrusterSelector$Text", "readNumber", "()I"⟩ : MethodName).cls ⟨"ThrusterSelector$Text", "readNumber", "()I"⟩ ⟨"ThrusterSelector$Text", "readNumber", "()I"⟩ ∈ tb := tb_mem 13 (by decide +kernel) (by decide +kernel)
theorem kv14 : Cond.selects (⟨"ThrusterSelectorModel", "saves", "()V"⟩ : MethodName).cls ⟨"ThrusterSelectorModel", "saves", "()V"⟩ ⟨"ThrusterSelectorModel", "saves", "()V"⟩ ∈ tb := tb_mem 14 (by decide +kernel) (by decide +kernel)
theorem kv15 : Cond.selects (⟨"ThrusterSelectorModel", "copies", "(II)V"⟩ : MethodName).cls ⟨"ThrusterSelectorModel", "copies", "(II)V"⟩ ⟨"ThrusterSelectorModel", "copies", "(II)V"⟩ ∈ tb := tb_mem 15 (by decide +kernel) (by decide +kernel)
theorem kv16 : Cond.selects (⟨"ThrusterSelectorModel", "isThruster", "(I)Z"⟩ : MethodName).cls ⟨"ThrusterSelectorModel", "isThruster", "(I)Z"⟩ ⟨"ThrusterSelectorModel", "isThruster", "(I)Z"⟩ ∈ tb := tb_mem 16 (by decide +kernel) (by decide +kernel)
theorem kv17 : Cond.selects (⟨"ThrusterSelectorModel", "of", "(II)I"⟩ : MethodName).cls ⟨"ThrusterSelectorModel", "of", "(II)I"⟩ ⟨"ThrusterSelectorModel", "of", "(II)I"⟩ ∈ tb := tb_mem 17 (by decide +kernel) (by decide +kernel)
theorem kv18 : Cond.selects (⟨"ThrusterSelectorModel", "isUsable", "(I)Z"⟩ : MethodName).cls ⟨"ThrusterSelectorModel", "isUsable", "(I)Z"⟩ ⟨"ThrusterSelectorModel", "isUsable", "(I)Z"⟩ ∈ tb := tb_mem 18 (by decide +kernel) (by decide +kernel)
theorem kv19 : Cond.selects (⟨"ThrusterSelectorModel", "fuelOf", "(I)I"⟩ : MethodName).cls ⟨"ThrusterSelectorModel", "fuelOf", "(I)I"⟩ ⟨"ThrusterSelectorModel", "fuelOf", "(I)I"⟩ ∈ tb := tb_mem 19 (by decide +kernel) (by decide +kernel)
theorem kv20 : Cond.selects (⟨"ThrusterSelectorModel", "isRunning", "(I)Z"⟩ : MethodName).cls ⟨"ThrusterSelectorModel", "isRunning", "(I)Z"⟩ ⟨"ThrusterSelectorModel", "isRunning", "(I)Z"⟩ ∈ tb := tb_mem 20 (by decide +kernel) (by decide +kernel)
theorem kv21 : Cond.selects (⟨"ThrusterSelectorModel", "unitOf", "(II)I"⟩ : MethodName).cls ⟨"ThrusterSelectorModel", "unitOf", "(II)I"⟩ ⟨"ThrusterSelectorModel", "unitOf", "(II)I"⟩ ∈ tb := tb_mem 21 (by decide +kernel) (by decide +kernel)
theorem kv22 : Cond.selects (⟨"ThrusterSelectorModel", "lays", "(II)V"⟩ : MethodName).cls ⟨"ThrusterSelectorModel", "lays", "(II)V"⟩ ⟨"ThrusterSelectorModel", "lays", "(II)V"⟩ ∈ tb := tb_mem 22 (by decide +kernel) (by decide +kernel)
theorem kv23 : Cond.selects (⟨"ThrusterSelectorModel", "determined", "()J"⟩ : MethodName).cls ⟨"ThrusterSelectorModel", "determined", "()J"⟩ ⟨"ThrusterSelectorModel", "determined", "()J"⟩ ∈ tb := tb_mem 23 (by decide +kernel) (by decide +kernel)
theorem kv24 : Cond.selects (⟨"ThrusterSelectorModel", "find", "(I)I"⟩ : MethodName).cls ⟨"ThrusterSelectorModel", "find", "(I)I"⟩ ⟨"ThrusterSelectorModel", "find", "(I)I"⟩ ∈ tb := tb_mem 24 (by decide +kernel) (by decide +kernel)
theorem kv25 : Cond.selects (⟨"ThrusterSelectorModel", "isBad", "(I)Z"⟩ : MethodName).cls ⟨"ThrusterSelectorModel", "isBad", "(I)Z"⟩ ⟨"ThrusterSelectorModel", "isBad", "(I)Z"⟩ ∈ tb := tb_mem 25 (by decide +kernel) (by decide +kernel)
theorem kv26 : Cond.selects (⟨"ThrusterSelectorModel", "running", "()I"⟩ : MethodName).cls ⟨"ThrusterSelectorModel", "running", "()I"⟩ ⟨"ThrusterSelectorModel", "running", "()I"⟩ ∈ tb := tb_mem 26 (by decide +kernel) (by decide +kernel)
theorem kv27 : Cond.selects (⟨"ThrusterSelectorModel", "aims", "(III)V"⟩ : MethodName).cls ⟨"ThrusterSelectorModel", "aims", "(III)V"⟩ ⟨"ThrusterSelectorModel", "aims", "(III)V"⟩ ∈ tb := tb_mem 27 (by decide +kernel) (by decide +kernel)
theorem kv28 : Cond.selects (⟨"ThrusterSelectorModel", "finds", "()Z"⟩ : MethodName).cls ⟨"ThrusterSelectorModel", "finds", "()Z"⟩ ⟨"ThrusterSelectorModel", "finds", "()Z"⟩ ∈ tb := tb_mem 28 (by decide +kernel) (by decide +kernel)
theorem kv29 : Cond.selects (⟨"ThrusterSelectorModel", "looksAt", "(III)V"⟩ : MethodName).cls ⟨"ThrusterSelectorModel", "looksAt", "(III)V"⟩ ⟨"ThrusterSelectorModel", "looksAt", "(III)V"⟩ ∈ tb := tb_mem 29 (by decide +kernel) (by decide +kernel)
theorem kv30 : Cond.selects (⟨"ThrusterSelectorModel", "dear", "(I)I"⟩ : MethodName).cls ⟨"ThrusterSelectorModel", "dear", "(I)I"⟩ ⟨"ThrusterSelectorModel", "dear", "(I)I"⟩ ∈ tb := tb_mem 30 (by decide +kernel) (by decide +kernel)
theorem kv31 : Cond.selects (⟨"ThrusterSelectorModel", "pulseOf", "(I)I"⟩ : MethodName).cls ⟨"ThrusterSelectorModel", "pulseOf", "(I)I"⟩ ⟨"ThrusterSelectorModel", "pulseOf", "(I)I"⟩ ∈ tb := tb_mem 31 (by decide +kernel) (by decide +kernel)
theorem kv32 : Cond.selects (⟨"ThrusterSelectorModel", "asks", "(ZIII)I"⟩ : MethodName).cls ⟨"ThrusterSelectorModel", "asks", "(ZIII)I"⟩ ⟨"ThrusterSelectorModel", "asks", "(ZIII)I"⟩ ∈ tb := tb_mem 32 (by decide +kernel) (by decide +kernel)
theorem kv33 : Cond.selects (⟨"ThrusterSelectorModel", "puts", "(IIII)V"⟩ : MethodName).cls ⟨"ThrusterSelectorModel", "puts", "(IIII)V"⟩ ⟨"ThrusterSelectorModel", "puts", "(IIII)V"⟩ ∈ tb := tb_mem 33 (by decide +kernel) (by decide +kernel)
theorem kv34 : Cond.selects (⟨"ThrusterSelectorModel", "isPlace", "(I)Z"⟩ : MethodName).cls ⟨"ThrusterSelectorModel", "isPlace", "(I)Z"⟩ ⟨"ThrusterSelectorModel", "isPlace", "(I)Z"⟩ ∈ tb := tb_mem 34 (by decide +kernel) (by decide +kernel)
theorem kv35 : Cond.selects (⟨"ThrusterSelectorModel", "takes", "(I)V"⟩ : MethodName).cls ⟨"ThrusterSelectorModel", "takes", "(I)V"⟩ ⟨"ThrusterSelectorModel", "takes", "(I)V"⟩ ∈ tb := tb_mem 35 (by decide +kernel) (by decide +kernel)
theorem kv36 : Cond.selects (⟨"ThrusterSelectorModel", "runs", "()Z"⟩ : MethodName).cls ⟨"ThrusterSelectorModel", "runs", "()Z"⟩ ⟨"ThrusterSelectorModel", "runs", "()Z"⟩ ∈ tb := tb_mem 36 (by decide +kernel) (by decide +kernel)
theorem kv37 : Cond.selects (⟨"ThrusterSelectorModel", "firedSet", "()I"⟩ : MethodName).cls ⟨"ThrusterSelectorModel", "firedSet", "()I"⟩ ⟨"ThrusterSelectorModel", "firedSet", "()I"⟩ ∈ tb := tb_mem 37 (by decide +kernel) (by decide +kernel)
theorem kv38 : Cond.selects (⟨"ThrusterSelectorModel", "explains", "(II)Z"⟩ : MethodName).cls ⟨"ThrusterSelectorModel", "explains", "(II)Z"⟩ ⟨"ThrusterSelectorModel", "explains", "(II)Z"⟩ ∈ tb := tb_mem 38 (by decide +kernel) (by decide +kernel)
theorem kv39 : Cond.selects (⟨"ThrusterSelectorModel", "readsAll", "(Z)Z"⟩ : MethodName).cls ⟨"ThrusterSelectorModel", "readsAll", "(Z)Z"⟩ ⟨"ThrusterSelectorModel", "readsAll", "(Z)Z"⟩ ∈ tb := tb_mem 39 (by decide +kernel) (by decide +kernel)
theorem kv40 : Cond.selects (⟨"ThrusterSelectorModel", "readsRequest", "(Z)Z"⟩ : MethodName).cls ⟨"ThrusterSelectorModel", "readsRequest", "(Z)Z"⟩ ⟨"ThrusterSelectorModel", "readsRequest", "(Z)Z"⟩ ∈ tb := tb_mem 40 (by decide +kernel) (by decide +kernel)
theorem kv41 : Cond.selects (⟨"ThrusterSelectorModel", "here", "()I"⟩ : MethodName).cls ⟨"ThrusterSelectorModel", "here", "()I"⟩ ⟨"ThrusterSelectorModel", "here", "()I"⟩ ∈ tb := tb_mem 41 (by decide +kernel) (by decide +kernel)
theorem kv42 : Cond.selects (⟨"ThrusterSelectorModel", "sign", "(I)Z"⟩ : MethodName).cls ⟨"ThrusterSelectorModel", "sign", "(I)Z"⟩ ⟨"ThrusterSelectorModel", "sign", "(I)Z"⟩ ∈ tb := tb_mem 42 (by decide +kernel) (by decide +kernel)
theorem kv43 : Cond.selects (⟨"ThrusterSelectorModel", "readsPart", "(I)Z"⟩ : MethodName).cls ⟨"ThrusterSelectorModel", "readsPart", "(I)Z"⟩ ⟨"ThrusterSelectorModel", "readsPart", "(I)Z"⟩ ∈ tb := tb_mem 43 (by decide +kernel) (by decide +kernel)
theorem kv44 : Cond.selects (⟨"ThrusterSelectorModel", "note", "(J)V"⟩ : MethodName).cls ⟨"ThrusterSelectorModel", "note", "(J)V"⟩ ⟨"ThrusterSelectorModel", "note", "(J)V"⟩ ∈ tb := tb_mem 44 (by decide +kernel) (by decide +kernel)
theorem uX0 : ∀ w ∈ u_ws RX0 TX0 3, w ∈ tb := by decide +kernel
theorem uX1 : ∀ w ∈ u_ws RX1 TX1 8, w ∈ tb := by decide +kernel
theorem uX2 : ∀ w ∈ u_ws RX2 TX2 12, w ∈ tb := by decide +kernel
theorem uX3 : ∀ w ∈ u_ws RX3 TX3 7, w ∈ tb := by decide +kernel
theorem uX4 : ∀ w ∈ u_ws RX4 TX4 4, w ∈ tb := by decide +kernel
theorem uX5 : ∀ w ∈ u_ws RX5 TX5 16, w ∈ tb := by decide +kernel
end
section
/-! pure programs -/
def gd {α : Type} (b : Bool) (k : Option α) : Option α := if b = true then k else none
theorem gd_s {α : Type} {b : Bool} {k : Option α} {r : α} (h : gd b k = some r) : b = true ∧ k = some r := by
  unfold gd at h
  by_cases hb : b = true
  · rw [if_pos hb] at h
    exact ⟨hb, h⟩
  · rw [if_neg hb] at h
    cases h
theorem gd_t {α : Type} {b : Bool} {k : Option α} (hb : b = true) : gd b k = k := if_pos hb
def ib (i : Int32) (n : Nat) : Bool := decide (¬ (i < 0 ∨ n ≤ i.toNatClampNeg))
theorem ib_in {i : Int32} {n : Nat} (h : ib i n = true) : vp_in i n := (of_decide_eq_true h : ¬ (i < 0 ∨ n ≤ i.toNatClampNeg))
def zb (v : Int32) : Bool := decide (v = 0 ∨ v = 1)
def nz (y : Int32) : Bool := decide (¬ y = 0)
def nzl (y : Int64) : Bool := decide (¬ y = 0)
theorem ib_lt {i : Int32} {n : Nat} (h : ib i n = true) : i.toNatClampNeg < n := Nat.not_le.mp fun q => ib_in h (Or.inr q)
theorem nz_s {y : Int32} (h : nz y = true) : ¬ y = 0 := of_decide_eq_true h
theorem nzl_s {y : Int64} (h : nzl y = true) : ¬ y = 0 := of_decide_eq_true h
theorem zb_s {v : Int32} (h : zb v = true) : narrow .boolean (.int v) = .int v := by
  rcases (of_decide_eq_true h : v = 0 ∨ v = 1) with rfl | rfl <;> rfl
def cpk (sp dp n : Int32) (n0 n1 : Nat) : Bool := decide (¬ sp < 0 ∧ ¬ dp < 0 ∧ ¬ n < 0 ∧ sp.toNatClampNeg + n.toNatClampNeg ≤ n0 ∧ dp.toNatClampNeg + n.toNatClampNeg ≤ n1)
theorem cpk_s {sp dp n : Int32} {n0 n1 : Nat} (h : cpk sp dp n n0 n1 = true) : ¬ sp < 0 ∧ ¬ dp < 0 ∧ ¬ n < 0 ∧ sp.toNatClampNeg + n.toNatClampNeg ≤ n0 ∧ dp.toNatClampNeg + n.toNatClampNeg ≤ n1 := of_decide_eq_true h
def lp {σ ρ : Type} (b : σ → Option (σ ⊕ ρ)) : Nat → σ → Option ρ
  | 0, _ => none
  | n + 1, s => (b s).bind (fun o => Sum.elim (lp b n) some o)
theorem lp_s {σ ρ : Type} {b : σ → Option (σ ⊕ ρ)} {n : Nat} {s : σ} {q : ρ} (h : lp b (n + 1) s = some q) : ∃ o, b s = some o ∧ Sum.elim (lp b n) some o = some q := Option.bind_eq_some_iff.mp h
theorem lp_b {σ ρ : Type} {b : σ → Option (σ ⊕ ρ)} {n : Nat} {z : σ} {q : ρ} (h : Sum.elim (lp b n) some (Sum.inl z) = some q) : lp b n z = some q := h
theorem lp_x {σ ρ : Type} {f : σ → Option ρ} {t q : ρ} (h : Sum.elim f some (Sum.inr t) = some q) : t = q := Option.some.inj h
theorem se_l {α β : Type} {γ : Type} {f : α → γ} {g : β → γ} {t : α} {r : γ} (h : Sum.elim f g (Sum.inl t) = r) : f t = r := h
theorem se_r {α β : Type} {γ : Type} {f : α → γ} {g : β → γ} {t : β} {r : γ} (h : Sum.elim f g (Sum.inr t) = r) : g t = r := h
theorem bd_s {α β : Type} {x : Option α} {f : α → Option β} {r : β} (h : x.bind f = some r) : ∃ q, x = some q ∧ f q = some r := Option.bind_eq_some_iff.mp h
/-! words -/
theorem tb_in {ws : List Cond} (h : ∀ w ∈ ws, w ∈ tb) : GoodIn tb ws := fun w hw => ⟨h w hw, good_of_word (tb_good w (h w hw))⟩
theorem tb_V {own C : String} {idx n : Nat} {y : MethodName} {b : ByteArray} {ret : Option FieldType} (h1 : Cond.methodLink own idx y ∈ tb) (h2 : Cond.instanceMethod y ∈ tb) (h3 : Cond.selects C y y ∈ tb) (h4 : Cond.initialized C ∈ tb) (h5 : Cond.code y b n ret ∈ tb) : GoodIn tb (wsV own idx C y (.code y b n ret :: tb)) := by
  refine tb_in (fun w hw => ?_)
  simp only [wsV, List.cons_append, List.nil_append, List.mem_cons] at hw
  rcases hw with rfl | rfl | rfl | rfl | rfl | hw <;> assumption
theorem tb_S {own : String} {idx n : Nat} {y : MethodName} {b : ByteArray} {ret : Option FieldType} (h1 : Cond.methodLink own idx y ∈ tb) (h2 : Cond.static y ∈ tb) (h4 : Cond.initialized y.cls ∈ tb) (h5 : Cond.code y b n ret ∈ tb) : GoodIn tb (va_wsS own idx y (.code y b n ret :: tb)) := by
  refine tb_in (fun w hw => ?_)
  simp only [va_wsS, List.cons_append, List.nil_append, List.mem_cons] at hw
  rcases hw with rfl | rfl | rfl | rfl | hw <;> assumption
theorem tb_I {n : Nat} {y : MethodName} {b : ByteArray} {ret : Option FieldType} (h5 : Cond.code y b n ret ∈ tb) : GoodIn tb (.code y b n ret :: tb) := by
  refine tb_in (fun w hw => ?_)
  rcases List.mem_cons.mp hw with rfl | hw <;> assumption
/-! the surroundings: nest links, the two static tables -/
def nwF : List (String × Nat × String × String × String × String) := [("ThrusterSelector", 169, "ThrusterSelector$State", "pulses", "[I", "ThrusterSelector"), ("ThrusterSelector", 95, "ThrusterSelector$State", "tanks", "[I", "ThrusterSelector"), ("ThrusterSelector", 160, "ThrusterSelector$State", "queue", "[I", "ThrusterSelector"), ("ThrusterSelector", 226, "ThrusterSelector$State", "impulses", "[I", "ThrusterSelector"), ("ThrusterSelector", 175, "ThrusterSelector$State", "sums", "[J", "ThrusterSelector"), ("ThrusterSelector$Selection", 38, "ThrusterSelector$State", "thrusterCount", "I", "ThrusterSelector"), ("ThrusterSelector", 51, "ThrusterSelector$State", "thrusterCount", "I", "ThrusterSelector"), ("ThrusterSelector", 109, "ThrusterSelector$State", "setCount", "I", "ThrusterSelector"), ("ThrusterSelector", 157, "ThrusterSelector$State", "requestCount", "I", "ThrusterSelector"), ("ThrusterSelector", 166, "ThrusterSelector$State", "cycleNumber", "I", "ThrusterSelector"), ("ThrusterSelector", 193, "ThrusterSelector$History", "count", "I", "ThrusterSelector"), ("ThrusterSelector", 136, "ThrusterSelector$Selection", "mask", "I", "ThrusterSelector"), ("ThrusterSelector", 132, "ThrusterSelector$Selection", "found", "Z", "ThrusterSelector"), ("ThrusterSelector", 211, "ThrusterSelector$Text", "parts", "[I", "ThrusterSelector"), ("ThrusterSelector", 214, "ThrusterSelector$Text", "urgent", "[Z", "ThrusterSelector"), ("ThrusterSelector", 202, "ThrusterSelector$Text", "length", "I", "ThrusterSelector"), ("ThrusterSelector", 208, "ThrusterSelector$Text", "readCount", "I", "ThrusterSelector"), ("ThrusterSelector$State", 71, "ThrusterSelector", "DIRECTION_X", "[I", "ThrusterSelector"), ("ThrusterSelector$State", 74, "ThrusterSelector", "DIRECTION_Y", "[I", "ThrusterSelector")]
def dX (k : Nat) : Int32 := if k = 0 then 1 else if k = 2 then -1 else 0
def dY (k : Nat) : Int32 := if k = 1 then 1 else if k = 3 then -1 else 0
def dxF : Nat → Value := fun k => .int (dX k)
def dyF : Nat → Value := fun k => .int (dY k)
def Ev (e : Nat × Nat) (A : Nat → Prop) (U : State) (H : Heap) : Prop :=
  (∀ q ∈ nwF, va_Nw (.fieldLinkNest q.1 q.2.1 q.2.2.1 q.2.2.2.1 q.2.2.2.2.1 q.2.2.2.2.2) U) ∧ va_Z "ThrusterSelector" "DIRECTION_X" "[I" (.ref e.1) A U H ∧ va_Z "ThrusterSelector" "DIRECTION_Y" "[I" (.ref e.2) A U H ∧ va_T .int e.1 4 dxF A U H ∧ va_T .int e.2 4 dyF A U H
theorem Ev.nw {e : Nat × Nat} {A : Nat → Prop} {U : State} {H : Heap} {args : Array Value} (h : Ev e A U H) {a : String} {i : Nat} {b n d o : String} (hq : (a, i, b, n, d, o) ∈ nwF) : (Cond.fieldLinkNest a i b n d o).before args U = true := va_Nw.use rfl (h.1 _ hq)
theorem Ev.to {e : Nat × Nat} {A B : Nat → Prop} {s U : State} {H : Heap} {locs : List Loc} (h : Ev e A s s.heap) (hW : s.WarmedH U.vm) (hS : va_S A s.heap H locs) (hBA : ∀ q, B q → A q) : Ev e B U H := by
  have k : ∀ a : Nat, a < s.heap.size → ¬ A a → H[a]? = s.heap[a]? := hS.2.1
  exact ⟨fun q hq => va_Nw.warmF hW (h.1 q hq), ((h.2.1.kept k).moved hW.alike).narrow hBA, ((h.2.2.1.kept k).moved hW.alike).narrow hBA, ((h.2.2.2.1.kept k).moved hW.alike).narrow hBA, ((h.2.2.2.2.kept k).moved hW.alike).narrow hBA⟩
theorem Ev.calling {e : Nat × Nat} {A : Nat → Prop} {U : State} {H : Heap} {g : JFrame} {mk : MethodId} {a : Array Value} (h : Ev e A U H) : Ev e A (U.calling g mk a) H :=
  ⟨fun q hq => va_Nw.same rfl (u := U) (U := U.calling g mk a) rfl (h.1 q hq), h.2.1.moved (u := U) (U := U.calling g mk a) (Vm.Alike.refl U.vm), h.2.2.1.moved (u := U) (U := U.calling g mk a) (Vm.Alike.refl U.vm), h.2.2.2.1.moved (u := U) (U := U.calling g mk a) (Vm.Alike.refl U.vm), h.2.2.2.2.moved (u := U) (U := U.calling g mk a) (Vm.Alike.refl U.vm)⟩
def ty5 (cI cJ cZ cO cA : ClassId) : List (ClassId × FieldType) := [(cI, .int), (cJ, .long), (cZ, .boolean), (cO, .object "ThrusterSelector$State"), (cA, .array .int)]
/-! a method's start and end -/
def gPre (G : va_G) (ty : List (ClassId × FieldType)) (e : Nat × Nat) (ws : va_W) (sz : Nat) : State → Prop := fun U => U.heap.size = sz ∧ va_P G vwCl ws U.heap ∧ va_K G vwCl ty U ∧ va_D (fun _ => True) ws ∧ Ev e (va_A ws sz) U U.heap
def gEnd (G : va_G) (ty : List (ClassId × FieldType)) (A : Nat → Prop) (ws : va_W) : State → Prop := fun t => va_P G vwCl ws t.heap ∧ va_K G vwCl ty t ∧ va_D A ws
def qI (G : va_G) (ty : List (ClassId × FieldType)) (A : Nat → Prop) (ws : va_W) (r : Int32) : Array Value → State → Outcome → State → Prop := va_Qi (fun (rr : Int32) (_ : Unit) => rr = r) (fun _ => gEnd G ty A ws) A
def qL (G : va_G) (ty : List (ClassId × FieldType)) (A : Nat → Prop) (ws : va_W) (r : Int64) : Array Value → State → Outcome → State → Prop := va_Ql (fun (rr : Int64) (_ : Unit) => rr = r) (fun _ => gEnd G ty A ws) A
def qV (G : va_G) (ty : List (ClassId × FieldType)) (A : Nat → Prop) (ws : va_W) : Array Value → State → Outcome → State → Prop := va_Qv (fun (_ : Unit) => True) (fun _ => gEnd G ty A ws) A
def MetI (l : Launch) (y : MethodName) (b : ByteArray) (n : Nat) (t : FieldType) (rm : Room) (av : List Value) (G : va_G) (ty : List (ClassId × FieldType)) (e : Nat × Nat) (ws ws' : va_W) (sz : Nat) (r : Int32) : Prop := Met l y (.code y b n (some t) :: tb) rm (va_Pc av (gPre G ty e ws sz)) (qI G ty (va_A ws sz) ws' r) 0 0 (va_A ws sz)
def MetL (l : Launch) (y : MethodName) (b : ByteArray) (n : Nat) (rm : Room) (av : List Value) (G : va_G) (ty : List (ClassId × FieldType)) (e : Nat × Nat) (ws ws' : va_W) (sz : Nat) (r : Int64) : Prop := Met l y (.code y b n (some .long) :: tb) rm (va_Pc av (gPre G ty e ws sz)) (qL G ty (va_A ws sz) ws' r) 0 0 (va_A ws sz)
def MetV (l : Launch) (y : MethodName) (b : ByteArray) (n : Nat) (rm : Room) (av : List Value) (G : va_G) (ty : List (ClassId × FieldType)) (e : Nat × Nat) (ws ws' : va_W) (sz : Nat) : Prop := Met l y (.code y b n none :: tb) rm (va_Pc av (gPre G ty e ws sz)) (qV G ty (va_A ws sz) ws') 0 0 (va_A ws sz)
theorem g_blind {av : List Value} {G : va_G} {ty : List (ClassId × FieldType)} {e : Nat × Nat} {ws : va_W} {sz : Nat} : FrameBlind (va_Pc av (gPre G ty e ws sz)) := by
  intro a U g mk h
  obtain ⟨h1, h2, h3, h4, h5, h6⟩ := h
  exact ⟨h1, h2, h3, va_K.moved (u := U) (U := U.calling g mk a) (Vm.Alike.refl U.vm) h4, h5, h6.calling⟩
theorem g_body {l : Launch} {y : MethodName} {b : ByteArray} {n : Nat} {t : Option FieldType} {rm : Room} {av : List Value} {G : va_G} {ty : List (ClassId × FieldType)} {e : Nat × Nat} {ws : va_W} {sz : Nat} {QQ : (Nat → Prop) → Array Value → State → Outcome → State → Prop} {own : String} (hy : plainName y.cls = true) (ho : y.cls = own) (hn : (lg_sl av).length ≤ n)
    (body : ∀ (p : Program) (ev : Env) (s : State) (m : MethodId) (below : List Frame) (meth : Method) (c : Code) (A : Nat → Prop) (ls : Array Slot), p.tables.exec = Jvm.exec → c.code = b → meth.sig.returnType = t → c.maxLocals = n → s.vm.findClass own = some m.cls → (∀ w ∈ tb, w.before av.toArray s = true) → meth.locks = false → (∀ q : Nat, s.heap.size ≤ q → A q) → va_P G vwCl ws s.heap → va_D A ws → va_S A s.heap s.heap [] → va_K G vwCl ty s → Ev e A s s.heap → lv_has ls n (lv_args 0 av) →
      W p l ev rm s m av.toArray below meth c s.heap [] 0 0 (MQ below (QQ A) av.toArray s 0 0 A) (F0 m 0 ls [])) : Met l y (.code y b n t :: tb) rm (va_Pc av (gPre G ty e ws sz)) (QQ (va_A ws sz)) 0 0 (va_A ws sz) := by
  refine Met.ofW (cc := b) (maxL := n) (ret := t) hy rfl ?_
  intro p ev s m args below meth c s₁ B hml hv
  obtain ⟨rfl, hsz, hP, hK, hD0, hE⟩ := hv
  have hts0 := atoms_spec (ws := .code y b n t :: tb) B.pre
  have hown : s.vm.findClass own = some m.cls := ho ▸ findClass_of_methodNamed B.named
  subst hsz
  rw [lg_entry_eq]
  exact body p ev s m below meth c (va_A ws s.heap.size) _ B.exec B.bytes B.returns hml hown (fun w hw => hts0 w (List.mem_cons_of_mem _ hw)) B.notSynchronized (fun q h => Or.inr h) hP hD0.self va_S.rf hK hE (lv_entry av hn)
section KR
variable {p : Program} {l : Launch} {ev : Env} {R : Room} {s : State} {m : MethodId} {args : Array Value} {below : List Frame} {meth : Method} {c : Code} {H : Heap} {locs : List Loc} {Q : State → Prop}
variable {cc : ByteArray} {pc : Nat} {ls : Array Slot} {rest : List Value} {G : va_G} {ty : List (ClassId × FieldType)} {A : Nat → Prop} {ws ws' wc w1 : va_W} {e : Nat × Nat}
theorem kri {t : FieldType} {v r : Int32} (hx : p.tables.exec = Jvm.exec) (hb : c.code = cc) (hr : meth.sig.returnType = some t) (hlk : meth.locks = false) (hn : narrow t (.int v) = .int v) (hv : v = r) (hP : va_P G vwCl ws' H) (hD : va_D A ws') (hS : va_S A s.heap H locs) (hK : va_K G vwCl ty s) (hdg : decode cc pc = .ok (.ireturn, 1)) :
    W p l ev R s m args below meth c H locs 0 0 (MQ below (qI G ty A ws' r) args s 0 0 A) (F0 m pc ls [.int v]) :=
  W.zret (v := v) hx hb hr hn (fun t ht hW => ⟨⟨v, (), rfl, hv, by rw [ht]; exact hP, va_K.moved hW.alike hK, hD⟩, hS.F ht⟩) hS.2.2 hdg hlk
theorem krl {v r : Int64} (hx : p.tables.exec = Jvm.exec) (hb : c.code = cc) (hr : meth.sig.returnType = some .long) (hlk : meth.locks = false) (hv : v = r) (hP : va_P G vwCl ws' H) (hD : va_D A ws') (hS : va_S A s.heap H locs) (hK : va_K G vwCl ty s) (hdg : decode cc pc = .ok (.lreturn, 1)) :
    W p l ev R s m args below meth c H locs 0 0 (MQ below (qL G ty A ws' r) args s 0 0 A) (F0 m pc ls [.long v]) :=
  W.lret (v := v) hx hb hr (fun t ht hW => ⟨⟨v, (), rfl, hv, by rw [ht]; exact hP, va_K.moved hW.alike hK, hD⟩, hS.F ht⟩) hS.2.2 hdg hlk
theorem krv (hx : p.tables.exec = Jvm.exec) (hb : c.code = cc) (hr : meth.sig.returnType = none) (hlk : meth.locks = false) (hP : va_P G vwCl ws' H) (hD : va_D A ws') (hS : va_S A s.heap H locs) (hK : va_K G vwCl ty s) (hdg : decode cc pc = .ok (.return_, 1)) :
    W p l ev R s m args below meth c H locs 0 0 (MQ below (qV G ty A ws') args s 0 0 A) (F0 m pc ls []) :=
  W.vret hx hb hr (fun t ht hW => ⟨⟨(), rfl, trivial, by rw [ht]; exact hP, va_K.moved hW.alike hK, hD⟩, hS.F ht⟩) hS.2.2 hdg hlk
theorem kald {ft : FieldType} {cells slots a a1 : Nat} {tys : List (ClassId × FieldType)} {D : va_G} {cl : List vw_C} (hx : p.tables.exec = Jvm.exec) (hb : c.code = cc) (hK : va_K D cl tys s) (hP : va_P D cl ws H) (q0 t0 : Nat) {cA : ClassId} {n : Nat} {f : Nat → Option Nat} (ha : ws[q0]? = some (a, .inl (cA, n, .inr (.inr (.inr (.inr f)))))) (ht : tys[t0]? = some (cA, ft)) (hft : ft.isReference = true) {i : Int32} (hin : vp_in i n) (hv : f i.toNatClampNeg = some a1) (hdg : decode cc pc = .ok (.aaload, 1))
    (kk : W p l ev R s m args below meth c H locs cells slots Q (F0 m (pc + 1) ls (.ref a1 :: rest))) : W p l ev R s m args below meth c H locs cells slots Q (F0 m pc ls (.int i :: .ref a :: rest)) := by
  have hlt : i.toNatClampNeg < n := Nat.not_le.mp fun q => hin (Or.inr q)
  exact W.aald (v := .ref a1) (ty := ft) hx hb (hP q0 _ ha) ((hK.2 t0 _ ht).1 n (fun j => va_rf (f j))) hft (fun q => by cases q) (by show ¬ (i < 0 ∨ (arrV _ _ _).slots.size ≤ _); rw [arrV_size]; exact hin) (by show (arrV _ _ _).slots[_]? = _; rw [arrV_read _ _ hlt, hv]; rfl) rfl rfl hdg kk
/-! the world behind a call: the callee's cells in their places, the others as they were -/
def kOk (n : Nat) (isC isR : List Nat) : Bool := (List.range n).all (fun k => isC.contains k || isR.contains k) && isR.all (fun k => !isC.contains k && decide (k < n))
theorem kjoin {A0 : Nat → Prop} {H1 : Heap} (hP : va_P G vwCl ws H) (hD : va_D A0 ws) (isC isR : List Nat) (hC : isC.map (fun i => ws[i]?) = wc.map some) (hC2 : isC.map (fun i => ws'[i]?) = w1.map some) (hR : isR.map (fun i => ws'[i]?) = (isR.filterMap (fun i => ws[i]?)).map some) (nw : Nat) (hln : ws'.length = nw ∧ ws.length = nw) (hk : kOk nw isC isR = true)
    (hkeep : ∀ q : Nat, q < H.size → ¬ va_A wc H.size q → H1[q]? = H[q]?) (hF : ∀ q, va_A wc H.size q → A0 q) (hP1 : va_P G vwCl w1 H1) (hD1 : va_D (va_A wc H.size) w1) : va_P G vwCl ws' H1 ∧ va_D A0 ws' := by
  obtain ⟨hln, hln0⟩ := hln
  have hk0 := hk
  unfold kOk at hk0
  rw [Bool.and_eq_true, List.all_eq_true, List.all_eq_true] at hk0
  obtain ⟨hk1', hk2'⟩ := hk0
  have hk1 : ∀ k, k < nw → k ∈ isC ∨ k ∈ isR := fun k h => by
    have h1 := hk1' k (List.mem_range.mpr h)
    rw [Bool.or_eq_true] at h1
    exact h1.imp List.contains_iff_mem.mp List.contains_iff_mem.mp
  have hk2 : ∀ k ∈ isR, k ∉ isC := fun k h hc => by
    have h1 := hk2' k h
    rw [Bool.and_eq_true, List.contains_iff_mem.mpr hc] at h1
    cases h1.1
  have hk3 : ∀ k ∈ isR, k < ws.length := fun k h => by
    have h1 := hk2' k h
    rw [Bool.and_eq_true] at h1
    rw [hln0]
    exact of_decide_eq_true h1.2
  have hfm : ∀ (l : List Nat), (∀ k ∈ l, k < ws.length) → (l.filterMap (fun i => ws[i]?)).map some = l.map (fun i => ws[i]?) := by
    intro l
    induction l with
    | nil => intro _; rfl
    | cons a l ih =>
      intro h
      have ha := h a List.mem_cons_self
      have e : ws[a]? = some ws[a] := List.getElem?_eq_getElem ha
      rw [List.filterMap_cons, e]
      simp only [List.map_cons]
      rw [e, ih (fun k hk => h k (List.mem_cons_of_mem _ hk))]
  rw [hfm isR hk3] at hR
  have key : ∀ (k : Nat) (q : Nat × va_E), ws'[k]? = some q → (∃ j : Nat, isC[j]? = some k ∧ w1[j]? = some q) ∨ (k ∈ isR ∧ k ∉ isC ∧ ws[k]? = some q) := by
    intro k q hq
    have hlt := (List.getElem?_eq_some_iff.mp hq).1
    rw [hln] at hlt
    rcases hk1 k hlt with h | h
    · obtain ⟨j, hj⟩ := List.getElem?_of_mem h
      have h1 : (isC.map (fun i => ws'[i]?))[j]? = some (some q) := by rw [List.getElem?_map, hj]; show some (ws'[k]?) = _; rw [hq]
      rw [hC2, List.getElem?_map] at h1
      cases hw : w1[j]? with
      | none => rw [hw] at h1; cases h1
      | some z => rw [hw] at h1; exact Or.inl ⟨j, hj, by rw [hw]; exact Option.some.inj h1⟩
    · obtain ⟨j, hj⟩ := List.getElem?_of_mem h
      have h1 : (isR.map (fun i => ws'[i]?))[j]? = some (some q) := by rw [List.getElem?_map, hj]; show some (ws'[k]?) = _; rw [hq]
      rw [hR, List.getElem?_map, hj] at h1
      exact Or.inr ⟨h, hk2 k h, Option.some.inj h1⟩
  have apart : ∀ (k : Nat) (q : Nat × va_E), k ∉ isC → ws[k]? = some q → q.1 < H.size ∧ ¬ va_A wc H.size q.1 := by
    intro k q hn hq
    have hl := (hP k q hq).lt
    refine ⟨hl, fun h => ?_⟩
    rcases h with ⟨k2, e2, h⟩ | h
    · have h1 : (isC.map (fun i => ws[i]?))[k2]? = some (some (q.1, e2)) := by rw [hC, List.getElem?_map, h]; rfl
      rw [List.getElem?_map] at h1
      cases hi : isC[k2]? with
      | none => rw [hi] at h1; cases h1
      | some i =>
        rw [hi] at h1
        have hij := hD.1 k i q (q.1, e2) hq (Option.some.inj h1) rfl
        subst hij
        exact hn (List.mem_of_getElem? hi)
    · omega
  refine ⟨fun k q hq => ?_, fun i j x y hi hj hxy => ?_, fun k q hq => ?_⟩
  · rcases key k q hq with ⟨j, -, h⟩ | ⟨-, hn, h⟩
    · exact hP1 j q h
    · obtain ⟨g1, g2⟩ := apart k q hn h
      exact (hP k q h).kept (hkeep q.1 g1 g2)
  · rcases key i x hi with ⟨j1, hj1, h1⟩ | ⟨-, hn1, h1⟩ <;> rcases key j y hj with ⟨j2, hj2, h2⟩ | ⟨-, hn2, h2⟩
    · have := hD1.1 j1 j2 x y h1 h2 hxy
      subst this
      exact Option.some.inj (hj1.symm.trans hj2)
    · exact absurd (hxy ▸ hD1.2 j1 x h1) (apart j y hn2 h2).2
    · exact absurd (hxy ▸ hD1.2 j2 y h2) (apart i x hn1 h1).2
    · exact hD.1 i j x y h1 h2 hxy
  · rcases key k q hq with ⟨j, -, h⟩ | ⟨-, hn, h⟩
    · exact hF _ (hD1.2 j q h)
    · exact hD.2 k q h
theorem k_pc {wc ws : va_W} (hK : va_K G vwCl ty s) (hP : va_P G vwCl ws H) (hD : va_D A ws) (hS : va_S A s.heap H locs) (hA : ∀ q : Nat, s.heap.size ≤ q → A q) (hE : Ev e A s s.heap) (isC : List Nat) (hC : isC.map (fun i => ws[i]?) = wc.map some) (hn : va_nd isC = true) {av : List Value} {U : State} (hU : U.heap = H) (hW : s.WarmedH U.vm) : va_Pc av (gPre G ty e wc H.size) av.toArray U := by
  have hF := va_free (wc := wc) hD hS hA isC hC
  have hi : isC.filterMap (fun i => ws[i]?) = wc := by
    have h1 : (isC.map (fun i => ws[i]?)).filterMap id = (wc.map some).filterMap id := by rw [hC]
    rw [List.filterMap_map, List.filterMap_map] at h1
    simpa using h1
  exact ⟨rfl, by rw [hU], by rw [hU]; exact hP.sub isC hi, va_K.moved hW.alike hK, (hD.sub isC hn hC).weaken (fun _ _ _ _ => trivial), by rw [hU]; exact hE.to hW hS hF⟩
variable {own C : String} {index maxL nL n : Nat} {y : MethodName} {bytes : ByteArray} {rm : Room} {b : Nat} {As st0 : List Value} {T : u_T} {N ci cells slots : Nat} {fs : List Value}
theorem kVi {t : FieldType} {r : Int32} (hx : p.tables.exec = Jvm.exec) (hb : c.code = cc) (hml : c.maxLocals = nL) (hown : s.vm.findClass own = some m.cls) (hts : ∀ w ∈ tb, w.before args s = true) (hM : MetI l y bytes maxL t rm (.ref b :: As) G ty e wc w1 H.size r) (hg : GoodIn tb (wsV own index C y (.code y bytes maxL (some t) :: tb))) (hc0 : rm.cells = 0) (hs0 : rm.slots = 0)
    (hd : y.cls = C ∧ y.cls ≠ "java/lang/invoke/MethodHandle" ∧ y.cls ≠ "java/lang/invoke/VarHandle" ∧ (parseMethodDescriptor y.desc).map (fun d => d.parameters.length) = some n) (hRm : rm.frames + 1 ≤ R.frames ∧ 8 + (maxL + 11) + rm.locals ≤ R.locals)
    (hK : va_K G vwCl ty s) (hP : va_P G vwCl ws H) (hD : va_D A ws) (hS : va_S A s.heap H locs) (hA : ∀ q : Nat, s.heap.size ≤ q → A q) (hE : Ev e A s s.heap) (q0 : Nat) (he : ws[q0]? = some (b, .inr (ci, fs))) (hcl : vwCl[ci]? = some (C, T, N))
    (isC isR : List Nat) (hC : isC.map (fun i => ws[i]?) = wc.map some) (hC2 : isC.map (fun i => ws'[i]?) = w1.map some) (hR : isR.map (fun i => ws'[i]?) = (isR.filterMap (fun i => ws[i]?)).map some) (nw : Nat) (hln : ws'.length = nw ∧ ws.length = nw) (hk : kOk nw isC isR = true) (hnd : va_nd isC = true)
    (hnA : As.length = n) (hst : st0 = As.reverse ++ .ref b :: rest) (hsz : ls.size = nL) (hW : (rest.map fun v => v.category).sum ≤ 8) (hcells : cells + 0 ≤ R.cells ∧ slots + 0 ≤ R.slots) (hdg : decode cc pc = .ok (.invokevirtual index, 3))
    (kk : ∀ (H1 : Heap) (locs1 : List Loc), va_P G vwCl ws' H1 → va_D A ws' → va_S A s.heap H1 locs1 → W p l ev R s m args below meth c H1 locs1 cells slots Q (F0 m (pc + 3) ls (.int r :: rest))) : W p l ev R s m args below meth c H locs cells slots Q (F0 m pc ls st0) := by
  have hF := va_free (wc := wc) hD hS hA isC hC
  refine va_calli (va_runV (As := As) (rest := rest) ⟨hx, hb, hml, hown, hts⟩ hM (cwV n hts hg rfl hc0 hs0 hd hRm) ⟨g_blind, va_recv hK hP hcl he, fun U hU hW => k_pc hK hP hD hS hA hE isC hC hnd hU hW⟩ rfl hnA hsz hst (lv_room hW) hdg hcells) hS (fun q _ h => hF q h) hF (fun rr u t H1 locs1 ht hvm hw hB hz1 hk1 hS1 => ?_)
  obtain ⟨hP1, -, hD1⟩ := hB
  rw [ht] at hP1
  obtain ⟨hP2, hD2⟩ := kjoin (ws' := ws') hP hD isC isR hC hC2 hR nw hln hk hk1 hF hP1 hD1
  subst hw
  exact kk H1 locs1 hP2 hD2 hS1
theorem kVl {r : Int64} (hx : p.tables.exec = Jvm.exec) (hb : c.code = cc) (hml : c.maxLocals = nL) (hown : s.vm.findClass own = some m.cls) (hts : ∀ w ∈ tb, w.before args s = true) (hM : MetL l y bytes maxL rm (.ref b :: As) G ty e wc w1 H.size r) (hg : GoodIn tb (wsV own index C y (.code y bytes maxL (some .long) :: tb))) (hc0 : rm.cells = 0) (hs0 : rm.slots = 0)
    (hd : y.cls = C ∧ y.cls ≠ "java/lang/invoke/MethodHandle" ∧ y.cls ≠ "java/lang/invoke/VarHandle" ∧ (parseMethodDescriptor y.desc).map (fun d => d.parameters.length) = some n) (hRm : rm.frames + 1 ≤ R.frames ∧ 8 + (maxL + 11) + rm.locals ≤ R.locals)
    (hK : va_K G vwCl ty s) (hP : va_P G vwCl ws H) (hD : va_D A ws) (hS : va_S A s.heap H locs) (hA : ∀ q : Nat, s.heap.size ≤ q → A q) (hE : Ev e A s s.heap) (q0 : Nat) (he : ws[q0]? = some (b, .inr (ci, fs))) (hcl : vwCl[ci]? = some (C, T, N))
    (isC isR : List Nat) (hC : isC.map (fun i => ws[i]?) = wc.map some) (hC2 : isC.map (fun i => ws'[i]?) = w1.map some) (hR : isR.map (fun i => ws'[i]?) = (isR.filterMap (fun i => ws[i]?)).map some) (nw : Nat) (hln : ws'.length = nw ∧ ws.length = nw) (hk : kOk nw isC isR = true) (hnd : va_nd isC = true)
    (hnA : As.length = n) (hst : st0 = As.reverse ++ .ref b :: rest) (hsz : ls.size = nL) (hW : (rest.map fun v => v.category).sum ≤ 8) (hcells : cells + 0 ≤ R.cells ∧ slots + 0 ≤ R.slots) (hdg : decode cc pc = .ok (.invokevirtual index, 3))
    (kk : ∀ (H1 : Heap) (locs1 : List Loc), va_P G vwCl ws' H1 → va_D A ws' → va_S A s.heap H1 locs1 → W p l ev R s m args below meth c H1 locs1 cells slots Q (F0 m (pc + 3) ls (.long r :: rest))) : W p l ev R s m args below meth c H locs cells slots Q (F0 m pc ls st0) := by
  have hF := va_free (wc := wc) hD hS hA isC hC
  refine va_calll (va_runV (As := As) (rest := rest) ⟨hx, hb, hml, hown, hts⟩ hM (cwV n hts hg rfl hc0 hs0 hd hRm) ⟨g_blind, va_recv hK hP hcl he, fun U hU hW => k_pc hK hP hD hS hA hE isC hC hnd hU hW⟩ rfl hnA hsz hst (lv_room hW) hdg hcells) hS (fun q _ h => hF q h) hF (fun rr u t H1 locs1 ht hvm hw hB hz1 hk1 hS1 => ?_)
  obtain ⟨hP1, -, hD1⟩ := hB
  rw [ht] at hP1
  obtain ⟨hP2, hD2⟩ := kjoin (ws' := ws') hP hD isC isR hC hC2 hR nw hln hk hk1 hF hP1 hD1
  subst hw
  exact kk H1 locs1 hP2 hD2 hS1
theorem kVv (hx : p.tables.exec = Jvm.exec) (hb : c.code = cc) (hml : c.maxLocals = nL) (hown : s.vm.findClass own = some m.cls) (hts : ∀ w ∈ tb, w.before args s = true) (hM : MetV l y bytes maxL rm (.ref b :: As) G ty e wc w1 H.size) (hg : GoodIn tb (wsV own index C y (.code y bytes maxL none :: tb))) (hc0 : rm.cells = 0) (hs0 : rm.slots = 0)
    (hd : y.cls = C ∧ y.cls ≠ "java/lang/invoke/MethodHandle" ∧ y.cls ≠ "java/lang/invoke/VarHandle" ∧ (parseMethodDescriptor y.desc).map (fun d => d.parameters.length) = some n) (hRm : rm.frames + 1 ≤ R.frames ∧ 8 + (maxL + 11) + rm.locals ≤ R.locals)
    (hK : va_K G vwCl ty s) (hP : va_P G vwCl ws H) (hD : va_D A ws) (hS : va_S A s.heap H locs) (hA : ∀ q : Nat, s.heap.size ≤ q → A q) (hE : Ev e A s s.heap) (q0 : Nat) (he : ws[q0]? = some (b, .inr (ci, fs))) (hcl : vwCl[ci]? = some (C, T, N))
    (isC isR : List Nat) (hC : isC.map (fun i => ws[i]?) = wc.map some) (hC2 : isC.map (fun i => ws'[i]?) = w1.map some) (hR : isR.map (fun i => ws'[i]?) = (isR.filterMap (fun i => ws[i]?)).map some) (nw : Nat) (hln : ws'.length = nw ∧ ws.length = nw) (hk : kOk nw isC isR = true) (hnd : va_nd isC = true)
    (hnA : As.length = n) (hst : st0 = As.reverse ++ .ref b :: rest) (hsz : ls.size = nL) (hW : (rest.map fun v => v.category).sum ≤ 8) (hcells : cells + 0 ≤ R.cells ∧ slots + 0 ≤ R.slots) (hdg : decode cc pc = .ok (.invokevirtual index, 3))
    (kk : ∀ (H1 : Heap) (locs1 : List Loc), va_P G vwCl ws' H1 → va_D A ws' → va_S A s.heap H1 locs1 → W p l ev R s m args below meth c H1 locs1 cells slots Q (F0 m (pc + 3) ls rest)) : W p l ev R s m args below meth c H locs cells slots Q (F0 m pc ls st0) := by
  have hF := va_free (wc := wc) hD hS hA isC hC
  refine va_callv (va_runV (As := As) (rest := rest) ⟨hx, hb, hml, hown, hts⟩ hM (cwV n hts hg rfl hc0 hs0 hd hRm) ⟨g_blind, va_recv hK hP hcl he, fun U hU hW => k_pc hK hP hD hS hA hE isC hC hnd hU hW⟩ rfl hnA hsz hst (lv_room hW) hdg hcells) hS (fun q _ h => hF q h) hF (fun u t H1 locs1 ht hvm hw hB hz1 hk1 hS1 => ?_)
  obtain ⟨hP1, -, hD1⟩ := hB
  rw [ht] at hP1
  obtain ⟨hP2, hD2⟩ := kjoin (ws' := ws') hP hD isC isR hC hC2 hR nw hln hk hk1 hF hP1 hD1
  exact kk H1 locs1 hP2 hD2 hS1
/-- a static call that needs no cell -/
theorem kSi {t : FieldType} {r : Int32} (hx : p.tables.exec = Jvm.exec) (hb : c.code = cc) (hml : c.maxLocals = nL) (hown : s.vm.findClass own = some m.cls) (hts : ∀ w ∈ tb, w.before args s = true) (hM : MetI l y bytes maxL t rm As G ty e [] [] H.size r) (hg : GoodIn tb (va_wsS own index y (.code y bytes maxL (some t) :: tb))) (hc0 : rm.cells = 0) (hs0 : rm.slots = 0)
    (hd : y.cls ≠ "java/lang/invoke/MethodHandle" ∧ y.cls ≠ "java/lang/invoke/VarHandle" ∧ (parseMethodDescriptor y.desc).map (fun d => d.parameters.length) = some n) (hRm : rm.frames + 1 ≤ R.frames ∧ 8 + (maxL + 11) + rm.locals ≤ R.locals)
    (hK : va_K G vwCl ty s) (hP : va_P G vwCl ws H) (hD : va_D A ws) (hS : va_S A s.heap H locs) (hA : ∀ q : Nat, s.heap.size ≤ q → A q) (hE : Ev e A s s.heap)
    (hnA : As.length = n) (hst : st0 = As.reverse ++ rest) (hsz : ls.size = nL) (hW : (rest.map fun v => v.category).sum ≤ 8) (hcells : cells + 0 ≤ R.cells ∧ slots + 0 ≤ R.slots) (hdg : decode cc pc = .ok (.invokestatic index, 3))
    (kk : ∀ (H1 : Heap) (locs1 : List Loc), va_P G vwCl ws H1 → va_D A ws → va_S A s.heap H1 locs1 → W p l ev R s m args below meth c H1 locs1 cells slots Q (F0 m (pc + 3) ls (.int r :: rest))) : W p l ev R s m args below meth c H locs cells slots Q (F0 m pc ls st0) := by
  have hF := va_free (wc := []) hD hS hA [] rfl
  refine va_calli (va_runS (As := As) (rest := rest) ⟨hx, hb, hml, hown, hts⟩ hM (va_cwS n hts hg rfl hc0 hs0 hd hRm) ⟨g_blind, fun U hU hW => k_pc hK hP hD hS hA hE [] rfl rfl hU hW⟩ rfl hnA hsz hst (lv_room hW) hdg hcells) hS (fun q _ h => hF q h) hF (fun rr u t H1 locs1 ht hvm hw hB hz1 hk1 hS1 => ?_)
  subst hw
  refine kk H1 locs1 (hP.kept (fun k q hq => hk1 q.1 (hP k q hq).lt (fun h => ?_))) hD hS1
  rcases h with ⟨k, e2, h⟩ | h
  · cases h
  · have := (hP k q hq).lt
    omega
/-- a static call that answers nothing, over cells -/
theorem kSv (hx : p.tables.exec = Jvm.exec) (hb : c.code = cc) (hml : c.maxLocals = nL) (hown : s.vm.findClass own = some m.cls) (hts : ∀ w ∈ tb, w.before args s = true) (hM : MetV l y bytes maxL rm As G ty e wc w1 H.size) (hg : GoodIn tb (va_wsS own index y (.code y bytes maxL none :: tb))) (hc0 : rm.cells = 0) (hs0 : rm.slots = 0)
    (hd : y.cls ≠ "java/lang/invoke/MethodHandle" ∧ y.cls ≠ "java/lang/invoke/VarHandle" ∧ (parseMethodDescriptor y.desc).map (fun d => d.parameters.length) = some n) (hRm : rm.frames + 1 ≤ R.frames ∧ 8 + (maxL + 11) + rm.locals ≤ R.locals)
    (hK : va_K G vwCl ty s) (hP : va_P G vwCl ws H) (hD : va_D A ws) (hS : va_S A s.heap H locs) (hA : ∀ q : Nat, s.heap.size ≤ q → A q) (hE : Ev e A s s.heap)
    (isC isR : List Nat) (hC : isC.map (fun i => ws[i]?) = wc.map some) (hC2 : isC.map (fun i => ws'[i]?) = w1.map some) (hR : isR.map (fun i => ws'[i]?) = (isR.filterMap (fun i => ws[i]?)).map some) (nw : Nat) (hln : ws'.length = nw ∧ ws.length = nw) (hk : kOk nw isC isR = true) (hnd : va_nd isC = true)
    (hnA : As.length = n) (hst : st0 = As.reverse ++ rest) (hsz : ls.size = nL) (hW : (rest.map fun v => v.category).sum ≤ 8) (hcells : cells + 0 ≤ R.cells ∧ slots + 0 ≤ R.slots) (hdg : decode cc pc = .ok (.invokestatic index, 3))
    (kk : ∀ (H1 : Heap) (locs1 : List Loc), va_P G vwCl ws' H1 → va_D A ws' → va_S A s.heap H1 locs1 → W p l ev R s m args below meth c H1 locs1 cells slots Q (F0 m (pc + 3) ls rest)) : W p l ev R s m args below meth c H locs cells slots Q (F0 m pc ls st0) := by
  have hF := va_free (wc := wc) hD hS hA isC hC
  refine va_callv (va_runS (As := As) (rest := rest) ⟨hx, hb, hml, hown, hts⟩ hM (va_cwS n hts hg rfl hc0 hs0 hd hRm) ⟨g_blind, fun U hU hW => k_pc hK hP hD hS hA hE isC hC hnd hU hW⟩ rfl hnA hsz hst (lv_room hW) hdg hcells) hS (fun q _ h => hF q h) hF (fun u t H1 locs1 ht hvm hw hB hz1 hk1 hS1 => ?_)
  obtain ⟨hP1, -, hD1⟩ := hB
  rw [ht] at hP1
  obtain ⟨hP2, hD2⟩ := kjoin (ws' := ws') hP hD isC isR hC hC2 hR nw hln hk hk1 hF hP1 hD1
  exact kk H1 locs1 hP2 hD2 hS1
end KR
theorem nk31 : (("ThrusterSelector", 169, "ThrusterSelector$State", "pulses", "[I", "ThrusterSelector") : String × Nat × String × String × String × String) ∈ nwF := by decide +kernel
theorem nk33 : (("ThrusterSelector", 95, "ThrusterSelector$State", "tanks", "[I", "ThrusterSelector") : String × Nat × String × String × String × String) ∈ nwF := by decide +kernel
theorem nk36 : (("ThrusterSelector", 160, "ThrusterSelector$State", "queue", "[I", "ThrusterSelector") : String × Nat × String × String × String × String) ∈ nwF := by decide +kernel
theorem nk38 : (("ThrusterSelector", 226, "ThrusterSelector$State", "impulses", "[I", "ThrusterSelector") : String × Nat × String × String × String × String) ∈ nwF := by decide +kernel
theorem nk40 : (("ThrusterSelector", 175, "ThrusterSelector$State", "sums", "[J", "ThrusterSelector") : String × Nat × String × String × String × String) ∈ nwF := by decide +kernel
theorem nk41 : (("ThrusterSelector$Selection", 38, "ThrusterSelector$State", "thrusterCount", "I", "ThrusterSelector") : String × Nat × String × String × String × String) ∈ nwF := by decide +kernel
theorem nk42 : (("ThrusterSelector", 51, "ThrusterSelector$State", "thrusterCount", "I", "ThrusterSelector") : String × Nat × String × String × String × String) ∈ nwF := by decide +kernel
theorem nk45 : (("ThrusterSelector", 109, "ThrusterSelector$State", "setCount", "I", "ThrusterSelector") : String × Nat × String × String × String × String) ∈ nwF := by decide +kernel
theorem nk47 : (("ThrusterSelector", 157, "ThrusterSelector$State", "requestCount", "I", "ThrusterSelector") : String × Nat × String × String × String × String) ∈ nwF := by decide +kernel
theorem nk49 : (("ThrusterSelector", 166, "ThrusterSelector$State", "cycleNumber", "I", "ThrusterSelector") : String × Nat × String × String × String × String) ∈ nwF := by decide +kernel
theorem nk90 : (("ThrusterSelector", 193, "ThrusterSelector$History", "count", "I", "ThrusterSelector") : String × Nat × String × String × String × String) ∈ nwF := by decide +kernel
theorem nk112 : (("ThrusterSelector", 136, "ThrusterSelector$Selection", "mask", "I", "ThrusterSelector") : String × Nat × String × String × String × String) ∈ nwF := by decide +kernel
theorem nk115 : (("ThrusterSelector", 132, "ThrusterSelector$Selection", "found", "Z", "ThrusterSelector") : String × Nat × String × String × String × String) ∈ nwF := by decide +kernel
theorem nk142 : (("ThrusterSelector", 211, "ThrusterSelector$Text", "parts", "[I", "ThrusterSelector") : String × Nat × String × String × String × String) ∈ nwF := by decide +kernel
theorem nk144 : (("ThrusterSelector", 214, "ThrusterSelector$Text", "urgent", "[Z", "ThrusterSelector") : String × Nat × String × String × String × String) ∈ nwF := by decide +kernel
theorem nk146 : (("ThrusterSelector", 202, "ThrusterSelector$Text", "length", "I", "ThrusterSelector") : String × Nat × String × String × String × String) ∈ nwF := by decide +kernel
theorem nk148 : (("ThrusterSelector", 208, "ThrusterSelector$Text", "readCount", "I", "ThrusterSelector") : String × Nat × String × String × String × String) ∈ nwF := by decide +kernel
theorem nk260 : (("ThrusterSelector$State", 71, "ThrusterSelector", "DIRECTION_X", "[I", "ThrusterSelector") : String × Nat × String × String × String × String) ∈ nwF := by decide +kernel
theorem nk262 : (("ThrusterSelector$State", 74, "ThrusterSelector", "DIRECTION_Y", "[I", "ThrusterSelector") : String × Nat × String × String × String × String) ∈ nwF := by decide +kernel
end
section
/-! the cells of the system: an object's fields in the order of the tables, its arrays behind it -/
abbrev SV : Type := (Nat → Int32) × (Nat → Int32) × (Nat → Int32) × (Nat → Int32) × (Nat → Int32) × (Nat → Int32) × (Nat → Int64) × Int32 × Int32 × Int32 × Int32 × Int32
def wT (aT sS sH sE sX : Nat) : va_W := [(aT, .inr (4, [.ref sS, .ref sH, .ref sE, .ref sX]))]
def wS (cI cJ : ClassId) (a : Nat → Nat) (pr pu ta se qu im : Nat → Int32) (su : Nat → Int64) (tc sc rc cn so : Int32) : va_W :=
  [(a 0, .inr (2, [.ref (a 1), .ref (a 2), .ref (a 3), .ref (a 4), .ref (a 5), .ref (a 6), .ref (a 7), .int tc, .int sc, .int rc, .int cn, .int so])),
   (a 1, .inl (cI, 56, .inl pr)), (a 2, .inl (cI, 8, .inl pu)), (a 3, .inl (cI, 2, .inl ta)), (a 4, .inl (cI, 8, .inl se)), (a 5, .inl (cI, 30, .inl qu)), (a 6, .inl (cI, 9, .inl im)), (a 7, .inl (cJ, 3, .inr (.inl su)))]
def wSv (cI cJ : ClassId) (a : Nat → Nat) (u : SV) : va_W := wS cI cJ a u.1 u.2.1 u.2.2.1 u.2.2.2.1 u.2.2.2.2.1 u.2.2.2.2.2.1 u.2.2.2.2.2.2.1 u.2.2.2.2.2.2.2.1 u.2.2.2.2.2.2.2.2.1 u.2.2.2.2.2.2.2.2.2.1 u.2.2.2.2.2.2.2.2.2.2.1 u.2.2.2.2.2.2.2.2.2.2.2
def rwF (aR : Nat → Nat) : Nat → Option Nat := fun i => if i < 9 then some (aR i) else none
def wE (cI cJ cA : ClassId) (a aR : Nat → Nat) (un : Nat → Nat → Int32) (tp : Nat → Int32) (sh : Nat → Int64) (de co : Int64) (ma ru fo : Int32) : va_W :=
  [(a 0, .inr (1, [.ref (a 1), .ref (a 2), .ref (a 3), .long de, .long co, .int ma, .int ru, .int fo])),
   (a 1, .inl (cA, 9, .inr (.inr (.inr (.inr (rwF aR)))))), (a 2, .inl (cI, 8, .inl tp)), (a 3, .inl (cJ, 8, .inr (.inl sh))),
   (aR 0, .inl (cI, 3, .inl (un 0))), (aR 1, .inl (cI, 3, .inl (un 1))), (aR 2, .inl (cI, 3, .inl (un 2))), (aR 3, .inl (cI, 3, .inl (un 3))), (aR 4, .inl (cI, 3, .inl (un 4))), (aR 5, .inl (cI, 3, .inl (un 5))), (aR 6, .inl (cI, 3, .inl (un 6))), (aR 7, .inl (cI, 3, .inl (un 7))), (aR 8, .inl (cI, 3, .inl (un 8)))]
def wX (cI cZ : ClassId) (a : Nat → Nat) (bt pa ug : Nat → Int32) (le rn ax fa : Int32) : va_W :=
  [(a 0, .inr (3, [.ref (a 1), .ref (a 2), .ref (a 3), .int le, .int rn, .int ax, .int fa])), (a 1, .inl (cI, 100, .inl bt)), (a 2, .inl (cI, 30, .inl pa)), (a 3, .inl (cZ, 10, .inl ug))]
def hiF (hA : Nat → Nat → Nat) : Nat → Option Nat := fun i => if i < 5 then some (hA i 0) else none
def wH (cI cJ cO : ClassId) (a : Nat → Nat) (hA : Nat → Nat → Nat) (hs : Nat → SV) (ol ct : Int32) : va_W :=
  [(a 0, .inr (0, [.ref (a 1), .int ol, .int ct])), (a 1, .inl (cO, 5, .inr (.inr (.inr (.inr (hiF hA))))))] ++ (wSv cI cJ (hA 0) (hs 0) ++ (wSv cI cJ (hA 1) (hs 1) ++ (wSv cI cJ (hA 2) (hs 2) ++ (wSv cI cJ (hA 3) (hs 3) ++ wSv cI cJ (hA 4) (hs 4)))))
def wM (cI cJ : ClassId) (a : Nat → Nat) (row : Nat → Int32) (tot tab goa bes tic : Nat → Int64) (txt par : Nat → Int32) (sav : Int32) (bwh bpr : Int64) (bse len mat ask : Int32) (hh : Int64) : va_W :=
  [(a 0, .inr (5, [.ref (a 1), .ref (a 2), .int sav, .ref (a 3), .ref (a 4), .ref (a 5), .long bwh, .long bpr, .int bse, .ref (a 6), .ref (a 7), .int len, .int mat, .ref (a 8), .int ask, .long hh])),
   (a 1, .inl (cI, 708, .inl row)), (a 2, .inl (cJ, 18, .inr (.inl tot))), (a 3, .inl (cJ, 9, .inr (.inl tab))), (a 4, .inl (cJ, 3, .inr (.inl goa))), (a 5, .inl (cJ, 8, .inr (.inl bes))), (a 6, .inl (cJ, 3, .inr (.inl tic))), (a 7, .inl (cI, 100, .inl txt)), (a 8, .inl (cI, 3, .inl par))]
def wIa (cI : ClassId) (a n : Nat) (f : Nat → Int32) : va_W := [(a, .inl (cI, n, .inl f))]
def wLa (cJ : ClassId) (a n : Nat) (f : Nat → Int64) : va_W := [(a, .inl (cJ, n, .inr (.inl f)))]
def updR (un : Nat → Nat → Int32) (k : Nat) (f : Nat → Int32) : Nat → Nat → Int32 := fun j => if j = k then f else un j
def updH (hs : Nat → SV) (k : Nat) (u : SV) : Nat → SV := fun j => if j = k then u else hs j
theorem rwF_at {aR : Nat → Nat} {k : Nat} (h : k < 9) : rwF aR k = some (aR k) := if_pos h
theorem hiF_at {hA : Nat → Nat → Nat} {k : Nat} (h : k < 5) : hiF hA k = some (hA k 0) := if_pos h
theorem k_9 {P : Nat → Prop} (h0 : P 0) (h1 : P 1) (h2 : P 2) (h3 : P 3) (h4 : P 4) (h5 : P 5) (h6 : P 6) (h7 : P 7) (h8 : P 8) {k : Nat} (h : k < 9) : P k := by
  match k, h with
  | 0, _ => exact h0
  | 1, _ => exact h1
  | 2, _ => exact h2
  | 3, _ => exact h3
  | 4, _ => exact h4
  | 5, _ => exact h5
  | 6, _ => exact h6
  | 7, _ => exact h7
  | 8, _ => exact h8
theorem wE_row {cI cJ cA : ClassId} {a aR : Nat → Nat} {un : Nat → Nat → Int32} {tp : Nat → Int32} {sh : Nat → Int64} {de co : Int64} {ma ru fo : Int32} {r : va_W} {k : Nat} (h : k < 9) : (wE cI cJ cA a aR un tp sh de co ma ru fo ++ r)[4 + k]? = some (aR k, .inl (cI, 3, .inl (un k))) :=
  k_9 (P := fun k => (wE cI cJ cA a aR un tp sh de co ma ru fo ++ r)[4 + k]? = some (aR k, .inl (cI, 3, .inl (un k)))) rfl rfl rfl rfl rfl rfl rfl rfl rfl h
theorem wE_set {cI cJ cA : ClassId} {a aR : Nat → Nat} {un : Nat → Nat → Int32} {tp : Nat → Int32} {sh : Nat → Int64} {de co : Int64} {ma ru fo : Int32} {r : va_W} {k : Nat} (h : k < 9) (f : Nat → Int32) : (wE cI cJ cA a aR un tp sh de co ma ru fo ++ r).set (4 + k) (aR k, .inl (cI, 3, .inl f)) = wE cI cJ cA a aR (updR un k f) tp sh de co ma ru fo ++ r :=
  k_9 (P := fun k => (wE cI cJ cA a aR un tp sh de co ma ru fo ++ r).set (4 + k) (aR k, .inl (cI, 3, .inl f)) = wE cI cJ cA a aR (updR un k f) tp sh de co ma ru fo ++ r) rfl rfl rfl rfl rfl rfl rfl rfl rfl h
theorem k_5 {k : Nat} (h : k < 5) : k = 0 ∨ k = 1 ∨ k = 2 ∨ k = 3 ∨ k = 4 := by omega
end
section
/-! X4_isWithin -/
def f_X4_isWithin (p0 : Int32) (p1 : Int32) (p2 : Int32) : Option (Int32) :=
  if p0 < p1 then (some 0) else (if p2 < p0 then (some 0) else (some 1))

set_option maxHeartbeats 4000000 in
set_option maxRecDepth 100000 in
theorem c_X4_isWithin (l : Launch) (G : va_G) (cI cJ cZ cO cA : ClassId) (e : Nat × Nat) (sz : Nat) (p0 : Int32) (p1 : Int32) (p2 : Int32) {res : Int32} (hf : f_X4_isWithin p0 p1 p2 = some res) : MetI l yX4_isWithin cX4_isWithin 3 .boolean ({ frames := 0, cells := 0, slots := 0, locals := 0 } : Room) [.int p0, .int p1, .int p2] G (ty5 cI cJ cZ cO cA) e (([] : va_W)) (([] : va_W)) sz res := by
  refine g_body (QQ := fun A => (qI G (ty5 cI cJ cZ cO cA) A (([] : va_W)) res)) (own := RX4) (by decide) rfl (Nat.le_of_ble_eq_true rfl) ?_
  intro p ev s m below meth c A ls hx hb hr hml hown hts hlk hA hP hD hS hK hE hl
  have hl : lv_has ls 3 [(0, .int p0), (1, .int p1), (2, .int p2)] := hl
  show W p l ev ({ frames := 0, cells := 0, slots := 0, locals := 0 } : Room) s m ([.int p0, .int p1, .int p2] : List Value).toArray below meth c s.heap [] 0 0 (MQ below (qI G (ty5 cI cJ cZ cO cA) A (([] : va_W)) res) ([.int p0, .int p1, .int p2] : List Value).toArray s 0 0 A) (F0 m 0 ls [])
  have h := hf
  unfold f_X4_isWithin at h
  refine lv_iload_n hx hb dX4_isWithin_0 rfl (lv_at hl 0 rfl) ?_
  refine lv_iload_n hx hb dX4_isWithin_1 rfl (lv_at hl 1 rfl) ?_
  refine lv_icmp_lt (tgt := 14) hx hb dX4_isWithin_2 (by decide) (fun c1 => ?_) (fun c1 => ?_)
  · replace h := (if_pos c1).symm.trans h
    refine lv_iconst (v := 0) hx hb dX4_isWithin_14 (by decide) ?_
    rw [← Option.some.inj h]
    exact kri hx hb hr hlk rfl rfl hP hD hS hK dX4_isWithin_15
  · replace h := (if_neg c1).symm.trans h
    refine lv_iload_n hx hb dX4_isWithin_5 rfl (lv_at hl 0 rfl) ?_
    refine lv_iload_n hx hb dX4_isWithin_6 rfl (lv_at hl 2 rfl) ?_
    refine lv_icmp_gt (tgt := 14) hx hb dX4_isWithin_7 (by decide) (fun c2 => ?_) (fun c2 => ?_)
    · replace h := (if_pos c2).symm.trans h
      refine lv_iconst (v := 0) hx hb dX4_isWithin_14 (by decide) ?_
      rw [← Option.some.inj h]
      exact kri hx hb hr hlk rfl rfl hP hD hS hK dX4_isWithin_15
    · replace h := (if_neg c2).symm.trans h
      refine lv_iconst (v := 1) hx hb dX4_isWithin_10 (by decide) ?_
      refine lv_goto (tgt := 15) hx hb dX4_isWithin_11 (by decide) ?_
      rw [← Option.some.inj h]
      exact kri hx hb hr hlk rfl rfl hP hD hS hK dX4_isWithin_15

/-! X4_isTank -/
def f_X4_isTank (p0 : Int32) : Option (Int32) :=
  (f_X4_isWithin p0 0 1).bind (fun q1 => gd (zb q1) (some q1))

set_option maxHeartbeats 4000000 in
set_option maxRecDepth 100000 in
theorem c_X4_isTank (l : Launch) (G : va_G) (cI cJ cZ cO cA : ClassId) (e : Nat × Nat) (sz : Nat) (p0 : Int32) {res : Int32} (hf : f_X4_isTank p0 = some res) : MetI l yX4_isTank cX4_isTank 1 .boolean ({ frames := 1, cells := 0, slots := 0, locals := 22 } : Room) [.int p0] G (ty5 cI cJ cZ cO cA) e (([] : va_W)) (([] : va_W)) sz res := by
  refine g_body (QQ := fun A => (qI G (ty5 cI cJ cZ cO cA) A (([] : va_W)) res)) (own := RX4) (by decide) rfl (Nat.le_of_ble_eq_true rfl) ?_
  intro p ev s m below meth c A ls hx hb hr hml hown hts hlk hA hP hD hS hK hE hl
  have hl : lv_has ls 1 [(0, .int p0)] := hl
  show W p l ev ({ frames := 1, cells := 0, slots := 0, locals := 22 } : Room) s m ([.int p0] : List Value).toArray below meth c s.heap [] 0 0 (MQ below (qI G (ty5 cI cJ cZ cO cA) A (([] : va_W)) res) ([.int p0] : List Value).toArray s 0 0 A) (F0 m 0 ls [])
  have h := hf
  unfold f_X4_isTank at h
  refine lv_iload_n hx hb dX4_isTank_0 rfl (lv_at hl 0 rfl) ?_
  refine lv_iconst (v := 0) hx hb dX4_isTank_1 (by decide) ?_
  refine lv_iconst (v := 1) hx hb dX4_isTank_2 (by decide) ?_
  obtain ⟨q1, hq1, h⟩ := bd_s h
  refine kSi (n := 3) (As := [.int p0, .int 0, .int 1]) (rest := []) hx hb hml hown hts (c_X4_isWithin l G cI cJ cZ cO cA e _ p0 0 1 hq1) (tb_S kw187 kw188 kw1 kw189) rfl rfl (by decide +kernel) ⟨Nat.le_of_ble_eq_true rfl, Nat.le_of_ble_eq_true rfl⟩ hK hP hD hS hA hE rfl rfl hl.1 (Nat.le_of_ble_eq_true rfl) ⟨Nat.zero_le _, Nat.zero_le _⟩ dX4_isTank_3 (fun H locs hP hD hS => ?_)
  obtain ⟨g2, h⟩ := gd_s h
  rw [← Option.some.inj h]
  exact kri hx hb hr hlk (zb_s g2) rfl hP hD hS hK dX4_isTank_6

/-! X4_isAtMost -/
def f_X4_isAtMost (p0 : Int32) (p1 : Int32) : Option (Int32) :=
  (f_X4_isWithin p0 (-p1) p1).bind (fun q1 => gd (zb q1) (some q1))

set_option maxHeartbeats 4000000 in
set_option maxRecDepth 100000 in
theorem c_X4_isAtMost (l : Launch) (G : va_G) (cI cJ cZ cO cA : ClassId) (e : Nat × Nat) (sz : Nat) (p0 : Int32) (p1 : Int32) {res : Int32} (hf : f_X4_isAtMost p0 p1 = some res) : MetI l yX4_isAtMost cX4_isAtMost 2 .boolean ({ frames := 1, cells := 0, slots := 0, locals := 22 } : Room) [.int p0, .int p1] G (ty5 cI cJ cZ cO cA) e (([] : va_W)) (([] : va_W)) sz res := by
  refine g_body (QQ := fun A => (qI G (ty5 cI cJ cZ cO cA) A (([] : va_W)) res)) (own := RX4) (by decide) rfl (Nat.le_of_ble_eq_true rfl) ?_
  intro p ev s m below meth c A ls hx hb hr hml hown hts hlk hA hP hD hS hK hE hl
  have hl : lv_has ls 2 [(0, .int p0), (1, .int p1)] := hl
  show W p l ev ({ frames := 1, cells := 0, slots := 0, locals := 22 } : Room) s m ([.int p0, .int p1] : List Value).toArray below meth c s.heap [] 0 0 (MQ below (qI G (ty5 cI cJ cZ cO cA) A (([] : va_W)) res) ([.int p0, .int p1] : List Value).toArray s 0 0 A) (F0 m 0 ls [])
  have h := hf
  unfold f_X4_isAtMost at h
  refine lv_iload_n hx hb dX4_isAtMost_0 rfl (lv_at hl 0 rfl) ?_
  refine lv_iload_n hx hb dX4_isAtMost_1 rfl (lv_at hl 1 rfl) ?_
  refine lv_ineg hx hb dX4_isAtMost_2 ?_
  refine lv_iload_n hx hb dX4_isAtMost_3 rfl (lv_at hl 1 rfl) ?_
  obtain ⟨q1, hq1, h⟩ := bd_s h
  refine kSi (n := 3) (As := [.int p0, .int (-p1), .int p1]) (rest := []) hx hb hml hown hts (c_X4_isWithin l G cI cJ cZ cO cA e _ p0 (-p1) p1 hq1) (tb_S kw187 kw188 kw1 kw189) rfl rfl (by decide +kernel) ⟨Nat.le_of_ble_eq_true rfl, Nat.le_of_ble_eq_true rfl⟩ hK hP hD hS hA hE rfl rfl hl.1 (Nat.le_of_ble_eq_true rfl) ⟨Nat.zero_le _, Nat.zero_le _⟩ dX4_isAtMost_4 (fun H locs hP hD hS => ?_)
  obtain ⟨g2, h⟩ := gd_s h
  rw [← Option.some.inj h]
  exact kri hx hb hr hlk (zb_s g2) rfl hP hD hS hK dX4_isAtMost_7

/-! X2_copyFrom -/
def f_X2_copyFrom (opr : Nat → Int32) (opu : Nat → Int32) (ota : Nat → Int32) (ose : Nat → Int32) (oqu : Nat → Int32) (oim : Nat → Int32) (osu : Nat → Int64) (otc : Int32) (osc : Int32) (orc : Int32) (ocn : Int32) (oso : Int32) (pr : Nat → Int32) (pu : Nat → Int32) (ta : Nat → Int32) (se : Nat → Int32) (qu : Nat → Int32) (im : Nat → Int32) (su : Nat → Int64) (tc : Int32) (sc : Int32) (rc : Int32) (cn : Int32) (so : Int32) : Option ((Nat → Int32) × (Nat → Int32) × (Nat → Int32) × (Nat → Int32) × (Nat → Int32) × (Nat → Int32) × (Nat → Int64) × Int32 × Int32 × Int32 × Int32 × Int32) :=
  gd (cpk 0 0 56 56 56) (gd (cpk 0 0 8 8 8) (gd (cpk 0 0 2 2 2) (gd (cpk 0 0 8 8 8) (gd (cpk 0 0 30 30 30) (gd (cpk 0 0 9 9 9) (gd (cpk 0 0 3 3 3) (some ((va_cpy opr pr (0 : Int32).toNatClampNeg (0 : Int32).toNatClampNeg (56 : Int32).toNatClampNeg), (va_cpy opu pu (0 : Int32).toNatClampNeg (0 : Int32).toNatClampNeg (8 : Int32).toNatClampNeg), (va_cpy ota ta (0 : Int32).toNatClampNeg (0 : Int32).toNatClampNeg (2 : Int32).toNatClampNeg), (va_cpy ose se (0 : Int32).toNatClampNeg (0 : Int32).toNatClampNeg (8 : Int32).toNatClampNeg), (va_cpy oqu qu (0 : Int32).toNatClampNeg (0 : Int32).toNatClampNeg (30 : Int32).toNatClampNeg), (va_cpy oim im (0 : Int32).toNatClampNeg (0 : Int32).toNatClampNeg (9 : Int32).toNatClampNeg), (va_cpy osu su (0 : Int32).toNatClampNeg (0 : Int32).toNatClampNeg (3 : Int32).toNatClampNeg), otc, osc, orc, ocn, oso))))))))

set_option maxHeartbeats 4000000 in
set_option maxRecDepth 100000 in
theorem c_X2_copyFrom (l : Launch) (G : va_G) (cI cJ cZ cO cA : ClassId) (e : Nat × Nat) (aS : Nat → Nat) (aO : Nat → Nat) (sz : Nat) (pr : Nat → Int32) (pu : Nat → Int32) (ta : Nat → Int32) (se : Nat → Int32) (qu : Nat → Int32) (im : Nat → Int32) (su : Nat → Int64) (tc : Int32) (sc : Int32) (rc : Int32) (cn : Int32) (so : Int32) (opr : Nat → Int32) (opu : Nat → Int32) (ota : Nat → Int32) (ose : Nat → Int32) (oqu : Nat → Int32) (oim : Nat → Int32) (osu : Nat → Int64) (otc : Int32) (osc : Int32) (orc : Int32) (ocn : Int32) (oso : Int32) {res : (Nat → Int32) × (Nat → Int32) × (Nat → Int32) × (Nat → Int32) × (Nat → Int32) × (Nat → Int32) × (Nat → Int64) × Int32 × Int32 × Int32 × Int32 × Int32} (hf : f_X2_copyFrom opr opu ota ose oqu oim osu otc osc orc ocn oso pr pu ta se qu im su tc sc rc cn so = some res) : MetV l yX2_copyFrom cX2_copyFrom 2 ({ frames := 1, cells := 0, slots := 0, locals := 40 } : Room) [.ref (aS 0), .ref (aO 0)] G (ty5 cI cJ cZ cO cA) e (wS cI cJ aS pr pu ta se qu im su tc sc rc cn so ++ (wS cI cJ aO opr opu ota ose oqu oim osu otc osc orc ocn oso ++ ([] : va_W))) (wS cI cJ aS res.1 res.2.1 res.2.2.1 res.2.2.2.1 res.2.2.2.2.1 res.2.2.2.2.2.1 res.2.2.2.2.2.2.1 res.2.2.2.2.2.2.2.1 res.2.2.2.2.2.2.2.2.1 res.2.2.2.2.2.2.2.2.2.1 res.2.2.2.2.2.2.2.2.2.2.1 res.2.2.2.2.2.2.2.2.2.2.2 ++ (wS cI cJ aO opr opu ota ose oqu oim osu otc osc orc ocn oso ++ ([] : va_W))) sz := by
  refine g_body (QQ := fun A => (qV G (ty5 cI cJ cZ cO cA) A (wS cI cJ aS res.1 res.2.1 res.2.2.1 res.2.2.2.1 res.2.2.2.2.1 res.2.2.2.2.2.1 res.2.2.2.2.2.2.1 res.2.2.2.2.2.2.2.1 res.2.2.2.2.2.2.2.2.1 res.2.2.2.2.2.2.2.2.2.1 res.2.2.2.2.2.2.2.2.2.2.1 res.2.2.2.2.2.2.2.2.2.2.2 ++ (wS cI cJ aO opr opu ota ose oqu oim osu otc osc orc ocn oso ++ ([] : va_W))))) (own := RX2) (by decide) rfl (Nat.le_of_ble_eq_true rfl) ?_
  intro p ev s m below meth c A ls hx hb hr hml hown hts hlk hA hP hD hS hK hE hl
  have hl : lv_has ls 2 [(0, .ref (aS 0)), (1, .ref (aO 0))] := hl
  show W p l ev ({ frames := 1, cells := 0, slots := 0, locals := 40 } : Room) s m ([.ref (aS 0), .ref (aO 0)] : List Value).toArray below meth c s.heap [] 0 0 (MQ below (qV G (ty5 cI cJ cZ cO cA) A (wS cI cJ aS res.1 res.2.1 res.2.2.1 res.2.2.2.1 res.2.2.2.2.1 res.2.2.2.2.2.1 res.2.2.2.2.2.2.1 res.2.2.2.2.2.2.2.1 res.2.2.2.2.2.2.2.2.1 res.2.2.2.2.2.2.2.2.2.1 res.2.2.2.2.2.2.2.2.2.2.1 res.2.2.2.2.2.2.2.2.2.2.2 ++ (wS cI cJ aO opr opu ota ose oqu oim osu otc osc orc ocn oso ++ ([] : va_W)))) ([.ref (aS 0), .ref (aO 0)] : List Value).toArray s 0 0 A) (F0 m 0 ls [])
  have h := hf
  unfold f_X2_copyFrom at h
  refine lv_aload_n hx hb dX2_copyFrom_0 rfl (lv_at hl 1 rfl) ?_
  refine va_get (D := G) (ci := 2) (v := .ref (aO 1)) (C := RX2) (T := TX2) (N := 12) hx hb hts uX2 hown hK hP 8 rfl rfl 0 (by decide) (hts _ kw29) (fun _ h9 => h9) rfl dX2_copyFrom_1 ?_
  refine lv_iconst (v := 0) hx hb dX2_copyFrom_4 (by decide) ?_
  refine lv_aload_n hx hb dX2_copyFrom_5 rfl (lv_at hl 0 rfl) ?_
  refine va_get (D := G) (ci := 2) (v := .ref (aS 1)) (C := RX2) (T := TX2) (N := 12) hx hb hts uX2 hown hK hP 0 rfl rfl 0 (by decide) (hts _ kw29) (fun _ h9 => h9) rfl dX2_copyFrom_6 ?_
  refine lv_iconst (v := 0) hx hb dX2_copyFrom_9 (by decide) ?_
  refine lv_aload_n hx hb dX2_copyFrom_10 rfl (lv_at hl 0 rfl) ?_
  refine va_get (D := G) (ci := 2) (v := .ref (aS 1)) (C := RX2) (T := TX2) (N := 12) hx hb hts uX2 hown hK hP 0 rfl rfl 0 (by decide) (hts _ kw29) (fun _ h9 => h9) rfl dX2_copyFrom_11 ?_
  refine va_alen (v := 56) hx hb hK hP 1 0 rfl rfl rfl dX2_copyFrom_14 ?_
  obtain ⟨g1, h⟩ := gd_s h
  have k1 := cpk_s g1
  refine va_copyi hx hb (hml.trans hl.1.symm) hown (hts _ kw204) (hts _ kw206) (hts _ kw205) (hts _ kw8) hK hP hD hS 9 1 0 0 rfl rfl rfl rfl rfl k1.1 k1.2.1 k1.2.2.1 k1.2.2.2.1 k1.2.2.2.2 (fun _ _ => rfl) (Nat.le_of_ble_eq_true rfl) (Nat.le_of_ble_eq_true rfl) dX2_copyFrom_15 (fun H locs hP hD hS => ?_)
  have hP : va_P G vwCl (wS cI cJ aS (va_cpy opr pr (0 : Int32).toNatClampNeg (0 : Int32).toNatClampNeg (56 : Int32).toNatClampNeg) pu ta se qu im su tc sc rc cn so ++ (wS cI cJ aO opr opu ota ose oqu oim osu otc osc orc ocn oso ++ ([] : va_W))) H := hP
  have hD : va_D A (wS cI cJ aS (va_cpy opr pr (0 : Int32).toNatClampNeg (0 : Int32).toNatClampNeg (56 : Int32).toNatClampNeg) pu ta se qu im su tc sc rc cn so ++ (wS cI cJ aO opr opu ota ose oqu oim osu otc osc orc ocn oso ++ ([] : va_W))) := hD
  refine lv_aload_n hx hb dX2_copyFrom_18 rfl (lv_at hl 1 rfl) ?_
  refine va_get (D := G) (ci := 2) (v := .ref (aO 2)) (C := RX2) (T := TX2) (N := 12) hx hb hts uX2 hown hK hP 8 rfl rfl 1 (by decide) (hts _ kw30) (fun _ h9 => h9) rfl dX2_copyFrom_19 ?_
  refine lv_iconst (v := 0) hx hb dX2_copyFrom_22 (by decide) ?_
  refine lv_aload_n hx hb dX2_copyFrom_23 rfl (lv_at hl 0 rfl) ?_
  refine va_get (D := G) (ci := 2) (v := .ref (aS 2)) (C := RX2) (T := TX2) (N := 12) hx hb hts uX2 hown hK hP 0 rfl rfl 1 (by decide) (hts _ kw30) (fun _ h9 => h9) rfl dX2_copyFrom_24 ?_
  refine lv_iconst (v := 0) hx hb dX2_copyFrom_27 (by decide) ?_
  refine lv_aload_n hx hb dX2_copyFrom_28 rfl (lv_at hl 0 rfl) ?_
  refine va_get (D := G) (ci := 2) (v := .ref (aS 2)) (C := RX2) (T := TX2) (N := 12) hx hb hts uX2 hown hK hP 0 rfl rfl 1 (by decide) (hts _ kw30) (fun _ h9 => h9) rfl dX2_copyFrom_29 ?_
  refine va_alen (v := 8) hx hb hK hP 2 0 rfl rfl rfl dX2_copyFrom_32 ?_
  obtain ⟨g2, h⟩ := gd_s h
  have k2 := cpk_s g2
  refine va_copyi hx hb (hml.trans hl.1.symm) hown (hts _ kw204) (hts _ kw206) (hts _ kw205) (hts _ kw8) hK hP hD hS 10 2 0 0 rfl rfl rfl rfl rfl k2.1 k2.2.1 k2.2.2.1 k2.2.2.2.1 k2.2.2.2.2 (fun _ _ => rfl) (Nat.le_of_ble_eq_true rfl) (Nat.le_of_ble_eq_true rfl) dX2_copyFrom_33 (fun H locs hP hD hS => ?_)
  have hP : va_P G vwCl (wS cI cJ aS (va_cpy opr pr (0 : Int32).toNatClampNeg (0 : Int32).toNatClampNeg (56 : Int32).toNatClampNeg) (va_cpy opu pu (0 : Int32).toNatClampNeg (0 : Int32).toNatClampNeg (8 : Int32).toNatClampNeg) ta se qu im su tc sc rc cn so ++ (wS cI cJ aO opr opu ota ose oqu oim osu otc osc orc ocn oso ++ ([] : va_W))) H := hP
  have hD : va_D A (wS cI cJ aS (va_cpy opr pr (0 : Int32).toNatClampNeg (0 : Int32).toNatClampNeg (56 : Int32).toNatClampNeg) (va_cpy opu pu (0 : Int32).toNatClampNeg (0 : Int32).toNatClampNeg (8 : Int32).toNatClampNeg) ta se qu im su tc sc rc cn so ++ (wS cI cJ aO opr opu ota ose oqu oim osu otc osc orc ocn oso ++ ([] : va_W))) := hD
  refine lv_aload_n hx hb dX2_copyFrom_36 rfl (lv_at hl 1 rfl) ?_
  refine va_get (D := G) (ci := 2) (v := .ref (aO 3)) (C := RX2) (T := TX2) (N := 12) hx hb hts uX2 hown hK hP 8 rfl rfl 2 (by decide) (hts _ kw32) (fun _ h9 => h9) rfl dX2_copyFrom_37 ?_
  refine lv_iconst (v := 0) hx hb dX2_copyFrom_40 (by decide) ?_
  refine lv_aload_n hx hb dX2_copyFrom_41 rfl (lv_at hl 0 rfl) ?_
  refine va_get (D := G) (ci := 2) (v := .ref (aS 3)) (C := RX2) (T := TX2) (N := 12) hx hb hts uX2 hown hK hP 0 rfl rfl 2 (by decide) (hts _ kw32) (fun _ h9 => h9) rfl dX2_copyFrom_42 ?_
  refine lv_iconst (v := 0) hx hb dX2_copyFrom_45 (by decide) ?_
  refine lv_aload_n hx hb dX2_copyFrom_46 rfl (lv_at hl 0 rfl) ?_
  refine va_get (D := G) (ci := 2) (v := .ref (aS 3)) (C := RX2) (T := TX2) (N := 12) hx hb hts uX2 hown hK hP 0 rfl rfl 2 (by decide) (hts _ kw32) (fun _ h9 => h9) rfl dX2_copyFrom_47 ?_
  refine va_alen (v := 2) hx hb hK hP 3 0 rfl rfl rfl dX2_copyFrom_50 ?_
  obtain ⟨g3, h⟩ := gd_s h
  have k3 := cpk_s g3
  refine va_copyi hx hb (hml.trans hl.1.symm) hown (hts _ kw204) (hts _ kw206) (hts _ kw205) (hts _ kw8) hK hP hD hS 11 3 0 0 rfl rfl rfl rfl rfl k3.1 k3.2.1 k3.2.2.1 k3.2.2.2.1 k3.2.2.2.2 (fun _ _ => rfl) (Nat.le_of_ble_eq_true rfl) (Nat.le_of_ble_eq_true rfl) dX2_copyFrom_51 (fun H locs hP hD hS => ?_)
  have hP : va_P G vwCl (wS cI cJ aS (va_cpy opr pr (0 : Int32).toNatClampNeg (0 : Int32).toNatClampNeg (56 : Int32).toNatClampNeg) (va_cpy opu pu (0 : Int32).toNatClampNeg (0 : Int32).toNatClampNeg (8 : Int32).toNatClampNeg) (va_cpy ota ta (0 : Int32).toNatClampNeg (0 : Int32).toNatClampNeg (2 : Int32).toNatClampNeg) se qu im su tc sc rc cn so ++ (wS cI cJ aO opr opu ota ose oqu oim osu otc osc orc ocn oso ++ ([] : va_W))) H := hP
  have hD : va_D A (wS cI cJ aS (va_cpy opr pr (0 : Int32).toNatClampNeg (0 : Int32).toNatClampNeg (56 : Int32).toNatClampNeg) (va_cpy opu pu (0 : Int32).toNatClampNeg (0 : Int32).toNatClampNeg (8 : Int32).toNatClampNeg) (va_cpy ota ta (0 : Int32).toNatClampNeg (0 : Int32).toNatClampNeg (2 : Int32).toNatClampNeg) se qu im su tc sc rc cn so ++ (wS cI cJ aO opr opu ota ose oqu oim osu otc osc orc ocn oso ++ ([] : va_W))) := hD
  refine lv_aload_n hx hb dX2_copyFrom_54 rfl (lv_at hl 1 rfl) ?_
  refine va_get (D := G) (ci := 2) (v := .ref (aO 4)) (C := RX2) (T := TX2) (N := 12) hx hb hts uX2 hown hK hP 8 rfl rfl 3 (by decide) (hts _ kw34) (fun _ h9 => h9) rfl dX2_copyFrom_55 ?_
  refine lv_iconst (v := 0) hx hb dX2_copyFrom_58 (by decide) ?_
  refine lv_aload_n hx hb dX2_copyFrom_59 rfl (lv_at hl 0 rfl) ?_
  refine va_get (D := G) (ci := 2) (v := .ref (aS 4)) (C := RX2) (T := TX2) (N := 12) hx hb hts uX2 hown hK hP 0 rfl rfl 3 (by decide) (hts _ kw34) (fun _ h9 => h9) rfl dX2_copyFrom_60 ?_
  refine lv_iconst (v := 0) hx hb dX2_copyFrom_63 (by decide) ?_
  refine lv_aload_n hx hb dX2_copyFrom_64 rfl (lv_at hl 0 rfl) ?_
  refine va_get (D := G) (ci := 2) (v := .ref (aS 4)) (C := RX2) (T := TX2) (N := 12) hx hb hts uX2 hown hK hP 0 rfl rfl 3 (by decide) (hts _ kw34) (fun _ h9 => h9) rfl dX2_copyFrom_65 ?_
  refine va_alen (v := 8) hx hb hK hP 4 0 rfl rfl rfl dX2_copyFrom_68 ?_
  obtain ⟨g4, h⟩ := gd_s h
  have k4 := cpk_s g4
  refine va_copyi hx hb (hml.trans hl.1.symm) hown (hts _ kw204) (hts _ kw206) (hts _ kw205) (hts _ kw8) hK hP hD hS 12 4 0 0 rfl rfl rfl rfl rfl k4.1 k4.2.1 k4.2.2.1 k4.2.2.2.1 k4.2.2.2.2 (fun _ _ => rfl) (Nat.le_of_ble_eq_true rfl) (Nat.le_of_ble_eq_true rfl) dX2_copyFrom_69 (fun H locs hP hD hS => ?_)
  have hP : va_P G vwCl (wS cI cJ aS (va_cpy opr pr (0 : Int32).toNatClampNeg (0 : Int32).toNatClampNeg (56 : Int32).toNatClampNeg) (va_cpy opu pu (0 : Int32).toNatClampNeg (0 : Int32).toNatClampNeg (8 : Int32).toNatClampNeg) (va_cpy ota ta (0 : Int32).toNatClampNeg (0 : Int32).toNatClampNeg (2 : Int32).toNatClampNeg) (va_cpy ose se (0 : Int32).toNatClampNeg (0 : Int32).toNatClampNeg (8 : Int32).toNatClampNeg) qu im su tc sc rc cn so ++ (wS cI cJ aO opr opu ota ose oqu oim osu otc osc orc ocn oso ++ ([] : va_W))) H := hP
  have hD : va_D A (wS cI cJ aS (va_cpy opr pr (0 : Int32).toNatClampNeg (0 : Int32).toNatClampNeg (56 : Int32).toNatClampNeg) (va_cpy opu pu (0 : Int32).toNatClampNeg (0 : Int32).toNatClampNeg (8 : Int32).toNatClampNeg) (va_cpy ota ta (0 : Int32).toNatClampNeg (0 : Int32).toNatClampNeg (2 : Int32).toNatClampNeg) (va_cpy ose se (0 : Int32).toNatClampNeg (0 : Int32).toNatClampNeg (8 : Int32).toNatClampNeg) qu im su tc sc rc cn so ++ (wS cI cJ aO opr opu ota ose oqu oim osu otc osc orc ocn oso ++ ([] : va_W))) := hD
  refine lv_aload_n hx hb dX2_copyFrom_72 rfl (lv_at hl 1 rfl) ?_
  refine va_get (D := G) (ci := 2) (v := .ref (aO 5)) (C := RX2) (T := TX2) (N := 12) hx hb hts uX2 hown hK hP 8 rfl rfl 4 (by decide) (hts _ kw35) (fun _ h9 => h9) rfl dX2_copyFrom_73 ?_
  refine lv_iconst (v := 0) hx hb dX2_copyFrom_76 (by decide) ?_
  refine lv_aload_n hx hb dX2_copyFrom_77 rfl (lv_at hl 0 rfl) ?_
  refine va_get (D := G) (ci := 2) (v := .ref (aS 5)) (C := RX2) (T := TX2) (N := 12) hx hb hts uX2 hown hK hP 0 rfl rfl 4 (by decide) (hts _ kw35) (fun _ h9 => h9) rfl dX2_copyFrom_78 ?_
  refine lv_iconst (v := 0) hx hb dX2_copyFrom_81 (by decide) ?_
  refine lv_aload_n hx hb dX2_copyFrom_82 rfl (lv_at hl 0 rfl) ?_
  refine va_get (D := G) (ci := 2) (v := .ref (aS 5)) (C := RX2) (T := TX2) (N := 12) hx hb hts uX2 hown hK hP 0 rfl rfl 4 (by decide) (hts _ kw35) (fun _ h9 => h9) rfl dX2_copyFrom_83 ?_
  refine va_alen (v := 30) hx hb hK hP 5 0 rfl rfl rfl dX2_copyFrom_86 ?_
  obtain ⟨g5, h⟩ := gd_s h
  have k5 := cpk_s g5
  refine va_copyi hx hb (hml.trans hl.1.symm) hown (hts _ kw204) (hts _ kw206) (hts _ kw205) (hts _ kw8) hK hP hD hS 13 5 0 0 rfl rfl rfl rfl rfl k5.1 k5.2.1 k5.2.2.1 k5.2.2.2.1 k5.2.2.2.2 (fun _ _ => rfl) (Nat.le_of_ble_eq_true rfl) (Nat.le_of_ble_eq_true rfl) dX2_copyFrom_87 (fun H locs hP hD hS => ?_)
  have hP : va_P G vwCl (wS cI cJ aS (va_cpy opr pr (0 : Int32).toNatClampNeg (0 : Int32).toNatClampNeg (56 : Int32).toNatClampNeg) (va_cpy opu pu (0 : Int32).toNatClampNeg (0 : Int32).toNatClampNeg (8 : Int32).toNatClampNeg) (va_cpy ota ta (0 : Int32).toNatClampNeg (0 : Int32).toNatClampNeg (2 : Int32).toNatClampNeg) (va_cpy ose se (0 : Int32).toNatClampNeg (0 : Int32).toNatClampNeg (8 : Int32).toNatClampNeg) (va_cpy oqu qu (0 : Int32).toNatClampNeg (0 : Int32).toNatClampNeg (30 : Int32).toNatClampNeg) im su tc sc rc cn so ++ (wS cI cJ aO opr opu ota ose oqu oim osu otc osc orc ocn oso ++ ([] : va_W))) H := hP
  have hD : va_D A (wS cI cJ aS (va_cpy opr pr (0 : Int32).toNatClampNeg (0 : Int32).toNatClampNeg (56 : Int32).toNatClampNeg) (va_cpy opu pu (0 : Int32).toNatClampNeg (0 : Int32).toNatClampNeg (8 : Int32).toNatClampNeg) (va_cpy ota ta (0 : Int32).toNatClampNeg (0 : Int32).toNatClampNeg (2 : Int32).toNatClampNeg) (va_cpy ose se (0 : Int32).toNatClampNeg (0 : Int32).toNatClampNeg (8 : Int32).toNatClampNeg) (va_cpy oqu qu (0 : Int32).toNatClampNeg (0 : Int32).toNatClampNeg (30 : Int32).toNatClampNeg) im su tc sc rc cn so ++ (wS cI cJ aO opr opu ota ose oqu oim osu otc osc orc ocn oso ++ ([] : va_W))) := hD
  refine lv_aload_n hx hb dX2_copyFrom_90 rfl (lv_at hl 1 rfl) ?_
  refine va_get (D := G) (ci := 2) (v := .ref (aO 6)) (C := RX2) (T := TX2) (N := 12) hx hb hts uX2 hown hK hP 8 rfl rfl 5 (by decide) (hts _ kw37) (fun _ h9 => h9) rfl dX2_copyFrom_91 ?_
  refine lv_iconst (v := 0) hx hb dX2_copyFrom_94 (by decide) ?_
  refine lv_aload_n hx hb dX2_copyFrom_95 rfl (lv_at hl 0 rfl) ?_
  refine va_get (D := G) (ci := 2) (v := .ref (aS 6)) (C := RX2) (T := TX2) (N := 12) hx hb hts uX2 hown hK hP 0 rfl rfl 5 (by decide) (hts _ kw37) (fun _ h9 => h9) rfl dX2_copyFrom_96 ?_
  refine lv_iconst (v := 0) hx hb dX2_copyFrom_99 (by decide) ?_
  refine lv_aload_n hx hb dX2_copyFrom_100 rfl (lv_at hl 0 rfl) ?_
  refine va_get (D := G) (ci := 2) (v := .ref (aS 6)) (C := RX2) (T := TX2) (N := 12) hx hb hts uX2 hown hK hP 0 rfl rfl 5 (by decide) (hts _ kw37) (fun _ h9 => h9) rfl dX2_copyFrom_101 ?_
  refine va_alen (v := 9) hx hb hK hP 6 0 rfl rfl rfl dX2_copyFrom_104 ?_
  obtain ⟨g6, h⟩ := gd_s h
  have k6 := cpk_s g6
  refine va_copyi hx hb (hml.trans hl.1.symm) hown (hts _ kw204) (hts _ kw206) (hts _ kw205) (hts _ kw8) hK hP hD hS 14 6 0 0 rfl rfl rfl rfl rfl k6.1 k6.2.1 k6.2.2.1 k6.2.2.2.1 k6.2.2.2.2 (fun _ _ => rfl) (Nat.le_of_ble_eq_true rfl) (Nat.le_of_ble_eq_true rfl) dX2_copyFrom_105 (fun H locs hP hD hS => ?_)
  have hP : va_P G vwCl (wS cI cJ aS (va_cpy opr pr (0 : Int32).toNatClampNeg (0 : Int32).toNatClampNeg (56 : Int32).toNatClampNeg) (va_cpy opu pu (0 : Int32).toNatClampNeg (0 : Int32).toNatClampNeg (8 : Int32).toNatClampNeg) (va_cpy ota ta (0 : Int32).toNatClampNeg (0 : Int32).toNatClampNeg (2 : Int32).toNatClampNeg) (va_cpy ose se (0 : Int32).toNatClampNeg (0 : Int32).toNatClampNeg (8 : Int32).toNatClampNeg) (va_cpy oqu qu (0 : Int32).toNatClampNeg (0 : Int32).toNatClampNeg (30 : Int32).toNatClampNeg) (va_cpy oim im (0 : Int32).toNatClampNeg (0 : Int32).toNatClampNeg (9 : Int32).toNatClampNeg) su tc sc rc cn so ++ (wS cI cJ aO opr opu ota ose oqu oim osu otc osc orc ocn oso ++ ([] : va_W))) H := hP
  have hD : va_D A (wS cI cJ aS (va_cpy opr pr (0 : Int32).toNatClampNeg (0 : Int32).toNatClampNeg (56 : Int32).toNatClampNeg) (va_cpy opu pu (0 : Int32).toNatClampNeg (0 : Int32).toNatClampNeg (8 : Int32).toNatClampNeg) (va_cpy ota ta (0 : Int32).toNatClampNeg (0 : Int32).toNatClampNeg (2 : Int32).toNatClampNeg) (va_cpy ose se (0 : Int32).toNatClampNeg (0 : Int32).toNatClampNeg (8 : Int32).toNatClampNeg) (va_cpy oqu qu (0 : Int32).toNatClampNeg (0 : Int32).toNatClampNeg (30 : Int32).toNatClampNeg) (va_cpy oim im (0 : Int32).toNatClampNeg (0 : Int32).toNatClampNeg (9 : Int32).toNatClampNeg) su tc sc rc cn so ++ (wS cI cJ aO opr opu ota ose oqu oim osu otc osc orc ocn oso ++ ([] : va_W))) := hD
  refine lv_aload_n hx hb dX2_copyFrom_108 rfl (lv_at hl 1 rfl) ?_
  refine va_get (D := G) (ci := 2) (v := .ref (aO 7)) (C := RX2) (T := TX2) (N := 12) hx hb hts uX2 hown hK hP 8 rfl rfl 6 (by decide) (hts _ kw39) (fun _ h9 => h9) rfl dX2_copyFrom_109 ?_
  refine lv_iconst (v := 0) hx hb dX2_copyFrom_112 (by decide) ?_
  refine lv_aload_n hx hb dX2_copyFrom_113 rfl (lv_at hl 0 rfl) ?_
  refine va_get (D := G) (ci := 2) (v := .ref (aS 7)) (C := RX2) (T := TX2) (N := 12) hx hb hts uX2 hown hK hP 0 rfl rfl 6 (by decide) (hts _ kw39) (fun _ h9 => h9) rfl dX2_copyFrom_114 ?_
  refine lv_iconst (v := 0) hx hb dX2_copyFrom_117 (by decide) ?_
  refine lv_aload_n hx hb dX2_copyFrom_118 rfl (lv_at hl 0 rfl) ?_
  refine va_get (D := G) (ci := 2) (v := .ref (aS 7)) (C := RX2) (T := TX2) (N := 12) hx hb hts uX2 hown hK hP 0 rfl rfl 6 (by decide) (hts _ kw39) (fun _ h9 => h9) rfl dX2_copyFrom_119 ?_
  refine va_alen (v := 3) hx hb hK hP 7 1 rfl rfl rfl dX2_copyFrom_122 ?_
  obtain ⟨g7, h⟩ := gd_s h
  have k7 := cpk_s g7
  refine va_copyl hx hb (hml.trans hl.1.symm) hown (hts _ kw204) (hts _ kw206) (hts _ kw205) (hts _ kw8) hK hP hD hS 15 7 1 1 rfl rfl rfl rfl rfl k7.1 k7.2.1 k7.2.2.1 k7.2.2.2.1 k7.2.2.2.2 (fun _ _ => rfl) (Nat.le_of_ble_eq_true rfl) (Nat.le_of_ble_eq_true rfl) dX2_copyFrom_123 (fun H locs hP hD hS => ?_)
  have hP : va_P G vwCl (wS cI cJ aS (va_cpy opr pr (0 : Int32).toNatClampNeg (0 : Int32).toNatClampNeg (56 : Int32).toNatClampNeg) (va_cpy opu pu (0 : Int32).toNatClampNeg (0 : Int32).toNatClampNeg (8 : Int32).toNatClampNeg) (va_cpy ota ta (0 : Int32).toNatClampNeg (0 : Int32).toNatClampNeg (2 : Int32).toNatClampNeg) (va_cpy ose se (0 : Int32).toNatClampNeg (0 : Int32).toNatClampNeg (8 : Int32).toNatClampNeg) (va_cpy oqu qu (0 : Int32).toNatClampNeg (0 : Int32).toNatClampNeg (30 : Int32).toNatClampNeg) (va_cpy oim im (0 : Int32).toNatClampNeg (0 : Int32).toNatClampNeg (9 : Int32).toNatClampNeg) (va_cpy osu su (0 : Int32).toNatClampNeg (0 : Int32).toNatClampNeg (3 : Int32).toNatClampNeg) tc sc rc cn so ++ (wS cI cJ aO opr opu ota ose oqu oim osu otc osc orc ocn oso ++ ([] : va_W))) H := hP
  have hD : va_D A (wS cI cJ aS (va_cpy opr pr (0 : Int32).toNatClampNeg (0 : Int32).toNatClampNeg (56 : Int32).toNatClampNeg) (va_cpy opu pu (0 : Int32).toNatClampNeg (0 : Int32).toNatClampNeg (8 : Int32).toNatClampNeg) (va_cpy ota ta (0 : Int32).toNatClampNeg (0 : Int32).toNatClampNeg (2 : Int32).toNatClampNeg) (va_cpy ose se (0 : Int32).toNatClampNeg (0 : Int32).toNatClampNeg (8 : Int32).toNatClampNeg) (va_cpy oqu qu (0 : Int32).toNatClampNeg (0 : Int32).toNatClampNeg (30 : Int32).toNatClampNeg) (va_cpy oim im (0 : Int32).toNatClampNeg (0 : Int32).toNatClampNeg (9 : Int32).toNatClampNeg) (va_cpy osu su (0 : Int32).toNatClampNeg (0 : Int32).toNatClampNeg (3 : Int32).toNatClampNeg) tc sc rc cn so ++ (wS cI cJ aO opr opu ota ose oqu oim osu otc osc orc ocn oso ++ ([] : va_W))) := hD
  refine lv_aload_n hx hb dX2_copyFrom_126 rfl (lv_at hl 0 rfl) ?_
  refine lv_aload_n hx hb dX2_copyFrom_127 rfl (lv_at hl 1 rfl) ?_
  refine va_get (D := G) (ci := 2) (v := .int otc) (C := RX2) (T := TX2) (N := 12) hx hb hts uX2 hown hK hP 8 rfl rfl 7 (by decide) (hts _ kw43) (fun _ h9 => h9) rfl dX2_copyFrom_128 ?_
  refine va_put (D := G) (ci := 2) (ty := .int) (v := .int otc) (C := RX2) (T := TX2) (N := 12) hx hb hts uX2 tyX2 tyX2_ok nmX2 hown hK hP hD hS 0 rfl rfl 7 (by decide) (hts _ kw43) (fun _ h9 => h9) rfl (by decide +kernel) rfl rfl (Nat.le_of_ble_eq_true rfl) dX2_copyFrom_131 (fun H locs hP hD hS => ?_)
  have hP : va_P G vwCl (wS cI cJ aS (va_cpy opr pr (0 : Int32).toNatClampNeg (0 : Int32).toNatClampNeg (56 : Int32).toNatClampNeg) (va_cpy opu pu (0 : Int32).toNatClampNeg (0 : Int32).toNatClampNeg (8 : Int32).toNatClampNeg) (va_cpy ota ta (0 : Int32).toNatClampNeg (0 : Int32).toNatClampNeg (2 : Int32).toNatClampNeg) (va_cpy ose se (0 : Int32).toNatClampNeg (0 : Int32).toNatClampNeg (8 : Int32).toNatClampNeg) (va_cpy oqu qu (0 : Int32).toNatClampNeg (0 : Int32).toNatClampNeg (30 : Int32).toNatClampNeg) (va_cpy oim im (0 : Int32).toNatClampNeg (0 : Int32).toNatClampNeg (9 : Int32).toNatClampNeg) (va_cpy osu su (0 : Int32).toNatClampNeg (0 : Int32).toNatClampNeg (3 : Int32).toNatClampNeg) otc sc rc cn so ++ (wS cI cJ aO opr opu ota ose oqu oim osu otc osc orc ocn oso ++ ([] : va_W))) H := hP
  have hD : va_D A (wS cI cJ aS (va_cpy opr pr (0 : Int32).toNatClampNeg (0 : Int32).toNatClampNeg (56 : Int32).toNatClampNeg) (va_cpy opu pu (0 : Int32).toNatClampNeg (0 : Int32).toNatClampNeg (8 : Int32).toNatClampNeg) (va_cpy ota ta (0 : Int32).toNatClampNeg (0 : Int32).toNatClampNeg (2 : Int32).toNatClampNeg) (va_cpy ose se (0 : Int32).toNatClampNeg (0 : Int32).toNatClampNeg (8 : Int32).toNatClampNeg) (va_cpy oqu qu (0 : Int32).toNatClampNeg (0 : Int32).toNatClampNeg (30 : Int32).toNatClampNeg) (va_cpy oim im (0 : Int32).toNatClampNeg (0 : Int32).toNatClampNeg (9 : Int32).toNatClampNeg) (va_cpy osu su (0 : Int32).toNatClampNeg (0 : Int32).toNatClampNeg (3 : Int32).toNatClampNeg) otc sc rc cn so ++ (wS cI cJ aO opr opu ota ose oqu oim osu otc osc orc ocn oso ++ ([] : va_W))) := hD
  refine lv_aload_n hx hb dX2_copyFrom_134 rfl (lv_at hl 0 rfl) ?_
  refine lv_aload_n hx hb dX2_copyFrom_135 rfl (lv_at hl 1 rfl) ?_
  refine va_get (D := G) (ci := 2) (v := .int osc) (C := RX2) (T := TX2) (N := 12) hx hb hts uX2 hown hK hP 8 rfl rfl 8 (by decide) (hts _ kw44) (fun _ h9 => h9) rfl dX2_copyFrom_136 ?_
  refine va_put (D := G) (ci := 2) (ty := .int) (v := .int osc) (C := RX2) (T := TX2) (N := 12) hx hb hts uX2 tyX2 tyX2_ok nmX2 hown hK hP hD hS 0 rfl rfl 8 (by decide) (hts _ kw44) (fun _ h9 => h9) rfl (by decide +kernel) rfl rfl (Nat.le_of_ble_eq_true rfl) dX2_copyFrom_139 (fun H locs hP hD hS => ?_)
  have hP : va_P G vwCl (wS cI cJ aS (va_cpy opr pr (0 : Int32).toNatClampNeg (0 : Int32).toNatClampNeg (56 : Int32).toNatClampNeg) (va_cpy opu pu (0 : Int32).toNatClampNeg (0 : Int32).toNatClampNeg (8 : Int32).toNatClampNeg) (va_cpy ota ta (0 : Int32).toNatClampNeg (0 : Int32).toNatClampNeg (2 : Int32).toNatClampNeg) (va_cpy ose se (0 : Int32).toNatClampNeg (0 : Int32).toNatClampNeg (8 : Int32).toNatClampNeg) (va_cpy oqu qu (0 : Int32).toNatClampNeg (0 : Int32).toNatClampNeg (30 : Int32).toNatClampNeg) (va_cpy oim im (0 : Int32).toNatClampNeg (0 : Int32).toNatClampNeg (9 : Int32).toNatClampNeg) (va_cpy osu su (0 : Int32).toNatClampNeg (0 : Int32).toNatClampNeg (3 : Int32).toNatClampNeg) otc osc rc cn so ++ (wS cI cJ aO opr opu ota ose oqu oim osu otc osc orc ocn oso ++ ([] : va_W))) H := hP
  have hD : va_D A (wS cI cJ aS (va_cpy opr pr (0 : Int32).toNatClampNeg (0 : Int32).toNatClampNeg (56 : Int32).toNatClampNeg) (va_cpy opu pu (0 : Int32).toNatClampNeg (0 : Int32).toNatClampNeg (8 : Int32).toNatClampNeg) (va_cpy ota ta (0 : Int32).toNatClampNeg (0 : Int32).toNatClampNeg (2 : Int32).toNatClampNeg) (va_cpy ose se (0 : Int32).toNatClampNeg (0 : Int32).toNatClampNeg (8 : Int32).toNatClampNeg) (va_cpy oqu qu (0 : Int32).toNatClampNeg (0 : Int32).toNatClampNeg (30 : Int32).toNatClampNeg) (va_cpy oim im (0 : Int32).toNatClampNeg (0 : Int32).toNatClampNeg (9 : Int32).toNatClampNeg) (va_cpy osu su (0 : Int32).toNatClampNeg (0 : Int32).toNatClampNeg (3 : Int32).toNatClampNeg) otc osc rc cn so ++ (wS cI cJ aO opr opu ota ose oqu oim osu otc osc orc ocn oso ++ ([] : va_W))) := hD
  refine lv_aload_n hx hb dX2_copyFrom_142 rfl (lv_at hl 0 rfl) ?_
  refine lv_aload_n hx hb dX2_copyFrom_143 rfl (lv_at hl 1 rfl) ?_
  refine va_get (D := G) (ci := 2) (v := .int orc) (C := RX2) (T := TX2) (N := 12) hx hb hts uX2 hown hK hP 8 rfl rfl 9 (by decide) (hts _ kw46) (fun _ h9 => h9) rfl dX2_copyFrom_144 ?_
  refine va_put (D := G) (ci := 2) (ty := .int) (v := .int orc) (C := RX2) (T := TX2) (N := 12) hx hb hts uX2 tyX2 tyX2_ok nmX2 hown hK hP hD hS 0 rfl rfl 9 (by decide) (hts _ kw46) (fun _ h9 => h9) rfl (by decide +kernel) rfl rfl (Nat.le_of_ble_eq_true rfl) dX2_copyFrom_147 (fun H locs hP hD hS => ?_)
  have hP : va_P G vwCl (wS cI cJ aS (va_cpy opr pr (0 : Int32).toNatClampNeg (0 : Int32).toNatClampNeg (56 : Int32).toNatClampNeg) (va_cpy opu pu (0 : Int32).toNatClampNeg (0 : Int32).toNatClampNeg (8 : Int32).toNatClampNeg) (va_cpy ota ta (0 : Int32).toNatClampNeg (0 : Int32).toNatClampNeg (2 : Int32).toNatClampNeg) (va_cpy ose se (0 : Int32).toNatClampNeg (0 : Int32).toNatClampNeg (8 : Int32).toNatClampNeg) (va_cpy oqu qu (0 : Int32).toNatClampNeg (0 : Int32).toNatClampNeg (30 : Int32).toNatClampNeg) (va_cpy oim im (0 : Int32).toNatClampNeg (0 : Int32).toNatClampNeg (9 : Int32).toNatClampNeg) (va_cpy osu su (0 : Int32).toNatClampNeg (0 : Int32).toNatClampNeg (3 : Int32).toNatClampNeg) otc osc orc cn so ++ (wS cI cJ aO opr opu ota ose oqu oim osu otc osc orc ocn oso ++ ([] : va_W))) H := hP
  have hD : va_D A (wS cI cJ aS (va_cpy opr pr (0 : Int32).toNatClampNeg (0 : Int32).toNatClampNeg (56 : Int32).toNatClampNeg) (va_cpy opu pu (0 : Int32).toNatClampNeg (0 : Int32).toNatClampNeg (8 : Int32).toNatClampNeg) (va_cpy ota ta (0 : Int32).toNatClampNeg (0 : Int32).toNatClampNeg (2 : Int32).toNatClampNeg) (va_cpy ose se (0 : Int32).toNatClampNeg (0 : Int32).toNatClampNeg (8 : Int32).toNatClampNeg) (va_cpy oqu qu (0 : Int32).toNatClampNeg (0 : Int32).toNatClampNeg (30 : Int32).toNatClampNeg) (va_cpy oim im (0 : Int32).toNatClampNeg (0 : Int32).toNatClampNeg (9 : Int32).toNatClampNeg) (va_cpy osu su (0 : Int32).toNatClampNeg (0 : Int32).toNatClampNeg (3 : Int32).toNatClampNeg) otc osc orc cn so ++ (wS cI cJ aO opr opu ota ose oqu oim osu otc osc orc ocn oso ++ ([] : va_W))) := hD
  refine lv_aload_n hx hb dX2_copyFrom_150 rfl (lv_at hl 0 rfl) ?_
  refine lv_aload_n hx hb dX2_copyFrom_151 rfl (lv_at hl 1 rfl) ?_
  refine va_get (D := G) (ci := 2) (v := .int ocn) (C := RX2) (T := TX2) (N := 12) hx hb hts uX2 hown hK hP 8 rfl rfl 10 (by decide) (hts _ kw48) (fun _ h9 => h9) rfl dX2_copyFrom_152 ?_
  refine va_put (D := G) (ci := 2) (ty := .int) (v := .int ocn) (C := RX2) (T := TX2) (N := 12) hx hb hts uX2 tyX2 tyX2_ok nmX2 hown hK hP hD hS 0 rfl rfl 10 (by decide) (hts _ kw48) (fun _ h9 => h9) rfl (by decide +kernel) rfl rfl (Nat.le_of_ble_eq_true rfl) dX2_copyFrom_155 (fun H locs hP hD hS => ?_)
  have hP : va_P G vwCl (wS cI cJ aS (va_cpy opr pr (0 : Int32).toNatClampNeg (0 : Int32).toNatClampNeg (56 : Int32).toNatClampNeg) (va_cpy opu pu (0 : Int32).toNatClampNeg (0 : Int32).toNatClampNeg (8 : Int32).toNatClampNeg) (va_cpy ota ta (0 : Int32).toNatClampNeg (0 : Int32).toNatClampNeg (2 : Int32).toNatClampNeg) (va_cpy ose se (0 : Int32).toNatClampNeg (0 : Int32).toNatClampNeg (8 : Int32).toNatClampNeg) (va_cpy oqu qu (0 : Int32).toNatClampNeg (0 : Int32).toNatClampNeg (30 : Int32).toNatClampNeg) (va_cpy oim im (0 : Int32).toNatClampNeg (0 : Int32).toNatClampNeg (9 : Int32).toNatClampNeg) (va_cpy osu su (0 : Int32).toNatClampNeg (0 : Int32).toNatClampNeg (3 : Int32).toNatClampNeg) otc osc orc ocn so ++ (wS cI cJ aO opr opu ota ose oqu oim osu otc osc orc ocn oso ++ ([] : va_W))) H := hP
  have hD : va_D A (wS cI cJ aS (va_cpy opr pr (0 : Int32).toNatClampNeg (0 : Int32).toNatClampNeg (56 : Int32).toNatClampNeg) (va_cpy opu pu (0 : Int32).toNatClampNeg (0 : Int32).toNatClampNeg (8 : Int32).toNatClampNeg) (va_cpy ota ta (0 : Int32).toNatClampNeg (0 : Int32).toNatClampNeg (2 : Int32).toNatClampNeg) (va_cpy ose se (0 : Int32).toNatClampNeg (0 : Int32).toNatClampNeg (8 : Int32).toNatClampNeg) (va_cpy oqu qu (0 : Int32).toNatClampNeg (0 : Int32).toNatClampNeg (30 : Int32).toNatClampNeg) (va_cpy oim im (0 : Int32).toNatClampNeg (0 : Int32).toNatClampNeg (9 : Int32).toNatClampNeg) (va_cpy osu su (0 : Int32).toNatClampNeg (0 : Int32).toNatClampNeg (3 : Int32).toNatClampNeg) otc osc orc ocn so ++ (wS cI cJ aO opr opu ota ose oqu oim osu otc osc orc ocn oso ++ ([] : va_W))) := hD
  refine lv_aload_n hx hb dX2_copyFrom_158 rfl (lv_at hl 0 rfl) ?_
  refine lv_aload_n hx hb dX2_copyFrom_159 rfl (lv_at hl 1 rfl) ?_
  refine va_get (D := G) (ci := 2) (v := .int oso) (C := RX2) (T := TX2) (N := 12) hx hb hts uX2 hown hK hP 8 rfl rfl 11 (by decide) (hts _ kw50) (fun _ h9 => h9) rfl dX2_copyFrom_160 ?_
  refine va_put (D := G) (ci := 2) (ty := .int) (v := .int oso) (C := RX2) (T := TX2) (N := 12) hx hb hts uX2 tyX2 tyX2_ok nmX2 hown hK hP hD hS 0 rfl rfl 11 (by decide) (hts _ kw50) (fun _ h9 => h9) rfl (by decide +kernel) rfl rfl (Nat.le_of_ble_eq_true rfl) dX2_copyFrom_163 (fun H locs hP hD hS => ?_)
  have hP : va_P G vwCl (wS cI cJ aS (va_cpy opr pr (0 : Int32).toNatClampNeg (0 : Int32).toNatClampNeg (56 : Int32).toNatClampNeg) (va_cpy opu pu (0 : Int32).toNatClampNeg (0 : Int32).toNatClampNeg (8 : Int32).toNatClampNeg) (va_cpy ota ta (0 : Int32).toNatClampNeg (0 : Int32).toNatClampNeg (2 : Int32).toNatClampNeg) (va_cpy ose se (0 : Int32).toNatClampNeg (0 : Int32).toNatClampNeg (8 : Int32).toNatClampNeg) (va_cpy oqu qu (0 : Int32).toNatClampNeg (0 : Int32).toNatClampNeg (30 : Int32).toNatClampNeg) (va_cpy oim im (0 : Int32).toNatClampNeg (0 : Int32).toNatClampNeg (9 : Int32).toNatClampNeg) (va_cpy osu su (0 : Int32).toNatClampNeg (0 : Int32).toNatClampNeg (3 : Int32).toNatClampNeg) otc osc orc ocn oso ++ (wS cI cJ aO opr opu ota ose oqu oim osu otc osc orc ocn oso ++ ([] : va_W))) H := hP
  have hD : va_D A (wS cI cJ aS (va_cpy opr pr (0 : Int32).toNatClampNeg (0 : Int32).toNatClampNeg (56 : Int32).toNatClampNeg) (va_cpy opu pu (0 : Int32).toNatClampNeg (0 : Int32).toNatClampNeg (8 : Int32).toNatClampNeg) (va_cpy ota ta (0 : Int32).toNatClampNeg (0 : Int32).toNatClampNeg (2 : Int32).toNatClampNeg) (va_cpy ose se (0 : Int32).toNatClampNeg (0 : Int32).toNatClampNeg (8 : Int32).toNatClampNeg) (va_cpy oqu qu (0 : Int32).toNatClampNeg (0 : Int32).toNatClampNeg (30 : Int32).toNatClampNeg) (va_cpy oim im (0 : Int32).toNatClampNeg (0 : Int32).toNatClampNeg (9 : Int32).toNatClampNeg) (va_cpy osu su (0 : Int32).toNatClampNeg (0 : Int32).toNatClampNeg (3 : Int32).toNatClampNeg) otc osc orc ocn oso ++ (wS cI cJ aO opr opu ota ose oqu oim osu otc osc orc ocn oso ++ ([] : va_W))) := hD
  rw [← Option.some.inj h]
  exact krv hx hb hr hlk hP hD hS hK dX2_copyFrom_166

/-! X0_keep -/
def f_X0_keep (pr : Nat → Int32) (pu : Nat → Int32) (ta : Nat → Int32) (se : Nat → Int32) (qu : Nat → Int32) (im : Nat → Int32) (su : Nat → Int64) (tc : Int32) (sc : Int32) (rc : Int32) (cn : Int32) (so : Int32) (hs : Nat → SV) (ol : Int32) (ct : Int32) : Option ((Nat → SV) × Int32 × Int32) :=
  gd (ib ((ol + ct) - (ol + ct) / 5 * 5) 5) ((f_X2_copyFrom pr pu ta se qu im su tc sc rc cn so ((hs ((ol + ct) - (ol + ct) / 5 * 5).toNatClampNeg).1) ((hs ((ol + ct) - (ol + ct) / 5 * 5).toNatClampNeg).2.1) ((hs ((ol + ct) - (ol + ct) / 5 * 5).toNatClampNeg).2.2.1) ((hs ((ol + ct) - (ol + ct) / 5 * 5).toNatClampNeg).2.2.2.1) ((hs ((ol + ct) - (ol + ct) / 5 * 5).toNatClampNeg).2.2.2.2.1) ((hs ((ol + ct) - (ol + ct) / 5 * 5).toNatClampNeg).2.2.2.2.2.1) ((hs ((ol + ct) - (ol + ct) / 5 * 5).toNatClampNeg).2.2.2.2.2.2.1) ((hs ((ol + ct) - (ol + ct) / 5 * 5).toNatClampNeg).2.2.2.2.2.2.2.1) ((hs ((ol + ct) - (ol + ct) / 5 * 5).toNatClampNeg).2.2.2.2.2.2.2.2.1) ((hs ((ol + ct) - (ol + ct) / 5 * 5).toNatClampNeg).2.2.2.2.2.2.2.2.2.1) ((hs ((ol + ct) - (ol + ct) / 5 * 5).toNatClampNeg).2.2.2.2.2.2.2.2.2.2.1) ((hs ((ol + ct) - (ol + ct) / 5 * 5).toNatClampNeg).2.2.2.2.2.2.2.2.2.2.2)).bind (fun q18 => if 5 ≤ ct then (some ((updH hs ((ol + ct) - (ol + ct) / 5 * 5).toNatClampNeg q18), ((ol + 1) - (ol + 1) / 5 * 5), ct)) else (some ((updH hs ((ol + ct) - (ol + ct) / 5 * 5).toNatClampNeg q18), ol, (ct + 1)))))

set_option maxHeartbeats 4000000 in
set_option maxRecDepth 100000 in
theorem c_X0_keep (l : Launch) (G : va_G) (cI cJ cZ cO cA : ClassId) (e : Nat × Nat) (aS : Nat → Nat) (aH : Nat → Nat) (aK : Nat → Nat → Nat) (sz : Nat) (pr : Nat → Int32) (pu : Nat → Int32) (ta : Nat → Int32) (se : Nat → Int32) (qu : Nat → Int32) (im : Nat → Int32) (su : Nat → Int64) (tc : Int32) (sc : Int32) (rc : Int32) (cn : Int32) (so : Int32) (hs : Nat → SV) (ol : Int32) (ct : Int32) {res : (Nat → SV) × Int32 × Int32} (hf : f_X0_keep pr pu ta se qu im su tc sc rc cn so hs ol ct = some res) : MetV l yX0_keep cX0_keep 2 ({ frames := 2, cells := 0, slots := 0, locals := 61 } : Room) [.ref (aH 0), .ref (aS 0)] G (ty5 cI cJ cZ cO cA) e (wS cI cJ aS pr pu ta se qu im su tc sc rc cn so ++ (wH cI cJ cO aH aK hs ol ct ++ ([] : va_W))) (wS cI cJ aS pr pu ta se qu im su tc sc rc cn so ++ (wH cI cJ cO aH aK res.1 res.2.1 res.2.2 ++ ([] : va_W))) sz := by
  refine g_body (QQ := fun A => (qV G (ty5 cI cJ cZ cO cA) A (wS cI cJ aS pr pu ta se qu im su tc sc rc cn so ++ (wH cI cJ cO aH aK res.1 res.2.1 res.2.2 ++ ([] : va_W))))) (own := RX0) (by decide) rfl (Nat.le_of_ble_eq_true rfl) ?_
  intro p ev s m below meth c A ls hx hb hr hml hown hts hlk hA hP hD hS hK hE hl
  have hl : lv_has ls 2 [(0, .ref (aH 0)), (1, .ref (aS 0))] := hl
  show W p l ev ({ frames := 2, cells := 0, slots := 0, locals := 61 } : Room) s m ([.ref (aH 0), .ref (aS 0)] : List Value).toArray below meth c s.heap [] 0 0 (MQ below (qV G (ty5 cI cJ cZ cO cA) A (wS cI cJ aS pr pu ta se qu im su tc sc rc cn so ++ (wH cI cJ cO aH aK res.1 res.2.1 res.2.2 ++ ([] : va_W)))) ([.ref (aH 0), .ref (aS 0)] : List Value).toArray s 0 0 A) (F0 m 0 ls [])
  have h := hf
  unfold f_X0_keep at h
  refine lv_aload_n hx hb dX0_keep_0 rfl (lv_at hl 0 rfl) ?_
  refine va_get (D := G) (ci := 0) (v := .ref (aH 1)) (C := RX0) (T := TX0) (N := 3) hx hb hts uX0 hown hK hP 8 rfl rfl 0 (by decide) (hts _ kw87) (fun _ h9 => h9) rfl dX0_keep_1 ?_
  refine lv_aload_n hx hb dX0_keep_4 rfl (lv_at hl 0 rfl) ?_
  refine va_get (D := G) (ci := 0) (v := .int ol) (C := RX0) (T := TX0) (N := 3) hx hb hts uX0 hown hK hP 8 rfl rfl 1 (by decide) (hts _ kw88) (fun _ h9 => h9) rfl dX0_keep_5 ?_
  refine lv_aload_n hx hb dX0_keep_8 rfl (lv_at hl 0 rfl) ?_
  refine va_get (D := G) (ci := 0) (v := .int ct) (C := RX0) (T := TX0) (N := 3) hx hb hts uX0 hown hK hP 8 rfl rfl 2 (by decide) (hts _ kw89) (fun _ h9 => h9) rfl dX0_keep_9 ?_
  refine lv_iadd hx hb dX0_keep_12 ?_
  refine lv_iconst (v := 5) hx hb dX0_keep_13 (by decide) ?_
  refine lv_irem hx hb dX0_keep_14 (by decide) ?_
  obtain ⟨g2, h⟩ := gd_s h
  have k2 := ib_lt g2
  refine kald hx hb hK hP 9 3 rfl rfl rfl (ib_in g2) (hiF_at k2) dX0_keep_15 ?_
  generalize ((ol + ct) - (ol + ct) / 5 * 5).toNatClampNeg = i2 at h k2 ⊢
  rcases k_5 k2 with rfl | rfl | rfl | rfl | rfl
  · skip
    refine lv_aload_n hx hb dX0_keep_16 rfl (lv_at hl 1 rfl) ?_
    obtain ⟨q3, hq3, h⟩ := bd_s h
    refine kVv (n := 1) (C := RX2) (ws' := wS cI cJ aS pr pu ta se qu im su tc sc rc cn so ++ (wH cI cJ cO aH aK (updH hs 0 q3) ol ct ++ ([] : va_W))) (As := [.ref (aS 0)]) (rest := []) hx hb hml hown hts (c_X2_copyFrom l G cI cJ cZ cO cA e (aK 0) aS _ ((hs 0).1) ((hs 0).2.1) ((hs 0).2.2.1) ((hs 0).2.2.2.1) ((hs 0).2.2.2.2.1) ((hs 0).2.2.2.2.2.1) ((hs 0).2.2.2.2.2.2.1) ((hs 0).2.2.2.2.2.2.2.1) ((hs 0).2.2.2.2.2.2.2.2.1) ((hs 0).2.2.2.2.2.2.2.2.2.1) ((hs 0).2.2.2.2.2.2.2.2.2.2.1) ((hs 0).2.2.2.2.2.2.2.2.2.2.2) pr pu ta se qu im su tc sc rc cn so hq3) (tb_V kw200 kw201 kw202 kw2 kw203) rfl rfl (by decide +kernel) ⟨Nat.le_of_ble_eq_true rfl, Nat.le_of_ble_eq_true rfl⟩ hK hP hD hS hA hE 10 rfl rfl [10, 11, 12, 13, 14, 15, 16, 17, 0, 1, 2, 3, 4, 5, 6, 7] [8, 9, 18, 19, 20, 21, 22, 23, 24, 25, 26, 27, 28, 29, 30, 31, 32, 33, 34, 35, 36, 37, 38, 39, 40, 41, 42, 43, 44, 45, 46, 47, 48, 49] rfl rfl rfl 50 ⟨rfl, rfl⟩ (by decide +kernel) (by decide +kernel) rfl rfl hl.1 (Nat.le_of_ble_eq_true rfl) ⟨Nat.zero_le _, Nat.zero_le _⟩ dX0_keep_17 (fun H locs hP hD hS => ?_)
    refine lv_aload_n hx hb dX0_keep_20 rfl (lv_at hl 0 rfl) ?_
    refine va_get (D := G) (ci := 0) (v := .int ct) (C := RX0) (T := TX0) (N := 3) hx hb hts uX0 hown hK hP 8 rfl rfl 2 (by decide) (hts _ kw89) (fun _ h9 => h9) rfl dX0_keep_21 ?_
    refine lv_iconst (v := 5) hx hb dX0_keep_24 (by decide) ?_
    refine lv_icmp_ge (tgt := 41) hx hb dX0_keep_25 (by decide) (fun c4 => ?_) (fun c4 => ?_)
    · replace h := (if_pos c4).symm.trans h
      refine lv_aload_n hx hb dX0_keep_41 rfl (lv_at hl 0 rfl) ?_
      refine lv_aload_n hx hb dX0_keep_42 rfl (lv_at hl 0 rfl) ?_
      refine va_get (D := G) (ci := 0) (v := .int ol) (C := RX0) (T := TX0) (N := 3) hx hb hts uX0 hown hK hP 8 rfl rfl 1 (by decide) (hts _ kw88) (fun _ h9 => h9) rfl dX0_keep_43 ?_
      refine lv_iconst (v := 1) hx hb dX0_keep_46 (by decide) ?_
      refine lv_iadd hx hb dX0_keep_47 ?_
      refine lv_iconst (v := 5) hx hb dX0_keep_48 (by decide) ?_
      refine lv_irem hx hb dX0_keep_49 (by decide) ?_
      refine va_put (D := G) (ci := 0) (ty := .int) (v := .int ((ol + 1) - (ol + 1) / 5 * 5)) (C := RX0) (T := TX0) (N := 3) hx hb hts uX0 tyX0 tyX0_ok nmX0 hown hK hP hD hS 8 rfl rfl 1 (by decide) (hts _ kw88) (fun _ h9 => h9) rfl (by decide +kernel) rfl rfl (Nat.le_of_ble_eq_true rfl) dX0_keep_50 (fun H locs hP hD hS => ?_)
      have hP : va_P G vwCl (wS cI cJ aS pr pu ta se qu im su tc sc rc cn so ++ (wH cI cJ cO aH aK (updH hs 0 q3) ((ol + 1) - (ol + 1) / 5 * 5) ct ++ ([] : va_W))) H := hP
      have hD : va_D A (wS cI cJ aS pr pu ta se qu im su tc sc rc cn so ++ (wH cI cJ cO aH aK (updH hs 0 q3) ((ol + 1) - (ol + 1) / 5 * 5) ct ++ ([] : va_W))) := hD
      rw [← Option.some.inj h]
      exact krv hx hb hr hlk hP hD hS hK dX0_keep_53
    · replace h := (if_neg c4).symm.trans h
      refine lv_aload_n hx hb dX0_keep_28 rfl (lv_at hl 0 rfl) ?_
      refine lv_dup hx hb dX0_keep_29 rfl ?_
      refine va_get (D := G) (ci := 0) (v := .int ct) (C := RX0) (T := TX0) (N := 3) hx hb hts uX0 hown hK hP 8 rfl rfl 2 (by decide) (hts _ kw89) (fun _ h9 => h9) rfl dX0_keep_30 ?_
      refine lv_iconst (v := 1) hx hb dX0_keep_33 (by decide) ?_
      refine lv_iadd hx hb dX0_keep_34 ?_
      refine va_put (D := G) (ci := 0) (ty := .int) (v := .int (ct + 1)) (C := RX0) (T := TX0) (N := 3) hx hb hts uX0 tyX0 tyX0_ok nmX0 hown hK hP hD hS 8 rfl rfl 2 (by decide) (hts _ kw89) (fun _ h9 => h9) rfl (by decide +kernel) rfl rfl (Nat.le_of_ble_eq_true rfl) dX0_keep_35 (fun H locs hP hD hS => ?_)
      have hP : va_P G vwCl (wS cI cJ aS pr pu ta se qu im su tc sc rc cn so ++ (wH cI cJ cO aH aK (updH hs 0 q3) ol (ct + 1) ++ ([] : va_W))) H := hP
      have hD : va_D A (wS cI cJ aS pr pu ta se qu im su tc sc rc cn so ++ (wH cI cJ cO aH aK (updH hs 0 q3) ol (ct + 1) ++ ([] : va_W))) := hD
      refine lv_goto (tgt := 53) hx hb dX0_keep_38 (by decide) ?_
      rw [← Option.some.inj h]
      exact krv hx hb hr hlk hP hD hS hK dX0_keep_53
  · skip
    refine lv_aload_n hx hb dX0_keep_16 rfl (lv_at hl 1 rfl) ?_
    obtain ⟨q6, hq6, h⟩ := bd_s h
    refine kVv (n := 1) (C := RX2) (ws' := wS cI cJ aS pr pu ta se qu im su tc sc rc cn so ++ (wH cI cJ cO aH aK (updH hs 1 q6) ol ct ++ ([] : va_W))) (As := [.ref (aS 0)]) (rest := []) hx hb hml hown hts (c_X2_copyFrom l G cI cJ cZ cO cA e (aK 1) aS _ ((hs 1).1) ((hs 1).2.1) ((hs 1).2.2.1) ((hs 1).2.2.2.1) ((hs 1).2.2.2.2.1) ((hs 1).2.2.2.2.2.1) ((hs 1).2.2.2.2.2.2.1) ((hs 1).2.2.2.2.2.2.2.1) ((hs 1).2.2.2.2.2.2.2.2.1) ((hs 1).2.2.2.2.2.2.2.2.2.1) ((hs 1).2.2.2.2.2.2.2.2.2.2.1) ((hs 1).2.2.2.2.2.2.2.2.2.2.2) pr pu ta se qu im su tc sc rc cn so hq6) (tb_V kw200 kw201 kw202 kw2 kw203) rfl rfl (by decide +kernel) ⟨Nat.le_of_ble_eq_true rfl, Nat.le_of_ble_eq_true rfl⟩ hK hP hD hS hA hE 18 rfl rfl [18, 19, 20, 21, 22, 23, 24, 25, 0, 1, 2, 3, 4, 5, 6, 7] [8, 9, 10, 11, 12, 13, 14, 15, 16, 17, 26, 27, 28, 29, 30, 31, 32, 33, 34, 35, 36, 37, 38, 39, 40, 41, 42, 43, 44, 45, 46, 47, 48, 49] rfl rfl rfl 50 ⟨rfl, rfl⟩ (by decide +kernel) (by decide +kernel) rfl rfl hl.1 (Nat.le_of_ble_eq_true rfl) ⟨Nat.zero_le _, Nat.zero_le _⟩ dX0_keep_17 (fun H locs hP hD hS => ?_)
    refine lv_aload_n hx hb dX0_keep_20 rfl (lv_at hl 0 rfl) ?_
    refine va_get (D := G) (ci := 0) (v := .int ct) (C := RX0) (T := TX0) (N := 3) hx hb hts uX0 hown hK hP 8 rfl rfl 2 (by decide) (hts _ kw89) (fun _ h9 => h9) rfl dX0_keep_21 ?_
    refine lv_iconst (v := 5) hx hb dX0_keep_24 (by decide) ?_
    refine lv_icmp_ge (tgt := 41) hx hb dX0_keep_25 (by decide) (fun c7 => ?_) (fun c7 => ?_)
    · replace h := (if_pos c7).symm.trans h
      refine lv_aload_n hx hb dX0_keep_41 rfl (lv_at hl 0 rfl) ?_
      refine lv_aload_n hx hb dX0_keep_42 rfl (lv_at hl 0 rfl) ?_
      refine va_get (D := G) (ci := 0) (v := .int ol) (C := RX0) (T := TX0) (N := 3) hx hb hts uX0 hown hK hP 8 rfl rfl 1 (by decide) (hts _ kw88) (fun _ h9 => h9) rfl dX0_keep_43 ?_
      refine lv_iconst (v := 1) hx hb dX0_keep_46 (by decide) ?_
      refine lv_iadd hx hb dX0_keep_47 ?_
      refine lv_iconst (v := 5) hx hb dX0_keep_48 (by decide) ?_
      refine lv_irem hx hb dX0_keep_49 (by decide) ?_
      refine va_put (D := G) (ci := 0) (ty := .int) (v := .int ((ol + 1) - (ol + 1) / 5 * 5)) (C := RX0) (T := TX0) (N := 3) hx hb hts uX0 tyX0 tyX0_ok nmX0 hown hK hP hD hS 8 rfl rfl 1 (by decide) (hts _ kw88) (fun _ h9 => h9) rfl (by decide +kernel) rfl rfl (Nat.le_of_ble_eq_true rfl) dX0_keep_50 (fun H locs hP hD hS => ?_)
      have hP : va_P G vwCl (wS cI cJ aS pr pu ta se qu im su tc sc rc cn so ++ (wH cI cJ cO aH aK (updH hs 1 q6) ((ol + 1) - (ol + 1) / 5 * 5) ct ++ ([] : va_W))) H := hP
      have hD : va_D A (wS cI cJ aS pr pu ta se qu im su tc sc rc cn so ++ (wH cI cJ cO aH aK (updH hs 1 q6) ((ol + 1) - (ol + 1) / 5 * 5) ct ++ ([] : va_W))) := hD
      rw [← Option.some.inj h]
      exact krv hx hb hr hlk hP hD hS hK dX0_keep_53
    · replace h := (if_neg c7).symm.trans h
      refine lv_aload_n hx hb dX0_keep_28 rfl (lv_at hl 0 rfl) ?_
      refine lv_dup hx hb dX0_keep_29 rfl ?_
      refine va_get (D := G) (ci := 0) (v := .int ct) (C := RX0) (T := TX0) (N := 3) hx hb hts uX0 hown hK hP 8 rfl rfl 2 (by decide) (hts _ kw89) (fun _ h9 => h9) rfl dX0_keep_30 ?_
      refine lv_iconst (v := 1) hx hb dX0_keep_33 (by decide) ?_
      refine lv_iadd hx hb dX0_keep_34 ?_
      refine va_put (D := G) (ci := 0) (ty := .int) (v := .int (ct + 1)) (C := RX0) (T := TX0) (N := 3) hx hb hts uX0 tyX0 tyX0_ok nmX0 hown hK hP hD hS 8 rfl rfl 2 (by decide) (hts _ kw89) (fun _ h9 => h9) rfl (by decide +kernel) rfl rfl (Nat.le_of_ble_eq_true rfl) dX0_keep_35 (fun H locs hP hD hS => ?_)
      have hP : va_P G vwCl (wS cI cJ aS pr pu ta se qu im su tc sc rc cn so ++ (wH cI cJ cO aH aK (updH hs 1 q6) ol (ct + 1) ++ ([] : va_W))) H := hP
      have hD : va_D A (wS cI cJ aS pr pu ta se qu im su tc sc rc cn so ++ (wH cI cJ cO aH aK (updH hs 1 q6) ol (ct + 1) ++ ([] : va_W))) := hD
      refine lv_goto (tgt := 53) hx hb dX0_keep_38 (by decide) ?_
      rw [← Option.some.inj h]
      exact krv hx hb hr hlk hP hD hS hK dX0_keep_53
  · skip
    refine lv_aload_n hx hb dX0_keep_16 rfl (lv_at hl 1 rfl) ?_
    obtain ⟨q9, hq9, h⟩ := bd_s h
    refine kVv (n := 1) (C := RX2) (ws' := wS cI cJ aS pr pu ta se qu im su tc sc rc cn so ++ (wH cI cJ cO aH aK (updH hs 2 q9) ol ct ++ ([] : va_W))) (As := [.ref (aS 0)]) (rest := []) hx hb hml hown hts (c_X2_copyFrom l G cI cJ cZ cO cA e (aK 2) aS _ ((hs 2).1) ((hs 2).2.1) ((hs 2).2.2.1) ((hs 2).2.2.2.1) ((hs 2).2.2.2.2.1) ((hs 2).2.2.2.2.2.1) ((hs 2).2.2.2.2.2.2.1) ((hs 2).2.2.2.2.2.2.2.1) ((hs 2).2.2.2.2.2.2.2.2.1) ((hs 2).2.2.2.2.2.2.2.2.2.1) ((hs 2).2.2.2.2.2.2.2.2.2.2.1) ((hs 2).2.2.2.2.2.2.2.2.2.2.2) pr pu ta se qu im su tc sc rc cn so hq9) (tb_V kw200 kw201 kw202 kw2 kw203) rfl rfl (by decide +kernel) ⟨Nat.le_of_ble_eq_true rfl, Nat.le_of_ble_eq_true rfl⟩ hK hP hD hS hA hE 26 rfl rfl [26, 27, 28, 29, 30, 31, 32, 33, 0, 1, 2, 3, 4, 5, 6, 7] [8, 9, 10, 11, 12, 13, 14, 15, 16, 17, 18, 19, 20, 21, 22, 23, 24, 25, 34, 35, 36, 37, 38, 39, 40, 41, 42, 43, 44, 45, 46, 47, 48, 49] rfl rfl rfl 50 ⟨rfl, rfl⟩ (by decide +kernel) (by decide +kernel) rfl rfl hl.1 (Nat.le_of_ble_eq_true rfl) ⟨Nat.zero_le _, Nat.zero_le _⟩ dX0_keep_17 (fun H locs hP hD hS => ?_)
    refine lv_aload_n hx hb dX0_keep_20 rfl (lv_at hl 0 rfl) ?_
    refine va_get (D := G) (ci := 0) (v := .int ct) (C := RX0) (T := TX0) (N := 3) hx hb hts uX0 hown hK hP 8 rfl rfl 2 (by decide) (hts _ kw89) (fun _ h9 => h9) rfl dX0_keep_21 ?_
    refine lv_iconst (v := 5) hx hb dX0_keep_24 (by decide) ?_
    refine lv_icmp_ge (tgt := 41) hx hb dX0_keep_25 (by decide) (fun c10 => ?_) (fun c10 => ?_)
    · replace h := (if_pos c10).symm.trans h
      refine lv_aload_n hx hb dX0_keep_41 rfl (lv_at hl 0 rfl) ?_
      refine lv_aload_n hx hb dX0_keep_42 rfl (lv_at hl 0 rfl) ?_
      refine va_get (D := G) (ci := 0) (v := .int ol) (C := RX0) (T := TX0) (N := 3) hx hb hts uX0 hown hK hP 8 rfl rfl 1 (by decide) (hts _ kw88) (fun _ h9 => h9) rfl dX0_keep_43 ?_
      refine lv_iconst (v := 1) hx hb dX0_keep_46 (by decide) ?_
      refine lv_iadd hx hb dX0_keep_47 ?_
      refine lv_iconst (v := 5) hx hb dX0_keep_48 (by decide) ?_
      refine lv_irem hx hb dX0_keep_49 (by decide) ?_
      refine va_put (D := G) (ci := 0) (ty := .int) (v := .int ((ol + 1) - (ol + 1) / 5 * 5)) (C := RX0) (T := TX0) (N := 3) hx hb hts uX0 tyX0 tyX0_ok nmX0 hown hK hP hD hS 8 rfl rfl 1 (by decide) (hts _ kw88) (fun _ h9 => h9) rfl (by decide +kernel) rfl rfl (Nat.le_of_ble_eq_true rfl) dX0_keep_50 (fun H locs hP hD hS => ?_)
      have hP : va_P G vwCl (wS cI cJ aS pr pu ta se qu im su tc sc rc cn so ++ (wH cI cJ cO aH aK (updH hs 2 q9) ((ol + 1) - (ol + 1) / 5 * 5) ct ++ ([] : va_W))) H := hP
      have hD : va_D A (wS cI cJ aS pr pu ta se qu im su tc sc rc cn so ++ (wH cI cJ cO aH aK (updH hs 2 q9) ((ol + 1) - (ol + 1) / 5 * 5) ct ++ ([] : va_W))) := hD
      rw [← Option.some.inj h]
      exact krv hx hb hr hlk hP hD hS hK dX0_keep_53
    · replace h := (if_neg c10).symm.trans h
      refine lv_aload_n hx hb dX0_keep_28 rfl (lv_at hl 0 rfl) ?_
      refine lv_dup hx hb dX0_keep_29 rfl ?_
      refine va_get (D := G) (ci := 0) (v := .int ct) (C := RX0) (T := TX0) (N := 3) hx hb hts uX0 hown hK hP 8 rfl rfl 2 (by decide) (hts _ kw89) (fun _ h9 => h9) rfl dX0_keep_30 ?_
      refine lv_iconst (v := 1) hx hb dX0_keep_33 (by decide) ?_
      refine lv_iadd hx hb dX0_keep_34 ?_
      refine va_put (D := G) (ci := 0) (ty := .int) (v := .int (ct + 1)) (C := RX0) (T := TX0) (N := 3) hx hb hts uX0 tyX0 tyX0_ok nmX0 hown hK hP hD hS 8 rfl rfl 2 (by decide) (hts _ kw89) (fun _ h9 => h9) rfl (by decide +kernel) rfl rfl (Nat.le_of_ble_eq_true rfl) dX0_keep_35 (fun H locs hP hD hS => ?_)
      have hP : va_P G vwCl (wS cI cJ aS pr pu ta se qu im su tc sc rc cn so ++ (wH cI cJ cO aH aK (updH hs 2 q9) ol (ct + 1) ++ ([] : va_W))) H := hP
      have hD : va_D A (wS cI cJ aS pr pu ta se qu im su tc sc rc cn so ++ (wH cI cJ cO aH aK (updH hs 2 q9) ol (ct + 1) ++ ([] : va_W))) := hD
      refine lv_goto (tgt := 53) hx hb dX0_keep_38 (by decide) ?_
      rw [← Option.some.inj h]
      exact krv hx hb hr hlk hP hD hS hK dX0_keep_53
  · skip
    refine lv_aload_n hx hb dX0_keep_16 rfl (lv_at hl 1 rfl) ?_
    obtain ⟨q12, hq12, h⟩ := bd_s h
    refine kVv (n := 1) (C := RX2) (ws' := wS cI cJ aS pr pu ta se qu im su tc sc rc cn so ++ (wH cI cJ cO aH aK (updH hs 3 q12) ol ct ++ ([] : va_W))) (As := [.ref (aS 0)]) (rest := []) hx hb hml hown hts (c_X2_copyFrom l G cI cJ cZ cO cA e (aK 3) aS _ ((hs 3).1) ((hs 3).2.1) ((hs 3).2.2.1) ((hs 3).2.2.2.1) ((hs 3).2.2.2.2.1) ((hs 3).2.2.2.2.2.1) ((hs 3).2.2.2.2.2.2.1) ((hs 3).2.2.2.2.2.2.2.1) ((hs 3).2.2.2.2.2.2.2.2.1) ((hs 3).2.2.2.2.2.2.2.2.2.1) ((hs 3).2.2.2.2.2.2.2.2.2.2.1) ((hs 3).2.2.2.2.2.2.2.2.2.2.2) pr pu ta se qu im su tc sc rc cn so hq12) (tb_V kw200 kw201 kw202 kw2 kw203) rfl rfl (by decide +kernel) ⟨Nat.le_of_ble_eq_true rfl, Nat.le_of_ble_eq_true rfl⟩ hK hP hD hS hA hE 34 rfl rfl [34, 35, 36, 37, 38, 39, 40, 41, 0, 1, 2, 3, 4, 5, 6, 7] [8, 9, 10, 11, 12, 13, 14, 15, 16, 17, 18, 19, 20, 21, 22, 23, 24, 25, 26, 27, 28, 29, 30, 31, 32, 33, 42, 43, 44, 45, 46, 47, 48, 49] rfl rfl rfl 50 ⟨rfl, rfl⟩ (by decide +kernel) (by decide +kernel) rfl rfl hl.1 (Nat.le_of_ble_eq_true rfl) ⟨Nat.zero_le _, Nat.zero_le _⟩ dX0_keep_17 (fun H locs hP hD hS => ?_)
    refine lv_aload_n hx hb dX0_keep_20 rfl (lv_at hl 0 rfl) ?_
    refine va_get (D := G) (ci := 0) (v := .int ct) (C := RX0) (T := TX0) (N := 3) hx hb hts uX0 hown hK hP 8 rfl rfl 2 (by decide) (hts _ kw89) (fun _ h9 => h9) rfl dX0_keep_21 ?_
    refine lv_iconst (v := 5) hx hb dX0_keep_24 (by decide) ?_
    refine lv_icmp_ge (tgt := 41) hx hb dX0_keep_25 (by decide) (fun c13 => ?_) (fun c13 => ?_)
    · replace h := (if_pos c13).symm.trans h
      refine lv_aload_n hx hb dX0_keep_41 rfl (lv_at hl 0 rfl) ?_
      refine lv_aload_n hx hb dX0_keep_42 rfl (lv_at hl 0 rfl) ?_
      refine va_get (D := G) (ci := 0) (v := .int ol) (C := RX0) (T := TX0) (N := 3) hx hb hts uX0 hown hK hP 8 rfl rfl 1 (by decide) (hts _ kw88) (fun _ h9 => h9) rfl dX0_keep_43 ?_
      refine lv_iconst (v := 1) hx hb dX0_keep_46 (by decide) ?_
      refine lv_iadd hx hb dX0_keep_47 ?_
      refine lv_iconst (v := 5) hx hb dX0_keep_48 (by decide) ?_
      refine lv_irem hx hb dX0_keep_49 (by decide) ?_
      refine va_put (D := G) (ci := 0) (ty := .int) (v := .int ((ol + 1) - (ol + 1) / 5 * 5)) (C := RX0) (T := TX0) (N := 3) hx hb hts uX0 tyX0 tyX0_ok nmX0 hown hK hP hD hS 8 rfl rfl 1 (by decide) (hts _ kw88) (fun _ h9 => h9) rfl (by decide +kernel) rfl rfl (Nat.le_of_ble_eq_true rfl) dX0_keep_50 (fun H locs hP hD hS => ?_)
      have hP : va_P G vwCl (wS cI cJ aS pr pu ta se qu im su tc sc rc cn so ++ (wH cI cJ cO aH aK (updH hs 3 q12) ((ol + 1) - (ol + 1) / 5 * 5) ct ++ ([] : va_W))) H := hP
      have hD : va_D A (wS cI cJ aS pr pu ta se qu im su tc sc rc cn so ++ (wH cI cJ cO aH aK (updH hs 3 q12) ((ol + 1) - (ol + 1) / 5 * 5) ct ++ ([] : va_W))) := hD
      rw [← Option.some.inj h]
      exact krv hx hb hr hlk hP hD hS hK dX0_keep_53
    · replace h := (if_neg c13).symm.trans h
      refine lv_aload_n hx hb dX0_keep_28 rfl (lv_at hl 0 rfl) ?_
      refine lv_dup hx hb dX0_keep_29 rfl ?_
      refine va_get (D := G) (ci := 0) (v := .int ct) (C := RX0) (T := TX0) (N := 3) hx hb hts uX0 hown hK hP 8 rfl rfl 2 (by decide) (hts _ kw89) (fun _ h9 => h9) rfl dX0_keep_30 ?_
      refine lv_iconst (v := 1) hx hb dX0_keep_33 (by decide) ?_
      refine lv_iadd hx hb dX0_keep_34 ?_
      refine va_put (D := G) (ci := 0) (ty := .int) (v := .int (ct + 1)) (C := RX0) (T := TX0) (N := 3) hx hb hts uX0 tyX0 tyX0_ok nmX0 hown hK hP hD hS 8 rfl rfl 2 (by decide) (hts _ kw89) (fun _ h9 => h9) rfl (by decide +kernel) rfl rfl (Nat.le_of_ble_eq_true rfl) dX0_keep_35 (fun H locs hP hD hS => ?_)
      have hP : va_P G vwCl (wS cI cJ aS pr pu ta se qu im su tc sc rc cn so ++ (wH cI cJ cO aH aK (updH hs 3 q12) ol (ct + 1) ++ ([] : va_W))) H := hP
      have hD : va_D A (wS cI cJ aS pr pu ta se qu im su tc sc rc cn so ++ (wH cI cJ cO aH aK (updH hs 3 q12) ol (ct + 1) ++ ([] : va_W))) := hD
      refine lv_goto (tgt := 53) hx hb dX0_keep_38 (by decide) ?_
      rw [← Option.some.inj h]
      exact krv hx hb hr hlk hP hD hS hK dX0_keep_53
  · skip
    refine lv_aload_n hx hb dX0_keep_16 rfl (lv_at hl 1 rfl) ?_
    obtain ⟨q15, hq15, h⟩ := bd_s h
    refine kVv (n := 1) (C := RX2) (ws' := wS cI cJ aS pr pu ta se qu im su tc sc rc cn so ++ (wH cI cJ cO aH aK (updH hs 4 q15) ol ct ++ ([] : va_W))) (As := [.ref (aS 0)]) (rest := []) hx hb hml hown hts (c_X2_copyFrom l G cI cJ cZ cO cA e (aK 4) aS _ ((hs 4).1) ((hs 4).2.1) ((hs 4).2.2.1) ((hs 4).2.2.2.1) ((hs 4).2.2.2.2.1) ((hs 4).2.2.2.2.2.1) ((hs 4).2.2.2.2.2.2.1) ((hs 4).2.2.2.2.2.2.2.1) ((hs 4).2.2.2.2.2.2.2.2.1) ((hs 4).2.2.2.2.2.2.2.2.2.1) ((hs 4).2.2.2.2.2.2.2.2.2.2.1) ((hs 4).2.2.2.2.2.2.2.2.2.2.2) pr pu ta se qu im su tc sc rc cn so hq15) (tb_V kw200 kw201 kw202 kw2 kw203) rfl rfl (by decide +kernel) ⟨Nat.le_of_ble_eq_true rfl, Nat.le_of_ble_eq_true rfl⟩ hK hP hD hS hA hE 42 rfl rfl [42, 43, 44, 45, 46, 47, 48, 49, 0, 1, 2, 3, 4, 5, 6, 7] [8, 9, 10, 11, 12, 13, 14, 15, 16, 17, 18, 19, 20, 21, 22, 23, 24, 25, 26, 27, 28, 29, 30, 31, 32, 33, 34, 35, 36, 37, 38, 39, 40, 41] rfl rfl rfl 50 ⟨rfl, rfl⟩ (by decide +kernel) (by decide +kernel) rfl rfl hl.1 (Nat.le_of_ble_eq_true rfl) ⟨Nat.zero_le _, Nat.zero_le _⟩ dX0_keep_17 (fun H locs hP hD hS => ?_)
    refine lv_aload_n hx hb dX0_keep_20 rfl (lv_at hl 0 rfl) ?_
    refine va_get (D := G) (ci := 0) (v := .int ct) (C := RX0) (T := TX0) (N := 3) hx hb hts uX0 hown hK hP 8 rfl rfl 2 (by decide) (hts _ kw89) (fun _ h9 => h9) rfl dX0_keep_21 ?_
    refine lv_iconst (v := 5) hx hb dX0_keep_24 (by decide) ?_
    refine lv_icmp_ge (tgt := 41) hx hb dX0_keep_25 (by decide) (fun c16 => ?_) (fun c16 => ?_)
    · replace h := (if_pos c16).symm.trans h
      refine lv_aload_n hx hb dX0_keep_41 rfl (lv_at hl 0 rfl) ?_
      refine lv_aload_n hx hb dX0_keep_42 rfl (lv_at hl 0 rfl) ?_
      refine va_get (D := G) (ci := 0) (v := .int ol) (C := RX0) (T := TX0) (N := 3) hx hb hts uX0 hown hK hP 8 rfl rfl 1 (by decide) (hts _ kw88) (fun _ h9 => h9) rfl dX0_keep_43 ?_
      refine lv_iconst (v := 1) hx hb dX0_keep_46 (by decide) ?_
      refine lv_iadd hx hb dX0_keep_47 ?_
      refine lv_iconst (v := 5) hx hb dX0_keep_48 (by decide) ?_
      refine lv_irem hx hb dX0_keep_49 (by decide) ?_
      refine va_put (D := G) (ci := 0) (ty := .int) (v := .int ((ol + 1) - (ol + 1) / 5 * 5)) (C := RX0) (T := TX0) (N := 3) hx hb hts uX0 tyX0 tyX0_ok nmX0 hown hK hP hD hS 8 rfl rfl 1 (by decide) (hts _ kw88) (fun _ h9 => h9) rfl (by decide +kernel) rfl rfl (Nat.le_of_ble_eq_true rfl) dX0_keep_50 (fun H locs hP hD hS => ?_)
      have hP : va_P G vwCl (wS cI cJ aS pr pu ta se qu im su tc sc rc cn so ++ (wH cI cJ cO aH aK (updH hs 4 q15) ((ol + 1) - (ol + 1) / 5 * 5) ct ++ ([] : va_W))) H := hP
      have hD : va_D A (wS cI cJ aS pr pu ta se qu im su tc sc rc cn so ++ (wH cI cJ cO aH aK (updH hs 4 q15) ((ol + 1) - (ol + 1) / 5 * 5) ct ++ ([] : va_W))) := hD
      rw [← Option.some.inj h]
      exact krv hx hb hr hlk hP hD hS hK dX0_keep_53
    · replace h := (if_neg c16).symm.trans h
      refine lv_aload_n hx hb dX0_keep_28 rfl (lv_at hl 0 rfl) ?_
      refine lv_dup hx hb dX0_keep_29 rfl ?_
      refine va_get (D := G) (ci := 0) (v := .int ct) (C := RX0) (T := TX0) (N := 3) hx hb hts uX0 hown hK hP 8 rfl rfl 2 (by decide) (hts _ kw89) (fun _ h9 => h9) rfl dX0_keep_30 ?_
      refine lv_iconst (v := 1) hx hb dX0_keep_33 (by decide) ?_
      refine lv_iadd hx hb dX0_keep_34 ?_
      refine va_put (D := G) (ci := 0) (ty := .int) (v := .int (ct + 1)) (C := RX0) (T := TX0) (N := 3) hx hb hts uX0 tyX0 tyX0_ok nmX0 hown hK hP hD hS 8 rfl rfl 2 (by decide) (hts _ kw89) (fun _ h9 => h9) rfl (by decide +kernel) rfl rfl (Nat.le_of_ble_eq_true rfl) dX0_keep_35 (fun H locs hP hD hS => ?_)
      have hP : va_P G vwCl (wS cI cJ aS pr pu ta se qu im su tc sc rc cn so ++ (wH cI cJ cO aH aK (updH hs 4 q15) ol (ct + 1) ++ ([] : va_W))) H := hP
      have hD : va_D A (wS cI cJ aS pr pu ta se qu im su tc sc rc cn so ++ (wH cI cJ cO aH aK (updH hs 4 q15) ol (ct + 1) ++ ([] : va_W))) := hD
      refine lv_goto (tgt := 53) hx hb dX0_keep_38 (by decide) ?_
      rw [← Option.some.inj h]
      exact krv hx hb hr hlk hP hD hS hK dX0_keep_53

/-! X2_setProperty -/
def f_X2_setProperty (pr : Nat → Int32) (p0 : Int32) (p1 : Int32) (p2 : Int32) : Option ((Nat → Int32)) :=
  gd (ib ((p0 * 7) + p1) 56) (some (upd pr ((p0 * 7) + p1).toNatClampNeg p2))

set_option maxHeartbeats 4000000 in
set_option maxRecDepth 100000 in
theorem c_X2_setProperty (l : Launch) (G : va_G) (cI cJ cZ cO cA : ClassId) (e : Nat × Nat) (aS : Nat → Nat) (sz : Nat) (pr : Nat → Int32) (pu : Nat → Int32) (ta : Nat → Int32) (se : Nat → Int32) (qu : Nat → Int32) (im : Nat → Int32) (su : Nat → Int64) (tc : Int32) (sc : Int32) (rc : Int32) (cn : Int32) (so : Int32) (p0 : Int32) (p1 : Int32) (p2 : Int32) {res : (Nat → Int32)} (hf : f_X2_setProperty pr p0 p1 p2 = some res) : MetV l yX2_setProperty cX2_setProperty 4 ({ frames := 0, cells := 0, slots := 0, locals := 0 } : Room) [.ref (aS 0), .int p0, .int p1, .int p2] G (ty5 cI cJ cZ cO cA) e (wS cI cJ aS pr pu ta se qu im su tc sc rc cn so ++ ([] : va_W)) (wS cI cJ aS res pu ta se qu im su tc sc rc cn so ++ ([] : va_W)) sz := by
  refine g_body (QQ := fun A => (qV G (ty5 cI cJ cZ cO cA) A (wS cI cJ aS res pu ta se qu im su tc sc rc cn so ++ ([] : va_W)))) (own := RX2) (by decide) rfl (Nat.le_of_ble_eq_true rfl) ?_
  intro p ev s m below meth c A ls hx hb hr hml hown hts hlk hA hP hD hS hK hE hl
  have hl : lv_has ls 4 [(0, .ref (aS 0)), (1, .int p0), (2, .int p1), (3, .int p2)] := hl
  show W p l ev ({ frames := 0, cells := 0, slots := 0, locals := 0 } : Room) s m ([.ref (aS 0), .int p0, .int p1, .int p2] : List Value).toArray below meth c s.heap [] 0 0 (MQ below (qV G (ty5 cI cJ cZ cO cA) A (wS cI cJ aS res pu ta se qu im su tc sc rc cn so ++ ([] : va_W))) ([.ref (aS 0), .int p0, .int p1, .int p2] : List Value).toArray s 0 0 A) (F0 m 0 ls [])
  have h := hf
  unfold f_X2_setProperty at h
  refine lv_aload_n hx hb dX2_setProperty_0 rfl (lv_at hl 0 rfl) ?_
  refine va_get (D := G) (ci := 2) (v := .ref (aS 1)) (C := RX2) (T := TX2) (N := 12) hx hb hts uX2 hown hK hP 0 rfl rfl 0 (by decide) (hts _ kw29) (fun _ h9 => h9) rfl dX2_setProperty_1 ?_
  refine lv_iload_n hx hb dX2_setProperty_4 rfl (lv_at hl 1 rfl) ?_
  refine lv_bipush (v := 7) hx hb dX2_setProperty_5 (by decide) ?_
  refine lv_imul hx hb dX2_setProperty_7 ?_
  refine lv_iload_n hx hb dX2_setProperty_8 rfl (lv_at hl 2 rfl) ?_
  refine lv_iadd hx hb dX2_setProperty_9 ?_
  refine lv_iload_n hx hb dX2_setProperty_10 rfl (lv_at hl 3 rfl) ?_
  obtain ⟨g1, h⟩ := gd_s h
  refine va_iast hx hb hK hP hD hS 1 0 rfl rfl (ib_in g1) dX2_setProperty_11 (fun H locs hP hD hS => ?_)
  have hP : va_P G vwCl (wS cI cJ aS (upd pr ((p0 * 7) + p1).toNatClampNeg p2) pu ta se qu im su tc sc rc cn so ++ ([] : va_W)) H := hP
  have hD : va_D A (wS cI cJ aS (upd pr ((p0 * 7) + p1).toNatClampNeg p2) pu ta se qu im su tc sc rc cn so ++ ([] : va_W)) := hD
  rw [← Option.some.inj h]
  exact krv hx hb hr hlk hP hD hS hK dX2_setProperty_12

/-! X2_appendThruster -/
def f_X2_appendThruster (pr : Nat → Int32) (pu : Nat → Int32) (tc : Int32) (p0 : Int32) (p1 : Int32) (p2 : Int32) (p3 : Int32) (p4 : Int32) (p5 : Int32) : Option (Int32 × (Nat → Int32) × (Nat → Int32) × Int32) :=
  (f_X2_setProperty pr tc 0 p0).bind (fun q1 => (f_X2_setProperty q1 tc 1 p1).bind (fun q2 => (f_X2_setProperty q2 tc 2 p2).bind (fun q3 => (f_X2_setProperty q3 tc 3 p3).bind (fun q4 => (f_X2_setProperty q4 tc 4 p4).bind (fun q5 => (f_X2_setProperty q5 tc 5 p5).bind (fun q6 => (f_X2_setProperty q6 tc 6 0).bind (fun q7 => gd (ib tc 8) (some (tc, q7, (upd pu tc.toNatClampNeg 0), (tc + 1))))))))))

set_option maxHeartbeats 4000000 in
set_option maxRecDepth 100000 in
theorem c_X2_appendThruster (l : Launch) (G : va_G) (cI cJ cZ cO cA : ClassId) (e : Nat × Nat) (aS : Nat → Nat) (sz : Nat) (pr : Nat → Int32) (pu : Nat → Int32) (ta : Nat → Int32) (se : Nat → Int32) (qu : Nat → Int32) (im : Nat → Int32) (su : Nat → Int64) (tc : Int32) (sc : Int32) (rc : Int32) (cn : Int32) (so : Int32) (p0 : Int32) (p1 : Int32) (p2 : Int32) (p3 : Int32) (p4 : Int32) (p5 : Int32) {res : Int32 × (Nat → Int32) × (Nat → Int32) × Int32} (hf : f_X2_appendThruster pr pu tc p0 p1 p2 p3 p4 p5 = some res) : MetI l yX2_appendThruster cX2_appendThruster 8 .int ({ frames := 1, cells := 0, slots := 0, locals := 23 } : Room) [.ref (aS 0), .int p0, .int p1, .int p2, .int p3, .int p4, .int p5] G (ty5 cI cJ cZ cO cA) e (wS cI cJ aS pr pu ta se qu im su tc sc rc cn so ++ ([] : va_W)) (wS cI cJ aS res.2.1 res.2.2.1 ta se qu im su res.2.2.2 sc rc cn so ++ ([] : va_W)) sz res.1 := by
  refine g_body (QQ := fun A => (qI G (ty5 cI cJ cZ cO cA) A (wS cI cJ aS res.2.1 res.2.2.1 ta se qu im su res.2.2.2 sc rc cn so ++ ([] : va_W)) res.1)) (own := RX2) (by decide) rfl (Nat.le_of_ble_eq_true rfl) ?_
  intro p ev s m below meth c A ls hx hb hr hml hown hts hlk hA hP hD hS hK hE hl
  have hl : lv_has ls 8 [(0, .ref (aS 0)), (1, .int p0), (2, .int p1), (3, .int p2), (4, .int p3), (5, .int p4), (6, .int p5)] := hl
  show W p l ev ({ frames := 1, cells := 0, slots := 0, locals := 23 } : Room) s m ([.ref (aS 0), .int p0, .int p1, .int p2, .int p3, .int p4, .int p5] : List Value).toArray below meth c s.heap [] 0 0 (MQ below (qI G (ty5 cI cJ cZ cO cA) A (wS cI cJ aS res.2.1 res.2.2.1 ta se qu im su res.2.2.2 sc rc cn so ++ ([] : va_W)) res.1) ([.ref (aS 0), .int p0, .int p1, .int p2, .int p3, .int p4, .int p5] : List Value).toArray s 0 0 A) (F0 m 0 ls [])
  have h := hf
  unfold f_X2_appendThruster at h
  refine lv_aload_n hx hb dX2_appendThruster_0 rfl (lv_at hl 0 rfl) ?_
  refine va_get (D := G) (ci := 2) (v := .int tc) (C := RX2) (T := TX2) (N := 12) hx hb hts uX2 hown hK hP 0 rfl rfl 7 (by decide) (hts _ kw43) (fun _ h9 => h9) rfl dX2_appendThruster_1 ?_
  refine lv_istore (lv' := [(7, .int tc), (0, .ref (aS 0)), (1, .int p0), (2, .int p1), (3, .int p2), (4, .int p3), (5, .int p4), (6, .int p5)]) hx hb dX2_appendThruster_4 hl (by decide) rfl (fun ls hl => ?_)
  refine lv_aload_n hx hb dX2_appendThruster_6 rfl (lv_at hl 1 rfl) ?_
  refine lv_iload hx hb dX2_appendThruster_7 (lv_at hl 0 rfl) ?_
  refine lv_iconst (v := 0) hx hb dX2_appendThruster_9 (by decide) ?_
  refine lv_iload_n hx hb dX2_appendThruster_10 rfl (lv_at hl 2 rfl) ?_
  obtain ⟨q1, hq1, h⟩ := bd_s h
  refine kVv (n := 3) (C := RX2) (ws' := wS cI cJ aS q1 pu ta se qu im su tc sc rc cn so ++ ([] : va_W)) (As := [.int tc, .int 0, .int p0]) (rest := []) hx hb hml hown hts (c_X2_setProperty l G cI cJ cZ cO cA e aS _ pr pu ta se qu im su tc sc rc cn so tc 0 p0 hq1) (tb_V kw211 kw212 kw213 kw2 kw214) rfl rfl (by decide +kernel) ⟨Nat.le_of_ble_eq_true rfl, Nat.le_of_ble_eq_true rfl⟩ hK hP hD hS hA hE 0 rfl rfl [0, 1, 2, 3, 4, 5, 6, 7] [] rfl rfl rfl 8 ⟨rfl, rfl⟩ (by decide +kernel) (by decide +kernel) rfl rfl hl.1 (Nat.le_of_ble_eq_true rfl) ⟨Nat.zero_le _, Nat.zero_le _⟩ dX2_appendThruster_11 (fun H locs hP hD hS => ?_)
  refine lv_aload_n hx hb dX2_appendThruster_14 rfl (lv_at hl 1 rfl) ?_
  refine lv_iload hx hb dX2_appendThruster_15 (lv_at hl 0 rfl) ?_
  refine lv_iconst (v := 1) hx hb dX2_appendThruster_17 (by decide) ?_
  refine lv_iload_n hx hb dX2_appendThruster_18 rfl (lv_at hl 3 rfl) ?_
  obtain ⟨q2, hq2, h⟩ := bd_s h
  refine kVv (n := 3) (C := RX2) (ws' := wS cI cJ aS q2 pu ta se qu im su tc sc rc cn so ++ ([] : va_W)) (As := [.int tc, .int 1, .int p1]) (rest := []) hx hb hml hown hts (c_X2_setProperty l G cI cJ cZ cO cA e aS _ q1 pu ta se qu im su tc sc rc cn so tc 1 p1 hq2) (tb_V kw211 kw212 kw213 kw2 kw214) rfl rfl (by decide +kernel) ⟨Nat.le_of_ble_eq_true rfl, Nat.le_of_ble_eq_true rfl⟩ hK hP hD hS hA hE 0 rfl rfl [0, 1, 2, 3, 4, 5, 6, 7] [] rfl rfl rfl 8 ⟨rfl, rfl⟩ (by decide +kernel) (by decide +kernel) rfl rfl hl.1 (Nat.le_of_ble_eq_true rfl) ⟨Nat.zero_le _, Nat.zero_le _⟩ dX2_appendThruster_19 (fun H locs hP hD hS => ?_)
  refine lv_aload_n hx hb dX2_appendThruster_22 rfl (lv_at hl 1 rfl) ?_
  refine lv_iload hx hb dX2_appendThruster_23 (lv_at hl 0 rfl) ?_
  refine lv_iconst (v := 2) hx hb dX2_appendThruster_25 (by decide) ?_
  refine lv_iload_n hx hb dX2_appendThruster_26 rfl (lv_at hl 4 rfl) ?_
  obtain ⟨q3, hq3, h⟩ := bd_s h
  refine kVv (n := 3) (C := RX2) (ws' := wS cI cJ aS q3 pu ta se qu im su tc sc rc cn so ++ ([] : va_W)) (As := [.int tc, .int 2, .int p2]) (rest := []) hx hb hml hown hts (c_X2_setProperty l G cI cJ cZ cO cA e aS _ q2 pu ta se qu im su tc sc rc cn so tc 2 p2 hq3) (tb_V kw211 kw212 kw213 kw2 kw214) rfl rfl (by decide +kernel) ⟨Nat.le_of_ble_eq_true rfl, Nat.le_of_ble_eq_true rfl⟩ hK hP hD hS hA hE 0 rfl rfl [0, 1, 2, 3, 4, 5, 6, 7] [] rfl rfl rfl 8 ⟨rfl, rfl⟩ (by decide +kernel) (by decide +kernel) rfl rfl hl.1 (Nat.le_of_ble_eq_true rfl) ⟨Nat.zero_le _, Nat.zero_le _⟩ dX2_appendThruster_27 (fun H locs hP hD hS => ?_)
  refine lv_aload_n hx hb dX2_appendThruster_30 rfl (lv_at hl 1 rfl) ?_
  refine lv_iload hx hb dX2_appendThruster_31 (lv_at hl 0 rfl) ?_
  refine lv_iconst (v := 3) hx hb dX2_appendThruster_33 (by decide) ?_
  refine lv_iload hx hb dX2_appendThruster_34 (lv_at hl 5 rfl) ?_
  obtain ⟨q4, hq4, h⟩ := bd_s h
  refine kVv (n := 3) (C := RX2) (ws' := wS cI cJ aS q4 pu ta se qu im su tc sc rc cn so ++ ([] : va_W)) (As := [.int tc, .int 3, .int p3]) (rest := []) hx hb hml hown hts (c_X2_setProperty l G cI cJ cZ cO cA e aS _ q3 pu ta se qu im su tc sc rc cn so tc 3 p3 hq4) (tb_V kw211 kw212 kw213 kw2 kw214) rfl rfl (by decide +kernel) ⟨Nat.le_of_ble_eq_true rfl, Nat.le_of_ble_eq_true rfl⟩ hK hP hD hS hA hE 0 rfl rfl [0, 1, 2, 3, 4, 5, 6, 7] [] rfl rfl rfl 8 ⟨rfl, rfl⟩ (by decide +kernel) (by decide +kernel) rfl rfl hl.1 (Nat.le_of_ble_eq_true rfl) ⟨Nat.zero_le _, Nat.zero_le _⟩ dX2_appendThruster_36 (fun H locs hP hD hS => ?_)
  refine lv_aload_n hx hb dX2_appendThruster_39 rfl (lv_at hl 1 rfl) ?_
  refine lv_iload hx hb dX2_appendThruster_40 (lv_at hl 0 rfl) ?_
  refine lv_iconst (v := 4) hx hb dX2_appendThruster_42 (by decide) ?_
  refine lv_iload hx hb dX2_appendThruster_43 (lv_at hl 6 rfl) ?_
  obtain ⟨q5, hq5, h⟩ := bd_s h
  refine kVv (n := 3) (C := RX2) (ws' := wS cI cJ aS q5 pu ta se qu im su tc sc rc cn so ++ ([] : va_W)) (As := [.int tc, .int 4, .int p4]) (rest := []) hx hb hml hown hts (c_X2_setProperty l G cI cJ cZ cO cA e aS _ q4 pu ta se qu im su tc sc rc cn so tc 4 p4 hq5) (tb_V kw211 kw212 kw213 kw2 kw214) rfl rfl (by decide +kernel) ⟨Nat.le_of_ble_eq_true rfl, Nat.le_of_ble_eq_true rfl⟩ hK hP hD hS hA hE 0 rfl rfl [0, 1, 2, 3, 4, 5, 6, 7] [] rfl rfl rfl 8 ⟨rfl, rfl⟩ (by decide +kernel) (by decide +kernel) rfl rfl hl.1 (Nat.le_of_ble_eq_true rfl) ⟨Nat.zero_le _, Nat.zero_le _⟩ dX2_appendThruster_45 (fun H locs hP hD hS => ?_)
  refine lv_aload_n hx hb dX2_appendThruster_48 rfl (lv_at hl 1 rfl) ?_
  refine lv_iload hx hb dX2_appendThruster_49 (lv_at hl 0 rfl) ?_
  refine lv_iconst (v := 5) hx hb dX2_appendThruster_51 (by decide) ?_
  refine lv_iload hx hb dX2_appendThruster_52 (lv_at hl 7 rfl) ?_
  obtain ⟨q6, hq6, h⟩ := bd_s h
  refine kVv (n := 3) (C := RX2) (ws' := wS cI cJ aS q6 pu ta se qu im su tc sc rc cn so ++ ([] : va_W)) (As := [.int tc, .int 5, .int p5]) (rest := []) hx hb hml hown hts (c_X2_setProperty l G cI cJ cZ cO cA e aS _ q5 pu ta se qu im su tc sc rc cn so tc 5 p5 hq6) (tb_V kw211 kw212 kw213 kw2 kw214) rfl rfl (by decide +kernel) ⟨Nat.le_of_ble_eq_true rfl, Nat.le_of_ble_eq_true rfl⟩ hK hP hD hS hA hE 0 rfl rfl [0, 1, 2, 3, 4, 5, 6, 7] [] rfl rfl rfl 8 ⟨rfl, rfl⟩ (by decide +kernel) (by decide +kernel) rfl rfl hl.1 (Nat.le_of_ble_eq_true rfl) ⟨Nat.zero_le _, Nat.zero_le _⟩ dX2_appendThruster_54 (fun H locs hP hD hS => ?_)
  refine lv_aload_n hx hb dX2_appendThruster_57 rfl (lv_at hl 1 rfl) ?_
  refine lv_iload hx hb dX2_appendThruster_58 (lv_at hl 0 rfl) ?_
  refine lv_bipush (v := 6) hx hb dX2_appendThruster_60 (by decide) ?_
  refine lv_iconst (v := 0) hx hb dX2_appendThruster_62 (by decide) ?_
  obtain ⟨q7, hq7, h⟩ := bd_s h
  refine kVv (n := 3) (C := RX2) (ws' := wS cI cJ aS q7 pu ta se qu im su tc sc rc cn so ++ ([] : va_W)) (As := [.int tc, .int 6, .int 0]) (rest := []) hx hb hml hown hts (c_X2_setProperty l G cI cJ cZ cO cA e aS _ q6 pu ta se qu im su tc sc rc cn so tc 6 0 hq7) (tb_V kw211 kw212 kw213 kw2 kw214) rfl rfl (by decide +kernel) ⟨Nat.le_of_ble_eq_true rfl, Nat.le_of_ble_eq_true rfl⟩ hK hP hD hS hA hE 0 rfl rfl [0, 1, 2, 3, 4, 5, 6, 7] [] rfl rfl rfl 8 ⟨rfl, rfl⟩ (by decide +kernel) (by decide +kernel) rfl rfl hl.1 (Nat.le_of_ble_eq_true rfl) ⟨Nat.zero_le _, Nat.zero_le _⟩ dX2_appendThruster_63 (fun H locs hP hD hS => ?_)
  refine lv_aload_n hx hb dX2_appendThruster_66 rfl (lv_at hl 1 rfl) ?_
  refine va_get (D := G) (ci := 2) (v := .ref (aS 2)) (C := RX2) (T := TX2) (N := 12) hx hb hts uX2 hown hK hP 0 rfl rfl 1 (by decide) (hts _ kw30) (fun _ h9 => h9) rfl dX2_appendThruster_67 ?_
  refine lv_iload hx hb dX2_appendThruster_70 (lv_at hl 0 rfl) ?_
  refine lv_iconst (v := 0) hx hb dX2_appendThruster_72 (by decide) ?_
  obtain ⟨g8, h⟩ := gd_s h
  refine va_iast hx hb hK hP hD hS 2 0 rfl rfl (ib_in g8) dX2_appendThruster_73 (fun H locs hP hD hS => ?_)
  have hP : va_P G vwCl (wS cI cJ aS q7 (upd pu tc.toNatClampNeg 0) ta se qu im su tc sc rc cn so ++ ([] : va_W)) H := hP
  have hD : va_D A (wS cI cJ aS q7 (upd pu tc.toNatClampNeg 0) ta se qu im su tc sc rc cn so ++ ([] : va_W)) := hD
  refine lv_aload_n hx hb dX2_appendThruster_74 rfl (lv_at hl 1 rfl) ?_
  refine lv_iload hx hb dX2_appendThruster_75 (lv_at hl 0 rfl) ?_
  refine lv_iconst (v := 1) hx hb dX2_appendThruster_77 (by decide) ?_
  refine lv_iadd hx hb dX2_appendThruster_78 ?_
  refine va_put (D := G) (ci := 2) (ty := .int) (v := .int (tc + 1)) (C := RX2) (T := TX2) (N := 12) hx hb hts uX2 tyX2 tyX2_ok nmX2 hown hK hP hD hS 0 rfl rfl 7 (by decide) (hts _ kw43) (fun _ h9 => h9) rfl (by decide +kernel) rfl rfl (Nat.le_of_ble_eq_true rfl) dX2_appendThruster_79 (fun H locs hP hD hS => ?_)
  have hP : va_P G vwCl (wS cI cJ aS q7 (upd pu tc.toNatClampNeg 0) ta se qu im su (tc + 1) sc rc cn so ++ ([] : va_W)) H := hP
  have hD : va_D A (wS cI cJ aS q7 (upd pu tc.toNatClampNeg 0) ta se qu im su (tc + 1) sc rc cn so ++ ([] : va_W)) := hD
  refine lv_iload hx hb dX2_appendThruster_82 (lv_at hl 0 rfl) ?_
  rw [← Option.some.inj h]
  exact kri hx hb hr hlk rfl rfl hP hD hS hK dX2_appendThruster_84

/-! X4_addThruster -/
def f_X4_addThruster_j84 (pr : Nat → Int32) (pu : Nat → Int32) (tc : Int32) (hs : Nat → SV) (ol : Int32) (ct : Int32) : Option (Int32 × (Nat → Int32) × (Nat → Int32) × Int32 × (Nat → SV) × Int32 × Int32) :=
  some ((-2000000002), pr, pu, tc, hs, ol, ct)
def f_X4_addThruster_j72 (pr : Nat → Int32) (pu : Nat → Int32) (ta : Nat → Int32) (se : Nat → Int32) (qu : Nat → Int32) (im : Nat → Int32) (su : Nat → Int64) (tc : Int32) (sc : Int32) (rc : Int32) (cn : Int32) (so : Int32) (hs : Nat → SV) (ol : Int32) (ct : Int32) (v1 : Int32) (v2 : Int32) (v3 : Int32) (v4 : Int32) (v5 : Int32) (v6 : Int32) (v7 : Int32) (t0 : Int32) : Option (Int32 × (Nat → Int32) × (Nat → Int32) × Int32 × (Nat → SV) × Int32 × Int32) :=
  if v7 = 0 then (f_X4_addThruster_j84 pr pu tc hs ol ct) else (if t0 = 0 then (f_X4_addThruster_j84 pr pu tc hs ol ct) else (if tc < 8 then ((f_X0_keep pr pu ta se qu im su tc sc rc cn so hs ol ct).bind (fun q13 => (f_X2_appendThruster pr pu tc v1 v2 v3 v4 v5 v6).bind (fun q14 => some (q14.1, q14.2.1, q14.2.2.1, q14.2.2.2, q13.1, q13.2.1, q13.2.2)))) else (some ((-2000000004), pr, pu, tc, hs, ol, ct))))
def f_X4_addThruster_j71 (pr : Nat → Int32) (pu : Nat → Int32) (ta : Nat → Int32) (se : Nat → Int32) (qu : Nat → Int32) (im : Nat → Int32) (su : Nat → Int64) (tc : Int32) (sc : Int32) (rc : Int32) (cn : Int32) (so : Int32) (hs : Nat → SV) (ol : Int32) (ct : Int32) (v1 : Int32) (v2 : Int32) (v3 : Int32) (v4 : Int32) (v5 : Int32) (v6 : Int32) (v7 : Int32) : Option (Int32 × (Nat → Int32) × (Nat → Int32) × Int32 × (Nat → SV) × Int32 × Int32) :=
  f_X4_addThruster_j72 pr pu ta se qu im su tc sc rc cn so hs ol ct v1 v2 v3 v4 v5 v6 v7 0
def f_X4_addThruster_j34 (pr : Nat → Int32) (pu : Nat → Int32) (ta : Nat → Int32) (se : Nat → Int32) (qu : Nat → Int32) (im : Nat → Int32) (su : Nat → Int64) (tc : Int32) (sc : Int32) (rc : Int32) (cn : Int32) (so : Int32) (hs : Nat → SV) (ol : Int32) (ct : Int32) (v1 : Int32) (v2 : Int32) (v3 : Int32) (v4 : Int32) (v5 : Int32) (v6 : Int32) (t0 : Int32) : Option (Int32 × (Nat → Int32) × (Nat → Int32) × Int32 × (Nat → SV) × Int32 × Int32) :=
  (f_X4_isWithin v3 0 3).bind (fun q6 => if q6 = 0 then (f_X4_addThruster_j71 pr pu ta se qu im su tc sc rc cn so hs ol ct v1 v2 v3 v4 v5 v6 t0) else ((f_X4_isWithin v4 1 10).bind (fun q16 => if q16 = 0 then (f_X4_addThruster_j71 pr pu ta se qu im su tc sc rc cn so hs ol ct v1 v2 v3 v4 v5 v6 t0) else ((f_X4_isWithin v6 1 10).bind (fun q18 => if q18 = 0 then (f_X4_addThruster_j71 pr pu ta se qu im su tc sc rc cn so hs ol ct v1 v2 v3 v4 v5 v6 t0) else (f_X4_addThruster_j72 pr pu ta se qu im su tc sc rc cn so hs ol ct v1 v2 v3 v4 v5 v6 t0 1))))))
def f_X4_addThruster_j33 (pr : Nat → Int32) (pu : Nat → Int32) (ta : Nat → Int32) (se : Nat → Int32) (qu : Nat → Int32) (im : Nat → Int32) (su : Nat → Int64) (tc : Int32) (sc : Int32) (rc : Int32) (cn : Int32) (so : Int32) (hs : Nat → SV) (ol : Int32) (ct : Int32) (v1 : Int32) (v2 : Int32) (v3 : Int32) (v4 : Int32) (v5 : Int32) (v6 : Int32) : Option (Int32 × (Nat → Int32) × (Nat → Int32) × Int32 × (Nat → SV) × Int32 × Int32) :=
  f_X4_addThruster_j34 pr pu ta se qu im su tc sc rc cn so hs ol ct v1 v2 v3 v4 v5 v6 0
def f_X4_addThruster (ta : Nat → Int32) (se : Nat → Int32) (qu : Nat → Int32) (im : Nat → Int32) (su : Nat → Int64) (sc : Int32) (rc : Int32) (cn : Int32) (so : Int32) (pr : Nat → Int32) (pu : Nat → Int32) (tc : Int32) (hs : Nat → SV) (ol : Int32) (ct : Int32) (p0 : Int32) (p1 : Int32) (p2 : Int32) (p3 : Int32) (p4 : Int32) (p5 : Int32) : Option (Int32 × (Nat → Int32) × (Nat → Int32) × Int32 × (Nat → SV) × Int32 × Int32) :=
  (f_X4_isTank p4).bind (fun q1 => if q1 = 0 then (some ((-2000000001), pr, pu, tc, hs, ol, ct)) else ((f_X4_isAtMost p0 10).bind (fun q3 => if q3 = 0 then (f_X4_addThruster_j33 pr pu ta se qu im su tc sc rc cn so hs ol ct p0 p1 p2 p3 p4 p5) else ((f_X4_isAtMost p1 10).bind (fun q21 => if q21 = 0 then (f_X4_addThruster_j33 pr pu ta se qu im su tc sc rc cn so hs ol ct p0 p1 p2 p3 p4 p5) else (f_X4_addThruster_j34 pr pu ta se qu im su tc sc rc cn so hs ol ct p0 p1 p2 p3 p4 p5 1))))))

set_option maxHeartbeats 4000000 in
set_option maxRecDepth 100000 in
theorem c_X4_addThruster (l : Launch) (G : va_G) (cI cJ cZ cO cA : ClassId) (e : Nat × Nat) (aT : Nat) (aS : Nat → Nat) (aH : Nat → Nat) (aE : Nat → Nat) (aX : Nat → Nat) (aK : Nat → Nat → Nat) (sz : Nat) (pr : Nat → Int32) (pu : Nat → Int32) (ta : Nat → Int32) (se : Nat → Int32) (qu : Nat → Int32) (im : Nat → Int32) (su : Nat → Int64) (tc : Int32) (sc : Int32) (rc : Int32) (cn : Int32) (so : Int32) (hs : Nat → SV) (ol : Int32) (ct : Int32) (p0 : Int32) (p1 : Int32) (p2 : Int32) (p3 : Int32) (p4 : Int32) (p5 : Int32) {res : Int32 × (Nat → Int32) × (Nat → Int32) × Int32 × (Nat → SV) × Int32 × Int32} (hf : f_X4_addThruster ta se qu im su sc rc cn so pr pu tc hs ol ct p0 p1 p2 p3 p4 p5 = some res) : MetI l yX4_addThruster cX4_addThruster 9 .int ({ frames := 3, cells := 0, slots := 0, locals := 82 } : Room) [.ref aT, .int p0, .int p1, .int p2, .int p3, .int p4, .int p5] G (ty5 cI cJ cZ cO cA) e (wT aT (aS 0) (aH 0) (aE 0) (aX 0) ++ (wS cI cJ aS pr pu ta se qu im su tc sc rc cn so ++ (wH cI cJ cO aH aK hs ol ct ++ ([] : va_W)))) (wT aT (aS 0) (aH 0) (aE 0) (aX 0) ++ (wS cI cJ aS res.2.1 res.2.2.1 ta se qu im su res.2.2.2.1 sc rc cn so ++ (wH cI cJ cO aH aK res.2.2.2.2.1 res.2.2.2.2.2.1 res.2.2.2.2.2.2 ++ ([] : va_W)))) sz res.1 := by
  refine g_body (QQ := fun A => (qI G (ty5 cI cJ cZ cO cA) A (wT aT (aS 0) (aH 0) (aE 0) (aX 0) ++ (wS cI cJ aS res.2.1 res.2.2.1 ta se qu im su res.2.2.2.1 sc rc cn so ++ (wH cI cJ cO aH aK res.2.2.2.2.1 res.2.2.2.2.2.1 res.2.2.2.2.2.2 ++ ([] : va_W)))) res.1)) (own := RX4) (by decide) rfl (Nat.le_of_ble_eq_true rfl) ?_
  intro p ev s m below meth c A ls hx hb hr hml hown hts hlk hA hP hD hS hK hE hl
  have hl : lv_has ls 9 [(0, .ref aT), (1, .int p0), (2, .int p1), (3, .int p2), (4, .int p3), (5, .int p4), (6, .int p5)] := hl
  show W p l ev ({ frames := 3, cells := 0, slots := 0, locals := 82 } : Room) s m ([.ref aT, .int p0, .int p1, .int p2, .int p3, .int p4, .int p5] : List Value).toArray below meth c s.heap [] 0 0 (MQ below (qI G (ty5 cI cJ cZ cO cA) A (wT aT (aS 0) (aH 0) (aE 0) (aX 0) ++ (wS cI cJ aS res.2.1 res.2.2.1 ta se qu im su res.2.2.2.1 sc rc cn so ++ (wH cI cJ cO aH aK res.2.2.2.2.1 res.2.2.2.2.2.1 res.2.2.2.2.2.2 ++ ([] : va_W)))) res.1) ([.ref aT, .int p0, .int p1, .int p2, .int p3, .int p4, .int p5] : List Value).toArray s 0 0 A) (F0 m 0 ls [])
  have h := hf
  unfold f_X4_addThruster at h
  refine lv_iload hx hb dX4_addThruster_0 (lv_at hl 5 rfl) ?_
  obtain ⟨q1, hq1, h⟩ := bd_s h
  refine kSi (n := 1) (As := [.int p4]) (rest := []) hx hb hml hown hts (c_X4_isTank l G cI cJ cZ cO cA e _ p4 hq1) (tb_S kw184 kw185 kw1 kw186) rfl rfl (by decide +kernel) ⟨Nat.le_of_ble_eq_true rfl, Nat.le_of_ble_eq_true rfl⟩ hK hP hD hS hA hE rfl rfl hl.1 (Nat.le_of_ble_eq_true rfl) ⟨Nat.zero_le _, Nat.zero_le _⟩ dX4_addThruster_2 (fun H locs hP hD hS => ?_)
  refine lv_if_ne (tgt := 11) hx hb dX4_addThruster_5 (by decide) (fun c2 => ?_) (fun c2 => ?_)
  · replace h := (if_neg c2).symm.trans h
    refine lv_iload_n hx hb dX4_addThruster_11 rfl (lv_at hl 1 rfl) ?_
    refine lv_bipush (v := 10) hx hb dX4_addThruster_12 (by decide) ?_
    obtain ⟨q3, hq3, h⟩ := bd_s h
    refine kSi (n := 2) (As := [.int p0, .int 10]) (rest := []) hx hb hml hown hts (c_X4_isAtMost l G cI cJ cZ cO cA e _ p0 10 hq3) (tb_S kw191 kw192 kw1 kw193) rfl rfl (by decide +kernel) ⟨Nat.le_of_ble_eq_true rfl, Nat.le_of_ble_eq_true rfl⟩ hK hP hD hS hA hE rfl rfl hl.1 (Nat.le_of_ble_eq_true rfl) ⟨Nat.zero_le _, Nat.zero_le _⟩ dX4_addThruster_14 (fun H locs hP hD hS => ?_)
    have hJ5 : ∀ (pr_5 : Nat → Int32) (pu_5 : Nat → Int32) (tc_5 : Int32) (hs_5 : Nat → SV) (ol_5 : Int32) (ct_5 : Int32) (t0_5 : Int32) (H : Heap) (locs : List Loc) (ls : Array Slot), f_X4_addThruster_j34 pr_5 pu_5 ta se qu im su tc_5 sc rc cn so hs_5 ol_5 ct_5 p0 p1 p2 p3 p4 p5 t0_5 = some res → va_P G vwCl (wT aT (aS 0) (aH 0) (aE 0) (aX 0) ++ (wS cI cJ aS pr_5 pu_5 ta se qu im su tc_5 sc rc cn so ++ (wH cI cJ cO aH aK hs_5 ol_5 ct_5 ++ ([] : va_W)))) H → va_D A (wT aT (aS 0) (aH 0) (aE 0) (aX 0) ++ (wS cI cJ aS pr_5 pu_5 ta se qu im su tc_5 sc rc cn so ++ (wH cI cJ cO aH aK hs_5 ol_5 ct_5 ++ ([] : va_W)))) → va_S A s.heap H locs → lv_has ls 9 [(0, .ref aT), (1, .int p0), (2, .int p1), (3, .int p2), (4, .int p3), (5, .int p4), (6, .int p5)] → W p l ev ({ frames := 3, cells := 0, slots := 0, locals := 82 } : Room) s m ([.ref aT, .int p0, .int p1, .int p2, .int p3, .int p4, .int p5] : List Value).toArray below meth c H locs 0 0 (MQ below (qI G (ty5 cI cJ cZ cO cA) A (wT aT (aS 0) (aH 0) (aE 0) (aX 0) ++ (wS cI cJ aS res.2.1 res.2.2.1 ta se qu im su res.2.2.2.1 sc rc cn so ++ (wH cI cJ cO aH aK res.2.2.2.2.1 res.2.2.2.2.2.1 res.2.2.2.2.2.2 ++ ([] : va_W)))) res.1) ([.ref aT, .int p0, .int p1, .int p2, .int p3, .int p4, .int p5] : List Value).toArray s 0 0 A) (F0 m 34 ls [.int t0_5]) := by
      intro pr_5 pu_5 tc_5 hs_5 ol_5 ct_5 t0_5 H locs ls h hP hD hS hl
      unfold f_X4_addThruster_j34 at h
      refine lv_istore (lv' := [(7, .int t0_5), (0, .ref aT), (1, .int p0), (2, .int p1), (3, .int p2), (4, .int p3), (5, .int p4), (6, .int p5)]) hx hb dX4_addThruster_34 hl (by decide) rfl (fun ls hl => ?_)
      refine lv_iload_n hx hb dX4_addThruster_36 rfl (lv_at hl 4 rfl) ?_
      refine lv_iconst (v := 0) hx hb dX4_addThruster_37 (by decide) ?_
      refine lv_iconst (v := 3) hx hb dX4_addThruster_38 (by decide) ?_
      obtain ⟨q6, hq6, h⟩ := bd_s h
      refine kSi (n := 3) (As := [.int p2, .int 0, .int 3]) (rest := []) hx hb hml hown hts (c_X4_isWithin l G cI cJ cZ cO cA e _ p2 0 3 hq6) (tb_S kw187 kw188 kw1 kw189) rfl rfl (by decide +kernel) ⟨Nat.le_of_ble_eq_true rfl, Nat.le_of_ble_eq_true rfl⟩ hK hP hD hS hA hE rfl rfl hl.1 (Nat.le_of_ble_eq_true rfl) ⟨Nat.zero_le _, Nat.zero_le _⟩ dX4_addThruster_39 (fun H locs hP hD hS => ?_)
      have hJ8 : ∀ (pr_8 : Nat → Int32) (pu_8 : Nat → Int32) (tc_8 : Int32) (hs_8 : Nat → SV) (ol_8 : Int32) (ct_8 : Int32) (v7_8 : Int32) (t0_8 : Int32) (H : Heap) (locs : List Loc) (ls : Array Slot), f_X4_addThruster_j72 pr_8 pu_8 ta se qu im su tc_8 sc rc cn so hs_8 ol_8 ct_8 p0 p1 p2 p3 p4 p5 v7_8 t0_8 = some res → va_P G vwCl (wT aT (aS 0) (aH 0) (aE 0) (aX 0) ++ (wS cI cJ aS pr_8 pu_8 ta se qu im su tc_8 sc rc cn so ++ (wH cI cJ cO aH aK hs_8 ol_8 ct_8 ++ ([] : va_W)))) H → va_D A (wT aT (aS 0) (aH 0) (aE 0) (aX 0) ++ (wS cI cJ aS pr_8 pu_8 ta se qu im su tc_8 sc rc cn so ++ (wH cI cJ cO aH aK hs_8 ol_8 ct_8 ++ ([] : va_W)))) → va_S A s.heap H locs → lv_has ls 9 [(0, .ref aT), (1, .int p0), (2, .int p1), (3, .int p2), (4, .int p3), (5, .int p4), (6, .int p5), (7, .int v7_8)] → W p l ev ({ frames := 3, cells := 0, slots := 0, locals := 82 } : Room) s m ([.ref aT, .int p0, .int p1, .int p2, .int p3, .int p4, .int p5] : List Value).toArray below meth c H locs 0 0 (MQ below (qI G (ty5 cI cJ cZ cO cA) A (wT aT (aS 0) (aH 0) (aE 0) (aX 0) ++ (wS cI cJ aS res.2.1 res.2.2.1 ta se qu im su res.2.2.2.1 sc rc cn so ++ (wH cI cJ cO aH aK res.2.2.2.2.1 res.2.2.2.2.2.1 res.2.2.2.2.2.2 ++ ([] : va_W)))) res.1) ([.ref aT, .int p0, .int p1, .int p2, .int p3, .int p4, .int p5] : List Value).toArray s 0 0 A) (F0 m 72 ls [.int t0_8]) := by
        intro pr_8 pu_8 tc_8 hs_8 ol_8 ct_8 v7_8 t0_8 H locs ls h hP hD hS hl
        unfold f_X4_addThruster_j72 at h
        refine lv_istore (lv' := [(8, .int t0_8), (0, .ref aT), (1, .int p0), (2, .int p1), (3, .int p2), (4, .int p3), (5, .int p4), (6, .int p5), (7, .int v7_8)]) hx hb dX4_addThruster_72 hl (by decide) rfl (fun ls hl => ?_)
        refine lv_iload hx hb dX4_addThruster_74 (lv_at hl 8 rfl) ?_
        have hJ10 : ∀ (pr_10 : Nat → Int32) (pu_10 : Nat → Int32) (tc_10 : Int32) (hs_10 : Nat → SV) (ol_10 : Int32) (ct_10 : Int32) (H : Heap) (locs : List Loc) (ls : Array Slot), f_X4_addThruster_j84 pr_10 pu_10 tc_10 hs_10 ol_10 ct_10 = some res → va_P G vwCl (wT aT (aS 0) (aH 0) (aE 0) (aX 0) ++ (wS cI cJ aS pr_10 pu_10 ta se qu im su tc_10 sc rc cn so ++ (wH cI cJ cO aH aK hs_10 ol_10 ct_10 ++ ([] : va_W)))) H → va_D A (wT aT (aS 0) (aH 0) (aE 0) (aX 0) ++ (wS cI cJ aS pr_10 pu_10 ta se qu im su tc_10 sc rc cn so ++ (wH cI cJ cO aH aK hs_10 ol_10 ct_10 ++ ([] : va_W)))) → va_S A s.heap H locs → lv_has ls 9 [] → W p l ev ({ frames := 3, cells := 0, slots := 0, locals := 82 } : Room) s m ([.ref aT, .int p0, .int p1, .int p2, .int p3, .int p4, .int p5] : List Value).toArray below meth c H locs 0 0 (MQ below (qI G (ty5 cI cJ cZ cO cA) A (wT aT (aS 0) (aH 0) (aE 0) (aX 0) ++ (wS cI cJ aS res.2.1 res.2.2.1 ta se qu im su res.2.2.2.1 sc rc cn so ++ (wH cI cJ cO aH aK res.2.2.2.2.1 res.2.2.2.2.2.1 res.2.2.2.2.2.2 ++ ([] : va_W)))) res.1) ([.ref aT, .int p0, .int p1, .int p2, .int p3, .int p4, .int p5] : List Value).toArray s 0 0 A) (F0 m 84 ls []) := by
          intro pr_10 pu_10 tc_10 hs_10 ol_10 ct_10 H locs ls h hP hD hS hl
          unfold f_X4_addThruster_j84 at h
          refine lv_ldc (v := (-2000000002)) hx hb hown (hts _ kw194) dX4_addThruster_84 ?_
          rw [← Option.some.inj h]
          exact kri hx hb hr hlk rfl rfl hP hD hS hK dX4_addThruster_86
        refine lv_if_eq (tgt := 84) hx hb dX4_addThruster_76 (by decide) (fun c9 => ?_) (fun c9 => ?_)
        · replace h := (if_pos c9).symm.trans h
          exact hJ10 pr_8 pu_8 tc_8 hs_8 ol_8 ct_8 _ _ _ h hP hD hS (lv_sub hl [] rfl)
        · replace h := (if_neg c9).symm.trans h
          refine lv_iload hx hb dX4_addThruster_79 (lv_at hl 0 rfl) ?_
          refine lv_if_ne (tgt := 87) hx hb dX4_addThruster_81 (by decide) (fun c11 => ?_) (fun c11 => ?_)
          · replace h := (if_neg c11).symm.trans h
            refine lv_aload_n hx hb dX4_addThruster_87 rfl (lv_at hl 1 rfl) ?_
            refine va_get (D := G) (ci := 4) (v := .ref (aS 0)) (C := RX4) (T := TX4) (N := 4) hx hb hts uX4 hown hK hP 0 rfl rfl 0 (by decide) (hts _ kw167) (fun _ h9 => h9) rfl dX4_addThruster_88 ?_
            refine va_getN (D := G) (ci := 2) (v := .int tc_8) (C := RX2) (T := TX2) (N := 12) hx hb hts uX2 hown hK hP 1 rfl rfl 7 (by decide) (hE.nw nk42) (fun _ h9 => h9) rfl dX4_addThruster_91 ?_
            refine lv_bipush (v := 8) hx hb dX4_addThruster_94 (by decide) ?_
            refine lv_icmp_lt (tgt := 102) hx hb dX4_addThruster_96 (by decide) (fun c12 => ?_) (fun c12 => ?_)
            · replace h := (if_pos c12).symm.trans h
              refine lv_aload_n hx hb dX4_addThruster_102 rfl (lv_at hl 1 rfl) ?_
              refine va_get (D := G) (ci := 4) (v := .ref (aH 0)) (C := RX4) (T := TX4) (N := 4) hx hb hts uX4 hown hK hP 0 rfl rfl 1 (by decide) (hts _ kw168) (fun _ h9 => h9) rfl dX4_addThruster_103 ?_
              refine lv_aload_n hx hb dX4_addThruster_106 rfl (lv_at hl 1 rfl) ?_
              refine va_get (D := G) (ci := 4) (v := .ref (aS 0)) (C := RX4) (T := TX4) (N := 4) hx hb hts uX4 hown hK hP 0 rfl rfl 0 (by decide) (hts _ kw167) (fun _ h9 => h9) rfl dX4_addThruster_107 ?_
              obtain ⟨q13, hq13, h⟩ := bd_s h
              refine kVv (n := 1) (C := RX0) (ws' := wT aT (aS 0) (aH 0) (aE 0) (aX 0) ++ (wS cI cJ aS pr_8 pu_8 ta se qu im su tc_8 sc rc cn so ++ (wH cI cJ cO aH aK q13.1 q13.2.1 q13.2.2 ++ ([] : va_W)))) (As := [.ref (aS 0)]) (rest := []) hx hb hml hown hts (c_X0_keep l G cI cJ cZ cO cA e aS aH aK _ pr_8 pu_8 ta se qu im su tc_8 sc rc cn so hs_8 ol_8 ct_8 hq13) (tb_V kw196 kw197 kw198 kw4 kw199) rfl rfl (by decide +kernel) ⟨Nat.le_of_ble_eq_true rfl, Nat.le_of_ble_eq_true rfl⟩ hK hP hD hS hA hE 9 rfl rfl [1, 2, 3, 4, 5, 6, 7, 8, 9, 10, 11, 12, 13, 14, 15, 16, 17, 18, 19, 20, 21, 22, 23, 24, 25, 26, 27, 28, 29, 30, 31, 32, 33, 34, 35, 36, 37, 38, 39, 40, 41, 42, 43, 44, 45, 46, 47, 48, 49, 50] [0] rfl rfl rfl 51 ⟨rfl, rfl⟩ (by decide +kernel) (by decide +kernel) rfl rfl hl.1 (Nat.le_of_ble_eq_true rfl) ⟨Nat.zero_le _, Nat.zero_le _⟩ dX4_addThruster_110 (fun H locs hP hD hS => ?_)
              refine lv_aload_n hx hb dX4_addThruster_113 rfl (lv_at hl 1 rfl) ?_
              refine va_get (D := G) (ci := 4) (v := .ref (aS 0)) (C := RX4) (T := TX4) (N := 4) hx hb hts uX4 hown hK hP 0 rfl rfl 0 (by decide) (hts _ kw167) (fun _ h9 => h9) rfl dX4_addThruster_114 ?_
              refine lv_iload_n hx hb dX4_addThruster_117 rfl (lv_at hl 2 rfl) ?_
              refine lv_iload_n hx hb dX4_addThruster_118 rfl (lv_at hl 3 rfl) ?_
              refine lv_iload_n hx hb dX4_addThruster_119 rfl (lv_at hl 4 rfl) ?_
              refine lv_iload hx hb dX4_addThruster_120 (lv_at hl 5 rfl) ?_
              refine lv_iload hx hb dX4_addThruster_122 (lv_at hl 6 rfl) ?_
              refine lv_iload hx hb dX4_addThruster_124 (lv_at hl 7 rfl) ?_
              obtain ⟨q14, hq14, h⟩ := bd_s h
              refine kVi (n := 6) (C := RX2) (ws' := wT aT (aS 0) (aH 0) (aE 0) (aX 0) ++ (wS cI cJ aS q14.2.1 q14.2.2.1 ta se qu im su q14.2.2.2 sc rc cn so ++ (wH cI cJ cO aH aK q13.1 q13.2.1 q13.2.2 ++ ([] : va_W)))) (As := [.int p0, .int p1, .int p2, .int p3, .int p4, .int p5]) (rest := []) hx hb hml hown hts (c_X2_appendThruster l G cI cJ cZ cO cA e aS _ pr_8 pu_8 ta se qu im su tc_8 sc rc cn so p0 p1 p2 p3 p4 p5 hq14) (tb_V kw207 kw208 kw209 kw2 kw210) rfl rfl (by decide +kernel) ⟨Nat.le_of_ble_eq_true rfl, Nat.le_of_ble_eq_true rfl⟩ hK hP hD hS hA hE 1 rfl rfl [1, 2, 3, 4, 5, 6, 7, 8] [0, 9, 10, 11, 12, 13, 14, 15, 16, 17, 18, 19, 20, 21, 22, 23, 24, 25, 26, 27, 28, 29, 30, 31, 32, 33, 34, 35, 36, 37, 38, 39, 40, 41, 42, 43, 44, 45, 46, 47, 48, 49, 50] rfl rfl rfl 51 ⟨rfl, rfl⟩ (by decide +kernel) (by decide +kernel) rfl rfl hl.1 (Nat.le_of_ble_eq_true rfl) ⟨Nat.zero_le _, Nat.zero_le _⟩ dX4_addThruster_126 (fun H locs hP hD hS => ?_)
              rw [← Option.some.inj h]
              exact kri hx hb hr hlk rfl rfl hP hD hS hK dX4_addThruster_129
            · replace h := (if_neg c12).symm.trans h
              refine lv_ldc (v := (-2000000004)) hx hb hown (hts _ kw195) dX4_addThruster_99 ?_
              rw [← Option.some.inj h]
              exact kri hx hb hr hlk rfl rfl hP hD hS hK dX4_addThruster_101
          · replace h := (if_pos c11).symm.trans h
            exact hJ10 pr_8 pu_8 tc_8 hs_8 ol_8 ct_8 _ _ _ h hP hD hS (lv_sub hl [] rfl)
      have hJ15 : ∀ (pr_15 : Nat → Int32) (pu_15 : Nat → Int32) (tc_15 : Int32) (hs_15 : Nat → SV) (ol_15 : Int32) (ct_15 : Int32) (v7_15 : Int32) (H : Heap) (locs : List Loc) (ls : Array Slot), f_X4_addThruster_j71 pr_15 pu_15 ta se qu im su tc_15 sc rc cn so hs_15 ol_15 ct_15 p0 p1 p2 p3 p4 p5 v7_15 = some res → va_P G vwCl (wT aT (aS 0) (aH 0) (aE 0) (aX 0) ++ (wS cI cJ aS pr_15 pu_15 ta se qu im su tc_15 sc rc cn so ++ (wH cI cJ cO aH aK hs_15 ol_15 ct_15 ++ ([] : va_W)))) H → va_D A (wT aT (aS 0) (aH 0) (aE 0) (aX 0) ++ (wS cI cJ aS pr_15 pu_15 ta se qu im su tc_15 sc rc cn so ++ (wH cI cJ cO aH aK hs_15 ol_15 ct_15 ++ ([] : va_W)))) → va_S A s.heap H locs → lv_has ls 9 [(0, .ref aT), (1, .int p0), (2, .int p1), (3, .int p2), (4, .int p3), (5, .int p4), (6, .int p5), (7, .int v7_15)] → W p l ev ({ frames := 3, cells := 0, slots := 0, locals := 82 } : Room) s m ([.ref aT, .int p0, .int p1, .int p2, .int p3, .int p4, .int p5] : List Value).toArray below meth c H locs 0 0 (MQ below (qI G (ty5 cI cJ cZ cO cA) A (wT aT (aS 0) (aH 0) (aE 0) (aX 0) ++ (wS cI cJ aS res.2.1 res.2.2.1 ta se qu im su res.2.2.2.1 sc rc cn so ++ (wH cI cJ cO aH aK res.2.2.2.2.1 res.2.2.2.2.2.1 res.2.2.2.2.2.2 ++ ([] : va_W)))) res.1) ([.ref aT, .int p0, .int p1, .int p2, .int p3, .int p4, .int p5] : List Value).toArray s 0 0 A) (F0 m 71 ls []) := by
        intro pr_15 pu_15 tc_15 hs_15 ol_15 ct_15 v7_15 H locs ls h hP hD hS hl
        unfold f_X4_addThruster_j71 at h
        refine lv_iconst (v := 0) hx hb dX4_addThruster_71 (by decide) ?_
        exact hJ8 pr_15 pu_15 tc_15 hs_15 ol_15 ct_15 v7_15 0 _ _ _ h hP hD hS (lv_sub hl [0, 1, 2, 3, 4, 5, 6, 7] rfl)
      refine lv_if_eq (tgt := 71) hx hb dX4_addThruster_42 (by decide) (fun c7 => ?_) (fun c7 => ?_)
      · replace h := (if_pos c7).symm.trans h
        exact hJ15 pr_5 pu_5 tc_5 hs_5 ol_5 ct_5 t0_5 _ _ _ h hP hD hS (lv_sub hl [1, 2, 3, 4, 5, 6, 7, 0] rfl)
      · replace h := (if_neg c7).symm.trans h
        refine lv_iload hx hb dX4_addThruster_45 (lv_at hl 5 rfl) ?_
        refine lv_iconst (v := 1) hx hb dX4_addThruster_47 (by decide) ?_
        refine lv_bipush (v := 10) hx hb dX4_addThruster_48 (by decide) ?_
        obtain ⟨q16, hq16, h⟩ := bd_s h
        refine kSi (n := 3) (As := [.int p3, .int 1, .int 10]) (rest := []) hx hb hml hown hts (c_X4_isWithin l G cI cJ cZ cO cA e _ p3 1 10 hq16) (tb_S kw187 kw188 kw1 kw189) rfl rfl (by decide +kernel) ⟨Nat.le_of_ble_eq_true rfl, Nat.le_of_ble_eq_true rfl⟩ hK hP hD hS hA hE rfl rfl hl.1 (Nat.le_of_ble_eq_true rfl) ⟨Nat.zero_le _, Nat.zero_le _⟩ dX4_addThruster_50 (fun H locs hP hD hS => ?_)
        refine lv_if_eq (tgt := 71) hx hb dX4_addThruster_53 (by decide) (fun c17 => ?_) (fun c17 => ?_)
        · replace h := (if_pos c17).symm.trans h
          exact hJ15 pr_5 pu_5 tc_5 hs_5 ol_5 ct_5 t0_5 _ _ _ h hP hD hS (lv_sub hl [1, 2, 3, 4, 5, 6, 7, 0] rfl)
        · replace h := (if_neg c17).symm.trans h
          refine lv_iload hx hb dX4_addThruster_56 (lv_at hl 7 rfl) ?_
          refine lv_iconst (v := 1) hx hb dX4_addThruster_58 (by decide) ?_
          refine lv_bipush (v := 10) hx hb dX4_addThruster_59 (by decide) ?_
          obtain ⟨q18, hq18, h⟩ := bd_s h
          refine kSi (n := 3) (As := [.int p5, .int 1, .int 10]) (rest := []) hx hb hml hown hts (c_X4_isWithin l G cI cJ cZ cO cA e _ p5 1 10 hq18) (tb_S kw187 kw188 kw1 kw189) rfl rfl (by decide +kernel) ⟨Nat.le_of_ble_eq_true rfl, Nat.le_of_ble_eq_true rfl⟩ hK hP hD hS hA hE rfl rfl hl.1 (Nat.le_of_ble_eq_true rfl) ⟨Nat.zero_le _, Nat.zero_le _⟩ dX4_addThruster_61 (fun H locs hP hD hS => ?_)
          refine lv_if_eq (tgt := 71) hx hb dX4_addThruster_64 (by decide) (fun c19 => ?_) (fun c19 => ?_)
          · replace h := (if_pos c19).symm.trans h
            exact hJ15 pr_5 pu_5 tc_5 hs_5 ol_5 ct_5 t0_5 _ _ _ h hP hD hS (lv_sub hl [1, 2, 3, 4, 5, 6, 7, 0] rfl)
          · replace h := (if_neg c19).symm.trans h
            refine lv_iconst (v := 1) hx hb dX4_addThruster_67 (by decide) ?_
            refine lv_goto (tgt := 72) hx hb dX4_addThruster_68 (by decide) ?_
            exact hJ8 pr_5 pu_5 tc_5 hs_5 ol_5 ct_5 t0_5 1 _ _ _ h hP hD hS (lv_sub hl [1, 2, 3, 4, 5, 6, 7, 0] rfl)
    have hJ20 : ∀ (pr_20 : Nat → Int32) (pu_20 : Nat → Int32) (tc_20 : Int32) (hs_20 : Nat → SV) (ol_20 : Int32) (ct_20 : Int32) (H : Heap) (locs : List Loc) (ls : Array Slot), f_X4_addThruster_j33 pr_20 pu_20 ta se qu im su tc_20 sc rc cn so hs_20 ol_20 ct_20 p0 p1 p2 p3 p4 p5 = some res → va_P G vwCl (wT aT (aS 0) (aH 0) (aE 0) (aX 0) ++ (wS cI cJ aS pr_20 pu_20 ta se qu im su tc_20 sc rc cn so ++ (wH cI cJ cO aH aK hs_20 ol_20 ct_20 ++ ([] : va_W)))) H → va_D A (wT aT (aS 0) (aH 0) (aE 0) (aX 0) ++ (wS cI cJ aS pr_20 pu_20 ta se qu im su tc_20 sc rc cn so ++ (wH cI cJ cO aH aK hs_20 ol_20 ct_20 ++ ([] : va_W)))) → va_S A s.heap H locs → lv_has ls 9 [(0, .ref aT), (1, .int p0), (2, .int p1), (3, .int p2), (4, .int p3), (5, .int p4), (6, .int p5)] → W p l ev ({ frames := 3, cells := 0, slots := 0, locals := 82 } : Room) s m ([.ref aT, .int p0, .int p1, .int p2, .int p3, .int p4, .int p5] : List Value).toArray below meth c H locs 0 0 (MQ below (qI G (ty5 cI cJ cZ cO cA) A (wT aT (aS 0) (aH 0) (aE 0) (aX 0) ++ (wS cI cJ aS res.2.1 res.2.2.1 ta se qu im su res.2.2.2.1 sc rc cn so ++ (wH cI cJ cO aH aK res.2.2.2.2.1 res.2.2.2.2.2.1 res.2.2.2.2.2.2 ++ ([] : va_W)))) res.1) ([.ref aT, .int p0, .int p1, .int p2, .int p3, .int p4, .int p5] : List Value).toArray s 0 0 A) (F0 m 33 ls []) := by
      intro pr_20 pu_20 tc_20 hs_20 ol_20 ct_20 H locs ls h hP hD hS hl
      unfold f_X4_addThruster_j33 at h
      refine lv_iconst (v := 0) hx hb dX4_addThruster_33 (by decide) ?_
      exact hJ5 pr_20 pu_20 tc_20 hs_20 ol_20 ct_20 0 _ _ _ h hP hD hS (lv_sub hl [0, 1, 2, 3, 4, 5, 6] rfl)
    refine lv_if_eq (tgt := 33) hx hb dX4_addThruster_17 (by decide) (fun c4 => ?_) (fun c4 => ?_)
    · replace h := (if_pos c4).symm.trans h
      exact hJ20 pr pu tc hs ol ct _ _ _ h hP hD hS (lv_sub hl [0, 1, 2, 3, 4, 5, 6] rfl)
    · replace h := (if_neg c4).symm.trans h
      refine lv_iload_n hx hb dX4_addThruster_20 rfl (lv_at hl 2 rfl) ?_
      refine lv_bipush (v := 10) hx hb dX4_addThruster_21 (by decide) ?_
      obtain ⟨q21, hq21, h⟩ := bd_s h
      refine kSi (n := 2) (As := [.int p1, .int 10]) (rest := []) hx hb hml hown hts (c_X4_isAtMost l G cI cJ cZ cO cA e _ p1 10 hq21) (tb_S kw191 kw192 kw1 kw193) rfl rfl (by decide +kernel) ⟨Nat.le_of_ble_eq_true rfl, Nat.le_of_ble_eq_true rfl⟩ hK hP hD hS hA hE rfl rfl hl.1 (Nat.le_of_ble_eq_true rfl) ⟨Nat.zero_le _, Nat.zero_le _⟩ dX4_addThruster_23 (fun H locs hP hD hS => ?_)
      refine lv_if_eq (tgt := 33) hx hb dX4_addThruster_26 (by decide) (fun c22 => ?_) (fun c22 => ?_)
      · replace h := (if_pos c22).symm.trans h
        exact hJ20 pr pu tc hs ol ct _ _ _ h hP hD hS (lv_sub hl [0, 1, 2, 3, 4, 5, 6] rfl)
      · replace h := (if_neg c22).symm.trans h
        refine lv_iconst (v := 1) hx hb dX4_addThruster_29 (by decide) ?_
        refine lv_goto (tgt := 34) hx hb dX4_addThruster_30 (by decide) ?_
        exact hJ5 pr pu tc hs ol ct 1 _ _ _ h hP hD hS (lv_sub hl [0, 1, 2, 3, 4, 5, 6] rfl)
  · replace h := (if_pos c2).symm.trans h
    refine lv_ldc (v := (-2000000001)) hx hb hown (hts _ kw190) dX4_addThruster_8 ?_
    rw [← Option.some.inj h]
    exact kri hx hb hr hlk rfl rfl hP hD hS hK dX4_addThruster_10

/-! X4_isThruster -/
def f_X4_isThruster (tc : Int32) (p0 : Int32) : Option (Int32) :=
  (f_X4_isWithin p0 0 (tc - 1)).bind (fun q1 => gd (zb q1) (some q1))

set_option maxHeartbeats 4000000 in
set_option maxRecDepth 100000 in
theorem c_X4_isThruster (l : Launch) (G : va_G) (cI cJ cZ cO cA : ClassId) (e : Nat × Nat) (aT : Nat) (aS : Nat → Nat) (aH : Nat → Nat) (aE : Nat → Nat) (aX : Nat → Nat) (sz : Nat) (pr : Nat → Int32) (pu : Nat → Int32) (ta : Nat → Int32) (se : Nat → Int32) (qu : Nat → Int32) (im : Nat → Int32) (su : Nat → Int64) (tc : Int32) (sc : Int32) (rc : Int32) (cn : Int32) (so : Int32) (p0 : Int32) {res : Int32} (hf : f_X4_isThruster tc p0 = some res) : MetI l yX4_isThruster cX4_isThruster 2 .boolean ({ frames := 1, cells := 0, slots := 0, locals := 22 } : Room) [.ref aT, .int p0] G (ty5 cI cJ cZ cO cA) e (wT aT (aS 0) (aH 0) (aE 0) (aX 0) ++ (wS cI cJ aS pr pu ta se qu im su tc sc rc cn so ++ ([] : va_W))) (wT aT (aS 0) (aH 0) (aE 0) (aX 0) ++ (wS cI cJ aS pr pu ta se qu im su tc sc rc cn so ++ ([] : va_W))) sz res := by
  refine g_body (QQ := fun A => (qI G (ty5 cI cJ cZ cO cA) A (wT aT (aS 0) (aH 0) (aE 0) (aX 0) ++ (wS cI cJ aS pr pu ta se qu im su tc sc rc cn so ++ ([] : va_W))) res)) (own := RX4) (by decide) rfl (Nat.le_of_ble_eq_true rfl) ?_
  intro p ev s m below meth c A ls hx hb hr hml hown hts hlk hA hP hD hS hK hE hl
  have hl : lv_has ls 2 [(0, .ref aT), (1, .int p0)] := hl
  show W p l ev ({ frames := 1, cells := 0, slots := 0, locals := 22 } : Room) s m ([.ref aT, .int p0] : List Value).toArray below meth c s.heap [] 0 0 (MQ below (qI G (ty5 cI cJ cZ cO cA) A (wT aT (aS 0) (aH 0) (aE 0) (aX 0) ++ (wS cI cJ aS pr pu ta se qu im su tc sc rc cn so ++ ([] : va_W))) res) ([.ref aT, .int p0] : List Value).toArray s 0 0 A) (F0 m 0 ls [])
  have h := hf
  unfold f_X4_isThruster at h
  refine lv_iload_n hx hb dX4_isThruster_0 rfl (lv_at hl 1 rfl) ?_
  refine lv_iconst (v := 0) hx hb dX4_isThruster_1 (by decide) ?_
  refine lv_aload_n hx hb dX4_isThruster_2 rfl (lv_at hl 0 rfl) ?_
  refine va_get (D := G) (ci := 4) (v := .ref (aS 0)) (C := RX4) (T := TX4) (N := 4) hx hb hts uX4 hown hK hP 0 rfl rfl 0 (by decide) (hts _ kw167) (fun _ h9 => h9) rfl dX4_isThruster_3 ?_
  refine va_getN (D := G) (ci := 2) (v := .int tc) (C := RX2) (T := TX2) (N := 12) hx hb hts uX2 hown hK hP 1 rfl rfl 7 (by decide) (hE.nw nk42) (fun _ h9 => h9) rfl dX4_isThruster_6 ?_
  refine lv_iconst (v := 1) hx hb dX4_isThruster_9 (by decide) ?_
  refine lv_isub hx hb dX4_isThruster_10 ?_
  obtain ⟨q1, hq1, h⟩ := bd_s h
  refine kSi (n := 3) (As := [.int p0, .int 0, .int (tc - 1)]) (rest := []) hx hb hml hown hts (c_X4_isWithin l G cI cJ cZ cO cA e _ p0 0 (tc - 1) hq1) (tb_S kw187 kw188 kw1 kw189) rfl rfl (by decide +kernel) ⟨Nat.le_of_ble_eq_true rfl, Nat.le_of_ble_eq_true rfl⟩ hK hP hD hS hA hE rfl rfl hl.1 (Nat.le_of_ble_eq_true rfl) ⟨Nat.zero_le _, Nat.zero_le _⟩ dX4_isThruster_11 (fun H locs hP hD hS => ?_)
  obtain ⟨g2, h⟩ := gd_s h
  rw [← Option.some.inj h]
  exact kri hx hb hr hlk (zb_s g2) rfl hP hD hS hK dX4_isThruster_14

/-! X2_property -/
def f_X2_property (pr : Nat → Int32) (p0 : Int32) (p1 : Int32) : Option (Int32) :=
  gd (ib ((p0 * 7) + p1) 56) (some (pr ((p0 * 7) + p1).toNatClampNeg))

set_option maxHeartbeats 4000000 in
set_option maxRecDepth 100000 in
theorem c_X2_property (l : Launch) (G : va_G) (cI cJ cZ cO cA : ClassId) (e : Nat × Nat) (aS : Nat → Nat) (sz : Nat) (pr : Nat → Int32) (pu : Nat → Int32) (ta : Nat → Int32) (se : Nat → Int32) (qu : Nat → Int32) (im : Nat → Int32) (su : Nat → Int64) (tc : Int32) (sc : Int32) (rc : Int32) (cn : Int32) (so : Int32) (p0 : Int32) (p1 : Int32) {res : Int32} (hf : f_X2_property pr p0 p1 = some res) : MetI l yX2_property cX2_property 3 .int ({ frames := 0, cells := 0, slots := 0, locals := 0 } : Room) [.ref (aS 0), .int p0, .int p1] G (ty5 cI cJ cZ cO cA) e (wS cI cJ aS pr pu ta se qu im su tc sc rc cn so ++ ([] : va_W)) (wS cI cJ aS pr pu ta se qu im su tc sc rc cn so ++ ([] : va_W)) sz res := by
  refine g_body (QQ := fun A => (qI G (ty5 cI cJ cZ cO cA) A (wS cI cJ aS pr pu ta se qu im su tc sc rc cn so ++ ([] : va_W)) res)) (own := RX2) (by decide) rfl (Nat.le_of_ble_eq_true rfl) ?_
  intro p ev s m below meth c A ls hx hb hr hml hown hts hlk hA hP hD hS hK hE hl
  have hl : lv_has ls 3 [(0, .ref (aS 0)), (1, .int p0), (2, .int p1)] := hl
  show W p l ev ({ frames := 0, cells := 0, slots := 0, locals := 0 } : Room) s m ([.ref (aS 0), .int p0, .int p1] : List Value).toArray below meth c s.heap [] 0 0 (MQ below (qI G (ty5 cI cJ cZ cO cA) A (wS cI cJ aS pr pu ta se qu im su tc sc rc cn so ++ ([] : va_W)) res) ([.ref (aS 0), .int p0, .int p1] : List Value).toArray s 0 0 A) (F0 m 0 ls [])
  have h := hf
  unfold f_X2_property at h
  refine lv_aload_n hx hb dX2_property_0 rfl (lv_at hl 0 rfl) ?_
  refine va_get (D := G) (ci := 2) (v := .ref (aS 1)) (C := RX2) (T := TX2) (N := 12) hx hb hts uX2 hown hK hP 0 rfl rfl 0 (by decide) (hts _ kw29) (fun _ h9 => h9) rfl dX2_property_1 ?_
  refine lv_iload_n hx hb dX2_property_4 rfl (lv_at hl 1 rfl) ?_
  refine lv_bipush (v := 7) hx hb dX2_property_5 (by decide) ?_
  refine lv_imul hx hb dX2_property_7 ?_
  refine lv_iload_n hx hb dX2_property_8 rfl (lv_at hl 2 rfl) ?_
  refine lv_iadd hx hb dX2_property_9 ?_
  obtain ⟨g1, h⟩ := gd_s h
  refine va_iald hx hb hK hP 1 0 rfl rfl (ib_in g1) dX2_property_10 ?_
  rw [← Option.some.inj h]
  exact kri hx hb hr hlk rfl rfl hP hD hS hK dX2_property_11

/-! X4_setState -/
def f_X4_setState (pu : Nat → Int32) (ta : Nat → Int32) (se : Nat → Int32) (qu : Nat → Int32) (im : Nat → Int32) (su : Nat → Int64) (tc : Int32) (sc : Int32) (rc : Int32) (cn : Int32) (so : Int32) (pr : Nat → Int32) (hs : Nat → SV) (ol : Int32) (ct : Int32) (p0 : Int32) (p1 : Int32) : Option (Int32 × (Nat → Int32) × (Nat → SV) × Int32 × Int32) :=
  (f_X4_isThruster tc p0).bind (fun q1 => if q1 = 0 then (some ((-2000000001), pr, hs, ol, ct)) else ((f_X4_isWithin p1 0 2).bind (fun q3 => if q3 = 0 then (some ((-2000000002), pr, hs, ol, ct)) else ((f_X0_keep pr pu ta se qu im su tc sc rc cn so hs ol ct).bind (fun q5 => (f_X2_property pr p0 6).bind (fun q6 => (f_X2_setProperty pr p0 6 p1).bind (fun q7 => some (q6, q7, q5.1, q5.2.1, q5.2.2))))))))

set_option maxHeartbeats 4000000 in
set_option maxRecDepth 100000 in
theorem c_X4_setState (l : Launch) (G : va_G) (cI cJ cZ cO cA : ClassId) (e : Nat × Nat) (aT : Nat) (aS : Nat → Nat) (aH : Nat → Nat) (aE : Nat → Nat) (aX : Nat → Nat) (aK : Nat → Nat → Nat) (sz : Nat) (pr : Nat → Int32) (pu : Nat → Int32) (ta : Nat → Int32) (se : Nat → Int32) (qu : Nat → Int32) (im : Nat → Int32) (su : Nat → Int64) (tc : Int32) (sc : Int32) (rc : Int32) (cn : Int32) (so : Int32) (hs : Nat → SV) (ol : Int32) (ct : Int32) (p0 : Int32) (p1 : Int32) {res : Int32 × (Nat → Int32) × (Nat → SV) × Int32 × Int32} (hf : f_X4_setState pu ta se qu im su tc sc rc cn so pr hs ol ct p0 p1 = some res) : MetI l yX4_setState cX4_setState 4 .int ({ frames := 3, cells := 0, slots := 0, locals := 82 } : Room) [.ref aT, .int p0, .int p1] G (ty5 cI cJ cZ cO cA) e (wT aT (aS 0) (aH 0) (aE 0) (aX 0) ++ (wS cI cJ aS pr pu ta se qu im su tc sc rc cn so ++ (wH cI cJ cO aH aK hs ol ct ++ ([] : va_W)))) (wT aT (aS 0) (aH 0) (aE 0) (aX 0) ++ (wS cI cJ aS res.2.1 pu ta se qu im su tc sc rc cn so ++ (wH cI cJ cO aH aK res.2.2.1 res.2.2.2.1 res.2.2.2.2 ++ ([] : va_W)))) sz res.1 := by
  refine g_body (QQ := fun A => (qI G (ty5 cI cJ cZ cO cA) A (wT aT (aS 0) (aH 0) (aE 0) (aX 0) ++ (wS cI cJ aS res.2.1 pu ta se qu im su tc sc rc cn so ++ (wH cI cJ cO aH aK res.2.2.1 res.2.2.2.1 res.2.2.2.2 ++ ([] : va_W)))) res.1)) (own := RX4) (by decide) rfl (Nat.le_of_ble_eq_true rfl) ?_
  intro p ev s m below meth c A ls hx hb hr hml hown hts hlk hA hP hD hS hK hE hl
  have hl : lv_has ls 4 [(0, .ref aT), (1, .int p0), (2, .int p1)] := hl
  show W p l ev ({ frames := 3, cells := 0, slots := 0, locals := 82 } : Room) s m ([.ref aT, .int p0, .int p1] : List Value).toArray below meth c s.heap [] 0 0 (MQ below (qI G (ty5 cI cJ cZ cO cA) A (wT aT (aS 0) (aH 0) (aE 0) (aX 0) ++ (wS cI cJ aS res.2.1 pu ta se qu im su tc sc rc cn so ++ (wH cI cJ cO aH aK res.2.2.1 res.2.2.2.1 res.2.2.2.2 ++ ([] : va_W)))) res.1) ([.ref aT, .int p0, .int p1] : List Value).toArray s 0 0 A) (F0 m 0 ls [])
  have h := hf
  unfold f_X4_setState at h
  refine lv_aload_n hx hb dX4_setState_0 rfl (lv_at hl 0 rfl) ?_
  refine lv_iload_n hx hb dX4_setState_1 rfl (lv_at hl 1 rfl) ?_
  obtain ⟨q1, hq1, h⟩ := bd_s h
  refine kVi (n := 1) (C := RX4) (ws' := wT aT (aS 0) (aH 0) (aE 0) (aX 0) ++ (wS cI cJ aS pr pu ta se qu im su tc sc rc cn so ++ (wH cI cJ cO aH aK hs ol ct ++ ([] : va_W)))) (As := [.int p0]) (rest := []) hx hb hml hown hts (c_X4_isThruster l G cI cJ cZ cO cA e aT aS aH aE aX _ pr pu ta se qu im su tc sc rc cn so p0 hq1) (tb_V kw219 kw221 kv0 kw1 kw222) rfl rfl (by decide +kernel) ⟨Nat.le_of_ble_eq_true rfl, Nat.le_of_ble_eq_true rfl⟩ hK hP hD hS hA hE 0 rfl rfl [0, 1, 2, 3, 4, 5, 6, 7, 8] [9, 10, 11, 12, 13, 14, 15, 16, 17, 18, 19, 20, 21, 22, 23, 24, 25, 26, 27, 28, 29, 30, 31, 32, 33, 34, 35, 36, 37, 38, 39, 40, 41, 42, 43, 44, 45, 46, 47, 48, 49, 50] rfl rfl rfl 51 ⟨rfl, rfl⟩ (by decide +kernel) (by decide +kernel) rfl rfl hl.1 (Nat.le_of_ble_eq_true rfl) ⟨Nat.zero_le _, Nat.zero_le _⟩ dX4_setState_2 (fun H locs hP hD hS => ?_)
  refine lv_if_ne (tgt := 11) hx hb dX4_setState_5 (by decide) (fun c2 => ?_) (fun c2 => ?_)
  · replace h := (if_neg c2).symm.trans h
    refine lv_iload_n hx hb dX4_setState_11 rfl (lv_at hl 2 rfl) ?_
    refine lv_iconst (v := 0) hx hb dX4_setState_12 (by decide) ?_
    refine lv_iconst (v := 2) hx hb dX4_setState_13 (by decide) ?_
    obtain ⟨q3, hq3, h⟩ := bd_s h
    refine kSi (n := 3) (As := [.int p1, .int 0, .int 2]) (rest := []) hx hb hml hown hts (c_X4_isWithin l G cI cJ cZ cO cA e _ p1 0 2 hq3) (tb_S kw187 kw188 kw1 kw189) rfl rfl (by decide +kernel) ⟨Nat.le_of_ble_eq_true rfl, Nat.le_of_ble_eq_true rfl⟩ hK hP hD hS hA hE rfl rfl hl.1 (Nat.le_of_ble_eq_true rfl) ⟨Nat.zero_le _, Nat.zero_le _⟩ dX4_setState_14 (fun H locs hP hD hS => ?_)
    refine lv_if_ne (tgt := 23) hx hb dX4_setState_17 (by decide) (fun c4 => ?_) (fun c4 => ?_)
    · replace h := (if_neg c4).symm.trans h
      refine lv_aload_n hx hb dX4_setState_23 rfl (lv_at hl 0 rfl) ?_
      refine va_get (D := G) (ci := 4) (v := .ref (aH 0)) (C := RX4) (T := TX4) (N := 4) hx hb hts uX4 hown hK hP 0 rfl rfl 1 (by decide) (hts _ kw168) (fun _ h9 => h9) rfl dX4_setState_24 ?_
      refine lv_aload_n hx hb dX4_setState_27 rfl (lv_at hl 0 rfl) ?_
      refine va_get (D := G) (ci := 4) (v := .ref (aS 0)) (C := RX4) (T := TX4) (N := 4) hx hb hts uX4 hown hK hP 0 rfl rfl 0 (by decide) (hts _ kw167) (fun _ h9 => h9) rfl dX4_setState_28 ?_
      obtain ⟨q5, hq5, h⟩ := bd_s h
      refine kVv (n := 1) (C := RX0) (ws' := wT aT (aS 0) (aH 0) (aE 0) (aX 0) ++ (wS cI cJ aS pr pu ta se qu im su tc sc rc cn so ++ (wH cI cJ cO aH aK q5.1 q5.2.1 q5.2.2 ++ ([] : va_W)))) (As := [.ref (aS 0)]) (rest := []) hx hb hml hown hts (c_X0_keep l G cI cJ cZ cO cA e aS aH aK _ pr pu ta se qu im su tc sc rc cn so hs ol ct hq5) (tb_V kw196 kw197 kw198 kw4 kw199) rfl rfl (by decide +kernel) ⟨Nat.le_of_ble_eq_true rfl, Nat.le_of_ble_eq_true rfl⟩ hK hP hD hS hA hE 9 rfl rfl [1, 2, 3, 4, 5, 6, 7, 8, 9, 10, 11, 12, 13, 14, 15, 16, 17, 18, 19, 20, 21, 22, 23, 24, 25, 26, 27, 28, 29, 30, 31, 32, 33, 34, 35, 36, 37, 38, 39, 40, 41, 42, 43, 44, 45, 46, 47, 48, 49, 50] [0] rfl rfl rfl 51 ⟨rfl, rfl⟩ (by decide +kernel) (by decide +kernel) rfl rfl hl.1 (Nat.le_of_ble_eq_true rfl) ⟨Nat.zero_le _, Nat.zero_le _⟩ dX4_setState_31 (fun H locs hP hD hS => ?_)
      refine lv_aload_n hx hb dX4_setState_34 rfl (lv_at hl 0 rfl) ?_
      refine va_get (D := G) (ci := 4) (v := .ref (aS 0)) (C := RX4) (T := TX4) (N := 4) hx hb hts uX4 hown hK hP 0 rfl rfl 0 (by decide) (hts _ kw167) (fun _ h9 => h9) rfl dX4_setState_35 ?_
      refine lv_iload_n hx hb dX4_setState_38 rfl (lv_at hl 1 rfl) ?_
      refine lv_bipush (v := 6) hx hb dX4_setState_39 (by decide) ?_
      obtain ⟨q6, hq6, h⟩ := bd_s h
      refine kVi (n := 2) (C := RX2) (ws' := wT aT (aS 0) (aH 0) (aE 0) (aX 0) ++ (wS cI cJ aS pr pu ta se qu im su tc sc rc cn so ++ (wH cI cJ cO aH aK q5.1 q5.2.1 q5.2.2 ++ ([] : va_W)))) (As := [.int p0, .int 6]) (rest := []) hx hb hml hown hts (c_X2_property l G cI cJ cZ cO cA e aS _ pr pu ta se qu im su tc sc rc cn so p0 6 hq6) (tb_V kw223 kw224 kw225 kw2 kw226) rfl rfl (by decide +kernel) ⟨Nat.le_of_ble_eq_true rfl, Nat.le_of_ble_eq_true rfl⟩ hK hP hD hS hA hE 1 rfl rfl [1, 2, 3, 4, 5, 6, 7, 8] [0, 9, 10, 11, 12, 13, 14, 15, 16, 17, 18, 19, 20, 21, 22, 23, 24, 25, 26, 27, 28, 29, 30, 31, 32, 33, 34, 35, 36, 37, 38, 39, 40, 41, 42, 43, 44, 45, 46, 47, 48, 49, 50] rfl rfl rfl 51 ⟨rfl, rfl⟩ (by decide +kernel) (by decide +kernel) rfl rfl hl.1 (Nat.le_of_ble_eq_true rfl) ⟨Nat.zero_le _, Nat.zero_le _⟩ dX4_setState_41 (fun H locs hP hD hS => ?_)
      refine lv_istore_n (lv' := [(3, .int q6), (0, .ref aT), (1, .int p0), (2, .int p1)]) hx hb dX4_setState_44 rfl hl (by decide) rfl (fun ls hl => ?_)
      refine lv_aload_n hx hb dX4_setState_45 rfl (lv_at hl 1 rfl) ?_
      refine va_get (D := G) (ci := 4) (v := .ref (aS 0)) (C := RX4) (T := TX4) (N := 4) hx hb hts uX4 hown hK hP 0 rfl rfl 0 (by decide) (hts _ kw167) (fun _ h9 => h9) rfl dX4_setState_46 ?_
      refine lv_iload_n hx hb dX4_setState_49 rfl (lv_at hl 2 rfl) ?_
      refine lv_bipush (v := 6) hx hb dX4_setState_50 (by decide) ?_
      refine lv_iload_n hx hb dX4_setState_52 rfl (lv_at hl 3 rfl) ?_
      obtain ⟨q7, hq7, h⟩ := bd_s h
      refine kVv (n := 3) (C := RX2) (ws' := wT aT (aS 0) (aH 0) (aE 0) (aX 0) ++ (wS cI cJ aS q7 pu ta se qu im su tc sc rc cn so ++ (wH cI cJ cO aH aK q5.1 q5.2.1 q5.2.2 ++ ([] : va_W)))) (As := [.int p0, .int 6, .int p1]) (rest := []) hx hb hml hown hts (c_X2_setProperty l G cI cJ cZ cO cA e aS _ pr pu ta se qu im su tc sc rc cn so p0 6 p1 hq7) (tb_V kw227 kw212 kw213 kw2 kw214) rfl rfl (by decide +kernel) ⟨Nat.le_of_ble_eq_true rfl, Nat.le_of_ble_eq_true rfl⟩ hK hP hD hS hA hE 1 rfl rfl [1, 2, 3, 4, 5, 6, 7, 8] [0, 9, 10, 11, 12, 13, 14, 15, 16, 17, 18, 19, 20, 21, 22, 23, 24, 25, 26, 27, 28, 29, 30, 31, 32, 33, 34, 35, 36, 37, 38, 39, 40, 41, 42, 43, 44, 45, 46, 47, 48, 49, 50] rfl rfl rfl 51 ⟨rfl, rfl⟩ (by decide +kernel) (by decide +kernel) rfl rfl hl.1 (Nat.le_of_ble_eq_true rfl) ⟨Nat.zero_le _, Nat.zero_le _⟩ dX4_setState_53 (fun H locs hP hD hS => ?_)
      refine lv_iload_n hx hb dX4_setState_56 rfl (lv_at hl 0 rfl) ?_
      rw [← Option.some.inj h]
      exact kri hx hb hr hlk rfl rfl hP hD hS hK dX4_setState_57
    · replace h := (if_pos c4).symm.trans h
      refine lv_ldc (v := (-2000000002)) hx hb hown (hts _ kw194) dX4_setState_20 ?_
      rw [← Option.some.inj h]
      exact kri hx hb hr hlk rfl rfl hP hD hS hK dX4_setState_22
  · replace h := (if_pos c2).symm.trans h
    refine lv_ldc (v := (-2000000001)) hx hb hown (hts _ kw190) dX4_setState_8 ?_
    rw [← Option.some.inj h]
    exact kri hx hb hr hlk rfl rfl hP hD hS hK dX4_setState_10

/-! X4_thrusters -/
def f_X4_thrusters (tc : Int32) : Option (Int32) :=
  some tc

set_option maxHeartbeats 4000000 in
set_option maxRecDepth 100000 in
theorem c_X4_thrusters (l : Launch) (G : va_G) (cI cJ cZ cO cA : ClassId) (e : Nat × Nat) (aT : Nat) (aS : Nat → Nat) (aH : Nat → Nat) (aE : Nat → Nat) (aX : Nat → Nat) (sz : Nat) (pr : Nat → Int32) (pu : Nat → Int32) (ta : Nat → Int32) (se : Nat → Int32) (qu : Nat → Int32) (im : Nat → Int32) (su : Nat → Int64) (tc : Int32) (sc : Int32) (rc : Int32) (cn : Int32) (so : Int32) {res : Int32} (hf : f_X4_thrusters tc = some res) : MetI l yX4_thrusters cX4_thrusters 1 .int ({ frames := 0, cells := 0, slots := 0, locals := 0 } : Room) [.ref aT] G (ty5 cI cJ cZ cO cA) e (wT aT (aS 0) (aH 0) (aE 0) (aX 0) ++ (wS cI cJ aS pr pu ta se qu im su tc sc rc cn so ++ ([] : va_W))) (wT aT (aS 0) (aH 0) (aE 0) (aX 0) ++ (wS cI cJ aS pr pu ta se qu im su tc sc rc cn so ++ ([] : va_W))) sz res := by
  refine g_body (QQ := fun A => (qI G (ty5 cI cJ cZ cO cA) A (wT aT (aS 0) (aH 0) (aE 0) (aX 0) ++ (wS cI cJ aS pr pu ta se qu im su tc sc rc cn so ++ ([] : va_W))) res)) (own := RX4) (by decide) rfl (Nat.le_of_ble_eq_true rfl) ?_
  intro p ev s m below meth c A ls hx hb hr hml hown hts hlk hA hP hD hS hK hE hl
  have hl : lv_has ls 1 [(0, .ref aT)] := hl
  show W p l ev ({ frames := 0, cells := 0, slots := 0, locals := 0 } : Room) s m ([.ref aT] : List Value).toArray below meth c s.heap [] 0 0 (MQ below (qI G (ty5 cI cJ cZ cO cA) A (wT aT (aS 0) (aH 0) (aE 0) (aX 0) ++ (wS cI cJ aS pr pu ta se qu im su tc sc rc cn so ++ ([] : va_W))) res) ([.ref aT] : List Value).toArray s 0 0 A) (F0 m 0 ls [])
  have h := hf
  unfold f_X4_thrusters at h
  refine lv_aload_n hx hb dX4_thrusters_0 rfl (lv_at hl 0 rfl) ?_
  refine va_get (D := G) (ci := 4) (v := .ref (aS 0)) (C := RX4) (T := TX4) (N := 4) hx hb hts uX4 hown hK hP 0 rfl rfl 0 (by decide) (hts _ kw167) (fun _ h9 => h9) rfl dX4_thrusters_1 ?_
  refine va_getN (D := G) (ci := 2) (v := .int tc) (C := RX2) (T := TX2) (N := 12) hx hb hts uX2 hown hK hP 1 rfl rfl 7 (by decide) (hE.nw nk42) (fun _ h9 => h9) rfl dX4_thrusters_4 ?_
  rw [← Option.some.inj h]
  exact kri hx hb hr hlk rfl rfl hP hD hS hK dX4_thrusters_7

/-! X2_fuelOf -/
def f_X2_fuelOf (pr : Nat → Int32) (ta : Nat → Int32) (p0 : Int32) : Option (Int32) :=
  (f_X2_property pr p0 4).bind (fun q1 => gd (ib q1 2) (some (ta q1.toNatClampNeg)))

set_option maxHeartbeats 4000000 in
set_option maxRecDepth 100000 in
theorem c_X2_fuelOf (l : Launch) (G : va_G) (cI cJ cZ cO cA : ClassId) (e : Nat × Nat) (aS : Nat → Nat) (sz : Nat) (pr : Nat → Int32) (pu : Nat → Int32) (ta : Nat → Int32) (se : Nat → Int32) (qu : Nat → Int32) (im : Nat → Int32) (su : Nat → Int64) (tc : Int32) (sc : Int32) (rc : Int32) (cn : Int32) (so : Int32) (p0 : Int32) {res : Int32} (hf : f_X2_fuelOf pr ta p0 = some res) : MetI l yX2_fuelOf cX2_fuelOf 2 .int ({ frames := 1, cells := 0, slots := 0, locals := 22 } : Room) [.ref (aS 0), .int p0] G (ty5 cI cJ cZ cO cA) e (wS cI cJ aS pr pu ta se qu im su tc sc rc cn so ++ ([] : va_W)) (wS cI cJ aS pr pu ta se qu im su tc sc rc cn so ++ ([] : va_W)) sz res := by
  refine g_body (QQ := fun A => (qI G (ty5 cI cJ cZ cO cA) A (wS cI cJ aS pr pu ta se qu im su tc sc rc cn so ++ ([] : va_W)) res)) (own := RX2) (by decide) rfl (Nat.le_of_ble_eq_true rfl) ?_
  intro p ev s m below meth c A ls hx hb hr hml hown hts hlk hA hP hD hS hK hE hl
  have hl : lv_has ls 2 [(0, .ref (aS 0)), (1, .int p0)] := hl
  show W p l ev ({ frames := 1, cells := 0, slots := 0, locals := 22 } : Room) s m ([.ref (aS 0), .int p0] : List Value).toArray below meth c s.heap [] 0 0 (MQ below (qI G (ty5 cI cJ cZ cO cA) A (wS cI cJ aS pr pu ta se qu im su tc sc rc cn so ++ ([] : va_W)) res) ([.ref (aS 0), .int p0] : List Value).toArray s 0 0 A) (F0 m 0 ls [])
  have h := hf
  unfold f_X2_fuelOf at h
  refine lv_aload_n hx hb dX2_fuelOf_0 rfl (lv_at hl 0 rfl) ?_
  refine va_get (D := G) (ci := 2) (v := .ref (aS 3)) (C := RX2) (T := TX2) (N := 12) hx hb hts uX2 hown hK hP 0 rfl rfl 2 (by decide) (hts _ kw32) (fun _ h9 => h9) rfl dX2_fuelOf_1 ?_
  refine lv_aload_n hx hb dX2_fuelOf_4 rfl (lv_at hl 0 rfl) ?_
  refine lv_iload_n hx hb dX2_fuelOf_5 rfl (lv_at hl 1 rfl) ?_
  refine lv_iconst (v := 4) hx hb dX2_fuelOf_6 (by decide) ?_
  obtain ⟨q1, hq1, h⟩ := bd_s h
  refine kVi (n := 2) (C := RX2) (ws' := wS cI cJ aS pr pu ta se qu im su tc sc rc cn so ++ ([] : va_W)) (As := [.int p0, .int 4]) (rest := [.ref (aS 3)]) hx hb hml hown hts (c_X2_property l G cI cJ cZ cO cA e aS _ pr pu ta se qu im su tc sc rc cn so p0 4 hq1) (tb_V kw240 kw224 kw225 kw2 kw226) rfl rfl (by decide +kernel) ⟨Nat.le_of_ble_eq_true rfl, Nat.le_of_ble_eq_true rfl⟩ hK hP hD hS hA hE 0 rfl rfl [0, 1, 2, 3, 4, 5, 6, 7] [] rfl rfl rfl 8 ⟨rfl, rfl⟩ (by decide +kernel) (by decide +kernel) rfl rfl hl.1 (Nat.le_of_ble_eq_true rfl) ⟨Nat.zero_le _, Nat.zero_le _⟩ dX2_fuelOf_7 (fun H locs hP hD hS => ?_)
  obtain ⟨g2, h⟩ := gd_s h
  refine va_iald hx hb hK hP 3 0 rfl rfl (ib_in g2) dX2_fuelOf_10 ?_
  rw [← Option.some.inj h]
  exact kri hx hb hr hlk rfl rfl hP hD hS hK dX2_fuelOf_11

/-! X2_isUsable -/
def f_X2_isUsable (pr : Nat → Int32) (ta : Nat → Int32) (p0 : Int32) : Option (Int32) :=
  (f_X2_property pr p0 6).bind (fun q1 => if q1 = 0 then ((f_X2_fuelOf pr ta p0).bind (fun q3 => if q3 < 600 then (some 0) else (some 1))) else (some 0))

set_option maxHeartbeats 4000000 in
set_option maxRecDepth 100000 in
theorem c_X2_isUsable (l : Launch) (G : va_G) (cI cJ cZ cO cA : ClassId) (e : Nat × Nat) (aS : Nat → Nat) (sz : Nat) (pr : Nat → Int32) (pu : Nat → Int32) (ta : Nat → Int32) (se : Nat → Int32) (qu : Nat → Int32) (im : Nat → Int32) (su : Nat → Int64) (tc : Int32) (sc : Int32) (rc : Int32) (cn : Int32) (so : Int32) (p0 : Int32) {res : Int32} (hf : f_X2_isUsable pr ta p0 = some res) : MetI l yX2_isUsable cX2_isUsable 2 .boolean ({ frames := 2, cells := 0, slots := 0, locals := 43 } : Room) [.ref (aS 0), .int p0] G (ty5 cI cJ cZ cO cA) e (wS cI cJ aS pr pu ta se qu im su tc sc rc cn so ++ ([] : va_W)) (wS cI cJ aS pr pu ta se qu im su tc sc rc cn so ++ ([] : va_W)) sz res := by
  refine g_body (QQ := fun A => (qI G (ty5 cI cJ cZ cO cA) A (wS cI cJ aS pr pu ta se qu im su tc sc rc cn so ++ ([] : va_W)) res)) (own := RX2) (by decide) rfl (Nat.le_of_ble_eq_true rfl) ?_
  intro p ev s m below meth c A ls hx hb hr hml hown hts hlk hA hP hD hS hK hE hl
  have hl : lv_has ls 2 [(0, .ref (aS 0)), (1, .int p0)] := hl
  show W p l ev ({ frames := 2, cells := 0, slots := 0, locals := 43 } : Room) s m ([.ref (aS 0), .int p0] : List Value).toArray below meth c s.heap [] 0 0 (MQ below (qI G (ty5 cI cJ cZ cO cA) A (wS cI cJ aS pr pu ta se qu im su tc sc rc cn so ++ ([] : va_W)) res) ([.ref (aS 0), .int p0] : List Value).toArray s 0 0 A) (F0 m 0 ls [])
  have h := hf
  unfold f_X2_isUsable at h
  refine lv_aload_n hx hb dX2_isUsable_0 rfl (lv_at hl 0 rfl) ?_
  refine lv_iload_n hx hb dX2_isUsable_1 rfl (lv_at hl 1 rfl) ?_
  refine lv_bipush (v := 6) hx hb dX2_isUsable_2 (by decide) ?_
  obtain ⟨q1, hq1, h⟩ := bd_s h
  refine kVi (n := 2) (C := RX2) (ws' := wS cI cJ aS pr pu ta se qu im su tc sc rc cn so ++ ([] : va_W)) (As := [.int p0, .int 6]) (rest := []) hx hb hml hown hts (c_X2_property l G cI cJ cZ cO cA e aS _ pr pu ta se qu im su tc sc rc cn so p0 6 hq1) (tb_V kw240 kw224 kw225 kw2 kw226) rfl rfl (by decide +kernel) ⟨Nat.le_of_ble_eq_true rfl, Nat.le_of_ble_eq_true rfl⟩ hK hP hD hS hA hE 0 rfl rfl [0, 1, 2, 3, 4, 5, 6, 7] [] rfl rfl rfl 8 ⟨rfl, rfl⟩ (by decide +kernel) (by decide +kernel) rfl rfl hl.1 (Nat.le_of_ble_eq_true rfl) ⟨Nat.zero_le _, Nat.zero_le _⟩ dX2_isUsable_4 (fun H locs hP hD hS => ?_)
  refine lv_if_ne (tgt := 25) hx hb dX2_isUsable_7 (by decide) (fun c2 => ?_) (fun c2 => ?_)
  · replace h := (if_neg c2).symm.trans h
    refine lv_iconst (v := 0) hx hb dX2_isUsable_25 (by decide) ?_
    rw [← Option.some.inj h]
    exact kri hx hb hr hlk rfl rfl hP hD hS hK dX2_isUsable_26
  · replace h := (if_pos c2).symm.trans h
    refine lv_aload_n hx hb dX2_isUsable_10 rfl (lv_at hl 0 rfl) ?_
    refine lv_iload_n hx hb dX2_isUsable_11 rfl (lv_at hl 1 rfl) ?_
    obtain ⟨q3, hq3, h⟩ := bd_s h
    refine kVi (n := 1) (C := RX2) (ws' := wS cI cJ aS pr pu ta se qu im su tc sc rc cn so ++ ([] : va_W)) (As := [.int p0]) (rest := []) hx hb hml hown hts (c_X2_fuelOf l G cI cJ cZ cO cA e aS _ pr pu ta se qu im su tc sc rc cn so p0 hq3) (tb_V kw241 kw242 kw243 kw2 kw244) rfl rfl (by decide +kernel) ⟨Nat.le_of_ble_eq_true rfl, Nat.le_of_ble_eq_true rfl⟩ hK hP hD hS hA hE 0 rfl rfl [0, 1, 2, 3, 4, 5, 6, 7] [] rfl rfl rfl 8 ⟨rfl, rfl⟩ (by decide +kernel) (by decide +kernel) rfl rfl hl.1 (Nat.le_of_ble_eq_true rfl) ⟨Nat.zero_le _, Nat.zero_le _⟩ dX2_isUsable_12 (fun H locs hP hD hS => ?_)
    refine lv_sipush (v := 600) hx hb dX2_isUsable_15 (by decide) ?_
    refine lv_icmp_lt (tgt := 25) hx hb dX2_isUsable_18 (by decide) (fun c4 => ?_) (fun c4 => ?_)
    · replace h := (if_pos c4).symm.trans h
      refine lv_iconst (v := 0) hx hb dX2_isUsable_25 (by decide) ?_
      rw [← Option.some.inj h]
      exact kri hx hb hr hlk rfl rfl hP hD hS hK dX2_isUsable_26
    · replace h := (if_neg c4).symm.trans h
      refine lv_iconst (v := 1) hx hb dX2_isUsable_21 (by decide) ?_
      refine lv_goto (tgt := 26) hx hb dX2_isUsable_22 (by decide) ?_
      rw [← Option.some.inj h]
      exact kri hx hb hr hlk rfl rfl hP hD hS hK dX2_isUsable_26

/-! X2_isRunning -/
def f_X2_isRunning (pr : Nat → Int32) (ta : Nat → Int32) (p0 : Int32) : Option (Int32) :=
  (f_X2_property pr p0 6).bind (fun q1 => if q1 = 2 then ((f_X2_fuelOf pr ta p0).bind (fun q3 => (f_X2_property pr p0 3).bind (fun q4 => if q3 < (20 * q4) then (some 0) else (some 1)))) else (some 0))

set_option maxHeartbeats 4000000 in
set_option maxRecDepth 100000 in
theorem c_X2_isRunning (l : Launch) (G : va_G) (cI cJ cZ cO cA : ClassId) (e : Nat × Nat) (aS : Nat → Nat) (sz : Nat) (pr : Nat → Int32) (pu : Nat → Int32) (ta : Nat → Int32) (se : Nat → Int32) (qu : Nat → Int32) (im : Nat → Int32) (su : Nat → Int64) (tc : Int32) (sc : Int32) (rc : Int32) (cn : Int32) (so : Int32) (p0 : Int32) {res : Int32} (hf : f_X2_isRunning pr ta p0 = some res) : MetI l yX2_isRunning cX2_isRunning 2 .boolean ({ frames := 2, cells := 0, slots := 0, locals := 43 } : Room) [.ref (aS 0), .int p0] G (ty5 cI cJ cZ cO cA) e (wS cI cJ aS pr pu ta se qu im su tc sc rc cn so ++ ([] : va_W)) (wS cI cJ aS pr pu ta se qu im su tc sc rc cn so ++ ([] : va_W)) sz res := by
  refine g_body (QQ := fun A => (qI G (ty5 cI cJ cZ cO cA) A (wS cI cJ aS pr pu ta se qu im su tc sc rc cn so ++ ([] : va_W)) res)) (own := RX2) (by decide) rfl (Nat.le_of_ble_eq_true rfl) ?_
  intro p ev s m below meth c A ls hx hb hr hml hown hts hlk hA hP hD hS hK hE hl
  have hl : lv_has ls 2 [(0, .ref (aS 0)), (1, .int p0)] := hl
  show W p l ev ({ frames := 2, cells := 0, slots := 0, locals := 43 } : Room) s m ([.ref (aS 0), .int p0] : List Value).toArray below meth c s.heap [] 0 0 (MQ below (qI G (ty5 cI cJ cZ cO cA) A (wS cI cJ aS pr pu ta se qu im su tc sc rc cn so ++ ([] : va_W)) res) ([.ref (aS 0), .int p0] : List Value).toArray s 0 0 A) (F0 m 0 ls [])
  have h := hf
  unfold f_X2_isRunning at h
  refine lv_aload_n hx hb dX2_isRunning_0 rfl (lv_at hl 0 rfl) ?_
  refine lv_iload_n hx hb dX2_isRunning_1 rfl (lv_at hl 1 rfl) ?_
  refine lv_bipush (v := 6) hx hb dX2_isRunning_2 (by decide) ?_
  obtain ⟨q1, hq1, h⟩ := bd_s h
  refine kVi (n := 2) (C := RX2) (ws' := wS cI cJ aS pr pu ta se qu im su tc sc rc cn so ++ ([] : va_W)) (As := [.int p0, .int 6]) (rest := []) hx hb hml hown hts (c_X2_property l G cI cJ cZ cO cA e aS _ pr pu ta se qu im su tc sc rc cn so p0 6 hq1) (tb_V kw240 kw224 kw225 kw2 kw226) rfl rfl (by decide +kernel) ⟨Nat.le_of_ble_eq_true rfl, Nat.le_of_ble_eq_true rfl⟩ hK hP hD hS hA hE 0 rfl rfl [0, 1, 2, 3, 4, 5, 6, 7] [] rfl rfl rfl 8 ⟨rfl, rfl⟩ (by decide +kernel) (by decide +kernel) rfl rfl hl.1 (Nat.le_of_ble_eq_true rfl) ⟨Nat.zero_le _, Nat.zero_le _⟩ dX2_isRunning_4 (fun H locs hP hD hS => ?_)
  refine lv_iconst (v := 2) hx hb dX2_isRunning_7 (by decide) ?_
  refine lv_icmp_ne (tgt := 32) hx hb dX2_isRunning_8 (by decide) (fun c2 => ?_) (fun c2 => ?_)
  · replace h := (if_neg c2).symm.trans h
    refine lv_iconst (v := 0) hx hb dX2_isRunning_32 (by decide) ?_
    rw [← Option.some.inj h]
    exact kri hx hb hr hlk rfl rfl hP hD hS hK dX2_isRunning_33
  · replace h := (if_pos c2).symm.trans h
    refine lv_aload_n hx hb dX2_isRunning_11 rfl (lv_at hl 0 rfl) ?_
    refine lv_iload_n hx hb dX2_isRunning_12 rfl (lv_at hl 1 rfl) ?_
    obtain ⟨q3, hq3, h⟩ := bd_s h
    refine kVi (n := 1) (C := RX2) (ws' := wS cI cJ aS pr pu ta se qu im su tc sc rc cn so ++ ([] : va_W)) (As := [.int p0]) (rest := []) hx hb hml hown hts (c_X2_fuelOf l G cI cJ cZ cO cA e aS _ pr pu ta se qu im su tc sc rc cn so p0 hq3) (tb_V kw241 kw242 kw243 kw2 kw244) rfl rfl (by decide +kernel) ⟨Nat.le_of_ble_eq_true rfl, Nat.le_of_ble_eq_true rfl⟩ hK hP hD hS hA hE 0 rfl rfl [0, 1, 2, 3, 4, 5, 6, 7] [] rfl rfl rfl 8 ⟨rfl, rfl⟩ (by decide +kernel) (by decide +kernel) rfl rfl hl.1 (Nat.le_of_ble_eq_true rfl) ⟨Nat.zero_le _, Nat.zero_le _⟩ dX2_isRunning_13 (fun H locs hP hD hS => ?_)
    refine lv_bipush (v := 20) hx hb dX2_isRunning_16 (by decide) ?_
    refine lv_aload_n hx hb dX2_isRunning_18 rfl (lv_at hl 0 rfl) ?_
    refine lv_iload_n hx hb dX2_isRunning_19 rfl (lv_at hl 1 rfl) ?_
    refine lv_iconst (v := 3) hx hb dX2_isRunning_20 (by decide) ?_
    obtain ⟨q4, hq4, h⟩ := bd_s h
    refine kVi (n := 2) (C := RX2) (ws' := wS cI cJ aS pr pu ta se qu im su tc sc rc cn so ++ ([] : va_W)) (As := [.int p0, .int 3]) (rest := [.int 20, .int q3]) hx hb hml hown hts (c_X2_property l G cI cJ cZ cO cA e aS _ pr pu ta se qu im su tc sc rc cn so p0 3 hq4) (tb_V kw240 kw224 kw225 kw2 kw226) rfl rfl (by decide +kernel) ⟨Nat.le_of_ble_eq_true rfl, Nat.le_of_ble_eq_true rfl⟩ hK hP hD hS hA hE 0 rfl rfl [0, 1, 2, 3, 4, 5, 6, 7] [] rfl rfl rfl 8 ⟨rfl, rfl⟩ (by decide +kernel) (by decide +kernel) rfl rfl hl.1 (Nat.le_of_ble_eq_true rfl) ⟨Nat.zero_le _, Nat.zero_le _⟩ dX2_isRunning_21 (fun H locs hP hD hS => ?_)
    refine lv_imul hx hb dX2_isRunning_24 ?_
    refine lv_icmp_lt (tgt := 32) hx hb dX2_isRunning_25 (by decide) (fun c5 => ?_) (fun c5 => ?_)
    · replace h := (if_pos c5).symm.trans h
      refine lv_iconst (v := 0) hx hb dX2_isRunning_32 (by decide) ?_
      rw [← Option.some.inj h]
      exact kri hx hb hr hlk rfl rfl hP hD hS hK dX2_isRunning_33
    · replace h := (if_neg c5).symm.trans h
      refine lv_iconst (v := 1) hx hb dX2_isRunning_28 (by decide) ?_
      refine lv_goto (tgt := 33) hx hb dX2_isRunning_29 (by decide) ?_
      rw [← Option.some.inj h]
      exact kri hx hb hr hlk rfl rfl hP hD hS hK dX2_isRunning_33

/-! X4_thruster -/
def f_X4_thruster (pr : Nat → Int32) (ta : Nat → Int32) (tc : Int32) (p0 : Int32) (p1 : Int32) : Option (Int32) :=
  (f_X4_isThruster tc p0).bind (fun q1 => if q1 = 0 then (some (-2000000001)) else ((f_X4_isWithin p1 0 8).bind (fun q3 => if q3 = 0 then (some (-2000000002)) else (if p1 = 7 then ((f_X2_isUsable pr ta p0).bind (fun q10 => if q10 = 0 then (some 0) else (some 1))) else (if p1 = 8 then ((f_X2_isRunning pr ta p0).bind (fun q8 => if q8 = 0 then (some 0) else (some 1))) else ((f_X2_property pr p0 p1).bind (fun q7 => some q7)))))))

set_option maxHeartbeats 4000000 in
set_option maxRecDepth 100000 in
theorem c_X4_thruster (l : Launch) (G : va_G) (cI cJ cZ cO cA : ClassId) (e : Nat × Nat) (aT : Nat) (aS : Nat → Nat) (aH : Nat → Nat) (aE : Nat → Nat) (aX : Nat → Nat) (sz : Nat) (pr : Nat → Int32) (pu : Nat → Int32) (ta : Nat → Int32) (se : Nat → Int32) (qu : Nat → Int32) (im : Nat → Int32) (su : Nat → Int64) (tc : Int32) (sc : Int32) (rc : Int32) (cn : Int32) (so : Int32) (p0 : Int32) (p1 : Int32) {res : Int32} (hf : f_X4_thruster pr ta tc p0 p1 = some res) : MetI l yX4_thruster cX4_thruster 3 .int ({ frames := 3, cells := 0, slots := 0, locals := 64 } : Room) [.ref aT, .int p0, .int p1] G (ty5 cI cJ cZ cO cA) e (wT aT (aS 0) (aH 0) (aE 0) (aX 0) ++ (wS cI cJ aS pr pu ta se qu im su tc sc rc cn so ++ ([] : va_W))) (wT aT (aS 0) (aH 0) (aE 0) (aX 0) ++ (wS cI cJ aS pr pu ta se qu im su tc sc rc cn so ++ ([] : va_W))) sz res := by
  refine g_body (QQ := fun A => (qI G (ty5 cI cJ cZ cO cA) A (wT aT (aS 0) (aH 0) (aE 0) (aX 0) ++ (wS cI cJ aS pr pu ta se qu im su tc sc rc cn so ++ ([] : va_W))) res)) (own := RX4) (by decide) rfl (Nat.le_of_ble_eq_true rfl) ?_
  intro p ev s m below meth c A ls hx hb hr hml hown hts hlk hA hP hD hS hK hE hl
  have hl : lv_has ls 3 [(0, .ref aT), (1, .int p0), (2, .int p1)] := hl
  show W p l ev ({ frames := 3, cells := 0, slots := 0, locals := 64 } : Room) s m ([.ref aT, .int p0, .int p1] : List Value).toArray below meth c s.heap [] 0 0 (MQ below (qI G (ty5 cI cJ cZ cO cA) A (wT aT (aS 0) (aH 0) (aE 0) (aX 0) ++ (wS cI cJ aS pr pu ta se qu im su tc sc rc cn so ++ ([] : va_W))) res) ([.ref aT, .int p0, .int p1] : List Value).toArray s 0 0 A) (F0 m 0 ls [])
  have h := hf
  unfold f_X4_thruster at h
  refine lv_aload_n hx hb dX4_thruster_0 rfl (lv_at hl 0 rfl) ?_
  refine lv_iload_n hx hb dX4_thruster_1 rfl (lv_at hl 1 rfl) ?_
  obtain ⟨q1, hq1, h⟩ := bd_s h
  refine kVi (n := 1) (C := RX4) (ws' := wT aT (aS 0) (aH 0) (aE 0) (aX 0) ++ (wS cI cJ aS pr pu ta se qu im su tc sc rc cn so ++ ([] : va_W))) (As := [.int p0]) (rest := []) hx hb hml hown hts (c_X4_isThruster l G cI cJ cZ cO cA e aT aS aH aE aX _ pr pu ta se qu im su tc sc rc cn so p0 hq1) (tb_V kw219 kw221 kv0 kw1 kw222) rfl rfl (by decide +kernel) ⟨Nat.le_of_ble_eq_true rfl, Nat.le_of_ble_eq_true rfl⟩ hK hP hD hS hA hE 0 rfl rfl [0, 1, 2, 3, 4, 5, 6, 7, 8] [] rfl rfl rfl 9 ⟨rfl, rfl⟩ (by decide +kernel) (by decide +kernel) rfl rfl hl.1 (Nat.le_of_ble_eq_true rfl) ⟨Nat.zero_le _, Nat.zero_le _⟩ dX4_thruster_2 (fun H locs hP hD hS => ?_)
  refine lv_if_ne (tgt := 11) hx hb dX4_thruster_5 (by decide) (fun c2 => ?_) (fun c2 => ?_)
  · replace h := (if_neg c2).symm.trans h
    refine lv_iload_n hx hb dX4_thruster_11 rfl (lv_at hl 2 rfl) ?_
    refine lv_iconst (v := 0) hx hb dX4_thruster_12 (by decide) ?_
    refine lv_bipush (v := 8) hx hb dX4_thruster_13 (by decide) ?_
    obtain ⟨q3, hq3, h⟩ := bd_s h
    refine kSi (n := 3) (As := [.int p1, .int 0, .int 8]) (rest := []) hx hb hml hown hts (c_X4_isWithin l G cI cJ cZ cO cA e _ p1 0 8 hq3) (tb_S kw187 kw188 kw1 kw189) rfl rfl (by decide +kernel) ⟨Nat.le_of_ble_eq_true rfl, Nat.le_of_ble_eq_true rfl⟩ hK hP hD hS hA hE rfl rfl hl.1 (Nat.le_of_ble_eq_true rfl) ⟨Nat.zero_le _, Nat.zero_le _⟩ dX4_thruster_15 (fun H locs hP hD hS => ?_)
    refine lv_if_ne (tgt := 24) hx hb dX4_thruster_18 (by decide) (fun c4 => ?_) (fun c4 => ?_)
    · replace h := (if_neg c4).symm.trans h
      refine lv_iload_n hx hb dX4_thruster_24 rfl (lv_at hl 2 rfl) ?_
      refine lv_bipush (v := 7) hx hb dX4_thruster_25 (by decide) ?_
      refine lv_icmp_ne (tgt := 47) hx hb dX4_thruster_27 (by decide) (fun c5 => ?_) (fun c5 => ?_)
      · replace h := (if_neg c5).symm.trans h
        refine lv_iload_n hx hb dX4_thruster_47 rfl (lv_at hl 2 rfl) ?_
        refine lv_bipush (v := 8) hx hb dX4_thruster_48 (by decide) ?_
        refine lv_icmp_ne (tgt := 70) hx hb dX4_thruster_50 (by decide) (fun c6 => ?_) (fun c6 => ?_)
        · replace h := (if_neg c6).symm.trans h
          refine lv_aload_n hx hb dX4_thruster_70 rfl (lv_at hl 0 rfl) ?_
          refine va_get (D := G) (ci := 4) (v := .ref (aS 0)) (C := RX4) (T := TX4) (N := 4) hx hb hts uX4 hown hK hP 0 rfl rfl 0 (by decide) (hts _ kw167) (fun _ h9 => h9) rfl dX4_thruster_71 ?_
          refine lv_iload_n hx hb dX4_thruster_74 rfl (lv_at hl 1 rfl) ?_
          refine lv_iload_n hx hb dX4_thruster_75 rfl (lv_at hl 2 rfl) ?_
          obtain ⟨q7, hq7, h⟩ := bd_s h
          refine kVi (n := 2) (C := RX2) (ws' := wT aT (aS 0) (aH 0) (aE 0) (aX 0) ++ (wS cI cJ aS pr pu ta se qu im su tc sc rc cn so ++ ([] : va_W))) (As := [.int p0, .int p1]) (rest := []) hx hb hml hown hts (c_X2_property l G cI cJ cZ cO cA e aS _ pr pu ta se qu im su tc sc rc cn so p0 p1 hq7) (tb_V kw223 kw224 kw225 kw2 kw226) rfl rfl (by decide +kernel) ⟨Nat.le_of_ble_eq_true rfl, Nat.le_of_ble_eq_true rfl⟩ hK hP hD hS hA hE 1 rfl rfl [1, 2, 3, 4, 5, 6, 7, 8] [0] rfl rfl rfl 9 ⟨rfl, rfl⟩ (by decide +kernel) (by decide +kernel) rfl rfl hl.1 (Nat.le_of_ble_eq_true rfl) ⟨Nat.zero_le _, Nat.zero_le _⟩ dX4_thruster_76 (fun H locs hP hD hS => ?_)
          rw [← Option.some.inj h]
          exact kri hx hb hr hlk rfl rfl hP hD hS hK dX4_thruster_79
        · replace h := (if_pos c6).symm.trans h
          refine lv_aload_n hx hb dX4_thruster_53 rfl (lv_at hl 0 rfl) ?_
          refine va_get (D := G) (ci := 4) (v := .ref (aS 0)) (C := RX4) (T := TX4) (N := 4) hx hb hts uX4 hown hK hP 0 rfl rfl 0 (by decide) (hts _ kw167) (fun _ h9 => h9) rfl dX4_thruster_54 ?_
          refine lv_iload_n hx hb dX4_thruster_57 rfl (lv_at hl 1 rfl) ?_
          obtain ⟨q8, hq8, h⟩ := bd_s h
          refine kVi (n := 1) (C := RX2) (ws' := wT aT (aS 0) (aH 0) (aE 0) (aX 0) ++ (wS cI cJ aS pr pu ta se qu im su tc sc rc cn so ++ ([] : va_W))) (As := [.int p0]) (rest := []) hx hb hml hown hts (c_X2_isRunning l G cI cJ cZ cO cA e aS _ pr pu ta se qu im su tc sc rc cn so p0 hq8) (tb_V kw245 kw246 kw247 kw2 kw248) rfl rfl (by decide +kernel) ⟨Nat.le_of_ble_eq_true rfl, Nat.le_of_ble_eq_true rfl⟩ hK hP hD hS hA hE 1 rfl rfl [1, 2, 3, 4, 5, 6, 7, 8] [0] rfl rfl rfl 9 ⟨rfl, rfl⟩ (by decide +kernel) (by decide +kernel) rfl rfl hl.1 (Nat.le_of_ble_eq_true rfl) ⟨Nat.zero_le _, Nat.zero_le _⟩ dX4_thruster_58 (fun H locs hP hD hS => ?_)
          refine lv_if_eq (tgt := 68) hx hb dX4_thruster_61 (by decide) (fun c9 => ?_) (fun c9 => ?_)
          · replace h := (if_pos c9).symm.trans h
            refine lv_iconst (v := 0) hx hb dX4_thruster_68 (by decide) ?_
            rw [← Option.some.inj h]
            exact kri hx hb hr hlk rfl rfl hP hD hS hK dX4_thruster_69
          · replace h := (if_neg c9).symm.trans h
            refine lv_iconst (v := 1) hx hb dX4_thruster_64 (by decide) ?_
            refine lv_goto (tgt := 69) hx hb dX4_thruster_65 (by decide) ?_
            rw [← Option.some.inj h]
            exact kri hx hb hr hlk rfl rfl hP hD hS hK dX4_thruster_69
      · replace h := (if_pos c5).symm.trans h
        refine lv_aload_n hx hb dX4_thruster_30 rfl (lv_at hl 0 rfl) ?_
        refine va_get (D := G) (ci := 4) (v := .ref (aS 0)) (C := RX4) (T := TX4) (N := 4) hx hb hts uX4 hown hK hP 0 rfl rfl 0 (by decide) (hts _ kw167) (fun _ h9 => h9) rfl dX4_thruster_31 ?_
        refine lv_iload_n hx hb dX4_thruster_34 rfl (lv_at hl 1 rfl) ?_
        obtain ⟨q10, hq10, h⟩ := bd_s h
        refine kVi (n := 1) (C := RX2) (ws' := wT aT (aS 0) (aH 0) (aE 0) (aX 0) ++ (wS cI cJ aS pr pu ta se qu im su tc sc rc cn so ++ ([] : va_W))) (As := [.int p0]) (rest := []) hx hb hml hown hts (c_X2_isUsable l G cI cJ cZ cO cA e aS _ pr pu ta se qu im su tc sc rc cn so p0 hq10) (tb_V kw236 kw237 kw238 kw2 kw239) rfl rfl (by decide +kernel) ⟨Nat.le_of_ble_eq_true rfl, Nat.le_of_ble_eq_true rfl⟩ hK hP hD hS hA hE 1 rfl rfl [1, 2, 3, 4, 5, 6, 7, 8] [0] rfl rfl rfl 9 ⟨rfl, rfl⟩ (by decide +kernel) (by decide +kernel) rfl rfl hl.1 (Nat.le_of_ble_eq_true rfl) ⟨Nat.zero_le _, Nat.zero_le _⟩ dX4_thruster_35 (fun H locs hP hD hS => ?_)
        refine lv_if_eq (tgt := 45) hx hb dX4_thruster_38 (by decide) (fun c11 => ?_) (fun c11 => ?_)
        · replace h := (if_pos c11).symm.trans h
          refine lv_iconst (v := 0) hx hb dX4_thruster_45 (by decide) ?_
          rw [← Option.some.inj h]
          exact kri hx hb hr hlk rfl rfl hP hD hS hK dX4_thruster_46
        · replace h := (if_neg c11).symm.trans h
          refine lv_iconst (v := 1) hx hb dX4_thruster_41 (by decide) ?_
          refine lv_goto (tgt := 46) hx hb dX4_thruster_42 (by decide) ?_
          rw [← Option.some.inj h]
          exact kri hx hb hr hlk rfl rfl hP hD hS hK dX4_thruster_46
    · replace h := (if_pos c4).symm.trans h
      refine lv_ldc (v := (-2000000002)) hx hb hown (hts _ kw194) dX4_thruster_21 ?_
      rw [← Option.some.inj h]
      exact kri hx hb hr hlk rfl rfl hP hD hS hK dX4_thruster_23
  · replace h := (if_pos c2).symm.trans h
    refine lv_ldc (v := (-2000000001)) hx hb hown (hts _ kw190) dX4_thruster_8 ?_
    rw [← Option.some.inj h]
    exact kri hx hb hr hlk rfl rfl hP hD hS hK dX4_thruster_10

/-! X4_isPart -/
def f_X4_isPart (p0 : Int32) : Option (Int32) :=
  (f_X4_isWithin p0 0 2).bind (fun q1 => gd (zb q1) (some q1))

set_option maxHeartbeats 4000000 in
set_option maxRecDepth 100000 in
theorem c_X4_isPart (l : Launch) (G : va_G) (cI cJ cZ cO cA : ClassId) (e : Nat × Nat) (sz : Nat) (p0 : Int32) {res : Int32} (hf : f_X4_isPart p0 = some res) : MetI l yX4_isPart cX4_isPart 1 .boolean ({ frames := 1, cells := 0, slots := 0, locals := 22 } : Room) [.int p0] G (ty5 cI cJ cZ cO cA) e (([] : va_W)) (([] : va_W)) sz res := by
  refine g_body (QQ := fun A => (qI G (ty5 cI cJ cZ cO cA) A (([] : va_W)) res)) (own := RX4) (by decide) rfl (Nat.le_of_ble_eq_true rfl) ?_
  intro p ev s m below meth c A ls hx hb hr hml hown hts hlk hA hP hD hS hK hE hl
  have hl : lv_has ls 1 [(0, .int p0)] := hl
  show W p l ev ({ frames := 1, cells := 0, slots := 0, locals := 22 } : Room) s m ([.int p0] : List Value).toArray below meth c s.heap [] 0 0 (MQ below (qI G (ty5 cI cJ cZ cO cA) A (([] : va_W)) res) ([.int p0] : List Value).toArray s 0 0 A) (F0 m 0 ls [])
  have h := hf
  unfold f_X4_isPart at h
  refine lv_iload_n hx hb dX4_isPart_0 rfl (lv_at hl 0 rfl) ?_
  refine lv_iconst (v := 0) hx hb dX4_isPart_1 (by decide) ?_
  refine lv_iconst (v := 2) hx hb dX4_isPart_2 (by decide) ?_
  obtain ⟨q1, hq1, h⟩ := bd_s h
  refine kSi (n := 3) (As := [.int p0, .int 0, .int 2]) (rest := []) hx hb hml hown hts (c_X4_isWithin l G cI cJ cZ cO cA e _ p0 0 2 hq1) (tb_S kw187 kw188 kw1 kw189) rfl rfl (by decide +kernel) ⟨Nat.le_of_ble_eq_true rfl, Nat.le_of_ble_eq_true rfl⟩ hK hP hD hS hA hE rfl rfl hl.1 (Nat.le_of_ble_eq_true rfl) ⟨Nat.zero_le _, Nat.zero_le _⟩ dX4_isPart_3 (fun H locs hP hD hS => ?_)
  obtain ⟨g2, h⟩ := gd_s h
  rw [← Option.some.inj h]
  exact kri hx hb hr hlk (zb_s g2) rfl hP hD hS hK dX4_isPart_6

/-! X2_unitPart -/
def f_X2_unitPart (pr : Nat → Int32) (p0 : Int32) (p1 : Int32) : Option (Int32) :=
  (f_X2_property pr p0 3).bind (fun q1 => (f_X2_property pr p0 2).bind (fun q2 => gd (ib q2 4) ((f_X2_property pr p0 2).bind (fun q4 => gd (ib q4 4) (if p1 = 0 then (some (q1 * (dX q2.toNatClampNeg))) else (if p1 = 1 then (some (q1 * (dY q4.toNatClampNeg))) else ((f_X2_property pr p0 0).bind (fun q8 => (f_X2_property pr p0 1).bind (fun q9 => some (q1 * ((q8 * (dY q4.toNatClampNeg)) - (q9 * (dX q2.toNatClampNeg)))))))))))))

set_option maxHeartbeats 4000000 in
set_option maxRecDepth 100000 in
theorem c_X2_unitPart (l : Launch) (G : va_G) (cI cJ cZ cO cA : ClassId) (e : Nat × Nat) (aS : Nat → Nat) (sz : Nat) (pr : Nat → Int32) (pu : Nat → Int32) (ta : Nat → Int32) (se : Nat → Int32) (qu : Nat → Int32) (im : Nat → Int32) (su : Nat → Int64) (tc : Int32) (sc : Int32) (rc : Int32) (cn : Int32) (so : Int32) (p0 : Int32) (p1 : Int32) {res : Int32} (hf : f_X2_unitPart pr p0 p1 = some res) : MetI l yX2_unitPart cX2_unitPart 6 .int ({ frames := 1, cells := 0, slots := 0, locals := 22 } : Room) [.ref (aS 0), .int p0, .int p1] G (ty5 cI cJ cZ cO cA) e (wS cI cJ aS pr pu ta se qu im su tc sc rc cn so ++ ([] : va_W)) (wS cI cJ aS pr pu ta se qu im su tc sc rc cn so ++ ([] : va_W)) sz res := by
  refine g_body (QQ := fun A => (qI G (ty5 cI cJ cZ cO cA) A (wS cI cJ aS pr pu ta se qu im su tc sc rc cn so ++ ([] : va_W)) res)) (own := RX2) (by decide) rfl (Nat.le_of_ble_eq_true rfl) ?_
  intro p ev s m below meth c A ls hx hb hr hml hown hts hlk hA hP hD hS hK hE hl
  have hl : lv_has ls 6 [(0, .ref (aS 0)), (1, .int p0), (2, .int p1)] := hl
  show W p l ev ({ frames := 1, cells := 0, slots := 0, locals := 22 } : Room) s m ([.ref (aS 0), .int p0, .int p1] : List Value).toArray below meth c s.heap [] 0 0 (MQ below (qI G (ty5 cI cJ cZ cO cA) A (wS cI cJ aS pr pu ta se qu im su tc sc rc cn so ++ ([] : va_W)) res) ([.ref (aS 0), .int p0, .int p1] : List Value).toArray s 0 0 A) (F0 m 0 ls [])
  have h := hf
  unfold f_X2_unitPart at h
  refine lv_aload_n hx hb dX2_unitPart_0 rfl (lv_at hl 0 rfl) ?_
  refine lv_iload_n hx hb dX2_unitPart_1 rfl (lv_at hl 1 rfl) ?_
  refine lv_iconst (v := 3) hx hb dX2_unitPart_2 (by decide) ?_
  obtain ⟨q1, hq1, h⟩ := bd_s h
  refine kVi (n := 2) (C := RX2) (ws' := wS cI cJ aS pr pu ta se qu im su tc sc rc cn so ++ ([] : va_W)) (As := [.int p0, .int 3]) (rest := []) hx hb hml hown hts (c_X2_property l G cI cJ cZ cO cA e aS _ pr pu ta se qu im su tc sc rc cn so p0 3 hq1) (tb_V kw240 kw224 kw225 kw2 kw226) rfl rfl (by decide +kernel) ⟨Nat.le_of_ble_eq_true rfl, Nat.le_of_ble_eq_true rfl⟩ hK hP hD hS hA hE 0 rfl rfl [0, 1, 2, 3, 4, 5, 6, 7] [] rfl rfl rfl 8 ⟨rfl, rfl⟩ (by decide +kernel) (by decide +kernel) rfl rfl hl.1 (Nat.le_of_ble_eq_true rfl) ⟨Nat.zero_le _, Nat.zero_le _⟩ dX2_unitPart_3 (fun H locs hP hD hS => ?_)
  refine lv_istore_n (lv' := [(3, .int q1), (0, .ref (aS 0)), (1, .int p0), (2, .int p1)]) hx hb dX2_unitPart_6 rfl hl (by decide) rfl (fun ls hl => ?_)
  refine va_getsN hx hb hE.2.1 hS hown (hE.nw nk260) (fun _ h9 => h9) dX2_unitPart_7 ?_
  refine lv_aload_n hx hb dX2_unitPart_10 rfl (lv_at hl 1 rfl) ?_
  refine lv_iload_n hx hb dX2_unitPart_11 rfl (lv_at hl 2 rfl) ?_
  refine lv_iconst (v := 2) hx hb dX2_unitPart_12 (by decide) ?_
  obtain ⟨q2, hq2, h⟩ := bd_s h
  refine kVi (n := 2) (C := RX2) (ws' := wS cI cJ aS pr pu ta se qu im su tc sc rc cn so ++ ([] : va_W)) (As := [.int p0, .int 2]) (rest := [.ref e.1]) hx hb hml hown hts (c_X2_property l G cI cJ cZ cO cA e aS _ pr pu ta se qu im su tc sc rc cn so p0 2 hq2) (tb_V kw240 kw224 kw225 kw2 kw226) rfl rfl (by decide +kernel) ⟨Nat.le_of_ble_eq_true rfl, Nat.le_of_ble_eq_true rfl⟩ hK hP hD hS hA hE 0 rfl rfl [0, 1, 2, 3, 4, 5, 6, 7] [] rfl rfl rfl 8 ⟨rfl, rfl⟩ (by decide +kernel) (by decide +kernel) rfl rfl hl.1 (Nat.le_of_ble_eq_true rfl) ⟨Nat.zero_le _, Nat.zero_le _⟩ dX2_unitPart_13 (fun H locs hP hD hS => ?_)
  obtain ⟨g3, h⟩ := gd_s h
  refine va_ti (v := .int (dX q2.toNatClampNeg)) hx hb hE.2.2.2.1 hS (ib_in g3) rfl dX2_unitPart_16 ?_
  refine lv_istore (lv' := [(4, .int (dX q2.toNatClampNeg)), (3, .int q1), (0, .ref (aS 0)), (1, .int p0), (2, .int p1)]) hx hb dX2_unitPart_17 hl (by decide) rfl (fun ls hl => ?_)
  refine va_getsN hx hb hE.2.2.1 hS hown (hE.nw nk262) (fun _ h9 => h9) dX2_unitPart_19 ?_
  refine lv_aload_n hx hb dX2_unitPart_22 rfl (lv_at hl 2 rfl) ?_
  refine lv_iload_n hx hb dX2_unitPart_23 rfl (lv_at hl 3 rfl) ?_
  refine lv_iconst (v := 2) hx hb dX2_unitPart_24 (by decide) ?_
  obtain ⟨q4, hq4, h⟩ := bd_s h
  refine kVi (n := 2) (C := RX2) (ws' := wS cI cJ aS pr pu ta se qu im su tc sc rc cn so ++ ([] : va_W)) (As := [.int p0, .int 2]) (rest := [.ref e.2]) hx hb hml hown hts (c_X2_property l G cI cJ cZ cO cA e aS _ pr pu ta se qu im su tc sc rc cn so p0 2 hq4) (tb_V kw240 kw224 kw225 kw2 kw226) rfl rfl (by decide +kernel) ⟨Nat.le_of_ble_eq_true rfl, Nat.le_of_ble_eq_true rfl⟩ hK hP hD hS hA hE 0 rfl rfl [0, 1, 2, 3, 4, 5, 6, 7] [] rfl rfl rfl 8 ⟨rfl, rfl⟩ (by decide +kernel) (by decide +kernel) rfl rfl hl.1 (Nat.le_of_ble_eq_true rfl) ⟨Nat.zero_le _, Nat.zero_le _⟩ dX2_unitPart_25 (fun H locs hP hD hS => ?_)
  obtain ⟨g5, h⟩ := gd_s h
  refine va_ti (v := .int (dY q4.toNatClampNeg)) hx hb hE.2.2.2.2 hS (ib_in g5) rfl dX2_unitPart_28 ?_
  refine lv_istore (lv' := [(5, .int (dY q4.toNatClampNeg)), (4, .int (dX q2.toNatClampNeg)), (3, .int q1), (0, .ref (aS 0)), (1, .int p0), (2, .int p1)]) hx hb dX2_unitPart_29 hl (by decide) rfl (fun ls hl => ?_)
  refine lv_iload_n hx hb dX2_unitPart_31 rfl (lv_at hl 5 rfl) ?_
  refine lv_if_ne (tgt := 40) hx hb dX2_unitPart_32 (by decide) (fun c6 => ?_) (fun c6 => ?_)
  · replace h := (if_neg c6).symm.trans h
    refine lv_iload_n hx hb dX2_unitPart_40 rfl (lv_at hl 5 rfl) ?_
    refine lv_iconst (v := 1) hx hb dX2_unitPart_41 (by decide) ?_
    refine lv_icmp_ne (tgt := 50) hx hb dX2_unitPart_42 (by decide) (fun c7 => ?_) (fun c7 => ?_)
    · replace h := (if_neg c7).symm.trans h
      refine lv_iload_n hx hb dX2_unitPart_50 rfl (lv_at hl 2 rfl) ?_
      refine lv_aload_n hx hb dX2_unitPart_51 rfl (lv_at hl 3 rfl) ?_
      refine lv_iload_n hx hb dX2_unitPart_52 rfl (lv_at hl 4 rfl) ?_
      refine lv_iconst (v := 0) hx hb dX2_unitPart_53 (by decide) ?_
      obtain ⟨q8, hq8, h⟩ := bd_s h
      refine kVi (n := 2) (C := RX2) (ws' := wS cI cJ aS pr pu ta se qu im su tc sc rc cn so ++ ([] : va_W)) (As := [.int p0, .int 0]) (rest := [.int q1]) hx hb hml hown hts (c_X2_property l G cI cJ cZ cO cA e aS _ pr pu ta se qu im su tc sc rc cn so p0 0 hq8) (tb_V kw240 kw224 kw225 kw2 kw226) rfl rfl (by decide +kernel) ⟨Nat.le_of_ble_eq_true rfl, Nat.le_of_ble_eq_true rfl⟩ hK hP hD hS hA hE 0 rfl rfl [0, 1, 2, 3, 4, 5, 6, 7] [] rfl rfl rfl 8 ⟨rfl, rfl⟩ (by decide +kernel) (by decide +kernel) rfl rfl hl.1 (Nat.le_of_ble_eq_true rfl) ⟨Nat.zero_le _, Nat.zero_le _⟩ dX2_unitPart_54 (fun H locs hP hD hS => ?_)
      refine lv_iload hx hb dX2_unitPart_57 (lv_at hl 0 rfl) ?_
      refine lv_imul hx hb dX2_unitPart_59 ?_
      refine lv_aload_n hx hb dX2_unitPart_60 rfl (lv_at hl 3 rfl) ?_
      refine lv_iload_n hx hb dX2_unitPart_61 rfl (lv_at hl 4 rfl) ?_
      refine lv_iconst (v := 1) hx hb dX2_unitPart_62 (by decide) ?_
      obtain ⟨q9, hq9, h⟩ := bd_s h
      refine kVi (n := 2) (C := RX2) (ws' := wS cI cJ aS pr pu ta se qu im su tc sc rc cn so ++ ([] : va_W)) (As := [.int p0, .int 1]) (rest := [.int (q8 * (dY q4.toNatClampNeg)), .int q1]) hx hb hml hown hts (c_X2_property l G cI cJ cZ cO cA e aS _ pr pu ta se qu im su tc sc rc cn so p0 1 hq9) (tb_V kw240 kw224 kw225 kw2 kw226) rfl rfl (by decide +kernel) ⟨Nat.le_of_ble_eq_true rfl, Nat.le_of_ble_eq_true rfl⟩ hK hP hD hS hA hE 0 rfl rfl [0, 1, 2, 3, 4, 5, 6, 7] [] rfl rfl rfl 8 ⟨rfl, rfl⟩ (by decide +kernel) (by decide +kernel) rfl rfl hl.1 (Nat.le_of_ble_eq_true rfl) ⟨Nat.zero_le _, Nat.zero_le _⟩ dX2_unitPart_63 (fun H locs hP hD hS => ?_)
      refine lv_iload hx hb dX2_unitPart_66 (lv_at hl 1 rfl) ?_
      refine lv_imul hx hb dX2_unitPart_68 ?_
      refine lv_isub hx hb dX2_unitPart_69 ?_
      refine lv_imul hx hb dX2_unitPart_70 ?_
      rw [← Option.some.inj h]
      exact kri hx hb hr hlk rfl rfl hP hD hS hK dX2_unitPart_71
    · replace h := (if_pos c7).symm.trans h
      refine lv_iload_n hx hb dX2_unitPart_45 rfl (lv_at hl 2 rfl) ?_
      refine lv_iload hx hb dX2_unitPart_46 (lv_at hl 0 rfl) ?_
      refine lv_imul hx hb dX2_unitPart_48 ?_
      rw [← Option.some.inj h]
      exact kri hx hb hr hlk rfl rfl hP hD hS hK dX2_unitPart_49
  · replace h := (if_pos c6).symm.trans h
    refine lv_iload_n hx hb dX2_unitPart_35 rfl (lv_at hl 2 rfl) ?_
    refine lv_iload hx hb dX2_unitPart_36 (lv_at hl 1 rfl) ?_
    refine lv_imul hx hb dX2_unitPart_38 ?_
    rw [← Option.some.inj h]
    exact kri hx hb hr hlk rfl rfl hP hD hS hK dX2_unitPart_39

/-! X4_unit -/
def f_X4_unit_j15 : Option (Int32) :=
  some (-2000000001)
def f_X4_unit (pr : Nat → Int32) (tc : Int32) (p0 : Int32) (p1 : Int32) : Option (Int32) :=
  (f_X4_isThruster tc p0).bind (fun q1 => if q1 = 0 then (f_X4_unit_j15) else ((f_X4_isPart p1).bind (fun q4 => if q4 = 0 then (f_X4_unit_j15) else ((f_X2_unitPart pr p0 p1).bind (fun q6 => some q6)))))

set_option maxHeartbeats 4000000 in
set_option maxRecDepth 100000 in
theorem c_X4_unit (l : Launch) (G : va_G) (cI cJ cZ cO cA : ClassId) (e : Nat × Nat) (aT : Nat) (aS : Nat → Nat) (aH : Nat → Nat) (aE : Nat → Nat) (aX : Nat → Nat) (sz : Nat) (pr : Nat → Int32) (pu : Nat → Int32) (ta : Nat → Int32) (se : Nat → Int32) (qu : Nat → Int32) (im : Nat → Int32) (su : Nat → Int64) (tc : Int32) (sc : Int32) (rc : Int32) (cn : Int32) (so : Int32) (p0 : Int32) (p1 : Int32) {res : Int32} (hf : f_X4_unit pr tc p0 p1 = some res) : MetI l yX4_unit cX4_unit 3 .int ({ frames := 2, cells := 0, slots := 0, locals := 47 } : Room) [.ref aT, .int p0, .int p1] G (ty5 cI cJ cZ cO cA) e (wT aT (aS 0) (aH 0) (aE 0) (aX 0) ++ (wS cI cJ aS pr pu ta se qu im su tc sc rc cn so ++ ([] : va_W))) (wT aT (aS 0) (aH 0) (aE 0) (aX 0) ++ (wS cI cJ aS pr pu ta se qu im su tc sc rc cn so ++ ([] : va_W))) sz res := by
  refine g_body (QQ := fun A => (qI G (ty5 cI cJ cZ cO cA) A (wT aT (aS 0) (aH 0) (aE 0) (aX 0) ++ (wS cI cJ aS pr pu ta se qu im su tc sc rc cn so ++ ([] : va_W))) res)) (own := RX4) (by decide) rfl (Nat.le_of_ble_eq_true rfl) ?_
  intro p ev s m below meth c A ls hx hb hr hml hown hts hlk hA hP hD hS hK hE hl
  have hl : lv_has ls 3 [(0, .ref aT), (1, .int p0), (2, .int p1)] := hl
  show W p l ev ({ frames := 2, cells := 0, slots := 0, locals := 47 } : Room) s m ([.ref aT, .int p0, .int p1] : List Value).toArray below meth c s.heap [] 0 0 (MQ below (qI G (ty5 cI cJ cZ cO cA) A (wT aT (aS 0) (aH 0) (aE 0) (aX 0) ++ (wS cI cJ aS pr pu ta se qu im su tc sc rc cn so ++ ([] : va_W))) res) ([.ref aT, .int p0, .int p1] : List Value).toArray s 0 0 A) (F0 m 0 ls [])
  have h := hf
  unfold f_X4_unit at h
  refine lv_aload_n hx hb dX4_unit_0 rfl (lv_at hl 0 rfl) ?_
  refine lv_iload_n hx hb dX4_unit_1 rfl (lv_at hl 1 rfl) ?_
  obtain ⟨q1, hq1, h⟩ := bd_s h
  refine kVi (n := 1) (C := RX4) (ws' := wT aT (aS 0) (aH 0) (aE 0) (aX 0) ++ (wS cI cJ aS pr pu ta se qu im su tc sc rc cn so ++ ([] : va_W))) (As := [.int p0]) (rest := []) hx hb hml hown hts (c_X4_isThruster l G cI cJ cZ cO cA e aT aS aH aE aX _ pr pu ta se qu im su tc sc rc cn so p0 hq1) (tb_V kw219 kw221 kv0 kw1 kw222) rfl rfl (by decide +kernel) ⟨Nat.le_of_ble_eq_true rfl, Nat.le_of_ble_eq_true rfl⟩ hK hP hD hS hA hE 0 rfl rfl [0, 1, 2, 3, 4, 5, 6, 7, 8] [] rfl rfl rfl 9 ⟨rfl, rfl⟩ (by decide +kernel) (by decide +kernel) rfl rfl hl.1 (Nat.le_of_ble_eq_true rfl) ⟨Nat.zero_le _, Nat.zero_le _⟩ dX4_unit_2 (fun H locs hP hD hS => ?_)
  have hJ3 : ∀ (H : Heap) (locs : List Loc) (ls : Array Slot), f_X4_unit_j15 = some res → va_P G vwCl (wT aT (aS 0) (aH 0) (aE 0) (aX 0) ++ (wS cI cJ aS pr pu ta se qu im su tc sc rc cn so ++ ([] : va_W))) H → va_D A (wT aT (aS 0) (aH 0) (aE 0) (aX 0) ++ (wS cI cJ aS pr pu ta se qu im su tc sc rc cn so ++ ([] : va_W))) → va_S A s.heap H locs → lv_has ls 3 [] → W p l ev ({ frames := 2, cells := 0, slots := 0, locals := 47 } : Room) s m ([.ref aT, .int p0, .int p1] : List Value).toArray below meth c H locs 0 0 (MQ below (qI G (ty5 cI cJ cZ cO cA) A (wT aT (aS 0) (aH 0) (aE 0) (aX 0) ++ (wS cI cJ aS pr pu ta se qu im su tc sc rc cn so ++ ([] : va_W))) res) ([.ref aT, .int p0, .int p1] : List Value).toArray s 0 0 A) (F0 m 15 ls []) := by
    intro H locs ls h hP hD hS hl
    unfold f_X4_unit_j15 at h
    refine lv_ldc (v := (-2000000001)) hx hb hown (hts _ kw190) dX4_unit_15 ?_
    rw [← Option.some.inj h]
    exact kri hx hb hr hlk rfl rfl hP hD hS hK dX4_unit_17
  refine lv_if_eq (tgt := 15) hx hb dX4_unit_5 (by decide) (fun c2 => ?_) (fun c2 => ?_)
  · replace h := (if_pos c2).symm.trans h
    exact hJ3  _ _ _ h hP hD hS (lv_sub hl [] rfl)
  · replace h := (if_neg c2).symm.trans h
    refine lv_iload_n hx hb dX4_unit_8 rfl (lv_at hl 2 rfl) ?_
    obtain ⟨q4, hq4, h⟩ := bd_s h
    refine kSi (n := 1) (As := [.int p1]) (rest := []) hx hb hml hown hts (c_X4_isPart l G cI cJ cZ cO cA e _ p1 hq4) (tb_S kw253 kw254 kw1 kw255) rfl rfl (by decide +kernel) ⟨Nat.le_of_ble_eq_true rfl, Nat.le_of_ble_eq_true rfl⟩ hK hP hD hS hA hE rfl rfl hl.1 (Nat.le_of_ble_eq_true rfl) ⟨Nat.zero_le _, Nat.zero_le _⟩ dX4_unit_9 (fun H locs hP hD hS => ?_)
    refine lv_if_ne (tgt := 18) hx hb dX4_unit_12 (by decide) (fun c5 => ?_) (fun c5 => ?_)
    · replace h := (if_neg c5).symm.trans h
      refine lv_aload_n hx hb dX4_unit_18 rfl (lv_at hl 0 rfl) ?_
      refine va_get (D := G) (ci := 4) (v := .ref (aS 0)) (C := RX4) (T := TX4) (N := 4) hx hb hts uX4 hown hK hP 0 rfl rfl 0 (by decide) (hts _ kw167) (fun _ h9 => h9) rfl dX4_unit_19 ?_
      refine lv_iload_n hx hb dX4_unit_22 rfl (lv_at hl 1 rfl) ?_
      refine lv_iload_n hx hb dX4_unit_23 rfl (lv_at hl 2 rfl) ?_
      obtain ⟨q6, hq6, h⟩ := bd_s h
      refine kVi (n := 2) (C := RX2) (ws' := wT aT (aS 0) (aH 0) (aE 0) (aX 0) ++ (wS cI cJ aS pr pu ta se qu im su tc sc rc cn so ++ ([] : va_W))) (As := [.int p0, .int p1]) (rest := []) hx hb hml hown hts (c_X2_unitPart l G cI cJ cZ cO cA e aS _ pr pu ta se qu im su tc sc rc cn so p0 p1 hq6) (tb_V kw256 kw257 kw258 kw2 kw259) rfl rfl (by decide +kernel) ⟨Nat.le_of_ble_eq_true rfl, Nat.le_of_ble_eq_true rfl⟩ hK hP hD hS hA hE 1 rfl rfl [1, 2, 3, 4, 5, 6, 7, 8] [0] rfl rfl rfl 9 ⟨rfl, rfl⟩ (by decide +kernel) (by decide +kernel) rfl rfl hl.1 (Nat.le_of_ble_eq_true rfl) ⟨Nat.zero_le _, Nat.zero_le _⟩ dX4_unit_24 (fun H locs hP hD hS => ?_)
      rw [← Option.some.inj h]
      exact kri hx hb hr hlk rfl rfl hP hD hS hK dX4_unit_27
    · replace h := (if_pos c5).symm.trans h
      exact hJ3  _ _ _ h hP hD hS (lv_sub hl [] rfl)

/-! X2_runningMask -/
def f_X2_runningMask_j28 (v2 : Int32) (t0 : Int32) (t1 : Int32) : Option ((Int32 × Int32) ⊕ (Int32)) :=
  some (Sum.inl ((t1 ||| t0), (v2 + 1)))
def f_X2_runningMask_b4 (pr : Nat → Int32) (ta : Nat → Int32) (tc : Int32) (z1 : Int32 × Int32) : Option ((Int32 × Int32) ⊕ (Int32)) :=
  if tc ≤ z1.2 then (some (Sum.inr z1.1)) else ((f_X2_isRunning pr ta z1.2).bind (fun q3 => if q3 = 0 then (f_X2_runningMask_j28 z1.2 0 z1.1) else (f_X2_runningMask_j28 z1.2 (1 <<< (z1.2 &&& 31)) z1.1)))
def f_X2_runningMask (pr : Nat → Int32) (ta : Nat → Int32) (tc : Int32) : Option (Int32) :=
  (lp (f_X2_runningMask_b4 pr ta tc) 1000 (0, 0)).bind (fun q1 => some q1)

set_option maxHeartbeats 4000000 in
set_option maxRecDepth 100000 in
theorem c_X2_runningMask (l : Launch) (G : va_G) (cI cJ cZ cO cA : ClassId) (e : Nat × Nat) (aS : Nat → Nat) (sz : Nat) (pr : Nat → Int32) (pu : Nat → Int32) (ta : Nat → Int32) (se : Nat → Int32) (qu : Nat → Int32) (im : Nat → Int32) (su : Nat → Int64) (tc : Int32) (sc : Int32) (rc : Int32) (cn : Int32) (so : Int32) {res : Int32} (hf : f_X2_runningMask pr ta tc = some res) : MetI l yX2_runningMask cX2_runningMask 3 .int ({ frames := 3, cells := 0, slots := 0, locals := 64 } : Room) [.ref (aS 0)] G (ty5 cI cJ cZ cO cA) e (wS cI cJ aS pr pu ta se qu im su tc sc rc cn so ++ ([] : va_W)) (wS cI cJ aS pr pu ta se qu im su tc sc rc cn so ++ ([] : va_W)) sz res := by
  refine g_body (QQ := fun A => (qI G (ty5 cI cJ cZ cO cA) A (wS cI cJ aS pr pu ta se qu im su tc sc rc cn so ++ ([] : va_W)) res)) (own := RX2) (by decide) rfl (Nat.le_of_ble_eq_true rfl) ?_
  intro p ev s m below meth c A ls hx hb hr hml hown hts hlk hA hP hD hS hK hE hl
  have hl : lv_has ls 3 [(0, .ref (aS 0))] := hl
  show W p l ev ({ frames := 3, cells := 0, slots := 0, locals := 64 } : Room) s m ([.ref (aS 0)] : List Value).toArray below meth c s.heap [] 0 0 (MQ below (qI G (ty5 cI cJ cZ cO cA) A (wS cI cJ aS pr pu ta se qu im su tc sc rc cn so ++ ([] : va_W)) res) ([.ref (aS 0)] : List Value).toArray s 0 0 A) (F0 m 0 ls [])
  have h := hf
  unfold f_X2_runningMask at h
  refine lv_iconst (v := 0) hx hb dX2_runningMask_0 (by decide) ?_
  refine lv_istore_n (lv' := [(1, .int 0), (0, .ref (aS 0))]) hx hb dX2_runningMask_1 rfl hl (by decide) rfl (fun ls hl => ?_)
  refine lv_iconst (v := 0) hx hb dX2_runningMask_2 (by decide) ?_
  refine lv_istore_n (lv' := [(2, .int 0), (1, .int 0), (0, .ref (aS 0))]) hx hb dX2_runningMask_3 rfl hl (by decide) rfl (fun ls hl => ?_)
  obtain ⟨q1, hq1, h⟩ := bd_s h
  have hX1_0 : ∀ (x1 : Int32) (H : Heap) (locs : List Loc) (ls : Array Slot), x1 = q1 → va_P G vwCl (wS cI cJ aS pr pu ta se qu im su tc sc rc cn so ++ ([] : va_W)) H → va_D A (wS cI cJ aS pr pu ta se qu im su tc sc rc cn so ++ ([] : va_W)) → va_S A s.heap H locs → lv_has ls 3 [(1, .int x1)] → W p l ev ({ frames := 3, cells := 0, slots := 0, locals := 64 } : Room) s m ([.ref (aS 0)] : List Value).toArray below meth c H locs 0 0 (MQ below (qI G (ty5 cI cJ cZ cO cA) A (wS cI cJ aS pr pu ta se qu im su tc sc rc cn so ++ ([] : va_W)) res) ([.ref (aS 0)] : List Value).toArray s 0 0 A) (F0 m 36 ls []) := by
    intro x1 H locs ls e1 hP hD hS hl
    replace e1 := e1.symm
    subst e1
    refine lv_iload_n hx hb dX2_runningMask_36 rfl (lv_at hl 0 rfl) ?_
    rw [← Option.some.inj h]
    exact kri hx hb hr hlk rfl rfl hP hD hS hK dX2_runningMask_37
  have hL1 : ∀ (n : Nat) (z1 : Int32 × Int32) (H : Heap) (locs : List Loc) (ls : Array Slot), lp (f_X2_runningMask_b4 pr ta tc) n z1 = some q1 → va_P G vwCl (wS cI cJ aS pr pu ta se qu im su tc sc rc cn so ++ ([] : va_W)) H → va_D A (wS cI cJ aS pr pu ta se qu im su tc sc rc cn so ++ ([] : va_W)) → va_S A s.heap H locs → lv_has ls 3 [(0, .ref (aS 0)), (1, .int z1.1), (2, .int z1.2)] → W p l ev ({ frames := 3, cells := 0, slots := 0, locals := 64 } : Room) s m ([.ref (aS 0)] : List Value).toArray below meth c H locs 0 0 (MQ below (qI G (ty5 cI cJ cZ cO cA) A (wS cI cJ aS pr pu ta se qu im su tc sc rc cn so ++ ([] : va_W)) res) ([.ref (aS 0)] : List Value).toArray s 0 0 A) (F0 m 4 ls []) := by
    intro n
    induction n with
    | zero => intro z1 H locs ls h; cases h
    | succ n ih1 =>
      intro z1 H locs ls h hP hD hS hl
      obtain ⟨o1, h, h1⟩ := lp_s h
      unfold f_X2_runningMask_b4 at h
      refine lv_iload_n hx hb dX2_runningMask_4 rfl (lv_at hl 2 rfl) ?_
      refine lv_aload_n hx hb dX2_runningMask_5 rfl (lv_at hl 0 rfl) ?_
      refine va_get (D := G) (ci := 2) (v := .int tc) (C := RX2) (T := TX2) (N := 12) hx hb hts uX2 hown hK hP 0 rfl rfl 7 (by decide) (hts _ kw43) (fun _ h9 => h9) rfl dX2_runningMask_6 ?_
      refine lv_icmp_ge (tgt := 36) hx hb dX2_runningMask_9 (by decide) (fun c2 => ?_) (fun c2 => ?_)
      · replace h := (if_pos c2).symm.trans h
        rw [← Option.some.inj h] at h1
        exact hX1_0 z1.1 _ _ _ (lp_x h1) hP hD hS (lv_sub hl [1] rfl)
      · replace h := (if_neg c2).symm.trans h
        refine lv_iload_n hx hb dX2_runningMask_12 rfl (lv_at hl 1 rfl) ?_
        refine lv_aload_n hx hb dX2_runningMask_13 rfl (lv_at hl 0 rfl) ?_
        refine lv_iload_n hx hb dX2_runningMask_14 rfl (lv_at hl 2 rfl) ?_
        obtain ⟨q3, hq3, h⟩ := bd_s h
        refine kVi (n := 1) (C := RX2) (ws' := wS cI cJ aS pr pu ta se qu im su tc sc rc cn so ++ ([] : va_W)) (As := [.int z1.2]) (rest := [.int z1.1]) hx hb hml hown hts (c_X2_isRunning l G cI cJ cZ cO cA e aS _ pr pu ta se qu im su tc sc rc cn so z1.2 hq3) (tb_V kw276 kw246 kw247 kw2 kw248) rfl rfl (by decide +kernel) ⟨Nat.le_of_ble_eq_true rfl, Nat.le_of_ble_eq_true rfl⟩ hK hP hD hS hA hE 0 rfl rfl [0, 1, 2, 3, 4, 5, 6, 7] [] rfl rfl rfl 8 ⟨rfl, rfl⟩ (by decide +kernel) (by decide +kernel) rfl rfl hl.1 (Nat.le_of_ble_eq_true rfl) ⟨Nat.zero_le _, Nat.zero_le _⟩ dX2_runningMask_15 (fun H locs hP hD hS => ?_)
        have hJ5 : ∀ (v2_5 : Int32) (t0_5 : Int32) (t1_5 : Int32) (H : Heap) (locs : List Loc) (ls : Array Slot), f_X2_runningMask_j28 v2_5 t0_5 t1_5 = some o1 → va_P G vwCl (wS cI cJ aS pr pu ta se qu im su tc sc rc cn so ++ ([] : va_W)) H → va_D A (wS cI cJ aS pr pu ta se qu im su tc sc rc cn so ++ ([] : va_W)) → va_S A s.heap H locs → lv_has ls 3 [(0, .ref (aS 0)), (2, .int v2_5)] → W p l ev ({ frames := 3, cells := 0, slots := 0, locals := 64 } : Room) s m ([.ref (aS 0)] : List Value).toArray below meth c H locs 0 0 (MQ below (qI G (ty5 cI cJ cZ cO cA) A (wS cI cJ aS pr pu ta se qu im su tc sc rc cn so ++ ([] : va_W)) res) ([.ref (aS 0)] : List Value).toArray s 0 0 A) (F0 m 28 ls [.int t0_5, .int t1_5]) := by
          intro v2_5 t0_5 t1_5 H locs ls h hP hD hS hl
          unfold f_X2_runningMask_j28 at h
          refine lv_ior hx hb dX2_runningMask_28 ?_
          refine lv_istore_n (lv' := [(1, .int (t1_5 ||| t0_5)), (0, .ref (aS 0)), (2, .int v2_5)]) hx hb dX2_runningMask_29 rfl hl (by decide) rfl (fun ls hl => ?_)
          refine lv_iinc (v := (v2_5 + 1)) (lv' := [(2, .int (v2_5 + 1)), (1, .int (t1_5 ||| t0_5)), (0, .ref (aS 0))]) hx hb dX2_runningMask_30 hl (k := 2) rfl rfl (by decide) rfl (fun ls hl => ?_)
          refine lv_goto (tgt := 4) hx hb dX2_runningMask_33 (by decide) ?_
          rw [← Option.some.inj h] at h1
          exact ih1 ((t1_5 ||| t0_5), (v2_5 + 1)) _ _ _ (lp_b h1) hP hD hS (lv_sub hl [2, 1, 0] rfl)
        refine lv_if_eq (tgt := 27) hx hb dX2_runningMask_18 (by decide) (fun c4 => ?_) (fun c4 => ?_)
        · replace h := (if_pos c4).symm.trans h
          refine lv_iconst (v := 0) hx hb dX2_runningMask_27 (by decide) ?_
          exact hJ5 z1.2 0 z1.1 _ _ _ h hP hD hS (lv_sub hl [0, 2] rfl)
        · replace h := (if_neg c4).symm.trans h
          refine lv_iconst (v := 1) hx hb dX2_runningMask_21 (by decide) ?_
          refine lv_iload_n hx hb dX2_runningMask_22 rfl (lv_at hl 2 rfl) ?_
          refine lv_ishl hx hb dX2_runningMask_23 ?_
          refine lv_goto (tgt := 28) hx hb dX2_runningMask_24 (by decide) ?_
          exact hJ5 z1.2 (1 <<< (z1.2 &&& 31)) z1.1 _ _ _ h hP hD hS (lv_sub hl [0, 2] rfl)
  exact hL1 _ (0, 0) _ _ _ hq1 hP hD hS (lv_sub hl [2, 1, 0] rfl)

/-! X2_priceOfTick -/
def f_X2_priceOfTick_j34 (t0 : Int32) (t1 : Int32) : Option (Int32) :=
  some (t1 * t0)
def f_X2_priceOfTick (pr : Nat → Int32) (ta : Nat → Int32) (p0 : Int32) : Option (Int32) :=
  (f_X2_property pr p0 4).bind (fun q1 => gd (ib (1 - q1) 2) ((f_X2_property pr p0 3).bind (fun q3 => (f_X2_fuelOf pr ta p0).bind (fun q4 => if (ta (1 - q1).toNatClampNeg) ≤ q4 then (f_X2_priceOfTick_j34 1 q3) else (f_X2_priceOfTick_j34 2 q3)))))

set_option maxHeartbeats 4000000 in
set_option maxRecDepth 100000 in
theorem c_X2_priceOfTick (l : Launch) (G : va_G) (cI cJ cZ cO cA : ClassId) (e : Nat × Nat) (aS : Nat → Nat) (sz : Nat) (pr : Nat → Int32) (pu : Nat → Int32) (ta : Nat → Int32) (se : Nat → Int32) (qu : Nat → Int32) (im : Nat → Int32) (su : Nat → Int64) (tc : Int32) (sc : Int32) (rc : Int32) (cn : Int32) (so : Int32) (p0 : Int32) {res : Int32} (hf : f_X2_priceOfTick pr ta p0 = some res) : MetI l yX2_priceOfTick cX2_priceOfTick 3 .int ({ frames := 2, cells := 0, slots := 0, locals := 43 } : Room) [.ref (aS 0), .int p0] G (ty5 cI cJ cZ cO cA) e (wS cI cJ aS pr pu ta se qu im su tc sc rc cn so ++ ([] : va_W)) (wS cI cJ aS pr pu ta se qu im su tc sc rc cn so ++ ([] : va_W)) sz res := by
  refine g_body (QQ := fun A => (qI G (ty5 cI cJ cZ cO cA) A (wS cI cJ aS pr pu ta se qu im su tc sc rc cn so ++ ([] : va_W)) res)) (own := RX2) (by decide) rfl (Nat.le_of_ble_eq_true rfl) ?_
  intro p ev s m below meth c A ls hx hb hr hml hown hts hlk hA hP hD hS hK hE hl
  have hl : lv_has ls 3 [(0, .ref (aS 0)), (1, .int p0)] := hl
  show W p l ev ({ frames := 2, cells := 0, slots := 0, locals := 43 } : Room) s m ([.ref (aS 0), .int p0] : List Value).toArray below meth c s.heap [] 0 0 (MQ below (qI G (ty5 cI cJ cZ cO cA) A (wS cI cJ aS pr pu ta se qu im su tc sc rc cn so ++ ([] : va_W)) res) ([.ref (aS 0), .int p0] : List Value).toArray s 0 0 A) (F0 m 0 ls [])
  have h := hf
  unfold f_X2_priceOfTick at h
  refine lv_aload_n hx hb dX2_priceOfTick_0 rfl (lv_at hl 0 rfl) ?_
  refine va_get (D := G) (ci := 2) (v := .ref (aS 3)) (C := RX2) (T := TX2) (N := 12) hx hb hts uX2 hown hK hP 0 rfl rfl 2 (by decide) (hts _ kw32) (fun _ h9 => h9) rfl dX2_priceOfTick_1 ?_
  refine lv_iconst (v := 1) hx hb dX2_priceOfTick_4 (by decide) ?_
  refine lv_aload_n hx hb dX2_priceOfTick_5 rfl (lv_at hl 0 rfl) ?_
  refine lv_iload_n hx hb dX2_priceOfTick_6 rfl (lv_at hl 1 rfl) ?_
  refine lv_iconst (v := 4) hx hb dX2_priceOfTick_7 (by decide) ?_
  obtain ⟨q1, hq1, h⟩ := bd_s h
  refine kVi (n := 2) (C := RX2) (ws' := wS cI cJ aS pr pu ta se qu im su tc sc rc cn so ++ ([] : va_W)) (As := [.int p0, .int 4]) (rest := [.int 1, .ref (aS 3)]) hx hb hml hown hts (c_X2_property l G cI cJ cZ cO cA e aS _ pr pu ta se qu im su tc sc rc cn so p0 4 hq1) (tb_V kw240 kw224 kw225 kw2 kw226) rfl rfl (by decide +kernel) ⟨Nat.le_of_ble_eq_true rfl, Nat.le_of_ble_eq_true rfl⟩ hK hP hD hS hA hE 0 rfl rfl [0, 1, 2, 3, 4, 5, 6, 7] [] rfl rfl rfl 8 ⟨rfl, rfl⟩ (by decide +kernel) (by decide +kernel) rfl rfl hl.1 (Nat.le_of_ble_eq_true rfl) ⟨Nat.zero_le _, Nat.zero_le _⟩ dX2_priceOfTick_8 (fun H locs hP hD hS => ?_)
  refine lv_isub hx hb dX2_priceOfTick_11 ?_
  obtain ⟨g2, h⟩ := gd_s h
  refine va_iald hx hb hK hP 3 0 rfl rfl (ib_in g2) dX2_priceOfTick_12 ?_
  refine lv_istore_n (lv' := [(2, .int (ta (1 - q1).toNatClampNeg)), (0, .ref (aS 0)), (1, .int p0)]) hx hb dX2_priceOfTick_13 rfl hl (by decide) rfl (fun ls hl => ?_)
  refine lv_aload_n hx hb dX2_priceOfTick_14 rfl (lv_at hl 1 rfl) ?_
  refine lv_iload_n hx hb dX2_priceOfTick_15 rfl (lv_at hl 2 rfl) ?_
  refine lv_iconst (v := 3) hx hb dX2_priceOfTick_16 (by decide) ?_
  obtain ⟨q3, hq3, h⟩ := bd_s h
  refine kVi (n := 2) (C := RX2) (ws' := wS cI cJ aS pr pu ta se qu im su tc sc rc cn so ++ ([] : va_W)) (As := [.int p0, .int 3]) (rest := []) hx hb hml hown hts (c_X2_property l G cI cJ cZ cO cA e aS _ pr pu ta se qu im su tc sc rc cn so p0 3 hq3) (tb_V kw240 kw224 kw225 kw2 kw226) rfl rfl (by decide +kernel) ⟨Nat.le_of_ble_eq_true rfl, Nat.le_of_ble_eq_true rfl⟩ hK hP hD hS hA hE 0 rfl rfl [0, 1, 2, 3, 4, 5, 6, 7] [] rfl rfl rfl 8 ⟨rfl, rfl⟩ (by decide +kernel) (by decide +kernel) rfl rfl hl.1 (Nat.le_of_ble_eq_true rfl) ⟨Nat.zero_le _, Nat.zero_le _⟩ dX2_priceOfTick_17 (fun H locs hP hD hS => ?_)
  refine lv_aload_n hx hb dX2_priceOfTick_20 rfl (lv_at hl 1 rfl) ?_
  refine lv_iload_n hx hb dX2_priceOfTick_21 rfl (lv_at hl 2 rfl) ?_
  obtain ⟨q4, hq4, h⟩ := bd_s h
  refine kVi (n := 1) (C := RX2) (ws' := wS cI cJ aS pr pu ta se qu im su tc sc rc cn so ++ ([] : va_W)) (As := [.int p0]) (rest := [.int q3]) hx hb hml hown hts (c_X2_fuelOf l G cI cJ cZ cO cA e aS _ pr pu ta se qu im su tc sc rc cn so p0 hq4) (tb_V kw241 kw242 kw243 kw2 kw244) rfl rfl (by decide +kernel) ⟨Nat.le_of_ble_eq_true rfl, Nat.le_of_ble_eq_true rfl⟩ hK hP hD hS hA hE 0 rfl rfl [0, 1, 2, 3, 4, 5, 6, 7] [] rfl rfl rfl 8 ⟨rfl, rfl⟩ (by decide +kernel) (by decide +kernel) rfl rfl hl.1 (Nat.le_of_ble_eq_true rfl) ⟨Nat.zero_le _, Nat.zero_le _⟩ dX2_priceOfTick_22 (fun H locs hP hD hS => ?_)
  refine lv_iload_n hx hb dX2_priceOfTick_25 rfl (lv_at hl 0 rfl) ?_
  have hJ6 : ∀ (t0_6 : Int32) (t1_6 : Int32) (H : Heap) (locs : List Loc) (ls : Array Slot), f_X2_priceOfTick_j34 t0_6 t1_6 = some res → va_P G vwCl (wS cI cJ aS pr pu ta se qu im su tc sc rc cn so ++ ([] : va_W)) H → va_D A (wS cI cJ aS pr pu ta se qu im su tc sc rc cn so ++ ([] : va_W)) → va_S A s.heap H locs → lv_has ls 3 [] → W p l ev ({ frames := 2, cells := 0, slots := 0, locals := 43 } : Room) s m ([.ref (aS 0), .int p0] : List Value).toArray below meth c H locs 0 0 (MQ below (qI G (ty5 cI cJ cZ cO cA) A (wS cI cJ aS pr pu ta se qu im su tc sc rc cn so ++ ([] : va_W)) res) ([.ref (aS 0), .int p0] : List Value).toArray s 0 0 A) (F0 m 34 ls [.int t0_6, .int t1_6]) := by
    intro t0_6 t1_6 H locs ls h hP hD hS hl
    unfold f_X2_priceOfTick_j34 at h
    refine lv_imul hx hb dX2_priceOfTick_34 ?_
    rw [← Option.some.inj h]
    exact kri hx hb hr hlk rfl rfl hP hD hS hK dX2_priceOfTick_35
  refine lv_icmp_ge (tgt := 33) hx hb dX2_priceOfTick_26 (by decide) (fun c5 => ?_) (fun c5 => ?_)
  · replace h := (if_pos c5).symm.trans h
    refine lv_iconst (v := 1) hx hb dX2_priceOfTick_33 (by decide) ?_
    exact hJ6 1 q3 _ _ _ h hP hD hS (lv_sub hl [] rfl)
  · replace h := (if_neg c5).symm.trans h
    refine lv_iconst (v := 2) hx hb dX2_priceOfTick_29 (by decide) ?_
    refine lv_goto (tgt := 34) hx hb dX2_priceOfTick_30 (by decide) ?_
    exact hJ6 2 q3 _ _ _ h hP hD hS (lv_sub hl [] rfl)
end
