-- ===== PART A: goes FIRST, ahead of the names: the tables' words, and 'selects' of the private methods out of them =====
/-- a private method of a class that the tables say can be made, by its rows of tables_1 -/
def lw_okq (q : MethodName × Nat) : Prop := (q.1.cls ≠ "java/lang/invoke/MethodHandle" ∧ q.1.cls ≠ "java/lang/invoke/VarHandle") ∧ Cond.instantiable q.1.cls q.2 ∈ tables_1 ∧ Cond.privateMethod q.1 ∈ tables_1 ∧ Cond.instanceMethod q.1 ∈ tables_1
theorem lw_p0 : lw_okq (⟨"TwoOnOneBack$Text", "clause", "()V"⟩, 7) := ⟨⟨by decide +kernel, by decide +kernel⟩, List.mem_of_getElem? (i := 32) (by decide +kernel), List.mem_of_getElem? (i := 369) (by decide +kernel), List.mem_of_getElem? (i := 370) (by decide +kernel)⟩
theorem lw_p1 : lw_okq (⟨"TwoOnOneBack$Text", "takes", "(C)Z"⟩, 7) := ⟨⟨by decide +kernel, by decide +kernel⟩, List.mem_of_getElem? (i := 32) (by decide +kernel), List.mem_of_getElem? (i := 373) (by decide +kernel), List.mem_of_getElem? (i := 374) (by decide +kernel)⟩
theorem lw_p2 : lw_okq (⟨"TwoOnOneBack$Text", "needs", "(Ljava/lang/String;)V"⟩, 7) := ⟨⟨by decide +kernel, by decide +kernel⟩, List.mem_of_getElem? (i := 32) (by decide +kernel), List.mem_of_getElem? (i := 378) (by decide +kernel), List.mem_of_getElem? (i := 379) (by decide +kernel)⟩
theorem lw_p3 : lw_okq (⟨"TwoOnOneBack$Text", "number", "()I"⟩, 7) := ⟨⟨by decide +kernel, by decide +kernel⟩, List.mem_of_getElem? (i := 32) (by decide +kernel), List.mem_of_getElem? (i := 430) (by decide +kernel), List.mem_of_getElem? (i := 431) (by decide +kernel)⟩
theorem lw_p4 : lw_okq (⟨"TwoOnOneBack$Text", "oneIf", "(Ljava/lang/String;)I"⟩, 7) := ⟨⟨by decide +kernel, by decide +kernel⟩, List.mem_of_getElem? (i := 32) (by decide +kernel), List.mem_of_getElem? (i := 435) (by decide +kernel), List.mem_of_getElem? (i := 436) (by decide +kernel)⟩
theorem lw_p5 : lw_okq (⟨"TwoOnOneBack$Text", "either", "(I)J"⟩, 7) := ⟨⟨by decide +kernel, by decide +kernel⟩, List.mem_of_getElem? (i := 32) (by decide +kernel), List.mem_of_getElem? (i := 447) (by decide +kernel), List.mem_of_getElem? (i := 448) (by decide +kernel)⟩
theorem lw_p6 : lw_okq (⟨"TwoOnOneBack$Text", "both", "(I)J"⟩, 7) := ⟨⟨by decide +kernel, by decide +kernel⟩, List.mem_of_getElem? (i := 32) (by decide +kernel), List.mem_of_getElem? (i := 451) (by decide +kernel), List.mem_of_getElem? (i := 452) (by decide +kernel)⟩
theorem lw_p7 : lw_okq (⟨"TwoOnOneBack$Text", "single", "(I)J"⟩, 7) := ⟨⟨by decide +kernel, by decide +kernel⟩, List.mem_of_getElem? (i := 32) (by decide +kernel), List.mem_of_getElem? (i := 455) (by decide +kernel), List.mem_of_getElem? (i := 456) (by decide +kernel)⟩
theorem lw_p8 : lw_okq (⟨"TwoOnOneBack$Text", "oneOf", "(Ljava/lang/String;)I"⟩, 7) := ⟨⟨by decide +kernel, by decide +kernel⟩, List.mem_of_getElem? (i := 32) (by decide +kernel), List.mem_of_getElem? (i := 463) (by decide +kernel), List.mem_of_getElem? (i := 464) (by decide +kernel)⟩
theorem lw_p9 : lw_okq (⟨"TwoOnOneBack", "allowed", "(LTwoOnOneBack$Walker;)I"⟩, 12) := ⟨⟨by decide +kernel, by decide +kernel⟩, List.mem_of_getElem? (i := 24) (by decide +kernel), List.mem_of_getElem? (i := 552) (by decide +kernel), List.mem_of_getElem? (i := 553) (by decide +kernel)⟩
theorem lw_p10 : lw_okq (⟨"TwoOnOneBack$Gait", "rests", "()Z"⟩, 5) := ⟨⟨by decide +kernel, by decide +kernel⟩, List.mem_of_getElem? (i := 235) (by decide +kernel), List.mem_of_getElem? (i := 569) (by decide +kernel), List.mem_of_getElem? (i := 570) (by decide +kernel)⟩
theorem lw_p11 : lw_okq (⟨"TwoOnOneBack$Gait", "isOn", "()Z"⟩, 5) := ⟨⟨by decide +kernel, by decide +kernel⟩, List.mem_of_getElem? (i := 235) (by decide +kernel), List.mem_of_getElem? (i := 573) (by decide +kernel), List.mem_of_getElem? (i := 574) (by decide +kernel)⟩
theorem lw_p12 : lw_okq (⟨"TwoOnOneBack$Gait", "leaves", "(II)J"⟩, 5) := ⟨⟨by decide +kernel, by decide +kernel⟩, List.mem_of_getElem? (i := 235) (by decide +kernel), List.mem_of_getElem? (i := 578) (by decide +kernel), List.mem_of_getElem? (i := 579) (by decide +kernel)⟩
theorem lw_p13 : lw_okq (⟨"TwoOnOneBack$Gait", "isRound", "()Z"⟩, 5) := ⟨⟨by decide +kernel, by decide +kernel⟩, List.mem_of_getElem? (i := 235) (by decide +kernel), List.mem_of_getElem? (i := 586) (by decide +kernel), List.mem_of_getElem? (i := 587) (by decide +kernel)⟩
theorem lw_p14 : lw_okq (⟨"TwoOnOneBack$Gait", "ons", "(II)J"⟩, 5) := ⟨⟨by decide +kernel, by decide +kernel⟩, List.mem_of_getElem? (i := 235) (by decide +kernel), List.mem_of_getElem? (i := 595) (by decide +kernel), List.mem_of_getElem? (i := 596) (by decide +kernel)⟩
theorem lw_p15 : lw_okq (⟨"TwoOnOneBack", "goes", "(LTwoOnOneBack$Walker;I)Z"⟩, 12) := ⟨⟨by decide +kernel, by decide +kernel⟩, List.mem_of_getElem? (i := 24) (by decide +kernel), List.mem_of_getElem? (i := 612) (by decide +kernel), List.mem_of_getElem? (i := 613) (by decide +kernel)⟩
def lw_privs_1 : List (MethodName × Nat) := [(⟨"TwoOnOneBack$Text", "clause", "()V"⟩, 7), (⟨"TwoOnOneBack$Text", "takes", "(C)Z"⟩, 7), (⟨"TwoOnOneBack$Text", "needs", "(Ljava/lang/String;)V"⟩, 7), (⟨"TwoOnOneBack$Text", "number", "()I"⟩, 7), (⟨"TwoOnOneBack$Text", "oneIf", "(Ljava/lang/String;)I"⟩, 7), (⟨"TwoOnOneBack$Text", "either", "(I)J"⟩, 7), (⟨"TwoOnOneBack$Text", "both", "(I)J"⟩, 7), (⟨"TwoOnOneBack$Text", "single", "(I)J"⟩, 7), (⟨"TwoOnOneBack$Text", "oneOf", "(Ljava/lang/String;)I"⟩, 7), (⟨"TwoOnOneBack", "allowed", "(LTwoOnOneBack$Walker;)I"⟩, 12), (⟨"TwoOnOneBack$Gait", "rests", "()Z"⟩, 5), (⟨"TwoOnOneBack$Gait", "isOn", "()Z"⟩, 5), (⟨"TwoOnOneBack$Gait", "leaves", "(II)J"⟩, 5), (⟨"TwoOnOneBack$Gait", "isRound", "()Z"⟩, 5), (⟨"TwoOnOneBack$Gait", "ons", "(II)J"⟩, 5), (⟨"TwoOnOneBack", "goes", "(LTwoOnOneBack$Walker;I)Z"⟩, 12)]
theorem lw_r1 : ∀ q ∈ lw_privs_1, lw_okq q := List.forall_mem_cons.mpr ⟨lw_p0, List.forall_mem_cons.mpr ⟨lw_p1, List.forall_mem_cons.mpr ⟨lw_p2, List.forall_mem_cons.mpr ⟨lw_p3, List.forall_mem_cons.mpr ⟨lw_p4, List.forall_mem_cons.mpr ⟨lw_p5, List.forall_mem_cons.mpr ⟨lw_p6, List.forall_mem_cons.mpr ⟨lw_p7, List.forall_mem_cons.mpr ⟨lw_p8, List.forall_mem_cons.mpr ⟨lw_p9, List.forall_mem_cons.mpr ⟨lw_p10, List.forall_mem_cons.mpr ⟨lw_p11, List.forall_mem_cons.mpr ⟨lw_p12, List.forall_mem_cons.mpr ⟨lw_p13, List.forall_mem_cons.mpr ⟨lw_p14, List.forall_mem_cons.mpr ⟨lw_p15, fun _ h => absurd h List.not_mem_nil⟩⟩⟩⟩⟩⟩⟩⟩⟩⟩⟩⟩⟩⟩⟩⟩
theorem lw_p16 : lw_okq (⟨"TwoOnOneBack$Crowd", "spread", "(III)V"⟩, 3) := ⟨⟨by decide +kernel, by decide +kernel⟩, List.mem_of_getElem? (i := 259) (by decide +kernel), List.mem_of_getElem? (i := 661) (by decide +kernel), List.mem_of_getElem? (i := 662) (by decide +kernel)⟩
theorem lw_p17 : lw_okq (⟨"TwoOnOneBack$Crowd", "among", "(II)J"⟩, 3) := ⟨⟨by decide +kernel, by decide +kernel⟩, List.mem_of_getElem? (i := 259) (by decide +kernel), List.mem_of_getElem? (i := 665) (by decide +kernel), List.mem_of_getElem? (i := 666) (by decide +kernel)⟩
theorem lw_p18 : lw_okq (⟨"TwoOnOneBack", "firstStep", "(LTwoOnOneBack$Walker;II)I"⟩, 12) := ⟨⟨by decide +kernel, by decide +kernel⟩, List.mem_of_getElem? (i := 24) (by decide +kernel), List.mem_of_getElem? (i := 675) (by decide +kernel), List.mem_of_getElem? (i := 676) (by decide +kernel)⟩
theorem lw_p19 : lw_okq (⟨"TwoOnOneBack", "within", "(LTwoOnOneBack$Walker;I)J"⟩, 12) := ⟨⟨by decide +kernel, by decide +kernel⟩, List.mem_of_getElem? (i := 24) (by decide +kernel), List.mem_of_getElem? (i := 692) (by decide +kernel), List.mem_of_getElem? (i := 693) (by decide +kernel)⟩
theorem lw_p20 : lw_okq (⟨"TwoOnOneBack", "left", "(III)Z"⟩, 12) := ⟨⟨by decide +kernel, by decide +kernel⟩, List.mem_of_getElem? (i := 24) (by decide +kernel), List.mem_of_getElem? (i := 748) (by decide +kernel), List.mem_of_getElem? (i := 749) (by decide +kernel)⟩
theorem lw_p21 : lw_okq (⟨"TwoOnOneBack$Lots", "part", "(JIII)V"⟩, 3) := ⟨⟨by decide +kernel, by decide +kernel⟩, List.mem_of_getElem? (i := 278) (by decide +kernel), List.mem_of_getElem? (i := 777) (by decide +kernel), List.mem_of_getElem? (i := 778) (by decide +kernel)⟩
theorem lw_p22 : lw_okq (⟨"TwoOnOneBack", "tapeAt", "(I)LTwoOnOneBack$Tape;"⟩, 12) := ⟨⟨by decide +kernel, by decide +kernel⟩, List.mem_of_getElem? (i := 24) (by decide +kernel), List.mem_of_getElem? (i := 809) (by decide +kernel), List.mem_of_getElem? (i := 810) (by decide +kernel)⟩
theorem lw_p23 : lw_okq (⟨"TwoOnOneBack$Bodies", "begins", "(I)V"⟩, 5) := ⟨⟨by decide +kernel, by decide +kernel⟩, List.mem_of_getElem? (i := 113) (by decide +kernel), List.mem_of_getElem? (i := 853) (by decide +kernel), List.mem_of_getElem? (i := 854) (by decide +kernel)⟩
theorem lw_p24 : lw_okq (⟨"TwoOnOneBack$Bodies", "plainSteps", "(I)I"⟩, 5) := ⟨⟨by decide +kernel, by decide +kernel⟩, List.mem_of_getElem? (i := 113) (by decide +kernel), List.mem_of_getElem? (i := 857) (by decide +kernel), List.mem_of_getElem? (i := 858) (by decide +kernel)⟩
theorem lw_p25 : lw_okq (⟨"TwoOnOneBack$Bodies", "plainTurns", "(I)I"⟩, 5) := ⟨⟨by decide +kernel, by decide +kernel⟩, List.mem_of_getElem? (i := 113) (by decide +kernel), List.mem_of_getElem? (i := 865) (by decide +kernel), List.mem_of_getElem? (i := 866) (by decide +kernel)⟩
theorem lw_p26 : lw_okq (⟨"TwoOnOneBack$Bodies", "plainTells", "(I)I"⟩, 5) := ⟨⟨by decide +kernel, by decide +kernel⟩, List.mem_of_getElem? (i := 113) (by decide +kernel), List.mem_of_getElem? (i := 874) (by decide +kernel), List.mem_of_getElem? (i := 875) (by decide +kernel)⟩
theorem lw_p27 : lw_okq (⟨"TwoOnOneBack$Tape", "cut", "(J)J"⟩, 3) := ⟨⟨by decide +kernel, by decide +kernel⟩, List.mem_of_getElem? (i := 295) (by decide +kernel), List.mem_of_getElem? (i := 914) (by decide +kernel), List.mem_of_getElem? (i := 915) (by decide +kernel)⟩
theorem lw_p28 : lw_okq (⟨"TwoOnOneBackModel", "reads", "()V"⟩, 34) := ⟨⟨by decide +kernel, by decide +kernel⟩, List.mem_of_getElem? (i := 931) (by decide +kernel), List.mem_of_getElem? (i := 1049) (by decide +kernel), List.mem_of_getElem? (i := 1050) (by decide +kernel)⟩
theorem lw_p29 : lw_okq (⟨"TwoOnOneBackModel", "clause", "()V"⟩, 34) := ⟨⟨by decide +kernel, by decide +kernel⟩, List.mem_of_getElem? (i := 931) (by decide +kernel), List.mem_of_getElem? (i := 1053) (by decide +kernel), List.mem_of_getElem? (i := 1054) (by decide +kernel)⟩
theorem lw_p30 : lw_okq (⟨"TwoOnOneBackModel", "here", "()I"⟩, 34) := ⟨⟨by decide +kernel, by decide +kernel⟩, List.mem_of_getElem? (i := 931) (by decide +kernel), List.mem_of_getElem? (i := 1057) (by decide +kernel), List.mem_of_getElem? (i := 1058) (by decide +kernel)⟩
theorem lw_p31 : lw_okq (⟨"TwoOnOneBackModel", "word", "(IIIII)V"⟩, 34) := ⟨⟨by decide +kernel, by decide +kernel⟩, List.mem_of_getElem? (i := 931) (by decide +kernel), List.mem_of_getElem? (i := 1061) (by decide +kernel), List.mem_of_getElem? (i := 1062) (by decide +kernel)⟩
def lw_privs_2 : List (MethodName × Nat) := [(⟨"TwoOnOneBack$Crowd", "spread", "(III)V"⟩, 3), (⟨"TwoOnOneBack$Crowd", "among", "(II)J"⟩, 3), (⟨"TwoOnOneBack", "firstStep", "(LTwoOnOneBack$Walker;II)I"⟩, 12), (⟨"TwoOnOneBack", "within", "(LTwoOnOneBack$Walker;I)J"⟩, 12), (⟨"TwoOnOneBack", "left", "(III)Z"⟩, 12), (⟨"TwoOnOneBack$Lots", "part", "(JIII)V"⟩, 3), (⟨"TwoOnOneBack", "tapeAt", "(I)LTwoOnOneBack$Tape;"⟩, 12), (⟨"TwoOnOneBack$Bodies", "begins", "(I)V"⟩, 5), (⟨"TwoOnOneBack$Bodies", "plainSteps", "(I)I"⟩, 5), (⟨"TwoOnOneBack$Bodies", "plainTurns", "(I)I"⟩, 5), (⟨"TwoOnOneBack$Bodies", "plainTells", "(I)I"⟩, 5), (⟨"TwoOnOneBack$Tape", "cut", "(J)J"⟩, 3), (⟨"TwoOnOneBackModel", "reads", "()V"⟩, 34), (⟨"TwoOnOneBackModel", "clause", "()V"⟩, 34), (⟨"TwoOnOneBackModel", "here", "()I"⟩, 34), (⟨"TwoOnOneBackModel", "word", "(IIIII)V"⟩, 34)]
theorem lw_r2 : ∀ q ∈ lw_privs_2, lw_okq q := List.forall_mem_cons.mpr ⟨lw_p16, List.forall_mem_cons.mpr ⟨lw_p17, List.forall_mem_cons.mpr ⟨lw_p18, List.forall_mem_cons.mpr ⟨lw_p19, List.forall_mem_cons.mpr ⟨lw_p20, List.forall_mem_cons.mpr ⟨lw_p21, List.forall_mem_cons.mpr ⟨lw_p22, List.forall_mem_cons.mpr ⟨lw_p23, List.forall_mem_cons.mpr ⟨lw_p24, List.forall_mem_cons.mpr ⟨lw_p25, List.forall_mem_cons.mpr ⟨lw_p26, List.forall_mem_cons.mpr ⟨lw_p27, List.forall_mem_cons.mpr ⟨lw_p28, List.forall_mem_cons.mpr ⟨lw_p29, List.forall_mem_cons.mpr ⟨lw_p30, List.forall_mem_cons.mpr ⟨lw_p31, fun _ h => absurd h List.not_mem_nil⟩⟩⟩⟩⟩⟩⟩⟩⟩⟩⟩⟩⟩⟩⟩⟩
theorem lw_p32 : lw_okq (⟨"TwoOnOneBackModel", "takes", "(I)V"⟩, 34) := ⟨⟨by decide +kernel, by decide +kernel⟩, List.mem_of_getElem? (i := 931) (by decide +kernel), List.mem_of_getElem? (i := 1065) (by decide +kernel), List.mem_of_getElem? (i := 1066) (by decide +kernel)⟩
theorem lw_p33 : lw_okq (⟨"TwoOnOneBackModel", "number", "()I"⟩, 34) := ⟨⟨by decide +kernel, by decide +kernel⟩, List.mem_of_getElem? (i := 931) (by decide +kernel), List.mem_of_getElem? (i := 1069) (by decide +kernel), List.mem_of_getElem? (i := 1070) (by decide +kernel)⟩
theorem lw_p34 : lw_okq (⟨"TwoOnOneBackModel", "marksBy", "(I)V"⟩, 34) := ⟨⟨by decide +kernel, by decide +kernel⟩, List.mem_of_getElem? (i := 931) (by decide +kernel), List.mem_of_getElem? (i := 1073) (by decide +kernel), List.mem_of_getElem? (i := 1074) (by decide +kernel)⟩
theorem lw_p35 : lw_okq (⟨"TwoOnOneBackModel", "either", "()J"⟩, 34) := ⟨⟨by decide +kernel, by decide +kernel⟩, List.mem_of_getElem? (i := 931) (by decide +kernel), List.mem_of_getElem? (i := 1077) (by decide +kernel), List.mem_of_getElem? (i := 1078) (by decide +kernel)⟩
theorem lw_p36 : lw_okq (⟨"TwoOnOneBackModel", "term", "()J"⟩, 34) := ⟨⟨by decide +kernel, by decide +kernel⟩, List.mem_of_getElem? (i := 931) (by decide +kernel), List.mem_of_getElem? (i := 1081) (by decide +kernel), List.mem_of_getElem? (i := 1082) (by decide +kernel)⟩
theorem lw_p37 : lw_okq (⟨"TwoOnOneBackModel", "factor", "()J"⟩, 34) := ⟨⟨by decide +kernel, by decide +kernel⟩, List.mem_of_getElem? (i := 931) (by decide +kernel), List.mem_of_getElem? (i := 1085) (by decide +kernel), List.mem_of_getElem? (i := 1086) (by decide +kernel)⟩
theorem lw_p38 : lw_okq (⟨"TwoOnOneBackModel", "test", "()J"⟩, 34) := ⟨⟨by decide +kernel, by decide +kernel⟩, List.mem_of_getElem? (i := 931) (by decide +kernel), List.mem_of_getElem? (i := 1089) (by decide +kernel), List.mem_of_getElem? (i := 1090) (by decide +kernel)⟩
theorem lw_p39 : lw_okq (⟨"TwoOnOneBackModel", "onBeats", "()I"⟩, 34) := ⟨⟨by decide +kernel, by decide +kernel⟩, List.mem_of_getElem? (i := 931) (by decide +kernel), List.mem_of_getElem? (i := 1108) (by decide +kernel), List.mem_of_getElem? (i := 1109) (by decide +kernel)⟩
theorem lw_p40 : lw_okq (⟨"TwoOnOneBackModel", "beats", "()I"⟩, 34) := ⟨⟨by decide +kernel, by decide +kernel⟩, List.mem_of_getElem? (i := 931) (by decide +kernel), List.mem_of_getElem? (i := 1112) (by decide +kernel), List.mem_of_getElem? (i := 1113) (by decide +kernel)⟩
theorem lw_p41 : lw_okq (⟨"TwoOnOneBackModel", "isMarked", "(II)Z"⟩, 34) := ⟨⟨by decide +kernel, by decide +kernel⟩, List.mem_of_getElem? (i := 931) (by decide +kernel), List.mem_of_getElem? (i := 1126) (by decide +kernel), List.mem_of_getElem? (i := 1127) (by decide +kernel)⟩
theorem lw_p42 : lw_okq (⟨"TwoOnOneBackModel", "puts", "(III)V"⟩, 34) := ⟨⟨by decide +kernel, by decide +kernel⟩, List.mem_of_getElem? (i := 931) (by decide +kernel), List.mem_of_getElem? (i := 1134) (by decide +kernel), List.mem_of_getElem? (i := 1135) (by decide +kernel)⟩
theorem lw_p43 : lw_okq (⟨"TwoOnOneBackModel", "isWalker", "(I)Z"⟩, 34) := ⟨⟨by decide +kernel, by decide +kernel⟩, List.mem_of_getElem? (i := 931) (by decide +kernel), List.mem_of_getElem? (i := 1142) (by decide +kernel), List.mem_of_getElem? (i := 1143) (by decide +kernel)⟩
theorem lw_p44 : lw_okq (⟨"TwoOnOneBackModel", "beatOf", "(I)I"⟩, 34) := ⟨⟨by decide +kernel, by decide +kernel⟩, List.mem_of_getElem? (i := 931) (by decide +kernel), List.mem_of_getElem? (i := 1146) (by decide +kernel), List.mem_of_getElem? (i := 1147) (by decide +kernel)⟩
theorem lw_p45 : lw_okq (⟨"TwoOnOneBackModel", "get", "(II)I"⟩, 34) := ⟨⟨by decide +kernel, by decide +kernel⟩, List.mem_of_getElem? (i := 931) (by decide +kernel), List.mem_of_getElem? (i := 1150) (by decide +kernel), List.mem_of_getElem? (i := 1151) (by decide +kernel)⟩
theorem lw_p46 : lw_okq (⟨"TwoOnOneBackModel", "mayNow", "(I)I"⟩, 34) := ⟨⟨by decide +kernel, by decide +kernel⟩, List.mem_of_getElem? (i := 931) (by decide +kernel), List.mem_of_getElem? (i := 1162) (by decide +kernel), List.mem_of_getElem? (i := 1163) (by decide +kernel)⟩
theorem lw_p47 : lw_okq (⟨"TwoOnOneBackModel", "mayBy", "(IIIIIII)I"⟩, 34) := ⟨⟨by decide +kernel, by decide +kernel⟩, List.mem_of_getElem? (i := 931) (by decide +kernel), List.mem_of_getElem? (i := 1166) (by decide +kernel), List.mem_of_getElem? (i := 1167) (by decide +kernel)⟩
def lw_privs_3 : List (MethodName × Nat) := [(⟨"TwoOnOneBackModel", "takes", "(I)V"⟩, 34), (⟨"TwoOnOneBackModel", "number", "()I"⟩, 34), (⟨"TwoOnOneBackModel", "marksBy", "(I)V"⟩, 34), (⟨"TwoOnOneBackModel", "either", "()J"⟩, 34), (⟨"TwoOnOneBackModel", "term", "()J"⟩, 34), (⟨"TwoOnOneBackModel", "factor", "()J"⟩, 34), (⟨"TwoOnOneBackModel", "test", "()J"⟩, 34), (⟨"TwoOnOneBackModel", "onBeats", "()I"⟩, 34), (⟨"TwoOnOneBackModel", "beats", "()I"⟩, 34), (⟨"TwoOnOneBackModel", "isMarked", "(II)Z"⟩, 34), (⟨"TwoOnOneBackModel", "puts", "(III)V"⟩, 34), (⟨"TwoOnOneBackModel", "isWalker", "(I)Z"⟩, 34), (⟨"TwoOnOneBackModel", "beatOf", "(I)I"⟩, 34), (⟨"TwoOnOneBackModel", "get", "(II)I"⟩, 34), (⟨"TwoOnOneBackModel", "mayNow", "(I)I"⟩, 34), (⟨"TwoOnOneBackModel", "mayBy", "(IIIIIII)I"⟩, 34)]
theorem lw_r3 : ∀ q ∈ lw_privs_3, lw_okq q := List.forall_mem_cons.mpr ⟨lw_p32, List.forall_mem_cons.mpr ⟨lw_p33, List.forall_mem_cons.mpr ⟨lw_p34, List.forall_mem_cons.mpr ⟨lw_p35, List.forall_mem_cons.mpr ⟨lw_p36, List.forall_mem_cons.mpr ⟨lw_p37, List.forall_mem_cons.mpr ⟨lw_p38, List.forall_mem_cons.mpr ⟨lw_p39, List.forall_mem_cons.mpr ⟨lw_p40, List.forall_mem_cons.mpr ⟨lw_p41, List.forall_mem_cons.mpr ⟨lw_p42, List.forall_mem_cons.mpr ⟨lw_p43, List.forall_mem_cons.mpr ⟨lw_p44, List.forall_mem_cons.mpr ⟨lw_p45, List.forall_mem_cons.mpr ⟨lw_p46, List.forall_mem_cons.mpr ⟨lw_p47, fun _ h => absurd h List.not_mem_nil⟩⟩⟩⟩⟩⟩⟩⟩⟩⟩⟩⟩⟩⟩⟩⟩
theorem lw_p48 : lw_okq (⟨"TwoOnOneBackModel", "mayOn", "(IIIII)I"⟩, 34) := ⟨⟨by decide +kernel, by decide +kernel⟩, List.mem_of_getElem? (i := 931) (by decide +kernel), List.mem_of_getElem? (i := 1170) (by decide +kernel), List.mem_of_getElem? (i := 1171) (by decide +kernel)⟩
theorem lw_p49 : lw_okq (⟨"TwoOnOneBackModel", "goesOn", "(III)Z"⟩, 34) := ⟨⟨by decide +kernel, by decide +kernel⟩, List.mem_of_getElem? (i := 931) (by decide +kernel), List.mem_of_getElem? (i := 1174) (by decide +kernel), List.mem_of_getElem? (i := 1175) (by decide +kernel)⟩
theorem lw_p50 : lw_okq (⟨"TwoOnOneBackModel", "goesBack", "(IIII)Z"⟩, 34) := ⟨⟨by decide +kernel, by decide +kernel⟩, List.mem_of_getElem? (i := 931) (by decide +kernel), List.mem_of_getElem? (i := 1181) (by decide +kernel), List.mem_of_getElem? (i := 1182) (by decide +kernel)⟩
theorem lw_p51 : lw_okq (⟨"TwoOnOneBackModel", "backTo", "(IIII)I"⟩, 34) := ⟨⟨by decide +kernel, by decide +kernel⟩, List.mem_of_getElem? (i := 931) (by decide +kernel), List.mem_of_getElem? (i := 1185) (by decide +kernel), List.mem_of_getElem? (i := 1186) (by decide +kernel)⟩
theorem lw_p52 : lw_okq (⟨"TwoOnOneBackModel", "steps", "(II)V"⟩, 34) := ⟨⟨by decide +kernel, by decide +kernel⟩, List.mem_of_getElem? (i := 931) (by decide +kernel), List.mem_of_getElem? (i := 1193) (by decide +kernel), List.mem_of_getElem? (i := 1194) (by decide +kernel)⟩
theorem lw_p53 : lw_okq (⟨"TwoOnOneBackModel", "beginsAs", "(II)V"⟩, 34) := ⟨⟨by decide +kernel, by decide +kernel⟩, List.mem_of_getElem? (i := 931) (by decide +kernel), List.mem_of_getElem? (i := 1201) (by decide +kernel), List.mem_of_getElem? (i := 1202) (by decide +kernel)⟩
theorem lw_p54 : lw_okq (⟨"TwoOnOneBackModel", "begins", "(IIIIIII)V"⟩, 34) := ⟨⟨by decide +kernel, by decide +kernel⟩, List.mem_of_getElem? (i := 931) (by decide +kernel), List.mem_of_getElem? (i := 1205) (by decide +kernel), List.mem_of_getElem? (i := 1206) (by decide +kernel)⟩
theorem lw_p55 : lw_okq (⟨"TwoOnOneBackModel", "soonestTo", "(I)I"⟩, 34) := ⟨⟨by decide +kernel, by decide +kernel⟩, List.mem_of_getElem? (i := 931) (by decide +kernel), List.mem_of_getElem? (i := 1212) (by decide +kernel), List.mem_of_getElem? (i := 1213) (by decide +kernel)⟩
theorem lw_p56 : lw_okq (⟨"TwoOnOneBackModel", "goesBeat", "()V"⟩, 34) := ⟨⟨by decide +kernel, by decide +kernel⟩, List.mem_of_getElem? (i := 931) (by decide +kernel), List.mem_of_getElem? (i := 1216) (by decide +kernel), List.mem_of_getElem? (i := 1217) (by decide +kernel)⟩
theorem lw_p57 : lw_okq (⟨"TwoOnOneBackModel", "firstTo", "(I)I"⟩, 34) := ⟨⟨by decide +kernel, by decide +kernel⟩, List.mem_of_getElem? (i := 931) (by decide +kernel), List.mem_of_getElem? (i := 1226) (by decide +kernel), List.mem_of_getElem? (i := 1227) (by decide +kernel)⟩
theorem lw_p58 : lw_okq (⟨"TwoOnOneBackModel", "within", "(II)J"⟩, 34) := ⟨⟨by decide +kernel, by decide +kernel⟩, List.mem_of_getElem? (i := 931) (by decide +kernel), List.mem_of_getElem? (i := 1238) (by decide +kernel), List.mem_of_getElem? (i := 1239) (by decide +kernel)⟩
theorem lw_p59 : lw_okq (⟨"TwoOnOneBackModel", "cellsNow", "()J"⟩, 34) := ⟨⟨by decide +kernel, by decide +kernel⟩, List.mem_of_getElem? (i := 931) (by decide +kernel), List.mem_of_getElem? (i := 1242) (by decide +kernel), List.mem_of_getElem? (i := 1243) (by decide +kernel)⟩
theorem lw_p60 : lw_okq (⟨"TwoOnOneBackModel", "mightHave", "(IIII)Z"⟩, 34) := ⟨⟨by decide +kernel, by decide +kernel⟩, List.mem_of_getElem? (i := 931) (by decide +kernel), List.mem_of_getElem? (i := 1275) (by decide +kernel), List.mem_of_getElem? (i := 1276) (by decide +kernel)⟩
theorem lw_p61 : lw_okq (⟨"TwoOnOneBackModel", "soonestBy", "(III)I"⟩, 34) := ⟨⟨by decide +kernel, by decide +kernel⟩, List.mem_of_getElem? (i := 931) (by decide +kernel), List.mem_of_getElem? (i := 1291) (by decide +kernel), List.mem_of_getElem? (i := 1292) (by decide +kernel)⟩
theorem lw_p62 : lw_okq (⟨"TwoOnOneBackModel", "acts", "(II)I"⟩, 34) := ⟨⟨by decide +kernel, by decide +kernel⟩, List.mem_of_getElem? (i := 931) (by decide +kernel), List.mem_of_getElem? (i := 1299) (by decide +kernel), List.mem_of_getElem? (i := 1300) (by decide +kernel)⟩
theorem lw_p63 : lw_okq (⟨"TwoOnOneBackModel", "bodyOf", "(III)I"⟩, 34) := ⟨⟨by decide +kernel, by decide +kernel⟩, List.mem_of_getElem? (i := 931) (by decide +kernel), List.mem_of_getElem? (i := 1303) (by decide +kernel), List.mem_of_getElem? (i := 1304) (by decide +kernel)⟩
def lw_privs_4 : List (MethodName × Nat) := [(⟨"TwoOnOneBackModel", "mayOn", "(IIIII)I"⟩, 34), (⟨"TwoOnOneBackModel", "goesOn", "(III)Z"⟩, 34), (⟨"TwoOnOneBackModel", "goesBack", "(IIII)Z"⟩, 34), (⟨"TwoOnOneBackModel", "backTo", "(IIII)I"⟩, 34), (⟨"TwoOnOneBackModel", "steps", "(II)V"⟩, 34), (⟨"TwoOnOneBackModel", "beginsAs", "(II)V"⟩, 34), (⟨"TwoOnOneBackModel", "begins", "(IIIIIII)V"⟩, 34), (⟨"TwoOnOneBackModel", "soonestTo", "(I)I"⟩, 34), (⟨"TwoOnOneBackModel", "goesBeat", "()V"⟩, 34), (⟨"TwoOnOneBackModel", "firstTo", "(I)I"⟩, 34), (⟨"TwoOnOneBackModel", "within", "(II)J"⟩, 34), (⟨"TwoOnOneBackModel", "cellsNow", "()J"⟩, 34), (⟨"TwoOnOneBackModel", "mightHave", "(IIII)Z"⟩, 34), (⟨"TwoOnOneBackModel", "soonestBy", "(III)I"⟩, 34), (⟨"TwoOnOneBackModel", "acts", "(II)I"⟩, 34), (⟨"TwoOnOneBackModel", "bodyOf", "(III)I"⟩, 34)]
theorem lw_r4 : ∀ q ∈ lw_privs_4, lw_okq q := List.forall_mem_cons.mpr ⟨lw_p48, List.forall_mem_cons.mpr ⟨lw_p49, List.forall_mem_cons.mpr ⟨lw_p50, List.forall_mem_cons.mpr ⟨lw_p51, List.forall_mem_cons.mpr ⟨lw_p52, List.forall_mem_cons.mpr ⟨lw_p53, List.forall_mem_cons.mpr ⟨lw_p54, List.forall_mem_cons.mpr ⟨lw_p55, List.forall_mem_cons.mpr ⟨lw_p56, List.forall_mem_cons.mpr ⟨lw_p57, List.forall_mem_cons.mpr ⟨lw_p58, List.forall_mem_cons.mpr ⟨lw_p59, List.forall_mem_cons.mpr ⟨lw_p60, List.forall_mem_cons.mpr ⟨lw_p61, List.forall_mem_cons.mpr ⟨lw_p62, List.forall_mem_cons.mpr ⟨lw_p63, fun _ h => absurd h List.not_mem_nil⟩⟩⟩⟩⟩⟩⟩⟩⟩⟩⟩⟩⟩⟩⟩⟩
theorem lw_p64 : lw_okq (⟨"TwoOnOneBackModel", "runs", "(I)V"⟩, 34) := ⟨⟨by decide +kernel, by decide +kernel⟩, List.mem_of_getElem? (i := 931) (by decide +kernel), List.mem_of_getElem? (i := 1313) (by decide +kernel), List.mem_of_getElem? (i := 1314) (by decide +kernel)⟩
def lw_privs_5 : List (MethodName × Nat) := [(⟨"TwoOnOneBackModel", "runs", "(I)V"⟩, 34)]
theorem lw_r5 : ∀ q ∈ lw_privs_5, lw_okq q := List.forall_mem_cons.mpr ⟨lw_p64, fun _ h => absurd h List.not_mem_nil⟩
def lw_privs : List (MethodName × Nat) := lw_privs_1 ++ (lw_privs_2 ++ (lw_privs_3 ++ (lw_privs_4 ++ (lw_privs_5))))
def lw_tbl : List Cond := k2_sels lw_privs ++ tables_1
theorem lw_privs_ok : ∀ q ∈ lw_privs, lw_okq q := by
  show ∀ q ∈ lw_privs_1 ++ (lw_privs_2 ++ (lw_privs_3 ++ (lw_privs_4 ++ (lw_privs_5)))), lw_okq q
  exact List.forall_mem_append.mpr ⟨lw_r1, List.forall_mem_append.mpr ⟨lw_r2, List.forall_mem_append.mpr ⟨lw_r3, List.forall_mem_append.mpr ⟨lw_r4, lw_r5⟩⟩⟩⟩
def R_law : String := "TwoOnOneBackLaw"
def RX0 : String := "TwoOnOneBack$Bodies"
def TX0 : u_T := fun k => match k with
  | 0 => ("TwoOnOneBack$Bodies", "trace", "[I", true)
  | 1 => ("TwoOnOneBack$Bodies", "ran", "I", false)
  | 2 => ("TwoOnOneBack$Bodies", "kind", "I", false)
  | 3 => ("TwoOnOneBack$Bodies", "v", "I", false)
  | _ => ("TwoOnOneBack$Bodies", "number", "I", false)
def tyX0 : Nat → FieldType := fun k => match k with
  | 0 => .array .int
  | 1 => .int
  | 2 => .int
  | 3 => .int
  | _ => .int
abbrev wsX00 : List Cond := u_ws RX0 TX0 5
theorem nmX0 : ∀ a, a < 5 → ∀ b, b < 5 → a ≠ b → (TX0 a).2.1 ≠ (TX0 b).2.1 := by decide +kernel
theorem tyX0_ok : ∀ k, k < 5 → parseFieldDescriptor (TX0 k).2.2.1 = some (tyX0 k) := by decide +kernel
abbrev cX0_init : ByteArray := prog_2_method_1_code
def yX0_init : MethodName := ⟨RX0, "<init>", "()V"⟩
abbrev cX0_become : ByteArray := prog_2_method_2_code
def yX0_become : MethodName := ⟨RX0, "become", "(III)V"⟩
abbrev cX0_steps : ByteArray := prog_2_method_3_code
def yX0_steps : MethodName := ⟨RX0, "steps", "(I)I"⟩
abbrev cX0_turns : ByteArray := prog_2_method_4_code
def yX0_turns : MethodName := ⟨RX0, "turns", "(I)I"⟩
abbrev cX0_tells : ByteArray := prog_2_method_5_code
def yX0_tells : MethodName := ⟨RX0, "tells", "(I)I"⟩
abbrev cX0_plainSteps : ByteArray := prog_2_method_6_code
def yX0_plainSteps : MethodName := ⟨RX0, "plainSteps", "(I)I"⟩
abbrev cX0_plainTurns : ByteArray := prog_2_method_7_code
def yX0_plainTurns : MethodName := ⟨RX0, "plainTurns", "(I)I"⟩
abbrev cX0_plainTells : ByteArray := prog_2_method_8_code
def yX0_plainTells : MethodName := ⟨RX0, "plainTells", "(I)I"⟩
abbrev cX0_begins : ByteArray := prog_2_method_9_code
def yX0_begins : MethodName := ⟨RX0, "begins", "(I)V"⟩
def RX1 : String := "TwoOnOneBack$Crowd"
def TX1 : u_T := fun k => match k with
  | 0 => ("TwoOnOneBack$Crowd", "here", "[J", false)
  | 1 => ("TwoOnOneBack$Crowd", "then", "[J", false)
  | _ => ("TwoOnOneBack$Crowd", "gait", "LTwoOnOneBack$Gait;", true)
def tyX1 : Nat → FieldType := fun k => match k with
  | 0 => .array .long
  | 1 => .array .long
  | _ => .object "TwoOnOneBack$Gait"
abbrev wsX10 : List Cond := u_ws RX1 TX1 3
theorem nmX1 : ∀ a, a < 3 → ∀ b, b < 3 → a ≠ b → (TX1 a).2.1 ≠ (TX1 b).2.1 := by decide +kernel
theorem tyX1_ok : ∀ k, k < 3 → parseFieldDescriptor (TX1 k).2.2.1 = some (tyX1 k) := by decide +kernel
abbrev cX1_init : ByteArray := prog_3_method_1_code
def yX1_init : MethodName := ⟨RX1, "<init>", "(LTwoOnOneBack$Land;)V"⟩
abbrev cX1_alone : ByteArray := prog_3_method_2_code
def yX1_alone : MethodName := ⟨RX1, "alone", "(LTwoOnOneBack$Land;LTwoOnOneBack$Walker;)V"⟩
abbrev cX1_alone_ : ByteArray := prog_3_method_3_code
def yX1_alone_ : MethodName := ⟨RX1, "alone", "(LTwoOnOneBack$Land;LTwoOnOneBack$Walker;III)V"⟩
abbrev cX1_around : ByteArray := prog_3_method_4_code
def yX1_around : MethodName := ⟨RX1, "around", "(LTwoOnOneBack$Land;IIII)V"⟩
abbrev cX1_advance : ByteArray := prog_3_method_5_code
def yX1_advance : MethodName := ⟨RX1, "advance", "(I)V"⟩
abbrev cX1_spread : ByteArray := prog_3_method_6_code
def yX1_spread : MethodName := ⟨RX1, "spread", "(III)V"⟩
abbrev cX1_join : ByteArray := prog_3_method_7_code
def yX1_join : MethodName := ⟨RX1, "join", "([JIIJ)V"⟩
abbrev cX1_among : ByteArray := prog_3_method_8_code
def yX1_among : MethodName := ⟨RX1, "among", "(II)J"⟩
abbrev cX1_keep : ByteArray := prog_3_method_9_code
def yX1_keep : MethodName := ⟨RX1, "keep", "(I)V"⟩
abbrev cX1_cells : ByteArray := prog_3_method_10_code
def yX1_cells : MethodName := ⟨RX1, "cells", "()J"⟩
abbrev cX1_facing : ByteArray := prog_3_method_11_code
def yX1_facing : MethodName := ⟨RX1, "facing", "(I)J"⟩
abbrev cX1_beatsTo : ByteArray := prog_3_method_12_code
def yX1_beatsTo : MethodName := ⟨RX1, "beatsTo", "(I)I"⟩
def RX2 : String := "TwoOnOneBack$Gait"
def TX2 : u_T := fun k => match k with
  | 0 => ("TwoOnOneBack$Gait", "land", "LTwoOnOneBack$Land;", false)
  | 1 => ("TwoOnOneBack$Gait", "kind", "I", false)
  | 2 => ("TwoOnOneBack$Gait", "v", "I", false)
  | 3 => ("TwoOnOneBack$Gait", "beat", "I", false)
  | _ => ("TwoOnOneBack$Gait", "gone", "I", false)
def tyX2 : Nat → FieldType := fun k => match k with
  | 0 => .object "TwoOnOneBack$Land"
  | 1 => .int
  | 2 => .int
  | 3 => .int
  | _ => .int
abbrev wsX20 : List Cond := u_ws RX2 TX2 5
theorem nmX2 : ∀ a, a < 5 → ∀ b, b < 5 → a ≠ b → (TX2 a).2.1 ≠ (TX2 b).2.1 := by decide +kernel
theorem tyX2_ok : ∀ k, k < 5 → parseFieldDescriptor (TX2 k).2.2.1 = some (tyX2 k) := by decide +kernel
abbrev cX2_init : ByteArray := prog_4_method_1_code
def yX2_init : MethodName := ⟨RX2, "<init>", "(LTwoOnOneBack$Land;)V"⟩
abbrev cX2_become : ByteArray := prog_4_method_2_code
def yX2_become : MethodName := ⟨RX2, "become", "(LTwoOnOneBack$Land;IIII)V"⟩
abbrev cX2_tick : ByteArray := prog_4_method_3_code
def yX2_tick : MethodName := ⟨RX2, "tick", "()V"⟩
abbrev cX2_steps : ByteArray := prog_4_method_4_code
def yX2_steps : MethodName := ⟨RX2, "steps", "(III)I"⟩
abbrev cX2_starts : ByteArray := prog_4_method_5_code
def yX2_starts : MethodName := ⟨RX2, "starts", "(III)J"⟩
abbrev cX2_way : ByteArray := prog_4_method_6_code
def yX2_way : MethodName := ⟨RX2, "way", "(III)I"⟩
abbrev cX2_isOn : ByteArray := prog_4_method_7_code
def yX2_isOn : MethodName := ⟨RX2, "isOn", "()Z"⟩
abbrev cX2_isRound : ByteArray := prog_4_method_8_code
def yX2_isRound : MethodName := ⟨RX2, "isRound", "()Z"⟩
abbrev cX2_rests : ByteArray := prog_4_method_9_code
def yX2_rests : MethodName := ⟨RX2, "rests", "()Z"⟩
abbrev cX2_leaves : ByteArray := prog_4_method_10_code
def yX2_leaves : MethodName := ⟨RX2, "leaves", "(II)J"⟩
abbrev cX2_ons : ByteArray := prog_4_method_11_code
def yX2_ons : MethodName := ⟨RX2, "ons", "(II)J"⟩
def RX3 : String := "TwoOnOneBack$Land"
def TX3 : u_T := fun k => match k with
  | 0 => ("TwoOnOneBack$Land", "on", "I", true)
  | 1 => ("TwoOnOneBack$Land", "back", "I", true)
  | 2 => ("TwoOnOneBack$Land", "walls", "J", true)
  | 3 => ("TwoOnOneBack$Land", "ledges", "J", true)
  | 4 => ("TwoOnOneBack$Land", "doors", "J", true)
  | 5 => ("TwoOnOneBack$Land", "stairs", "J", true)
  | 6 => ("TwoOnOneBack$Land", "open", "[J", true)
  | 7 => ("TwoOnOneBack$Land", "flat", "[J", true)
  | 8 => ("TwoOnOneBack$Land", "firm", "J", true)
  | _ => ("TwoOnOneBack$Land", "still", "J", true)
def tyX3 : Nat → FieldType := fun k => match k with
  | 0 => .int
  | 1 => .int
  | 2 => .long
  | 3 => .long
  | 4 => .long
  | 5 => .long
  | 6 => .array .long
  | 7 => .array .long
  | 8 => .long
  | _ => .long
abbrev wsX30 : List Cond := u_ws RX3 TX3 10
theorem nmX3 : ∀ a, a < 10 → ∀ b, b < 10 → a ≠ b → (TX3 a).2.1 ≠ (TX3 b).2.1 := by decide +kernel
theorem tyX3_ok : ∀ k, k < 10 → parseFieldDescriptor (TX3 k).2.2.1 = some (tyX3 k) := by decide +kernel
abbrev cX3_init : ByteArray := prog_5_method_1_code
def yX3_init : MethodName := ⟨RX3, "<init>", "(II[J)V"⟩
abbrev cX3_rhythm : ByteArray := prog_5_method_2_code
def yX3_rhythm : MethodName := ⟨RX3, "rhythm", "()I"⟩
abbrev cX3_beat : ByteArray := prog_5_method_3_code
def yX3_beat : MethodName := ⟨RX3, "beat", "(I)I"⟩
abbrev cX3_marked : ByteArray := prog_5_method_4_code
def yX3_marked : MethodName := ⟨RX3, "marked", "(I)J"⟩
abbrev cX3_onward : ByteArray := prog_5_method_5_code
def yX3_onward : MethodName := ⟨RX3, "onward", "(II)J"⟩
abbrev cX3_backward : ByteArray := prog_5_method_6_code
def yX3_backward : MethodName := ⟨RX3, "backward", "(I)J"⟩
def RX4 : String := "TwoOnOneBack$Lots"
def TX4 : u_T := fun k => match k with
  | 0 => ("TwoOnOneBack$Lots", "here", "[J", false)
  | 1 => ("TwoOnOneBack$Lots", "then", "[J", false)
  | _ => ("TwoOnOneBack$Lots", "gait", "LTwoOnOneBack$Gait;", true)
def tyX4 : Nat → FieldType := fun k => match k with
  | 0 => .array .long
  | 1 => .array .long
  | _ => .object "TwoOnOneBack$Gait"
abbrev wsX40 : List Cond := u_ws RX4 TX4 3
theorem nmX4 : ∀ a, a < 3 → ∀ b, b < 3 → a ≠ b → (TX4 a).2.1 ≠ (TX4 b).2.1 := by decide +kernel
theorem tyX4_ok : ∀ k, k < 3 → parseFieldDescriptor (TX4 k).2.2.1 = some (tyX4 k) := by decide +kernel
abbrev cX4_init : ByteArray := prog_6_method_1_code
def yX4_init : MethodName := ⟨RX4, "<init>", "(LTwoOnOneBack$Land;)V"⟩
abbrev cX4_alone : ByteArray := prog_6_method_2_code
def yX4_alone : MethodName := ⟨RX4, "alone", "(LTwoOnOneBack$Land;LTwoOnOneBack$Walker;)V"⟩
abbrev cX4_advance : ByteArray := prog_6_method_3_code
def yX4_advance : MethodName := ⟨RX4, "advance", "()V"⟩
abbrev cX4_part : ByteArray := prog_6_method_4_code
def yX4_part : MethodName := ⟨RX4, "part", "(JIII)V"⟩
abbrev cX4_join : ByteArray := prog_6_method_5_code
def yX4_join : MethodName := ⟨RX4, "join", "([JIIIJ)V"⟩
abbrev cX4_shares : ByteArray := prog_6_method_6_code
def yX4_shares : MethodName := ⟨RX4, "shares", "(I)J"⟩
def RX5 : String := "TwoOnOneBack$Scene"
def TX5 : u_T := fun k => match k with
  | 0 => ("TwoOnOneBack$Scene", "all", "[LTwoOnOneBack$Walker;", true)
  | 1 => ("TwoOnOneBack$Scene", "walkers", "I", false)
  | 2 => ("TwoOnOneBack$Scene", "row", "LTwoOnOneBack$Told;", true)
  | 3 => ("TwoOnOneBack$Scene", "tracks", "LTwoOnOneBack$Told;", true)
  | _ => ("TwoOnOneBack$Scene", "land", "LTwoOnOneBack$Land;", false)
def tyX5 : Nat → FieldType := fun k => match k with
  | 0 => .array (.object "TwoOnOneBack$Walker")
  | 1 => .int
  | 2 => .object "TwoOnOneBack$Told"
  | 3 => .object "TwoOnOneBack$Told"
  | _ => .object "TwoOnOneBack$Land"
abbrev wsX50 : List Cond := u_ws RX5 TX5 5
theorem nmX5 : ∀ a, a < 5 → ∀ b, b < 5 → a ≠ b → (TX5 a).2.1 ≠ (TX5 b).2.1 := by decide +kernel
theorem tyX5_ok : ∀ k, k < 5 → parseFieldDescriptor (TX5 k).2.2.1 = some (tyX5 k) := by decide +kernel
abbrev cX5_init : ByteArray := prog_7_method_1_code
def yX5_init : MethodName := ⟨RX5, "<init>", "(LTwoOnOneBack$Land;)V"⟩
abbrev cX5_who : ByteArray := prog_7_method_2_code
def yX5_who : MethodName := ⟨RX5, "who", "(I)LTwoOnOneBack$Walker;"⟩
abbrev cX5_added : ByteArray := prog_7_method_3_code
def yX5_added : MethodName := ⟨RX5, "added", "()LTwoOnOneBack$Walker;"⟩
abbrev cX5_become : ByteArray := prog_7_method_4_code
def yX5_become : MethodName := ⟨RX5, "become", "(LTwoOnOneBack$Scene;)V"⟩
def RX6 : String := "TwoOnOneBack$Tape"
def TX6 : u_T := fun k => match k with
  | 0 => ("TwoOnOneBack$Tape", "items", "[J", true)
  | 1 => ("TwoOnOneBack$Tape", "sort", "I", false)
  | _ => ("TwoOnOneBack$Tape", "length", "I", false)
def tyX6 : Nat → FieldType := fun k => match k with
  | 0 => .array .long
  | 1 => .int
  | _ => .int
abbrev wsX60 : List Cond := u_ws RX6 TX6 3
theorem nmX6 : ∀ a, a < 3 → ∀ b, b < 3 → a ≠ b → (TX6 a).2.1 ≠ (TX6 b).2.1 := by decide +kernel
theorem tyX6_ok : ∀ k, k < 3 → parseFieldDescriptor (TX6 k).2.2.1 = some (tyX6 k) := by decide +kernel
abbrev cX6_init : ByteArray := prog_8_method_1_code
def yX6_init : MethodName := ⟨RX6, "<init>", "()V"⟩
abbrev cX6_become : ByteArray := prog_8_method_2_code
def yX6_become : MethodName := ⟨RX6, "become", "(II)V"⟩
abbrev cX6_has : ByteArray := prog_8_method_3_code
def yX6_has : MethodName := ⟨RX6, "has", "(J)Z"⟩
abbrev cX6_reaches : ByteArray := prog_8_method_4_code
def yX6_reaches : MethodName := ⟨RX6, "reaches", "(II)Z"⟩
abbrev cX6_value : ByteArray := prog_8_method_5_code
def yX6_value : MethodName := ⟨RX6, "value", "(I)J"⟩
abbrev cX6_write : ByteArray := prog_8_method_6_code
def yX6_write : MethodName := ⟨RX6, "write", "(IJ)V"⟩
abbrev cX6_cut : ByteArray := prog_8_method_7_code
def yX6_cut : MethodName := ⟨RX6, "cut", "(J)J"⟩
def RX7 : String := "TwoOnOneBack$Text"
def TX7 : u_T := fun k => match k with
  | 0 => ("TwoOnOneBack$Text", "signs", "[B", true)
  | 1 => ("TwoOnOneBack$Text", "marks", "[J", true)
  | 2 => ("TwoOnOneBack$Text", "on", "I", false)
  | 3 => ("TwoOnOneBack$Text", "back", "I", false)
  | 4 => ("TwoOnOneBack$Text", "wrong", "Z", false)
  | 5 => ("TwoOnOneBack$Text", "length", "I", false)
  | _ => ("TwoOnOneBack$Text", "at", "I", false)
def tyX7 : Nat → FieldType := fun k => match k with
  | 0 => .array .byte
  | 1 => .array .long
  | 2 => .int
  | 3 => .int
  | 4 => .boolean
  | 5 => .int
  | _ => .int
abbrev wsX70 : List Cond := u_ws RX7 TX7 7
theorem nmX7 : ∀ a, a < 7 → ∀ b, b < 7 → a ≠ b → (TX7 a).2.1 ≠ (TX7 b).2.1 := by decide +kernel
theorem tyX7_ok : ∀ k, k < 7 → parseFieldDescriptor (TX7 k).2.2.1 = some (tyX7 k) := by decide +kernel
abbrev cX7_init : ByteArray := prog_9_method_1_code
def yX7_init : MethodName := ⟨RX7, "<init>", "()V"⟩
abbrev cX7_add : ByteArray := prog_9_method_2_code
def yX7_add : MethodName := ⟨RX7, "add", "(I)Z"⟩
abbrev cX7_parsed : ByteArray := prog_9_method_3_code
def yX7_parsed : MethodName := ⟨RX7, "parsed", "()LTwoOnOneBack$Land;"⟩
abbrev cX7_clause : ByteArray := prog_9_method_4_code
def yX7_clause : MethodName := ⟨RX7, "clause", "()V"⟩
abbrev cX7_either : ByteArray := prog_9_method_5_code
def yX7_either : MethodName := ⟨RX7, "either", "(I)J"⟩
abbrev cX7_both : ByteArray := prog_9_method_6_code
def yX7_both : MethodName := ⟨RX7, "both", "(I)J"⟩
abbrev cX7_single : ByteArray := prog_9_method_7_code
def yX7_single : MethodName := ⟨RX7, "single", "(I)J"⟩
abbrev cX7_tested : ByteArray := prog_9_method_8_code
def yX7_tested : MethodName := ⟨RX7, "tested", "(III)J"⟩
abbrev cX7_measure : ByteArray := prog_9_method_9_code
def yX7_measure : MethodName := ⟨RX7, "measure", "(II)I"⟩
abbrev cX7_number : ByteArray := prog_9_method_10_code
def yX7_number : MethodName := ⟨RX7, "number", "()I"⟩
abbrev cX7_oneOf : ByteArray := prog_9_method_11_code
def yX7_oneOf : MethodName := ⟨RX7, "oneOf", "(Ljava/lang/String;)I"⟩
abbrev cX7_oneIf : ByteArray := prog_9_method_12_code
def yX7_oneIf : MethodName := ⟨RX7, "oneIf", "(Ljava/lang/String;)I"⟩
abbrev cX7_needs : ByteArray := prog_9_method_13_code
def yX7_needs : MethodName := ⟨RX7, "needs", "(Ljava/lang/String;)V"⟩
abbrev cX7_takes : ByteArray := prog_9_method_14_code
def yX7_takes : MethodName := ⟨RX7, "takes", "(C)Z"⟩
def RX8 : String := "TwoOnOneBack$Told"
def TX8 : u_T := fun k => match k with
  | 0 => ("TwoOnOneBack$Told", "numbers", "[I", true)
  | _ => ("TwoOnOneBack$Told", "length", "I", false)
def tyX8 : Nat → FieldType := fun k => match k with
  | 0 => .array .int
  | _ => .int
abbrev wsX80 : List Cond := u_ws RX8 TX8 2
theorem nmX8 : ∀ a, a < 2 → ∀ b, b < 2 → a ≠ b → (TX8 a).2.1 ≠ (TX8 b).2.1 := by decide +kernel
theorem tyX8_ok : ∀ k, k < 2 → parseFieldDescriptor (TX8 k).2.2.1 = some (tyX8 k) := by decide +kernel
abbrev cX8_init : ByteArray := prog_10_method_1_code
def yX8_init : MethodName := ⟨RX8, "<init>", "()V"⟩
abbrev cX8_at : ByteArray := prog_10_method_2_code
def yX8_at : MethodName := ⟨RX8, "at", "(I)I"⟩
abbrev cX8_tell : ByteArray := prog_10_method_3_code
def yX8_tell : MethodName := ⟨RX8, "tell", "(I)I"⟩
abbrev cX8_become : ByteArray := prog_10_method_4_code
def yX8_become : MethodName := ⟨RX8, "become", "(LTwoOnOneBack$Told;)V"⟩
def RX9 : String := "TwoOnOneBack$Walker"
def TX9 : u_T := fun k => match k with
  | 0 => ("TwoOnOneBack$Walker", "kind", "I", false)
  | 1 => ("TwoOnOneBack$Walker", "v", "I", false)
  | 2 => ("TwoOnOneBack$Walker", "cell", "I", false)
  | 3 => ("TwoOnOneBack$Walker", "facing", "I", false)
  | 4 => ("TwoOnOneBack$Walker", "beat", "I", false)
  | 5 => ("TwoOnOneBack$Walker", "gone", "I", false)
  | _ => ("TwoOnOneBack$Walker", "came", "I", false)
def tyX9 : Nat → FieldType := fun k => match k with
  | 0 => .int
  | 1 => .int
  | 2 => .int
  | 3 => .int
  | 4 => .int
  | 5 => .int
  | _ => .int
abbrev wsX90 : List Cond := u_ws RX9 TX9 7
theorem nmX9 : ∀ a, a < 7 → ∀ b, b < 7 → a ≠ b → (TX9 a).2.1 ≠ (TX9 b).2.1 := by decide +kernel
theorem tyX9_ok : ∀ k, k < 7 → parseFieldDescriptor (TX9 k).2.2.1 = some (tyX9 k) := by decide +kernel
abbrev cX9_init : ByteArray := prog_11_method_1_code
def yX9_init : MethodName := ⟨RX9, "<init>", "()V"⟩
abbrev cX9_stands : ByteArray := prog_11_method_2_code
def yX9_stands : MethodName := ⟨RX9, "stands", "(III)V"⟩
abbrev cX9_become : ByteArray := prog_11_method_3_code
def yX9_become : MethodName := ⟨RX9, "become", "(LTwoOnOneBack$Walker;)V"⟩
def RX10 : String := "TwoOnOneBack"
def TX10 : u_T := fun k => match k with
  | 0 => ("TwoOnOneBack", "text", "LTwoOnOneBack$Text;", true)
  | 1 => ("TwoOnOneBack", "now", "LTwoOnOneBack$Scene;", true)
  | 2 => ("TwoOnOneBack", "kept", "LTwoOnOneBack$Scene;", true)
  | 3 => ("TwoOnOneBack", "gait", "LTwoOnOneBack$Gait;", true)
  | 4 => ("TwoOnOneBack", "trial", "LTwoOnOneBack$Walker;", true)
  | 5 => ("TwoOnOneBack", "crowd", "LTwoOnOneBack$Crowd;", true)
  | 6 => ("TwoOnOneBack", "others", "LTwoOnOneBack$Crowd;", true)
  | 7 => ("TwoOnOneBack", "lots", "LTwoOnOneBack$Lots;", true)
  | 8 => ("TwoOnOneBack", "bodies", "LTwoOnOneBack$Bodies;", true)
  | 9 => ("TwoOnOneBack", "tapes", "[LTwoOnOneBack$Tape;", true)
  | 10 => ("TwoOnOneBack", "lands", "I", false)
  | _ => ("TwoOnOneBack", "imaged", "Z", false)
def tyX10 : Nat → FieldType := fun k => match k with
  | 0 => .object "TwoOnOneBack$Text"
  | 1 => .object "TwoOnOneBack$Scene"
  | 2 => .object "TwoOnOneBack$Scene"
  | 3 => .object "TwoOnOneBack$Gait"
  | 4 => .object "TwoOnOneBack$Walker"
  | 5 => .object "TwoOnOneBack$Crowd"
  | 6 => .object "TwoOnOneBack$Crowd"
  | 7 => .object "TwoOnOneBack$Lots"
  | 8 => .object "TwoOnOneBack$Bodies"
  | 9 => .array (.object "TwoOnOneBack$Tape")
  | 10 => .int
  | _ => .boolean
abbrev wsX100 : List Cond := u_ws RX10 TX10 12
theorem nmX10 : ∀ a, a < 12 → ∀ b, b < 12 → a ≠ b → (TX10 a).2.1 ≠ (TX10 b).2.1 := by decide +kernel
theorem tyX10_ok : ∀ k, k < 12 → parseFieldDescriptor (TX10 k).2.2.1 = some (tyX10 k) := by decide +kernel
abbrev cX10_init : ByteArray := prog_1_method_1_code
def yX10_init : MethodName := ⟨RX10, "<init>", "()V"⟩
abbrev cX10_feed : ByteArray := prog_1_method_2_code
def yX10_feed : MethodName := ⟨RX10, "feed", "(I)I"⟩
abbrev cX10_land : ByteArray := prog_1_method_3_code
def yX10_land : MethodName := ⟨RX10, "land", "()I"⟩
abbrev cX10_told : ByteArray := prog_1_method_4_code
def yX10_told : MethodName := ⟨RX10, "told", "(I)I"⟩
abbrev cX10_ground : ByteArray := prog_1_method_5_code
def yX10_ground : MethodName := ⟨RX10, "ground", "(II)I"⟩
abbrev cX10_walker : ByteArray := prog_1_method_6_code
def yX10_walker : MethodName := ⟨RX10, "walker", "(IIII)I"⟩
abbrev cX10_of : ByteArray := prog_1_method_7_code
def yX10_of : MethodName := ⟨RX10, "of", "(II)I"⟩
abbrev cX10_put : ByteArray := prog_1_method_8_code
def yX10_put : MethodName := ⟨RX10, "put", "(IIII)I"⟩
abbrev cX10_may : ByteArray := prog_1_method_9_code
def yX10_may : MethodName := ⟨RX10, "may", "(I)I"⟩
abbrev cX10_step : ByteArray := prog_1_method_10_code
def yX10_step : MethodName := ⟨RX10, "step", "(II)I"⟩
abbrev cX10_allowed : ByteArray := prog_1_method_11_code
def yX10_allowed : MethodName := ⟨RX10, "allowed", "(LTwoOnOneBack$Walker;)I"⟩
abbrev cX10_goes : ByteArray := prog_1_method_12_code
def yX10_goes : MethodName := ⟨RX10, "goes", "(LTwoOnOneBack$Walker;I)Z"⟩
abbrev cX10_soonest : ByteArray := prog_1_method_13_code
def yX10_soonest : MethodName := ⟨RX10, "soonest", "(III)I"⟩
abbrev cX10_firstStep : ByteArray := prog_1_method_14_code
def yX10_firstStep : MethodName := ⟨RX10, "firstStep", "(LTwoOnOneBack$Walker;II)I"⟩
abbrev cX10_begin : ByteArray := prog_1_method_15_code
def yX10_begin : MethodName := ⟨RX10, "begin", "(III)I"⟩
abbrev cX10_reached : ByteArray := prog_1_method_16_code
def yX10_reached : MethodName := ⟨RX10, "reached", "(II)J"⟩
abbrev cX10_never : ByteArray := prog_1_method_17_code
def yX10_never : MethodName := ⟨RX10, "never", "(I)J"⟩
abbrev cX10_within : ByteArray := prog_1_method_18_code
def yX10_within : MethodName := ⟨RX10, "within", "(LTwoOnOneBack$Walker;I)J"⟩
abbrev cX10_meet : ByteArray := prog_1_method_19_code
def yX10_meet : MethodName := ⟨RX10, "meet", "(III)I"⟩
abbrev cX10_home : ByteArray := prog_1_method_20_code
def yX10_home : MethodName := ⟨RX10, "home", "(I)I"⟩
abbrev cX10_row : ByteArray := prog_1_method_21_code
def yX10_row : MethodName := ⟨RX10, "row", "(I)I"⟩
abbrev cX10_hand : ByteArray := prog_1_method_22_code
def yX10_hand : MethodName := ⟨RX10, "hand", "(II)I"⟩
abbrev cX10_track : ByteArray := prog_1_method_23_code
def yX10_track : MethodName := ⟨RX10, "track", "(I)I"⟩
abbrev cX10_tracks : ByteArray := prog_1_method_24_code
def yX10_tracks : MethodName := ⟨RX10, "tracks", "(II)I"⟩
abbrev cX10_left : ByteArray := prog_1_method_25_code
def yX10_left : MethodName := ⟨RX10, "left", "(III)Z"⟩
abbrev cX10_lot : ByteArray := prog_1_method_26_code
def yX10_lot : MethodName := ⟨RX10, "lot", "(IIII)J"⟩
abbrev cX10_slower : ByteArray := prog_1_method_27_code
def yX10_slower : MethodName := ⟨RX10, "slower", "(IIII)I"⟩
abbrev cX10_judge : ByteArray := prog_1_method_28_code
def yX10_judge : MethodName := ⟨RX10, "judge", "(II)I"⟩
abbrev cX10_image : ByteArray := prog_1_method_29_code
def yX10_image : MethodName := ⟨RX10, "image", "()I"⟩
abbrev cX10_undo : ByteArray := prog_1_method_30_code
def yX10_undo : MethodName := ⟨RX10, "undo", "()I"⟩
abbrev cX10_act : ByteArray := prog_1_method_31_code
def yX10_act : MethodName := ⟨RX10, "act", "(III)I"⟩
abbrev cX10_trace : ByteArray := prog_1_method_32_code
def yX10_trace : MethodName := ⟨RX10, "trace", "(I)I"⟩
abbrev cX10_taken : ByteArray := prog_1_method_33_code
def yX10_taken : MethodName := ⟨RX10, "taken", "(II)I"⟩
abbrev cX10_count : ByteArray := prog_1_method_34_code
def yX10_count : MethodName := ⟨RX10, "count", "(I)I"⟩
abbrev cX10_tape : ByteArray := prog_1_method_35_code
def yX10_tape : MethodName := ⟨RX10, "tape", "(III)I"⟩
abbrev cX10_item : ByteArray := prog_1_method_36_code
def yX10_item : MethodName := ⟨RX10, "item", "(IIJ)I"⟩
abbrev cX10_read : ByteArray := prog_1_method_37_code
def yX10_read : MethodName := ⟨RX10, "read", "(II)J"⟩
abbrev cX10_shift : ByteArray := prog_1_method_38_code
def yX10_shift : MethodName := ⟨RX10, "shift", "(IIIII)I"⟩
abbrev cX10_tapeAt : ByteArray := prog_1_method_39_code
def yX10_tapeAt : MethodName := ⟨RX10, "tapeAt", "(I)LTwoOnOneBack$Tape;"⟩
abbrev cX10_isCell : ByteArray := prog_1_method_40_code
def yX10_isCell : MethodName := ⟨RX10, "isCell", "(I)Z"⟩
abbrev cX10_isWay : ByteArray := prog_1_method_41_code
def yX10_isWay : MethodName := ⟨RX10, "isWay", "(I)Z"⟩
abbrev cX10_isKind : ByteArray := prog_1_method_42_code
def yX10_isKind : MethodName := ⟨RX10, "isKind", "(I)Z"⟩
abbrev cX10_isNumber : ByteArray := prog_1_method_43_code
def yX10_isNumber : MethodName := ⟨RX10, "isNumber", "(I)Z"⟩
abbrev cX10_isStep : ByteArray := prog_1_method_44_code
def yX10_isStep : MethodName := ⟨RX10, "isStep", "(I)Z"⟩
abbrev cX10_isPart : ByteArray := prog_1_method_45_code
def yX10_isPart : MethodName := ⟨RX10, "isPart", "(I)Z"⟩
abbrev cX10_holds : ByteArray := prog_1_method_46_code
def yX10_holds : MethodName := ⟨RX10, "holds", "(JI)Z"⟩
abbrev cX10_across : ByteArray := prog_1_method_47_code
def yX10_across : MethodName := ⟨RX10, "across", "(I)I"⟩
abbrev cX10_next : ByteArray := prog_1_method_48_code
def yX10_next : MethodName := ⟨RX10, "next", "(II)I"⟩
abbrev cX10_moved : ByteArray := prog_1_method_49_code
def yX10_moved : MethodName := ⟨RX10, "moved", "(JI)J"⟩
abbrev cX10_facingBy : ByteArray := prog_1_method_50_code
def yX10_facingBy : MethodName := ⟨RX10, "facingBy", "(II)I"⟩
abbrev cX10_cameBy : ByteArray := prog_1_method_51_code
def yX10_cameBy : MethodName := ⟨RX10, "cameBy", "(III)I"⟩
abbrev cX10_above : ByteArray := prog_1_method_52_code
def yX10_above : MethodName := ⟨RX10, "above", "(I)I"⟩
abbrev cX10_isUnder : ByteArray := prog_1_method_53_code
def yX10_isUnder : MethodName := ⟨RX10, "isUnder", "(II)Z"⟩
abbrev cX10_common : ByteArray := prog_1_method_54_code
def yX10_common : MethodName := ⟨RX10, "common", "(JJ)J"⟩
def RX11 : String := "TwoOnOneBackModel"
def TX11 : u_T := fun k => match k with
  | 0 => ("TwoOnOneBackModel", "s", "[I", true)
  | 1 => ("TwoOnOneBackModel", "image", "[I", true)
  | 2 => ("TwoOnOneBackModel", "isImage", "Z", false)
  | 3 => ("TwoOnOneBackModel", "on", "[I", true)
  | 4 => ("TwoOnOneBackModel", "back", "[I", true)
  | 5 => ("TwoOnOneBackModel", "marks", "[I", true)
  | 6 => ("TwoOnOneBackModel", "lands", "I", false)
  | 7 => ("TwoOnOneBackModel", "text", "[I", true)
  | 8 => ("TwoOnOneBackModel", "texted", "I", false)
  | 9 => ("TwoOnOneBackModel", "at", "I", false)
  | 10 => ("TwoOnOneBackModel", "depth", "I", false)
  | 11 => ("TwoOnOneBackModel", "isWrong", "Z", false)
  | 12 => ("TwoOnOneBackModel", "readMarks", "[I", true)
  | 13 => ("TwoOnOneBackModel", "readOn", "I", false)
  | 14 => ("TwoOnOneBackModel", "readBack", "I", false)
  | 15 => ("TwoOnOneBackModel", "now", "[I", true)
  | 16 => ("TwoOnOneBackModel", "next", "[I", true)
  | 17 => ("TwoOnOneBackModel", "weight", "[J", true)
  | 18 => ("TwoOnOneBackModel", "nextWeight", "[J", true)
  | 19 => ("TwoOnOneBackModel", "kind", "I", false)
  | 20 => ("TwoOnOneBackModel", "number", "I", false)
  | 21 => ("TwoOnOneBackModel", "beat0", "I", false)
  | 22 => ("TwoOnOneBackModel", "gone0", "I", false)
  | 23 => ("TwoOnOneBackModel", "went", "I", false)
  | 24 => ("TwoOnOneBackModel", "soonestFirst", "I", false)
  | 25 => ("TwoOnOneBackModel", "placesAt", "[J", true)
  | 26 => ("TwoOnOneBackModel", "walkerWas", "[I", true)
  | 27 => ("TwoOnOneBackModel", "trace", "[I", true)
  | 28 => ("TwoOnOneBackModel", "traced", "I", false)
  | 29 => ("TwoOnOneBackModel", "actor", "I", false)
  | 30 => ("TwoOnOneBackModel", "sort", "[I", true)
  | 31 => ("TwoOnOneBackModel", "size", "[I", true)
  | 32 => ("TwoOnOneBackModel", "holds", "[Z", true)
  | _ => ("TwoOnOneBackModel", "item", "[J", true)
def tyX11 : Nat → FieldType := fun k => match k with
  | 0 => .array .int
  | 1 => .array .int
  | 2 => .boolean
  | 3 => .array .int
  | 4 => .array .int
  | 5 => .array .int
  | 6 => .int
  | 7 => .array .int
  | 8 => .int
  | 9 => .int
  | 10 => .int
  | 11 => .boolean
  | 12 => .array .int
  | 13 => .int
  | 14 => .int
  | 15 => .array .int
  | 16 => .array .int
  | 17 => .array .long
  | 18 => .array .long
  | 19 => .int
  | 20 => .int
  | 21 => .int
  | 22 => .int
  | 23 => .int
  | 24 => .int
  | 25 => .array .long
  | 26 => .array .int
  | 27 => .array .int
  | 28 => .int
  | 29 => .int
  | 30 => .array .int
  | 31 => .array .int
  | 32 => .array .boolean
  | _ => .array .long
abbrev wsX110 : List Cond := u_ws RX11 TX11 34
theorem nmX11 : ∀ a, a < 34 → ∀ b, b < 34 → a ≠ b → (TX11 a).2.1 ≠ (TX11 b).2.1 := by decide +kernel
theorem tyX11_ok : ∀ k, k < 34 → parseFieldDescriptor (TX11 k).2.2.1 = some (tyX11 k) := by decide +kernel
abbrev cX11_init : ByteArray := prog_13_method_1_code
def yX11_init : MethodName := ⟨RX11, "<init>", "()V"⟩
abbrev cX11_isIn : ByteArray := prog_13_method_2_code
def yX11_isIn : MethodName := ⟨RX11, "isIn", "(II)Z"⟩
abbrev cX11_isWalker : ByteArray := prog_13_method_3_code
def yX11_isWalker : MethodName := ⟨RX11, "isWalker", "(I)Z"⟩
abbrev cX11_isCell : ByteArray := prog_13_method_4_code
def yX11_isCell : MethodName := ⟨RX11, "isCell", "(I)Z"⟩
abbrev cX11_get : ByteArray := prog_13_method_5_code
def yX11_get : MethodName := ⟨RX11, "get", "(II)I"⟩
abbrev cX11_puts : ByteArray := prog_13_method_6_code
def yX11_puts : MethodName := ⟨RX11, "puts", "(III)V"⟩
abbrev cX11_feed : ByteArray := prog_13_method_7_code
def yX11_feed : MethodName := ⟨RX11, "feed", "(I)I"⟩
abbrev cX11_here : ByteArray := prog_13_method_8_code
def yX11_here : MethodName := ⟨RX11, "here", "()I"⟩
abbrev cX11_takes : ByteArray := prog_13_method_9_code
def yX11_takes : MethodName := ⟨RX11, "takes", "(I)V"⟩
abbrev cX11_number : ByteArray := prog_13_method_10_code
def yX11_number : MethodName := ⟨RX11, "number", "()I"⟩
abbrev cX11_amount : ByteArray := prog_13_method_11_code
def yX11_amount : MethodName := ⟨RX11, "amount", "(I)I"⟩
abbrev cX11_valueOf : ByteArray := prog_13_method_12_code
def yX11_valueOf : MethodName := ⟨RX11, "valueOf", "(II)I"⟩
abbrev cX11_test : ByteArray := prog_13_method_13_code
def yX11_test : MethodName := ⟨RX11, "test", "()J"⟩
abbrev cX11_factor : ByteArray := prog_13_method_14_code
def yX11_factor : MethodName := ⟨RX11, "factor", "()J"⟩
abbrev cX11_term : ByteArray := prog_13_method_15_code
def yX11_term : MethodName := ⟨RX11, "term", "()J"⟩
abbrev cX11_either : ByteArray := prog_13_method_16_code
def yX11_either : MethodName := ⟨RX11, "either", "()J"⟩
abbrev cX11_word : ByteArray := prog_13_method_17_code
def yX11_word : MethodName := ⟨RX11, "word", "(IIIII)V"⟩
abbrev cX11_marksBy : ByteArray := prog_13_method_18_code
def yX11_marksBy : MethodName := ⟨RX11, "marksBy", "(I)V"⟩
abbrev cX11_clause : ByteArray := prog_13_method_19_code
def yX11_clause : MethodName := ⟨RX11, "clause", "()V"⟩
abbrev cX11_held : ByteArray := prog_13_method_20_code
def yX11_held : MethodName := ⟨RX11, "held", "(I)I"⟩
abbrev cX11_reads : ByteArray := prog_13_method_21_code
def yX11_reads : MethodName := ⟨RX11, "reads", "()V"⟩
abbrev cX11_land : ByteArray := prog_13_method_22_code
def yX11_land : MethodName := ⟨RX11, "land", "()I"⟩
abbrev cX11_onBeats : ByteArray := prog_13_method_23_code
def yX11_onBeats : MethodName := ⟨RX11, "onBeats", "()I"⟩
abbrev cX11_beats : ByteArray := prog_13_method_24_code
def yX11_beats : MethodName := ⟨RX11, "beats", "()I"⟩
abbrev cX11_told : ByteArray := prog_13_method_25_code
def yX11_told : MethodName := ⟨RX11, "told", "(I)I"⟩
abbrev cX11_isMarked : ByteArray := prog_13_method_26_code
def yX11_isMarked : MethodName := ⟨RX11, "isMarked", "(II)Z"⟩
abbrev cX11_ground : ByteArray := prog_13_method_27_code
def yX11_ground : MethodName := ⟨RX11, "ground", "(II)I"⟩
abbrev cX11_walker : ByteArray := prog_13_method_28_code
def yX11_walker : MethodName := ⟨RX11, "walker", "(IIII)I"⟩
abbrev cX11_beatOf : ByteArray := prog_13_method_29_code
def yX11_beatOf : MethodName := ⟨RX11, "beatOf", "(I)I"⟩
abbrev cX11_of : ByteArray := prog_13_method_30_code
def yX11_of : MethodName := ⟨RX11, "of", "(II)I"⟩
abbrev cX11_put : ByteArray := prog_13_method_31_code
def yX11_put : MethodName := ⟨RX11, "put", "(IIII)I"⟩
abbrev cX11_beside : ByteArray := prog_13_method_32_code
def yX11_beside : MethodName := ⟨RX11, "beside", "(II)I"⟩
abbrev cX11_goesOn : ByteArray := prog_13_method_33_code
def yX11_goesOn : MethodName := ⟨RX11, "goesOn", "(III)Z"⟩
abbrev cX11_backTo : ByteArray := prog_13_method_34_code
def yX11_backTo : MethodName := ⟨RX11, "backTo", "(IIII)I"⟩
abbrev cX11_goesBack : ByteArray := prog_13_method_35_code
def yX11_goesBack : MethodName := ⟨RX11, "goesBack", "(IIII)Z"⟩
abbrev cX11_mayOn : ByteArray := prog_13_method_36_code
def yX11_mayOn : MethodName := ⟨RX11, "mayOn", "(IIIII)I"⟩
abbrev cX11_mayBy : ByteArray := prog_13_method_37_code
def yX11_mayBy : MethodName := ⟨RX11, "mayBy", "(IIIIIII)I"⟩
abbrev cX11_mayNow : ByteArray := prog_13_method_38_code
def yX11_mayNow : MethodName := ⟨RX11, "mayNow", "(I)I"⟩
abbrev cX11_may : ByteArray := prog_13_method_39_code
def yX11_may : MethodName := ⟨RX11, "may", "(I)I"⟩
abbrev cX11_steps : ByteArray := prog_13_method_40_code
def yX11_steps : MethodName := ⟨RX11, "steps", "(II)V"⟩
abbrev cX11_step : ByteArray := prog_13_method_41_code
def yX11_step : MethodName := ⟨RX11, "step", "(II)I"⟩
abbrev cX11_stateOf : ByteArray := prog_13_method_42_code
def yX11_stateOf : MethodName := ⟨RX11, "stateOf", "(III)I"⟩
abbrev cX11_comesTo : ByteArray := prog_13_method_43_code
def yX11_comesTo : MethodName := ⟨RX11, "comesTo", "(IIII)I"⟩
abbrev cX11_begins : ByteArray := prog_13_method_44_code
def yX11_begins : MethodName := ⟨RX11, "begins", "(IIIIIII)V"⟩
abbrev cX11_beginsAs : ByteArray := prog_13_method_45_code
def yX11_beginsAs : MethodName := ⟨RX11, "beginsAs", "(II)V"⟩
abbrev cX11_bits : ByteArray := prog_13_method_46_code
def yX11_bits : MethodName := ⟨RX11, "bits", "(I)I"⟩
abbrev cX11_goesBeat : ByteArray := prog_13_method_47_code
def yX11_goesBeat : MethodName := ⟨RX11, "goesBeat", "()V"⟩
abbrev cX11_cellsNow : ByteArray := prog_13_method_48_code
def yX11_cellsNow : MethodName := ⟨RX11, "cellsNow", "()J"⟩
abbrev cX11_firstTo : ByteArray := prog_13_method_49_code
def yX11_firstTo : MethodName := ⟨RX11, "firstTo", "(I)I"⟩
abbrev cX11_soonestTo : ByteArray := prog_13_method_50_code
def yX11_soonestTo : MethodName := ⟨RX11, "soonestTo", "(I)I"⟩
abbrev cX11_soonest : ByteArray := prog_13_method_51_code
def yX11_soonest : MethodName := ⟨RX11, "soonest", "(III)I"⟩
abbrev cX11_begin : ByteArray := prog_13_method_52_code
def yX11_begin : MethodName := ⟨RX11, "begin", "(III)I"⟩
abbrev cX11_within : ByteArray := prog_13_method_53_code
def yX11_within : MethodName := ⟨RX11, "within", "(II)J"⟩
abbrev cX11_reached : ByteArray := prog_13_method_54_code
def yX11_reached : MethodName := ⟨RX11, "reached", "(II)J"⟩
abbrev cX11_never : ByteArray := prog_13_method_55_code
def yX11_never : MethodName := ⟨RX11, "never", "(I)J"⟩
abbrev cX11_meet : ByteArray := prog_13_method_56_code
def yX11_meet : MethodName := ⟨RX11, "meet", "(III)I"⟩
abbrev cX11_home : ByteArray := prog_13_method_57_code
def yX11_home : MethodName := ⟨RX11, "home", "(I)I"⟩
abbrev cX11_row : ByteArray := prog_13_method_58_code
def yX11_row : MethodName := ⟨RX11, "row", "(I)I"⟩
abbrev cX11_hand : ByteArray := prog_13_method_59_code
def yX11_hand : MethodName := ⟨RX11, "hand", "(II)I"⟩
abbrev cX11_track : ByteArray := prog_13_method_60_code
def yX11_track : MethodName := ⟨RX11, "track", "(I)I"⟩
abbrev cX11_mightHave : ByteArray := prog_13_method_61_code
def yX11_mightHave : MethodName := ⟨RX11, "mightHave", "(IIII)Z"⟩
abbrev cX11_tracks : ByteArray := prog_13_method_62_code
def yX11_tracks : MethodName := ⟨RX11, "tracks", "(II)I"⟩
abbrev cX11_common : ByteArray := prog_13_method_63_code
def yX11_common : MethodName := ⟨RX11, "common", "(JJ)J"⟩
abbrev cX11_lot : ByteArray := prog_13_method_64_code
def yX11_lot : MethodName := ⟨RX11, "lot", "(IIII)J"⟩
abbrev cX11_soonestBy : ByteArray := prog_13_method_65_code
def yX11_soonestBy : MethodName := ⟨RX11, "soonestBy", "(III)I"⟩
abbrev cX11_slower : ByteArray := prog_13_method_66_code
def yX11_slower : MethodName := ⟨RX11, "slower", "(IIII)I"⟩
abbrev cX11_above : ByteArray := prog_13_method_67_code
def yX11_above : MethodName := ⟨RX11, "above", "(I)I"⟩
abbrev cX11_runs : ByteArray := prog_13_method_68_code
def yX11_runs : MethodName := ⟨RX11, "runs", "(I)V"⟩
abbrev cX11_bodyOf : ByteArray := prog_13_method_69_code
def yX11_bodyOf : MethodName := ⟨RX11, "bodyOf", "(III)I"⟩
abbrev cX11_hasBody : ByteArray := prog_13_method_70_code
def yX11_hasBody : MethodName := ⟨RX11, "hasBody", "(II)Z"⟩
abbrev cX11_acts : ByteArray := prog_13_method_71_code
def yX11_acts : MethodName := ⟨RX11, "acts", "(II)I"⟩
abbrev cX11_act : ByteArray := prog_13_method_72_code
def yX11_act : MethodName := ⟨RX11, "act", "(III)I"⟩
abbrev cX11_trace : ByteArray := prog_13_method_73_code
def yX11_trace : MethodName := ⟨RX11, "trace", "(I)I"⟩
abbrev cX11_taken : ByteArray := prog_13_method_74_code
def yX11_taken : MethodName := ⟨RX11, "taken", "(II)I"⟩
abbrev cX11_judge : ByteArray := prog_13_method_75_code
def yX11_judge : MethodName := ⟨RX11, "judge", "(II)I"⟩
abbrev cX11_image : ByteArray := prog_13_method_76_code
def yX11_image : MethodName := ⟨RX11, "image", "()I"⟩
abbrev cX11_undo : ByteArray := prog_13_method_77_code
def yX11_undo : MethodName := ⟨RX11, "undo", "()I"⟩
abbrev cX11_count : ByteArray := prog_13_method_78_code
def yX11_count : MethodName := ⟨RX11, "count", "(I)I"⟩
abbrev cX11_tape : ByteArray := prog_13_method_79_code
def yX11_tape : MethodName := ⟨RX11, "tape", "(III)I"⟩
abbrev cX11_item : ByteArray := prog_13_method_80_code
def yX11_item : MethodName := ⟨RX11, "item", "(IIJ)I"⟩
abbrev cX11_read : ByteArray := prog_13_method_81_code
def yX11_read : MethodName := ⟨RX11, "read", "(II)J"⟩
abbrev cX11_shift : ByteArray := prog_13_method_82_code
def yX11_shift : MethodName := ⟨RX11, "shift", "(IIIII)I"⟩
def RJx145de : String := "java/io/Serializable"
def TJx145de : u_T := fun k => match k with
  | _ => ("", "", "", false)
def tyJx145de : Nat → FieldType := fun k => match k with
  | _ => .int
abbrev wsJx145de0 : List Cond := u_ws RJx145de TJx145de 0
theorem nmJx145de : ∀ a, a < 0 → ∀ b, b < 0 → a ≠ b → (TJx145de a).2.1 ≠ (TJx145de b).2.1 := by decide +kernel
theorem tyJx145de_ok : ∀ k, k < 0 → parseFieldDescriptor (TJx145de k).2.2.1 = some (tyJx145de k) := by decide +kernel
def RJx9f9b0 : String := "java/lang/CharSequence"
def TJx9f9b0 : u_T := fun k => match k with
  | _ => ("", "", "", false)
def tyJx9f9b0 : Nat → FieldType := fun k => match k with
  | _ => .int
abbrev wsJx9f9b00 : List Cond := u_ws RJx9f9b0 TJx9f9b0 0
theorem nmJx9f9b0 : ∀ a, a < 0 → ∀ b, b < 0 → a ≠ b → (TJx9f9b0 a).2.1 ≠ (TJx9f9b0 b).2.1 := by decide +kernel
theorem tyJx9f9b0_ok : ∀ k, k < 0 → parseFieldDescriptor (TJx9f9b0 k).2.2.1 = some (tyJx9f9b0 k) := by decide +kernel
def RJxb160c : String := "java/lang/Comparable"
def TJxb160c : u_T := fun k => match k with
  | _ => ("", "", "", false)
def tyJxb160c : Nat → FieldType := fun k => match k with
  | _ => .int
abbrev wsJxb160c0 : List Cond := u_ws RJxb160c TJxb160c 0
theorem nmJxb160c : ∀ a, a < 0 → ∀ b, b < 0 → a ≠ b → (TJxb160c a).2.1 ≠ (TJxb160c b).2.1 := by decide +kernel
theorem tyJxb160c_ok : ∀ k, k < 0 → parseFieldDescriptor (TJxb160c k).2.2.1 = some (tyJxb160c k) := by decide +kernel
def RJ6 : String := "java/lang/Integer"
def TJ6 : u_T := fun k => match k with
  | _ => ("", "", "", false)
def tyJ6 : Nat → FieldType := fun k => match k with
  | _ => .int
abbrev wsJ60 : List Cond := u_ws RJ6 TJ6 0
theorem nmJ6 : ∀ a, a < 0 → ∀ b, b < 0 → a ≠ b → (TJ6 a).2.1 ≠ (TJ6 b).2.1 := by decide +kernel
theorem tyJ6_ok : ∀ k, k < 0 → parseFieldDescriptor (TJ6 k).2.2.1 = some (tyJ6 k) := by decide +kernel
abbrev cJ6_compare_7cf53 : ByteArray := prog_14_method_40_code
def yJ6_compare_7cf53 : MethodName := ⟨RJ6, "compare", "(II)I"⟩
abbrev cJ6_numberOfTrailingZeros_0f7a4 : ByteArray := prog_14_method_48_code
def yJ6_numberOfTrailingZeros_0f7a4 : MethodName := ⟨RJ6, "numberOfTrailingZeros", "(I)I"⟩
abbrev cJ6_bitCount_0f7a4 : ByteArray := prog_14_method_49_code
def yJ6_bitCount_0f7a4 : MethodName := ⟨RJ6, "bitCount", "(I)I"⟩
def RJ13 : String := "java/lang/Long"
def TJ13 : u_T := fun k => match k with
  | _ => ("", "", "", false)
def tyJ13 : Nat → FieldType := fun k => match k with
  | _ => .int
abbrev wsJ130 : List Cond := u_ws RJ13 TJ13 0
theorem nmJ13 : ∀ a, a < 0 → ∀ b, b < 0 → a ≠ b → (TJ13 a).2.1 ≠ (TJ13 b).2.1 := by decide +kernel
theorem tyJ13_ok : ∀ k, k < 0 → parseFieldDescriptor (TJ13 k).2.2.1 = some (tyJ13 k) := by decide +kernel
abbrev cJ13_numberOfTrailingZeros_95d88 : ByteArray := prog_15_method_49_code
def yJ13_numberOfTrailingZeros_95d88 : MethodName := ⟨RJ13, "numberOfTrailingZeros", "(J)I"⟩
def RJ9 : String := "java/lang/Math"
def TJ9 : u_T := fun k => match k with
  | _ => ("", "", "", false)
def tyJ9 : Nat → FieldType := fun k => match k with
  | _ => .int
abbrev wsJ90 : List Cond := u_ws RJ9 TJ9 0
theorem nmJ9 : ∀ a, a < 0 → ∀ b, b < 0 → a ≠ b → (TJ9 a).2.1 ≠ (TJ9 b).2.1 := by decide +kernel
theorem tyJ9_ok : ∀ k, k < 0 → parseFieldDescriptor (TJ9 k).2.2.1 = some (tyJ9 k) := by decide +kernel
abbrev cJ9_abs_0f7a4 : ByteArray := prog_16_method_59_code
def yJ9_abs_0f7a4 : MethodName := ⟨RJ9, "abs", "(I)I"⟩
abbrev cJ9_max_7cf53 : ByteArray := prog_16_method_65_code
def yJ9_max_7cf53 : MethodName := ⟨RJ9, "max", "(II)I"⟩
abbrev cJ9_min_7cf53 : ByteArray := prog_16_method_69_code
def yJ9_min_7cf53 : MethodName := ⟨RJ9, "min", "(II)I"⟩
def RJxd2413 : String := "java/lang/Number"
def TJxd2413 : u_T := fun k => match k with
  | _ => ("", "", "", false)
def tyJxd2413 : Nat → FieldType := fun k => match k with
  | _ => .int
abbrev wsJxd24130 : List Cond := u_ws RJxd2413 TJxd2413 0
theorem nmJxd2413 : ∀ a, a < 0 → ∀ b, b < 0 → a ≠ b → (TJxd2413 a).2.1 ≠ (TJxd2413 b).2.1 := by decide +kernel
theorem tyJxd2413_ok : ∀ k, k < 0 → parseFieldDescriptor (TJxd2413 k).2.2.1 = some (tyJxd2413 k) := by decide +kernel
def RJ0 : String := "java/lang/String"
def TJ0 : u_T := fun k => match k with
  | _ => ("", "", "", false)
def tyJ0 : Nat → FieldType := fun k => match k with
  | _ => .int
abbrev wsJ00 : List Cond := u_ws RJ0 TJ0 0
theorem nmJ0 : ∀ a, a < 0 → ∀ b, b < 0 → a ≠ b → (TJ0 a).2.1 ≠ (TJ0 b).2.1 := by decide +kernel
theorem tyJ0_ok : ∀ k, k < 0 → parseFieldDescriptor (TJ0 k).2.2.1 = some (tyJ0 k) := by decide +kernel
abbrev cJ0_length_8abf5 : ByteArray := prog_18_method_54_code
def yJ0_length_8abf5 : MethodName := ⟨RJ0, "length", "()I"⟩
abbrev cJ0_charAt_5068e : ByteArray := prog_18_method_56_code
def yJ0_charAt_5068e : MethodName := ⟨RJ0, "charAt", "(I)C"⟩
abbrev cJ0_coder_7d493 : ByteArray := prog_18_method_152_code
def yJ0_coder_7d493 : MethodName := ⟨RJ0, "coder", "()B"⟩
abbrev cJ0_isLatin1_aae02 : ByteArray := prog_18_method_154_code
def yJ0_isLatin1_aae02 : MethodName := ⟨RJ0, "isLatin1", "()Z"⟩
abbrev cJ0_checkIndex_df160 : ByteArray := prog_18_method_155_code
def yJ0_checkIndex_df160 : MethodName := ⟨RJ0, "checkIndex", "(II)V"⟩
def RJ1 : String := "java/lang/StringLatin1"
def TJ1 : u_T := fun k => match k with
  | _ => ("", "", "", false)
def tyJ1 : Nat → FieldType := fun k => match k with
  | _ => .int
abbrev wsJ10 : List Cond := u_ws RJ1 TJ1 0
theorem nmJ1 : ∀ a, a < 0 → ∀ b, b < 0 → a ≠ b → (TJ1 a).2.1 ≠ (TJ1 b).2.1 := by decide +kernel
theorem tyJ1_ok : ∀ k, k < 0 → parseFieldDescriptor (TJ1 k).2.2.1 = some (tyJ1 k) := by decide +kernel
abbrev cJ1_charAt_3b067 : ByteArray := prog_19_method_2_code
def yJ1_charAt_3b067 : MethodName := ⟨RJ1, "charAt", "([BI)C"⟩
def RJ2 : String := "java/lang/StringUTF16"
def TJ2 : u_T := fun k => match k with
  | _ => ("", "", "", false)
def tyJ2 : Nat → FieldType := fun k => match k with
  | _ => .int
abbrev wsJ20 : List Cond := u_ws RJ2 TJ2 0
theorem nmJ2 : ∀ a, a < 0 → ∀ b, b < 0 → a ≠ b → (TJ2 a).2.1 ≠ (TJ2 b).2.1 := by decide +kernel
theorem tyJ2_ok : ∀ k, k < 0 → parseFieldDescriptor (TJ2 k).2.2.1 = some (tyJ2 k) := by decide +kernel
abbrev cJ2_getChar_3b067 : ByteArray := prog_20_method_5_code
def yJ2_getChar_3b067 : MethodName := ⟨RJ2, "getChar", "([BI)C"⟩
abbrev cJ2_length_9d52b : ByteArray := prog_20_method_6_code
def yJ2_length_9d52b : MethodName := ⟨RJ2, "length", "([B)I"⟩
abbrev cJ2_charAt_3b067 : ByteArray := prog_20_method_83_code
def yJ2_charAt_3b067 : MethodName := ⟨RJ2, "charAt", "([BI)C"⟩
abbrev cJ2_checkIndex_2214a : ByteArray := prog_20_method_91_code
def yJ2_checkIndex_2214a : MethodName := ⟨RJ2, "checkIndex", "(I[B)V"⟩
def RJ10 : String := "java/lang/System"
def TJ10 : u_T := fun k => match k with
  | _ => ("", "", "", false)
def tyJ10 : Nat → FieldType := fun k => match k with
  | _ => .int
abbrev wsJ100 : List Cond := u_ws RJ10 TJ10 0
theorem nmJ10 : ∀ a, a < 0 → ∀ b, b < 0 → a ≠ b → (TJ10 a).2.1 ≠ (TJ10 b).2.1 := by decide +kernel
theorem tyJ10_ok : ∀ k, k < 0 → parseFieldDescriptor (TJ10 k).2.2.1 = some (tyJ10 k) := by decide +kernel
def RJxfd54e : String := "java/lang/constant/Constable"
def TJxfd54e : u_T := fun k => match k with
  | _ => ("", "", "", false)
def tyJxfd54e : Nat → FieldType := fun k => match k with
  | _ => .int
abbrev wsJxfd54e0 : List Cond := u_ws RJxfd54e TJxfd54e 0
theorem nmJxfd54e : ∀ a, a < 0 → ∀ b, b < 0 → a ≠ b → (TJxfd54e a).2.1 ≠ (TJxfd54e b).2.1 := by decide +kernel
theorem tyJxfd54e_ok : ∀ k, k < 0 → parseFieldDescriptor (TJxfd54e k).2.2.1 = some (tyJxfd54e k) := by decide +kernel
def RJx3cf43 : String := "java/lang/constant/ConstantDesc"
def TJx3cf43 : u_T := fun k => match k with
  | _ => ("", "", "", false)
def tyJx3cf43 : Nat → FieldType := fun k => match k with
  | _ => .int
abbrev wsJx3cf430 : List Cond := u_ws RJx3cf43 TJx3cf43 0
theorem nmJx3cf43 : ∀ a, a < 0 → ∀ b, b < 0 → a ≠ b → (TJx3cf43 a).2.1 ≠ (TJx3cf43 b).2.1 := by decide +kernel
theorem tyJx3cf43_ok : ∀ k, k < 0 → parseFieldDescriptor (TJx3cf43 k).2.2.1 = some (tyJx3cf43 k) := by decide +kernel
def RJ7 : String := "java/util/Arrays"
def TJ7 : u_T := fun k => match k with
  | _ => ("", "", "", false)
def tyJ7 : Nat → FieldType := fun k => match k with
  | _ => .int
abbrev wsJ70 : List Cond := u_ws RJ7 TJ7 0
theorem nmJ7 : ∀ a, a < 0 → ∀ b, b < 0 → a ≠ b → (TJ7 a).2.1 ≠ (TJ7 b).2.1 := by decide +kernel
theorem tyJ7_ok : ∀ k, k < 0 → parseFieldDescriptor (TJ7 k).2.2.1 = some (tyJ7 k) := by decide +kernel
abbrev cJ7_fill_d0a16 : ByteArray := prog_22_method_101_code
def yJ7_fill_d0a16 : MethodName := ⟨RJ7, "fill", "([JJ)V"⟩
def RJ3 : String := "jdk/internal/util/Preconditions"
def TJ3 : u_T := fun k => match k with
  | _ => ("", "", "", false)
def tyJ3 : Nat → FieldType := fun k => match k with
  | _ => .int
abbrev wsJ30 : List Cond := u_ws RJ3 TJ3 0
theorem nmJ3 : ∀ a, a < 0 → ∀ b, b < 0 → a ≠ b → (TJ3 a).2.1 ≠ (TJ3 b).2.1 := by decide +kernel
theorem tyJ3_ok : ∀ k, k < 0 → parseFieldDescriptor (TJ3 k).2.2.1 = some (tyJ3 k) := by decide +kernel
abbrev cJ3_checkIndex_8e157 : ByteArray := prog_23_method_11_code
def yJ3_checkIndex_8e157 : MethodName := ⟨RJ3, "checkIndex", "(IILjava/util/function/BiFunction;)I"⟩
def RL : String := "TwoOnOneBackLaw"
abbrev cL_law : ByteArray := code
def yL_law : MethodName := ⟨RL, "law", "([I)Z"⟩
abbrev vwCl : List vw_C := [(RX0, TX0, 5), (RX1, TX1, 3), (RX2, TX2, 5), (RX3, TX3, 10), (RX4, TX4, 3), (RX5, TX5, 5), (RX6, TX6, 3), (RX7, TX7, 7), (RX8, TX8, 2), (RX9, TX9, 7), (RX10, TX10, 12), (RX11, TX11, 34)]
