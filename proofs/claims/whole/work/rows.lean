section
-- ===== PART A: goes FIRST, ahead of the names: the tables' words, and 'selects' of the private methods out of them =====
/-- a private method of a class that the tables say can be made, by its rows of tables_1 -/
def lw_okq (q : MethodName × Nat) : Prop := (q.1.cls ≠ "java/lang/invoke/MethodHandle" ∧ q.1.cls ≠ "java/lang/invoke/VarHandle") ∧ Cond.instantiable q.1.cls q.2 ∈ tables_1 ∧ Cond.privateMethod q.1 ∈ tables_1 ∧ Cond.instanceMethod q.1 ∈ tables_1
theorem lw_p0 : lw_okq (⟨"TwoOnOneBack$Text", "clause", "()V"⟩, 7) := ⟨⟨by decide +kernel, by decide +kernel⟩, List.mem_of_getElem? (i := 32) (by decide +kernel), List.mem_of_getElem? (i := 372) (by decide +kernel), List.mem_of_getElem? (i := 373) (by decide +kernel)⟩
theorem lw_p1 : lw_okq (⟨"TwoOnOneBack$Text", "takes", "(C)Z"⟩, 7) := ⟨⟨by decide +kernel, by decide +kernel⟩, List.mem_of_getElem? (i := 32) (by decide +kernel), List.mem_of_getElem? (i := 376) (by decide +kernel), List.mem_of_getElem? (i := 377) (by decide +kernel)⟩
theorem lw_p2 : lw_okq (⟨"TwoOnOneBack$Text", "needs", "(Ljava/lang/String;)V"⟩, 7) := ⟨⟨by decide +kernel, by decide +kernel⟩, List.mem_of_getElem? (i := 32) (by decide +kernel), List.mem_of_getElem? (i := 381) (by decide +kernel), List.mem_of_getElem? (i := 382) (by decide +kernel)⟩
theorem lw_p3 : lw_okq (⟨"TwoOnOneBack$Text", "number", "()I"⟩, 7) := ⟨⟨by decide +kernel, by decide +kernel⟩, List.mem_of_getElem? (i := 32) (by decide +kernel), List.mem_of_getElem? (i := 433) (by decide +kernel), List.mem_of_getElem? (i := 434) (by decide +kernel)⟩
theorem lw_p4 : lw_okq (⟨"TwoOnOneBack$Text", "oneIf", "(Ljava/lang/String;)I"⟩, 7) := ⟨⟨by decide +kernel, by decide +kernel⟩, List.mem_of_getElem? (i := 32) (by decide +kernel), List.mem_of_getElem? (i := 438) (by decide +kernel), List.mem_of_getElem? (i := 439) (by decide +kernel)⟩
theorem lw_p5 : lw_okq (⟨"TwoOnOneBack$Text", "either", "(I)J"⟩, 7) := ⟨⟨by decide +kernel, by decide +kernel⟩, List.mem_of_getElem? (i := 32) (by decide +kernel), List.mem_of_getElem? (i := 450) (by decide +kernel), List.mem_of_getElem? (i := 451) (by decide +kernel)⟩
theorem lw_p6 : lw_okq (⟨"TwoOnOneBack$Text", "both", "(I)J"⟩, 7) := ⟨⟨by decide +kernel, by decide +kernel⟩, List.mem_of_getElem? (i := 32) (by decide +kernel), List.mem_of_getElem? (i := 454) (by decide +kernel), List.mem_of_getElem? (i := 455) (by decide +kernel)⟩
theorem lw_p7 : lw_okq (⟨"TwoOnOneBack$Text", "single", "(I)J"⟩, 7) := ⟨⟨by decide +kernel, by decide +kernel⟩, List.mem_of_getElem? (i := 32) (by decide +kernel), List.mem_of_getElem? (i := 458) (by decide +kernel), List.mem_of_getElem? (i := 459) (by decide +kernel)⟩
theorem lw_p8 : lw_okq (⟨"TwoOnOneBack$Text", "oneOf", "(Ljava/lang/String;)I"⟩, 7) := ⟨⟨by decide +kernel, by decide +kernel⟩, List.mem_of_getElem? (i := 32) (by decide +kernel), List.mem_of_getElem? (i := 466) (by decide +kernel), List.mem_of_getElem? (i := 467) (by decide +kernel)⟩
theorem lw_p9 : lw_okq (⟨"TwoOnOneBack", "allowed", "(LTwoOnOneBack$Walker;)I"⟩, 12) := ⟨⟨by decide +kernel, by decide +kernel⟩, List.mem_of_getElem? (i := 24) (by decide +kernel), List.mem_of_getElem? (i := 555) (by decide +kernel), List.mem_of_getElem? (i := 556) (by decide +kernel)⟩
theorem lw_p10 : lw_okq (⟨"TwoOnOneBack$Gait", "rests", "()Z"⟩, 5) := ⟨⟨by decide +kernel, by decide +kernel⟩, List.mem_of_getElem? (i := 238) (by decide +kernel), List.mem_of_getElem? (i := 572) (by decide +kernel), List.mem_of_getElem? (i := 573) (by decide +kernel)⟩
theorem lw_p11 : lw_okq (⟨"TwoOnOneBack$Gait", "isOn", "()Z"⟩, 5) := ⟨⟨by decide +kernel, by decide +kernel⟩, List.mem_of_getElem? (i := 238) (by decide +kernel), List.mem_of_getElem? (i := 576) (by decide +kernel), List.mem_of_getElem? (i := 577) (by decide +kernel)⟩
theorem lw_p12 : lw_okq (⟨"TwoOnOneBack$Gait", "leaves", "(II)J"⟩, 5) := ⟨⟨by decide +kernel, by decide +kernel⟩, List.mem_of_getElem? (i := 238) (by decide +kernel), List.mem_of_getElem? (i := 581) (by decide +kernel), List.mem_of_getElem? (i := 582) (by decide +kernel)⟩
theorem lw_p13 : lw_okq (⟨"TwoOnOneBack$Gait", "isRound", "()Z"⟩, 5) := ⟨⟨by decide +kernel, by decide +kernel⟩, List.mem_of_getElem? (i := 238) (by decide +kernel), List.mem_of_getElem? (i := 589) (by decide +kernel), List.mem_of_getElem? (i := 590) (by decide +kernel)⟩
theorem lw_p14 : lw_okq (⟨"TwoOnOneBack$Gait", "ons", "(II)J"⟩, 5) := ⟨⟨by decide +kernel, by decide +kernel⟩, List.mem_of_getElem? (i := 238) (by decide +kernel), List.mem_of_getElem? (i := 598) (by decide +kernel), List.mem_of_getElem? (i := 599) (by decide +kernel)⟩
theorem lw_p15 : lw_okq (⟨"TwoOnOneBack", "goes", "(LTwoOnOneBack$Walker;I)Z"⟩, 12) := ⟨⟨by decide +kernel, by decide +kernel⟩, List.mem_of_getElem? (i := 24) (by decide +kernel), List.mem_of_getElem? (i := 615) (by decide +kernel), List.mem_of_getElem? (i := 616) (by decide +kernel)⟩
def lw_privs_1 : List (MethodName × Nat) := [(⟨"TwoOnOneBack$Text", "clause", "()V"⟩, 7), (⟨"TwoOnOneBack$Text", "takes", "(C)Z"⟩, 7), (⟨"TwoOnOneBack$Text", "needs", "(Ljava/lang/String;)V"⟩, 7), (⟨"TwoOnOneBack$Text", "number", "()I"⟩, 7), (⟨"TwoOnOneBack$Text", "oneIf", "(Ljava/lang/String;)I"⟩, 7), (⟨"TwoOnOneBack$Text", "either", "(I)J"⟩, 7), (⟨"TwoOnOneBack$Text", "both", "(I)J"⟩, 7), (⟨"TwoOnOneBack$Text", "single", "(I)J"⟩, 7), (⟨"TwoOnOneBack$Text", "oneOf", "(Ljava/lang/String;)I"⟩, 7), (⟨"TwoOnOneBack", "allowed", "(LTwoOnOneBack$Walker;)I"⟩, 12), (⟨"TwoOnOneBack$Gait", "rests", "()Z"⟩, 5), (⟨"TwoOnOneBack$Gait", "isOn", "()Z"⟩, 5), (⟨"TwoOnOneBack$Gait", "leaves", "(II)J"⟩, 5), (⟨"TwoOnOneBack$Gait", "isRound", "()Z"⟩, 5), (⟨"TwoOnOneBack$Gait", "ons", "(II)J"⟩, 5), (⟨"TwoOnOneBack", "goes", "(LTwoOnOneBack$Walker;I)Z"⟩, 12)]
theorem lw_r1 : ∀ q ∈ lw_privs_1, lw_okq q := List.forall_mem_cons.mpr ⟨lw_p0, List.forall_mem_cons.mpr ⟨lw_p1, List.forall_mem_cons.mpr ⟨lw_p2, List.forall_mem_cons.mpr ⟨lw_p3, List.forall_mem_cons.mpr ⟨lw_p4, List.forall_mem_cons.mpr ⟨lw_p5, List.forall_mem_cons.mpr ⟨lw_p6, List.forall_mem_cons.mpr ⟨lw_p7, List.forall_mem_cons.mpr ⟨lw_p8, List.forall_mem_cons.mpr ⟨lw_p9, List.forall_mem_cons.mpr ⟨lw_p10, List.forall_mem_cons.mpr ⟨lw_p11, List.forall_mem_cons.mpr ⟨lw_p12, List.forall_mem_cons.mpr ⟨lw_p13, List.forall_mem_cons.mpr ⟨lw_p14, List.forall_mem_cons.mpr ⟨lw_p15, fun _ h => absurd h List.not_mem_nil⟩⟩⟩⟩⟩⟩⟩⟩⟩⟩⟩⟩⟩⟩⟩⟩
theorem lw_p16 : lw_okq (⟨"TwoOnOneBack$Crowd", "spread", "(III)V"⟩, 3) := ⟨⟨by decide +kernel, by decide +kernel⟩, List.mem_of_getElem? (i := 262) (by decide +kernel), List.mem_of_getElem? (i := 664) (by decide +kernel), List.mem_of_getElem? (i := 665) (by decide +kernel)⟩
theorem lw_p17 : lw_okq (⟨"TwoOnOneBack$Crowd", "among", "(II)J"⟩, 3) := ⟨⟨by decide +kernel, by decide +kernel⟩, List.mem_of_getElem? (i := 262) (by decide +kernel), List.mem_of_getElem? (i := 668) (by decide +kernel), List.mem_of_getElem? (i := 669) (by decide +kernel)⟩
theorem lw_p18 : lw_okq (⟨"TwoOnOneBack", "firstStep", "(LTwoOnOneBack$Walker;II)I"⟩, 12) := ⟨⟨by decide +kernel, by decide +kernel⟩, List.mem_of_getElem? (i := 24) (by decide +kernel), List.mem_of_getElem? (i := 678) (by decide +kernel), List.mem_of_getElem? (i := 679) (by decide +kernel)⟩
theorem lw_p19 : lw_okq (⟨"TwoOnOneBack", "within", "(LTwoOnOneBack$Walker;I)J"⟩, 12) := ⟨⟨by decide +kernel, by decide +kernel⟩, List.mem_of_getElem? (i := 24) (by decide +kernel), List.mem_of_getElem? (i := 695) (by decide +kernel), List.mem_of_getElem? (i := 696) (by decide +kernel)⟩
theorem lw_p20 : lw_okq (⟨"TwoOnOneBack", "left", "(III)Z"⟩, 12) := ⟨⟨by decide +kernel, by decide +kernel⟩, List.mem_of_getElem? (i := 24) (by decide +kernel), List.mem_of_getElem? (i := 751) (by decide +kernel), List.mem_of_getElem? (i := 752) (by decide +kernel)⟩
theorem lw_p21 : lw_okq (⟨"TwoOnOneBack$Lots", "part", "(JIII)V"⟩, 3) := ⟨⟨by decide +kernel, by decide +kernel⟩, List.mem_of_getElem? (i := 281) (by decide +kernel), List.mem_of_getElem? (i := 780) (by decide +kernel), List.mem_of_getElem? (i := 781) (by decide +kernel)⟩
theorem lw_p22 : lw_okq (⟨"TwoOnOneBack", "tapeAt", "(I)LTwoOnOneBack$Tape;"⟩, 12) := ⟨⟨by decide +kernel, by decide +kernel⟩, List.mem_of_getElem? (i := 24) (by decide +kernel), List.mem_of_getElem? (i := 812) (by decide +kernel), List.mem_of_getElem? (i := 813) (by decide +kernel)⟩
theorem lw_p23 : lw_okq (⟨"TwoOnOneBack$Bodies", "begins", "(I)V"⟩, 5) := ⟨⟨by decide +kernel, by decide +kernel⟩, List.mem_of_getElem? (i := 113) (by decide +kernel), List.mem_of_getElem? (i := 852) (by decide +kernel), List.mem_of_getElem? (i := 853) (by decide +kernel)⟩
theorem lw_p24 : lw_okq (⟨"TwoOnOneBack$Tape", "cut", "(J)J"⟩, 3) := ⟨⟨by decide +kernel, by decide +kernel⟩, List.mem_of_getElem? (i := 298) (by decide +kernel), List.mem_of_getElem? (i := 902) (by decide +kernel), List.mem_of_getElem? (i := 903) (by decide +kernel)⟩
theorem lw_p25 : lw_okq (⟨"TwoOnOneBackModel", "reads", "()V"⟩, 34) := ⟨⟨by decide +kernel, by decide +kernel⟩, List.mem_of_getElem? (i := 919) (by decide +kernel), List.mem_of_getElem? (i := 1037) (by decide +kernel), List.mem_of_getElem? (i := 1038) (by decide +kernel)⟩
theorem lw_p26 : lw_okq (⟨"TwoOnOneBackModel", "clause", "()V"⟩, 34) := ⟨⟨by decide +kernel, by decide +kernel⟩, List.mem_of_getElem? (i := 919) (by decide +kernel), List.mem_of_getElem? (i := 1041) (by decide +kernel), List.mem_of_getElem? (i := 1042) (by decide +kernel)⟩
theorem lw_p27 : lw_okq (⟨"TwoOnOneBackModel", "here", "()I"⟩, 34) := ⟨⟨by decide +kernel, by decide +kernel⟩, List.mem_of_getElem? (i := 919) (by decide +kernel), List.mem_of_getElem? (i := 1045) (by decide +kernel), List.mem_of_getElem? (i := 1046) (by decide +kernel)⟩
theorem lw_p28 : lw_okq (⟨"TwoOnOneBackModel", "word", "(IIIII)V"⟩, 34) := ⟨⟨by decide +kernel, by decide +kernel⟩, List.mem_of_getElem? (i := 919) (by decide +kernel), List.mem_of_getElem? (i := 1049) (by decide +kernel), List.mem_of_getElem? (i := 1050) (by decide +kernel)⟩
theorem lw_p29 : lw_okq (⟨"TwoOnOneBackModel", "takes", "(I)V"⟩, 34) := ⟨⟨by decide +kernel, by decide +kernel⟩, List.mem_of_getElem? (i := 919) (by decide +kernel), List.mem_of_getElem? (i := 1053) (by decide +kernel), List.mem_of_getElem? (i := 1054) (by decide +kernel)⟩
theorem lw_p30 : lw_okq (⟨"TwoOnOneBackModel", "number", "()I"⟩, 34) := ⟨⟨by decide +kernel, by decide +kernel⟩, List.mem_of_getElem? (i := 919) (by decide +kernel), List.mem_of_getElem? (i := 1057) (by decide +kernel), List.mem_of_getElem? (i := 1058) (by decide +kernel)⟩
theorem lw_p31 : lw_okq (⟨"TwoOnOneBackModel", "marksBy", "(I)V"⟩, 34) := ⟨⟨by decide +kernel, by decide +kernel⟩, List.mem_of_getElem? (i := 919) (by decide +kernel), List.mem_of_getElem? (i := 1061) (by decide +kernel), List.mem_of_getElem? (i := 1062) (by decide +kernel)⟩
def lw_privs_2 : List (MethodName × Nat) := [(⟨"TwoOnOneBack$Crowd", "spread", "(III)V"⟩, 3), (⟨"TwoOnOneBack$Crowd", "among", "(II)J"⟩, 3), (⟨"TwoOnOneBack", "firstStep", "(LTwoOnOneBack$Walker;II)I"⟩, 12), (⟨"TwoOnOneBack", "within", "(LTwoOnOneBack$Walker;I)J"⟩, 12), (⟨"TwoOnOneBack", "left", "(III)Z"⟩, 12), (⟨"TwoOnOneBack$Lots", "part", "(JIII)V"⟩, 3), (⟨"TwoOnOneBack", "tapeAt", "(I)LTwoOnOneBack$Tape;"⟩, 12), (⟨"TwoOnOneBack$Bodies", "begins", "(I)V"⟩, 5), (⟨"TwoOnOneBack$Tape", "cut", "(J)J"⟩, 3), (⟨"TwoOnOneBackModel", "reads", "()V"⟩, 34), (⟨"TwoOnOneBackModel", "clause", "()V"⟩, 34), (⟨"TwoOnOneBackModel", "here", "()I"⟩, 34), (⟨"TwoOnOneBackModel", "word", "(IIIII)V"⟩, 34), (⟨"TwoOnOneBackModel", "takes", "(I)V"⟩, 34), (⟨"TwoOnOneBackModel", "number", "()I"⟩, 34), (⟨"TwoOnOneBackModel", "marksBy", "(I)V"⟩, 34)]
theorem lw_r2 : ∀ q ∈ lw_privs_2, lw_okq q := List.forall_mem_cons.mpr ⟨lw_p16, List.forall_mem_cons.mpr ⟨lw_p17, List.forall_mem_cons.mpr ⟨lw_p18, List.forall_mem_cons.mpr ⟨lw_p19, List.forall_mem_cons.mpr ⟨lw_p20, List.forall_mem_cons.mpr ⟨lw_p21, List.forall_mem_cons.mpr ⟨lw_p22, List.forall_mem_cons.mpr ⟨lw_p23, List.forall_mem_cons.mpr ⟨lw_p24, List.forall_mem_cons.mpr ⟨lw_p25, List.forall_mem_cons.mpr ⟨lw_p26, List.forall_mem_cons.mpr ⟨lw_p27, List.forall_mem_cons.mpr ⟨lw_p28, List.forall_mem_cons.mpr ⟨lw_p29, List.forall_mem_cons.mpr ⟨lw_p30, List.forall_mem_cons.mpr ⟨lw_p31, fun _ h => absurd h List.not_mem_nil⟩⟩⟩⟩⟩⟩⟩⟩⟩⟩⟩⟩⟩⟩⟩⟩
theorem lw_p32 : lw_okq (⟨"TwoOnOneBackModel", "either", "()J"⟩, 34) := ⟨⟨by decide +kernel, by decide +kernel⟩, List.mem_of_getElem? (i := 919) (by decide +kernel), List.mem_of_getElem? (i := 1065) (by decide +kernel), List.mem_of_getElem? (i := 1066) (by decide +kernel)⟩
theorem lw_p33 : lw_okq (⟨"TwoOnOneBackModel", "term", "()J"⟩, 34) := ⟨⟨by decide +kernel, by decide +kernel⟩, List.mem_of_getElem? (i := 919) (by decide +kernel), List.mem_of_getElem? (i := 1069) (by decide +kernel), List.mem_of_getElem? (i := 1070) (by decide +kernel)⟩
theorem lw_p34 : lw_okq (⟨"TwoOnOneBackModel", "factor", "()J"⟩, 34) := ⟨⟨by decide +kernel, by decide +kernel⟩, List.mem_of_getElem? (i := 919) (by decide +kernel), List.mem_of_getElem? (i := 1073) (by decide +kernel), List.mem_of_getElem? (i := 1074) (by decide +kernel)⟩
theorem lw_p35 : lw_okq (⟨"TwoOnOneBackModel", "test", "()J"⟩, 34) := ⟨⟨by decide +kernel, by decide +kernel⟩, List.mem_of_getElem? (i := 919) (by decide +kernel), List.mem_of_getElem? (i := 1077) (by decide +kernel), List.mem_of_getElem? (i := 1078) (by decide +kernel)⟩
theorem lw_p36 : lw_okq (⟨"TwoOnOneBackModel", "onBeats", "()I"⟩, 34) := ⟨⟨by decide +kernel, by decide +kernel⟩, List.mem_of_getElem? (i := 919) (by decide +kernel), List.mem_of_getElem? (i := 1096) (by decide +kernel), List.mem_of_getElem? (i := 1097) (by decide +kernel)⟩
theorem lw_p37 : lw_okq (⟨"TwoOnOneBackModel", "beats", "()I"⟩, 34) := ⟨⟨by decide +kernel, by decide +kernel⟩, List.mem_of_getElem? (i := 919) (by decide +kernel), List.mem_of_getElem? (i := 1100) (by decide +kernel), List.mem_of_getElem? (i := 1101) (by decide +kernel)⟩
theorem lw_p38 : lw_okq (⟨"TwoOnOneBackModel", "isMarked", "(II)Z"⟩, 34) := ⟨⟨by decide +kernel, by decide +kernel⟩, List.mem_of_getElem? (i := 919) (by decide +kernel), List.mem_of_getElem? (i := 1114) (by decide +kernel), List.mem_of_getElem? (i := 1115) (by decide +kernel)⟩
theorem lw_p39 : lw_okq (⟨"TwoOnOneBackModel", "puts", "(III)V"⟩, 34) := ⟨⟨by decide +kernel, by decide +kernel⟩, List.mem_of_getElem? (i := 919) (by decide +kernel), List.mem_of_getElem? (i := 1122) (by decide +kernel), List.mem_of_getElem? (i := 1123) (by decide +kernel)⟩
theorem lw_p40 : lw_okq (⟨"TwoOnOneBackModel", "isWalker", "(I)Z"⟩, 34) := ⟨⟨by decide +kernel, by decide +kernel⟩, List.mem_of_getElem? (i := 919) (by decide +kernel), List.mem_of_getElem? (i := 1130) (by decide +kernel), List.mem_of_getElem? (i := 1131) (by decide +kernel)⟩
theorem lw_p41 : lw_okq (⟨"TwoOnOneBackModel", "beatOf", "(I)I"⟩, 34) := ⟨⟨by decide +kernel, by decide +kernel⟩, List.mem_of_getElem? (i := 919) (by decide +kernel), List.mem_of_getElem? (i := 1134) (by decide +kernel), List.mem_of_getElem? (i := 1135) (by decide +kernel)⟩
theorem lw_p42 : lw_okq (⟨"TwoOnOneBackModel", "get", "(II)I"⟩, 34) := ⟨⟨by decide +kernel, by decide +kernel⟩, List.mem_of_getElem? (i := 919) (by decide +kernel), List.mem_of_getElem? (i := 1138) (by decide +kernel), List.mem_of_getElem? (i := 1139) (by decide +kernel)⟩
theorem lw_p43 : lw_okq (⟨"TwoOnOneBackModel", "mayNow", "(I)I"⟩, 34) := ⟨⟨by decide +kernel, by decide +kernel⟩, List.mem_of_getElem? (i := 919) (by decide +kernel), List.mem_of_getElem? (i := 1150) (by decide +kernel), List.mem_of_getElem? (i := 1151) (by decide +kernel)⟩
theorem lw_p44 : lw_okq (⟨"TwoOnOneBackModel", "mayBy", "(IIIIIII)I"⟩, 34) := ⟨⟨by decide +kernel, by decide +kernel⟩, List.mem_of_getElem? (i := 919) (by decide +kernel), List.mem_of_getElem? (i := 1154) (by decide +kernel), List.mem_of_getElem? (i := 1155) (by decide +kernel)⟩
theorem lw_p45 : lw_okq (⟨"TwoOnOneBackModel", "mayOn", "(IIIII)I"⟩, 34) := ⟨⟨by decide +kernel, by decide +kernel⟩, List.mem_of_getElem? (i := 919) (by decide +kernel), List.mem_of_getElem? (i := 1158) (by decide +kernel), List.mem_of_getElem? (i := 1159) (by decide +kernel)⟩
theorem lw_p46 : lw_okq (⟨"TwoOnOneBackModel", "goesOn", "(III)Z"⟩, 34) := ⟨⟨by decide +kernel, by decide +kernel⟩, List.mem_of_getElem? (i := 919) (by decide +kernel), List.mem_of_getElem? (i := 1162) (by decide +kernel), List.mem_of_getElem? (i := 1163) (by decide +kernel)⟩
theorem lw_p47 : lw_okq (⟨"TwoOnOneBackModel", "goesBack", "(IIII)Z"⟩, 34) := ⟨⟨by decide +kernel, by decide +kernel⟩, List.mem_of_getElem? (i := 919) (by decide +kernel), List.mem_of_getElem? (i := 1169) (by decide +kernel), List.mem_of_getElem? (i := 1170) (by decide +kernel)⟩
def lw_privs_3 : List (MethodName × Nat) := [(⟨"TwoOnOneBackModel", "either", "()J"⟩, 34), (⟨"TwoOnOneBackModel", "term", "()J"⟩, 34), (⟨"TwoOnOneBackModel", "factor", "()J"⟩, 34), (⟨"TwoOnOneBackModel", "test", "()J"⟩, 34), (⟨"TwoOnOneBackModel", "onBeats", "()I"⟩, 34), (⟨"TwoOnOneBackModel", "beats", "()I"⟩, 34), (⟨"TwoOnOneBackModel", "isMarked", "(II)Z"⟩, 34), (⟨"TwoOnOneBackModel", "puts", "(III)V"⟩, 34), (⟨"TwoOnOneBackModel", "isWalker", "(I)Z"⟩, 34), (⟨"TwoOnOneBackModel", "beatOf", "(I)I"⟩, 34), (⟨"TwoOnOneBackModel", "get", "(II)I"⟩, 34), (⟨"TwoOnOneBackModel", "mayNow", "(I)I"⟩, 34), (⟨"TwoOnOneBackModel", "mayBy", "(IIIIIII)I"⟩, 34), (⟨"TwoOnOneBackModel", "mayOn", "(IIIII)I"⟩, 34), (⟨"TwoOnOneBackModel", "goesOn", "(III)Z"⟩, 34), (⟨"TwoOnOneBackModel", "goesBack", "(IIII)Z"⟩, 34)]
theorem lw_r3 : ∀ q ∈ lw_privs_3, lw_okq q := List.forall_mem_cons.mpr ⟨lw_p32, List.forall_mem_cons.mpr ⟨lw_p33, List.forall_mem_cons.mpr ⟨lw_p34, List.forall_mem_cons.mpr ⟨lw_p35, List.forall_mem_cons.mpr ⟨lw_p36, List.forall_mem_cons.mpr ⟨lw_p37, List.forall_mem_cons.mpr ⟨lw_p38, List.forall_mem_cons.mpr ⟨lw_p39, List.forall_mem_cons.mpr ⟨lw_p40, List.forall_mem_cons.mpr ⟨lw_p41, List.forall_mem_cons.mpr ⟨lw_p42, List.forall_mem_cons.mpr ⟨lw_p43, List.forall_mem_cons.mpr ⟨lw_p44, List.forall_mem_cons.mpr ⟨lw_p45, List.forall_mem_cons.mpr ⟨lw_p46, List.forall_mem_cons.mpr ⟨lw_p47, fun _ h => absurd h List.not_mem_nil⟩⟩⟩⟩⟩⟩⟩⟩⟩⟩⟩⟩⟩⟩⟩⟩
theorem lw_p48 : lw_okq (⟨"TwoOnOneBackModel", "backTo", "(IIII)I"⟩, 34) := ⟨⟨by decide +kernel, by decide +kernel⟩, List.mem_of_getElem? (i := 919) (by decide +kernel), List.mem_of_getElem? (i := 1173) (by decide +kernel), List.mem_of_getElem? (i := 1174) (by decide +kernel)⟩
theorem lw_p49 : lw_okq (⟨"TwoOnOneBackModel", "steps", "(II)V"⟩, 34) := ⟨⟨by decide +kernel, by decide +kernel⟩, List.mem_of_getElem? (i := 919) (by decide +kernel), List.mem_of_getElem? (i := 1181) (by decide +kernel), List.mem_of_getElem? (i := 1182) (by decide +kernel)⟩
theorem lw_p50 : lw_okq (⟨"TwoOnOneBackModel", "beginsAs", "(II)V"⟩, 34) := ⟨⟨by decide +kernel, by decide +kernel⟩, List.mem_of_getElem? (i := 919) (by decide +kernel), List.mem_of_getElem? (i := 1189) (by decide +kernel), List.mem_of_getElem? (i := 1190) (by decide +kernel)⟩
theorem lw_p51 : lw_okq (⟨"TwoOnOneBackModel", "begins", "(IIIIIII)V"⟩, 34) := ⟨⟨by decide +kernel, by decide +kernel⟩, List.mem_of_getElem? (i := 919) (by decide +kernel), List.mem_of_getElem? (i := 1193) (by decide +kernel), List.mem_of_getElem? (i := 1194) (by decide +kernel)⟩
theorem lw_p52 : lw_okq (⟨"TwoOnOneBackModel", "soonestTo", "(I)I"⟩, 34) := ⟨⟨by decide +kernel, by decide +kernel⟩, List.mem_of_getElem? (i := 919) (by decide +kernel), List.mem_of_getElem? (i := 1200) (by decide +kernel), List.mem_of_getElem? (i := 1201) (by decide +kernel)⟩
theorem lw_p53 : lw_okq (⟨"TwoOnOneBackModel", "goesBeat", "()V"⟩, 34) := ⟨⟨by decide +kernel, by decide +kernel⟩, List.mem_of_getElem? (i := 919) (by decide +kernel), List.mem_of_getElem? (i := 1204) (by decide +kernel), List.mem_of_getElem? (i := 1205) (by decide +kernel)⟩
theorem lw_p54 : lw_okq (⟨"TwoOnOneBackModel", "firstTo", "(I)I"⟩, 34) := ⟨⟨by decide +kernel, by decide +kernel⟩, List.mem_of_getElem? (i := 919) (by decide +kernel), List.mem_of_getElem? (i := 1214) (by decide +kernel), List.mem_of_getElem? (i := 1215) (by decide +kernel)⟩
theorem lw_p55 : lw_okq (⟨"TwoOnOneBackModel", "within", "(II)J"⟩, 34) := ⟨⟨by decide +kernel, by decide +kernel⟩, List.mem_of_getElem? (i := 919) (by decide +kernel), List.mem_of_getElem? (i := 1226) (by decide +kernel), List.mem_of_getElem? (i := 1227) (by decide +kernel)⟩
theorem lw_p56 : lw_okq (⟨"TwoOnOneBackModel", "cellsNow", "()J"⟩, 34) := ⟨⟨by decide +kernel, by decide +kernel⟩, List.mem_of_getElem? (i := 919) (by decide +kernel), List.mem_of_getElem? (i := 1230) (by decide +kernel), List.mem_of_getElem? (i := 1231) (by decide +kernel)⟩
theorem lw_p57 : lw_okq (⟨"TwoOnOneBackModel", "mightHave", "(IIII)Z"⟩, 34) := ⟨⟨by decide +kernel, by decide +kernel⟩, List.mem_of_getElem? (i := 919) (by decide +kernel), List.mem_of_getElem? (i := 1263) (by decide +kernel), List.mem_of_getElem? (i := 1264) (by decide +kernel)⟩
theorem lw_p58 : lw_okq (⟨"TwoOnOneBackModel", "soonestBy", "(III)I"⟩, 34) := ⟨⟨by decide +kernel, by decide +kernel⟩, List.mem_of_getElem? (i := 919) (by decide +kernel), List.mem_of_getElem? (i := 1279) (by decide +kernel), List.mem_of_getElem? (i := 1280) (by decide +kernel)⟩
theorem lw_p59 : lw_okq (⟨"TwoOnOneBackModel", "acts", "(II)I"⟩, 34) := ⟨⟨by decide +kernel, by decide +kernel⟩, List.mem_of_getElem? (i := 919) (by decide +kernel), List.mem_of_getElem? (i := 1287) (by decide +kernel), List.mem_of_getElem? (i := 1288) (by decide +kernel)⟩
theorem lw_p60 : lw_okq (⟨"TwoOnOneBackModel", "bodyOf", "(III)I"⟩, 34) := ⟨⟨by decide +kernel, by decide +kernel⟩, List.mem_of_getElem? (i := 919) (by decide +kernel), List.mem_of_getElem? (i := 1291) (by decide +kernel), List.mem_of_getElem? (i := 1292) (by decide +kernel)⟩
theorem lw_p61 : lw_okq (⟨"TwoOnOneBackModel", "runs", "(I)V"⟩, 34) := ⟨⟨by decide +kernel, by decide +kernel⟩, List.mem_of_getElem? (i := 919) (by decide +kernel), List.mem_of_getElem? (i := 1301) (by decide +kernel), List.mem_of_getElem? (i := 1302) (by decide +kernel)⟩
def lw_privs_4 : List (MethodName × Nat) := [(⟨"TwoOnOneBackModel", "backTo", "(IIII)I"⟩, 34), (⟨"TwoOnOneBackModel", "steps", "(II)V"⟩, 34), (⟨"TwoOnOneBackModel", "beginsAs", "(II)V"⟩, 34), (⟨"TwoOnOneBackModel", "begins", "(IIIIIII)V"⟩, 34), (⟨"TwoOnOneBackModel", "soonestTo", "(I)I"⟩, 34), (⟨"TwoOnOneBackModel", "goesBeat", "()V"⟩, 34), (⟨"TwoOnOneBackModel", "firstTo", "(I)I"⟩, 34), (⟨"TwoOnOneBackModel", "within", "(II)J"⟩, 34), (⟨"TwoOnOneBackModel", "cellsNow", "()J"⟩, 34), (⟨"TwoOnOneBackModel", "mightHave", "(IIII)Z"⟩, 34), (⟨"TwoOnOneBackModel", "soonestBy", "(III)I"⟩, 34), (⟨"TwoOnOneBackModel", "acts", "(II)I"⟩, 34), (⟨"TwoOnOneBackModel", "bodyOf", "(III)I"⟩, 34), (⟨"TwoOnOneBackModel", "runs", "(I)V"⟩, 34)]
theorem lw_r4 : ∀ q ∈ lw_privs_4, lw_okq q := List.forall_mem_cons.mpr ⟨lw_p48, List.forall_mem_cons.mpr ⟨lw_p49, List.forall_mem_cons.mpr ⟨lw_p50, List.forall_mem_cons.mpr ⟨lw_p51, List.forall_mem_cons.mpr ⟨lw_p52, List.forall_mem_cons.mpr ⟨lw_p53, List.forall_mem_cons.mpr ⟨lw_p54, List.forall_mem_cons.mpr ⟨lw_p55, List.forall_mem_cons.mpr ⟨lw_p56, List.forall_mem_cons.mpr ⟨lw_p57, List.forall_mem_cons.mpr ⟨lw_p58, List.forall_mem_cons.mpr ⟨lw_p59, List.forall_mem_cons.mpr ⟨lw_p60, List.forall_mem_cons.mpr ⟨lw_p61, fun _ h => absurd h List.not_mem_nil⟩⟩⟩⟩⟩⟩⟩⟩⟩⟩⟩⟩⟩⟩
def lw_privs : List (MethodName × Nat) := lw_privs_1 ++ (lw_privs_2 ++ (lw_privs_3 ++ (lw_privs_4)))
def lw_tbl : List Cond := k2_sels lw_privs ++ tables_1
theorem lw_privs_ok : ∀ q ∈ lw_privs, lw_okq q := by
  show ∀ q ∈ lw_privs_1 ++ (lw_privs_2 ++ (lw_privs_3 ++ (lw_privs_4))), lw_okq q
  exact List.forall_mem_append.mpr ⟨lw_r1, List.forall_mem_append.mpr ⟨lw_r2, List.forall_mem_append.mpr ⟨lw_r3, lw_r4⟩⟩⟩
def R_law : String := "TwoOnOneBackLaw"
def RX0 : String := "TwoOnOneBack$Bodies"
def TX0 : u_T := fun k => match k with
  | 0 => ("TwoOnOneBack$Bodies", "trace", "[I", true)
  | 1 => ("TwoOnOneBack$Bodies", "ran", "I", false)
  | 2 => ("TwoOnOneBack$Bodies", "kind", "I", false)
  | 3 => ("TwoOnOneBack$Bodies", "v", "I", false)
  | _ => ("TwoOnOneBack$Bodies", "number", "I", false)
def tyX0 : Nat → FieldType := fun k => match k with
  | 0 => .array .int
  | 1 => .int
  | 2 => .int
  | 3 => .int
  | _ => .int
abbrev wsX00 : List Cond := u_ws RX0 TX0 5
theorem nmX0 : ∀ a, a < 5 → ∀ b, b < 5 → a ≠ b → (TX0 a).2.1 ≠ (TX0 b).2.1 := by decide +kernel
theorem tyX0_ok : ∀ k, k < 5 → parseFieldDescriptor (TX0 k).2.2.1 = some (tyX0 k) := by decide +kernel
abbrev cX0_init : ByteArray := prog_2_method_1_code
def yX0_init : MethodName := ⟨RX0, "<init>", "()V"⟩
abbrev cX0_steps : ByteArray := prog_2_method_2_code
def yX0_steps : MethodName := ⟨RX0, "steps", "(II)I"⟩
abbrev cX0_turns : ByteArray := prog_2_method_3_code
def yX0_turns : MethodName := ⟨RX0, "turns", "(II)I"⟩
abbrev cX0_tells : ByteArray := prog_2_method_4_code
def yX0_tells : MethodName := ⟨RX0, "tells", "(II)I"⟩
abbrev cX0_begins : ByteArray := prog_2_method_5_code
def yX0_begins : MethodName := ⟨RX0, "begins", "(I)V"⟩
def RX1 : String := "TwoOnOneBack$Crowd"
def TX1 : u_T := fun k => match k with
  | 0 => ("TwoOnOneBack$Crowd", "here", "[J", false)
  | 1 => ("TwoOnOneBack$Crowd", "then", "[J", false)
  | _ => ("TwoOnOneBack$Crowd", "gait", "LTwoOnOneBack$Gait;", true)
def tyX1 : Nat → FieldType := fun k => match k with
  | 0 => .array .long
  | 1 => .array .long
  | _ => .object "TwoOnOneBack$Gait"
abbrev wsX10 : List Cond := u_ws RX1 TX1 3
theorem nmX1 : ∀ a, a < 3 → ∀ b, b < 3 → a ≠ b → (TX1 a).2.1 ≠ (TX1 b).2.1 := by decide +kernel
theorem tyX1_ok : ∀ k, k < 3 → parseFieldDescriptor (TX1 k).2.2.1 = some (tyX1 k) := by decide +kernel
abbrev cX1_init : ByteArray := prog_3_method_1_code
def yX1_init : MethodName := ⟨RX1, "<init>", "(LTwoOnOneBack$Land;)V"⟩
abbrev cX1_alone : ByteArray := prog_3_method_2_code
def yX1_alone : MethodName := ⟨RX1, "alone", "(LTwoOnOneBack$Land;LTwoOnOneBack$Walker;)V"⟩
abbrev cX1_alone_ : ByteArray := prog_3_method_3_code
def yX1_alone_ : MethodName := ⟨RX1, "alone", "(LTwoOnOneBack$Land;LTwoOnOneBack$Walker;III)V"⟩
abbrev cX1_around : ByteArray := prog_3_method_4_code
def yX1_around : MethodName := ⟨RX1, "around", "(LTwoOnOneBack$Land;IIII)V"⟩
abbrev cX1_advance : ByteArray := prog_3_method_5_code
def yX1_advance : MethodName := ⟨RX1, "advance", "(I)V"⟩
abbrev cX1_spread : ByteArray := prog_3_method_6_code
def yX1_spread : MethodName := ⟨RX1, "spread", "(III)V"⟩
abbrev cX1_join : ByteArray := prog_3_method_7_code
def yX1_join : MethodName := ⟨RX1, "join", "([JIIJ)V"⟩
abbrev cX1_among : ByteArray := prog_3_method_8_code
def yX1_among : MethodName := ⟨RX1, "among", "(II)J"⟩
abbrev cX1_keep : ByteArray := prog_3_method_9_code
def yX1_keep : MethodName := ⟨RX1, "keep", "(I)V"⟩
abbrev cX1_cells : ByteArray := prog_3_method_10_code
def yX1_cells : MethodName := ⟨RX1, "cells", "()J"⟩
abbrev cX1_facing : ByteArray := prog_3_method_11_code
def yX1_facing : MethodName := ⟨RX1, "facing", "(I)J"⟩
abbrev cX1_beatsTo : ByteArray := prog_3_method_12_code
def yX1_beatsTo : MethodName := ⟨RX1, "beatsTo", "(I)I"⟩
def RX2 : String := "TwoOnOneBack$Gait"
def TX2 : u_T := fun k => match k with
  | 0 => ("TwoOnOneBack$Gait", "land", "LTwoOnOneBack$Land;", false)
  | 1 => ("TwoOnOneBack$Gait", "kind", "I", false)
  | 2 => ("TwoOnOneBack$Gait", "v", "I", false)
  | 3 => ("TwoOnOneBack$Gait", "beat", "I", false)
  | _ => ("TwoOnOneBack$Gait", "gone", "I", false)
def tyX2 : Nat → FieldType := fun k => match k with
  | 0 => .object "TwoOnOneBack$Land"
  | 1 => .int
  | 2 => .int
  | 3 => .int
  | _ => .int
abbrev wsX20 : List Cond := u_ws RX2 TX2 5
theorem nmX2 : ∀ a, a < 5 → ∀ b, b < 5 → a ≠ b → (TX2 a).2.1 ≠ (TX2 b).2.1 := by decide +kernel
theorem tyX2_ok : ∀ k, k < 5 → parseFieldDescriptor (TX2 k).2.2.1 = some (tyX2 k) := by decide +kernel
abbrev cX2_init : ByteArray := prog_4_method_1_code
def yX2_init : MethodName := ⟨RX2, "<init>", "(LTwoOnOneBack$Land;)V"⟩
abbrev cX2_become : ByteArray := prog_4_method_2_code
def yX2_become : MethodName := ⟨RX2, "become", "(LTwoOnOneBack$Land;IIII)V"⟩
abbrev cX2_tick : ByteArray := prog_4_method_3_code
def yX2_tick : MethodName := ⟨RX2, "tick", "()V"⟩
abbrev cX2_steps : ByteArray := prog_4_method_4_code
def yX2_steps : MethodName := ⟨RX2, "steps", "(III)I"⟩
abbrev cX2_starts : ByteArray := prog_4_method_5_code
def yX2_starts : MethodName := ⟨RX2, "starts", "(III)J"⟩
abbrev cX2_way : ByteArray := prog_4_method_6_code
def yX2_way : MethodName := ⟨RX2, "way", "(III)I"⟩
abbrev cX2_isOn : ByteArray := prog_4_method_7_code
def yX2_isOn : MethodName := ⟨RX2, "isOn", "()Z"⟩
abbrev cX2_isRound : ByteArray := prog_4_method_8_code
def yX2_isRound : MethodName := ⟨RX2, "isRound", "()Z"⟩
abbrev cX2_rests : ByteArray := prog_4_method_9_code
def yX2_rests : MethodName := ⟨RX2, "rests", "()Z"⟩
abbrev cX2_leaves : ByteArray := prog_4_method_10_code
def yX2_leaves : MethodName := ⟨RX2, "leaves", "(II)J"⟩
abbrev cX2_ons : ByteArray := prog_4_method_11_code
def yX2_ons : MethodName := ⟨RX2, "ons", "(II)J"⟩
def RX3 : String := "TwoOnOneBack$Land"
def TX3 : u_T := fun k => match k with
  | 0 => ("TwoOnOneBack$Land", "on", "I", true)
  | 1 => ("TwoOnOneBack$Land", "back", "I", true)
  | 2 => ("TwoOnOneBack$Land", "walls", "J", true)
  | 3 => ("TwoOnOneBack$Land", "ledges", "J", true)
  | 4 => ("TwoOnOneBack$Land", "doors", "J", true)
  | 5 => ("TwoOnOneBack$Land", "stairs", "J", true)
  | 6 => ("TwoOnOneBack$Land", "open", "[J", true)
  | 7 => ("TwoOnOneBack$Land", "flat", "[J", true)
  | 8 => ("TwoOnOneBack$Land", "firm", "J", true)
  | _ => ("TwoOnOneBack$Land", "still", "J", true)
def tyX3 : Nat → FieldType := fun k => match k with
  | 0 => .int
  | 1 => .int
  | 2 => .long
  | 3 => .long
  | 4 => .long
  | 5 => .long
  | 6 => .array .long
  | 7 => .array .long
  | 8 => .long
  | _ => .long
abbrev wsX30 : List Cond := u_ws RX3 TX3 10
theorem nmX3 : ∀ a, a < 10 → ∀ b, b < 10 → a ≠ b → (TX3 a).2.1 ≠ (TX3 b).2.1 := by decide +kernel
theorem tyX3_ok : ∀ k, k < 10 → parseFieldDescriptor (TX3 k).2.2.1 = some (tyX3 k) := by decide +kernel
abbrev cX3_init : ByteArray := prog_5_method_1_code
def yX3_init : MethodName := ⟨RX3, "<init>", "(II[J)V"⟩
abbrev cX3_rhythm : ByteArray := prog_5_method_2_code
def yX3_rhythm : MethodName := ⟨RX3, "rhythm", "()I"⟩
abbrev cX3_beat : ByteArray := prog_5_method_3_code
def yX3_beat : MethodName := ⟨RX3, "beat", "(I)I"⟩
abbrev cX3_marked : ByteArray := prog_5_method_4_code
def yX3_marked : MethodName := ⟨RX3, "marked", "(I)J"⟩
abbrev cX3_onward : ByteArray := prog_5_method_5_code
def yX3_onward : MethodName := ⟨RX3, "onward", "(II)J"⟩
abbrev cX3_backward : ByteArray := prog_5_method_6_code
def yX3_backward : MethodName := ⟨RX3, "backward", "(I)J"⟩
def RX4 : String := "TwoOnOneBack$Lots"
def TX4 : u_T := fun k => match k with
  | 0 => ("TwoOnOneBack$Lots", "here", "[J", false)
  | 1 => ("TwoOnOneBack$Lots", "then", "[J", false)
  | _ => ("TwoOnOneBack$Lots", "gait", "LTwoOnOneBack$Gait;", true)
def tyX4 : Nat → FieldType := fun k => match k with
  | 0 => .array .long
  | 1 => .array .long
  | _ => .object "TwoOnOneBack$Gait"
abbrev wsX40 : List Cond := u_ws RX4 TX4 3
theorem nmX4 : ∀ a, a < 3 → ∀ b, b < 3 → a ≠ b → (TX4 a).2.1 ≠ (TX4 b).2.1 := by decide +kernel
theorem tyX4_ok : ∀ k, k < 3 → parseFieldDescriptor (TX4 k).2.2.1 = some (tyX4 k) := by decide +kernel
abbrev cX4_init : ByteArray := prog_6_method_1_code
def yX4_init : MethodName := ⟨RX4, "<init>", "(LTwoOnOneBack$Land;)V"⟩
abbrev cX4_alone : ByteArray := prog_6_method_2_code
def yX4_alone : MethodName := ⟨RX4, "alone", "(LTwoOnOneBack$Land;LTwoOnOneBack$Walker;)V"⟩
abbrev cX4_advance : ByteArray := prog_6_method_3_code
def yX4_advance : MethodName := ⟨RX4, "advance", "()V"⟩
abbrev cX4_part : ByteArray := prog_6_method_4_code
def yX4_part : MethodName := ⟨RX4, "part", "(JIII)V"⟩
abbrev cX4_join : ByteArray := prog_6_method_5_code
def yX4_join : MethodName := ⟨RX4, "join", "([JIIIJ)V"⟩
abbrev cX4_shares : ByteArray := prog_6_method_6_code
def yX4_shares : MethodName := ⟨RX4, "shares", "(I)J"⟩
def RX5 : String := "TwoOnOneBack$Scene"
def TX5 : u_T := fun k => match k with
  | 0 => ("TwoOnOneBack$Scene", "all", "[LTwoOnOneBack$Walker;", true)
  | 1 => ("TwoOnOneBack$Scene", "walkers", "I", false)
  | 2 => ("TwoOnOneBack$Scene", "row", "LTwoOnOneBack$Told;", true)
  | 3 => ("TwoOnOneBack$Scene", "tracks", "LTwoOnOneBack$Told;", true)
  | _ => ("TwoOnOneBack$Scene", "land", "LTwoOnOneBack$Land;", false)
def tyX5 : Nat → FieldType := fun k => match k with
  | 0 => .array (.object "TwoOnOneBack$Walker")
  | 1 => .int
  | 2 => .object "TwoOnOneBack$Told"
  | 3 => .object "TwoOnOneBack$Told"
  | _ => .object "TwoOnOneBack$Land"
abbrev wsX50 : List Cond := u_ws RX5 TX5 5
theorem nmX5 : ∀ a, a < 5 → ∀ b, b < 5 → a ≠ b → (TX5 a).2.1 ≠ (TX5 b).2.1 := by decide +kernel
theorem tyX5_ok : ∀ k, k < 5 → parseFieldDescriptor (TX5 k).2.2.1 = some (tyX5 k) := by decide +kernel
abbrev cX5_init : ByteArray := prog_7_method_1_code
def yX5_init : MethodName := ⟨RX5, "<init>", "(LTwoOnOneBack$Land;)V"⟩
abbrev cX5_who : ByteArray := prog_7_method_2_code
def yX5_who : MethodName := ⟨RX5, "who", "(I)LTwoOnOneBack$Walker;"⟩
abbrev cX5_added : ByteArray := prog_7_method_3_code
def yX5_added : MethodName := ⟨RX5, "added", "()LTwoOnOneBack$Walker;"⟩
abbrev cX5_become : ByteArray := prog_7_method_4_code
def yX5_become : MethodName := ⟨RX5, "become", "(LTwoOnOneBack$Scene;)V"⟩
def RX6 : String := "TwoOnOneBack$Tape"
def TX6 : u_T := fun k => match k with
  | 0 => ("TwoOnOneBack$Tape", "items", "[J", true)
  | 1 => ("TwoOnOneBack$Tape", "sort", "I", false)
  | _ => ("TwoOnOneBack$Tape", "length", "I", false)
def tyX6 : Nat → FieldType := fun k => match k with
  | 0 => .array .long
  | 1 => .int
  | _ => .int
abbrev wsX60 : List Cond := u_ws RX6 TX6 3
theorem nmX6 : ∀ a, a < 3 → ∀ b, b < 3 → a ≠ b → (TX6 a).2.1 ≠ (TX6 b).2.1 := by decide +kernel
theorem tyX6_ok : ∀ k, k < 3 → parseFieldDescriptor (TX6 k).2.2.1 = some (tyX6 k) := by decide +kernel
abbrev cX6_init : ByteArray := prog_8_method_1_code
def yX6_init : MethodName := ⟨RX6, "<init>", "()V"⟩
abbrev cX6_become : ByteArray := prog_8_method_2_code
def yX6_become : MethodName := ⟨RX6, "become", "(II)V"⟩
abbrev cX6_has : ByteArray := prog_8_method_3_code
def yX6_has : MethodName := ⟨RX6, "has", "(J)Z"⟩
abbrev cX6_reaches : ByteArray := prog_8_method_4_code
def yX6_reaches : MethodName := ⟨RX6, "reaches", "(II)Z"⟩
abbrev cX6_value : ByteArray := prog_8_method_5_code
def yX6_value : MethodName := ⟨RX6, "value", "(I)J"⟩
abbrev cX6_write : ByteArray := prog_8_method_6_code
def yX6_write : MethodName := ⟨RX6, "write", "(IJ)V"⟩
abbrev cX6_cut : ByteArray := prog_8_method_7_code
def yX6_cut : MethodName := ⟨RX6, "cut", "(J)J"⟩
def RX7 : String := "TwoOnOneBack$Text"
def TX7 : u_T := fun k => match k with
  | 0 => ("TwoOnOneBack$Text", "signs", "[B", true)
  | 1 => ("TwoOnOneBack$Text", "marks", "[J", true)
  | 2 => ("TwoOnOneBack$Text", "on", "I", false)
  | 3 => ("TwoOnOneBack$Text", "back", "I", false)
  | 4 => ("TwoOnOneBack$Text", "wrong", "Z", false)
  | 5 => ("TwoOnOneBack$Text", "length", "I", false)
  | _ => ("TwoOnOneBack$Text", "at", "I", false)
def tyX7 : Nat → FieldType := fun k => match k with
  | 0 => .array .byte
  | 1 => .array .long
  | 2 => .int
  | 3 => .int
  | 4 => .boolean
  | 5 => .int
  | _ => .int
abbrev wsX70 : List Cond := u_ws RX7 TX7 7
theorem nmX7 : ∀ a, a < 7 → ∀ b, b < 7 → a ≠ b → (TX7 a).2.1 ≠ (TX7 b).2.1 := by decide +kernel
theorem tyX7_ok : ∀ k, k < 7 → parseFieldDescriptor (TX7 k).2.2.1 = some (tyX7 k) := by decide +kernel
abbrev cX7_init : ByteArray := prog_9_method_1_code
def yX7_init : MethodName := ⟨RX7, "<init>", "()V"⟩
abbrev cX7_add : ByteArray := prog_9_method_2_code
def yX7_add : MethodName := ⟨RX7, "add", "(I)Z"⟩
abbrev cX7_parsed : ByteArray := prog_9_method_3_code
def yX7_parsed : MethodName := ⟨RX7, "parsed", "()LTwoOnOneBack$Land;"⟩
abbrev cX7_clause : ByteArray := prog_9_method_4_code
def yX7_clause : MethodName := ⟨RX7, "clause", "()V"⟩
abbrev cX7_either : ByteArray := prog_9_method_5_code
def yX7_either : MethodName := ⟨RX7, "either", "(I)J"⟩
abbrev cX7_both : ByteArray := prog_9_method_6_code
def yX7_both : MethodName := ⟨RX7, "both", "(I)J"⟩
abbrev cX7_single : ByteArray := prog_9_method_7_code
def yX7_single : MethodName := ⟨RX7, "single", "(I)J"⟩
abbrev cX7_tested : ByteArray := prog_9_method_8_code
def yX7_tested : MethodName := ⟨RX7, "tested", "(III)J"⟩
abbrev cX7_measure : ByteArray := prog_9_method_9_code
def yX7_measure : MethodName := ⟨RX7, "measure", "(II)I"⟩
abbrev cX7_number : ByteArray := prog_9_method_10_code
def yX7_number : MethodName := ⟨RX7, "number", "()I"⟩
abbrev cX7_oneOf : ByteArray := prog_9_method_11_code
def yX7_oneOf : MethodName := ⟨RX7, "oneOf", "(Ljava/lang/String;)I"⟩
abbrev cX7_oneIf : ByteArray := prog_9_method_12_code
def yX7_oneIf : MethodName := ⟨RX7, "oneIf", "(Ljava/lang/String;)I"⟩
abbrev cX7_needs : ByteArray := prog_9_method_13_code
def yX7_needs : MethodName := ⟨RX7, "needs", "(Ljava/lang/String;)V"⟩
abbrev cX7_takes : ByteArray := prog_9_method_14_code
def yX7_takes : MethodName := ⟨RX7, "takes", "(C)Z"⟩
def RX8 : String := "TwoOnOneBack$Told"
def TX8 : u_T := fun k => match k with
  | 0 => ("TwoOnOneBack$Told", "numbers", "[I", true)
  | _ => ("TwoOnOneBack$Told", "length", "I", false)
def tyX8 : Nat → FieldType := fun k => match k with
  | 0 => .array .int
  | _ => .int
abbrev wsX80 : List Cond := u_ws RX8 TX8 2
theorem nmX8 : ∀ a, a < 2 → ∀ b, b < 2 → a ≠ b → (TX8 a).2.1 ≠ (TX8 b).2.1 := by decide +kernel
theorem tyX8_ok : ∀ k, k < 2 → parseFieldDescriptor (TX8 k).2.2.1 = some (tyX8 k) := by decide +kernel
abbrev cX8_init : ByteArray := prog_10_method_1_code
def yX8_init : MethodName := ⟨RX8, "<init>", "()V"⟩
abbrev cX8_at : ByteArray := prog_10_method_2_code
def yX8_at : MethodName := ⟨RX8, "at", "(I)I"⟩
abbrev cX8_tell : ByteArray := prog_10_method_3_code
def yX8_tell : MethodName := ⟨RX8, "tell", "(I)I"⟩
abbrev cX8_become : ByteArray := prog_10_method_4_code
def yX8_become : MethodName := ⟨RX8, "become", "(LTwoOnOneBack$Told;)V"⟩
def RX9 : String := "TwoOnOneBack$Walker"
def TX9 : u_T := fun k => match k with
  | 0 => ("TwoOnOneBack$Walker", "kind", "I", false)
  | 1 => ("TwoOnOneBack$Walker", "v", "I", false)
  | 2 => ("TwoOnOneBack$Walker", "cell", "I", false)
  | 3 => ("TwoOnOneBack$Walker", "facing", "I", false)
  | 4 => ("TwoOnOneBack$Walker", "beat", "I", false)
  | 5 => ("TwoOnOneBack$Walker", "gone", "I", false)
  | _ => ("TwoOnOneBack$Walker", "came", "I", false)
def tyX9 : Nat → FieldType := fun k => match k with
  | 0 => .int
  | 1 => .int
  | 2 => .int
  | 3 => .int
  | 4 => .int
  | 5 => .int
  | _ => .int
abbrev wsX90 : List Cond := u_ws RX9 TX9 7
theorem nmX9 : ∀ a, a < 7 → ∀ b, b < 7 → a ≠ b → (TX9 a).2.1 ≠ (TX9 b).2.1 := by decide +kernel
theorem tyX9_ok : ∀ k, k < 7 → parseFieldDescriptor (TX9 k).2.2.1 = some (tyX9 k) := by decide +kernel
abbrev cX9_init : ByteArray := prog_11_method_1_code
def yX9_init : MethodName := ⟨RX9, "<init>", "()V"⟩
abbrev cX9_stands : ByteArray := prog_11_method_2_code
def yX9_stands : MethodName := ⟨RX9, "stands", "(III)V"⟩
abbrev cX9_become : ByteArray := prog_11_method_3_code
def yX9_become : MethodName := ⟨RX9, "become", "(LTwoOnOneBack$Walker;)V"⟩
def RX10 : String := "TwoOnOneBack"
def TX10 : u_T := fun k => match k with
  | 0 => ("TwoOnOneBack", "text", "LTwoOnOneBack$Text;", true)
  | 1 => ("TwoOnOneBack", "now", "LTwoOnOneBack$Scene;", true)
  | 2 => ("TwoOnOneBack", "kept", "LTwoOnOneBack$Scene;", true)
  | 3 => ("TwoOnOneBack", "gait", "LTwoOnOneBack$Gait;", true)
  | 4 => ("TwoOnOneBack", "trial", "LTwoOnOneBack$Walker;", true)
  | 5 => ("TwoOnOneBack", "crowd", "LTwoOnOneBack$Crowd;", true)
  | 6 => ("TwoOnOneBack", "others", "LTwoOnOneBack$Crowd;", true)
  | 7 => ("TwoOnOneBack", "lots", "LTwoOnOneBack$Lots;", true)
  | 8 => ("TwoOnOneBack", "bodies", "LTwoOnOneBack$Bodies;", true)
  | 9 => ("TwoOnOneBack", "tapes", "[LTwoOnOneBack$Tape;", true)
  | 10 => ("TwoOnOneBack", "lands", "I", false)
  | _ => ("TwoOnOneBack", "imaged", "Z", false)
def tyX10 : Nat → FieldType := fun k => match k with
  | 0 => .object "TwoOnOneBack$Text"
  | 1 => .object "TwoOnOneBack$Scene"
  | 2 => .object "TwoOnOneBack$Scene"
  | 3 => .object "TwoOnOneBack$Gait"
  | 4 => .object "TwoOnOneBack$Walker"
  | 5 => .object "TwoOnOneBack$Crowd"
  | 6 => .object "TwoOnOneBack$Crowd"
  | 7 => .object "TwoOnOneBack$Lots"
  | 8 => .object "TwoOnOneBack$Bodies"
  | 9 => .array (.object "TwoOnOneBack$Tape")
  | 10 => .int
  | _ => .boolean
abbrev wsX100 : List Cond := u_ws RX10 TX10 12
theorem nmX10 : ∀ a, a < 12 → ∀ b, b < 12 → a ≠ b → (TX10 a).2.1 ≠ (TX10 b).2.1 := by decide +kernel
theorem tyX10_ok : ∀ k, k < 12 → parseFieldDescriptor (TX10 k).2.2.1 = some (tyX10 k) := by decide +kernel
abbrev cX10_init : ByteArray := prog_1_method_1_code
def yX10_init : MethodName := ⟨RX10, "<init>", "()V"⟩
abbrev cX10_feed : ByteArray := prog_1_method_2_code
def yX10_feed : MethodName := ⟨RX10, "feed", "(I)I"⟩
abbrev cX10_land : ByteArray := prog_1_method_3_code
def yX10_land : MethodName := ⟨RX10, "land", "()I"⟩
abbrev cX10_told : ByteArray := prog_1_method_4_code
def yX10_told : MethodName := ⟨RX10, "told", "(I)I"⟩
abbrev cX10_ground : ByteArray := prog_1_method_5_code
def yX10_ground : MethodName := ⟨RX10, "ground", "(II)I"⟩
abbrev cX10_walker : ByteArray := prog_1_method_6_code
def yX10_walker : MethodName := ⟨RX10, "walker", "(IIII)I"⟩
abbrev cX10_of : ByteArray := prog_1_method_7_code
def yX10_of : MethodName := ⟨RX10, "of", "(II)I"⟩
abbrev cX10_put : ByteArray := prog_1_method_8_code
def yX10_put : MethodName := ⟨RX10, "put", "(IIII)I"⟩
abbrev cX10_may : ByteArray := prog_1_method_9_code
def yX10_may : MethodName := ⟨RX10, "may", "(I)I"⟩
abbrev cX10_step : ByteArray := prog_1_method_10_code
def yX10_step : MethodName := ⟨RX10, "step", "(II)I"⟩
abbrev cX10_allowed : ByteArray := prog_1_method_11_code
def yX10_allowed : MethodName := ⟨RX10, "allowed", "(LTwoOnOneBack$Walker;)I"⟩
abbrev cX10_goes : ByteArray := prog_1_method_12_code
def yX10_goes : MethodName := ⟨RX10, "goes", "(LTwoOnOneBack$Walker;I)Z"⟩
abbrev cX10_soonest : ByteArray := prog_1_method_13_code
def yX10_soonest : MethodName := ⟨RX10, "soonest", "(III)I"⟩
abbrev cX10_firstStep : ByteArray := prog_1_method_14_code
def yX10_firstStep : MethodName := ⟨RX10, "firstStep", "(LTwoOnOneBack$Walker;II)I"⟩
abbrev cX10_begin : ByteArray := prog_1_method_15_code
def yX10_begin : MethodName := ⟨RX10, "begin", "(III)I"⟩
abbrev cX10_reached : ByteArray := prog_1_method_16_code
def yX10_reached : MethodName := ⟨RX10, "reached", "(II)J"⟩
abbrev cX10_never : ByteArray := prog_1_method_17_code
def yX10_never : MethodName := ⟨RX10, "never", "(I)J"⟩
abbrev cX10_within : ByteArray := prog_1_method_18_code
def yX10_within : MethodName := ⟨RX10, "within", "(LTwoOnOneBack$Walker;I)J"⟩
abbrev cX10_meet : ByteArray := prog_1_method_19_code
def yX10_meet : MethodName := ⟨RX10, "meet", "(III)I"⟩
abbrev cX10_home : ByteArray := prog_1_method_20_code
def yX10_home : MethodName := ⟨RX10, "home", "(I)I"⟩
abbrev cX10_row : ByteArray := prog_1_method_21_code
def yX10_row : MethodName := ⟨RX10, "row", "(I)I"⟩
abbrev cX10_hand : ByteArray := prog_1_method_22_code
def yX10_hand : MethodName := ⟨RX10, "hand", "(II)I"⟩
abbrev cX10_track : ByteArray := prog_1_method_23_code
def yX10_track : MethodName := ⟨RX10, "track", "(I)I"⟩
abbrev cX10_tracks : ByteArray := prog_1_method_24_code
def yX10_tracks : MethodName := ⟨RX10, "tracks", "(II)I"⟩
abbrev cX10_left : ByteArray := prog_1_method_25_code
def yX10_left : MethodName := ⟨RX10, "left", "(III)Z"⟩
abbrev cX10_lot : ByteArray := prog_1_method_26_code
def yX10_lot : MethodName := ⟨RX10, "lot", "(IIII)J"⟩
abbrev cX10_slower : ByteArray := prog_1_method_27_code
def yX10_slower : MethodName := ⟨RX10, "slower", "(IIII)I"⟩
abbrev cX10_judge : ByteArray := prog_1_method_28_code
def yX10_judge : MethodName := ⟨RX10, "judge", "(II)I"⟩
abbrev cX10_image : ByteArray := prog_1_method_29_code
def yX10_image : MethodName := ⟨RX10, "image", "()I"⟩
abbrev cX10_undo : ByteArray := prog_1_method_30_code
def yX10_undo : MethodName := ⟨RX10, "undo", "()I"⟩
abbrev cX10_act : ByteArray := prog_1_method_31_code
def yX10_act : MethodName := ⟨RX10, "act", "(III)I"⟩
abbrev cX10_trace : ByteArray := prog_1_method_32_code
def yX10_trace : MethodName := ⟨RX10, "trace", "(I)I"⟩
abbrev cX10_taken : ByteArray := prog_1_method_33_code
def yX10_taken : MethodName := ⟨RX10, "taken", "(II)I"⟩
abbrev cX10_count : ByteArray := prog_1_method_34_code
def yX10_count : MethodName := ⟨RX10, "count", "(I)I"⟩
abbrev cX10_tape : ByteArray := prog_1_method_35_code
def yX10_tape : MethodName := ⟨RX10, "tape", "(III)I"⟩
abbrev cX10_item : ByteArray := prog_1_method_36_code
def yX10_item : MethodName := ⟨RX10, "item", "(IIJ)I"⟩
abbrev cX10_read : ByteArray := prog_1_method_37_code
def yX10_read : MethodName := ⟨RX10, "read", "(II)J"⟩
abbrev cX10_shift : ByteArray := prog_1_method_38_code
def yX10_shift : MethodName := ⟨RX10, "shift", "(IIIII)I"⟩
abbrev cX10_tapeAt : ByteArray := prog_1_method_39_code
def yX10_tapeAt : MethodName := ⟨RX10, "tapeAt", "(I)LTwoOnOneBack$Tape;"⟩
abbrev cX10_isCell : ByteArray := prog_1_method_40_code
def yX10_isCell : MethodName := ⟨RX10, "isCell", "(I)Z"⟩
abbrev cX10_isWay : ByteArray := prog_1_method_41_code
def yX10_isWay : MethodName := ⟨RX10, "isWay", "(I)Z"⟩
abbrev cX10_isKind : ByteArray := prog_1_method_42_code
def yX10_isKind : MethodName := ⟨RX10, "isKind", "(I)Z"⟩
abbrev cX10_isNumber : ByteArray := prog_1_method_43_code
def yX10_isNumber : MethodName := ⟨RX10, "isNumber", "(I)Z"⟩
abbrev cX10_isStep : ByteArray := prog_1_method_44_code
def yX10_isStep : MethodName := ⟨RX10, "isStep", "(I)Z"⟩
abbrev cX10_isPart : ByteArray := prog_1_method_45_code
def yX10_isPart : MethodName := ⟨RX10, "isPart", "(I)Z"⟩
abbrev cX10_holds : ByteArray := prog_1_method_46_code
def yX10_holds : MethodName := ⟨RX10, "holds", "(JI)Z"⟩
abbrev cX10_across : ByteArray := prog_1_method_47_code
def yX10_across : MethodName := ⟨RX10, "across", "(I)I"⟩
abbrev cX10_next : ByteArray := prog_1_method_48_code
def yX10_next : MethodName := ⟨RX10, "next", "(II)I"⟩
abbrev cX10_moved : ByteArray := prog_1_method_49_code
def yX10_moved : MethodName := ⟨RX10, "moved", "(JI)J"⟩
abbrev cX10_facingBy : ByteArray := prog_1_method_50_code
def yX10_facingBy : MethodName := ⟨RX10, "facingBy", "(II)I"⟩
abbrev cX10_cameBy : ByteArray := prog_1_method_51_code
def yX10_cameBy : MethodName := ⟨RX10, "cameBy", "(III)I"⟩
abbrev cX10_above : ByteArray := prog_1_method_52_code
def yX10_above : MethodName := ⟨RX10, "above", "(I)I"⟩
abbrev cX10_isUnder : ByteArray := prog_1_method_53_code
def yX10_isUnder : MethodName := ⟨RX10, "isUnder", "(II)Z"⟩
abbrev cX10_common : ByteArray := prog_1_method_54_code
def yX10_common : MethodName := ⟨RX10, "common", "(JJ)J"⟩
def RX11 : String := "TwoOnOneBackModel"
def TX11 : u_T := fun k => match k with
  | 0 => ("TwoOnOneBackModel", "s", "[I", true)
  | 1 => ("TwoOnOneBackModel", "image", "[I", true)
  | 2 => ("TwoOnOneBackModel", "isImage", "Z", false)
  | 3 => ("TwoOnOneBackModel", "on", "[I", true)
  | 4 => ("TwoOnOneBackModel", "back", "[I", true)
  | 5 => ("TwoOnOneBackModel", "marks", "[I", true)
  | 6 => ("TwoOnOneBackModel", "lands", "I", false)
  | 7 => ("TwoOnOneBackModel", "text", "[I", true)
  | 8 => ("TwoOnOneBackModel", "texted", "I", false)
  | 9 => ("TwoOnOneBackModel", "at", "I", false)
  | 10 => ("TwoOnOneBackModel", "depth", "I", false)
  | 11 => ("TwoOnOneBackModel", "isWrong", "Z", false)
  | 12 => ("TwoOnOneBackModel", "readMarks", "[I", true)
  | 13 => ("TwoOnOneBackModel", "readOn", "I", false)
  | 14 => ("TwoOnOneBackModel", "readBack", "I", false)
  | 15 => ("TwoOnOneBackModel", "now", "[I", true)
  | 16 => ("TwoOnOneBackModel", "next", "[I", true)
  | 17 => ("TwoOnOneBackModel", "weight", "[J", true)
  | 18 => ("TwoOnOneBackModel", "nextWeight", "[J", true)
  | 19 => ("TwoOnOneBackModel", "kind", "I", false)
  | 20 => ("TwoOnOneBackModel", "number", "I", false)
  | 21 => ("TwoOnOneBackModel", "beat0", "I", false)
  | 22 => ("TwoOnOneBackModel", "gone0", "I", false)
  | 23 => ("TwoOnOneBackModel", "went", "I", false)
  | 24 => ("TwoOnOneBackModel", "soonestFirst", "I", false)
  | 25 => ("TwoOnOneBackModel", "placesAt", "[J", true)
  | 26 => ("TwoOnOneBackModel", "walkerWas", "[I", true)
  | 27 => ("TwoOnOneBackModel", "trace", "[I", true)
  | 28 => ("TwoOnOneBackModel", "traced", "I", false)
  | 29 => ("TwoOnOneBackModel", "actor", "I", false)
  | 30 => ("TwoOnOneBackModel", "sort", "[I", true)
  | 31 => ("TwoOnOneBackModel", "size", "[I", true)
  | 32 => ("TwoOnOneBackModel", "holds", "[Z", true)
  | _ => ("TwoOnOneBackModel", "item", "[J", true)
def tyX11 : Nat → FieldType := fun k => match k with
  | 0 => .array .int
  | 1 => .array .int
  | 2 => .boolean
  | 3 => .array .int
  | 4 => .array .int
  | 5 => .array .int
  | 6 => .int
  | 7 => .array .int
  | 8 => .int
  | 9 => .int
  | 10 => .int
  | 11 => .boolean
  | 12 => .array .int
  | 13 => .int
  | 14 => .int
  | 15 => .array .int
  | 16 => .array .int
  | 17 => .array .long
  | 18 => .array .long
  | 19 => .int
  | 20 => .int
  | 21 => .int
  | 22 => .int
  | 23 => .int
  | 24 => .int
  | 25 => .array .long
  | 26 => .array .int
  | 27 => .array .int
  | 28 => .int
  | 29 => .int
  | 30 => .array .int
  | 31 => .array .int
  | 32 => .array .boolean
  | _ => .array .long
abbrev wsX110 : List Cond := u_ws RX11 TX11 34
theorem nmX11 : ∀ a, a < 34 → ∀ b, b < 34 → a ≠ b → (TX11 a).2.1 ≠ (TX11 b).2.1 := by decide +kernel
theorem tyX11_ok : ∀ k, k < 34 → parseFieldDescriptor (TX11 k).2.2.1 = some (tyX11 k) := by decide +kernel
abbrev cX11_init : ByteArray := prog_13_method_1_code
def yX11_init : MethodName := ⟨RX11, "<init>", "()V"⟩
abbrev cX11_isIn : ByteArray := prog_13_method_2_code
def yX11_isIn : MethodName := ⟨RX11, "isIn", "(II)Z"⟩
abbrev cX11_isWalker : ByteArray := prog_13_method_3_code
def yX11_isWalker : MethodName := ⟨RX11, "isWalker", "(I)Z"⟩
abbrev cX11_isCell : ByteArray := prog_13_method_4_code
def yX11_isCell : MethodName := ⟨RX11, "isCell", "(I)Z"⟩
abbrev cX11_get : ByteArray := prog_13_method_5_code
def yX11_get : MethodName := ⟨RX11, "get", "(II)I"⟩
abbrev cX11_puts : ByteArray := prog_13_method_6_code
def yX11_puts : MethodName := ⟨RX11, "puts", "(III)V"⟩
abbrev cX11_feed : ByteArray := prog_13_method_7_code
def yX11_feed : MethodName := ⟨RX11, "feed", "(I)I"⟩
abbrev cX11_here : ByteArray := prog_13_method_8_code
def yX11_here : MethodName := ⟨RX11, "here", "()I"⟩
abbrev cX11_takes : ByteArray := prog_13_method_9_code
def yX11_takes : MethodName := ⟨RX11, "takes", "(I)V"⟩
abbrev cX11_number : ByteArray := prog_13_method_10_code
def yX11_number : MethodName := ⟨RX11, "number", "()I"⟩
abbrev cX11_amount : ByteArray := prog_13_method_11_code
def yX11_amount : MethodName := ⟨RX11, "amount", "(I)I"⟩
abbrev cX11_valueOf : ByteArray := prog_13_method_12_code
def yX11_valueOf : MethodName := ⟨RX11, "valueOf", "(II)I"⟩
abbrev cX11_test : ByteArray := prog_13_method_13_code
def yX11_test : MethodName := ⟨RX11, "test", "()J"⟩
abbrev cX11_factor : ByteArray := prog_13_method_14_code
def yX11_factor : MethodName := ⟨RX11, "factor", "()J"⟩
abbrev cX11_term : ByteArray := prog_13_method_15_code
def yX11_term : MethodName := ⟨RX11, "term", "()J"⟩
abbrev cX11_either : ByteArray := prog_13_method_16_code
def yX11_either : MethodName := ⟨RX11, "either", "()J"⟩
abbrev cX11_word : ByteArray := prog_13_method_17_code
def yX11_word : MethodName := ⟨RX11, "word", "(IIIII)V"⟩
abbrev cX11_marksBy : ByteArray := prog_13_method_18_code
def yX11_marksBy : MethodName := ⟨RX11, "marksBy", "(I)V"⟩
abbrev cX11_clause : ByteArray := prog_13_method_19_code
def yX11_clause : MethodName := ⟨RX11, "clause", "()V"⟩
abbrev cX11_held : ByteArray := prog_13_method_20_code
def yX11_held : MethodName := ⟨RX11, "held", "(I)I"⟩
abbrev cX11_reads : ByteArray := prog_13_method_21_code
def yX11_reads : MethodName := ⟨RX11, "reads", "()V"⟩
abbrev cX11_land : ByteArray := prog_13_method_22_code
def yX11_land : MethodName := ⟨RX11, "land", "()I"⟩
abbrev cX11_onBeats : ByteArray := prog_13_method_23_code
def yX11_onBeats : MethodName := ⟨RX11, "onBeats", "()I"⟩
abbrev cX11_beats : ByteArray := prog_13_method_24_code
def yX11_beats : MethodName := ⟨RX11, "beats", "()I"⟩
abbrev cX11_told : ByteArray := prog_13_method_25_code
def yX11_told : MethodName := ⟨RX11, "told", "(I)I"⟩
abbrev cX11_isMarked : ByteArray := prog_13_method_26_code
def yX11_isMarked : MethodName := ⟨RX11, "isMarked", "(II)Z"⟩
abbrev cX11_ground : ByteArray := prog_13_method_27_code
def yX11_ground : MethodName := ⟨RX11, "ground", "(II)I"⟩
abbrev cX11_walker : ByteArray := prog_13_method_28_code
def yX11_walker : MethodName := ⟨RX11, "walker", "(IIII)I"⟩
abbrev cX11_beatOf : ByteArray := prog_13_method_29_code
def yX11_beatOf : MethodName := ⟨RX11, "beatOf", "(I)I"⟩
abbrev cX11_of : ByteArray := prog_13_method_30_code
def yX11_of : MethodName := ⟨RX11, "of", "(II)I"⟩
abbrev cX11_put : ByteArray := prog_13_method_31_code
def yX11_put : MethodName := ⟨RX11, "put", "(IIII)I"⟩
abbrev cX11_beside : ByteArray := prog_13_method_32_code
def yX11_beside : MethodName := ⟨RX11, "beside", "(II)I"⟩
abbrev cX11_goesOn : ByteArray := prog_13_method_33_code
def yX11_goesOn : MethodName := ⟨RX11, "goesOn", "(III)Z"⟩
abbrev cX11_backTo : ByteArray := prog_13_method_34_code
def yX11_backTo : MethodName := ⟨RX11, "backTo", "(IIII)I"⟩
abbrev cX11_goesBack : ByteArray := prog_13_method_35_code
def yX11_goesBack : MethodName := ⟨RX11, "goesBack", "(IIII)Z"⟩
abbrev cX11_mayOn : ByteArray := prog_13_method_36_code
def yX11_mayOn : MethodName := ⟨RX11, "mayOn", "(IIIII)I"⟩
abbrev cX11_mayBy : ByteArray := prog_13_method_37_code
def yX11_mayBy : MethodName := ⟨RX11, "mayBy", "(IIIIIII)I"⟩
abbrev cX11_mayNow : ByteArray := prog_13_method_38_code
def yX11_mayNow : MethodName := ⟨RX11, "mayNow", "(I)I"⟩
abbrev cX11_may : ByteArray := prog_13_method_39_code
def yX11_may : MethodName := ⟨RX11, "may", "(I)I"⟩
abbrev cX11_steps : ByteArray := prog_13_method_40_code
def yX11_steps : MethodName := ⟨RX11, "steps", "(II)V"⟩
abbrev cX11_step : ByteArray := prog_13_method_41_code
def yX11_step : MethodName := ⟨RX11, "step", "(II)I"⟩
abbrev cX11_stateOf : ByteArray := prog_13_method_42_code
def yX11_stateOf : MethodName := ⟨RX11, "stateOf", "(III)I"⟩
abbrev cX11_comesTo : ByteArray := prog_13_method_43_code
def yX11_comesTo : MethodName := ⟨RX11, "comesTo", "(IIII)I"⟩
abbrev cX11_begins : ByteArray := prog_13_method_44_code
def yX11_begins : MethodName := ⟨RX11, "begins", "(IIIIIII)V"⟩
abbrev cX11_beginsAs : ByteArray := prog_13_method_45_code
def yX11_beginsAs : MethodName := ⟨RX11, "beginsAs", "(II)V"⟩
abbrev cX11_bits : ByteArray := prog_13_method_46_code
def yX11_bits : MethodName := ⟨RX11, "bits", "(I)I"⟩
abbrev cX11_goesBeat : ByteArray := prog_13_method_47_code
def yX11_goesBeat : MethodName := ⟨RX11, "goesBeat", "()V"⟩
abbrev cX11_cellsNow : ByteArray := prog_13_method_48_code
def yX11_cellsNow : MethodName := ⟨RX11, "cellsNow", "()J"⟩
abbrev cX11_firstTo : ByteArray := prog_13_method_49_code
def yX11_firstTo : MethodName := ⟨RX11, "firstTo", "(I)I"⟩
abbrev cX11_soonestTo : ByteArray := prog_13_method_50_code
def yX11_soonestTo : MethodName := ⟨RX11, "soonestTo", "(I)I"⟩
abbrev cX11_soonest : ByteArray := prog_13_method_51_code
def yX11_soonest : MethodName := ⟨RX11, "soonest", "(III)I"⟩
abbrev cX11_begin : ByteArray := prog_13_method_52_code
def yX11_begin : MethodName := ⟨RX11, "begin", "(III)I"⟩
abbrev cX11_within : ByteArray := prog_13_method_53_code
def yX11_within : MethodName := ⟨RX11, "within", "(II)J"⟩
abbrev cX11_reached : ByteArray := prog_13_method_54_code
def yX11_reached : MethodName := ⟨RX11, "reached", "(II)J"⟩
abbrev cX11_never : ByteArray := prog_13_method_55_code
def yX11_never : MethodName := ⟨RX11, "never", "(I)J"⟩
abbrev cX11_meet : ByteArray := prog_13_method_56_code
def yX11_meet : MethodName := ⟨RX11, "meet", "(III)I"⟩
abbrev cX11_home : ByteArray := prog_13_method_57_code
def yX11_home : MethodName := ⟨RX11, "home", "(I)I"⟩
abbrev cX11_row : ByteArray := prog_13_method_58_code
def yX11_row : MethodName := ⟨RX11, "row", "(I)I"⟩
abbrev cX11_hand : ByteArray := prog_13_method_59_code
def yX11_hand : MethodName := ⟨RX11, "hand", "(II)I"⟩
abbrev cX11_track : ByteArray := prog_13_method_60_code
def yX11_track : MethodName := ⟨RX11, "track", "(I)I"⟩
abbrev cX11_mightHave : ByteArray := prog_13_method_61_code
def yX11_mightHave : MethodName := ⟨RX11, "mightHave", "(IIII)Z"⟩
abbrev cX11_tracks : ByteArray := prog_13_method_62_code
def yX11_tracks : MethodName := ⟨RX11, "tracks", "(II)I"⟩
abbrev cX11_common : ByteArray := prog_13_method_63_code
def yX11_common : MethodName := ⟨RX11, "common", "(JJ)J"⟩
abbrev cX11_lot : ByteArray := prog_13_method_64_code
def yX11_lot : MethodName := ⟨RX11, "lot", "(IIII)J"⟩
abbrev cX11_soonestBy : ByteArray := prog_13_method_65_code
def yX11_soonestBy : MethodName := ⟨RX11, "soonestBy", "(III)I"⟩
abbrev cX11_slower : ByteArray := prog_13_method_66_code
def yX11_slower : MethodName := ⟨RX11, "slower", "(IIII)I"⟩
abbrev cX11_above : ByteArray := prog_13_method_67_code
def yX11_above : MethodName := ⟨RX11, "above", "(I)I"⟩
abbrev cX11_runs : ByteArray := prog_13_method_68_code
def yX11_runs : MethodName := ⟨RX11, "runs", "(I)V"⟩
abbrev cX11_bodyOf : ByteArray := prog_13_method_69_code
def yX11_bodyOf : MethodName := ⟨RX11, "bodyOf", "(III)I"⟩
abbrev cX11_hasBody : ByteArray := prog_13_method_70_code
def yX11_hasBody : MethodName := ⟨RX11, "hasBody", "(II)Z"⟩
abbrev cX11_acts : ByteArray := prog_13_method_71_code
def yX11_acts : MethodName := ⟨RX11, "acts", "(II)I"⟩
abbrev cX11_act : ByteArray := prog_13_method_72_code
def yX11_act : MethodName := ⟨RX11, "act", "(III)I"⟩
abbrev cX11_trace : ByteArray := prog_13_method_73_code
def yX11_trace : MethodName := ⟨RX11, "trace", "(I)I"⟩
abbrev cX11_taken : ByteArray := prog_13_method_74_code
def yX11_taken : MethodName := ⟨RX11, "taken", "(II)I"⟩
abbrev cX11_judge : ByteArray := prog_13_method_75_code
def yX11_judge : MethodName := ⟨RX11, "judge", "(II)I"⟩
abbrev cX11_image : ByteArray := prog_13_method_76_code
def yX11_image : MethodName := ⟨RX11, "image", "()I"⟩
abbrev cX11_undo : ByteArray := prog_13_method_77_code
def yX11_undo : MethodName := ⟨RX11, "undo", "()I"⟩
abbrev cX11_count : ByteArray := prog_13_method_78_code
def yX11_count : MethodName := ⟨RX11, "count", "(I)I"⟩
abbrev cX11_tape : ByteArray := prog_13_method_79_code
def yX11_tape : MethodName := ⟨RX11, "tape", "(III)I"⟩
abbrev cX11_item : ByteArray := prog_13_method_80_code
def yX11_item : MethodName := ⟨RX11, "item", "(IIJ)I"⟩
abbrev cX11_read : ByteArray := prog_13_method_81_code
def yX11_read : MethodName := ⟨RX11, "read", "(II)J"⟩
abbrev cX11_shift : ByteArray := prog_13_method_82_code
def yX11_shift : MethodName := ⟨RX11, "shift", "(IIIII)I"⟩
def RJx145de : String := "java/io/Serializable"
def TJx145de : u_T := fun k => match k with
  | _ => ("", "", "", false)
def tyJx145de : Nat → FieldType := fun k => match k with
  | _ => .int
abbrev wsJx145de0 : List Cond := u_ws RJx145de TJx145de 0
theorem nmJx145de : ∀ a, a < 0 → ∀ b, b < 0 → a ≠ b → (TJx145de a).2.1 ≠ (TJx145de b).2.1 := by decide +kernel
theorem tyJx145de_ok : ∀ k, k < 0 → parseFieldDescriptor (TJx145de k).2.2.1 = some (tyJx145de k) := by decide +kernel
def RJx9f9b0 : String := "java/lang/CharSequence"
def TJx9f9b0 : u_T := fun k => match k with
  | _ => ("", "", "", false)
def tyJx9f9b0 : Nat → FieldType := fun k => match k with
  | _ => .int
abbrev wsJx9f9b00 : List Cond := u_ws RJx9f9b0 TJx9f9b0 0
theorem nmJx9f9b0 : ∀ a, a < 0 → ∀ b, b < 0 → a ≠ b → (TJx9f9b0 a).2.1 ≠ (TJx9f9b0 b).2.1 := by decide +kernel
theorem tyJx9f9b0_ok : ∀ k, k < 0 → parseFieldDescriptor (TJx9f9b0 k).2.2.1 = some (tyJx9f9b0 k) := by decide +kernel
def RJxb160c : String := "java/lang/Comparable"
def TJxb160c : u_T := fun k => match k with
  | _ => ("", "", "", false)
def tyJxb160c : Nat → FieldType := fun k => match k with
  | _ => .int
abbrev wsJxb160c0 : List Cond := u_ws RJxb160c TJxb160c 0
theorem nmJxb160c : ∀ a, a < 0 → ∀ b, b < 0 → a ≠ b → (TJxb160c a).2.1 ≠ (TJxb160c b).2.1 := by decide +kernel
theorem tyJxb160c_ok : ∀ k, k < 0 → parseFieldDescriptor (TJxb160c k).2.2.1 = some (tyJxb160c k) := by decide +kernel
def RJ6 : String := "java/lang/Integer"
def TJ6 : u_T := fun k => match k with
  | _ => ("", "", "", false)
def tyJ6 : Nat → FieldType := fun k => match k with
  | _ => .int
abbrev wsJ60 : List Cond := u_ws RJ6 TJ6 0
theorem nmJ6 : ∀ a, a < 0 → ∀ b, b < 0 → a ≠ b → (TJ6 a).2.1 ≠ (TJ6 b).2.1 := by decide +kernel
theorem tyJ6_ok : ∀ k, k < 0 → parseFieldDescriptor (TJ6 k).2.2.1 = some (tyJ6 k) := by decide +kernel
abbrev cJ6_compare_7cf53 : ByteArray := prog_14_method_40_code
def yJ6_compare_7cf53 : MethodName := ⟨RJ6, "compare", "(II)I"⟩
abbrev cJ6_numberOfTrailingZeros_0f7a4 : ByteArray := prog_14_method_48_code
def yJ6_numberOfTrailingZeros_0f7a4 : MethodName := ⟨RJ6, "numberOfTrailingZeros", "(I)I"⟩
abbrev cJ6_bitCount_0f7a4 : ByteArray := prog_14_method_49_code
def yJ6_bitCount_0f7a4 : MethodName := ⟨RJ6, "bitCount", "(I)I"⟩
def RJ13 : String := "java/lang/Long"
def TJ13 : u_T := fun k => match k with
  | _ => ("", "", "", false)
def tyJ13 : Nat → FieldType := fun k => match k with
  | _ => .int
abbrev wsJ130 : List Cond := u_ws RJ13 TJ13 0
theorem nmJ13 : ∀ a, a < 0 → ∀ b, b < 0 → a ≠ b → (TJ13 a).2.1 ≠ (TJ13 b).2.1 := by decide +kernel
theorem tyJ13_ok : ∀ k, k < 0 → parseFieldDescriptor (TJ13 k).2.2.1 = some (tyJ13 k) := by decide +kernel
abbrev cJ13_numberOfTrailingZeros_95d88 : ByteArray := prog_15_method_49_code
def yJ13_numberOfTrailingZeros_95d88 : MethodName := ⟨RJ13, "numberOfTrailingZeros", "(J)I"⟩
def RJ9 : String := "java/lang/Math"
def TJ9 : u_T := fun k => match k with
  | _ => ("", "", "", false)
def tyJ9 : Nat → FieldType := fun k => match k with
  | _ => .int
abbrev wsJ90 : List Cond := u_ws RJ9 TJ9 0
theorem nmJ9 : ∀ a, a < 0 → ∀ b, b < 0 → a ≠ b → (TJ9 a).2.1 ≠ (TJ9 b).2.1 := by decide +kernel
theorem tyJ9_ok : ∀ k, k < 0 → parseFieldDescriptor (TJ9 k).2.2.1 = some (tyJ9 k) := by decide +kernel
abbrev cJ9_abs_0f7a4 : ByteArray := prog_16_method_59_code
def yJ9_abs_0f7a4 : MethodName := ⟨RJ9, "abs", "(I)I"⟩
abbrev cJ9_max_7cf53 : ByteArray := prog_16_method_65_code
def yJ9_max_7cf53 : MethodName := ⟨RJ9, "max", "(II)I"⟩
abbrev cJ9_min_7cf53 : ByteArray := prog_16_method_69_code
def yJ9_min_7cf53 : MethodName := ⟨RJ9, "min", "(II)I"⟩
def RJxd2413 : String := "java/lang/Number"
def TJxd2413 : u_T := fun k => match k with
  | _ => ("", "", "", false)
def tyJxd2413 : Nat → FieldType := fun k => match k with
  | _ => .int
abbrev wsJxd24130 : List Cond := u_ws RJxd2413 TJxd2413 0
theorem nmJxd2413 : ∀ a, a < 0 → ∀ b, b < 0 → a ≠ b → (TJxd2413 a).2.1 ≠ (TJxd2413 b).2.1 := by decide +kernel
theorem tyJxd2413_ok : ∀ k, k < 0 → parseFieldDescriptor (TJxd2413 k).2.2.1 = some (tyJxd2413 k) := by decide +kernel
def RJ0 : String := "java/lang/String"
def TJ0 : u_T := fun k => match k with
  | _ => ("", "", "", false)
def tyJ0 : Nat → FieldType := fun k => match k with
  | _ => .int
abbrev wsJ00 : List Cond := u_ws RJ0 TJ0 0
theorem nmJ0 : ∀ a, a < 0 → ∀ b, b < 0 → a ≠ b → (TJ0 a).2.1 ≠ (TJ0 b).2.1 := by decide +kernel
theorem tyJ0_ok : ∀ k, k < 0 → parseFieldDescriptor (TJ0 k).2.2.1 = some (tyJ0 k) := by decide +kernel
abbrev cJ0_length_8abf5 : ByteArray := prog_18_method_54_code
def yJ0_length_8abf5 : MethodName := ⟨RJ0, "length", "()I"⟩
abbrev cJ0_charAt_5068e : ByteArray := prog_18_method_56_code
def yJ0_charAt_5068e : MethodName := ⟨RJ0, "charAt", "(I)C"⟩
abbrev cJ0_coder_7d493 : ByteArray := prog_18_method_152_code
def yJ0_coder_7d493 : MethodName := ⟨RJ0, "coder", "()B"⟩
abbrev cJ0_isLatin1_aae02 : ByteArray := prog_18_method_154_code
def yJ0_isLatin1_aae02 : MethodName := ⟨RJ0, "isLatin1", "()Z"⟩
abbrev cJ0_checkIndex_df160 : ByteArray := prog_18_method_155_code
def yJ0_checkIndex_df160 : MethodName := ⟨RJ0, "checkIndex", "(II)V"⟩
def RJ1 : String := "java/lang/StringLatin1"
def TJ1 : u_T := fun k => match k with
  | _ => ("", "", "", false)
def tyJ1 : Nat → FieldType := fun k => match k with
  | _ => .int
abbrev wsJ10 : List Cond := u_ws RJ1 TJ1 0
theorem nmJ1 : ∀ a, a < 0 → ∀ b, b < 0 → a ≠ b → (TJ1 a).2.1 ≠ (TJ1 b).2.1 := by decide +kernel
theorem tyJ1_ok : ∀ k, k < 0 → parseFieldDescriptor (TJ1 k).2.2.1 = some (tyJ1 k) := by decide +kernel
abbrev cJ1_charAt_3b067 : ByteArray := prog_19_method_2_code
def yJ1_charAt_3b067 : MethodName := ⟨RJ1, "charAt", "([BI)C"⟩
def RJ2 : String := "java/lang/StringUTF16"
def TJ2 : u_T := fun k => match k with
  | _ => ("", "", "", false)
def tyJ2 : Nat → FieldType := fun k => match k with
  | _ => .int
abbrev wsJ20 : List Cond := u_ws RJ2 TJ2 0
theorem nmJ2 : ∀ a, a < 0 → ∀ b, b < 0 → a ≠ b → (TJ2 a).2.1 ≠ (TJ2 b).2.1 := by decide +kernel
theorem tyJ2_ok : ∀ k, k < 0 → parseFieldDescriptor (TJ2 k).2.2.1 = some (tyJ2 k) := by decide +kernel
abbrev cJ2_getChar_3b067 : ByteArray := prog_20_method_5_code
def yJ2_getChar_3b067 : MethodName := ⟨RJ2, "getChar", "([BI)C"⟩
abbrev cJ2_length_9d52b : ByteArray := prog_20_method_6_code
def yJ2_length_9d52b : MethodName := ⟨RJ2, "length", "([B)I"⟩
abbrev cJ2_charAt_3b067 : ByteArray := prog_20_method_83_code
def yJ2_charAt_3b067 : MethodName := ⟨RJ2, "charAt", "([BI)C"⟩
abbrev cJ2_checkIndex_2214a : ByteArray := prog_20_method_91_code
def yJ2_checkIndex_2214a : MethodName := ⟨RJ2, "checkIndex", "(I[B)V"⟩
def RJ10 : String := "java/lang/System"
def TJ10 : u_T := fun k => match k with
  | _ => ("", "", "", false)
def tyJ10 : Nat → FieldType := fun k => match k with
  | _ => .int
abbrev wsJ100 : List Cond := u_ws RJ10 TJ10 0
theorem nmJ10 : ∀ a, a < 0 → ∀ b, b < 0 → a ≠ b → (TJ10 a).2.1 ≠ (TJ10 b).2.1 := by decide +kernel
theorem tyJ10_ok : ∀ k, k < 0 → parseFieldDescriptor (TJ10 k).2.2.1 = some (tyJ10 k) := by decide +kernel
def RJxfd54e : String := "java/lang/constant/Constable"
def TJxfd54e : u_T := fun k => match k with
  | _ => ("", "", "", false)
def tyJxfd54e : Nat → FieldType := fun k => match k with
  | _ => .int
abbrev wsJxfd54e0 : List Cond := u_ws RJxfd54e TJxfd54e 0
theorem nmJxfd54e : ∀ a, a < 0 → ∀ b, b < 0 → a ≠ b → (TJxfd54e a).2.1 ≠ (TJxfd54e b).2.1 := by decide +kernel
theorem tyJxfd54e_ok : ∀ k, k < 0 → parseFieldDescriptor (TJxfd54e k).2.2.1 = some (tyJxfd54e k) := by decide +kernel
def RJx3cf43 : String := "java/lang/constant/ConstantDesc"
def TJx3cf43 : u_T := fun k => match k with
  | _ => ("", "", "", false)
def tyJx3cf43 : Nat → FieldType := fun k => match k with
  | _ => .int
abbrev wsJx3cf430 : List Cond := u_ws RJx3cf43 TJx3cf43 0
theorem nmJx3cf43 : ∀ a, a < 0 → ∀ b, b < 0 → a ≠ b → (TJx3cf43 a).2.1 ≠ (TJx3cf43 b).2.1 := by decide +kernel
theorem tyJx3cf43_ok : ∀ k, k < 0 → parseFieldDescriptor (TJx3cf43 k).2.2.1 = some (tyJx3cf43 k) := by decide +kernel
def RJ7 : String := "java/util/Arrays"
def TJ7 : u_T := fun k => match k with
  | _ => ("", "", "", false)
def tyJ7 : Nat → FieldType := fun k => match k with
  | _ => .int
abbrev wsJ70 : List Cond := u_ws RJ7 TJ7 0
theorem nmJ7 : ∀ a, a < 0 → ∀ b, b < 0 → a ≠ b → (TJ7 a).2.1 ≠ (TJ7 b).2.1 := by decide +kernel
theorem tyJ7_ok : ∀ k, k < 0 → parseFieldDescriptor (TJ7 k).2.2.1 = some (tyJ7 k) := by decide +kernel
abbrev cJ7_fill_d0a16 : ByteArray := prog_22_method_101_code
def yJ7_fill_d0a16 : MethodName := ⟨RJ7, "fill", "([JJ)V"⟩
def RJ3 : String := "jdk/internal/util/Preconditions"
def TJ3 : u_T := fun k => match k with
  | _ => ("", "", "", false)
def tyJ3 : Nat → FieldType := fun k => match k with
  | _ => .int
abbrev wsJ30 : List Cond := u_ws RJ3 TJ3 0
theorem nmJ3 : ∀ a, a < 0 → ∀ b, b < 0 → a ≠ b → (TJ3 a).2.1 ≠ (TJ3 b).2.1 := by decide +kernel
theorem tyJ3_ok : ∀ k, k < 0 → parseFieldDescriptor (TJ3 k).2.2.1 = some (tyJ3 k) := by decide +kernel
abbrev cJ3_checkIndex_8e157 : ByteArray := prog_23_method_11_code
def yJ3_checkIndex_8e157 : MethodName := ⟨RJ3, "checkIndex", "(IILjava/util/function/BiFunction;)I"⟩
def RL : String := "TwoOnOneBackLaw"
abbrev cL_law : ByteArray := code
def yL_law : MethodName := ⟨RL, "law", "([I)Z"⟩
abbrev vwCl : List vw_C := [(RX0, TX0, 5), (RX1, TX1, 3), (RX2, TX2, 5), (RX3, TX3, 10), (RX4, TX4, 3), (RX5, TX5, 5), (RX6, TX6, 3), (RX7, TX7, 7), (RX8, TX8, 2), (RX9, TX9, 7), (RX10, TX10, 12), (RX11, TX11, 34)]
end
section
theorem dX0_init_0 : decode cX0_init 0 = .ok (.aload_n 0, 1) := by decide +kernel
theorem dX0_init_1 : decode cX0_init 1 = .ok (.invokespecial 3, 3) := by decide +kernel
theorem dX0_init_4 : decode cX0_init 4 = .ok (.aload_n 0, 1) := by decide +kernel
theorem dX0_init_5 : decode cX0_init 5 = .ok (.bipush 20, 2) := by decide +kernel
theorem dX0_init_7 : decode cX0_init 7 = .ok (.newarray .int, 2) := by decide +kernel
theorem dX0_init_9 : decode cX0_init 9 = .ok (.putfield 9, 3) := by decide +kernel
theorem dX0_init_12 : decode cX0_init 12 = .ok (.return_, 1) := by decide +kernel
theorem dX0_steps_0 : decode cX0_steps 0 = .ok (.iload_n 1, 1) := by decide +kernel
theorem dX0_steps_1 : decode cX0_steps 1 = .ok (.tableswitch 89 2 6 #[35, 89, 50, 82, 64], 35) := by decide +kernel
theorem dX0_steps_36 : decode cX0_steps 36 = .ok (.aload_n 0, 1) := by decide +kernel
theorem dX0_steps_37 : decode cX0_steps 37 = .ok (.bipush 30, 2) := by decide +kernel
theorem dX0_steps_39 : decode cX0_steps 39 = .ok (.invokevirtual 15, 3) := by decide +kernel
theorem dX0_steps_42 : decode cX0_steps 42 = .ok (.aload_n 0, 1) := by decide +kernel
theorem dX0_steps_43 : decode cX0_steps 43 = .ok (.iconst 0, 1) := by decide +kernel
theorem dX0_steps_44 : decode cX0_steps 44 = .ok (.iload_n 2, 1) := by decide +kernel
theorem dX0_steps_45 : decode cX0_steps 45 = .ok (.iconst 3, 1) := by decide +kernel
theorem dX0_steps_46 : decode cX0_steps 46 = .ok (.imul, 1) := by decide +kernel
theorem dX0_steps_47 : decode cX0_steps 47 = .ok (.invokevirtual 19, 3) := by decide +kernel
theorem dX0_steps_50 : decode cX0_steps 50 = .ok (.ireturn, 1) := by decide +kernel
theorem dX0_steps_51 : decode cX0_steps 51 = .ok (.aload_n 0, 1) := by decide +kernel
theorem dX0_steps_52 : decode cX0_steps 52 = .ok (.bipush 50, 2) := by decide +kernel
theorem dX0_steps_54 : decode cX0_steps 54 = .ok (.invokevirtual 15, 3) := by decide +kernel
theorem dX0_steps_57 : decode cX0_steps 57 = .ok (.aload_n 0, 1) := by decide +kernel
theorem dX0_steps_58 : decode cX0_steps 58 = .ok (.iconst 1, 1) := by decide +kernel
theorem dX0_steps_59 : decode cX0_steps 59 = .ok (.iload_n 2, 1) := by decide +kernel
theorem dX0_steps_60 : decode cX0_steps 60 = .ok (.invokevirtual 19, 3) := by decide +kernel
theorem dX0_steps_63 : decode cX0_steps 63 = .ok (.ineg, 1) := by decide +kernel
theorem dX0_steps_64 : decode cX0_steps 64 = .ok (.ireturn, 1) := by decide +kernel
theorem dX0_steps_65 : decode cX0_steps 65 = .ok (.aload_n 0, 1) := by decide +kernel
theorem dX0_steps_66 : decode cX0_steps 66 = .ok (.bipush 71, 2) := by decide +kernel
theorem dX0_steps_68 : decode cX0_steps 68 = .ok (.invokevirtual 15, 3) := by decide +kernel
theorem dX0_steps_71 : decode cX0_steps 71 = .ok (.aload_n 0, 1) := by decide +kernel
theorem dX0_steps_72 : decode cX0_steps 72 = .ok (.iconst 3, 1) := by decide +kernel
theorem dX0_steps_73 : decode cX0_steps 73 = .ok (.iload_n 2, 1) := by decide +kernel
theorem dX0_steps_74 : decode cX0_steps 74 = .ok (.invokevirtual 19, 3) := by decide +kernel
theorem dX0_steps_77 : decode cX0_steps 77 = .ok (.aload_n 0, 1) := by decide +kernel
theorem dX0_steps_78 : decode cX0_steps 78 = .ok (.getfield 23, 3) := by decide +kernel
theorem dX0_steps_81 : decode cX0_steps 81 = .ok (.ixor, 1) := by decide +kernel
theorem dX0_steps_82 : decode cX0_steps 82 = .ok (.ireturn, 1) := by decide +kernel
theorem dX0_steps_83 : decode cX0_steps 83 = .ok (.aload_n 0, 1) := by decide +kernel
theorem dX0_steps_84 : decode cX0_steps 84 = .ok (.iconst 2, 1) := by decide +kernel
theorem dX0_steps_85 : decode cX0_steps 85 = .ok (.iload_n 2, 1) := by decide +kernel
theorem dX0_steps_86 : decode cX0_steps 86 = .ok (.invokevirtual 19, 3) := by decide +kernel
theorem dX0_steps_89 : decode cX0_steps 89 = .ok (.ireturn, 1) := by decide +kernel
theorem dX0_steps_90 : decode cX0_steps 90 = .ok (.aload_n 0, 1) := by decide +kernel
theorem dX0_steps_91 : decode cX0_steps 91 = .ok (.bipush 10, 2) := by decide +kernel
theorem dX0_steps_93 : decode cX0_steps 93 = .ok (.invokevirtual 15, 3) := by decide +kernel
theorem dX0_steps_96 : decode cX0_steps 96 = .ok (.iload_n 2, 1) := by decide +kernel
theorem dX0_steps_97 : decode cX0_steps 97 = .ok (.aload_n 0, 1) := by decide +kernel
theorem dX0_steps_98 : decode cX0_steps 98 = .ok (.getfield 27, 3) := by decide +kernel
theorem dX0_steps_101 : decode cX0_steps 101 = .ok (.iadd, 1) := by decide +kernel
theorem dX0_steps_102 : decode cX0_steps 102 = .ok (.ireturn, 1) := by decide +kernel
theorem dX0_turns_0 : decode cX0_turns 0 = .ok (.iload_n 1, 1) := by decide +kernel
theorem dX0_turns_1 : decode cX0_turns 1 = .ok (.lookupswitch 88 #[(1, 35), (4, 51), (6, 66)], 35) := by decide +kernel
theorem dX0_turns_36 : decode cX0_turns 36 = .ok (.aload_n 0, 1) := by decide +kernel
theorem dX0_turns_37 : decode cX0_turns 37 = .ok (.bipush 20, 2) := by decide +kernel
theorem dX0_turns_39 : decode cX0_turns 39 = .ok (.invokevirtual 15, 3) := by decide +kernel
theorem dX0_turns_42 : decode cX0_turns 42 = .ok (.aload_n 0, 1) := by decide +kernel
theorem dX0_turns_43 : decode cX0_turns 43 = .ok (.iconst 0, 1) := by decide +kernel
theorem dX0_turns_44 : decode cX0_turns 44 = .ok (.iload_n 2, 1) := by decide +kernel
theorem dX0_turns_45 : decode cX0_turns 45 = .ok (.invokevirtual 30, 3) := by decide +kernel
theorem dX0_turns_48 : decode cX0_turns 48 = .ok (.bipush 6, 2) := by decide +kernel
theorem dX0_turns_50 : decode cX0_turns 50 = .ok (.ixor, 1) := by decide +kernel
theorem dX0_turns_51 : decode cX0_turns 51 = .ok (.ireturn, 1) := by decide +kernel
theorem dX0_turns_52 : decode cX0_turns 52 = .ok (.aload_n 0, 1) := by decide +kernel
theorem dX0_turns_53 : decode cX0_turns 53 = .ok (.bipush 51, 2) := by decide +kernel
theorem dX0_turns_55 : decode cX0_turns 55 = .ok (.invokevirtual 15, 3) := by decide +kernel
theorem dX0_turns_58 : decode cX0_turns 58 = .ok (.aload_n 0, 1) := by decide +kernel
theorem dX0_turns_59 : decode cX0_turns 59 = .ok (.iconst 1, 1) := by decide +kernel
theorem dX0_turns_60 : decode cX0_turns 60 = .ok (.iload_n 2, 1) := by decide +kernel
theorem dX0_turns_61 : decode cX0_turns 61 = .ok (.iconst 1, 1) := by decide +kernel
theorem dX0_turns_62 : decode cX0_turns 62 = .ok (.iadd, 1) := by decide +kernel
theorem dX0_turns_63 : decode cX0_turns 63 = .ok (.invokevirtual 30, 3) := by decide +kernel
theorem dX0_turns_66 : decode cX0_turns 66 = .ok (.ireturn, 1) := by decide +kernel
theorem dX0_turns_67 : decode cX0_turns 67 = .ok (.aload_n 0, 1) := by decide +kernel
theorem dX0_turns_68 : decode cX0_turns 68 = .ok (.bipush 70, 2) := by decide +kernel
theorem dX0_turns_70 : decode cX0_turns 70 = .ok (.invokevirtual 15, 3) := by decide +kernel
theorem dX0_turns_73 : decode cX0_turns 73 = .ok (.aload_n 0, 1) := by decide +kernel
theorem dX0_turns_74 : decode cX0_turns 74 = .ok (.iconst 3, 1) := by decide +kernel
theorem dX0_turns_75 : decode cX0_turns 75 = .ok (.iload_n 2, 1) := by decide +kernel
theorem dX0_turns_76 : decode cX0_turns 76 = .ok (.invokevirtual 30, 3) := by decide +kernel
theorem dX0_turns_79 : decode cX0_turns 79 = .ok (.istore_n 3, 1) := by decide +kernel
theorem dX0_turns_80 : decode cX0_turns 80 = .ok (.iload_n 3, 1) := by decide +kernel
theorem dX0_turns_81 : decode cX0_turns 81 = .ok (.aload_n 0, 1) := by decide +kernel
theorem dX0_turns_82 : decode cX0_turns 82 = .ok (.iconst 3, 1) := by decide +kernel
theorem dX0_turns_83 : decode cX0_turns 83 = .ok (.iconst 2, 1) := by decide +kernel
theorem dX0_turns_84 : decode cX0_turns 84 = .ok (.invokevirtual 19, 3) := by decide +kernel
theorem dX0_turns_87 : decode cX0_turns 87 = .ok (.iadd, 1) := by decide +kernel
theorem dX0_turns_88 : decode cX0_turns 88 = .ok (.ireturn, 1) := by decide +kernel
theorem dX0_turns_89 : decode cX0_turns 89 = .ok (.aload_n 0, 1) := by decide +kernel
theorem dX0_turns_90 : decode cX0_turns 90 = .ok (.bipush 11, 2) := by decide +kernel
theorem dX0_turns_92 : decode cX0_turns 92 = .ok (.invokevirtual 15, 3) := by decide +kernel
theorem dX0_turns_95 : decode cX0_turns 95 = .ok (.aload_n 0, 1) := by decide +kernel
theorem dX0_turns_96 : decode cX0_turns 96 = .ok (.aload_n 0, 1) := by decide +kernel
theorem dX0_turns_97 : decode cX0_turns 97 = .ok (.getfield 33, 3) := by decide +kernel
theorem dX0_turns_100 : decode cX0_turns 100 = .ok (.iload_n 2, 1) := by decide +kernel
theorem dX0_turns_101 : decode cX0_turns 101 = .ok (.invokevirtual 19, 3) := by decide +kernel
theorem dX0_turns_104 : decode cX0_turns 104 = .ok (.aload_n 0, 1) := by decide +kernel
theorem dX0_turns_105 : decode cX0_turns 105 = .ok (.getfield 23, 3) := by decide +kernel
theorem dX0_turns_108 : decode cX0_turns 108 = .ok (.isub, 1) := by decide +kernel
theorem dX0_turns_109 : decode cX0_turns 109 = .ok (.ireturn, 1) := by decide +kernel
theorem dX0_tells_0 : decode cX0_tells 0 = .ok (.iload_n 1, 1) := by decide +kernel
theorem dX0_tells_1 : decode cX0_tells 1 = .ok (.tableswitch 74 3 6 #[31, 74, 56, 31], 31) := by decide +kernel
theorem dX0_tells_32 : decode cX0_tells 32 = .ok (.aload_n 0, 1) := by decide +kernel
theorem dX0_tells_33 : decode cX0_tells 33 = .ok (.bipush 40, 2) := by decide +kernel
theorem dX0_tells_35 : decode cX0_tells 35 = .ok (.invokevirtual 15, 3) := by decide +kernel
theorem dX0_tells_38 : decode cX0_tells 38 = .ok (.aload_n 0, 1) := by decide +kernel
theorem dX0_tells_39 : decode cX0_tells 39 = .ok (.iconst 0, 1) := by decide +kernel
theorem dX0_tells_40 : decode cX0_tells 40 = .ok (.iload_n 2, 1) := by decide +kernel
theorem dX0_tells_41 : decode cX0_tells 41 = .ok (.invokevirtual 36, 3) := by decide +kernel
theorem dX0_tells_44 : decode cX0_tells 44 = .ok (.istore_n 3, 1) := by decide +kernel
theorem dX0_tells_45 : decode cX0_tells 45 = .ok (.iload_n 3, 1) := by decide +kernel
theorem dX0_tells_46 : decode cX0_tells 46 = .ok (.aload_n 0, 1) := by decide +kernel
theorem dX0_tells_47 : decode cX0_tells 47 = .ok (.aload_n 0, 1) := by decide +kernel
theorem dX0_tells_48 : decode cX0_tells 48 = .ok (.getfield 33, 3) := by decide +kernel
theorem dX0_tells_51 : decode cX0_tells 51 = .ok (.iconst 1, 1) := by decide +kernel
theorem dX0_tells_52 : decode cX0_tells 52 = .ok (.invokevirtual 30, 3) := by decide +kernel
theorem dX0_tells_55 : decode cX0_tells 55 = .ok (.iadd, 1) := by decide +kernel
theorem dX0_tells_56 : decode cX0_tells 56 = .ok (.ireturn, 1) := by decide +kernel
theorem dX0_tells_57 : decode cX0_tells 57 = .ok (.aload_n 0, 1) := by decide +kernel
theorem dX0_tells_58 : decode cX0_tells 58 = .ok (.bipush 60, 2) := by decide +kernel
theorem dX0_tells_60 : decode cX0_tells 60 = .ok (.invokevirtual 15, 3) := by decide +kernel
theorem dX0_tells_63 : decode cX0_tells 63 = .ok (.aload_n 0, 1) := by decide +kernel
theorem dX0_tells_64 : decode cX0_tells 64 = .ok (.iconst 2, 1) := by decide +kernel
theorem dX0_tells_65 : decode cX0_tells 65 = .ok (.iload_n 2, 1) := by decide +kernel
theorem dX0_tells_66 : decode cX0_tells 66 = .ok (.aload_n 0, 1) := by decide +kernel
theorem dX0_tells_67 : decode cX0_tells 67 = .ok (.getfield 27, 3) := by decide +kernel
theorem dX0_tells_70 : decode cX0_tells 70 = .ok (.isub, 1) := by decide +kernel
theorem dX0_tells_71 : decode cX0_tells 71 = .ok (.invokevirtual 36, 3) := by decide +kernel
theorem dX0_tells_74 : decode cX0_tells 74 = .ok (.ireturn, 1) := by decide +kernel
theorem dX0_tells_75 : decode cX0_tells 75 = .ok (.aload_n 0, 1) := by decide +kernel
theorem dX0_tells_76 : decode cX0_tells 76 = .ok (.bipush 12, 2) := by decide +kernel
theorem dX0_tells_78 : decode cX0_tells 78 = .ok (.invokevirtual 15, 3) := by decide +kernel
theorem dX0_tells_81 : decode cX0_tells 81 = .ok (.aload_n 0, 1) := by decide +kernel
theorem dX0_tells_82 : decode cX0_tells 82 = .ok (.aload_n 0, 1) := by decide +kernel
theorem dX0_tells_83 : decode cX0_tells 83 = .ok (.getfield 33, 3) := by decide +kernel
theorem dX0_tells_86 : decode cX0_tells 86 = .ok (.iload_n 2, 1) := by decide +kernel
theorem dX0_tells_87 : decode cX0_tells 87 = .ok (.invokevirtual 30, 3) := by decide +kernel
theorem dX0_tells_90 : decode cX0_tells 90 = .ok (.iconst 2, 1) := by decide +kernel
theorem dX0_tells_91 : decode cX0_tells 91 = .ok (.imul, 1) := by decide +kernel
theorem dX0_tells_92 : decode cX0_tells 92 = .ok (.ireturn, 1) := by decide +kernel
theorem dX0_begins_0 : decode cX0_begins 0 = .ok (.aload_n 0, 1) := by decide +kernel
theorem dX0_begins_1 : decode cX0_begins 1 = .ok (.getfield 39, 3) := by decide +kernel
theorem dX0_begins_4 : decode cX0_begins 4 = .ok (.ifCond .lt 22, 3) := by decide +kernel
theorem dX0_begins_7 : decode cX0_begins 7 = .ok (.aload_n 0, 1) := by decide +kernel
theorem dX0_begins_8 : decode cX0_begins 8 = .ok (.getfield 39, 3) := by decide +kernel
theorem dX0_begins_11 : decode cX0_begins 11 = .ok (.bipush 20, 2) := by decide +kernel
theorem dX0_begins_13 : decode cX0_begins 13 = .ok (.if_icmp .ge 13, 3) := by decide +kernel
theorem dX0_begins_16 : decode cX0_begins 16 = .ok (.aload_n 0, 1) := by decide +kernel
theorem dX0_begins_17 : decode cX0_begins 17 = .ok (.getfield 9, 3) := by decide +kernel
theorem dX0_begins_20 : decode cX0_begins 20 = .ok (.aload_n 0, 1) := by decide +kernel
theorem dX0_begins_21 : decode cX0_begins 21 = .ok (.getfield 39, 3) := by decide +kernel
theorem dX0_begins_24 : decode cX0_begins 24 = .ok (.iload_n 1, 1) := by decide +kernel
theorem dX0_begins_25 : decode cX0_begins 25 = .ok (.iastore, 1) := by decide +kernel
theorem dX0_begins_26 : decode cX0_begins 26 = .ok (.aload_n 0, 1) := by decide +kernel
theorem dX0_begins_27 : decode cX0_begins 27 = .ok (.dup, 1) := by decide +kernel
theorem dX0_begins_28 : decode cX0_begins 28 = .ok (.getfield 39, 3) := by decide +kernel
theorem dX0_begins_31 : decode cX0_begins 31 = .ok (.iconst 1, 1) := by decide +kernel
theorem dX0_begins_32 : decode cX0_begins 32 = .ok (.iadd, 1) := by decide +kernel
theorem dX0_begins_33 : decode cX0_begins 33 = .ok (.putfield 39, 3) := by decide +kernel
theorem dX0_begins_36 : decode cX0_begins 36 = .ok (.return_, 1) := by decide +kernel
theorem dX1_init_0 : decode cX1_init 0 = .ok (.aload_n 0, 1) := by decide +kernel
theorem dX1_init_1 : decode cX1_init 1 = .ok (.invokespecial 3, 3) := by decide +kernel
theorem dX1_init_4 : decode cX1_init 4 = .ok (.aload_n 0, 1) := by decide +kernel
theorem dX1_init_5 : decode cX1_init 5 = .ok (.bipush 20, 2) := by decide +kernel
theorem dX1_init_7 : decode cX1_init 7 = .ok (.newarray .long, 2) := by decide +kernel
theorem dX1_init_9 : decode cX1_init 9 = .ok (.putfield 9, 3) := by decide +kernel
theorem dX1_init_12 : decode cX1_init 12 = .ok (.aload_n 0, 1) := by decide +kernel
theorem dX1_init_13 : decode cX1_init 13 = .ok (.bipush 20, 2) := by decide +kernel
theorem dX1_init_15 : decode cX1_init 15 = .ok (.newarray .long, 2) := by decide +kernel
theorem dX1_init_17 : decode cX1_init 17 = .ok (.putfield 15, 3) := by decide +kernel
theorem dX1_init_20 : decode cX1_init 20 = .ok (.aload_n 0, 1) := by decide +kernel
theorem dX1_init_21 : decode cX1_init 21 = .ok (.new 18, 3) := by decide +kernel
theorem dX1_init_24 : decode cX1_init 24 = .ok (.dup, 1) := by decide +kernel
theorem dX1_init_25 : decode cX1_init 25 = .ok (.aload_n 1, 1) := by decide +kernel
theorem dX1_init_26 : decode cX1_init 26 = .ok (.invokespecial 20, 3) := by decide +kernel
theorem dX1_init_29 : decode cX1_init 29 = .ok (.putfield 23, 3) := by decide +kernel
theorem dX1_init_32 : decode cX1_init 32 = .ok (.return_, 1) := by decide +kernel
theorem dX1_alone_0 : decode cX1_alone 0 = .ok (.aload_n 0, 1) := by decide +kernel
theorem dX1_alone_1 : decode cX1_alone 1 = .ok (.aload_n 1, 1) := by decide +kernel
theorem dX1_alone_2 : decode cX1_alone 2 = .ok (.aload_n 2, 1) := by decide +kernel
theorem dX1_alone_3 : decode cX1_alone 3 = .ok (.aload_n 2, 1) := by decide +kernel
theorem dX1_alone_4 : decode cX1_alone 4 = .ok (.getfield 27, 3) := by decide +kernel
theorem dX1_alone_7 : decode cX1_alone 7 = .ok (.aload_n 2, 1) := by decide +kernel
theorem dX1_alone_8 : decode cX1_alone 8 = .ok (.getfield 33, 3) := by decide +kernel
theorem dX1_alone_11 : decode cX1_alone 11 = .ok (.aload_n 2, 1) := by decide +kernel
theorem dX1_alone_12 : decode cX1_alone 12 = .ok (.getfield 36, 3) := by decide +kernel
theorem dX1_alone_15 : decode cX1_alone 15 = .ok (.invokevirtual 39, 3) := by decide +kernel
theorem dX1_alone_18 : decode cX1_alone 18 = .ok (.return_, 1) := by decide +kernel
theorem dX1_alone__0 : decode cX1_alone_ 0 = .ok (.aload_n 0, 1) := by decide +kernel
theorem dX1_alone__1 : decode cX1_alone_ 1 = .ok (.getfield 23, 3) := by decide +kernel
theorem dX1_alone__4 : decode cX1_alone_ 4 = .ok (.aload_n 1, 1) := by decide +kernel
theorem dX1_alone__5 : decode cX1_alone_ 5 = .ok (.iload_n 3, 1) := by decide +kernel
theorem dX1_alone__6 : decode cX1_alone_ 6 = .ok (.iload 4, 2) := by decide +kernel
theorem dX1_alone__8 : decode cX1_alone_ 8 = .ok (.iload 5, 2) := by decide +kernel
theorem dX1_alone__10 : decode cX1_alone_ 10 = .ok (.aload_n 2, 1) := by decide +kernel
theorem dX1_alone__11 : decode cX1_alone_ 11 = .ok (.getfield 43, 3) := by decide +kernel
theorem dX1_alone__14 : decode cX1_alone_ 14 = .ok (.invokevirtual 46, 3) := by decide +kernel
theorem dX1_alone__17 : decode cX1_alone_ 17 = .ok (.aload_n 0, 1) := by decide +kernel
theorem dX1_alone__18 : decode cX1_alone_ 18 = .ok (.getfield 9, 3) := by decide +kernel
theorem dX1_alone__21 : decode cX1_alone_ 21 = .ok (.lconst 0, 1) := by decide +kernel
theorem dX1_alone__22 : decode cX1_alone_ 22 = .ok (.invokestatic 50, 3) := by decide +kernel
theorem dX1_alone__25 : decode cX1_alone_ 25 = .ok (.aload_n 0, 1) := by decide +kernel
theorem dX1_alone__26 : decode cX1_alone_ 26 = .ok (.getfield 9, 3) := by decide +kernel
theorem dX1_alone__29 : decode cX1_alone_ 29 = .ok (.aload_n 2, 1) := by decide +kernel
theorem dX1_alone__30 : decode cX1_alone_ 30 = .ok (.getfield 56, 3) := by decide +kernel
theorem dX1_alone__33 : decode cX1_alone_ 33 = .ok (.aload_n 2, 1) := by decide +kernel
theorem dX1_alone__34 : decode cX1_alone_ 34 = .ok (.getfield 59, 3) := by decide +kernel
theorem dX1_alone__37 : decode cX1_alone_ 37 = .ok (.lconst 1, 1) := by decide +kernel
theorem dX1_alone__38 : decode cX1_alone_ 38 = .ok (.aload_n 2, 1) := by decide +kernel
theorem dX1_alone__39 : decode cX1_alone_ 39 = .ok (.getfield 62, 3) := by decide +kernel
theorem dX1_alone__42 : decode cX1_alone_ 42 = .ok (.lshl, 1) := by decide +kernel
theorem dX1_alone__43 : decode cX1_alone_ 43 = .ok (.invokestatic 65, 3) := by decide +kernel
theorem dX1_alone__46 : decode cX1_alone_ 46 = .ok (.return_, 1) := by decide +kernel
theorem dX1_around_0 : decode cX1_around 0 = .ok (.aload_n 0, 1) := by decide +kernel
theorem dX1_around_1 : decode cX1_around 1 = .ok (.getfield 23, 3) := by decide +kernel
theorem dX1_around_4 : decode cX1_around 4 = .ok (.aload_n 1, 1) := by decide +kernel
theorem dX1_around_5 : decode cX1_around 5 = .ok (.iload_n 3, 1) := by decide +kernel
theorem dX1_around_6 : decode cX1_around 6 = .ok (.iload 4, 2) := by decide +kernel
theorem dX1_around_8 : decode cX1_around 8 = .ok (.iload 5, 2) := by decide +kernel
theorem dX1_around_10 : decode cX1_around 10 = .ok (.iconst 0, 1) := by decide +kernel
theorem dX1_around_11 : decode cX1_around 11 = .ok (.invokevirtual 46, 3) := by decide +kernel
theorem dX1_around_14 : decode cX1_around 14 = .ok (.aload_n 0, 1) := by decide +kernel
theorem dX1_around_15 : decode cX1_around 15 = .ok (.getfield 9, 3) := by decide +kernel
theorem dX1_around_18 : decode cX1_around 18 = .ok (.lconst 0, 1) := by decide +kernel
theorem dX1_around_19 : decode cX1_around 19 = .ok (.invokestatic 50, 3) := by decide +kernel
theorem dX1_around_22 : decode cX1_around 22 = .ok (.iconst 0, 1) := by decide +kernel
theorem dX1_around_23 : decode cX1_around 23 = .ok (.istore 6, 2) := by decide +kernel
theorem dX1_around_25 : decode cX1_around 25 = .ok (.iload 6, 2) := by decide +kernel
theorem dX1_around_27 : decode cX1_around 27 = .ok (.iconst 4, 1) := by decide +kernel
theorem dX1_around_28 : decode cX1_around 28 = .ok (.if_icmp .ge 22, 3) := by decide +kernel
theorem dX1_around_31 : decode cX1_around 31 = .ok (.aload_n 0, 1) := by decide +kernel
theorem dX1_around_32 : decode cX1_around 32 = .ok (.getfield 9, 3) := by decide +kernel
theorem dX1_around_35 : decode cX1_around 35 = .ok (.iload 6, 2) := by decide +kernel
theorem dX1_around_37 : decode cX1_around 37 = .ok (.iconst 4, 1) := by decide +kernel
theorem dX1_around_38 : decode cX1_around 38 = .ok (.lconst 1, 1) := by decide +kernel
theorem dX1_around_39 : decode cX1_around 39 = .ok (.iload_n 2, 1) := by decide +kernel
theorem dX1_around_40 : decode cX1_around 40 = .ok (.lshl, 1) := by decide +kernel
theorem dX1_around_41 : decode cX1_around 41 = .ok (.invokestatic 65, 3) := by decide +kernel
theorem dX1_around_44 : decode cX1_around 44 = .ok (.iinc 6 1, 3) := by decide +kernel
theorem dX1_around_47 : decode cX1_around 47 = .ok (.goto (-22), 3) := by decide +kernel
theorem dX1_around_50 : decode cX1_around 50 = .ok (.return_, 1) := by decide +kernel
theorem dX1_advance_0 : decode cX1_advance 0 = .ok (.aload_n 0, 1) := by decide +kernel
theorem dX1_advance_1 : decode cX1_advance 1 = .ok (.getfield 15, 3) := by decide +kernel
theorem dX1_advance_4 : decode cX1_advance 4 = .ok (.lconst 0, 1) := by decide +kernel
theorem dX1_advance_5 : decode cX1_advance 5 = .ok (.invokestatic 50, 3) := by decide +kernel
theorem dX1_advance_8 : decode cX1_advance 8 = .ok (.iconst 0, 1) := by decide +kernel
theorem dX1_advance_9 : decode cX1_advance 9 = .ok (.istore_n 2, 1) := by decide +kernel
theorem dX1_advance_10 : decode cX1_advance 10 = .ok (.iload_n 2, 1) := by decide +kernel
theorem dX1_advance_11 : decode cX1_advance 11 = .ok (.iconst 4, 1) := by decide +kernel
theorem dX1_advance_12 : decode cX1_advance 12 = .ok (.if_icmp .ge 44, 3) := by decide +kernel
theorem dX1_advance_15 : decode cX1_advance 15 = .ok (.iconst 0, 1) := by decide +kernel
theorem dX1_advance_16 : decode cX1_advance 16 = .ok (.istore_n 3, 1) := by decide +kernel
theorem dX1_advance_17 : decode cX1_advance 17 = .ok (.iload_n 3, 1) := by decide +kernel
theorem dX1_advance_18 : decode cX1_advance 18 = .ok (.iconst 5, 1) := by decide +kernel
theorem dX1_advance_19 : decode cX1_advance 19 = .ok (.if_icmp .ge 31, 3) := by decide +kernel
theorem dX1_advance_22 : decode cX1_advance 22 = .ok (.aload_n 0, 1) := by decide +kernel
theorem dX1_advance_23 : decode cX1_advance 23 = .ok (.getfield 9, 3) := by decide +kernel
theorem dX1_advance_26 : decode cX1_advance 26 = .ok (.iload_n 2, 1) := by decide +kernel
theorem dX1_advance_27 : decode cX1_advance 27 = .ok (.iconst 5, 1) := by decide +kernel
theorem dX1_advance_28 : decode cX1_advance 28 = .ok (.imul, 1) := by decide +kernel
theorem dX1_advance_29 : decode cX1_advance 29 = .ok (.iload_n 3, 1) := by decide +kernel
theorem dX1_advance_30 : decode cX1_advance 30 = .ok (.iadd, 1) := by decide +kernel
theorem dX1_advance_31 : decode cX1_advance 31 = .ok (.laload, 1) := by decide +kernel
theorem dX1_advance_32 : decode cX1_advance 32 = .ok (.lconst 0, 1) := by decide +kernel
theorem dX1_advance_33 : decode cX1_advance 33 = .ok (.lcmp, 1) := by decide +kernel
theorem dX1_advance_34 : decode cX1_advance 34 = .ok (.ifCond .eq 10, 3) := by decide +kernel
theorem dX1_advance_37 : decode cX1_advance 37 = .ok (.aload_n 0, 1) := by decide +kernel
theorem dX1_advance_38 : decode cX1_advance 38 = .ok (.iload_n 1, 1) := by decide +kernel
theorem dX1_advance_39 : decode cX1_advance 39 = .ok (.iload_n 2, 1) := by decide +kernel
theorem dX1_advance_40 : decode cX1_advance 40 = .ok (.iload_n 3, 1) := by decide +kernel
theorem dX1_advance_41 : decode cX1_advance 41 = .ok (.invokevirtual 69, 3) := by decide +kernel
theorem dX1_advance_44 : decode cX1_advance 44 = .ok (.iinc 3 1, 3) := by decide +kernel
theorem dX1_advance_47 : decode cX1_advance 47 = .ok (.goto (-30), 3) := by decide +kernel
theorem dX1_advance_50 : decode cX1_advance 50 = .ok (.iinc 2 1, 3) := by decide +kernel
theorem dX1_advance_53 : decode cX1_advance 53 = .ok (.goto (-43), 3) := by decide +kernel
theorem dX1_advance_56 : decode cX1_advance 56 = .ok (.aload_n 0, 1) := by decide +kernel
theorem dX1_advance_57 : decode cX1_advance 57 = .ok (.getfield 9, 3) := by decide +kernel
theorem dX1_advance_60 : decode cX1_advance 60 = .ok (.astore_n 2, 1) := by decide +kernel
theorem dX1_advance_61 : decode cX1_advance 61 = .ok (.aload_n 0, 1) := by decide +kernel
theorem dX1_advance_62 : decode cX1_advance 62 = .ok (.aload_n 0, 1) := by decide +kernel
theorem dX1_advance_63 : decode cX1_advance 63 = .ok (.getfield 15, 3) := by decide +kernel
theorem dX1_advance_66 : decode cX1_advance 66 = .ok (.putfield 9, 3) := by decide +kernel
theorem dX1_advance_69 : decode cX1_advance 69 = .ok (.aload_n 0, 1) := by decide +kernel
theorem dX1_advance_70 : decode cX1_advance 70 = .ok (.aload_n 2, 1) := by decide +kernel
theorem dX1_advance_71 : decode cX1_advance 71 = .ok (.putfield 15, 3) := by decide +kernel
theorem dX1_advance_74 : decode cX1_advance 74 = .ok (.aload_n 0, 1) := by decide +kernel
theorem dX1_advance_75 : decode cX1_advance 75 = .ok (.getfield 23, 3) := by decide +kernel
theorem dX1_advance_78 : decode cX1_advance 78 = .ok (.invokevirtual 73, 3) := by decide +kernel
theorem dX1_advance_81 : decode cX1_advance 81 = .ok (.return_, 1) := by decide +kernel
theorem dX1_spread_0 : decode cX1_spread 0 = .ok (.aload_n 0, 1) := by decide +kernel
theorem dX1_spread_1 : decode cX1_spread 1 = .ok (.iload_n 2, 1) := by decide +kernel
theorem dX1_spread_2 : decode cX1_spread 2 = .ok (.iload_n 3, 1) := by decide +kernel
theorem dX1_spread_3 : decode cX1_spread 3 = .ok (.invokevirtual 76, 3) := by decide +kernel
theorem dX1_spread_6 : decode cX1_spread 6 = .ok (.lstore 4, 2) := by decide +kernel
theorem dX1_spread_8 : decode cX1_spread 8 = .ok (.iconst 0, 1) := by decide +kernel
theorem dX1_spread_9 : decode cX1_spread 9 = .ok (.istore 6, 2) := by decide +kernel
theorem dX1_spread_11 : decode cX1_spread 11 = .ok (.iload 6, 2) := by decide +kernel
theorem dX1_spread_13 : decode cX1_spread 13 = .ok (.bipush 6, 2) := by decide +kernel
theorem dX1_spread_15 : decode cX1_spread 15 = .ok (.if_icmp .ge 86, 3) := by decide +kernel
theorem dX1_spread_18 : decode cX1_spread 18 = .ok (.iload_n 1, 1) := by decide +kernel
theorem dX1_spread_19 : decode cX1_spread 19 = .ok (.iload 6, 2) := by decide +kernel
theorem dX1_spread_21 : decode cX1_spread 21 = .ok (.ishr, 1) := by decide +kernel
theorem dX1_spread_22 : decode cX1_spread 22 = .ok (.iconst 1, 1) := by decide +kernel
theorem dX1_spread_23 : decode cX1_spread 23 = .ok (.iand, 1) := by decide +kernel
theorem dX1_spread_24 : decode cX1_spread 24 = .ok (.ifCond .ne 7, 3) := by decide +kernel
theorem dX1_spread_27 : decode cX1_spread 27 = .ok (.lconst 0, 1) := by decide +kernel
theorem dX1_spread_28 : decode cX1_spread 28 = .ok (.goto 17, 3) := by decide +kernel
theorem dX1_spread_31 : decode cX1_spread 31 = .ok (.lload 4, 2) := by decide +kernel
theorem dX1_spread_33 : decode cX1_spread 33 = .ok (.aload_n 0, 1) := by decide +kernel
theorem dX1_spread_34 : decode cX1_spread 34 = .ok (.getfield 23, 3) := by decide +kernel
theorem dX1_spread_37 : decode cX1_spread 37 = .ok (.iload 6, 2) := by decide +kernel
theorem dX1_spread_39 : decode cX1_spread 39 = .ok (.iload_n 2, 1) := by decide +kernel
theorem dX1_spread_40 : decode cX1_spread 40 = .ok (.iload_n 3, 1) := by decide +kernel
theorem dX1_spread_41 : decode cX1_spread 41 = .ok (.invokevirtual 80, 3) := by decide +kernel
theorem dX1_spread_44 : decode cX1_spread 44 = .ok (.land, 1) := by decide +kernel
theorem dX1_spread_45 : decode cX1_spread 45 = .ok (.lstore 7, 2) := by decide +kernel
theorem dX1_spread_47 : decode cX1_spread 47 = .ok (.lload 7, 2) := by decide +kernel
theorem dX1_spread_49 : decode cX1_spread 49 = .ok (.lconst 0, 1) := by decide +kernel
theorem dX1_spread_50 : decode cX1_spread 50 = .ok (.lcmp, 1) := by decide +kernel
theorem dX1_spread_51 : decode cX1_spread 51 = .ok (.ifCond .eq 44, 3) := by decide +kernel
theorem dX1_spread_54 : decode cX1_spread 54 = .ok (.aload_n 0, 1) := by decide +kernel
theorem dX1_spread_55 : decode cX1_spread 55 = .ok (.getfield 23, 3) := by decide +kernel
theorem dX1_spread_58 : decode cX1_spread 58 = .ok (.iload 6, 2) := by decide +kernel
theorem dX1_spread_60 : decode cX1_spread 60 = .ok (.iload_n 2, 1) := by decide +kernel
theorem dX1_spread_61 : decode cX1_spread 61 = .ok (.iload_n 3, 1) := by decide +kernel
theorem dX1_spread_62 : decode cX1_spread 62 = .ok (.invokevirtual 84, 3) := by decide +kernel
theorem dX1_spread_65 : decode cX1_spread 65 = .ok (.istore 9, 2) := by decide +kernel
theorem dX1_spread_67 : decode cX1_spread 67 = .ok (.aload_n 0, 1) := by decide +kernel
theorem dX1_spread_68 : decode cX1_spread 68 = .ok (.getfield 15, 3) := by decide +kernel
theorem dX1_spread_71 : decode cX1_spread 71 = .ok (.iload 6, 2) := by decide +kernel
theorem dX1_spread_73 : decode cX1_spread 73 = .ok (.iload_n 2, 1) := by decide +kernel
theorem dX1_spread_74 : decode cX1_spread 74 = .ok (.invokestatic 88, 3) := by decide +kernel
theorem dX1_spread_77 : decode cX1_spread 77 = .ok (.iload 6, 2) := by decide +kernel
theorem dX1_spread_79 : decode cX1_spread 79 = .ok (.iload 9, 2) := by decide +kernel
theorem dX1_spread_81 : decode cX1_spread 81 = .ok (.iload_n 3, 1) := by decide +kernel
theorem dX1_spread_82 : decode cX1_spread 82 = .ok (.invokestatic 92, 3) := by decide +kernel
theorem dX1_spread_85 : decode cX1_spread 85 = .ok (.lload 7, 2) := by decide +kernel
theorem dX1_spread_87 : decode cX1_spread 87 = .ok (.iload 9, 2) := by decide +kernel
theorem dX1_spread_89 : decode cX1_spread 89 = .ok (.invokestatic 95, 3) := by decide +kernel
theorem dX1_spread_92 : decode cX1_spread 92 = .ok (.invokestatic 65, 3) := by decide +kernel
theorem dX1_spread_95 : decode cX1_spread 95 = .ok (.iinc 6 1, 3) := by decide +kernel
theorem dX1_spread_98 : decode cX1_spread 98 = .ok (.goto (-87), 3) := by decide +kernel
theorem dX1_spread_101 : decode cX1_spread 101 = .ok (.return_, 1) := by decide +kernel
theorem dX1_join_0 : decode cX1_join 0 = .ok (.iload_n 1, 1) := by decide +kernel
theorem dX1_join_1 : decode cX1_join 1 = .ok (.iconst 5, 1) := by decide +kernel
theorem dX1_join_2 : decode cX1_join 2 = .ok (.imul, 1) := by decide +kernel
theorem dX1_join_3 : decode cX1_join 3 = .ok (.iload_n 2, 1) := by decide +kernel
theorem dX1_join_4 : decode cX1_join 4 = .ok (.iadd, 1) := by decide +kernel
theorem dX1_join_5 : decode cX1_join 5 = .ok (.istore 5, 2) := by decide +kernel
theorem dX1_join_7 : decode cX1_join 7 = .ok (.iload 5, 2) := by decide +kernel
theorem dX1_join_9 : decode cX1_join 9 = .ok (.ifCond .lt 18, 3) := by decide +kernel
theorem dX1_join_12 : decode cX1_join 12 = .ok (.iload 5, 2) := by decide +kernel
theorem dX1_join_14 : decode cX1_join 14 = .ok (.aload_n 0, 1) := by decide +kernel
theorem dX1_join_15 : decode cX1_join 15 = .ok (.arraylength, 1) := by decide +kernel
theorem dX1_join_16 : decode cX1_join 16 = .ok (.if_icmp .ge 11, 3) := by decide +kernel
theorem dX1_join_19 : decode cX1_join 19 = .ok (.aload_n 0, 1) := by decide +kernel
theorem dX1_join_20 : decode cX1_join 20 = .ok (.iload 5, 2) := by decide +kernel
theorem dX1_join_22 : decode cX1_join 22 = .ok (.dup2, 1) := by decide +kernel
theorem dX1_join_23 : decode cX1_join 23 = .ok (.laload, 1) := by decide +kernel
theorem dX1_join_24 : decode cX1_join 24 = .ok (.lload_n 3, 1) := by decide +kernel
theorem dX1_join_25 : decode cX1_join 25 = .ok (.lor, 1) := by decide +kernel
theorem dX1_join_26 : decode cX1_join 26 = .ok (.lastore, 1) := by decide +kernel
theorem dX1_join_27 : decode cX1_join 27 = .ok (.return_, 1) := by decide +kernel
theorem dX1_among_0 : decode cX1_among 0 = .ok (.iload_n 1, 1) := by decide +kernel
theorem dX1_among_1 : decode cX1_among 1 = .ok (.iconst 5, 1) := by decide +kernel
theorem dX1_among_2 : decode cX1_among 2 = .ok (.imul, 1) := by decide +kernel
theorem dX1_among_3 : decode cX1_among 3 = .ok (.iload_n 2, 1) := by decide +kernel
theorem dX1_among_4 : decode cX1_among 4 = .ok (.iadd, 1) := by decide +kernel
theorem dX1_among_5 : decode cX1_among 5 = .ok (.istore_n 3, 1) := by decide +kernel
theorem dX1_among_6 : decode cX1_among 6 = .ok (.iload_n 3, 1) := by decide +kernel
theorem dX1_among_7 : decode cX1_among 7 = .ok (.ifCond .lt 21, 3) := by decide +kernel
theorem dX1_among_10 : decode cX1_among 10 = .ok (.iload_n 3, 1) := by decide +kernel
theorem dX1_among_11 : decode cX1_among 11 = .ok (.aload_n 0, 1) := by decide +kernel
theorem dX1_among_12 : decode cX1_among 12 = .ok (.getfield 9, 3) := by decide +kernel
theorem dX1_among_15 : decode cX1_among 15 = .ok (.arraylength, 1) := by decide +kernel
theorem dX1_among_16 : decode cX1_among 16 = .ok (.if_icmp .ge 12, 3) := by decide +kernel
theorem dX1_among_19 : decode cX1_among 19 = .ok (.aload_n 0, 1) := by decide +kernel
theorem dX1_among_20 : decode cX1_among 20 = .ok (.getfield 9, 3) := by decide +kernel
theorem dX1_among_23 : decode cX1_among 23 = .ok (.iload_n 3, 1) := by decide +kernel
theorem dX1_among_24 : decode cX1_among 24 = .ok (.laload, 1) := by decide +kernel
theorem dX1_among_25 : decode cX1_among 25 = .ok (.goto 4, 3) := by decide +kernel
theorem dX1_among_28 : decode cX1_among 28 = .ok (.lconst 0, 1) := by decide +kernel
theorem dX1_among_29 : decode cX1_among 29 = .ok (.lreturn, 1) := by decide +kernel
theorem dX1_keep_0 : decode cX1_keep 0 = .ok (.iconst 0, 1) := by decide +kernel
theorem dX1_keep_1 : decode cX1_keep 1 = .ok (.istore_n 2, 1) := by decide +kernel
theorem dX1_keep_2 : decode cX1_keep 2 = .ok (.iload_n 2, 1) := by decide +kernel
theorem dX1_keep_3 : decode cX1_keep 3 = .ok (.aload_n 0, 1) := by decide +kernel
theorem dX1_keep_4 : decode cX1_keep 4 = .ok (.getfield 9, 3) := by decide +kernel
theorem dX1_keep_7 : decode cX1_keep 7 = .ok (.arraylength, 1) := by decide +kernel
theorem dX1_keep_8 : decode cX1_keep 8 = .ok (.if_icmp .ge 21, 3) := by decide +kernel
theorem dX1_keep_11 : decode cX1_keep 11 = .ok (.aload_n 0, 1) := by decide +kernel
theorem dX1_keep_12 : decode cX1_keep 12 = .ok (.getfield 9, 3) := by decide +kernel
theorem dX1_keep_15 : decode cX1_keep 15 = .ok (.iload_n 2, 1) := by decide +kernel
theorem dX1_keep_16 : decode cX1_keep 16 = .ok (.dup2, 1) := by decide +kernel
theorem dX1_keep_17 : decode cX1_keep 17 = .ok (.laload, 1) := by decide +kernel
theorem dX1_keep_18 : decode cX1_keep 18 = .ok (.lconst 1, 1) := by decide +kernel
theorem dX1_keep_19 : decode cX1_keep 19 = .ok (.iload_n 1, 1) := by decide +kernel
theorem dX1_keep_20 : decode cX1_keep 20 = .ok (.lshl, 1) := by decide +kernel
theorem dX1_keep_21 : decode cX1_keep 21 = .ok (.land, 1) := by decide +kernel
theorem dX1_keep_22 : decode cX1_keep 22 = .ok (.lastore, 1) := by decide +kernel
theorem dX1_keep_23 : decode cX1_keep 23 = .ok (.iinc 2 1, 3) := by decide +kernel
theorem dX1_keep_26 : decode cX1_keep 26 = .ok (.goto (-24), 3) := by decide +kernel
theorem dX1_keep_29 : decode cX1_keep 29 = .ok (.return_, 1) := by decide +kernel
theorem dX1_cells_0 : decode cX1_cells 0 = .ok (.lconst 0, 1) := by decide +kernel
theorem dX1_cells_1 : decode cX1_cells 1 = .ok (.lstore_n 1, 1) := by decide +kernel
theorem dX1_cells_2 : decode cX1_cells 2 = .ok (.iconst 0, 1) := by decide +kernel
theorem dX1_cells_3 : decode cX1_cells 3 = .ok (.istore_n 3, 1) := by decide +kernel
theorem dX1_cells_4 : decode cX1_cells 4 = .ok (.iload_n 3, 1) := by decide +kernel
theorem dX1_cells_5 : decode cX1_cells 5 = .ok (.aload_n 0, 1) := by decide +kernel
theorem dX1_cells_6 : decode cX1_cells 6 = .ok (.getfield 9, 3) := by decide +kernel
theorem dX1_cells_9 : decode cX1_cells 9 = .ok (.arraylength, 1) := by decide +kernel
theorem dX1_cells_10 : decode cX1_cells 10 = .ok (.if_icmp .ge 18, 3) := by decide +kernel
theorem dX1_cells_13 : decode cX1_cells 13 = .ok (.lload_n 1, 1) := by decide +kernel
theorem dX1_cells_14 : decode cX1_cells 14 = .ok (.aload_n 0, 1) := by decide +kernel
theorem dX1_cells_15 : decode cX1_cells 15 = .ok (.getfield 9, 3) := by decide +kernel
theorem dX1_cells_18 : decode cX1_cells 18 = .ok (.iload_n 3, 1) := by decide +kernel
theorem dX1_cells_19 : decode cX1_cells 19 = .ok (.laload, 1) := by decide +kernel
theorem dX1_cells_20 : decode cX1_cells 20 = .ok (.lor, 1) := by decide +kernel
theorem dX1_cells_21 : decode cX1_cells 21 = .ok (.lstore_n 1, 1) := by decide +kernel
theorem dX1_cells_22 : decode cX1_cells 22 = .ok (.iinc 3 1, 3) := by decide +kernel
theorem dX1_cells_25 : decode cX1_cells 25 = .ok (.goto (-21), 3) := by decide +kernel
theorem dX1_cells_28 : decode cX1_cells 28 = .ok (.lload_n 1, 1) := by decide +kernel
theorem dX1_cells_29 : decode cX1_cells 29 = .ok (.lreturn, 1) := by decide +kernel
theorem dX1_facing_0 : decode cX1_facing 0 = .ok (.lconst 0, 1) := by decide +kernel
theorem dX1_facing_1 : decode cX1_facing 1 = .ok (.lstore_n 2, 1) := by decide +kernel
theorem dX1_facing_2 : decode cX1_facing 2 = .ok (.iconst 0, 1) := by decide +kernel
theorem dX1_facing_3 : decode cX1_facing 3 = .ok (.istore 4, 2) := by decide +kernel
theorem dX1_facing_5 : decode cX1_facing 5 = .ok (.iload 4, 2) := by decide +kernel
theorem dX1_facing_7 : decode cX1_facing 7 = .ok (.iconst 5, 1) := by decide +kernel
theorem dX1_facing_8 : decode cX1_facing 8 = .ok (.if_icmp .ge 19, 3) := by decide +kernel
theorem dX1_facing_11 : decode cX1_facing 11 = .ok (.lload_n 2, 1) := by decide +kernel
theorem dX1_facing_12 : decode cX1_facing 12 = .ok (.aload_n 0, 1) := by decide +kernel
theorem dX1_facing_13 : decode cX1_facing 13 = .ok (.iload_n 1, 1) := by decide +kernel
theorem dX1_facing_14 : decode cX1_facing 14 = .ok (.iload 4, 2) := by decide +kernel
theorem dX1_facing_16 : decode cX1_facing 16 = .ok (.invokevirtual 76, 3) := by decide +kernel
theorem dX1_facing_19 : decode cX1_facing 19 = .ok (.lor, 1) := by decide +kernel
theorem dX1_facing_20 : decode cX1_facing 20 = .ok (.lstore_n 2, 1) := by decide +kernel
theorem dX1_facing_21 : decode cX1_facing 21 = .ok (.iinc 4 1, 3) := by decide +kernel
theorem dX1_facing_24 : decode cX1_facing 24 = .ok (.goto (-19), 3) := by decide +kernel
theorem dX1_facing_27 : decode cX1_facing 27 = .ok (.lload_n 2, 1) := by decide +kernel
theorem dX1_facing_28 : decode cX1_facing 28 = .ok (.lreturn, 1) := by decide +kernel
theorem dX1_beatsTo_0 : decode cX1_beatsTo 0 = .ok (.iconst 0, 1) := by decide +kernel
theorem dX1_beatsTo_1 : decode cX1_beatsTo 1 = .ok (.istore_n 2, 1) := by decide +kernel
theorem dX1_beatsTo_2 : decode cX1_beatsTo 2 = .ok (.iload_n 2, 1) := by decide +kernel
theorem dX1_beatsTo_3 : decode cX1_beatsTo 3 = .ok (.bipush 60, 2) := by decide +kernel
theorem dX1_beatsTo_5 : decode cX1_beatsTo 5 = .ok (.if_icmp .gt 28, 3) := by decide +kernel
theorem dX1_beatsTo_8 : decode cX1_beatsTo 8 = .ok (.aload_n 0, 1) := by decide +kernel
theorem dX1_beatsTo_9 : decode cX1_beatsTo 9 = .ok (.invokevirtual 99, 3) := by decide +kernel
theorem dX1_beatsTo_12 : decode cX1_beatsTo 12 = .ok (.iload_n 1, 1) := by decide +kernel
theorem dX1_beatsTo_13 : decode cX1_beatsTo 13 = .ok (.invokestatic 103, 3) := by decide +kernel
theorem dX1_beatsTo_16 : decode cX1_beatsTo 16 = .ok (.ifCond .eq 5, 3) := by decide +kernel
theorem dX1_beatsTo_19 : decode cX1_beatsTo 19 = .ok (.iload_n 2, 1) := by decide +kernel
theorem dX1_beatsTo_20 : decode cX1_beatsTo 20 = .ok (.ireturn, 1) := by decide +kernel
theorem dX1_beatsTo_21 : decode cX1_beatsTo 21 = .ok (.aload_n 0, 1) := by decide +kernel
theorem dX1_beatsTo_22 : decode cX1_beatsTo 22 = .ok (.bipush 63, 2) := by decide +kernel
theorem dX1_beatsTo_24 : decode cX1_beatsTo 24 = .ok (.invokevirtual 107, 3) := by decide +kernel
theorem dX1_beatsTo_27 : decode cX1_beatsTo 27 = .ok (.iinc 2 1, 3) := by decide +kernel
theorem dX1_beatsTo_30 : decode cX1_beatsTo 30 = .ok (.goto (-28), 3) := by decide +kernel
theorem dX1_beatsTo_33 : decode cX1_beatsTo 33 = .ok (.bipush (-5), 2) := by decide +kernel
theorem dX1_beatsTo_35 : decode cX1_beatsTo 35 = .ok (.ireturn, 1) := by decide +kernel
theorem dX2_init_0 : decode cX2_init 0 = .ok (.aload_n 0, 1) := by decide +kernel
theorem dX2_init_1 : decode cX2_init 1 = .ok (.invokespecial 3, 3) := by decide +kernel
theorem dX2_init_4 : decode cX2_init 4 = .ok (.aload_n 0, 1) := by decide +kernel
theorem dX2_init_5 : decode cX2_init 5 = .ok (.aload_n 1, 1) := by decide +kernel
theorem dX2_init_6 : decode cX2_init 6 = .ok (.putfield 9, 3) := by decide +kernel
theorem dX2_init_9 : decode cX2_init 9 = .ok (.return_, 1) := by decide +kernel
theorem dX2_become_0 : decode cX2_become 0 = .ok (.aload_n 0, 1) := by decide +kernel
theorem dX2_become_1 : decode cX2_become 1 = .ok (.aload_n 1, 1) := by decide +kernel
theorem dX2_become_2 : decode cX2_become 2 = .ok (.putfield 9, 3) := by decide +kernel
theorem dX2_become_5 : decode cX2_become 5 = .ok (.aload_n 0, 1) := by decide +kernel
theorem dX2_become_6 : decode cX2_become 6 = .ok (.iload_n 2, 1) := by decide +kernel
theorem dX2_become_7 : decode cX2_become 7 = .ok (.putfield 15, 3) := by decide +kernel
theorem dX2_become_10 : decode cX2_become 10 = .ok (.aload_n 0, 1) := by decide +kernel
theorem dX2_become_11 : decode cX2_become 11 = .ok (.iload_n 3, 1) := by decide +kernel
theorem dX2_become_12 : decode cX2_become 12 = .ok (.putfield 19, 3) := by decide +kernel
theorem dX2_become_15 : decode cX2_become 15 = .ok (.aload_n 0, 1) := by decide +kernel
theorem dX2_become_16 : decode cX2_become 16 = .ok (.aload_n 1, 1) := by decide +kernel
theorem dX2_become_17 : decode cX2_become 17 = .ok (.iload 4, 2) := by decide +kernel
theorem dX2_become_19 : decode cX2_become 19 = .ok (.invokevirtual 22, 3) := by decide +kernel
theorem dX2_become_22 : decode cX2_become 22 = .ok (.putfield 28, 3) := by decide +kernel
theorem dX2_become_25 : decode cX2_become 25 = .ok (.aload_n 0, 1) := by decide +kernel
theorem dX2_become_26 : decode cX2_become 26 = .ok (.iload 5, 2) := by decide +kernel
theorem dX2_become_28 : decode cX2_become 28 = .ok (.putfield 30, 3) := by decide +kernel
theorem dX2_become_31 : decode cX2_become 31 = .ok (.return_, 1) := by decide +kernel
theorem dX2_tick_0 : decode cX2_tick 0 = .ok (.aload_n 0, 1) := by decide +kernel
theorem dX2_tick_1 : decode cX2_tick 1 = .ok (.aload_n 0, 1) := by decide +kernel
theorem dX2_tick_2 : decode cX2_tick 2 = .ok (.getfield 9, 3) := by decide +kernel
theorem dX2_tick_5 : decode cX2_tick 5 = .ok (.aload_n 0, 1) := by decide +kernel
theorem dX2_tick_6 : decode cX2_tick 6 = .ok (.getfield 28, 3) := by decide +kernel
theorem dX2_tick_9 : decode cX2_tick 9 = .ok (.iconst 1, 1) := by decide +kernel
theorem dX2_tick_10 : decode cX2_tick 10 = .ok (.iadd, 1) := by decide +kernel
theorem dX2_tick_11 : decode cX2_tick 11 = .ok (.invokevirtual 22, 3) := by decide +kernel
theorem dX2_tick_14 : decode cX2_tick 14 = .ok (.putfield 28, 3) := by decide +kernel
theorem dX2_tick_17 : decode cX2_tick 17 = .ok (.aload_n 0, 1) := by decide +kernel
theorem dX2_tick_18 : decode cX2_tick 18 = .ok (.dup, 1) := by decide +kernel
theorem dX2_tick_19 : decode cX2_tick 19 = .ok (.getfield 30, 3) := by decide +kernel
theorem dX2_tick_22 : decode cX2_tick 22 = .ok (.iconst 1, 1) := by decide +kernel
theorem dX2_tick_23 : decode cX2_tick 23 = .ok (.iadd, 1) := by decide +kernel
theorem dX2_tick_24 : decode cX2_tick 24 = .ok (.putfield 30, 3) := by decide +kernel
theorem dX2_tick_27 : decode cX2_tick 27 = .ok (.return_, 1) := by decide +kernel
theorem dX2_steps_0 : decode cX2_steps 0 = .ok (.iconst 0, 1) := by decide +kernel
theorem dX2_steps_1 : decode cX2_steps 1 = .ok (.istore 4, 2) := by decide +kernel
theorem dX2_steps_3 : decode cX2_steps 3 = .ok (.iconst 0, 1) := by decide +kernel
theorem dX2_steps_4 : decode cX2_steps 4 = .ok (.istore 5, 2) := by decide +kernel
theorem dX2_steps_6 : decode cX2_steps 6 = .ok (.iload 5, 2) := by decide +kernel
theorem dX2_steps_8 : decode cX2_steps 8 = .ok (.bipush 6, 2) := by decide +kernel
theorem dX2_steps_10 : decode cX2_steps 10 = .ok (.if_icmp .ge 33, 3) := by decide +kernel
theorem dX2_steps_13 : decode cX2_steps 13 = .ok (.aload_n 0, 1) := by decide +kernel
theorem dX2_steps_14 : decode cX2_steps 14 = .ok (.iload 5, 2) := by decide +kernel
theorem dX2_steps_16 : decode cX2_steps 16 = .ok (.iload_n 2, 1) := by decide +kernel
theorem dX2_steps_17 : decode cX2_steps 17 = .ok (.iload_n 3, 1) := by decide +kernel
theorem dX2_steps_18 : decode cX2_steps 18 = .ok (.invokevirtual 33, 3) := by decide +kernel
theorem dX2_steps_21 : decode cX2_steps 21 = .ok (.iload_n 1, 1) := by decide +kernel
theorem dX2_steps_22 : decode cX2_steps 22 = .ok (.invokestatic 37, 3) := by decide +kernel
theorem dX2_steps_25 : decode cX2_steps 25 = .ok (.ifCond .eq 12, 3) := by decide +kernel
theorem dX2_steps_28 : decode cX2_steps 28 = .ok (.iload 4, 2) := by decide +kernel
theorem dX2_steps_30 : decode cX2_steps 30 = .ok (.iconst 1, 1) := by decide +kernel
theorem dX2_steps_31 : decode cX2_steps 31 = .ok (.iload 5, 2) := by decide +kernel
theorem dX2_steps_33 : decode cX2_steps 33 = .ok (.ishl, 1) := by decide +kernel
theorem dX2_steps_34 : decode cX2_steps 34 = .ok (.ior, 1) := by decide +kernel
theorem dX2_steps_35 : decode cX2_steps 35 = .ok (.istore 4, 2) := by decide +kernel
theorem dX2_steps_37 : decode cX2_steps 37 = .ok (.iinc 5 1, 3) := by decide +kernel
theorem dX2_steps_40 : decode cX2_steps 40 = .ok (.goto (-34), 3) := by decide +kernel
theorem dX2_steps_43 : decode cX2_steps 43 = .ok (.iload 4, 2) := by decide +kernel
theorem dX2_steps_45 : decode cX2_steps 45 = .ok (.ireturn, 1) := by decide +kernel
theorem dX2_starts_0 : decode cX2_starts 0 = .ok (.iload_n 1, 1) := by decide +kernel
theorem dX2_starts_1 : decode cX2_starts 1 = .ok (.iconst 5, 1) := by decide +kernel
theorem dX2_starts_2 : decode cX2_starts 2 = .ok (.if_icmp .ne 31, 3) := by decide +kernel
theorem dX2_starts_5 : decode cX2_starts 5 = .ok (.aload_n 0, 1) := by decide +kernel
theorem dX2_starts_6 : decode cX2_starts 6 = .ok (.invokevirtual 41, 3) := by decide +kernel
theorem dX2_starts_9 : decode cX2_starts 9 = .ok (.ifCond .eq 9, 3) := by decide +kernel
theorem dX2_starts_12 : decode cX2_starts 12 = .ok (.ldc2_w 45, 3) := by decide +kernel
theorem dX2_starts_15 : decode cX2_starts 15 = .ok (.goto 17, 3) := by decide +kernel
theorem dX2_starts_18 : decode cX2_starts 18 = .ok (.ldc2_w 45, 3) := by decide +kernel
theorem dX2_starts_21 : decode cX2_starts 21 = .ok (.aload_n 0, 1) := by decide +kernel
theorem dX2_starts_22 : decode cX2_starts 22 = .ok (.iload_n 2, 1) := by decide +kernel
theorem dX2_starts_23 : decode cX2_starts 23 = .ok (.iload_n 3, 1) := by decide +kernel
theorem dX2_starts_24 : decode cX2_starts 24 = .ok (.invokevirtual 47, 3) := by decide +kernel
theorem dX2_starts_27 : decode cX2_starts 27 = .ok (.ldc2_w 51, 3) := by decide +kernel
theorem dX2_starts_30 : decode cX2_starts 30 = .ok (.lxor, 1) := by decide +kernel
theorem dX2_starts_31 : decode cX2_starts 31 = .ok (.land, 1) := by decide +kernel
theorem dX2_starts_32 : decode cX2_starts 32 = .ok (.lreturn, 1) := by decide +kernel
theorem dX2_starts_33 : decode cX2_starts 33 = .ok (.iload_n 1, 1) := by decide +kernel
theorem dX2_starts_34 : decode cX2_starts 34 = .ok (.iconst 4, 1) := by decide +kernel
theorem dX2_starts_35 : decode cX2_starts 35 = .ok (.if_icmp .ne 29, 3) := by decide +kernel
theorem dX2_starts_38 : decode cX2_starts 38 = .ok (.aload_n 0, 1) := by decide +kernel
theorem dX2_starts_39 : decode cX2_starts 39 = .ok (.invokevirtual 53, 3) := by decide +kernel
theorem dX2_starts_42 : decode cX2_starts 42 = .ok (.ifCond .eq 7, 3) := by decide +kernel
theorem dX2_starts_45 : decode cX2_starts 45 = .ok (.lconst 0, 1) := by decide +kernel
theorem dX2_starts_46 : decode cX2_starts 46 = .ok (.goto 17, 3) := by decide +kernel
theorem dX2_starts_49 : decode cX2_starts 49 = .ok (.aload_n 0, 1) := by decide +kernel
theorem dX2_starts_50 : decode cX2_starts 50 = .ok (.getfield 9, 3) := by decide +kernel
theorem dX2_starts_53 : decode cX2_starts 53 = .ok (.aload_n 0, 1) := by decide +kernel
theorem dX2_starts_54 : decode cX2_starts 54 = .ok (.iconst 4, 1) := by decide +kernel
theorem dX2_starts_55 : decode cX2_starts 55 = .ok (.iload_n 2, 1) := by decide +kernel
theorem dX2_starts_56 : decode cX2_starts 56 = .ok (.iload_n 3, 1) := by decide +kernel
theorem dX2_starts_57 : decode cX2_starts 57 = .ok (.invokevirtual 56, 3) := by decide +kernel
theorem dX2_starts_60 : decode cX2_starts 60 = .ok (.invokevirtual 60, 3) := by decide +kernel
theorem dX2_starts_63 : decode cX2_starts 63 = .ok (.lreturn, 1) := by decide +kernel
theorem dX2_starts_64 : decode cX2_starts 64 = .ok (.aload_n 0, 1) := by decide +kernel
theorem dX2_starts_65 : decode cX2_starts 65 = .ok (.invokevirtual 53, 3) := by decide +kernel
theorem dX2_starts_68 : decode cX2_starts 68 = .ok (.ifCond .eq 12, 3) := by decide +kernel
theorem dX2_starts_71 : decode cX2_starts 71 = .ok (.aload_n 0, 1) := by decide +kernel
theorem dX2_starts_72 : decode cX2_starts 72 = .ok (.iload_n 1, 1) := by decide +kernel
theorem dX2_starts_73 : decode cX2_starts 73 = .ok (.iload_n 2, 1) := by decide +kernel
theorem dX2_starts_74 : decode cX2_starts 74 = .ok (.invokevirtual 64, 3) := by decide +kernel
theorem dX2_starts_77 : decode cX2_starts 77 = .ok (.goto 4, 3) := by decide +kernel
theorem dX2_starts_80 : decode cX2_starts 80 = .ok (.lconst 0, 1) := by decide +kernel
theorem dX2_starts_81 : decode cX2_starts 81 = .ok (.lreturn, 1) := by decide +kernel
theorem dX2_way_0 : decode cX2_way 0 = .ok (.iload_n 1, 1) := by decide +kernel
theorem dX2_way_1 : decode cX2_way 1 = .ok (.lookupswitch 45 #[(4, 29), (5, 27)], 27) := by decide +kernel
theorem dX2_way_28 : decode cX2_way 28 = .ok (.iconst 4, 1) := by decide +kernel
theorem dX2_way_29 : decode cX2_way 29 = .ok (.ireturn, 1) := by decide +kernel
theorem dX2_way_30 : decode cX2_way 30 = .ok (.aload_n 0, 1) := by decide +kernel
theorem dX2_way_31 : decode cX2_way 31 = .ok (.invokevirtual 67, 3) := by decide +kernel
theorem dX2_way_34 : decode cX2_way 34 = .ok (.ifCond .eq 7, 3) := by decide +kernel
theorem dX2_way_37 : decode cX2_way 37 = .ok (.iload_n 3, 1) := by decide +kernel
theorem dX2_way_38 : decode cX2_way 38 = .ok (.goto 7, 3) := by decide +kernel
theorem dX2_way_41 : decode cX2_way 41 = .ok (.iload_n 2, 1) := by decide +kernel
theorem dX2_way_42 : decode cX2_way 42 = .ok (.invokestatic 70, 3) := by decide +kernel
theorem dX2_way_45 : decode cX2_way 45 = .ok (.ireturn, 1) := by decide +kernel
theorem dX2_way_46 : decode cX2_way 46 = .ok (.iload_n 1, 1) := by decide +kernel
theorem dX2_way_47 : decode cX2_way 47 = .ok (.ireturn, 1) := by decide +kernel
theorem dX2_isOn_0 : decode cX2_isOn 0 = .ok (.aload_n 0, 1) := by decide +kernel
theorem dX2_isOn_1 : decode cX2_isOn 1 = .ok (.getfield 28, 3) := by decide +kernel
theorem dX2_isOn_4 : decode cX2_isOn 4 = .ok (.aload_n 0, 1) := by decide +kernel
theorem dX2_isOn_5 : decode cX2_isOn 5 = .ok (.getfield 9, 3) := by decide +kernel
theorem dX2_isOn_8 : decode cX2_isOn 8 = .ok (.getfield 73, 3) := by decide +kernel
theorem dX2_isOn_11 : decode cX2_isOn 11 = .ok (.if_icmp .ge 7, 3) := by decide +kernel
theorem dX2_isOn_14 : decode cX2_isOn 14 = .ok (.iconst 1, 1) := by decide +kernel
theorem dX2_isOn_15 : decode cX2_isOn 15 = .ok (.goto 4, 3) := by decide +kernel
theorem dX2_isOn_18 : decode cX2_isOn 18 = .ok (.iconst 0, 1) := by decide +kernel
theorem dX2_isOn_19 : decode cX2_isOn 19 = .ok (.ireturn, 1) := by decide +kernel
theorem dX2_isRound_0 : decode cX2_isRound 0 = .ok (.aload_n 0, 1) := by decide +kernel
theorem dX2_isRound_1 : decode cX2_isRound 1 = .ok (.getfield 15, 3) := by decide +kernel
theorem dX2_isRound_4 : decode cX2_isRound 4 = .ok (.iconst 2, 1) := by decide +kernel
theorem dX2_isRound_5 : decode cX2_isRound 5 = .ok (.if_icmp .eq 11, 3) := by decide +kernel
theorem dX2_isRound_8 : decode cX2_isRound 8 = .ok (.aload_n 0, 1) := by decide +kernel
theorem dX2_isRound_9 : decode cX2_isRound 9 = .ok (.getfield 15, 3) := by decide +kernel
theorem dX2_isRound_12 : decode cX2_isRound 12 = .ok (.iconst 5, 1) := by decide +kernel
theorem dX2_isRound_13 : decode cX2_isRound 13 = .ok (.if_icmp .ne 7, 3) := by decide +kernel
theorem dX2_isRound_16 : decode cX2_isRound 16 = .ok (.iconst 1, 1) := by decide +kernel
theorem dX2_isRound_17 : decode cX2_isRound 17 = .ok (.goto 4, 3) := by decide +kernel
theorem dX2_isRound_20 : decode cX2_isRound 20 = .ok (.iconst 0, 1) := by decide +kernel
theorem dX2_isRound_21 : decode cX2_isRound 21 = .ok (.ireturn, 1) := by decide +kernel
theorem dX2_rests_0 : decode cX2_rests 0 = .ok (.aload_n 0, 1) := by decide +kernel
theorem dX2_rests_1 : decode cX2_rests 1 = .ok (.getfield 15, 3) := by decide +kernel
theorem dX2_rests_4 : decode cX2_rests 4 = .ok (.bipush 6, 2) := by decide +kernel
theorem dX2_rests_6 : decode cX2_rests 6 = .ok (.if_icmp .ne 33, 3) := by decide +kernel
theorem dX2_rests_9 : decode cX2_rests 9 = .ok (.aload_n 0, 1) := by decide +kernel
theorem dX2_rests_10 : decode cX2_rests 10 = .ok (.invokevirtual 53, 3) := by decide +kernel
theorem dX2_rests_13 : decode cX2_rests 13 = .ok (.ifCond .eq 26, 3) := by decide +kernel
theorem dX2_rests_16 : decode cX2_rests 16 = .ok (.aload_n 0, 1) := by decide +kernel
theorem dX2_rests_17 : decode cX2_rests 17 = .ok (.getfield 19, 3) := by decide +kernel
theorem dX2_rests_20 : decode cX2_rests 20 = .ok (.ifCond .le 19, 3) := by decide +kernel
theorem dX2_rests_23 : decode cX2_rests 23 = .ok (.aload_n 0, 1) := by decide +kernel
theorem dX2_rests_24 : decode cX2_rests 24 = .ok (.getfield 30, 3) := by decide +kernel
theorem dX2_rests_27 : decode cX2_rests 27 = .ok (.aload_n 0, 1) := by decide +kernel
theorem dX2_rests_28 : decode cX2_rests 28 = .ok (.getfield 19, 3) := by decide +kernel
theorem dX2_rests_31 : decode cX2_rests 31 = .ok (.irem, 1) := by decide +kernel
theorem dX2_rests_32 : decode cX2_rests 32 = .ok (.ifCond .ne 7, 3) := by decide +kernel
theorem dX2_rests_35 : decode cX2_rests 35 = .ok (.iconst 1, 1) := by decide +kernel
theorem dX2_rests_36 : decode cX2_rests 36 = .ok (.goto 4, 3) := by decide +kernel
theorem dX2_rests_39 : decode cX2_rests 39 = .ok (.iconst 0, 1) := by decide +kernel
theorem dX2_rests_40 : decode cX2_rests 40 = .ok (.ireturn, 1) := by decide +kernel
theorem dX2_leaves_0 : decode cX2_leaves 0 = .ok (.aload_n 0, 1) := by decide +kernel
theorem dX2_leaves_1 : decode cX2_leaves 1 = .ok (.invokevirtual 53, 3) := by decide +kernel
theorem dX2_leaves_4 : decode cX2_leaves 4 = .ok (.ifCond .ne 18, 3) := by decide +kernel
theorem dX2_leaves_7 : decode cX2_leaves 7 = .ok (.aload_n 0, 1) := by decide +kernel
theorem dX2_leaves_8 : decode cX2_leaves 8 = .ok (.getfield 9, 3) := by decide +kernel
theorem dX2_leaves_11 : decode cX2_leaves 11 = .ok (.aload_n 0, 1) := by decide +kernel
theorem dX2_leaves_12 : decode cX2_leaves 12 = .ok (.iconst 4, 1) := by decide +kernel
theorem dX2_leaves_13 : decode cX2_leaves 13 = .ok (.iload_n 1, 1) := by decide +kernel
theorem dX2_leaves_14 : decode cX2_leaves 14 = .ok (.iload_n 2, 1) := by decide +kernel
theorem dX2_leaves_15 : decode cX2_leaves 15 = .ok (.invokevirtual 56, 3) := by decide +kernel
theorem dX2_leaves_18 : decode cX2_leaves 18 = .ok (.invokevirtual 60, 3) := by decide +kernel
theorem dX2_leaves_21 : decode cX2_leaves 21 = .ok (.lreturn, 1) := by decide +kernel
theorem dX2_leaves_22 : decode cX2_leaves 22 = .ok (.aload_n 0, 1) := by decide +kernel
theorem dX2_leaves_23 : decode cX2_leaves 23 = .ok (.iconst 0, 1) := by decide +kernel
theorem dX2_leaves_24 : decode cX2_leaves 24 = .ok (.iload_n 1, 1) := by decide +kernel
theorem dX2_leaves_25 : decode cX2_leaves 25 = .ok (.invokevirtual 64, 3) := by decide +kernel
theorem dX2_leaves_28 : decode cX2_leaves 28 = .ok (.aload_n 0, 1) := by decide +kernel
theorem dX2_leaves_29 : decode cX2_leaves 29 = .ok (.iconst 1, 1) := by decide +kernel
theorem dX2_leaves_30 : decode cX2_leaves 30 = .ok (.iload_n 1, 1) := by decide +kernel
theorem dX2_leaves_31 : decode cX2_leaves 31 = .ok (.invokevirtual 64, 3) := by decide +kernel
theorem dX2_leaves_34 : decode cX2_leaves 34 = .ok (.lor, 1) := by decide +kernel
theorem dX2_leaves_35 : decode cX2_leaves 35 = .ok (.aload_n 0, 1) := by decide +kernel
theorem dX2_leaves_36 : decode cX2_leaves 36 = .ok (.iconst 2, 1) := by decide +kernel
theorem dX2_leaves_37 : decode cX2_leaves 37 = .ok (.iload_n 1, 1) := by decide +kernel
theorem dX2_leaves_38 : decode cX2_leaves 38 = .ok (.invokevirtual 64, 3) := by decide +kernel
theorem dX2_leaves_41 : decode cX2_leaves 41 = .ok (.lor, 1) := by decide +kernel
theorem dX2_leaves_42 : decode cX2_leaves 42 = .ok (.aload_n 0, 1) := by decide +kernel
theorem dX2_leaves_43 : decode cX2_leaves 43 = .ok (.iconst 3, 1) := by decide +kernel
theorem dX2_leaves_44 : decode cX2_leaves 44 = .ok (.iload_n 1, 1) := by decide +kernel
theorem dX2_leaves_45 : decode cX2_leaves 45 = .ok (.invokevirtual 64, 3) := by decide +kernel
theorem dX2_leaves_48 : decode cX2_leaves 48 = .ok (.lor, 1) := by decide +kernel
theorem dX2_leaves_49 : decode cX2_leaves 49 = .ok (.lreturn, 1) := by decide +kernel
theorem dX2_ons_0 : decode cX2_ons 0 = .ok (.aload_n 0, 1) := by decide +kernel
theorem dX2_ons_1 : decode cX2_ons 1 = .ok (.getfield 9, 3) := by decide +kernel
theorem dX2_ons_4 : decode cX2_ons 4 = .ok (.iload_n 1, 1) := by decide +kernel
theorem dX2_ons_5 : decode cX2_ons 5 = .ok (.iload_n 2, 1) := by decide +kernel
theorem dX2_ons_6 : decode cX2_ons 6 = .ok (.invokevirtual 76, 3) := by decide +kernel
theorem dX2_ons_9 : decode cX2_ons 9 = .ok (.lstore_n 3, 1) := by decide +kernel
theorem dX2_ons_10 : decode cX2_ons 10 = .ok (.aload_n 0, 1) := by decide +kernel
theorem dX2_ons_11 : decode cX2_ons 11 = .ok (.getfield 15, 3) := by decide +kernel
theorem dX2_ons_14 : decode cX2_ons 14 = .ok (.iconst 1, 1) := by decide +kernel
theorem dX2_ons_15 : decode cX2_ons 15 = .ok (.if_icmp .ne 5, 3) := by decide +kernel
theorem dX2_ons_18 : decode cX2_ons 18 = .ok (.lload_n 3, 1) := by decide +kernel
theorem dX2_ons_19 : decode cX2_ons 19 = .ok (.lreturn, 1) := by decide +kernel
theorem dX2_ons_20 : decode cX2_ons 20 = .ok (.aload_n 0, 1) := by decide +kernel
theorem dX2_ons_21 : decode cX2_ons 21 = .ok (.getfield 15, 3) := by decide +kernel
theorem dX2_ons_24 : decode cX2_ons 24 = .ok (.iconst 4, 1) := by decide +kernel
theorem dX2_ons_25 : decode cX2_ons 25 = .ok (.if_icmp .ne 19, 3) := by decide +kernel
theorem dX2_ons_28 : decode cX2_ons 28 = .ok (.iload_n 1, 1) := by decide +kernel
theorem dX2_ons_29 : decode cX2_ons 29 = .ok (.aload_n 0, 1) := by decide +kernel
theorem dX2_ons_30 : decode cX2_ons 30 = .ok (.getfield 19, 3) := by decide +kernel
theorem dX2_ons_33 : decode cX2_ons 33 = .ok (.iconst 4, 1) := by decide +kernel
theorem dX2_ons_34 : decode cX2_ons 34 = .ok (.irem, 1) := by decide +kernel
theorem dX2_ons_35 : decode cX2_ons 35 = .ok (.if_icmp .ne 7, 3) := by decide +kernel
theorem dX2_ons_38 : decode cX2_ons 38 = .ok (.lconst 0, 1) := by decide +kernel
theorem dX2_ons_39 : decode cX2_ons 39 = .ok (.goto 4, 3) := by decide +kernel
theorem dX2_ons_42 : decode cX2_ons 42 = .ok (.lload_n 3, 1) := by decide +kernel
theorem dX2_ons_43 : decode cX2_ons 43 = .ok (.lreturn, 1) := by decide +kernel
theorem dX2_ons_44 : decode cX2_ons 44 = .ok (.iload_n 1, 1) := by decide +kernel
theorem dX2_ons_45 : decode cX2_ons 45 = .ok (.iload_n 2, 1) := by decide +kernel
theorem dX2_ons_46 : decode cX2_ons 46 = .ok (.if_icmp .ne 5, 3) := by decide +kernel
theorem dX2_ons_49 : decode cX2_ons 49 = .ok (.lload_n 3, 1) := by decide +kernel
theorem dX2_ons_50 : decode cX2_ons 50 = .ok (.lreturn, 1) := by decide +kernel
theorem dX2_ons_51 : decode cX2_ons 51 = .ok (.iload_n 1, 1) := by decide +kernel
theorem dX2_ons_52 : decode cX2_ons 52 = .ok (.iload_n 2, 1) := by decide +kernel
theorem dX2_ons_53 : decode cX2_ons 53 = .ok (.invokestatic 70, 3) := by decide +kernel
theorem dX2_ons_56 : decode cX2_ons 56 = .ok (.if_icmp .ne 5, 3) := by decide +kernel
theorem dX2_ons_59 : decode cX2_ons 59 = .ok (.lconst 0, 1) := by decide +kernel
theorem dX2_ons_60 : decode cX2_ons 60 = .ok (.lreturn, 1) := by decide +kernel
theorem dX2_ons_61 : decode cX2_ons 61 = .ok (.aload_n 0, 1) := by decide +kernel
theorem dX2_ons_62 : decode cX2_ons 62 = .ok (.getfield 15, 3) := by decide +kernel
theorem dX2_ons_65 : decode cX2_ons 65 = .ok (.tableswitch 67 3 6 #[31, 67, 51, 31], 31) := by decide +kernel
theorem dX2_ons_96 : decode cX2_ons 96 = .ok (.aload_n 0, 1) := by decide +kernel
theorem dX2_ons_97 : decode cX2_ons 97 = .ok (.getfield 30, 3) := by decide +kernel
theorem dX2_ons_100 : decode cX2_ons 100 = .ok (.aload_n 0, 1) := by decide +kernel
theorem dX2_ons_101 : decode cX2_ons 101 = .ok (.getfield 19, 3) := by decide +kernel
theorem dX2_ons_104 : decode cX2_ons 104 = .ok (.iadd, 1) := by decide +kernel
theorem dX2_ons_105 : decode cX2_ons 105 = .ok (.iconst 2, 1) := by decide +kernel
theorem dX2_ons_106 : decode cX2_ons 106 = .ok (.irem, 1) := by decide +kernel
theorem dX2_ons_107 : decode cX2_ons 107 = .ok (.ifCond .ne 7, 3) := by decide +kernel
theorem dX2_ons_110 : decode cX2_ons 110 = .ok (.lload_n 3, 1) := by decide +kernel
theorem dX2_ons_111 : decode cX2_ons 111 = .ok (.goto 4, 3) := by decide +kernel
theorem dX2_ons_114 : decode cX2_ons 114 = .ok (.lconst 0, 1) := by decide +kernel
theorem dX2_ons_115 : decode cX2_ons 115 = .ok (.lreturn, 1) := by decide +kernel
theorem dX2_ons_116 : decode cX2_ons 116 = .ok (.lload_n 3, 1) := by decide +kernel
theorem dX2_ons_117 : decode cX2_ons 117 = .ok (.aload_n 0, 1) := by decide +kernel
theorem dX2_ons_118 : decode cX2_ons 118 = .ok (.getfield 9, 3) := by decide +kernel
theorem dX2_ons_121 : decode cX2_ons 121 = .ok (.iload_n 2, 1) := by decide +kernel
theorem dX2_ons_122 : decode cX2_ons 122 = .ok (.iload_n 2, 1) := by decide +kernel
theorem dX2_ons_123 : decode cX2_ons 123 = .ok (.invokevirtual 76, 3) := by decide +kernel
theorem dX2_ons_126 : decode cX2_ons 126 = .ok (.ldc2_w 51, 3) := by decide +kernel
theorem dX2_ons_129 : decode cX2_ons 129 = .ok (.lxor, 1) := by decide +kernel
theorem dX2_ons_130 : decode cX2_ons 130 = .ok (.land, 1) := by decide +kernel
theorem dX2_ons_131 : decode cX2_ons 131 = .ok (.lreturn, 1) := by decide +kernel
theorem dX2_ons_132 : decode cX2_ons 132 = .ok (.lload_n 3, 1) := by decide +kernel
theorem dX2_ons_133 : decode cX2_ons 133 = .ok (.lreturn, 1) := by decide +kernel
theorem dX3_init_0 : decode cX3_init 0 = .ok (.aload_n 0, 1) := by decide +kernel
theorem dX3_init_1 : decode cX3_init 1 = .ok (.invokespecial 3, 3) := by decide +kernel
theorem dX3_init_4 : decode cX3_init 4 = .ok (.aload_n 0, 1) := by decide +kernel
theorem dX3_init_5 : decode cX3_init 5 = .ok (.iconst 4, 1) := by decide +kernel
theorem dX3_init_6 : decode cX3_init 6 = .ok (.newarray .long, 2) := by decide +kernel
theorem dX3_init_8 : decode cX3_init 8 = .ok (.putfield 9, 3) := by decide +kernel
theorem dX3_init_11 : decode cX3_init 11 = .ok (.aload_n 0, 1) := by decide +kernel
theorem dX3_init_12 : decode cX3_init 12 = .ok (.iconst 4, 1) := by decide +kernel
theorem dX3_init_13 : decode cX3_init 13 = .ok (.newarray .long, 2) := by decide +kernel
theorem dX3_init_15 : decode cX3_init 15 = .ok (.putfield 15, 3) := by decide +kernel
theorem dX3_init_18 : decode cX3_init 18 = .ok (.aload_n 0, 1) := by decide +kernel
theorem dX3_init_19 : decode cX3_init 19 = .ok (.iload_n 1, 1) := by decide +kernel
theorem dX3_init_20 : decode cX3_init 20 = .ok (.putfield 18, 3) := by decide +kernel
theorem dX3_init_23 : decode cX3_init 23 = .ok (.aload_n 0, 1) := by decide +kernel
theorem dX3_init_24 : decode cX3_init 24 = .ok (.iload_n 2, 1) := by decide +kernel
theorem dX3_init_25 : decode cX3_init 25 = .ok (.putfield 22, 3) := by decide +kernel
theorem dX3_init_28 : decode cX3_init 28 = .ok (.aload_n 3, 1) := by decide +kernel
theorem dX3_init_29 : decode cX3_init 29 = .ok (.ifnull 13, 3) := by decide +kernel
theorem dX3_init_32 : decode cX3_init 32 = .ok (.aload_n 3, 1) := by decide +kernel
theorem dX3_init_33 : decode cX3_init 33 = .ok (.arraylength, 1) := by decide +kernel
theorem dX3_init_34 : decode cX3_init 34 = .ok (.iconst 4, 1) := by decide +kernel
theorem dX3_init_35 : decode cX3_init 35 = .ok (.if_icmp .ne 7, 3) := by decide +kernel
theorem dX3_init_38 : decode cX3_init 38 = .ok (.iconst 1, 1) := by decide +kernel
theorem dX3_init_39 : decode cX3_init 39 = .ok (.goto 4, 3) := by decide +kernel
theorem dX3_init_42 : decode cX3_init 42 = .ok (.iconst 0, 1) := by decide +kernel
theorem dX3_init_43 : decode cX3_init 43 = .ok (.istore 4, 2) := by decide +kernel
theorem dX3_init_45 : decode cX3_init 45 = .ok (.aload_n 0, 1) := by decide +kernel
theorem dX3_init_46 : decode cX3_init 46 = .ok (.iload 4, 2) := by decide +kernel
theorem dX3_init_48 : decode cX3_init 48 = .ok (.ifCond .eq 9, 3) := by decide +kernel
theorem dX3_init_51 : decode cX3_init 51 = .ok (.aload_n 3, 1) := by decide +kernel
theorem dX3_init_52 : decode cX3_init 52 = .ok (.iconst 0, 1) := by decide +kernel
theorem dX3_init_53 : decode cX3_init 53 = .ok (.laload, 1) := by decide +kernel
theorem dX3_init_54 : decode cX3_init 54 = .ok (.goto 4, 3) := by decide +kernel
theorem dX3_init_57 : decode cX3_init 57 = .ok (.lconst 0, 1) := by decide +kernel
theorem dX3_init_58 : decode cX3_init 58 = .ok (.putfield 25, 3) := by decide +kernel
theorem dX3_init_61 : decode cX3_init 61 = .ok (.aload_n 0, 1) := by decide +kernel
theorem dX3_init_62 : decode cX3_init 62 = .ok (.iload 4, 2) := by decide +kernel
theorem dX3_init_64 : decode cX3_init 64 = .ok (.ifCond .eq 9, 3) := by decide +kernel
theorem dX3_init_67 : decode cX3_init 67 = .ok (.aload_n 3, 1) := by decide +kernel
theorem dX3_init_68 : decode cX3_init 68 = .ok (.iconst 1, 1) := by decide +kernel
theorem dX3_init_69 : decode cX3_init 69 = .ok (.laload, 1) := by decide +kernel
theorem dX3_init_70 : decode cX3_init 70 = .ok (.goto 4, 3) := by decide +kernel
theorem dX3_init_73 : decode cX3_init 73 = .ok (.lconst 0, 1) := by decide +kernel
theorem dX3_init_74 : decode cX3_init 74 = .ok (.putfield 29, 3) := by decide +kernel
theorem dX3_init_77 : decode cX3_init 77 = .ok (.aload_n 0, 1) := by decide +kernel
theorem dX3_init_78 : decode cX3_init 78 = .ok (.iload 4, 2) := by decide +kernel
theorem dX3_init_80 : decode cX3_init 80 = .ok (.ifCond .eq 9, 3) := by decide +kernel
theorem dX3_init_83 : decode cX3_init 83 = .ok (.aload_n 3, 1) := by decide +kernel
theorem dX3_init_84 : decode cX3_init 84 = .ok (.iconst 2, 1) := by decide +kernel
theorem dX3_init_85 : decode cX3_init 85 = .ok (.laload, 1) := by decide +kernel
theorem dX3_init_86 : decode cX3_init 86 = .ok (.goto 4, 3) := by decide +kernel
theorem dX3_init_89 : decode cX3_init 89 = .ok (.lconst 0, 1) := by decide +kernel
theorem dX3_init_90 : decode cX3_init 90 = .ok (.putfield 32, 3) := by decide +kernel
theorem dX3_init_93 : decode cX3_init 93 = .ok (.aload_n 0, 1) := by decide +kernel
theorem dX3_init_94 : decode cX3_init 94 = .ok (.iload 4, 2) := by decide +kernel
theorem dX3_init_96 : decode cX3_init 96 = .ok (.ifCond .eq 9, 3) := by decide +kernel
theorem dX3_init_99 : decode cX3_init 99 = .ok (.aload_n 3, 1) := by decide +kernel
theorem dX3_init_100 : decode cX3_init 100 = .ok (.iconst 3, 1) := by decide +kernel
theorem dX3_init_101 : decode cX3_init 101 = .ok (.laload, 1) := by decide +kernel
theorem dX3_init_102 : decode cX3_init 102 = .ok (.goto 4, 3) := by decide +kernel
theorem dX3_init_105 : decode cX3_init 105 = .ok (.lconst 0, 1) := by decide +kernel
theorem dX3_init_106 : decode cX3_init 106 = .ok (.putfield 35, 3) := by decide +kernel
theorem dX3_init_109 : decode cX3_init 109 = .ok (.aload_n 0, 1) := by decide +kernel
theorem dX3_init_110 : decode cX3_init 110 = .ok (.ldc2_w 38, 3) := by decide +kernel
theorem dX3_init_113 : decode cX3_init 113 = .ok (.aload_n 0, 1) := by decide +kernel
theorem dX3_init_114 : decode cX3_init 114 = .ok (.getfield 32, 3) := by decide +kernel
theorem dX3_init_117 : decode cX3_init 117 = .ok (.ldc2_w 40, 3) := by decide +kernel
theorem dX3_init_120 : decode cX3_init 120 = .ok (.lxor, 1) := by decide +kernel
theorem dX3_init_121 : decode cX3_init 121 = .ok (.land, 1) := by decide +kernel
theorem dX3_init_122 : decode cX3_init 122 = .ok (.aload_n 0, 1) := by decide +kernel
theorem dX3_init_123 : decode cX3_init 123 = .ok (.getfield 35, 3) := by decide +kernel
theorem dX3_init_126 : decode cX3_init 126 = .ok (.ldc2_w 40, 3) := by decide +kernel
theorem dX3_init_129 : decode cX3_init 129 = .ok (.lxor, 1) := by decide +kernel
theorem dX3_init_130 : decode cX3_init 130 = .ok (.land, 1) := by decide +kernel
theorem dX3_init_131 : decode cX3_init 131 = .ok (.putfield 42, 3) := by decide +kernel
theorem dX3_init_134 : decode cX3_init 134 = .ok (.aload_n 0, 1) := by decide +kernel
theorem dX3_init_135 : decode cX3_init 135 = .ok (.aload_n 0, 1) := by decide +kernel
theorem dX3_init_136 : decode cX3_init 136 = .ok (.getfield 42, 3) := by decide +kernel
theorem dX3_init_139 : decode cX3_init 139 = .ok (.aload_n 0, 1) := by decide +kernel
theorem dX3_init_140 : decode cX3_init 140 = .ok (.getfield 25, 3) := by decide +kernel
theorem dX3_init_143 : decode cX3_init 143 = .ok (.ldc2_w 40, 3) := by decide +kernel
theorem dX3_init_146 : decode cX3_init 146 = .ok (.lxor, 1) := by decide +kernel
theorem dX3_init_147 : decode cX3_init 147 = .ok (.land, 1) := by decide +kernel
theorem dX3_init_148 : decode cX3_init 148 = .ok (.aload_n 0, 1) := by decide +kernel
theorem dX3_init_149 : decode cX3_init 149 = .ok (.getfield 29, 3) := by decide +kernel
theorem dX3_init_152 : decode cX3_init 152 = .ok (.ldc2_w 40, 3) := by decide +kernel
theorem dX3_init_155 : decode cX3_init 155 = .ok (.lxor, 1) := by decide +kernel
theorem dX3_init_156 : decode cX3_init 156 = .ok (.land, 1) := by decide +kernel
theorem dX3_init_157 : decode cX3_init 157 = .ok (.putfield 45, 3) := by decide +kernel
theorem dX3_init_160 : decode cX3_init 160 = .ok (.iconst 0, 1) := by decide +kernel
theorem dX3_init_161 : decode cX3_init 161 = .ok (.istore 5, 2) := by decide +kernel
theorem dX3_init_163 : decode cX3_init 163 = .ok (.iload 5, 2) := by decide +kernel
theorem dX3_init_165 : decode cX3_init 165 = .ok (.iconst 4, 1) := by decide +kernel
theorem dX3_init_166 : decode cX3_init 166 = .ok (.if_icmp .ge 72, 3) := by decide +kernel
theorem dX3_init_169 : decode cX3_init 169 = .ok (.aload_n 0, 1) := by decide +kernel
theorem dX3_init_170 : decode cX3_init 170 = .ok (.getfield 9, 3) := by decide +kernel
theorem dX3_init_173 : decode cX3_init 173 = .ok (.iload 5, 2) := by decide +kernel
theorem dX3_init_175 : decode cX3_init 175 = .ok (.ldc2_w 38, 3) := by decide +kernel
theorem dX3_init_178 : decode cX3_init 178 = .ok (.aload_n 0, 1) := by decide +kernel
theorem dX3_init_179 : decode cX3_init 179 = .ok (.getfield 25, 3) := by decide +kernel
theorem dX3_init_182 : decode cX3_init 182 = .ok (.ldc2_w 40, 3) := by decide +kernel
theorem dX3_init_185 : decode cX3_init 185 = .ok (.lxor, 1) := by decide +kernel
theorem dX3_init_186 : decode cX3_init 186 = .ok (.land, 1) := by decide +kernel
theorem dX3_init_187 : decode cX3_init 187 = .ok (.iload 5, 2) := by decide +kernel
theorem dX3_init_189 : decode cX3_init 189 = .ok (.invokestatic 48, 3) := by decide +kernel
theorem dX3_init_192 : decode cX3_init 192 = .ok (.invokestatic 52, 3) := by decide +kernel
theorem dX3_init_195 : decode cX3_init 195 = .ok (.lastore, 1) := by decide +kernel
theorem dX3_init_196 : decode cX3_init 196 = .ok (.aload_n 0, 1) := by decide +kernel
theorem dX3_init_197 : decode cX3_init 197 = .ok (.getfield 15, 3) := by decide +kernel
theorem dX3_init_200 : decode cX3_init 200 = .ok (.iload 5, 2) := by decide +kernel
theorem dX3_init_202 : decode cX3_init 202 = .ok (.ldc2_w 38, 3) := by decide +kernel
theorem dX3_init_205 : decode cX3_init 205 = .ok (.aload_n 0, 1) := by decide +kernel
theorem dX3_init_206 : decode cX3_init 206 = .ok (.getfield 25, 3) := by decide +kernel
theorem dX3_init_209 : decode cX3_init 209 = .ok (.ldc2_w 40, 3) := by decide +kernel
theorem dX3_init_212 : decode cX3_init 212 = .ok (.lxor, 1) := by decide +kernel
theorem dX3_init_213 : decode cX3_init 213 = .ok (.land, 1) := by decide +kernel
theorem dX3_init_214 : decode cX3_init 214 = .ok (.aload_n 0, 1) := by decide +kernel
theorem dX3_init_215 : decode cX3_init 215 = .ok (.getfield 29, 3) := by decide +kernel
theorem dX3_init_218 : decode cX3_init 218 = .ok (.ldc2_w 40, 3) := by decide +kernel
theorem dX3_init_221 : decode cX3_init 221 = .ok (.lxor, 1) := by decide +kernel
theorem dX3_init_222 : decode cX3_init 222 = .ok (.land, 1) := by decide +kernel
theorem dX3_init_223 : decode cX3_init 223 = .ok (.iload 5, 2) := by decide +kernel
theorem dX3_init_225 : decode cX3_init 225 = .ok (.invokestatic 48, 3) := by decide +kernel
theorem dX3_init_228 : decode cX3_init 228 = .ok (.invokestatic 52, 3) := by decide +kernel
theorem dX3_init_231 : decode cX3_init 231 = .ok (.lastore, 1) := by decide +kernel
theorem dX3_init_232 : decode cX3_init 232 = .ok (.iinc 5 1, 3) := by decide +kernel
theorem dX3_init_235 : decode cX3_init 235 = .ok (.goto (-72), 3) := by decide +kernel
theorem dX3_init_238 : decode cX3_init 238 = .ok (.return_, 1) := by decide +kernel
theorem dX3_rhythm_0 : decode cX3_rhythm 0 = .ok (.aload_n 0, 1) := by decide +kernel
theorem dX3_rhythm_1 : decode cX3_rhythm 1 = .ok (.getfield 18, 3) := by decide +kernel
theorem dX3_rhythm_4 : decode cX3_rhythm 4 = .ok (.aload_n 0, 1) := by decide +kernel
theorem dX3_rhythm_5 : decode cX3_rhythm 5 = .ok (.getfield 22, 3) := by decide +kernel
theorem dX3_rhythm_8 : decode cX3_rhythm 8 = .ok (.iadd, 1) := by decide +kernel
theorem dX3_rhythm_9 : decode cX3_rhythm 9 = .ok (.ireturn, 1) := by decide +kernel
theorem dX3_beat_0 : decode cX3_beat 0 = .ok (.aload_n 0, 1) := by decide +kernel
theorem dX3_beat_1 : decode cX3_beat 1 = .ok (.invokevirtual 56, 3) := by decide +kernel
theorem dX3_beat_4 : decode cX3_beat 4 = .ok (.istore_n 2, 1) := by decide +kernel
theorem dX3_beat_5 : decode cX3_beat 5 = .ok (.iload_n 2, 1) := by decide +kernel
theorem dX3_beat_6 : decode cX3_beat 6 = .ok (.ifCond .le 9, 3) := by decide +kernel
theorem dX3_beat_9 : decode cX3_beat 9 = .ok (.iload_n 1, 1) := by decide +kernel
theorem dX3_beat_10 : decode cX3_beat 10 = .ok (.iload_n 2, 1) := by decide +kernel
theorem dX3_beat_11 : decode cX3_beat 11 = .ok (.irem, 1) := by decide +kernel
theorem dX3_beat_12 : decode cX3_beat 12 = .ok (.goto 4, 3) := by decide +kernel
theorem dX3_beat_15 : decode cX3_beat 15 = .ok (.iconst 0, 1) := by decide +kernel
theorem dX3_beat_16 : decode cX3_beat 16 = .ok (.ireturn, 1) := by decide +kernel
theorem dX3_marked_0 : decode cX3_marked 0 = .ok (.iload_n 1, 1) := by decide +kernel
theorem dX3_marked_1 : decode cX3_marked 1 = .ok (.tableswitch 42 0 2 #[27, 32, 37], 27) := by decide +kernel
theorem dX3_marked_28 : decode cX3_marked 28 = .ok (.aload_n 0, 1) := by decide +kernel
theorem dX3_marked_29 : decode cX3_marked 29 = .ok (.getfield 25, 3) := by decide +kernel
theorem dX3_marked_32 : decode cX3_marked 32 = .ok (.lreturn, 1) := by decide +kernel
theorem dX3_marked_33 : decode cX3_marked 33 = .ok (.aload_n 0, 1) := by decide +kernel
theorem dX3_marked_34 : decode cX3_marked 34 = .ok (.getfield 29, 3) := by decide +kernel
theorem dX3_marked_37 : decode cX3_marked 37 = .ok (.lreturn, 1) := by decide +kernel
theorem dX3_marked_38 : decode cX3_marked 38 = .ok (.aload_n 0, 1) := by decide +kernel
theorem dX3_marked_39 : decode cX3_marked 39 = .ok (.getfield 32, 3) := by decide +kernel
theorem dX3_marked_42 : decode cX3_marked 42 = .ok (.lreturn, 1) := by decide +kernel
theorem dX3_marked_43 : decode cX3_marked 43 = .ok (.aload_n 0, 1) := by decide +kernel
theorem dX3_marked_44 : decode cX3_marked 44 = .ok (.getfield 35, 3) := by decide +kernel
theorem dX3_marked_47 : decode cX3_marked 47 = .ok (.lreturn, 1) := by decide +kernel
theorem dX3_onward_0 : decode cX3_onward 0 = .ok (.iload_n 1, 1) := by decide +kernel
theorem dX3_onward_1 : decode cX3_onward 1 = .ok (.iload_n 2, 1) := by decide +kernel
theorem dX3_onward_2 : decode cX3_onward 2 = .ok (.if_icmp .ne 14, 3) := by decide +kernel
theorem dX3_onward_5 : decode cX3_onward 5 = .ok (.aload_n 0, 1) := by decide +kernel
theorem dX3_onward_6 : decode cX3_onward 6 = .ok (.getfield 9, 3) := by decide +kernel
theorem dX3_onward_9 : decode cX3_onward 9 = .ok (.iload_n 1, 1) := by decide +kernel
theorem dX3_onward_10 : decode cX3_onward 10 = .ok (.iconst 3, 1) := by decide +kernel
theorem dX3_onward_11 : decode cX3_onward 11 = .ok (.iand, 1) := by decide +kernel
theorem dX3_onward_12 : decode cX3_onward 12 = .ok (.laload, 1) := by decide +kernel
theorem dX3_onward_13 : decode cX3_onward 13 = .ok (.goto 11, 3) := by decide +kernel
theorem dX3_onward_16 : decode cX3_onward 16 = .ok (.aload_n 0, 1) := by decide +kernel
theorem dX3_onward_17 : decode cX3_onward 17 = .ok (.getfield 15, 3) := by decide +kernel
theorem dX3_onward_20 : decode cX3_onward 20 = .ok (.iload_n 1, 1) := by decide +kernel
theorem dX3_onward_21 : decode cX3_onward 21 = .ok (.iconst 3, 1) := by decide +kernel
theorem dX3_onward_22 : decode cX3_onward 22 = .ok (.iand, 1) := by decide +kernel
theorem dX3_onward_23 : decode cX3_onward 23 = .ok (.laload, 1) := by decide +kernel
theorem dX3_onward_24 : decode cX3_onward 24 = .ok (.lreturn, 1) := by decide +kernel
theorem dX3_backward_0 : decode cX3_backward 0 = .ok (.iload_n 1, 1) := by decide +kernel
theorem dX3_backward_1 : decode cX3_backward 1 = .ok (.iconst 4, 1) := by decide +kernel
theorem dX3_backward_2 : decode cX3_backward 2 = .ok (.if_icmp .ne 10, 3) := by decide +kernel
theorem dX3_backward_5 : decode cX3_backward 5 = .ok (.aload_n 0, 1) := by decide +kernel
theorem dX3_backward_6 : decode cX3_backward 6 = .ok (.getfield 45, 3) := by decide +kernel
theorem dX3_backward_9 : decode cX3_backward 9 = .ok (.goto 16, 3) := by decide +kernel
theorem dX3_backward_12 : decode cX3_backward 12 = .ok (.aload_n 0, 1) := by decide +kernel
theorem dX3_backward_13 : decode cX3_backward 13 = .ok (.getfield 15, 3) := by decide +kernel
theorem dX3_backward_16 : decode cX3_backward 16 = .ok (.iload_n 1, 1) := by decide +kernel
theorem dX3_backward_17 : decode cX3_backward 17 = .ok (.iconst 3, 1) := by decide +kernel
theorem dX3_backward_18 : decode cX3_backward 18 = .ok (.iand, 1) := by decide +kernel
theorem dX3_backward_19 : decode cX3_backward 19 = .ok (.laload, 1) := by decide +kernel
theorem dX3_backward_20 : decode cX3_backward 20 = .ok (.aload_n 0, 1) := by decide +kernel
theorem dX3_backward_21 : decode cX3_backward 21 = .ok (.getfield 42, 3) := by decide +kernel
theorem dX3_backward_24 : decode cX3_backward 24 = .ok (.land, 1) := by decide +kernel
theorem dX3_backward_25 : decode cX3_backward 25 = .ok (.lreturn, 1) := by decide +kernel
theorem dX4_init_0 : decode cX4_init 0 = .ok (.aload_n 0, 1) := by decide +kernel
theorem dX4_init_1 : decode cX4_init 1 = .ok (.invokespecial 3, 3) := by decide +kernel
theorem dX4_init_4 : decode cX4_init 4 = .ok (.aload_n 0, 1) := by decide +kernel
theorem dX4_init_5 : decode cX4_init 5 = .ok (.sipush 720, 3) := by decide +kernel
theorem dX4_init_8 : decode cX4_init 8 = .ok (.newarray .long, 2) := by decide +kernel
theorem dX4_init_10 : decode cX4_init 10 = .ok (.putfield 11, 3) := by decide +kernel
theorem dX4_init_13 : decode cX4_init 13 = .ok (.aload_n 0, 1) := by decide +kernel
theorem dX4_init_14 : decode cX4_init 14 = .ok (.sipush 720, 3) := by decide +kernel
theorem dX4_init_17 : decode cX4_init 17 = .ok (.newarray .long, 2) := by decide +kernel
theorem dX4_init_19 : decode cX4_init 19 = .ok (.putfield 15, 3) := by decide +kernel
theorem dX4_init_22 : decode cX4_init 22 = .ok (.aload_n 0, 1) := by decide +kernel
theorem dX4_init_23 : decode cX4_init 23 = .ok (.new 18, 3) := by decide +kernel
theorem dX4_init_26 : decode cX4_init 26 = .ok (.dup, 1) := by decide +kernel
theorem dX4_init_27 : decode cX4_init 27 = .ok (.aload_n 1, 1) := by decide +kernel
theorem dX4_init_28 : decode cX4_init 28 = .ok (.invokespecial 20, 3) := by decide +kernel
theorem dX4_init_31 : decode cX4_init 31 = .ok (.putfield 23, 3) := by decide +kernel
theorem dX4_init_34 : decode cX4_init 34 = .ok (.return_, 1) := by decide +kernel
theorem dX4_alone_0 : decode cX4_alone 0 = .ok (.aload_n 0, 1) := by decide +kernel
theorem dX4_alone_1 : decode cX4_alone 1 = .ok (.getfield 23, 3) := by decide +kernel
theorem dX4_alone_4 : decode cX4_alone 4 = .ok (.aload_n 1, 1) := by decide +kernel
theorem dX4_alone_5 : decode cX4_alone 5 = .ok (.aload_n 2, 1) := by decide +kernel
theorem dX4_alone_6 : decode cX4_alone 6 = .ok (.getfield 27, 3) := by decide +kernel
theorem dX4_alone_9 : decode cX4_alone 9 = .ok (.aload_n 2, 1) := by decide +kernel
theorem dX4_alone_10 : decode cX4_alone 10 = .ok (.getfield 33, 3) := by decide +kernel
theorem dX4_alone_13 : decode cX4_alone 13 = .ok (.aload_n 2, 1) := by decide +kernel
theorem dX4_alone_14 : decode cX4_alone 14 = .ok (.getfield 36, 3) := by decide +kernel
theorem dX4_alone_17 : decode cX4_alone 17 = .ok (.aload_n 2, 1) := by decide +kernel
theorem dX4_alone_18 : decode cX4_alone 18 = .ok (.getfield 39, 3) := by decide +kernel
theorem dX4_alone_21 : decode cX4_alone 21 = .ok (.invokevirtual 42, 3) := by decide +kernel
theorem dX4_alone_24 : decode cX4_alone 24 = .ok (.aload_n 0, 1) := by decide +kernel
theorem dX4_alone_25 : decode cX4_alone 25 = .ok (.getfield 11, 3) := by decide +kernel
theorem dX4_alone_28 : decode cX4_alone 28 = .ok (.lconst 0, 1) := by decide +kernel
theorem dX4_alone_29 : decode cX4_alone 29 = .ok (.invokestatic 46, 3) := by decide +kernel
theorem dX4_alone_32 : decode cX4_alone 32 = .ok (.aload_n 0, 1) := by decide +kernel
theorem dX4_alone_33 : decode cX4_alone 33 = .ok (.getfield 11, 3) := by decide +kernel
theorem dX4_alone_36 : decode cX4_alone 36 = .ok (.aload_n 2, 1) := by decide +kernel
theorem dX4_alone_37 : decode cX4_alone 37 = .ok (.getfield 52, 3) := by decide +kernel
theorem dX4_alone_40 : decode cX4_alone 40 = .ok (.aload_n 2, 1) := by decide +kernel
theorem dX4_alone_41 : decode cX4_alone 41 = .ok (.getfield 55, 3) := by decide +kernel
theorem dX4_alone_44 : decode cX4_alone 44 = .ok (.aload_n 2, 1) := by decide +kernel
theorem dX4_alone_45 : decode cX4_alone 45 = .ok (.getfield 58, 3) := by decide +kernel
theorem dX4_alone_48 : decode cX4_alone 48 = .ok (.lconst 1, 1) := by decide +kernel
theorem dX4_alone_49 : decode cX4_alone 49 = .ok (.invokestatic 61, 3) := by decide +kernel
theorem dX4_alone_52 : decode cX4_alone 52 = .ok (.return_, 1) := by decide +kernel
theorem dX4_advance_0 : decode cX4_advance 0 = .ok (.aload_n 0, 1) := by decide +kernel
theorem dX4_advance_1 : decode cX4_advance 1 = .ok (.getfield 15, 3) := by decide +kernel
theorem dX4_advance_4 : decode cX4_advance 4 = .ok (.lconst 0, 1) := by decide +kernel
theorem dX4_advance_5 : decode cX4_advance 5 = .ok (.invokestatic 46, 3) := by decide +kernel
theorem dX4_advance_8 : decode cX4_advance 8 = .ok (.iconst 0, 1) := by decide +kernel
theorem dX4_advance_9 : decode cX4_advance 9 = .ok (.istore_n 1, 1) := by decide +kernel
theorem dX4_advance_10 : decode cX4_advance 10 = .ok (.iload_n 1, 1) := by decide +kernel
theorem dX4_advance_11 : decode cX4_advance 11 = .ok (.sipush 720, 3) := by decide +kernel
theorem dX4_advance_14 : decode cX4_advance 14 = .ok (.if_icmp .ge 42, 3) := by decide +kernel
theorem dX4_advance_17 : decode cX4_advance 17 = .ok (.aload_n 0, 1) := by decide +kernel
theorem dX4_advance_18 : decode cX4_advance 18 = .ok (.getfield 11, 3) := by decide +kernel
theorem dX4_advance_21 : decode cX4_advance 21 = .ok (.iload_n 1, 1) := by decide +kernel
theorem dX4_advance_22 : decode cX4_advance 22 = .ok (.laload, 1) := by decide +kernel
theorem dX4_advance_23 : decode cX4_advance 23 = .ok (.lconst 0, 1) := by decide +kernel
theorem dX4_advance_24 : decode cX4_advance 24 = .ok (.lcmp, 1) := by decide +kernel
theorem dX4_advance_25 : decode cX4_advance 25 = .ok (.ifCond .eq 25, 3) := by decide +kernel
theorem dX4_advance_28 : decode cX4_advance 28 = .ok (.aload_n 0, 1) := by decide +kernel
theorem dX4_advance_29 : decode cX4_advance 29 = .ok (.aload_n 0, 1) := by decide +kernel
theorem dX4_advance_30 : decode cX4_advance 30 = .ok (.getfield 11, 3) := by decide +kernel
theorem dX4_advance_33 : decode cX4_advance 33 = .ok (.iload_n 1, 1) := by decide +kernel
theorem dX4_advance_34 : decode cX4_advance 34 = .ok (.laload, 1) := by decide +kernel
theorem dX4_advance_35 : decode cX4_advance 35 = .ok (.iload_n 1, 1) := by decide +kernel
theorem dX4_advance_36 : decode cX4_advance 36 = .ok (.bipush 20, 2) := by decide +kernel
theorem dX4_advance_38 : decode cX4_advance 38 = .ok (.idiv, 1) := by decide +kernel
theorem dX4_advance_39 : decode cX4_advance 39 = .ok (.iload_n 1, 1) := by decide +kernel
theorem dX4_advance_40 : decode cX4_advance 40 = .ok (.iconst 5, 1) := by decide +kernel
theorem dX4_advance_41 : decode cX4_advance 41 = .ok (.idiv, 1) := by decide +kernel
theorem dX4_advance_42 : decode cX4_advance 42 = .ok (.iconst 4, 1) := by decide +kernel
theorem dX4_advance_43 : decode cX4_advance 43 = .ok (.irem, 1) := by decide +kernel
theorem dX4_advance_44 : decode cX4_advance 44 = .ok (.iload_n 1, 1) := by decide +kernel
theorem dX4_advance_45 : decode cX4_advance 45 = .ok (.iconst 5, 1) := by decide +kernel
theorem dX4_advance_46 : decode cX4_advance 46 = .ok (.irem, 1) := by decide +kernel
theorem dX4_advance_47 : decode cX4_advance 47 = .ok (.invokevirtual 65, 3) := by decide +kernel
theorem dX4_advance_50 : decode cX4_advance 50 = .ok (.iinc 1 1, 3) := by decide +kernel
theorem dX4_advance_53 : decode cX4_advance 53 = .ok (.goto (-43), 3) := by decide +kernel
theorem dX4_advance_56 : decode cX4_advance 56 = .ok (.aload_n 0, 1) := by decide +kernel
theorem dX4_advance_57 : decode cX4_advance 57 = .ok (.getfield 11, 3) := by decide +kernel
theorem dX4_advance_60 : decode cX4_advance 60 = .ok (.astore_n 1, 1) := by decide +kernel
theorem dX4_advance_61 : decode cX4_advance 61 = .ok (.aload_n 0, 1) := by decide +kernel
theorem dX4_advance_62 : decode cX4_advance 62 = .ok (.aload_n 0, 1) := by decide +kernel
theorem dX4_advance_63 : decode cX4_advance 63 = .ok (.getfield 15, 3) := by decide +kernel
theorem dX4_advance_66 : decode cX4_advance 66 = .ok (.putfield 11, 3) := by decide +kernel
theorem dX4_advance_69 : decode cX4_advance 69 = .ok (.aload_n 0, 1) := by decide +kernel
theorem dX4_advance_70 : decode cX4_advance 70 = .ok (.aload_n 1, 1) := by decide +kernel
theorem dX4_advance_71 : decode cX4_advance 71 = .ok (.putfield 15, 3) := by decide +kernel
theorem dX4_advance_74 : decode cX4_advance 74 = .ok (.aload_n 0, 1) := by decide +kernel
theorem dX4_advance_75 : decode cX4_advance 75 = .ok (.getfield 23, 3) := by decide +kernel
theorem dX4_advance_78 : decode cX4_advance 78 = .ok (.invokevirtual 69, 3) := by decide +kernel
theorem dX4_advance_81 : decode cX4_advance 81 = .ok (.return_, 1) := by decide +kernel
theorem dX4_part_0 : decode cX4_part 0 = .ok (.aload_n 0, 1) := by decide +kernel
theorem dX4_part_1 : decode cX4_part 1 = .ok (.getfield 23, 3) := by decide +kernel
theorem dX4_part_4 : decode cX4_part 4 = .ok (.iload_n 3, 1) := by decide +kernel
theorem dX4_part_5 : decode cX4_part 5 = .ok (.iload 4, 2) := by decide +kernel
theorem dX4_part_7 : decode cX4_part 7 = .ok (.iload 5, 2) := by decide +kernel
theorem dX4_part_9 : decode cX4_part 9 = .ok (.invokevirtual 72, 3) := by decide +kernel
theorem dX4_part_12 : decode cX4_part 12 = .ok (.istore 6, 2) := by decide +kernel
theorem dX4_part_14 : decode cX4_part 14 = .ok (.iload 6, 2) := by decide +kernel
theorem dX4_part_16 : decode cX4_part 16 = .ok (.invokestatic 76, 3) := by decide +kernel
theorem dX4_part_19 : decode cX4_part 19 = .ok (.istore 7, 2) := by decide +kernel
theorem dX4_part_21 : decode cX4_part 21 = .ok (.iload 7, 2) := by decide +kernel
theorem dX4_part_23 : decode cX4_part 23 = .ok (.ifCond .le 14, 3) := by decide +kernel
theorem dX4_part_26 : decode cX4_part 26 = .ok (.lload_n 1, 1) := by decide +kernel
theorem dX4_part_27 : decode cX4_part 27 = .ok (.bipush 12, 2) := by decide +kernel
theorem dX4_part_29 : decode cX4_part 29 = .ok (.iload 7, 2) := by decide +kernel
theorem dX4_part_31 : decode cX4_part 31 = .ok (.idiv, 1) := by decide +kernel
theorem dX4_part_32 : decode cX4_part 32 = .ok (.i2l, 1) := by decide +kernel
theorem dX4_part_33 : decode cX4_part 33 = .ok (.lmul, 1) := by decide +kernel
theorem dX4_part_34 : decode cX4_part 34 = .ok (.goto 4, 3) := by decide +kernel
theorem dX4_part_37 : decode cX4_part 37 = .ok (.lconst 0, 1) := by decide +kernel
theorem dX4_part_38 : decode cX4_part 38 = .ok (.lstore 8, 2) := by decide +kernel
theorem dX4_part_40 : decode cX4_part 40 = .ok (.iconst 0, 1) := by decide +kernel
theorem dX4_part_41 : decode cX4_part 41 = .ok (.istore 10, 2) := by decide +kernel
theorem dX4_part_43 : decode cX4_part 43 = .ok (.iload 10, 2) := by decide +kernel
theorem dX4_part_45 : decode cX4_part 45 = .ok (.bipush 6, 2) := by decide +kernel
theorem dX4_part_47 : decode cX4_part 47 = .ok (.if_icmp .ge 65, 3) := by decide +kernel
theorem dX4_part_50 : decode cX4_part 50 = .ok (.iload 6, 2) := by decide +kernel
theorem dX4_part_52 : decode cX4_part 52 = .ok (.iload 10, 2) := by decide +kernel
theorem dX4_part_54 : decode cX4_part 54 = .ok (.ishr, 1) := by decide +kernel
theorem dX4_part_55 : decode cX4_part 55 = .ok (.iconst 1, 1) := by decide +kernel
theorem dX4_part_56 : decode cX4_part 56 = .ok (.iand, 1) := by decide +kernel
theorem dX4_part_57 : decode cX4_part 57 = .ok (.ifCond .eq 49, 3) := by decide +kernel
theorem dX4_part_60 : decode cX4_part 60 = .ok (.aload_n 0, 1) := by decide +kernel
theorem dX4_part_61 : decode cX4_part 61 = .ok (.getfield 23, 3) := by decide +kernel
theorem dX4_part_64 : decode cX4_part 64 = .ok (.iload 10, 2) := by decide +kernel
theorem dX4_part_66 : decode cX4_part 66 = .ok (.iload 4, 2) := by decide +kernel
theorem dX4_part_68 : decode cX4_part 68 = .ok (.iload 5, 2) := by decide +kernel
theorem dX4_part_70 : decode cX4_part 70 = .ok (.invokevirtual 82, 3) := by decide +kernel
theorem dX4_part_73 : decode cX4_part 73 = .ok (.istore 11, 2) := by decide +kernel
theorem dX4_part_75 : decode cX4_part 75 = .ok (.aload_n 0, 1) := by decide +kernel
theorem dX4_part_76 : decode cX4_part 76 = .ok (.getfield 15, 3) := by decide +kernel
theorem dX4_part_79 : decode cX4_part 79 = .ok (.iload_n 3, 1) := by decide +kernel
theorem dX4_part_80 : decode cX4_part 80 = .ok (.iload 11, 2) := by decide +kernel
theorem dX4_part_82 : decode cX4_part 82 = .ok (.invokestatic 85, 3) := by decide +kernel
theorem dX4_part_85 : decode cX4_part 85 = .ok (.iload 10, 2) := by decide +kernel
theorem dX4_part_87 : decode cX4_part 87 = .ok (.iload 4, 2) := by decide +kernel
theorem dX4_part_89 : decode cX4_part 89 = .ok (.invokestatic 89, 3) := by decide +kernel
theorem dX4_part_92 : decode cX4_part 92 = .ok (.iload 10, 2) := by decide +kernel
theorem dX4_part_94 : decode cX4_part 94 = .ok (.iload 11, 2) := by decide +kernel
theorem dX4_part_96 : decode cX4_part 96 = .ok (.iload 5, 2) := by decide +kernel
theorem dX4_part_98 : decode cX4_part 98 = .ok (.invokestatic 92, 3) := by decide +kernel
theorem dX4_part_101 : decode cX4_part 101 = .ok (.lload 8, 2) := by decide +kernel
theorem dX4_part_103 : decode cX4_part 103 = .ok (.invokestatic 61, 3) := by decide +kernel
theorem dX4_part_106 : decode cX4_part 106 = .ok (.iinc 10 1, 3) := by decide +kernel
theorem dX4_part_109 : decode cX4_part 109 = .ok (.goto (-66), 3) := by decide +kernel
theorem dX4_part_112 : decode cX4_part 112 = .ok (.return_, 1) := by decide +kernel
theorem dX4_join_0 : decode cX4_join 0 = .ok (.iload_n 1, 1) := by decide +kernel
theorem dX4_join_1 : decode cX4_join 1 = .ok (.iconst 4, 1) := by decide +kernel
theorem dX4_join_2 : decode cX4_join 2 = .ok (.imul, 1) := by decide +kernel
theorem dX4_join_3 : decode cX4_join 3 = .ok (.iload_n 2, 1) := by decide +kernel
theorem dX4_join_4 : decode cX4_join 4 = .ok (.iadd, 1) := by decide +kernel
theorem dX4_join_5 : decode cX4_join 5 = .ok (.iconst 5, 1) := by decide +kernel
theorem dX4_join_6 : decode cX4_join 6 = .ok (.imul, 1) := by decide +kernel
theorem dX4_join_7 : decode cX4_join 7 = .ok (.iload_n 3, 1) := by decide +kernel
theorem dX4_join_8 : decode cX4_join 8 = .ok (.iadd, 1) := by decide +kernel
theorem dX4_join_9 : decode cX4_join 9 = .ok (.istore 6, 2) := by decide +kernel
theorem dX4_join_11 : decode cX4_join 11 = .ok (.iload 6, 2) := by decide +kernel
theorem dX4_join_13 : decode cX4_join 13 = .ok (.ifCond .lt 19, 3) := by decide +kernel
theorem dX4_join_16 : decode cX4_join 16 = .ok (.iload 6, 2) := by decide +kernel
theorem dX4_join_18 : decode cX4_join 18 = .ok (.aload_n 0, 1) := by decide +kernel
theorem dX4_join_19 : decode cX4_join 19 = .ok (.arraylength, 1) := by decide +kernel
theorem dX4_join_20 : decode cX4_join 20 = .ok (.if_icmp .ge 12, 3) := by decide +kernel
theorem dX4_join_23 : decode cX4_join 23 = .ok (.aload_n 0, 1) := by decide +kernel
theorem dX4_join_24 : decode cX4_join 24 = .ok (.iload 6, 2) := by decide +kernel
theorem dX4_join_26 : decode cX4_join 26 = .ok (.dup2, 1) := by decide +kernel
theorem dX4_join_27 : decode cX4_join 27 = .ok (.laload, 1) := by decide +kernel
theorem dX4_join_28 : decode cX4_join 28 = .ok (.lload 4, 2) := by decide +kernel
theorem dX4_join_30 : decode cX4_join 30 = .ok (.ladd, 1) := by decide +kernel
theorem dX4_join_31 : decode cX4_join 31 = .ok (.lastore, 1) := by decide +kernel
theorem dX4_join_32 : decode cX4_join 32 = .ok (.return_, 1) := by decide +kernel
theorem dX4_shares_0 : decode cX4_shares 0 = .ok (.lconst 0, 1) := by decide +kernel
theorem dX4_shares_1 : decode cX4_shares 1 = .ok (.lstore_n 2, 1) := by decide +kernel
theorem dX4_shares_2 : decode cX4_shares 2 = .ok (.iconst 0, 1) := by decide +kernel
theorem dX4_shares_3 : decode cX4_shares 3 = .ok (.istore 4, 2) := by decide +kernel
theorem dX4_shares_5 : decode cX4_shares 5 = .ok (.iload 4, 2) := by decide +kernel
theorem dX4_shares_7 : decode cX4_shares 7 = .ok (.sipush 720, 3) := by decide +kernel
theorem dX4_shares_10 : decode cX4_shares 10 = .ok (.if_icmp .ge 32, 3) := by decide +kernel
theorem dX4_shares_13 : decode cX4_shares 13 = .ok (.lload_n 2, 1) := by decide +kernel
theorem dX4_shares_14 : decode cX4_shares 14 = .ok (.iload 4, 2) := by decide +kernel
theorem dX4_shares_16 : decode cX4_shares 16 = .ok (.bipush 20, 2) := by decide +kernel
theorem dX4_shares_18 : decode cX4_shares 18 = .ok (.idiv, 1) := by decide +kernel
theorem dX4_shares_19 : decode cX4_shares 19 = .ok (.iload_n 1, 1) := by decide +kernel
theorem dX4_shares_20 : decode cX4_shares 20 = .ok (.if_icmp .ne 13, 3) := by decide +kernel
theorem dX4_shares_23 : decode cX4_shares 23 = .ok (.aload_n 0, 1) := by decide +kernel
theorem dX4_shares_24 : decode cX4_shares 24 = .ok (.getfield 11, 3) := by decide +kernel
theorem dX4_shares_27 : decode cX4_shares 27 = .ok (.iload 4, 2) := by decide +kernel
theorem dX4_shares_29 : decode cX4_shares 29 = .ok (.laload, 1) := by decide +kernel
theorem dX4_shares_30 : decode cX4_shares 30 = .ok (.goto 4, 3) := by decide +kernel
theorem dX4_shares_33 : decode cX4_shares 33 = .ok (.lconst 0, 1) := by decide +kernel
theorem dX4_shares_34 : decode cX4_shares 34 = .ok (.ladd, 1) := by decide +kernel
theorem dX4_shares_35 : decode cX4_shares 35 = .ok (.lstore_n 2, 1) := by decide +kernel
theorem dX4_shares_36 : decode cX4_shares 36 = .ok (.iinc 4 1, 3) := by decide +kernel
theorem dX4_shares_39 : decode cX4_shares 39 = .ok (.goto (-34), 3) := by decide +kernel
theorem dX4_shares_42 : decode cX4_shares 42 = .ok (.lload_n 2, 1) := by decide +kernel
theorem dX4_shares_43 : decode cX4_shares 43 = .ok (.lreturn, 1) := by decide +kernel
theorem dX5_init_0 : decode cX5_init 0 = .ok (.aload_n 0, 1) := by decide +kernel
theorem dX5_init_1 : decode cX5_init 1 = .ok (.invokespecial 3, 3) := by decide +kernel
theorem dX5_init_4 : decode cX5_init 4 = .ok (.aload_n 0, 1) := by decide +kernel
theorem dX5_init_5 : decode cX5_init 5 = .ok (.bipush 6, 2) := by decide +kernel
theorem dX5_init_7 : decode cX5_init 7 = .ok (.anewarray 9, 3) := by decide +kernel
theorem dX5_init_10 : decode cX5_init 10 = .ok (.putfield 11, 3) := by decide +kernel
theorem dX5_init_13 : decode cX5_init 13 = .ok (.aload_n 0, 1) := by decide +kernel
theorem dX5_init_14 : decode cX5_init 14 = .ok (.new 17, 3) := by decide +kernel
theorem dX5_init_17 : decode cX5_init 17 = .ok (.dup, 1) := by decide +kernel
theorem dX5_init_18 : decode cX5_init 18 = .ok (.invokespecial 19, 3) := by decide +kernel
theorem dX5_init_21 : decode cX5_init 21 = .ok (.putfield 20, 3) := by decide +kernel
theorem dX5_init_24 : decode cX5_init 24 = .ok (.aload_n 0, 1) := by decide +kernel
theorem dX5_init_25 : decode cX5_init 25 = .ok (.new 17, 3) := by decide +kernel
theorem dX5_init_28 : decode cX5_init 28 = .ok (.dup, 1) := by decide +kernel
theorem dX5_init_29 : decode cX5_init 29 = .ok (.invokespecial 19, 3) := by decide +kernel
theorem dX5_init_32 : decode cX5_init 32 = .ok (.putfield 24, 3) := by decide +kernel
theorem dX5_init_35 : decode cX5_init 35 = .ok (.aload_n 0, 1) := by decide +kernel
theorem dX5_init_36 : decode cX5_init 36 = .ok (.aload_n 1, 1) := by decide +kernel
theorem dX5_init_37 : decode cX5_init 37 = .ok (.putfield 27, 3) := by decide +kernel
theorem dX5_init_40 : decode cX5_init 40 = .ok (.iconst 0, 1) := by decide +kernel
theorem dX5_init_41 : decode cX5_init 41 = .ok (.istore_n 2, 1) := by decide +kernel
theorem dX5_init_42 : decode cX5_init 42 = .ok (.iload_n 2, 1) := by decide +kernel
theorem dX5_init_43 : decode cX5_init 43 = .ok (.bipush 6, 2) := by decide +kernel
theorem dX5_init_45 : decode cX5_init 45 = .ok (.if_icmp .ge 22, 3) := by decide +kernel
theorem dX5_init_48 : decode cX5_init 48 = .ok (.aload_n 0, 1) := by decide +kernel
theorem dX5_init_49 : decode cX5_init 49 = .ok (.getfield 11, 3) := by decide +kernel
theorem dX5_init_52 : decode cX5_init 52 = .ok (.iload_n 2, 1) := by decide +kernel
theorem dX5_init_53 : decode cX5_init 53 = .ok (.new 9, 3) := by decide +kernel
theorem dX5_init_56 : decode cX5_init 56 = .ok (.dup, 1) := by decide +kernel
theorem dX5_init_57 : decode cX5_init 57 = .ok (.invokespecial 31, 3) := by decide +kernel
theorem dX5_init_60 : decode cX5_init 60 = .ok (.aastore, 1) := by decide +kernel
theorem dX5_init_61 : decode cX5_init 61 = .ok (.iinc 2 1, 3) := by decide +kernel
theorem dX5_init_64 : decode cX5_init 64 = .ok (.goto (-22), 3) := by decide +kernel
theorem dX5_init_67 : decode cX5_init 67 = .ok (.return_, 1) := by decide +kernel
theorem dX5_who_0 : decode cX5_who 0 = .ok (.iload_n 1, 1) := by decide +kernel
theorem dX5_who_1 : decode cX5_who 1 = .ok (.ifCond .lt 26, 3) := by decide +kernel
theorem dX5_who_4 : decode cX5_who 4 = .ok (.iload_n 1, 1) := by decide +kernel
theorem dX5_who_5 : decode cX5_who 5 = .ok (.aload_n 0, 1) := by decide +kernel
theorem dX5_who_6 : decode cX5_who 6 = .ok (.getfield 32, 3) := by decide +kernel
theorem dX5_who_9 : decode cX5_who 9 = .ok (.if_icmp .ge 18, 3) := by decide +kernel
theorem dX5_who_12 : decode cX5_who 12 = .ok (.iload_n 1, 1) := by decide +kernel
theorem dX5_who_13 : decode cX5_who 13 = .ok (.bipush 6, 2) := by decide +kernel
theorem dX5_who_15 : decode cX5_who 15 = .ok (.if_icmp .ge 12, 3) := by decide +kernel
theorem dX5_who_18 : decode cX5_who 18 = .ok (.aload_n 0, 1) := by decide +kernel
theorem dX5_who_19 : decode cX5_who 19 = .ok (.getfield 11, 3) := by decide +kernel
theorem dX5_who_22 : decode cX5_who 22 = .ok (.iload_n 1, 1) := by decide +kernel
theorem dX5_who_23 : decode cX5_who 23 = .ok (.aaload, 1) := by decide +kernel
theorem dX5_who_24 : decode cX5_who 24 = .ok (.goto 4, 3) := by decide +kernel
theorem dX5_who_27 : decode cX5_who 27 = .ok (.aconst_null, 1) := by decide +kernel
theorem dX5_who_28 : decode cX5_who 28 = .ok (.areturn, 1) := by decide +kernel
theorem dX5_added_0 : decode cX5_added 0 = .ok (.aload_n 0, 1) := by decide +kernel
theorem dX5_added_1 : decode cX5_added 1 = .ok (.getfield 32, 3) := by decide +kernel
theorem dX5_added_4 : decode cX5_added 4 = .ok (.bipush 6, 2) := by decide +kernel
theorem dX5_added_6 : decode cX5_added 6 = .ok (.if_icmp .ge 24, 3) := by decide +kernel
theorem dX5_added_9 : decode cX5_added 9 = .ok (.aload_n 0, 1) := by decide +kernel
theorem dX5_added_10 : decode cX5_added 10 = .ok (.dup, 1) := by decide +kernel
theorem dX5_added_11 : decode cX5_added 11 = .ok (.getfield 32, 3) := by decide +kernel
theorem dX5_added_14 : decode cX5_added 14 = .ok (.iconst 1, 1) := by decide +kernel
theorem dX5_added_15 : decode cX5_added 15 = .ok (.iadd, 1) := by decide +kernel
theorem dX5_added_16 : decode cX5_added 16 = .ok (.putfield 32, 3) := by decide +kernel
theorem dX5_added_19 : decode cX5_added 19 = .ok (.aload_n 0, 1) := by decide +kernel
theorem dX5_added_20 : decode cX5_added 20 = .ok (.aload_n 0, 1) := by decide +kernel
theorem dX5_added_21 : decode cX5_added 21 = .ok (.getfield 32, 3) := by decide +kernel
theorem dX5_added_24 : decode cX5_added 24 = .ok (.iconst 1, 1) := by decide +kernel
theorem dX5_added_25 : decode cX5_added 25 = .ok (.isub, 1) := by decide +kernel
theorem dX5_added_26 : decode cX5_added 26 = .ok (.invokevirtual 36, 3) := by decide +kernel
theorem dX5_added_29 : decode cX5_added 29 = .ok (.areturn, 1) := by decide +kernel
theorem dX5_added_30 : decode cX5_added 30 = .ok (.aconst_null, 1) := by decide +kernel
theorem dX5_added_31 : decode cX5_added 31 = .ok (.areturn, 1) := by decide +kernel
theorem dX5_become_0 : decode cX5_become 0 = .ok (.aload_n 0, 1) := by decide +kernel
theorem dX5_become_1 : decode cX5_become 1 = .ok (.aload_n 1, 1) := by decide +kernel
theorem dX5_become_2 : decode cX5_become 2 = .ok (.getfield 32, 3) := by decide +kernel
theorem dX5_become_5 : decode cX5_become 5 = .ok (.putfield 32, 3) := by decide +kernel
theorem dX5_become_8 : decode cX5_become 8 = .ok (.aload_n 0, 1) := by decide +kernel
theorem dX5_become_9 : decode cX5_become 9 = .ok (.aload_n 1, 1) := by decide +kernel
theorem dX5_become_10 : decode cX5_become 10 = .ok (.getfield 27, 3) := by decide +kernel
theorem dX5_become_13 : decode cX5_become 13 = .ok (.putfield 27, 3) := by decide +kernel
theorem dX5_become_16 : decode cX5_become 16 = .ok (.aload_n 0, 1) := by decide +kernel
theorem dX5_become_17 : decode cX5_become 17 = .ok (.getfield 20, 3) := by decide +kernel
theorem dX5_become_20 : decode cX5_become 20 = .ok (.aload_n 1, 1) := by decide +kernel
theorem dX5_become_21 : decode cX5_become 21 = .ok (.getfield 20, 3) := by decide +kernel
theorem dX5_become_24 : decode cX5_become 24 = .ok (.invokevirtual 40, 3) := by decide +kernel
theorem dX5_become_27 : decode cX5_become 27 = .ok (.aload_n 0, 1) := by decide +kernel
theorem dX5_become_28 : decode cX5_become 28 = .ok (.getfield 24, 3) := by decide +kernel
theorem dX5_become_31 : decode cX5_become 31 = .ok (.aload_n 1, 1) := by decide +kernel
theorem dX5_become_32 : decode cX5_become 32 = .ok (.getfield 24, 3) := by decide +kernel
theorem dX5_become_35 : decode cX5_become 35 = .ok (.invokevirtual 40, 3) := by decide +kernel
theorem dX5_become_38 : decode cX5_become 38 = .ok (.iconst 0, 1) := by decide +kernel
theorem dX5_become_39 : decode cX5_become 39 = .ok (.istore_n 2, 1) := by decide +kernel
theorem dX5_become_40 : decode cX5_become 40 = .ok (.iload_n 2, 1) := by decide +kernel
theorem dX5_become_41 : decode cX5_become 41 = .ok (.bipush 6, 2) := by decide +kernel
theorem dX5_become_43 : decode cX5_become 43 = .ok (.if_icmp .ge 24, 3) := by decide +kernel
theorem dX5_become_46 : decode cX5_become 46 = .ok (.aload_n 0, 1) := by decide +kernel
theorem dX5_become_47 : decode cX5_become 47 = .ok (.getfield 11, 3) := by decide +kernel
theorem dX5_become_50 : decode cX5_become 50 = .ok (.iload_n 2, 1) := by decide +kernel
theorem dX5_become_51 : decode cX5_become 51 = .ok (.aaload, 1) := by decide +kernel
theorem dX5_become_52 : decode cX5_become 52 = .ok (.aload_n 1, 1) := by decide +kernel
theorem dX5_become_53 : decode cX5_become 53 = .ok (.getfield 11, 3) := by decide +kernel
theorem dX5_become_56 : decode cX5_become 56 = .ok (.iload_n 2, 1) := by decide +kernel
theorem dX5_become_57 : decode cX5_become 57 = .ok (.aaload, 1) := by decide +kernel
theorem dX5_become_58 : decode cX5_become 58 = .ok (.invokevirtual 44, 3) := by decide +kernel
theorem dX5_become_61 : decode cX5_become 61 = .ok (.iinc 2 1, 3) := by decide +kernel
theorem dX5_become_64 : decode cX5_become 64 = .ok (.goto (-24), 3) := by decide +kernel
theorem dX5_become_67 : decode cX5_become 67 = .ok (.return_, 1) := by decide +kernel
theorem dX6_init_0 : decode cX6_init 0 = .ok (.aload_n 0, 1) := by decide +kernel
theorem dX6_init_1 : decode cX6_init 1 = .ok (.invokespecial 3, 3) := by decide +kernel
theorem dX6_init_4 : decode cX6_init 4 = .ok (.aload_n 0, 1) := by decide +kernel
theorem dX6_init_5 : decode cX6_init 5 = .ok (.bipush 60, 2) := by decide +kernel
theorem dX6_init_7 : decode cX6_init 7 = .ok (.newarray .long, 2) := by decide +kernel
theorem dX6_init_9 : decode cX6_init 9 = .ok (.putfield 9, 3) := by decide +kernel
theorem dX6_init_12 : decode cX6_init 12 = .ok (.aload_n 0, 1) := by decide +kernel
theorem dX6_init_13 : decode cX6_init 13 = .ok (.iconst (-1), 1) := by decide +kernel
theorem dX6_init_14 : decode cX6_init 14 = .ok (.putfield 15, 3) := by decide +kernel
theorem dX6_init_17 : decode cX6_init 17 = .ok (.return_, 1) := by decide +kernel
theorem dX6_become_0 : decode cX6_become 0 = .ok (.aload_n 0, 1) := by decide +kernel
theorem dX6_become_1 : decode cX6_become 1 = .ok (.iload_n 1, 1) := by decide +kernel
theorem dX6_become_2 : decode cX6_become 2 = .ok (.putfield 15, 3) := by decide +kernel
theorem dX6_become_5 : decode cX6_become 5 = .ok (.aload_n 0, 1) := by decide +kernel
theorem dX6_become_6 : decode cX6_become 6 = .ok (.iload_n 2, 1) := by decide +kernel
theorem dX6_become_7 : decode cX6_become 7 = .ok (.putfield 19, 3) := by decide +kernel
theorem dX6_become_10 : decode cX6_become 10 = .ok (.aload_n 0, 1) := by decide +kernel
theorem dX6_become_11 : decode cX6_become 11 = .ok (.getfield 9, 3) := by decide +kernel
theorem dX6_become_14 : decode cX6_become 14 = .ok (.lconst 0, 1) := by decide +kernel
theorem dX6_become_15 : decode cX6_become 15 = .ok (.invokestatic 22, 3) := by decide +kernel
theorem dX6_become_18 : decode cX6_become 18 = .ok (.return_, 1) := by decide +kernel
theorem dX6_has_0 : decode cX6_has 0 = .ok (.lload_n 1, 1) := by decide +kernel
theorem dX6_has_1 : decode cX6_has 1 = .ok (.lconst 0, 1) := by decide +kernel
theorem dX6_has_2 : decode cX6_has 2 = .ok (.lcmp, 1) := by decide +kernel
theorem dX6_has_3 : decode cX6_has 3 = .ok (.ifCond .lt 17, 3) := by decide +kernel
theorem dX6_has_6 : decode cX6_has 6 = .ok (.lload_n 1, 1) := by decide +kernel
theorem dX6_has_7 : decode cX6_has 7 = .ok (.aload_n 0, 1) := by decide +kernel
theorem dX6_has_8 : decode cX6_has 8 = .ok (.getfield 19, 3) := by decide +kernel
theorem dX6_has_11 : decode cX6_has 11 = .ok (.i2l, 1) := by decide +kernel
theorem dX6_has_12 : decode cX6_has 12 = .ok (.lcmp, 1) := by decide +kernel
theorem dX6_has_13 : decode cX6_has 13 = .ok (.ifCond .ge 7, 3) := by decide +kernel
theorem dX6_has_16 : decode cX6_has 16 = .ok (.iconst 1, 1) := by decide +kernel
theorem dX6_has_17 : decode cX6_has 17 = .ok (.goto 4, 3) := by decide +kernel
theorem dX6_has_20 : decode cX6_has 20 = .ok (.iconst 0, 1) := by decide +kernel
theorem dX6_has_21 : decode cX6_has 21 = .ok (.ireturn, 1) := by decide +kernel
theorem dX6_reaches_0 : decode cX6_reaches 0 = .ok (.iload_n 1, 1) := by decide +kernel
theorem dX6_reaches_1 : decode cX6_reaches 1 = .ok (.ifCond .lt 25, 3) := by decide +kernel
theorem dX6_reaches_4 : decode cX6_reaches 4 = .ok (.iload_n 2, 1) := by decide +kernel
theorem dX6_reaches_5 : decode cX6_reaches 5 = .ok (.ifCond .lt 21, 3) := by decide +kernel
theorem dX6_reaches_8 : decode cX6_reaches 8 = .ok (.iload_n 1, 1) := by decide +kernel
theorem dX6_reaches_9 : decode cX6_reaches 9 = .ok (.i2l, 1) := by decide +kernel
theorem dX6_reaches_10 : decode cX6_reaches 10 = .ok (.iload_n 2, 1) := by decide +kernel
theorem dX6_reaches_11 : decode cX6_reaches 11 = .ok (.i2l, 1) := by decide +kernel
theorem dX6_reaches_12 : decode cX6_reaches 12 = .ok (.ladd, 1) := by decide +kernel
theorem dX6_reaches_13 : decode cX6_reaches 13 = .ok (.aload_n 0, 1) := by decide +kernel
theorem dX6_reaches_14 : decode cX6_reaches 14 = .ok (.getfield 19, 3) := by decide +kernel
theorem dX6_reaches_17 : decode cX6_reaches 17 = .ok (.i2l, 1) := by decide +kernel
theorem dX6_reaches_18 : decode cX6_reaches 18 = .ok (.lcmp, 1) := by decide +kernel
theorem dX6_reaches_19 : decode cX6_reaches 19 = .ok (.ifCond .gt 7, 3) := by decide +kernel
theorem dX6_reaches_22 : decode cX6_reaches 22 = .ok (.iconst 1, 1) := by decide +kernel
theorem dX6_reaches_23 : decode cX6_reaches 23 = .ok (.goto 4, 3) := by decide +kernel
theorem dX6_reaches_26 : decode cX6_reaches 26 = .ok (.iconst 0, 1) := by decide +kernel
theorem dX6_reaches_27 : decode cX6_reaches 27 = .ok (.ireturn, 1) := by decide +kernel
theorem dX6_value_0 : decode cX6_value 0 = .ok (.iload_n 1, 1) := by decide +kernel
theorem dX6_value_1 : decode cX6_value 1 = .ok (.ifCond .lt 18, 3) := by decide +kernel
theorem dX6_value_4 : decode cX6_value 4 = .ok (.iload_n 1, 1) := by decide +kernel
theorem dX6_value_5 : decode cX6_value 5 = .ok (.bipush 60, 2) := by decide +kernel
theorem dX6_value_7 : decode cX6_value 7 = .ok (.if_icmp .ge 12, 3) := by decide +kernel
theorem dX6_value_10 : decode cX6_value 10 = .ok (.aload_n 0, 1) := by decide +kernel
theorem dX6_value_11 : decode cX6_value 11 = .ok (.getfield 9, 3) := by decide +kernel
theorem dX6_value_14 : decode cX6_value 14 = .ok (.iload_n 1, 1) := by decide +kernel
theorem dX6_value_15 : decode cX6_value 15 = .ok (.laload, 1) := by decide +kernel
theorem dX6_value_16 : decode cX6_value 16 = .ok (.goto 4, 3) := by decide +kernel
theorem dX6_value_19 : decode cX6_value 19 = .ok (.lconst 0, 1) := by decide +kernel
theorem dX6_value_20 : decode cX6_value 20 = .ok (.lreturn, 1) := by decide +kernel
theorem dX6_write_0 : decode cX6_write 0 = .ok (.iload_n 1, 1) := by decide +kernel
theorem dX6_write_1 : decode cX6_write 1 = .ok (.ifCond .lt 20, 3) := by decide +kernel
theorem dX6_write_4 : decode cX6_write 4 = .ok (.iload_n 1, 1) := by decide +kernel
theorem dX6_write_5 : decode cX6_write 5 = .ok (.bipush 60, 2) := by decide +kernel
theorem dX6_write_7 : decode cX6_write 7 = .ok (.if_icmp .ge 14, 3) := by decide +kernel
theorem dX6_write_10 : decode cX6_write 10 = .ok (.aload_n 0, 1) := by decide +kernel
theorem dX6_write_11 : decode cX6_write 11 = .ok (.getfield 9, 3) := by decide +kernel
theorem dX6_write_14 : decode cX6_write 14 = .ok (.iload_n 1, 1) := by decide +kernel
theorem dX6_write_15 : decode cX6_write 15 = .ok (.aload_n 0, 1) := by decide +kernel
theorem dX6_write_16 : decode cX6_write 16 = .ok (.lload_n 2, 1) := by decide +kernel
theorem dX6_write_17 : decode cX6_write 17 = .ok (.invokevirtual 28, 3) := by decide +kernel
theorem dX6_write_20 : decode cX6_write 20 = .ok (.lastore, 1) := by decide +kernel
theorem dX6_write_21 : decode cX6_write 21 = .ok (.return_, 1) := by decide +kernel
theorem dX6_cut_0 : decode cX6_cut 0 = .ok (.aload_n 0, 1) := by decide +kernel
theorem dX6_cut_1 : decode cX6_cut 1 = .ok (.getfield 15, 3) := by decide +kernel
theorem dX6_cut_4 : decode cX6_cut 4 = .ok (.tableswitch 62 0 4 #[36, 41, 46, 62, 50], 36) := by decide +kernel
theorem dX6_cut_40 : decode cX6_cut 40 = .ok (.lload_n 1, 1) := by decide +kernel
theorem dX6_cut_41 : decode cX6_cut 41 = .ok (.l2i, 1) := by decide +kernel
theorem dX6_cut_42 : decode cX6_cut 42 = .ok (.i2b, 1) := by decide +kernel
theorem dX6_cut_43 : decode cX6_cut 43 = .ok (.i2l, 1) := by decide +kernel
theorem dX6_cut_44 : decode cX6_cut 44 = .ok (.lreturn, 1) := by decide +kernel
theorem dX6_cut_45 : decode cX6_cut 45 = .ok (.lload_n 1, 1) := by decide +kernel
theorem dX6_cut_46 : decode cX6_cut 46 = .ok (.l2i, 1) := by decide +kernel
theorem dX6_cut_47 : decode cX6_cut 47 = .ok (.i2s, 1) := by decide +kernel
theorem dX6_cut_48 : decode cX6_cut 48 = .ok (.i2l, 1) := by decide +kernel
theorem dX6_cut_49 : decode cX6_cut 49 = .ok (.lreturn, 1) := by decide +kernel
theorem dX6_cut_50 : decode cX6_cut 50 = .ok (.lload_n 1, 1) := by decide +kernel
theorem dX6_cut_51 : decode cX6_cut 51 = .ok (.l2i, 1) := by decide +kernel
theorem dX6_cut_52 : decode cX6_cut 52 = .ok (.i2l, 1) := by decide +kernel
theorem dX6_cut_53 : decode cX6_cut 53 = .ok (.lreturn, 1) := by decide +kernel
theorem dX6_cut_54 : decode cX6_cut 54 = .ok (.lload_n 1, 1) := by decide +kernel
theorem dX6_cut_55 : decode cX6_cut 55 = .ok (.lconst 0, 1) := by decide +kernel
theorem dX6_cut_56 : decode cX6_cut 56 = .ok (.lcmp, 1) := by decide +kernel
theorem dX6_cut_57 : decode cX6_cut 57 = .ok (.ifCond .eq 7, 3) := by decide +kernel
theorem dX6_cut_60 : decode cX6_cut 60 = .ok (.lconst 1, 1) := by decide +kernel
theorem dX6_cut_61 : decode cX6_cut 61 = .ok (.goto 4, 3) := by decide +kernel
theorem dX6_cut_64 : decode cX6_cut 64 = .ok (.lconst 0, 1) := by decide +kernel
theorem dX6_cut_65 : decode cX6_cut 65 = .ok (.lreturn, 1) := by decide +kernel
theorem dX6_cut_66 : decode cX6_cut 66 = .ok (.lload_n 1, 1) := by decide +kernel
theorem dX6_cut_67 : decode cX6_cut 67 = .ok (.lreturn, 1) := by decide +kernel
theorem dX7_init_0 : decode cX7_init 0 = .ok (.aload_n 0, 1) := by decide +kernel
theorem dX7_init_1 : decode cX7_init 1 = .ok (.invokespecial 3, 3) := by decide +kernel
theorem dX7_init_4 : decode cX7_init 4 = .ok (.aload_n 0, 1) := by decide +kernel
theorem dX7_init_5 : decode cX7_init 5 = .ok (.bipush 100, 2) := by decide +kernel
theorem dX7_init_7 : decode cX7_init 7 = .ok (.newarray .byte, 2) := by decide +kernel
theorem dX7_init_9 : decode cX7_init 9 = .ok (.putfield 9, 3) := by decide +kernel
theorem dX7_init_12 : decode cX7_init 12 = .ok (.aload_n 0, 1) := by decide +kernel
theorem dX7_init_13 : decode cX7_init 13 = .ok (.iconst 4, 1) := by decide +kernel
theorem dX7_init_14 : decode cX7_init 14 = .ok (.newarray .long, 2) := by decide +kernel
theorem dX7_init_16 : decode cX7_init 16 = .ok (.putfield 15, 3) := by decide +kernel
theorem dX7_init_19 : decode cX7_init 19 = .ok (.return_, 1) := by decide +kernel
theorem dX7_add_0 : decode cX7_add 0 = .ok (.aload_n 0, 1) := by decide +kernel
theorem dX7_add_1 : decode cX7_add 1 = .ok (.getfield 19, 3) := by decide +kernel
theorem dX7_add_4 : decode cX7_add 4 = .ok (.ifCond .lt 12, 3) := by decide +kernel
theorem dX7_add_7 : decode cX7_add 7 = .ok (.aload_n 0, 1) := by decide +kernel
theorem dX7_add_8 : decode cX7_add 8 = .ok (.getfield 19, 3) := by decide +kernel
theorem dX7_add_11 : decode cX7_add 11 = .ok (.bipush 100, 2) := by decide +kernel
theorem dX7_add_13 : decode cX7_add 13 = .ok (.if_icmp .lt 5, 3) := by decide +kernel
theorem dX7_add_16 : decode cX7_add 16 = .ok (.iconst 0, 1) := by decide +kernel
theorem dX7_add_17 : decode cX7_add 17 = .ok (.ireturn, 1) := by decide +kernel
theorem dX7_add_18 : decode cX7_add 18 = .ok (.aload_n 0, 1) := by decide +kernel
theorem dX7_add_19 : decode cX7_add 19 = .ok (.getfield 9, 3) := by decide +kernel
end
section
theorem dX7_add_22 : decode cX7_add 22 = .ok (.aload_n 0, 1) := by decide +kernel
theorem dX7_add_23 : decode cX7_add 23 = .ok (.getfield 19, 3) := by decide +kernel
theorem dX7_add_26 : decode cX7_add 26 = .ok (.iload_n 1, 1) := by decide +kernel
theorem dX7_add_27 : decode cX7_add 27 = .ok (.i2b, 1) := by decide +kernel
theorem dX7_add_28 : decode cX7_add 28 = .ok (.bastore, 1) := by decide +kernel
theorem dX7_add_29 : decode cX7_add 29 = .ok (.aload_n 0, 1) := by decide +kernel
theorem dX7_add_30 : decode cX7_add 30 = .ok (.dup, 1) := by decide +kernel
theorem dX7_add_31 : decode cX7_add 31 = .ok (.getfield 19, 3) := by decide +kernel
theorem dX7_add_34 : decode cX7_add 34 = .ok (.iconst 1, 1) := by decide +kernel
theorem dX7_add_35 : decode cX7_add 35 = .ok (.iadd, 1) := by decide +kernel
theorem dX7_add_36 : decode cX7_add 36 = .ok (.putfield 19, 3) := by decide +kernel
theorem dX7_add_39 : decode cX7_add 39 = .ok (.iconst 1, 1) := by decide +kernel
theorem dX7_add_40 : decode cX7_add 40 = .ok (.ireturn, 1) := by decide +kernel
theorem dX7_parsed_0 : decode cX7_parsed 0 = .ok (.aload_n 0, 1) := by decide +kernel
theorem dX7_parsed_1 : decode cX7_parsed 1 = .ok (.iconst 0, 1) := by decide +kernel
theorem dX7_parsed_2 : decode cX7_parsed 2 = .ok (.putfield 23, 3) := by decide +kernel
theorem dX7_parsed_5 : decode cX7_parsed 5 = .ok (.aload_n 0, 1) := by decide +kernel
theorem dX7_parsed_6 : decode cX7_parsed 6 = .ok (.iconst 0, 1) := by decide +kernel
theorem dX7_parsed_7 : decode cX7_parsed 7 = .ok (.putfield 26, 3) := by decide +kernel
theorem dX7_parsed_10 : decode cX7_parsed 10 = .ok (.aload_n 0, 1) := by decide +kernel
theorem dX7_parsed_11 : decode cX7_parsed 11 = .ok (.iconst 2, 1) := by decide +kernel
theorem dX7_parsed_12 : decode cX7_parsed 12 = .ok (.putfield 30, 3) := by decide +kernel
theorem dX7_parsed_15 : decode cX7_parsed 15 = .ok (.aload_n 0, 1) := by decide +kernel
theorem dX7_parsed_16 : decode cX7_parsed 16 = .ok (.iconst 1, 1) := by decide +kernel
theorem dX7_parsed_17 : decode cX7_parsed 17 = .ok (.putfield 33, 3) := by decide +kernel
theorem dX7_parsed_20 : decode cX7_parsed 20 = .ok (.aload_n 0, 1) := by decide +kernel
theorem dX7_parsed_21 : decode cX7_parsed 21 = .ok (.getfield 15, 3) := by decide +kernel
theorem dX7_parsed_24 : decode cX7_parsed 24 = .ok (.lconst 0, 1) := by decide +kernel
theorem dX7_parsed_25 : decode cX7_parsed 25 = .ok (.invokestatic 36, 3) := by decide +kernel
theorem dX7_parsed_28 : decode cX7_parsed 28 = .ok (.aload_n 0, 1) := by decide +kernel
theorem dX7_parsed_29 : decode cX7_parsed 29 = .ok (.invokevirtual 42, 3) := by decide +kernel
theorem dX7_parsed_32 : decode cX7_parsed 32 = .ok (.iconst 1, 1) := by decide +kernel
theorem dX7_parsed_33 : decode cX7_parsed 33 = .ok (.istore_n 1, 1) := by decide +kernel
theorem dX7_parsed_34 : decode cX7_parsed 34 = .ok (.iload_n 1, 1) := by decide +kernel
theorem dX7_parsed_35 : decode cX7_parsed 35 = .ok (.bipush 10, 2) := by decide +kernel
theorem dX7_parsed_37 : decode cX7_parsed 37 = .ok (.if_icmp .ge 22, 3) := by decide +kernel
theorem dX7_parsed_40 : decode cX7_parsed 40 = .ok (.aload_n 0, 1) := by decide +kernel
theorem dX7_parsed_41 : decode cX7_parsed 41 = .ok (.bipush 59, 2) := by decide +kernel
theorem dX7_parsed_43 : decode cX7_parsed 43 = .ok (.invokevirtual 45, 3) := by decide +kernel
theorem dX7_parsed_46 : decode cX7_parsed 46 = .ok (.ifCond .eq 13, 3) := by decide +kernel
theorem dX7_parsed_49 : decode cX7_parsed 49 = .ok (.aload_n 0, 1) := by decide +kernel
theorem dX7_parsed_50 : decode cX7_parsed 50 = .ok (.invokevirtual 42, 3) := by decide +kernel
theorem dX7_parsed_53 : decode cX7_parsed 53 = .ok (.iinc 1 1, 3) := by decide +kernel
theorem dX7_parsed_56 : decode cX7_parsed 56 = .ok (.goto (-22), 3) := by decide +kernel
theorem dX7_parsed_59 : decode cX7_parsed 59 = .ok (.aload_n 0, 1) := by decide +kernel
theorem dX7_parsed_60 : decode cX7_parsed 60 = .ok (.getfield 26, 3) := by decide +kernel
theorem dX7_parsed_63 : decode cX7_parsed 63 = .ok (.ifCond .ne 14, 3) := by decide +kernel
theorem dX7_parsed_66 : decode cX7_parsed 66 = .ok (.aload_n 0, 1) := by decide +kernel
theorem dX7_parsed_67 : decode cX7_parsed 67 = .ok (.getfield 23, 3) := by decide +kernel
theorem dX7_parsed_70 : decode cX7_parsed 70 = .ok (.aload_n 0, 1) := by decide +kernel
theorem dX7_parsed_71 : decode cX7_parsed 71 = .ok (.getfield 19, 3) := by decide +kernel
theorem dX7_parsed_74 : decode cX7_parsed 74 = .ok (.if_icmp .ge 7, 3) := by decide +kernel
theorem dX7_parsed_77 : decode cX7_parsed 77 = .ok (.aconst_null, 1) := by decide +kernel
theorem dX7_parsed_78 : decode cX7_parsed 78 = .ok (.goto 22, 3) := by decide +kernel
theorem dX7_parsed_81 : decode cX7_parsed 81 = .ok (.new 49, 3) := by decide +kernel
theorem dX7_parsed_84 : decode cX7_parsed 84 = .ok (.dup, 1) := by decide +kernel
theorem dX7_parsed_85 : decode cX7_parsed 85 = .ok (.aload_n 0, 1) := by decide +kernel
theorem dX7_parsed_86 : decode cX7_parsed 86 = .ok (.getfield 30, 3) := by decide +kernel
theorem dX7_parsed_89 : decode cX7_parsed 89 = .ok (.aload_n 0, 1) := by decide +kernel
theorem dX7_parsed_90 : decode cX7_parsed 90 = .ok (.getfield 33, 3) := by decide +kernel
theorem dX7_parsed_93 : decode cX7_parsed 93 = .ok (.aload_n 0, 1) := by decide +kernel
theorem dX7_parsed_94 : decode cX7_parsed 94 = .ok (.getfield 15, 3) := by decide +kernel
theorem dX7_parsed_97 : decode cX7_parsed 97 = .ok (.invokespecial 51, 3) := by decide +kernel
theorem dX7_parsed_100 : decode cX7_parsed 100 = .ok (.areturn, 1) := by decide +kernel
theorem dX7_clause_0 : decode cX7_clause 0 = .ok (.aload_n 0, 1) := by decide +kernel
theorem dX7_clause_1 : decode cX7_clause 1 = .ok (.bipush 111, 2) := by decide +kernel
theorem dX7_clause_3 : decode cX7_clause 3 = .ok (.invokevirtual 45, 3) := by decide +kernel
theorem dX7_clause_6 : decode cX7_clause 6 = .ok (.ifCond .eq 28, 3) := by decide +kernel
theorem dX7_clause_9 : decode cX7_clause 9 = .ok (.aload_n 0, 1) := by decide +kernel
theorem dX7_clause_10 : decode cX7_clause 10 = .ok (.ldc 54, 2) := by decide +kernel
theorem dX7_clause_12 : decode cX7_clause 12 = .ok (.invokevirtual 56, 3) := by decide +kernel
theorem dX7_clause_15 : decode cX7_clause 15 = .ok (.aload_n 0, 1) := by decide +kernel
theorem dX7_clause_16 : decode cX7_clause 16 = .ok (.iconst 1, 1) := by decide +kernel
theorem dX7_clause_17 : decode cX7_clause 17 = .ok (.iconst 4, 1) := by decide +kernel
theorem dX7_clause_18 : decode cX7_clause 18 = .ok (.aload_n 0, 1) := by decide +kernel
theorem dX7_clause_19 : decode cX7_clause 19 = .ok (.invokevirtual 60, 3) := by decide +kernel
theorem dX7_clause_22 : decode cX7_clause 22 = .ok (.invokestatic 64, 3) := by decide +kernel
theorem dX7_clause_25 : decode cX7_clause 25 = .ok (.invokestatic 70, 3) := by decide +kernel
theorem dX7_clause_28 : decode cX7_clause 28 = .ok (.putfield 30, 3) := by decide +kernel
theorem dX7_clause_31 : decode cX7_clause 31 = .ok (.goto 153, 3) := by decide +kernel
theorem dX7_clause_34 : decode cX7_clause 34 = .ok (.aload_n 0, 1) := by decide +kernel
theorem dX7_clause_35 : decode cX7_clause 35 = .ok (.bipush 98, 2) := by decide +kernel
theorem dX7_clause_37 : decode cX7_clause 37 = .ok (.invokevirtual 45, 3) := by decide +kernel
theorem dX7_clause_40 : decode cX7_clause 40 = .ok (.ifCond .eq 28, 3) := by decide +kernel
theorem dX7_clause_43 : decode cX7_clause 43 = .ok (.aload_n 0, 1) := by decide +kernel
theorem dX7_clause_44 : decode cX7_clause 44 = .ok (.ldc 73, 2) := by decide +kernel
theorem dX7_clause_46 : decode cX7_clause 46 = .ok (.invokevirtual 56, 3) := by decide +kernel
theorem dX7_clause_49 : decode cX7_clause 49 = .ok (.aload_n 0, 1) := by decide +kernel
theorem dX7_clause_50 : decode cX7_clause 50 = .ok (.iconst 1, 1) := by decide +kernel
theorem dX7_clause_51 : decode cX7_clause 51 = .ok (.iconst 4, 1) := by decide +kernel
theorem dX7_clause_52 : decode cX7_clause 52 = .ok (.aload_n 0, 1) := by decide +kernel
theorem dX7_clause_53 : decode cX7_clause 53 = .ok (.invokevirtual 60, 3) := by decide +kernel
theorem dX7_clause_56 : decode cX7_clause 56 = .ok (.invokestatic 64, 3) := by decide +kernel
theorem dX7_clause_59 : decode cX7_clause 59 = .ok (.invokestatic 70, 3) := by decide +kernel
theorem dX7_clause_62 : decode cX7_clause 62 = .ok (.putfield 33, 3) := by decide +kernel
theorem dX7_clause_65 : decode cX7_clause 65 = .ok (.goto 119, 3) := by decide +kernel
theorem dX7_clause_68 : decode cX7_clause 68 = .ok (.aload_n 0, 1) := by decide +kernel
theorem dX7_clause_69 : decode cX7_clause 69 = .ok (.bipush 119, 2) := by decide +kernel
theorem dX7_clause_71 : decode cX7_clause 71 = .ok (.invokevirtual 45, 3) := by decide +kernel
theorem dX7_clause_74 : decode cX7_clause 74 = .ok (.ifCond .eq 26, 3) := by decide +kernel
theorem dX7_clause_77 : decode cX7_clause 77 = .ok (.aload_n 0, 1) := by decide +kernel
theorem dX7_clause_78 : decode cX7_clause 78 = .ok (.ldc 75, 2) := by decide +kernel
theorem dX7_clause_80 : decode cX7_clause 80 = .ok (.invokevirtual 56, 3) := by decide +kernel
theorem dX7_clause_83 : decode cX7_clause 83 = .ok (.aload_n 0, 1) := by decide +kernel
theorem dX7_clause_84 : decode cX7_clause 84 = .ok (.getfield 15, 3) := by decide +kernel
theorem dX7_clause_87 : decode cX7_clause 87 = .ok (.iconst 0, 1) := by decide +kernel
theorem dX7_clause_88 : decode cX7_clause 88 = .ok (.dup2, 1) := by decide +kernel
theorem dX7_clause_89 : decode cX7_clause 89 = .ok (.laload, 1) := by decide +kernel
theorem dX7_clause_90 : decode cX7_clause 90 = .ok (.aload_n 0, 1) := by decide +kernel
theorem dX7_clause_91 : decode cX7_clause 91 = .ok (.iconst 0, 1) := by decide +kernel
theorem dX7_clause_92 : decode cX7_clause 92 = .ok (.invokevirtual 77, 3) := by decide +kernel
theorem dX7_clause_95 : decode cX7_clause 95 = .ok (.lor, 1) := by decide +kernel
theorem dX7_clause_96 : decode cX7_clause 96 = .ok (.lastore, 1) := by decide +kernel
theorem dX7_clause_97 : decode cX7_clause 97 = .ok (.goto 87, 3) := by decide +kernel
theorem dX7_clause_100 : decode cX7_clause 100 = .ok (.aload_n 0, 1) := by decide +kernel
theorem dX7_clause_101 : decode cX7_clause 101 = .ok (.bipush 108, 2) := by decide +kernel
theorem dX7_clause_103 : decode cX7_clause 103 = .ok (.invokevirtual 45, 3) := by decide +kernel
theorem dX7_clause_106 : decode cX7_clause 106 = .ok (.ifCond .eq 26, 3) := by decide +kernel
theorem dX7_clause_109 : decode cX7_clause 109 = .ok (.aload_n 0, 1) := by decide +kernel
theorem dX7_clause_110 : decode cX7_clause 110 = .ok (.ldc 81, 2) := by decide +kernel
theorem dX7_clause_112 : decode cX7_clause 112 = .ok (.invokevirtual 56, 3) := by decide +kernel
theorem dX7_clause_115 : decode cX7_clause 115 = .ok (.aload_n 0, 1) := by decide +kernel
theorem dX7_clause_116 : decode cX7_clause 116 = .ok (.getfield 15, 3) := by decide +kernel
theorem dX7_clause_119 : decode cX7_clause 119 = .ok (.iconst 1, 1) := by decide +kernel
theorem dX7_clause_120 : decode cX7_clause 120 = .ok (.dup2, 1) := by decide +kernel
theorem dX7_clause_121 : decode cX7_clause 121 = .ok (.laload, 1) := by decide +kernel
theorem dX7_clause_122 : decode cX7_clause 122 = .ok (.aload_n 0, 1) := by decide +kernel
theorem dX7_clause_123 : decode cX7_clause 123 = .ok (.iconst 0, 1) := by decide +kernel
theorem dX7_clause_124 : decode cX7_clause 124 = .ok (.invokevirtual 77, 3) := by decide +kernel
theorem dX7_clause_127 : decode cX7_clause 127 = .ok (.lor, 1) := by decide +kernel
theorem dX7_clause_128 : decode cX7_clause 128 = .ok (.lastore, 1) := by decide +kernel
theorem dX7_clause_129 : decode cX7_clause 129 = .ok (.goto 55, 3) := by decide +kernel
theorem dX7_clause_132 : decode cX7_clause 132 = .ok (.aload_n 0, 1) := by decide +kernel
theorem dX7_clause_133 : decode cX7_clause 133 = .ok (.bipush 100, 2) := by decide +kernel
theorem dX7_clause_135 : decode cX7_clause 135 = .ok (.invokevirtual 45, 3) := by decide +kernel
theorem dX7_clause_138 : decode cX7_clause 138 = .ok (.ifCond .eq 26, 3) := by decide +kernel
theorem dX7_clause_141 : decode cX7_clause 141 = .ok (.aload_n 0, 1) := by decide +kernel
theorem dX7_clause_142 : decode cX7_clause 142 = .ok (.ldc 83, 2) := by decide +kernel
theorem dX7_clause_144 : decode cX7_clause 144 = .ok (.invokevirtual 56, 3) := by decide +kernel
theorem dX7_clause_147 : decode cX7_clause 147 = .ok (.aload_n 0, 1) := by decide +kernel
theorem dX7_clause_148 : decode cX7_clause 148 = .ok (.getfield 15, 3) := by decide +kernel
theorem dX7_clause_151 : decode cX7_clause 151 = .ok (.iconst 2, 1) := by decide +kernel
theorem dX7_clause_152 : decode cX7_clause 152 = .ok (.dup2, 1) := by decide +kernel
theorem dX7_clause_153 : decode cX7_clause 153 = .ok (.laload, 1) := by decide +kernel
theorem dX7_clause_154 : decode cX7_clause 154 = .ok (.aload_n 0, 1) := by decide +kernel
theorem dX7_clause_155 : decode cX7_clause 155 = .ok (.iconst 0, 1) := by decide +kernel
theorem dX7_clause_156 : decode cX7_clause 156 = .ok (.invokevirtual 77, 3) := by decide +kernel
theorem dX7_clause_159 : decode cX7_clause 159 = .ok (.lor, 1) := by decide +kernel
theorem dX7_clause_160 : decode cX7_clause 160 = .ok (.lastore, 1) := by decide +kernel
theorem dX7_clause_161 : decode cX7_clause 161 = .ok (.goto 23, 3) := by decide +kernel
theorem dX7_clause_164 : decode cX7_clause 164 = .ok (.aload_n 0, 1) := by decide +kernel
theorem dX7_clause_165 : decode cX7_clause 165 = .ok (.ldc 85, 2) := by decide +kernel
theorem dX7_clause_167 : decode cX7_clause 167 = .ok (.invokevirtual 56, 3) := by decide +kernel
theorem dX7_clause_170 : decode cX7_clause 170 = .ok (.aload_n 0, 1) := by decide +kernel
theorem dX7_clause_171 : decode cX7_clause 171 = .ok (.getfield 15, 3) := by decide +kernel
theorem dX7_clause_174 : decode cX7_clause 174 = .ok (.iconst 3, 1) := by decide +kernel
theorem dX7_clause_175 : decode cX7_clause 175 = .ok (.dup2, 1) := by decide +kernel
theorem dX7_clause_176 : decode cX7_clause 176 = .ok (.laload, 1) := by decide +kernel
theorem dX7_clause_177 : decode cX7_clause 177 = .ok (.aload_n 0, 1) := by decide +kernel
theorem dX7_clause_178 : decode cX7_clause 178 = .ok (.iconst 0, 1) := by decide +kernel
theorem dX7_clause_179 : decode cX7_clause 179 = .ok (.invokevirtual 77, 3) := by decide +kernel
theorem dX7_clause_182 : decode cX7_clause 182 = .ok (.lor, 1) := by decide +kernel
theorem dX7_clause_183 : decode cX7_clause 183 = .ok (.lastore, 1) := by decide +kernel
theorem dX7_clause_184 : decode cX7_clause 184 = .ok (.return_, 1) := by decide +kernel
theorem dX7_either_0 : decode cX7_either 0 = .ok (.aload_n 0, 1) := by decide +kernel
theorem dX7_either_1 : decode cX7_either 1 = .ok (.iload_n 1, 1) := by decide +kernel
theorem dX7_either_2 : decode cX7_either 2 = .ok (.invokevirtual 87, 3) := by decide +kernel
theorem dX7_either_5 : decode cX7_either 5 = .ok (.lstore_n 2, 1) := by decide +kernel
theorem dX7_either_6 : decode cX7_either 6 = .ok (.iconst 0, 1) := by decide +kernel
theorem dX7_either_7 : decode cX7_either 7 = .ok (.istore 4, 2) := by decide +kernel
theorem dX7_either_9 : decode cX7_either 9 = .ok (.iload 4, 2) := by decide +kernel
theorem dX7_either_11 : decode cX7_either 11 = .ok (.bipush 100, 2) := by decide +kernel
theorem dX7_either_13 : decode cX7_either 13 = .ok (.if_icmp .ge 26, 3) := by decide +kernel
theorem dX7_either_16 : decode cX7_either 16 = .ok (.aload_n 0, 1) := by decide +kernel
theorem dX7_either_17 : decode cX7_either 17 = .ok (.bipush 124, 2) := by decide +kernel
theorem dX7_either_19 : decode cX7_either 19 = .ok (.invokevirtual 45, 3) := by decide +kernel
theorem dX7_either_22 : decode cX7_either 22 = .ok (.ifCond .eq 17, 3) := by decide +kernel
theorem dX7_either_25 : decode cX7_either 25 = .ok (.lload_n 2, 1) := by decide +kernel
theorem dX7_either_26 : decode cX7_either 26 = .ok (.aload_n 0, 1) := by decide +kernel
theorem dX7_either_27 : decode cX7_either 27 = .ok (.iload_n 1, 1) := by decide +kernel
theorem dX7_either_28 : decode cX7_either 28 = .ok (.invokevirtual 87, 3) := by decide +kernel
theorem dX7_either_31 : decode cX7_either 31 = .ok (.lor, 1) := by decide +kernel
theorem dX7_either_32 : decode cX7_either 32 = .ok (.lstore_n 2, 1) := by decide +kernel
theorem dX7_either_33 : decode cX7_either 33 = .ok (.iinc 4 1, 3) := by decide +kernel
theorem dX7_either_36 : decode cX7_either 36 = .ok (.goto (-27), 3) := by decide +kernel
theorem dX7_either_39 : decode cX7_either 39 = .ok (.lload_n 2, 1) := by decide +kernel
theorem dX7_either_40 : decode cX7_either 40 = .ok (.lreturn, 1) := by decide +kernel
theorem dX7_both_0 : decode cX7_both 0 = .ok (.aload_n 0, 1) := by decide +kernel
theorem dX7_both_1 : decode cX7_both 1 = .ok (.iload_n 1, 1) := by decide +kernel
theorem dX7_both_2 : decode cX7_both 2 = .ok (.invokevirtual 90, 3) := by decide +kernel
theorem dX7_both_5 : decode cX7_both 5 = .ok (.lstore_n 2, 1) := by decide +kernel
theorem dX7_both_6 : decode cX7_both 6 = .ok (.iconst 0, 1) := by decide +kernel
theorem dX7_both_7 : decode cX7_both 7 = .ok (.istore 4, 2) := by decide +kernel
theorem dX7_both_9 : decode cX7_both 9 = .ok (.iload 4, 2) := by decide +kernel
theorem dX7_both_11 : decode cX7_both 11 = .ok (.bipush 100, 2) := by decide +kernel
theorem dX7_both_13 : decode cX7_both 13 = .ok (.if_icmp .ge 26, 3) := by decide +kernel
theorem dX7_both_16 : decode cX7_both 16 = .ok (.aload_n 0, 1) := by decide +kernel
theorem dX7_both_17 : decode cX7_both 17 = .ok (.bipush 38, 2) := by decide +kernel
theorem dX7_both_19 : decode cX7_both 19 = .ok (.invokevirtual 45, 3) := by decide +kernel
theorem dX7_both_22 : decode cX7_both 22 = .ok (.ifCond .eq 17, 3) := by decide +kernel
theorem dX7_both_25 : decode cX7_both 25 = .ok (.lload_n 2, 1) := by decide +kernel
theorem dX7_both_26 : decode cX7_both 26 = .ok (.aload_n 0, 1) := by decide +kernel
theorem dX7_both_27 : decode cX7_both 27 = .ok (.iload_n 1, 1) := by decide +kernel
theorem dX7_both_28 : decode cX7_both 28 = .ok (.invokevirtual 90, 3) := by decide +kernel
theorem dX7_both_31 : decode cX7_both 31 = .ok (.land, 1) := by decide +kernel
theorem dX7_both_32 : decode cX7_both 32 = .ok (.lstore_n 2, 1) := by decide +kernel
theorem dX7_both_33 : decode cX7_both 33 = .ok (.iinc 4 1, 3) := by decide +kernel
theorem dX7_both_36 : decode cX7_both 36 = .ok (.goto (-27), 3) := by decide +kernel
theorem dX7_both_39 : decode cX7_both 39 = .ok (.lload_n 2, 1) := by decide +kernel
theorem dX7_both_40 : decode cX7_both 40 = .ok (.lreturn, 1) := by decide +kernel
theorem dX7_single_0 : decode cX7_single 0 = .ok (.iload_n 1, 1) := by decide +kernel
theorem dX7_single_1 : decode cX7_single 1 = .ok (.iconst 4, 1) := by decide +kernel
theorem dX7_single_2 : decode cX7_single 2 = .ok (.if_icmp .ge 28, 3) := by decide +kernel
theorem dX7_single_5 : decode cX7_single 5 = .ok (.aload_n 0, 1) := by decide +kernel
theorem dX7_single_6 : decode cX7_single 6 = .ok (.bipush 33, 2) := by decide +kernel
theorem dX7_single_8 : decode cX7_single 8 = .ok (.invokevirtual 45, 3) := by decide +kernel
theorem dX7_single_11 : decode cX7_single 11 = .ok (.ifCond .eq 19, 3) := by decide +kernel
theorem dX7_single_14 : decode cX7_single 14 = .ok (.ldc2_w 93, 3) := by decide +kernel
theorem dX7_single_17 : decode cX7_single 17 = .ok (.aload_n 0, 1) := by decide +kernel
theorem dX7_single_18 : decode cX7_single 18 = .ok (.iload_n 1, 1) := by decide +kernel
theorem dX7_single_19 : decode cX7_single 19 = .ok (.iconst 1, 1) := by decide +kernel
theorem dX7_single_20 : decode cX7_single 20 = .ok (.iadd, 1) := by decide +kernel
theorem dX7_single_21 : decode cX7_single 21 = .ok (.invokevirtual 90, 3) := by decide +kernel
theorem dX7_single_24 : decode cX7_single 24 = .ok (.ldc2_w 95, 3) := by decide +kernel
theorem dX7_single_27 : decode cX7_single 27 = .ok (.lxor, 1) := by decide +kernel
theorem dX7_single_28 : decode cX7_single 28 = .ok (.land, 1) := by decide +kernel
theorem dX7_single_29 : decode cX7_single 29 = .ok (.lreturn, 1) := by decide +kernel
theorem dX7_single_30 : decode cX7_single 30 = .ok (.iload_n 1, 1) := by decide +kernel
theorem dX7_single_31 : decode cX7_single 31 = .ok (.iconst 4, 1) := by decide +kernel
theorem dX7_single_32 : decode cX7_single 32 = .ok (.if_icmp .ge 28, 3) := by decide +kernel
theorem dX7_single_35 : decode cX7_single 35 = .ok (.aload_n 0, 1) := by decide +kernel
theorem dX7_single_36 : decode cX7_single 36 = .ok (.bipush 40, 2) := by decide +kernel
theorem dX7_single_38 : decode cX7_single 38 = .ok (.invokevirtual 45, 3) := by decide +kernel
theorem dX7_single_41 : decode cX7_single 41 = .ok (.ifCond .eq 19, 3) := by decide +kernel
theorem dX7_single_44 : decode cX7_single 44 = .ok (.aload_n 0, 1) := by decide +kernel
theorem dX7_single_45 : decode cX7_single 45 = .ok (.iload_n 1, 1) := by decide +kernel
theorem dX7_single_46 : decode cX7_single 46 = .ok (.iconst 1, 1) := by decide +kernel
theorem dX7_single_47 : decode cX7_single 47 = .ok (.iadd, 1) := by decide +kernel
theorem dX7_single_48 : decode cX7_single 48 = .ok (.invokevirtual 77, 3) := by decide +kernel
theorem dX7_single_51 : decode cX7_single 51 = .ok (.lstore_n 2, 1) := by decide +kernel
theorem dX7_single_52 : decode cX7_single 52 = .ok (.aload_n 0, 1) := by decide +kernel
theorem dX7_single_53 : decode cX7_single 53 = .ok (.ldc 97, 2) := by decide +kernel
theorem dX7_single_55 : decode cX7_single 55 = .ok (.invokevirtual 56, 3) := by decide +kernel
theorem dX7_single_58 : decode cX7_single 58 = .ok (.lload_n 2, 1) := by decide +kernel
theorem dX7_single_59 : decode cX7_single 59 = .ok (.lreturn, 1) := by decide +kernel
theorem dX7_single_60 : decode cX7_single 60 = .ok (.aload_n 0, 1) := by decide +kernel
theorem dX7_single_61 : decode cX7_single 61 = .ok (.ldc 99, 2) := by decide +kernel
theorem dX7_single_63 : decode cX7_single 63 = .ok (.invokevirtual 101, 3) := by decide +kernel
theorem dX7_single_66 : decode cX7_single 66 = .ok (.istore_n 2, 1) := by decide +kernel
theorem dX7_single_67 : decode cX7_single 67 = .ok (.aload_n 0, 1) := by decide +kernel
theorem dX7_single_68 : decode cX7_single 68 = .ok (.ldc 105, 2) := by decide +kernel
theorem dX7_single_70 : decode cX7_single 70 = .ok (.invokevirtual 101, 3) := by decide +kernel
theorem dX7_single_73 : decode cX7_single 73 = .ok (.istore_n 3, 1) := by decide +kernel
theorem dX7_single_74 : decode cX7_single 74 = .ok (.iload_n 2, 1) := by decide +kernel
theorem dX7_single_75 : decode cX7_single 75 = .ok (.iload_n 3, 1) := by decide +kernel
theorem dX7_single_76 : decode cX7_single 76 = .ok (.aload_n 0, 1) := by decide +kernel
theorem dX7_single_77 : decode cX7_single 77 = .ok (.invokevirtual 60, 3) := by decide +kernel
theorem dX7_single_80 : decode cX7_single 80 = .ok (.invokestatic 107, 3) := by decide +kernel
theorem dX7_single_83 : decode cX7_single 83 = .ok (.lreturn, 1) := by decide +kernel
theorem dX7_tested_0 : decode cX7_tested 0 = .ok (.lconst 0, 1) := by decide +kernel
theorem dX7_tested_1 : decode cX7_tested 1 = .ok (.lstore_n 3, 1) := by decide +kernel
theorem dX7_tested_2 : decode cX7_tested 2 = .ok (.iconst 0, 1) := by decide +kernel
theorem dX7_tested_3 : decode cX7_tested 3 = .ok (.istore 5, 2) := by decide +kernel
theorem dX7_tested_5 : decode cX7_tested 5 = .ok (.iload 5, 2) := by decide +kernel
theorem dX7_tested_7 : decode cX7_tested 7 = .ok (.bipush 36, 2) := by decide +kernel
theorem dX7_tested_9 : decode cX7_tested 9 = .ok (.if_icmp .ge 32, 3) := by decide +kernel
theorem dX7_tested_12 : decode cX7_tested 12 = .ok (.iload_n 0, 1) := by decide +kernel
theorem dX7_tested_13 : decode cX7_tested 13 = .ok (.iload 5, 2) := by decide +kernel
theorem dX7_tested_15 : decode cX7_tested 15 = .ok (.invokestatic 111, 3) := by decide +kernel
theorem dX7_tested_18 : decode cX7_tested 18 = .ok (.iload_n 2, 1) := by decide +kernel
theorem dX7_tested_19 : decode cX7_tested 19 = .ok (.invokestatic 114, 3) := by decide +kernel
theorem dX7_tested_22 : decode cX7_tested 22 = .ok (.iload_n 1, 1) := by decide +kernel
theorem dX7_tested_23 : decode cX7_tested 23 = .ok (.iconst 1, 1) := by decide +kernel
theorem dX7_tested_24 : decode cX7_tested 24 = .ok (.isub, 1) := by decide +kernel
theorem dX7_tested_25 : decode cX7_tested 25 = .ok (.if_icmp .ne 10, 3) := by decide +kernel
theorem dX7_tested_28 : decode cX7_tested 28 = .ok (.lload_n 3, 1) := by decide +kernel
theorem dX7_tested_29 : decode cX7_tested 29 = .ok (.lconst 1, 1) := by decide +kernel
theorem dX7_tested_30 : decode cX7_tested 30 = .ok (.iload 5, 2) := by decide +kernel
theorem dX7_tested_32 : decode cX7_tested 32 = .ok (.lshl, 1) := by decide +kernel
theorem dX7_tested_33 : decode cX7_tested 33 = .ok (.lor, 1) := by decide +kernel
theorem dX7_tested_34 : decode cX7_tested 34 = .ok (.lstore_n 3, 1) := by decide +kernel
theorem dX7_tested_35 : decode cX7_tested 35 = .ok (.iinc 5 1, 3) := by decide +kernel
theorem dX7_tested_38 : decode cX7_tested 38 = .ok (.goto (-33), 3) := by decide +kernel
theorem dX7_tested_41 : decode cX7_tested 41 = .ok (.lload_n 3, 1) := by decide +kernel
theorem dX7_tested_42 : decode cX7_tested 42 = .ok (.lreturn, 1) := by decide +kernel
theorem dX7_measure_0 : decode cX7_measure 0 = .ok (.iload_n 1, 1) := by decide +kernel
theorem dX7_measure_1 : decode cX7_measure 1 = .ok (.bipush 6, 2) := by decide +kernel
theorem dX7_measure_3 : decode cX7_measure 3 = .ok (.idiv, 1) := by decide +kernel
theorem dX7_measure_4 : decode cX7_measure 4 = .ok (.istore_n 2, 1) := by decide +kernel
theorem dX7_measure_5 : decode cX7_measure 5 = .ok (.iload_n 1, 1) := by decide +kernel
theorem dX7_measure_6 : decode cX7_measure 6 = .ok (.bipush 6, 2) := by decide +kernel
theorem dX7_measure_8 : decode cX7_measure 8 = .ok (.irem, 1) := by decide +kernel
theorem dX7_measure_9 : decode cX7_measure 9 = .ok (.istore_n 3, 1) := by decide +kernel
theorem dX7_measure_10 : decode cX7_measure 10 = .ok (.iload_n 0, 1) := by decide +kernel
theorem dX7_measure_11 : decode cX7_measure 11 = .ok (.tableswitch 44 0 3 #[29, 31, 33, 37], 29) := by decide +kernel
theorem dX7_measure_40 : decode cX7_measure 40 = .ok (.iload_n 2, 1) := by decide +kernel
theorem dX7_measure_41 : decode cX7_measure 41 = .ok (.ireturn, 1) := by decide +kernel
theorem dX7_measure_42 : decode cX7_measure 42 = .ok (.iload_n 3, 1) := by decide +kernel
theorem dX7_measure_43 : decode cX7_measure 43 = .ok (.ireturn, 1) := by decide +kernel
theorem dX7_measure_44 : decode cX7_measure 44 = .ok (.iload_n 2, 1) := by decide +kernel
theorem dX7_measure_45 : decode cX7_measure 45 = .ok (.iload_n 3, 1) := by decide +kernel
theorem dX7_measure_46 : decode cX7_measure 46 = .ok (.iadd, 1) := by decide +kernel
theorem dX7_measure_47 : decode cX7_measure 47 = .ok (.ireturn, 1) := by decide +kernel
theorem dX7_measure_48 : decode cX7_measure 48 = .ok (.iload_n 2, 1) := by decide +kernel
theorem dX7_measure_49 : decode cX7_measure 49 = .ok (.iload_n 3, 1) := by decide +kernel
theorem dX7_measure_50 : decode cX7_measure 50 = .ok (.isub, 1) := by decide +kernel
theorem dX7_measure_51 : decode cX7_measure 51 = .ok (.invokestatic 119, 3) := by decide +kernel
theorem dX7_measure_54 : decode cX7_measure 54 = .ok (.ireturn, 1) := by decide +kernel
theorem dX7_measure_55 : decode cX7_measure 55 = .ok (.iload_n 1, 1) := by decide +kernel
theorem dX7_measure_56 : decode cX7_measure 56 = .ok (.ireturn, 1) := by decide +kernel
theorem dX7_number_0 : decode cX7_number 0 = .ok (.aload_n 0, 1) := by decide +kernel
theorem dX7_number_1 : decode cX7_number 1 = .ok (.ldc 123, 2) := by decide +kernel
theorem dX7_number_3 : decode cX7_number 3 = .ok (.invokevirtual 125, 3) := by decide +kernel
theorem dX7_number_6 : decode cX7_number 6 = .ok (.istore_n 1, 1) := by decide +kernel
theorem dX7_number_7 : decode cX7_number 7 = .ok (.iload_n 1, 1) := by decide +kernel
theorem dX7_number_8 : decode cX7_number 8 = .ok (.ifCond .ge 10, 3) := by decide +kernel
theorem dX7_number_11 : decode cX7_number 11 = .ok (.aload_n 0, 1) := by decide +kernel
theorem dX7_number_12 : decode cX7_number 12 = .ok (.iconst 1, 1) := by decide +kernel
theorem dX7_number_13 : decode cX7_number 13 = .ok (.putfield 26, 3) := by decide +kernel
theorem dX7_number_16 : decode cX7_number 16 = .ok (.iconst 0, 1) := by decide +kernel
theorem dX7_number_17 : decode cX7_number 17 = .ok (.ireturn, 1) := by decide +kernel
theorem dX7_number_18 : decode cX7_number 18 = .ok (.aload_n 0, 1) := by decide +kernel
theorem dX7_number_19 : decode cX7_number 19 = .ok (.ldc 123, 2) := by decide +kernel
theorem dX7_number_21 : decode cX7_number 21 = .ok (.invokevirtual 125, 3) := by decide +kernel
theorem dX7_number_24 : decode cX7_number 24 = .ok (.istore_n 2, 1) := by decide +kernel
theorem dX7_number_25 : decode cX7_number 25 = .ok (.iload_n 2, 1) := by decide +kernel
theorem dX7_number_26 : decode cX7_number 26 = .ok (.ifCond .ge 7, 3) := by decide +kernel
theorem dX7_number_29 : decode cX7_number 29 = .ok (.iload_n 1, 1) := by decide +kernel
theorem dX7_number_30 : decode cX7_number 30 = .ok (.goto 9, 3) := by decide +kernel
theorem dX7_number_33 : decode cX7_number 33 = .ok (.bipush 10, 2) := by decide +kernel
theorem dX7_number_35 : decode cX7_number 35 = .ok (.iload_n 1, 1) := by decide +kernel
theorem dX7_number_36 : decode cX7_number 36 = .ok (.imul, 1) := by decide +kernel
theorem dX7_number_37 : decode cX7_number 37 = .ok (.iload_n 2, 1) := by decide +kernel
theorem dX7_number_38 : decode cX7_number 38 = .ok (.iadd, 1) := by decide +kernel
theorem dX7_number_39 : decode cX7_number 39 = .ok (.ireturn, 1) := by decide +kernel
theorem dX7_oneOf_0 : decode cX7_oneOf 0 = .ok (.aload_n 0, 1) := by decide +kernel
theorem dX7_oneOf_1 : decode cX7_oneOf 1 = .ok (.aload_n 1, 1) := by decide +kernel
theorem dX7_oneOf_2 : decode cX7_oneOf 2 = .ok (.invokevirtual 125, 3) := by decide +kernel
theorem dX7_oneOf_5 : decode cX7_oneOf 5 = .ok (.istore_n 2, 1) := by decide +kernel
theorem dX7_oneOf_6 : decode cX7_oneOf 6 = .ok (.aload_n 0, 1) := by decide +kernel
theorem dX7_oneOf_7 : decode cX7_oneOf 7 = .ok (.aload_n 0, 1) := by decide +kernel
theorem dX7_oneOf_8 : decode cX7_oneOf 8 = .ok (.getfield 26, 3) := by decide +kernel
theorem dX7_oneOf_11 : decode cX7_oneOf 11 = .ok (.ifCond .ne 7, 3) := by decide +kernel
theorem dX7_oneOf_14 : decode cX7_oneOf 14 = .ok (.iload_n 2, 1) := by decide +kernel
theorem dX7_oneOf_15 : decode cX7_oneOf 15 = .ok (.ifCond .ge 7, 3) := by decide +kernel
theorem dX7_oneOf_18 : decode cX7_oneOf 18 = .ok (.iconst 1, 1) := by decide +kernel
theorem dX7_oneOf_19 : decode cX7_oneOf 19 = .ok (.goto 4, 3) := by decide +kernel
theorem dX7_oneOf_22 : decode cX7_oneOf 22 = .ok (.iconst 0, 1) := by decide +kernel
theorem dX7_oneOf_23 : decode cX7_oneOf 23 = .ok (.putfield 26, 3) := by decide +kernel
theorem dX7_oneOf_26 : decode cX7_oneOf 26 = .ok (.iload_n 2, 1) := by decide +kernel
theorem dX7_oneOf_27 : decode cX7_oneOf 27 = .ok (.ireturn, 1) := by decide +kernel
theorem dX7_oneIf_0 : decode cX7_oneIf 0 = .ok (.aload_n 0, 1) := by decide +kernel
theorem dX7_oneIf_1 : decode cX7_oneIf 1 = .ok (.getfield 26, 3) := by decide +kernel
theorem dX7_oneIf_4 : decode cX7_oneIf 4 = .ok (.ifCond .ne 30, 3) := by decide +kernel
theorem dX7_oneIf_7 : decode cX7_oneIf 7 = .ok (.aload_n 0, 1) := by decide +kernel
theorem dX7_oneIf_8 : decode cX7_oneIf 8 = .ok (.getfield 23, 3) := by decide +kernel
theorem dX7_oneIf_11 : decode cX7_oneIf 11 = .ok (.ifCond .lt 23, 3) := by decide +kernel
theorem dX7_oneIf_14 : decode cX7_oneIf 14 = .ok (.aload_n 0, 1) := by decide +kernel
theorem dX7_oneIf_15 : decode cX7_oneIf 15 = .ok (.getfield 23, 3) := by decide +kernel
theorem dX7_oneIf_18 : decode cX7_oneIf 18 = .ok (.aload_n 0, 1) := by decide +kernel
theorem dX7_oneIf_19 : decode cX7_oneIf 19 = .ok (.getfield 19, 3) := by decide +kernel
theorem dX7_oneIf_22 : decode cX7_oneIf 22 = .ok (.if_icmp .ge 12, 3) := by decide +kernel
theorem dX7_oneIf_25 : decode cX7_oneIf 25 = .ok (.aload_n 0, 1) := by decide +kernel
theorem dX7_oneIf_26 : decode cX7_oneIf 26 = .ok (.getfield 23, 3) := by decide +kernel
theorem dX7_oneIf_29 : decode cX7_oneIf 29 = .ok (.bipush 100, 2) := by decide +kernel
theorem dX7_oneIf_31 : decode cX7_oneIf 31 = .ok (.if_icmp .lt 5, 3) := by decide +kernel
theorem dX7_oneIf_34 : decode cX7_oneIf 34 = .ok (.iconst (-1), 1) := by decide +kernel
theorem dX7_oneIf_35 : decode cX7_oneIf 35 = .ok (.ireturn, 1) := by decide +kernel
theorem dX7_oneIf_36 : decode cX7_oneIf 36 = .ok (.iconst 0, 1) := by decide +kernel
theorem dX7_oneIf_37 : decode cX7_oneIf 37 = .ok (.istore_n 2, 1) := by decide +kernel
theorem dX7_oneIf_38 : decode cX7_oneIf 38 = .ok (.iload_n 2, 1) := by decide +kernel
theorem dX7_oneIf_39 : decode cX7_oneIf 39 = .ok (.aload_n 1, 1) := by decide +kernel
theorem dX7_oneIf_40 : decode cX7_oneIf 40 = .ok (.invokevirtual 128, 3) := by decide +kernel
theorem dX7_oneIf_43 : decode cX7_oneIf 43 = .ok (.if_icmp .ge 38, 3) := by decide +kernel
theorem dX7_oneIf_46 : decode cX7_oneIf 46 = .ok (.aload_n 0, 1) := by decide +kernel
theorem dX7_oneIf_47 : decode cX7_oneIf 47 = .ok (.getfield 9, 3) := by decide +kernel
theorem dX7_oneIf_50 : decode cX7_oneIf 50 = .ok (.aload_n 0, 1) := by decide +kernel
theorem dX7_oneIf_51 : decode cX7_oneIf 51 = .ok (.getfield 23, 3) := by decide +kernel
theorem dX7_oneIf_54 : decode cX7_oneIf 54 = .ok (.baload, 1) := by decide +kernel
theorem dX7_oneIf_55 : decode cX7_oneIf 55 = .ok (.aload_n 1, 1) := by decide +kernel
theorem dX7_oneIf_56 : decode cX7_oneIf 56 = .ok (.iload_n 2, 1) := by decide +kernel
theorem dX7_oneIf_57 : decode cX7_oneIf 57 = .ok (.invokevirtual 132, 3) := by decide +kernel
theorem dX7_oneIf_60 : decode cX7_oneIf 60 = .ok (.if_icmp .ne 15, 3) := by decide +kernel
theorem dX7_oneIf_63 : decode cX7_oneIf 63 = .ok (.aload_n 0, 1) := by decide +kernel
theorem dX7_oneIf_64 : decode cX7_oneIf 64 = .ok (.dup, 1) := by decide +kernel
theorem dX7_oneIf_65 : decode cX7_oneIf 65 = .ok (.getfield 23, 3) := by decide +kernel
theorem dX7_oneIf_68 : decode cX7_oneIf 68 = .ok (.iconst 1, 1) := by decide +kernel
theorem dX7_oneIf_69 : decode cX7_oneIf 69 = .ok (.iadd, 1) := by decide +kernel
theorem dX7_oneIf_70 : decode cX7_oneIf 70 = .ok (.putfield 23, 3) := by decide +kernel
theorem dX7_oneIf_73 : decode cX7_oneIf 73 = .ok (.iload_n 2, 1) := by decide +kernel
theorem dX7_oneIf_74 : decode cX7_oneIf 74 = .ok (.ireturn, 1) := by decide +kernel
theorem dX7_oneIf_75 : decode cX7_oneIf 75 = .ok (.iinc 2 1, 3) := by decide +kernel
theorem dX7_oneIf_78 : decode cX7_oneIf 78 = .ok (.goto (-40), 3) := by decide +kernel
theorem dX7_oneIf_81 : decode cX7_oneIf 81 = .ok (.iconst (-1), 1) := by decide +kernel
theorem dX7_oneIf_82 : decode cX7_oneIf 82 = .ok (.ireturn, 1) := by decide +kernel
theorem dX7_needs_0 : decode cX7_needs 0 = .ok (.iconst 0, 1) := by decide +kernel
theorem dX7_needs_1 : decode cX7_needs 1 = .ok (.istore_n 2, 1) := by decide +kernel
theorem dX7_needs_2 : decode cX7_needs 2 = .ok (.iload_n 2, 1) := by decide +kernel
theorem dX7_needs_3 : decode cX7_needs 3 = .ok (.aload_n 1, 1) := by decide +kernel
theorem dX7_needs_4 : decode cX7_needs 4 = .ok (.invokevirtual 128, 3) := by decide +kernel
theorem dX7_needs_7 : decode cX7_needs 7 = .ok (.if_icmp .ge 37, 3) := by decide +kernel
theorem dX7_needs_10 : decode cX7_needs 10 = .ok (.aload_n 0, 1) := by decide +kernel
theorem dX7_needs_11 : decode cX7_needs 11 = .ok (.aload_n 0, 1) := by decide +kernel
theorem dX7_needs_12 : decode cX7_needs 12 = .ok (.aload_n 1, 1) := by decide +kernel
theorem dX7_needs_13 : decode cX7_needs 13 = .ok (.iload_n 2, 1) := by decide +kernel
theorem dX7_needs_14 : decode cX7_needs 14 = .ok (.invokevirtual 132, 3) := by decide +kernel
theorem dX7_needs_17 : decode cX7_needs 17 = .ok (.invokevirtual 45, 3) := by decide +kernel
theorem dX7_needs_20 : decode cX7_needs 20 = .ok (.ifCond .eq 10, 3) := by decide +kernel
theorem dX7_needs_23 : decode cX7_needs 23 = .ok (.aload_n 0, 1) := by decide +kernel
theorem dX7_needs_24 : decode cX7_needs 24 = .ok (.getfield 26, 3) := by decide +kernel
theorem dX7_needs_27 : decode cX7_needs 27 = .ok (.ifCond .eq 7, 3) := by decide +kernel
theorem dX7_needs_30 : decode cX7_needs 30 = .ok (.iconst 1, 1) := by decide +kernel
theorem dX7_needs_31 : decode cX7_needs 31 = .ok (.goto 4, 3) := by decide +kernel
theorem dX7_needs_34 : decode cX7_needs 34 = .ok (.iconst 0, 1) := by decide +kernel
theorem dX7_needs_35 : decode cX7_needs 35 = .ok (.putfield 26, 3) := by decide +kernel
theorem dX7_needs_38 : decode cX7_needs 38 = .ok (.iinc 2 1, 3) := by decide +kernel
theorem dX7_needs_41 : decode cX7_needs 41 = .ok (.goto (-39), 3) := by decide +kernel
theorem dX7_needs_44 : decode cX7_needs 44 = .ok (.return_, 1) := by decide +kernel
theorem dX7_takes_0 : decode cX7_takes 0 = .ok (.aload_n 0, 1) := by decide +kernel
theorem dX7_takes_1 : decode cX7_takes 1 = .ok (.getfield 26, 3) := by decide +kernel
theorem dX7_takes_4 : decode cX7_takes 4 = .ok (.ifCond .ne 43, 3) := by decide +kernel
theorem dX7_takes_7 : decode cX7_takes 7 = .ok (.aload_n 0, 1) := by decide +kernel
theorem dX7_takes_8 : decode cX7_takes 8 = .ok (.getfield 23, 3) := by decide +kernel
theorem dX7_takes_11 : decode cX7_takes 11 = .ok (.ifCond .lt 36, 3) := by decide +kernel
theorem dX7_takes_14 : decode cX7_takes 14 = .ok (.aload_n 0, 1) := by decide +kernel
theorem dX7_takes_15 : decode cX7_takes 15 = .ok (.getfield 23, 3) := by decide +kernel
theorem dX7_takes_18 : decode cX7_takes 18 = .ok (.aload_n 0, 1) := by decide +kernel
theorem dX7_takes_19 : decode cX7_takes 19 = .ok (.getfield 19, 3) := by decide +kernel
theorem dX7_takes_22 : decode cX7_takes 22 = .ok (.if_icmp .ge 25, 3) := by decide +kernel
theorem dX7_takes_25 : decode cX7_takes 25 = .ok (.aload_n 0, 1) := by decide +kernel
theorem dX7_takes_26 : decode cX7_takes 26 = .ok (.getfield 23, 3) := by decide +kernel
theorem dX7_takes_29 : decode cX7_takes 29 = .ok (.bipush 100, 2) := by decide +kernel
theorem dX7_takes_31 : decode cX7_takes 31 = .ok (.if_icmp .ge 16, 3) := by decide +kernel
theorem dX7_takes_34 : decode cX7_takes 34 = .ok (.aload_n 0, 1) := by decide +kernel
theorem dX7_takes_35 : decode cX7_takes 35 = .ok (.getfield 9, 3) := by decide +kernel
theorem dX7_takes_38 : decode cX7_takes 38 = .ok (.aload_n 0, 1) := by decide +kernel
theorem dX7_takes_39 : decode cX7_takes 39 = .ok (.getfield 23, 3) := by decide +kernel
theorem dX7_takes_42 : decode cX7_takes 42 = .ok (.baload, 1) := by decide +kernel
theorem dX7_takes_43 : decode cX7_takes 43 = .ok (.iload_n 1, 1) := by decide +kernel
theorem dX7_takes_44 : decode cX7_takes 44 = .ok (.if_icmp .eq 5, 3) := by decide +kernel
theorem dX7_takes_47 : decode cX7_takes 47 = .ok (.iconst 0, 1) := by decide +kernel
theorem dX7_takes_48 : decode cX7_takes 48 = .ok (.ireturn, 1) := by decide +kernel
theorem dX7_takes_49 : decode cX7_takes 49 = .ok (.aload_n 0, 1) := by decide +kernel
theorem dX7_takes_50 : decode cX7_takes 50 = .ok (.dup, 1) := by decide +kernel
theorem dX7_takes_51 : decode cX7_takes 51 = .ok (.getfield 23, 3) := by decide +kernel
theorem dX7_takes_54 : decode cX7_takes 54 = .ok (.iconst 1, 1) := by decide +kernel
theorem dX7_takes_55 : decode cX7_takes 55 = .ok (.iadd, 1) := by decide +kernel
theorem dX7_takes_56 : decode cX7_takes 56 = .ok (.putfield 23, 3) := by decide +kernel
theorem dX7_takes_59 : decode cX7_takes 59 = .ok (.iconst 1, 1) := by decide +kernel
theorem dX7_takes_60 : decode cX7_takes 60 = .ok (.ireturn, 1) := by decide +kernel
theorem dX8_init_0 : decode cX8_init 0 = .ok (.aload_n 0, 1) := by decide +kernel
theorem dX8_init_1 : decode cX8_init 1 = .ok (.invokespecial 3, 3) := by decide +kernel
theorem dX8_init_4 : decode cX8_init 4 = .ok (.aload_n 0, 1) := by decide +kernel
theorem dX8_init_5 : decode cX8_init 5 = .ok (.bipush 12, 2) := by decide +kernel
theorem dX8_init_7 : decode cX8_init 7 = .ok (.newarray .int, 2) := by decide +kernel
theorem dX8_init_9 : decode cX8_init 9 = .ok (.putfield 9, 3) := by decide +kernel
theorem dX8_init_12 : decode cX8_init 12 = .ok (.return_, 1) := by decide +kernel
theorem dX8_at_0 : decode cX8_at 0 = .ok (.iload_n 1, 1) := by decide +kernel
theorem dX8_at_1 : decode cX8_at 1 = .ok (.ifCond .lt 18, 3) := by decide +kernel
theorem dX8_at_4 : decode cX8_at 4 = .ok (.iload_n 1, 1) := by decide +kernel
theorem dX8_at_5 : decode cX8_at 5 = .ok (.bipush 12, 2) := by decide +kernel
theorem dX8_at_7 : decode cX8_at 7 = .ok (.if_icmp .ge 12, 3) := by decide +kernel
theorem dX8_at_10 : decode cX8_at 10 = .ok (.aload_n 0, 1) := by decide +kernel
theorem dX8_at_11 : decode cX8_at 11 = .ok (.getfield 9, 3) := by decide +kernel
theorem dX8_at_14 : decode cX8_at 14 = .ok (.iload_n 1, 1) := by decide +kernel
theorem dX8_at_15 : decode cX8_at 15 = .ok (.iaload, 1) := by decide +kernel
theorem dX8_at_16 : decode cX8_at 16 = .ok (.goto 4, 3) := by decide +kernel
theorem dX8_at_19 : decode cX8_at 19 = .ok (.iconst 0, 1) := by decide +kernel
theorem dX8_at_20 : decode cX8_at 20 = .ok (.ireturn, 1) := by decide +kernel
theorem dX8_tell_0 : decode cX8_tell 0 = .ok (.iload_n 1, 1) := by decide +kernel
theorem dX8_tell_1 : decode cX8_tell 1 = .ok (.ifCond .ge 10, 3) := by decide +kernel
theorem dX8_tell_4 : decode cX8_tell 4 = .ok (.aload_n 0, 1) := by decide +kernel
theorem dX8_tell_5 : decode cX8_tell 5 = .ok (.iconst 0, 1) := by decide +kernel
theorem dX8_tell_6 : decode cX8_tell 6 = .ok (.putfield 15, 3) := by decide +kernel
theorem dX8_tell_9 : decode cX8_tell 9 = .ok (.iconst 0, 1) := by decide +kernel
theorem dX8_tell_10 : decode cX8_tell 10 = .ok (.ireturn, 1) := by decide +kernel
theorem dX8_tell_11 : decode cX8_tell 11 = .ok (.aload_n 0, 1) := by decide +kernel
theorem dX8_tell_12 : decode cX8_tell 12 = .ok (.getfield 15, 3) := by decide +kernel
theorem dX8_tell_15 : decode cX8_tell 15 = .ok (.ifCond .lt 12, 3) := by decide +kernel
theorem dX8_tell_18 : decode cX8_tell 18 = .ok (.aload_n 0, 1) := by decide +kernel
theorem dX8_tell_19 : decode cX8_tell 19 = .ok (.getfield 15, 3) := by decide +kernel
theorem dX8_tell_22 : decode cX8_tell 22 = .ok (.bipush 12, 2) := by decide +kernel
theorem dX8_tell_24 : decode cX8_tell 24 = .ok (.if_icmp .lt 6, 3) := by decide +kernel
theorem dX8_tell_27 : decode cX8_tell 27 = .ok (.bipush (-4), 2) := by decide +kernel
theorem dX8_tell_29 : decode cX8_tell 29 = .ok (.ireturn, 1) := by decide +kernel
theorem dX8_tell_30 : decode cX8_tell 30 = .ok (.aload_n 0, 1) := by decide +kernel
theorem dX8_tell_31 : decode cX8_tell 31 = .ok (.getfield 9, 3) := by decide +kernel
theorem dX8_tell_34 : decode cX8_tell 34 = .ok (.aload_n 0, 1) := by decide +kernel
theorem dX8_tell_35 : decode cX8_tell 35 = .ok (.getfield 15, 3) := by decide +kernel
theorem dX8_tell_38 : decode cX8_tell 38 = .ok (.iload_n 1, 1) := by decide +kernel
theorem dX8_tell_39 : decode cX8_tell 39 = .ok (.iastore, 1) := by decide +kernel
theorem dX8_tell_40 : decode cX8_tell 40 = .ok (.aload_n 0, 1) := by decide +kernel
theorem dX8_tell_41 : decode cX8_tell 41 = .ok (.dup, 1) := by decide +kernel
theorem dX8_tell_42 : decode cX8_tell 42 = .ok (.getfield 15, 3) := by decide +kernel
theorem dX8_tell_45 : decode cX8_tell 45 = .ok (.iconst 1, 1) := by decide +kernel
theorem dX8_tell_46 : decode cX8_tell 46 = .ok (.iadd, 1) := by decide +kernel
theorem dX8_tell_47 : decode cX8_tell 47 = .ok (.putfield 15, 3) := by decide +kernel
theorem dX8_tell_50 : decode cX8_tell 50 = .ok (.aload_n 0, 1) := by decide +kernel
theorem dX8_tell_51 : decode cX8_tell 51 = .ok (.getfield 15, 3) := by decide +kernel
theorem dX8_tell_54 : decode cX8_tell 54 = .ok (.ireturn, 1) := by decide +kernel
theorem dX8_become_0 : decode cX8_become 0 = .ok (.aload_n 1, 1) := by decide +kernel
theorem dX8_become_1 : decode cX8_become 1 = .ok (.getfield 9, 3) := by decide +kernel
theorem dX8_become_4 : decode cX8_become 4 = .ok (.iconst 0, 1) := by decide +kernel
theorem dX8_become_5 : decode cX8_become 5 = .ok (.aload_n 0, 1) := by decide +kernel
theorem dX8_become_6 : decode cX8_become 6 = .ok (.getfield 9, 3) := by decide +kernel
theorem dX8_become_9 : decode cX8_become 9 = .ok (.iconst 0, 1) := by decide +kernel
theorem dX8_become_10 : decode cX8_become 10 = .ok (.bipush 12, 2) := by decide +kernel
theorem dX8_become_12 : decode cX8_become 12 = .ok (.invokestatic 19, 3) := by decide +kernel
theorem dX8_become_15 : decode cX8_become 15 = .ok (.aload_n 0, 1) := by decide +kernel
theorem dX8_become_16 : decode cX8_become 16 = .ok (.aload_n 1, 1) := by decide +kernel
theorem dX8_become_17 : decode cX8_become 17 = .ok (.getfield 15, 3) := by decide +kernel
theorem dX8_become_20 : decode cX8_become 20 = .ok (.putfield 15, 3) := by decide +kernel
theorem dX8_become_23 : decode cX8_become 23 = .ok (.return_, 1) := by decide +kernel
theorem dX9_init_0 : decode cX9_init 0 = .ok (.aload_n 0, 1) := by decide +kernel
theorem dX9_init_1 : decode cX9_init 1 = .ok (.invokespecial 3, 3) := by decide +kernel
theorem dX9_init_4 : decode cX9_init 4 = .ok (.aload_n 0, 1) := by decide +kernel
theorem dX9_init_5 : decode cX9_init 5 = .ok (.iconst 4, 1) := by decide +kernel
theorem dX9_init_6 : decode cX9_init 6 = .ok (.putfield 9, 3) := by decide +kernel
theorem dX9_init_9 : decode cX9_init 9 = .ok (.return_, 1) := by decide +kernel
theorem dX9_stands_0 : decode cX9_stands 0 = .ok (.aload_n 0, 1) := by decide +kernel
theorem dX9_stands_1 : decode cX9_stands 1 = .ok (.iload_n 1, 1) := by decide +kernel
theorem dX9_stands_2 : decode cX9_stands 2 = .ok (.putfield 15, 3) := by decide +kernel
theorem dX9_stands_5 : decode cX9_stands 5 = .ok (.aload_n 0, 1) := by decide +kernel
theorem dX9_stands_6 : decode cX9_stands 6 = .ok (.iload_n 2, 1) := by decide +kernel
theorem dX9_stands_7 : decode cX9_stands 7 = .ok (.putfield 18, 3) := by decide +kernel
theorem dX9_stands_10 : decode cX9_stands 10 = .ok (.aload_n 0, 1) := by decide +kernel
theorem dX9_stands_11 : decode cX9_stands 11 = .ok (.iload_n 3, 1) := by decide +kernel
theorem dX9_stands_12 : decode cX9_stands 12 = .ok (.putfield 21, 3) := by decide +kernel
theorem dX9_stands_15 : decode cX9_stands 15 = .ok (.aload_n 0, 1) := by decide +kernel
theorem dX9_stands_16 : decode cX9_stands 16 = .ok (.iconst 4, 1) := by decide +kernel
theorem dX9_stands_17 : decode cX9_stands 17 = .ok (.putfield 9, 3) := by decide +kernel
theorem dX9_stands_20 : decode cX9_stands 20 = .ok (.return_, 1) := by decide +kernel
theorem dX9_become_0 : decode cX9_become 0 = .ok (.aload_n 0, 1) := by decide +kernel
theorem dX9_become_1 : decode cX9_become 1 = .ok (.aload_n 1, 1) := by decide +kernel
theorem dX9_become_2 : decode cX9_become 2 = .ok (.getfield 24, 3) := by decide +kernel
theorem dX9_become_5 : decode cX9_become 5 = .ok (.putfield 24, 3) := by decide +kernel
theorem dX9_become_8 : decode cX9_become 8 = .ok (.aload_n 0, 1) := by decide +kernel
theorem dX9_become_9 : decode cX9_become 9 = .ok (.aload_n 1, 1) := by decide +kernel
theorem dX9_become_10 : decode cX9_become 10 = .ok (.getfield 27, 3) := by decide +kernel
theorem dX9_become_13 : decode cX9_become 13 = .ok (.putfield 27, 3) := by decide +kernel
theorem dX9_become_16 : decode cX9_become 16 = .ok (.aload_n 0, 1) := by decide +kernel
theorem dX9_become_17 : decode cX9_become 17 = .ok (.aload_n 1, 1) := by decide +kernel
theorem dX9_become_18 : decode cX9_become 18 = .ok (.getfield 15, 3) := by decide +kernel
theorem dX9_become_21 : decode cX9_become 21 = .ok (.putfield 15, 3) := by decide +kernel
theorem dX9_become_24 : decode cX9_become 24 = .ok (.aload_n 0, 1) := by decide +kernel
theorem dX9_become_25 : decode cX9_become 25 = .ok (.aload_n 1, 1) := by decide +kernel
theorem dX9_become_26 : decode cX9_become 26 = .ok (.getfield 18, 3) := by decide +kernel
theorem dX9_become_29 : decode cX9_become 29 = .ok (.putfield 18, 3) := by decide +kernel
theorem dX9_become_32 : decode cX9_become 32 = .ok (.aload_n 0, 1) := by decide +kernel
theorem dX9_become_33 : decode cX9_become 33 = .ok (.aload_n 1, 1) := by decide +kernel
theorem dX9_become_34 : decode cX9_become 34 = .ok (.getfield 21, 3) := by decide +kernel
theorem dX9_become_37 : decode cX9_become 37 = .ok (.putfield 21, 3) := by decide +kernel
theorem dX9_become_40 : decode cX9_become 40 = .ok (.aload_n 0, 1) := by decide +kernel
theorem dX9_become_41 : decode cX9_become 41 = .ok (.aload_n 1, 1) := by decide +kernel
theorem dX9_become_42 : decode cX9_become 42 = .ok (.getfield 30, 3) := by decide +kernel
theorem dX9_become_45 : decode cX9_become 45 = .ok (.putfield 30, 3) := by decide +kernel
theorem dX9_become_48 : decode cX9_become 48 = .ok (.aload_n 0, 1) := by decide +kernel
theorem dX9_become_49 : decode cX9_become 49 = .ok (.aload_n 1, 1) := by decide +kernel
theorem dX9_become_50 : decode cX9_become 50 = .ok (.getfield 9, 3) := by decide +kernel
theorem dX9_become_53 : decode cX9_become 53 = .ok (.putfield 9, 3) := by decide +kernel
theorem dX9_become_56 : decode cX9_become 56 = .ok (.return_, 1) := by decide +kernel
theorem dX10_init_0 : decode cX10_init 0 = .ok (.aload_n 0, 1) := by decide +kernel
theorem dX10_init_1 : decode cX10_init 1 = .ok (.invokespecial 5, 3) := by decide +kernel
theorem dX10_init_4 : decode cX10_init 4 = .ok (.aload_n 0, 1) := by decide +kernel
theorem dX10_init_5 : decode cX10_init 5 = .ok (.new 11, 3) := by decide +kernel
theorem dX10_init_8 : decode cX10_init 8 = .ok (.dup, 1) := by decide +kernel
theorem dX10_init_9 : decode cX10_init 9 = .ok (.invokespecial 13, 3) := by decide +kernel
theorem dX10_init_12 : decode cX10_init 12 = .ok (.putfield 14, 3) := by decide +kernel
theorem dX10_init_15 : decode cX10_init 15 = .ok (.aload_n 0, 1) := by decide +kernel
theorem dX10_init_16 : decode cX10_init 16 = .ok (.new 18, 3) := by decide +kernel
theorem dX10_init_19 : decode cX10_init 19 = .ok (.dup, 1) := by decide +kernel
theorem dX10_init_20 : decode cX10_init 20 = .ok (.invokespecial 20, 3) := by decide +kernel
theorem dX10_init_23 : decode cX10_init 23 = .ok (.putfield 21, 3) := by decide +kernel
theorem dX10_init_26 : decode cX10_init 26 = .ok (.aload_n 0, 1) := by decide +kernel
theorem dX10_init_27 : decode cX10_init 27 = .ok (.new 25, 3) := by decide +kernel
theorem dX10_init_30 : decode cX10_init 30 = .ok (.dup, 1) := by decide +kernel
theorem dX10_init_31 : decode cX10_init 31 = .ok (.invokespecial 27, 3) := by decide +kernel
theorem dX10_init_34 : decode cX10_init 34 = .ok (.putfield 28, 3) := by decide +kernel
theorem dX10_init_37 : decode cX10_init 37 = .ok (.aload_n 0, 1) := by decide +kernel
theorem dX10_init_38 : decode cX10_init 38 = .ok (.bipush 6, 2) := by decide +kernel
theorem dX10_init_40 : decode cX10_init 40 = .ok (.anewarray 32, 3) := by decide +kernel
theorem dX10_init_43 : decode cX10_init 43 = .ok (.putfield 34, 3) := by decide +kernel
theorem dX10_init_46 : decode cX10_init 46 = .ok (.new 38, 3) := by decide +kernel
theorem dX10_init_49 : decode cX10_init 49 = .ok (.dup, 1) := by decide +kernel
theorem dX10_init_50 : decode cX10_init 50 = .ok (.iconst 2, 1) := by decide +kernel
theorem dX10_init_51 : decode cX10_init 51 = .ok (.iconst 1, 1) := by decide +kernel
theorem dX10_init_52 : decode cX10_init 52 = .ok (.iconst 4, 1) := by decide +kernel
theorem dX10_init_53 : decode cX10_init 53 = .ok (.newarray .long, 2) := by decide +kernel
theorem dX10_init_55 : decode cX10_init 55 = .ok (.invokespecial 40, 3) := by decide +kernel
theorem dX10_init_58 : decode cX10_init 58 = .ok (.astore_n 1, 1) := by decide +kernel
theorem dX10_init_59 : decode cX10_init 59 = .ok (.aload_n 0, 1) := by decide +kernel
theorem dX10_init_60 : decode cX10_init 60 = .ok (.new 43, 3) := by decide +kernel
theorem dX10_init_63 : decode cX10_init 63 = .ok (.dup, 1) := by decide +kernel
theorem dX10_init_64 : decode cX10_init 64 = .ok (.aload_n 1, 1) := by decide +kernel
theorem dX10_init_65 : decode cX10_init 65 = .ok (.invokespecial 45, 3) := by decide +kernel
theorem dX10_init_68 : decode cX10_init 68 = .ok (.putfield 48, 3) := by decide +kernel
theorem dX10_init_71 : decode cX10_init 71 = .ok (.aload_n 0, 1) := by decide +kernel
theorem dX10_init_72 : decode cX10_init 72 = .ok (.new 43, 3) := by decide +kernel
theorem dX10_init_75 : decode cX10_init 75 = .ok (.dup, 1) := by decide +kernel
theorem dX10_init_76 : decode cX10_init 76 = .ok (.aload_n 1, 1) := by decide +kernel
theorem dX10_init_77 : decode cX10_init 77 = .ok (.invokespecial 45, 3) := by decide +kernel
theorem dX10_init_80 : decode cX10_init 80 = .ok (.putfield 52, 3) := by decide +kernel
theorem dX10_init_83 : decode cX10_init 83 = .ok (.aload_n 0, 1) := by decide +kernel
theorem dX10_init_84 : decode cX10_init 84 = .ok (.new 55, 3) := by decide +kernel
theorem dX10_init_87 : decode cX10_init 87 = .ok (.dup, 1) := by decide +kernel
theorem dX10_init_88 : decode cX10_init 88 = .ok (.aload_n 1, 1) := by decide +kernel
theorem dX10_init_89 : decode cX10_init 89 = .ok (.invokespecial 57, 3) := by decide +kernel
theorem dX10_init_92 : decode cX10_init 92 = .ok (.putfield 58, 3) := by decide +kernel
theorem dX10_init_95 : decode cX10_init 95 = .ok (.aload_n 0, 1) := by decide +kernel
theorem dX10_init_96 : decode cX10_init 96 = .ok (.new 62, 3) := by decide +kernel
theorem dX10_init_99 : decode cX10_init 99 = .ok (.dup, 1) := by decide +kernel
theorem dX10_init_100 : decode cX10_init 100 = .ok (.aload_n 1, 1) := by decide +kernel
theorem dX10_init_101 : decode cX10_init 101 = .ok (.invokespecial 64, 3) := by decide +kernel
theorem dX10_init_104 : decode cX10_init 104 = .ok (.putfield 65, 3) := by decide +kernel
theorem dX10_init_107 : decode cX10_init 107 = .ok (.aload_n 0, 1) := by decide +kernel
theorem dX10_init_108 : decode cX10_init 108 = .ok (.new 62, 3) := by decide +kernel
theorem dX10_init_111 : decode cX10_init 111 = .ok (.dup, 1) := by decide +kernel
theorem dX10_init_112 : decode cX10_init 112 = .ok (.aload_n 1, 1) := by decide +kernel
theorem dX10_init_113 : decode cX10_init 113 = .ok (.invokespecial 64, 3) := by decide +kernel
theorem dX10_init_116 : decode cX10_init 116 = .ok (.putfield 69, 3) := by decide +kernel
theorem dX10_init_119 : decode cX10_init 119 = .ok (.aload_n 0, 1) := by decide +kernel
theorem dX10_init_120 : decode cX10_init 120 = .ok (.new 72, 3) := by decide +kernel
theorem dX10_init_123 : decode cX10_init 123 = .ok (.dup, 1) := by decide +kernel
theorem dX10_init_124 : decode cX10_init 124 = .ok (.aload_n 1, 1) := by decide +kernel
theorem dX10_init_125 : decode cX10_init 125 = .ok (.invokespecial 74, 3) := by decide +kernel
theorem dX10_init_128 : decode cX10_init 128 = .ok (.putfield 75, 3) := by decide +kernel
theorem dX10_init_131 : decode cX10_init 131 = .ok (.iconst 0, 1) := by decide +kernel
theorem dX10_init_132 : decode cX10_init 132 = .ok (.istore_n 2, 1) := by decide +kernel
theorem dX10_init_133 : decode cX10_init 133 = .ok (.iload_n 2, 1) := by decide +kernel
theorem dX10_init_134 : decode cX10_init 134 = .ok (.bipush 6, 2) := by decide +kernel
theorem dX10_init_136 : decode cX10_init 136 = .ok (.if_icmp .ge 22, 3) := by decide +kernel
theorem dX10_init_139 : decode cX10_init 139 = .ok (.aload_n 0, 1) := by decide +kernel
theorem dX10_init_140 : decode cX10_init 140 = .ok (.getfield 34, 3) := by decide +kernel
theorem dX10_init_143 : decode cX10_init 143 = .ok (.iload_n 2, 1) := by decide +kernel
theorem dX10_init_144 : decode cX10_init 144 = .ok (.new 32, 3) := by decide +kernel
theorem dX10_init_147 : decode cX10_init 147 = .ok (.dup, 1) := by decide +kernel
theorem dX10_init_148 : decode cX10_init 148 = .ok (.invokespecial 79, 3) := by decide +kernel
theorem dX10_init_151 : decode cX10_init 151 = .ok (.aastore, 1) := by decide +kernel
theorem dX10_init_152 : decode cX10_init 152 = .ok (.iinc 2 1, 3) := by decide +kernel
theorem dX10_init_155 : decode cX10_init 155 = .ok (.goto (-22), 3) := by decide +kernel
theorem dX10_init_158 : decode cX10_init 158 = .ok (.return_, 1) := by decide +kernel
theorem dX10_feed_0 : decode cX10_feed 0 = .ok (.iload_n 1, 1) := by decide +kernel
theorem dX10_feed_1 : decode cX10_feed 1 = .ok (.ifCond .lt 9, 3) := by decide +kernel
theorem dX10_feed_4 : decode cX10_feed 4 = .ok (.iload_n 1, 1) := by decide +kernel
theorem dX10_feed_5 : decode cX10_feed 5 = .ok (.bipush 127, 2) := by decide +kernel
theorem dX10_feed_7 : decode cX10_feed 7 = .ok (.if_icmp .le 6, 3) := by decide +kernel
theorem dX10_feed_10 : decode cX10_feed 10 = .ok (.bipush (-2), 2) := by decide +kernel
theorem dX10_feed_12 : decode cX10_feed 12 = .ok (.ireturn, 1) := by decide +kernel
theorem dX10_feed_13 : decode cX10_feed 13 = .ok (.aload_n 0, 1) := by decide +kernel
theorem dX10_feed_14 : decode cX10_feed 14 = .ok (.getfield 14, 3) := by decide +kernel
theorem dX10_feed_17 : decode cX10_feed 17 = .ok (.iload_n 1, 1) := by decide +kernel
theorem dX10_feed_18 : decode cX10_feed 18 = .ok (.invokevirtual 80, 3) := by decide +kernel
theorem dX10_feed_21 : decode cX10_feed 21 = .ok (.ifCond .eq 13, 3) := by decide +kernel
theorem dX10_feed_24 : decode cX10_feed 24 = .ok (.aload_n 0, 1) := by decide +kernel
theorem dX10_feed_25 : decode cX10_feed 25 = .ok (.getfield 14, 3) := by decide +kernel
theorem dX10_feed_28 : decode cX10_feed 28 = .ok (.getfield 84, 3) := by decide +kernel
theorem dX10_feed_31 : decode cX10_feed 31 = .ok (.goto 5, 3) := by decide +kernel
theorem dX10_feed_34 : decode cX10_feed 34 = .ok (.bipush (-4), 2) := by decide +kernel
theorem dX10_feed_36 : decode cX10_feed 36 = .ok (.ireturn, 1) := by decide +kernel
theorem dX10_land_0 : decode cX10_land 0 = .ok (.aload_n 0, 1) := by decide +kernel
theorem dX10_land_1 : decode cX10_land 1 = .ok (.getfield 88, 3) := by decide +kernel
theorem dX10_land_4 : decode cX10_land 4 = .ok (.bipush 6, 2) := by decide +kernel
theorem dX10_land_6 : decode cX10_land 6 = .ok (.if_icmp .lt 6, 3) := by decide +kernel
theorem dX10_land_9 : decode cX10_land 9 = .ok (.bipush (-4), 2) := by decide +kernel
theorem dX10_land_11 : decode cX10_land 11 = .ok (.ireturn, 1) := by decide +kernel
theorem dX10_land_12 : decode cX10_land 12 = .ok (.aload_n 0, 1) := by decide +kernel
theorem dX10_land_13 : decode cX10_land 13 = .ok (.getfield 14, 3) := by decide +kernel
theorem dX10_land_16 : decode cX10_land 16 = .ok (.invokevirtual 91, 3) := by decide +kernel
theorem dX10_land_19 : decode cX10_land 19 = .ok (.astore_n 1, 1) := by decide +kernel
theorem dX10_land_20 : decode cX10_land 20 = .ok (.aload_n 0, 1) := by decide +kernel
theorem dX10_land_21 : decode cX10_land 21 = .ok (.getfield 14, 3) := by decide +kernel
theorem dX10_land_24 : decode cX10_land 24 = .ok (.iconst 0, 1) := by decide +kernel
theorem dX10_land_25 : decode cX10_land 25 = .ok (.putfield 84, 3) := by decide +kernel
theorem dX10_land_28 : decode cX10_land 28 = .ok (.aload_n 1, 1) := by decide +kernel
theorem dX10_land_29 : decode cX10_land 29 = .ok (.ifnonnull 14, 3) := by decide +kernel
theorem dX10_land_32 : decode cX10_land 32 = .ok (.bipush (-10), 2) := by decide +kernel
theorem dX10_land_34 : decode cX10_land 34 = .ok (.aload_n 0, 1) := by decide +kernel
theorem dX10_land_35 : decode cX10_land 35 = .ok (.getfield 14, 3) := by decide +kernel
theorem dX10_land_38 : decode cX10_land 38 = .ok (.getfield 95, 3) := by decide +kernel
theorem dX10_land_41 : decode cX10_land 41 = .ok (.isub, 1) := by decide +kernel
theorem dX10_land_42 : decode cX10_land 42 = .ok (.ireturn, 1) := by decide +kernel
theorem dX10_land_43 : decode cX10_land 43 = .ok (.aload_n 0, 1) := by decide +kernel
theorem dX10_land_44 : decode cX10_land 44 = .ok (.getfield 48, 3) := by decide +kernel
theorem dX10_land_47 : decode cX10_land 47 = .ok (.aload_n 1, 1) := by decide +kernel
theorem dX10_land_48 : decode cX10_land 48 = .ok (.putfield 98, 3) := by decide +kernel
theorem dX10_land_51 : decode cX10_land 51 = .ok (.aload_n 0, 1) := by decide +kernel
theorem dX10_land_52 : decode cX10_land 52 = .ok (.dup, 1) := by decide +kernel
theorem dX10_land_53 : decode cX10_land 53 = .ok (.getfield 88, 3) := by decide +kernel
theorem dX10_land_56 : decode cX10_land 56 = .ok (.iconst 1, 1) := by decide +kernel
theorem dX10_land_57 : decode cX10_land 57 = .ok (.iadd, 1) := by decide +kernel
theorem dX10_land_58 : decode cX10_land 58 = .ok (.putfield 88, 3) := by decide +kernel
theorem dX10_land_61 : decode cX10_land 61 = .ok (.aload_n 0, 1) := by decide +kernel
theorem dX10_land_62 : decode cX10_land 62 = .ok (.getfield 88, 3) := by decide +kernel
theorem dX10_land_65 : decode cX10_land 65 = .ok (.iconst 1, 1) := by decide +kernel
theorem dX10_land_66 : decode cX10_land 66 = .ok (.isub, 1) := by decide +kernel
theorem dX10_land_67 : decode cX10_land 67 = .ok (.ireturn, 1) := by decide +kernel
theorem dX10_told_0 : decode cX10_told 0 = .ok (.iload_n 1, 1) := by decide +kernel
theorem dX10_told_1 : decode cX10_told 1 = .ok (.lookupswitch 49 #[(0, 27), (1, 38)], 27) := by decide +kernel
theorem dX10_told_28 : decode cX10_told 28 = .ok (.aload_n 0, 1) := by decide +kernel
theorem dX10_told_29 : decode cX10_told 29 = .ok (.getfield 48, 3) := by decide +kernel
theorem dX10_told_32 : decode cX10_told 32 = .ok (.getfield 98, 3) := by decide +kernel
theorem dX10_told_35 : decode cX10_told 35 = .ok (.getfield 102, 3) := by decide +kernel
theorem dX10_told_38 : decode cX10_told 38 = .ok (.ireturn, 1) := by decide +kernel
theorem dX10_told_39 : decode cX10_told 39 = .ok (.aload_n 0, 1) := by decide +kernel
theorem dX10_told_40 : decode cX10_told 40 = .ok (.getfield 48, 3) := by decide +kernel
theorem dX10_told_43 : decode cX10_told 43 = .ok (.getfield 98, 3) := by decide +kernel
theorem dX10_told_46 : decode cX10_told 46 = .ok (.getfield 105, 3) := by decide +kernel
theorem dX10_told_49 : decode cX10_told 49 = .ok (.ireturn, 1) := by decide +kernel
theorem dX10_told_50 : decode cX10_told 50 = .ok (.iconst (-1), 1) := by decide +kernel
theorem dX10_told_51 : decode cX10_told 51 = .ok (.ireturn, 1) := by decide +kernel
theorem dX10_ground_0 : decode cX10_ground 0 = .ok (.iload_n 1, 1) := by decide +kernel
theorem dX10_ground_1 : decode cX10_ground 1 = .ok (.invokestatic 108, 3) := by decide +kernel
theorem dX10_ground_4 : decode cX10_ground 4 = .ok (.ifCond .eq 12, 3) := by decide +kernel
theorem dX10_ground_7 : decode cX10_ground 7 = .ok (.iload_n 2, 1) := by decide +kernel
theorem dX10_ground_8 : decode cX10_ground 8 = .ok (.ifCond .lt 8, 3) := by decide +kernel
theorem dX10_ground_11 : decode cX10_ground 11 = .ok (.iload_n 2, 1) := by decide +kernel
theorem dX10_ground_12 : decode cX10_ground 12 = .ok (.iconst 3, 1) := by decide +kernel
theorem dX10_ground_13 : decode cX10_ground 13 = .ok (.if_icmp .le 5, 3) := by decide +kernel
theorem dX10_ground_16 : decode cX10_ground 16 = .ok (.iconst (-1), 1) := by decide +kernel
theorem dX10_ground_17 : decode cX10_ground 17 = .ok (.ireturn, 1) := by decide +kernel
theorem dX10_ground_18 : decode cX10_ground 18 = .ok (.aload_n 0, 1) := by decide +kernel
theorem dX10_ground_19 : decode cX10_ground 19 = .ok (.getfield 48, 3) := by decide +kernel
theorem dX10_ground_22 : decode cX10_ground 22 = .ok (.getfield 98, 3) := by decide +kernel
theorem dX10_ground_25 : decode cX10_ground 25 = .ok (.iload_n 2, 1) := by decide +kernel
theorem dX10_ground_26 : decode cX10_ground 26 = .ok (.invokevirtual 111, 3) := by decide +kernel
theorem dX10_ground_29 : decode cX10_ground 29 = .ok (.iload_n 1, 1) := by decide +kernel
theorem dX10_ground_30 : decode cX10_ground 30 = .ok (.invokestatic 115, 3) := by decide +kernel
theorem dX10_ground_33 : decode cX10_ground 33 = .ok (.ifCond .eq 7, 3) := by decide +kernel
theorem dX10_ground_36 : decode cX10_ground 36 = .ok (.iconst 1, 1) := by decide +kernel
theorem dX10_ground_37 : decode cX10_ground 37 = .ok (.goto 4, 3) := by decide +kernel
theorem dX10_ground_40 : decode cX10_ground 40 = .ok (.iconst 0, 1) := by decide +kernel
theorem dX10_ground_41 : decode cX10_ground 41 = .ok (.ireturn, 1) := by decide +kernel
theorem dX10_walker_0 : decode cX10_walker 0 = .ok (.iload_n 1, 1) := by decide +kernel
theorem dX10_walker_1 : decode cX10_walker 1 = .ok (.invokestatic 119, 3) := by decide +kernel
theorem dX10_walker_4 : decode cX10_walker 4 = .ok (.ifCond .eq 18, 3) := by decide +kernel
theorem dX10_walker_7 : decode cX10_walker 7 = .ok (.iload_n 3, 1) := by decide +kernel
theorem dX10_walker_8 : decode cX10_walker 8 = .ok (.invokestatic 108, 3) := by decide +kernel
theorem dX10_walker_11 : decode cX10_walker 11 = .ok (.ifCond .eq 11, 3) := by decide +kernel
theorem dX10_walker_14 : decode cX10_walker 14 = .ok (.iload 4, 2) := by decide +kernel
theorem dX10_walker_16 : decode cX10_walker 16 = .ok (.invokestatic 122, 3) := by decide +kernel
theorem dX10_walker_19 : decode cX10_walker 19 = .ok (.ifCond .ne 5, 3) := by decide +kernel
theorem dX10_walker_22 : decode cX10_walker 22 = .ok (.iconst (-1), 1) := by decide +kernel
theorem dX10_walker_23 : decode cX10_walker 23 = .ok (.ireturn, 1) := by decide +kernel
theorem dX10_walker_24 : decode cX10_walker 24 = .ok (.iload_n 2, 1) := by decide +kernel
theorem dX10_walker_25 : decode cX10_walker 25 = .ok (.invokestatic 125, 3) := by decide +kernel
theorem dX10_walker_28 : decode cX10_walker 28 = .ok (.ifCond .ne 6, 3) := by decide +kernel
theorem dX10_walker_31 : decode cX10_walker 31 = .ok (.bipush (-2), 2) := by decide +kernel
theorem dX10_walker_33 : decode cX10_walker 33 = .ok (.ireturn, 1) := by decide +kernel
theorem dX10_walker_34 : decode cX10_walker 34 = .ok (.aload_n 0, 1) := by decide +kernel
theorem dX10_walker_35 : decode cX10_walker 35 = .ok (.getfield 48, 3) := by decide +kernel
theorem dX10_walker_38 : decode cX10_walker 38 = .ok (.getfield 98, 3) := by decide +kernel
theorem dX10_walker_41 : decode cX10_walker 41 = .ok (.getfield 128, 3) := by decide +kernel
theorem dX10_walker_44 : decode cX10_walker 44 = .ok (.iload_n 3, 1) := by decide +kernel
theorem dX10_walker_45 : decode cX10_walker 45 = .ok (.invokestatic 115, 3) := by decide +kernel
theorem dX10_walker_48 : decode cX10_walker 48 = .ok (.ifCond .eq 6, 3) := by decide +kernel
theorem dX10_walker_51 : decode cX10_walker 51 = .ok (.bipush (-3), 2) := by decide +kernel
theorem dX10_walker_53 : decode cX10_walker 53 = .ok (.ireturn, 1) := by decide +kernel
theorem dX10_walker_54 : decode cX10_walker 54 = .ok (.aload_n 0, 1) := by decide +kernel
theorem dX10_walker_55 : decode cX10_walker 55 = .ok (.getfield 48, 3) := by decide +kernel
theorem dX10_walker_58 : decode cX10_walker 58 = .ok (.invokevirtual 132, 3) := by decide +kernel
theorem dX10_walker_61 : decode cX10_walker 61 = .ok (.astore 5, 2) := by decide +kernel
theorem dX10_walker_63 : decode cX10_walker 63 = .ok (.aload 5, 2) := by decide +kernel
theorem dX10_walker_65 : decode cX10_walker 65 = .ok (.ifnonnull 6, 3) := by decide +kernel
theorem dX10_walker_68 : decode cX10_walker 68 = .ok (.bipush (-4), 2) := by decide +kernel
theorem dX10_walker_70 : decode cX10_walker 70 = .ok (.ireturn, 1) := by decide +kernel
theorem dX10_walker_71 : decode cX10_walker 71 = .ok (.aload 5, 2) := by decide +kernel
theorem dX10_walker_73 : decode cX10_walker 73 = .ok (.iload_n 1, 1) := by decide +kernel
theorem dX10_walker_74 : decode cX10_walker 74 = .ok (.putfield 136, 3) := by decide +kernel
theorem dX10_walker_77 : decode cX10_walker 77 = .ok (.aload 5, 2) := by decide +kernel
theorem dX10_walker_79 : decode cX10_walker 79 = .ok (.iload_n 2, 1) := by decide +kernel
theorem dX10_walker_80 : decode cX10_walker 80 = .ok (.putfield 139, 3) := by decide +kernel
theorem dX10_walker_83 : decode cX10_walker 83 = .ok (.aload 5, 2) := by decide +kernel
theorem dX10_walker_85 : decode cX10_walker 85 = .ok (.iconst 0, 1) := by decide +kernel
theorem dX10_walker_86 : decode cX10_walker 86 = .ok (.putfield 142, 3) := by decide +kernel
theorem dX10_walker_89 : decode cX10_walker 89 = .ok (.aload 5, 2) := by decide +kernel
theorem dX10_walker_91 : decode cX10_walker 91 = .ok (.iload_n 3, 1) := by decide +kernel
theorem dX10_walker_92 : decode cX10_walker 92 = .ok (.iload 4, 2) := by decide +kernel
theorem dX10_walker_94 : decode cX10_walker 94 = .ok (.iconst 0, 1) := by decide +kernel
theorem dX10_walker_95 : decode cX10_walker 95 = .ok (.invokevirtual 145, 3) := by decide +kernel
theorem dX10_walker_98 : decode cX10_walker 98 = .ok (.aload_n 0, 1) := by decide +kernel
theorem dX10_walker_99 : decode cX10_walker 99 = .ok (.getfield 48, 3) := by decide +kernel
theorem dX10_walker_102 : decode cX10_walker 102 = .ok (.getfield 149, 3) := by decide +kernel
theorem dX10_walker_105 : decode cX10_walker 105 = .ok (.iconst 1, 1) := by decide +kernel
theorem dX10_walker_106 : decode cX10_walker 106 = .ok (.isub, 1) := by decide +kernel
theorem dX10_walker_107 : decode cX10_walker 107 = .ok (.ireturn, 1) := by decide +kernel
theorem dX10_of_0 : decode cX10_of 0 = .ok (.aload_n 0, 1) := by decide +kernel
theorem dX10_of_1 : decode cX10_of 1 = .ok (.getfield 48, 3) := by decide +kernel
theorem dX10_of_4 : decode cX10_of 4 = .ok (.iload_n 1, 1) := by decide +kernel
theorem dX10_of_5 : decode cX10_of 5 = .ok (.invokevirtual 152, 3) := by decide +kernel
theorem dX10_of_8 : decode cX10_of 8 = .ok (.astore_n 3, 1) := by decide +kernel
theorem dX10_of_9 : decode cX10_of 9 = .ok (.aload_n 3, 1) := by decide +kernel
theorem dX10_of_10 : decode cX10_of 10 = .ok (.ifnonnull 5, 3) := by decide +kernel
theorem dX10_of_13 : decode cX10_of 13 = .ok (.iconst (-1), 1) := by decide +kernel
theorem dX10_of_14 : decode cX10_of 14 = .ok (.ireturn, 1) := by decide +kernel
theorem dX10_of_15 : decode cX10_of 15 = .ok (.iload_n 2, 1) := by decide +kernel
theorem dX10_of_16 : decode cX10_of 16 = .ok (.tableswitch 96 0 6 #[44, 49, 54, 59, 64, 79, 91], 44) := by decide +kernel
theorem dX10_of_60 : decode cX10_of 60 = .ok (.aload_n 3, 1) := by decide +kernel
theorem dX10_of_61 : decode cX10_of 61 = .ok (.getfield 136, 3) := by decide +kernel
theorem dX10_of_64 : decode cX10_of 64 = .ok (.ireturn, 1) := by decide +kernel
theorem dX10_of_65 : decode cX10_of 65 = .ok (.aload_n 3, 1) := by decide +kernel
theorem dX10_of_66 : decode cX10_of 66 = .ok (.getfield 139, 3) := by decide +kernel
theorem dX10_of_69 : decode cX10_of 69 = .ok (.ireturn, 1) := by decide +kernel
theorem dX10_of_70 : decode cX10_of 70 = .ok (.aload_n 3, 1) := by decide +kernel
theorem dX10_of_71 : decode cX10_of 71 = .ok (.getfield 156, 3) := by decide +kernel
theorem dX10_of_74 : decode cX10_of 74 = .ok (.ireturn, 1) := by decide +kernel
theorem dX10_of_75 : decode cX10_of 75 = .ok (.aload_n 3, 1) := by decide +kernel
theorem dX10_of_76 : decode cX10_of 76 = .ok (.getfield 159, 3) := by decide +kernel
theorem dX10_of_79 : decode cX10_of 79 = .ok (.ireturn, 1) := by decide +kernel
theorem dX10_of_80 : decode cX10_of 80 = .ok (.aload_n 0, 1) := by decide +kernel
theorem dX10_of_81 : decode cX10_of 81 = .ok (.getfield 48, 3) := by decide +kernel
theorem dX10_of_84 : decode cX10_of 84 = .ok (.getfield 98, 3) := by decide +kernel
theorem dX10_of_87 : decode cX10_of 87 = .ok (.aload_n 3, 1) := by decide +kernel
theorem dX10_of_88 : decode cX10_of 88 = .ok (.getfield 162, 3) := by decide +kernel
theorem dX10_of_91 : decode cX10_of 91 = .ok (.invokevirtual 165, 3) := by decide +kernel
theorem dX10_of_94 : decode cX10_of 94 = .ok (.ireturn, 1) := by decide +kernel
theorem dX10_of_95 : decode cX10_of 95 = .ok (.aload_n 3, 1) := by decide +kernel
theorem dX10_of_96 : decode cX10_of 96 = .ok (.getfield 156, 3) := by decide +kernel
theorem dX10_of_99 : decode cX10_of 99 = .ok (.aload_n 3, 1) := by decide +kernel
theorem dX10_of_100 : decode cX10_of 100 = .ok (.getfield 168, 3) := by decide +kernel
theorem dX10_of_103 : decode cX10_of 103 = .ok (.invokestatic 171, 3) := by decide +kernel
theorem dX10_of_106 : decode cX10_of 106 = .ok (.ireturn, 1) := by decide +kernel
theorem dX10_of_107 : decode cX10_of 107 = .ok (.aload_n 3, 1) := by decide +kernel
theorem dX10_of_108 : decode cX10_of 108 = .ok (.getfield 142, 3) := by decide +kernel
theorem dX10_of_111 : decode cX10_of 111 = .ok (.ireturn, 1) := by decide +kernel
theorem dX10_of_112 : decode cX10_of 112 = .ok (.iconst (-1), 1) := by decide +kernel
theorem dX10_of_113 : decode cX10_of 113 = .ok (.ireturn, 1) := by decide +kernel
theorem dX10_put_0 : decode cX10_put 0 = .ok (.aload_n 0, 1) := by decide +kernel
theorem dX10_put_1 : decode cX10_put 1 = .ok (.getfield 48, 3) := by decide +kernel
theorem dX10_put_4 : decode cX10_put 4 = .ok (.iload_n 1, 1) := by decide +kernel
theorem dX10_put_5 : decode cX10_put 5 = .ok (.invokevirtual 152, 3) := by decide +kernel
theorem dX10_put_8 : decode cX10_put 8 = .ok (.astore 5, 2) := by decide +kernel
theorem dX10_put_10 : decode cX10_put 10 = .ok (.aload 5, 2) := by decide +kernel
theorem dX10_put_12 : decode cX10_put 12 = .ok (.ifnull 17, 3) := by decide +kernel
theorem dX10_put_15 : decode cX10_put 15 = .ok (.iload_n 2, 1) := by decide +kernel
theorem dX10_put_16 : decode cX10_put 16 = .ok (.invokestatic 108, 3) := by decide +kernel
theorem dX10_put_19 : decode cX10_put 19 = .ok (.ifCond .eq 10, 3) := by decide +kernel
theorem dX10_put_22 : decode cX10_put 22 = .ok (.iload_n 3, 1) := by decide +kernel
theorem dX10_put_23 : decode cX10_put 23 = .ok (.invokestatic 122, 3) := by decide +kernel
theorem dX10_put_26 : decode cX10_put 26 = .ok (.ifCond .ne 5, 3) := by decide +kernel
theorem dX10_put_29 : decode cX10_put 29 = .ok (.iconst (-1), 1) := by decide +kernel
theorem dX10_put_30 : decode cX10_put 30 = .ok (.ireturn, 1) := by decide +kernel
theorem dX10_put_31 : decode cX10_put 31 = .ok (.iload 4, 2) := by decide +kernel
theorem dX10_put_33 : decode cX10_put 33 = .ok (.ifCond .lt 10, 3) := by decide +kernel
theorem dX10_put_36 : decode cX10_put 36 = .ok (.iload 4, 2) := by decide +kernel
theorem dX10_put_38 : decode cX10_put 38 = .ok (.bipush 8, 2) := by decide +kernel
theorem dX10_put_40 : decode cX10_put 40 = .ok (.if_icmp .lt 6, 3) := by decide +kernel
theorem dX10_put_43 : decode cX10_put 43 = .ok (.bipush (-2), 2) := by decide +kernel
theorem dX10_put_45 : decode cX10_put 45 = .ok (.ireturn, 1) := by decide +kernel
theorem dX10_put_46 : decode cX10_put 46 = .ok (.aload_n 0, 1) := by decide +kernel
theorem dX10_put_47 : decode cX10_put 47 = .ok (.getfield 48, 3) := by decide +kernel
theorem dX10_put_50 : decode cX10_put 50 = .ok (.getfield 98, 3) := by decide +kernel
theorem dX10_put_53 : decode cX10_put 53 = .ok (.getfield 128, 3) := by decide +kernel
theorem dX10_put_56 : decode cX10_put 56 = .ok (.iload_n 2, 1) := by decide +kernel
theorem dX10_put_57 : decode cX10_put 57 = .ok (.invokestatic 115, 3) := by decide +kernel
theorem dX10_put_60 : decode cX10_put 60 = .ok (.ifCond .eq 6, 3) := by decide +kernel
theorem dX10_put_63 : decode cX10_put 63 = .ok (.bipush (-3), 2) := by decide +kernel
theorem dX10_put_65 : decode cX10_put 65 = .ok (.ireturn, 1) := by decide +kernel
theorem dX10_put_66 : decode cX10_put 66 = .ok (.aload 5, 2) := by decide +kernel
theorem dX10_put_68 : decode cX10_put 68 = .ok (.getfield 156, 3) := by decide +kernel
theorem dX10_put_71 : decode cX10_put 71 = .ok (.istore 6, 2) := by decide +kernel
theorem dX10_put_73 : decode cX10_put 73 = .ok (.aload 5, 2) := by decide +kernel
theorem dX10_put_75 : decode cX10_put 75 = .ok (.iload_n 2, 1) := by decide +kernel
theorem dX10_put_76 : decode cX10_put 76 = .ok (.iload_n 3, 1) := by decide +kernel
theorem dX10_put_77 : decode cX10_put 77 = .ok (.iload 4, 2) := by decide +kernel
theorem dX10_put_79 : decode cX10_put 79 = .ok (.invokevirtual 145, 3) := by decide +kernel
theorem dX10_put_82 : decode cX10_put 82 = .ok (.iload 6, 2) := by decide +kernel
theorem dX10_put_84 : decode cX10_put 84 = .ok (.ireturn, 1) := by decide +kernel
theorem dX10_may_0 : decode cX10_may 0 = .ok (.aload_n 0, 1) := by decide +kernel
theorem dX10_may_1 : decode cX10_may 1 = .ok (.getfield 48, 3) := by decide +kernel
theorem dX10_may_4 : decode cX10_may 4 = .ok (.iload_n 1, 1) := by decide +kernel
theorem dX10_may_5 : decode cX10_may 5 = .ok (.invokevirtual 152, 3) := by decide +kernel
theorem dX10_may_8 : decode cX10_may 8 = .ok (.astore_n 2, 1) := by decide +kernel
theorem dX10_may_9 : decode cX10_may 9 = .ok (.aload_n 2, 1) := by decide +kernel
theorem dX10_may_10 : decode cX10_may 10 = .ok (.ifnonnull 7, 3) := by decide +kernel
theorem dX10_may_13 : decode cX10_may 13 = .ok (.iconst (-1), 1) := by decide +kernel
theorem dX10_may_14 : decode cX10_may 14 = .ok (.goto 8, 3) := by decide +kernel
theorem dX10_may_17 : decode cX10_may 17 = .ok (.aload_n 0, 1) := by decide +kernel
theorem dX10_may_18 : decode cX10_may 18 = .ok (.aload_n 2, 1) := by decide +kernel
theorem dX10_may_19 : decode cX10_may 19 = .ok (.invokevirtual 175, 3) := by decide +kernel
theorem dX10_may_22 : decode cX10_may 22 = .ok (.ireturn, 1) := by decide +kernel
theorem dX10_step_0 : decode cX10_step 0 = .ok (.aload_n 0, 1) := by decide +kernel
theorem dX10_step_1 : decode cX10_step 1 = .ok (.getfield 48, 3) := by decide +kernel
theorem dX10_step_4 : decode cX10_step 4 = .ok (.iload_n 1, 1) := by decide +kernel
theorem dX10_step_5 : decode cX10_step 5 = .ok (.invokevirtual 152, 3) := by decide +kernel
theorem dX10_step_8 : decode cX10_step 8 = .ok (.astore_n 3, 1) := by decide +kernel
theorem dX10_step_9 : decode cX10_step 9 = .ok (.aload_n 3, 1) := by decide +kernel
theorem dX10_step_10 : decode cX10_step 10 = .ok (.ifnull 10, 3) := by decide +kernel
theorem dX10_step_13 : decode cX10_step 13 = .ok (.iload_n 2, 1) := by decide +kernel
theorem dX10_step_14 : decode cX10_step 14 = .ok (.invokestatic 179, 3) := by decide +kernel
theorem dX10_step_17 : decode cX10_step 17 = .ok (.ifCond .ne 5, 3) := by decide +kernel
theorem dX10_step_20 : decode cX10_step 20 = .ok (.iconst (-1), 1) := by decide +kernel
theorem dX10_step_21 : decode cX10_step 21 = .ok (.ireturn, 1) := by decide +kernel
theorem dX10_step_22 : decode cX10_step 22 = .ok (.aload_n 0, 1) := by decide +kernel
theorem dX10_step_23 : decode cX10_step 23 = .ok (.aload_n 3, 1) := by decide +kernel
theorem dX10_step_24 : decode cX10_step 24 = .ok (.iload_n 2, 1) := by decide +kernel
theorem dX10_step_25 : decode cX10_step 25 = .ok (.invokevirtual 182, 3) := by decide +kernel
theorem dX10_step_28 : decode cX10_step 28 = .ok (.ifCond .eq 10, 3) := by decide +kernel
theorem dX10_step_31 : decode cX10_step 31 = .ok (.aload_n 3, 1) := by decide +kernel
theorem dX10_step_32 : decode cX10_step 32 = .ok (.getfield 156, 3) := by decide +kernel
theorem dX10_step_35 : decode cX10_step 35 = .ok (.goto 5, 3) := by decide +kernel
theorem dX10_step_38 : decode cX10_step 38 = .ok (.bipush (-3), 2) := by decide +kernel
theorem dX10_step_40 : decode cX10_step 40 = .ok (.ireturn, 1) := by decide +kernel
theorem dX10_allowed_0 : decode cX10_allowed 0 = .ok (.aload_n 0, 1) := by decide +kernel
theorem dX10_allowed_1 : decode cX10_allowed 1 = .ok (.getfield 58, 3) := by decide +kernel
theorem dX10_allowed_4 : decode cX10_allowed 4 = .ok (.aload_n 0, 1) := by decide +kernel
theorem dX10_allowed_5 : decode cX10_allowed 5 = .ok (.getfield 48, 3) := by decide +kernel
theorem dX10_allowed_8 : decode cX10_allowed 8 = .ok (.getfield 98, 3) := by decide +kernel
theorem dX10_allowed_11 : decode cX10_allowed 11 = .ok (.aload_n 1, 1) := by decide +kernel
theorem dX10_allowed_12 : decode cX10_allowed 12 = .ok (.getfield 136, 3) := by decide +kernel
theorem dX10_allowed_15 : decode cX10_allowed 15 = .ok (.aload_n 1, 1) := by decide +kernel
theorem dX10_allowed_16 : decode cX10_allowed 16 = .ok (.getfield 139, 3) := by decide +kernel
theorem dX10_allowed_19 : decode cX10_allowed 19 = .ok (.aload_n 1, 1) := by decide +kernel
theorem dX10_allowed_20 : decode cX10_allowed 20 = .ok (.getfield 162, 3) := by decide +kernel
theorem dX10_allowed_23 : decode cX10_allowed 23 = .ok (.aload_n 1, 1) := by decide +kernel
theorem dX10_allowed_24 : decode cX10_allowed 24 = .ok (.getfield 142, 3) := by decide +kernel
theorem dX10_allowed_27 : decode cX10_allowed 27 = .ok (.invokevirtual 186, 3) := by decide +kernel
theorem dX10_allowed_30 : decode cX10_allowed 30 = .ok (.aload_n 0, 1) := by decide +kernel
theorem dX10_allowed_31 : decode cX10_allowed 31 = .ok (.getfield 58, 3) := by decide +kernel
theorem dX10_allowed_34 : decode cX10_allowed 34 = .ok (.aload_n 1, 1) := by decide +kernel
theorem dX10_allowed_35 : decode cX10_allowed 35 = .ok (.getfield 156, 3) := by decide +kernel
theorem dX10_allowed_38 : decode cX10_allowed 38 = .ok (.aload_n 1, 1) := by decide +kernel
theorem dX10_allowed_39 : decode cX10_allowed 39 = .ok (.getfield 159, 3) := by decide +kernel
theorem dX10_allowed_42 : decode cX10_allowed 42 = .ok (.aload_n 1, 1) := by decide +kernel
theorem dX10_allowed_43 : decode cX10_allowed 43 = .ok (.getfield 168, 3) := by decide +kernel
theorem dX10_allowed_46 : decode cX10_allowed 46 = .ok (.invokevirtual 190, 3) := by decide +kernel
theorem dX10_allowed_49 : decode cX10_allowed 49 = .ok (.ireturn, 1) := by decide +kernel
theorem dX10_goes_0 : decode cX10_goes 0 = .ok (.aload_n 0, 1) := by decide +kernel
theorem dX10_goes_1 : decode cX10_goes 1 = .ok (.aload_n 1, 1) := by decide +kernel
theorem dX10_goes_2 : decode cX10_goes 2 = .ok (.invokevirtual 175, 3) := by decide +kernel
theorem dX10_goes_5 : decode cX10_goes 5 = .ok (.iload_n 2, 1) := by decide +kernel
theorem dX10_goes_6 : decode cX10_goes 6 = .ok (.ishr, 1) := by decide +kernel
theorem dX10_goes_7 : decode cX10_goes 7 = .ok (.iconst 1, 1) := by decide +kernel
theorem dX10_goes_8 : decode cX10_goes 8 = .ok (.iand, 1) := by decide +kernel
theorem dX10_goes_9 : decode cX10_goes 9 = .ok (.ifCond .ne 5, 3) := by decide +kernel
theorem dX10_goes_12 : decode cX10_goes 12 = .ok (.iconst 0, 1) := by decide +kernel
theorem dX10_goes_13 : decode cX10_goes 13 = .ok (.ireturn, 1) := by decide +kernel
theorem dX10_goes_14 : decode cX10_goes 14 = .ok (.aload_n 0, 1) := by decide +kernel
theorem dX10_goes_15 : decode cX10_goes 15 = .ok (.getfield 58, 3) := by decide +kernel
theorem dX10_goes_18 : decode cX10_goes 18 = .ok (.iload_n 2, 1) := by decide +kernel
theorem dX10_goes_19 : decode cX10_goes 19 = .ok (.aload_n 1, 1) := by decide +kernel
theorem dX10_goes_20 : decode cX10_goes 20 = .ok (.getfield 159, 3) := by decide +kernel
theorem dX10_goes_23 : decode cX10_goes 23 = .ok (.aload_n 1, 1) := by decide +kernel
theorem dX10_goes_24 : decode cX10_goes 24 = .ok (.getfield 168, 3) := by decide +kernel
theorem dX10_goes_27 : decode cX10_goes 27 = .ok (.invokevirtual 194, 3) := by decide +kernel
theorem dX10_goes_30 : decode cX10_goes 30 = .ok (.istore_n 3, 1) := by decide +kernel
theorem dX10_goes_31 : decode cX10_goes 31 = .ok (.aload_n 1, 1) := by decide +kernel
theorem dX10_goes_32 : decode cX10_goes 32 = .ok (.iload_n 2, 1) := by decide +kernel
theorem dX10_goes_33 : decode cX10_goes 33 = .ok (.iload_n 3, 1) := by decide +kernel
theorem dX10_goes_34 : decode cX10_goes 34 = .ok (.aload_n 1, 1) := by decide +kernel
theorem dX10_goes_35 : decode cX10_goes 35 = .ok (.getfield 168, 3) := by decide +kernel
theorem dX10_goes_38 : decode cX10_goes 38 = .ok (.invokestatic 197, 3) := by decide +kernel
theorem dX10_goes_41 : decode cX10_goes 41 = .ok (.putfield 168, 3) := by decide +kernel
theorem dX10_goes_44 : decode cX10_goes 44 = .ok (.aload_n 1, 1) := by decide +kernel
theorem dX10_goes_45 : decode cX10_goes 45 = .ok (.iload_n 2, 1) := by decide +kernel
theorem dX10_goes_46 : decode cX10_goes 46 = .ok (.aload_n 1, 1) := by decide +kernel
theorem dX10_goes_47 : decode cX10_goes 47 = .ok (.getfield 159, 3) := by decide +kernel
theorem dX10_goes_50 : decode cX10_goes 50 = .ok (.invokestatic 200, 3) := by decide +kernel
theorem dX10_goes_53 : decode cX10_goes 53 = .ok (.putfield 159, 3) := by decide +kernel
theorem dX10_goes_56 : decode cX10_goes 56 = .ok (.aload_n 1, 1) := by decide +kernel
theorem dX10_goes_57 : decode cX10_goes 57 = .ok (.aload_n 1, 1) := by decide +kernel
theorem dX10_goes_58 : decode cX10_goes 58 = .ok (.getfield 156, 3) := by decide +kernel
theorem dX10_goes_61 : decode cX10_goes 61 = .ok (.iload_n 3, 1) := by decide +kernel
theorem dX10_goes_62 : decode cX10_goes 62 = .ok (.invokestatic 171, 3) := by decide +kernel
theorem dX10_goes_65 : decode cX10_goes 65 = .ok (.putfield 156, 3) := by decide +kernel
theorem dX10_goes_68 : decode cX10_goes 68 = .ok (.aload_n 0, 1) := by decide +kernel
theorem dX10_goes_69 : decode cX10_goes 69 = .ok (.getfield 58, 3) := by decide +kernel
theorem dX10_goes_72 : decode cX10_goes 72 = .ok (.invokevirtual 203, 3) := by decide +kernel
theorem dX10_goes_75 : decode cX10_goes 75 = .ok (.aload_n 1, 1) := by decide +kernel
theorem dX10_goes_76 : decode cX10_goes 76 = .ok (.aload_n 0, 1) := by decide +kernel
theorem dX10_goes_77 : decode cX10_goes 77 = .ok (.getfield 58, 3) := by decide +kernel
theorem dX10_goes_80 : decode cX10_goes 80 = .ok (.getfield 206, 3) := by decide +kernel
theorem dX10_goes_83 : decode cX10_goes 83 = .ok (.putfield 162, 3) := by decide +kernel
theorem dX10_goes_86 : decode cX10_goes 86 = .ok (.aload_n 1, 1) := by decide +kernel
theorem dX10_goes_87 : decode cX10_goes 87 = .ok (.aload_n 0, 1) := by decide +kernel
theorem dX10_goes_88 : decode cX10_goes 88 = .ok (.getfield 58, 3) := by decide +kernel
theorem dX10_goes_91 : decode cX10_goes 91 = .ok (.getfield 207, 3) := by decide +kernel
theorem dX10_goes_94 : decode cX10_goes 94 = .ok (.putfield 142, 3) := by decide +kernel
theorem dX10_goes_97 : decode cX10_goes 97 = .ok (.iconst 1, 1) := by decide +kernel
theorem dX10_goes_98 : decode cX10_goes 98 = .ok (.ireturn, 1) := by decide +kernel
theorem dX10_soonest_0 : decode cX10_soonest 0 = .ok (.aload_n 0, 1) := by decide +kernel
theorem dX10_soonest_1 : decode cX10_soonest 1 = .ok (.getfield 48, 3) := by decide +kernel
theorem dX10_soonest_4 : decode cX10_soonest 4 = .ok (.iload_n 1, 1) := by decide +kernel
theorem dX10_soonest_5 : decode cX10_soonest 5 = .ok (.invokevirtual 152, 3) := by decide +kernel
theorem dX10_soonest_8 : decode cX10_soonest 8 = .ok (.astore 4, 2) := by decide +kernel
theorem dX10_soonest_10 : decode cX10_soonest 10 = .ok (.aload 4, 2) := by decide +kernel
theorem dX10_soonest_12 : decode cX10_soonest 12 = .ok (.ifnull 17, 3) := by decide +kernel
theorem dX10_soonest_15 : decode cX10_soonest 15 = .ok (.iload_n 2, 1) := by decide +kernel
theorem dX10_soonest_16 : decode cX10_soonest 16 = .ok (.invokestatic 108, 3) := by decide +kernel
theorem dX10_soonest_19 : decode cX10_soonest 19 = .ok (.ifCond .eq 10, 3) := by decide +kernel
theorem dX10_soonest_22 : decode cX10_soonest 22 = .ok (.iload_n 3, 1) := by decide +kernel
theorem dX10_soonest_23 : decode cX10_soonest 23 = .ok (.invokestatic 208, 3) := by decide +kernel
theorem dX10_soonest_26 : decode cX10_soonest 26 = .ok (.ifCond .ne 5, 3) := by decide +kernel
theorem dX10_soonest_29 : decode cX10_soonest 29 = .ok (.iconst (-1), 1) := by decide +kernel
theorem dX10_soonest_30 : decode cX10_soonest 30 = .ok (.ireturn, 1) := by decide +kernel
theorem dX10_soonest_31 : decode cX10_soonest 31 = .ok (.aload_n 0, 1) := by decide +kernel
theorem dX10_soonest_32 : decode cX10_soonest 32 = .ok (.getfield 65, 3) := by decide +kernel
theorem dX10_soonest_35 : decode cX10_soonest 35 = .ok (.aload_n 0, 1) := by decide +kernel
theorem dX10_soonest_36 : decode cX10_soonest 36 = .ok (.getfield 48, 3) := by decide +kernel
theorem dX10_soonest_39 : decode cX10_soonest 39 = .ok (.getfield 98, 3) := by decide +kernel
theorem dX10_soonest_42 : decode cX10_soonest 42 = .ok (.aload 4, 2) := by decide +kernel
theorem dX10_soonest_44 : decode cX10_soonest 44 = .ok (.invokevirtual 211, 3) := by decide +kernel
theorem dX10_soonest_47 : decode cX10_soonest 47 = .ok (.aload_n 0, 1) := by decide +kernel
theorem dX10_soonest_48 : decode cX10_soonest 48 = .ok (.getfield 65, 3) := by decide +kernel
theorem dX10_soonest_51 : decode cX10_soonest 51 = .ok (.iload_n 2, 1) := by decide +kernel
theorem dX10_soonest_52 : decode cX10_soonest 52 = .ok (.invokevirtual 215, 3) := by decide +kernel
theorem dX10_soonest_55 : decode cX10_soonest 55 = .ok (.istore 5, 2) := by decide +kernel
theorem dX10_soonest_57 : decode cX10_soonest 57 = .ok (.iload_n 3, 1) := by decide +kernel
theorem dX10_soonest_58 : decode cX10_soonest 58 = .ok (.ifCond .ne 8, 3) := by decide +kernel
theorem dX10_soonest_61 : decode cX10_soonest 61 = .ok (.iload 5, 2) := by decide +kernel
theorem dX10_soonest_63 : decode cX10_soonest 63 = .ok (.goto 12, 3) := by decide +kernel
theorem dX10_soonest_66 : decode cX10_soonest 66 = .ok (.aload_n 0, 1) := by decide +kernel
theorem dX10_soonest_67 : decode cX10_soonest 67 = .ok (.aload 4, 2) := by decide +kernel
theorem dX10_soonest_69 : decode cX10_soonest 69 = .ok (.iload_n 2, 1) := by decide +kernel
theorem dX10_soonest_70 : decode cX10_soonest 70 = .ok (.iload 5, 2) := by decide +kernel
theorem dX10_soonest_72 : decode cX10_soonest 72 = .ok (.invokevirtual 218, 3) := by decide +kernel
theorem dX10_soonest_75 : decode cX10_soonest 75 = .ok (.ireturn, 1) := by decide +kernel
theorem dX10_firstStep_0 : decode cX10_firstStep 0 = .ok (.iconst 0, 1) := by decide +kernel
theorem dX10_firstStep_1 : decode cX10_firstStep 1 = .ok (.istore 4, 2) := by decide +kernel
theorem dX10_firstStep_3 : decode cX10_firstStep 3 = .ok (.iload 4, 2) := by decide +kernel
theorem dX10_firstStep_5 : decode cX10_firstStep 5 = .ok (.bipush 6, 2) := by decide +kernel
theorem dX10_firstStep_7 : decode cX10_firstStep 7 = .ok (.if_icmp .ge 80, 3) := by decide +kernel
theorem dX10_firstStep_10 : decode cX10_firstStep 10 = .ok (.iload_n 3, 1) := by decide +kernel
theorem dX10_firstStep_11 : decode cX10_firstStep 11 = .ok (.ifCond .le 76, 3) := by decide +kernel
theorem dX10_firstStep_14 : decode cX10_firstStep 14 = .ok (.aload_n 0, 1) := by decide +kernel
theorem dX10_firstStep_15 : decode cX10_firstStep 15 = .ok (.getfield 65, 3) := by decide +kernel
theorem dX10_firstStep_18 : decode cX10_firstStep 18 = .ok (.aload_n 0, 1) := by decide +kernel
theorem dX10_firstStep_19 : decode cX10_firstStep 19 = .ok (.getfield 48, 3) := by decide +kernel
theorem dX10_firstStep_22 : decode cX10_firstStep 22 = .ok (.getfield 98, 3) := by decide +kernel
theorem dX10_firstStep_25 : decode cX10_firstStep 25 = .ok (.aload_n 1, 1) := by decide +kernel
theorem dX10_firstStep_26 : decode cX10_firstStep 26 = .ok (.invokevirtual 211, 3) := by decide +kernel
theorem dX10_firstStep_29 : decode cX10_firstStep 29 = .ok (.aload_n 0, 1) := by decide +kernel
theorem dX10_firstStep_30 : decode cX10_firstStep 30 = .ok (.getfield 65, 3) := by decide +kernel
theorem dX10_firstStep_33 : decode cX10_firstStep 33 = .ok (.iconst 1, 1) := by decide +kernel
theorem dX10_firstStep_34 : decode cX10_firstStep 34 = .ok (.iload 4, 2) := by decide +kernel
theorem dX10_firstStep_36 : decode cX10_firstStep 36 = .ok (.ishl, 1) := by decide +kernel
theorem dX10_firstStep_37 : decode cX10_firstStep 37 = .ok (.invokevirtual 222, 3) := by decide +kernel
theorem dX10_firstStep_40 : decode cX10_firstStep 40 = .ok (.iconst 1, 1) := by decide +kernel
theorem dX10_firstStep_41 : decode cX10_firstStep 41 = .ok (.istore 5, 2) := by decide +kernel
theorem dX10_firstStep_43 : decode cX10_firstStep 43 = .ok (.iload 5, 2) := by decide +kernel
theorem dX10_firstStep_45 : decode cX10_firstStep 45 = .ok (.iload_n 3, 1) := by decide +kernel
theorem dX10_firstStep_46 : decode cX10_firstStep 46 = .ok (.if_icmp .ge 18, 3) := by decide +kernel
theorem dX10_firstStep_49 : decode cX10_firstStep 49 = .ok (.aload_n 0, 1) := by decide +kernel
theorem dX10_firstStep_50 : decode cX10_firstStep 50 = .ok (.getfield 65, 3) := by decide +kernel
theorem dX10_firstStep_53 : decode cX10_firstStep 53 = .ok (.bipush 63, 2) := by decide +kernel
theorem dX10_firstStep_55 : decode cX10_firstStep 55 = .ok (.invokevirtual 222, 3) := by decide +kernel
theorem dX10_firstStep_58 : decode cX10_firstStep 58 = .ok (.iinc 5 1, 3) := by decide +kernel
theorem dX10_firstStep_61 : decode cX10_firstStep 61 = .ok (.goto (-18), 3) := by decide +kernel
theorem dX10_firstStep_64 : decode cX10_firstStep 64 = .ok (.aload_n 0, 1) := by decide +kernel
theorem dX10_firstStep_65 : decode cX10_firstStep 65 = .ok (.getfield 65, 3) := by decide +kernel
theorem dX10_firstStep_68 : decode cX10_firstStep 68 = .ok (.invokevirtual 226, 3) := by decide +kernel
theorem dX10_firstStep_71 : decode cX10_firstStep 71 = .ok (.iload_n 2, 1) := by decide +kernel
theorem dX10_firstStep_72 : decode cX10_firstStep 72 = .ok (.invokestatic 115, 3) := by decide +kernel
theorem dX10_firstStep_75 : decode cX10_firstStep 75 = .ok (.ifCond .eq 6, 3) := by decide +kernel
theorem dX10_firstStep_78 : decode cX10_firstStep 78 = .ok (.iload 4, 2) := by decide +kernel
theorem dX10_firstStep_80 : decode cX10_firstStep 80 = .ok (.ireturn, 1) := by decide +kernel
theorem dX10_firstStep_81 : decode cX10_firstStep 81 = .ok (.iinc 4 1, 3) := by decide +kernel
theorem dX10_firstStep_84 : decode cX10_firstStep 84 = .ok (.goto (-81), 3) := by decide +kernel
theorem dX10_firstStep_87 : decode cX10_firstStep 87 = .ok (.bipush (-5), 2) := by decide +kernel
theorem dX10_firstStep_89 : decode cX10_firstStep 89 = .ok (.ireturn, 1) := by decide +kernel
theorem dX10_begin_0 : decode cX10_begin 0 = .ok (.aload_n 0, 1) := by decide +kernel
theorem dX10_begin_1 : decode cX10_begin 1 = .ok (.getfield 48, 3) := by decide +kernel
theorem dX10_begin_4 : decode cX10_begin 4 = .ok (.iload_n 1, 1) := by decide +kernel
theorem dX10_begin_5 : decode cX10_begin 5 = .ok (.invokevirtual 152, 3) := by decide +kernel
theorem dX10_begin_8 : decode cX10_begin 8 = .ok (.astore 4, 2) := by decide +kernel
theorem dX10_begin_10 : decode cX10_begin 10 = .ok (.aload 4, 2) := by decide +kernel
theorem dX10_begin_12 : decode cX10_begin 12 = .ok (.ifnull 17, 3) := by decide +kernel
theorem dX10_begin_15 : decode cX10_begin 15 = .ok (.iload_n 2, 1) := by decide +kernel
theorem dX10_begin_16 : decode cX10_begin 16 = .ok (.invokestatic 108, 3) := by decide +kernel
theorem dX10_begin_19 : decode cX10_begin 19 = .ok (.ifCond .eq 10, 3) := by decide +kernel
theorem dX10_begin_22 : decode cX10_begin 22 = .ok (.iload_n 3, 1) := by decide +kernel
theorem dX10_begin_23 : decode cX10_begin 23 = .ok (.invokestatic 208, 3) := by decide +kernel
theorem dX10_begin_26 : decode cX10_begin 26 = .ok (.ifCond .ne 5, 3) := by decide +kernel
theorem dX10_begin_29 : decode cX10_begin 29 = .ok (.iconst (-1), 1) := by decide +kernel
theorem dX10_begin_30 : decode cX10_begin 30 = .ok (.ireturn, 1) := by decide +kernel
theorem dX10_begin_31 : decode cX10_begin 31 = .ok (.bipush (-5), 2) := by decide +kernel
theorem dX10_begin_33 : decode cX10_begin 33 = .ok (.istore 5, 2) := by decide +kernel
theorem dX10_begin_35 : decode cX10_begin 35 = .ok (.bipush (-5), 2) := by decide +kernel
theorem dX10_begin_37 : decode cX10_begin 37 = .ok (.istore 6, 2) := by decide +kernel
theorem dX10_begin_39 : decode cX10_begin 39 = .ok (.iconst 0, 1) := by decide +kernel
theorem dX10_begin_40 : decode cX10_begin 40 = .ok (.istore 7, 2) := by decide +kernel
theorem dX10_begin_42 : decode cX10_begin 42 = .ok (.iload 7, 2) := by decide +kernel
theorem dX10_begin_44 : decode cX10_begin 44 = .ok (.aload_n 0, 1) := by decide +kernel
theorem dX10_begin_45 : decode cX10_begin 45 = .ok (.getfield 48, 3) := by decide +kernel
theorem dX10_begin_48 : decode cX10_begin 48 = .ok (.getfield 98, 3) := by decide +kernel
theorem dX10_begin_51 : decode cX10_begin 51 = .ok (.invokevirtual 230, 3) := by decide +kernel
theorem dX10_begin_54 : decode cX10_begin 54 = .ok (.if_icmp .ge 72, 3) := by decide +kernel
theorem dX10_begin_57 : decode cX10_begin 57 = .ok (.aload_n 0, 1) := by decide +kernel
theorem dX10_begin_58 : decode cX10_begin 58 = .ok (.getfield 65, 3) := by decide +kernel
theorem dX10_begin_61 : decode cX10_begin 61 = .ok (.aload_n 0, 1) := by decide +kernel
theorem dX10_begin_62 : decode cX10_begin 62 = .ok (.getfield 48, 3) := by decide +kernel
theorem dX10_begin_65 : decode cX10_begin 65 = .ok (.getfield 98, 3) := by decide +kernel
theorem dX10_begin_68 : decode cX10_begin 68 = .ok (.aload 4, 2) := by decide +kernel
theorem dX10_begin_70 : decode cX10_begin 70 = .ok (.aload 4, 2) := by decide +kernel
theorem dX10_begin_72 : decode cX10_begin 72 = .ok (.getfield 136, 3) := by decide +kernel
theorem dX10_begin_75 : decode cX10_begin 75 = .ok (.aload 4, 2) := by decide +kernel
theorem dX10_begin_77 : decode cX10_begin 77 = .ok (.getfield 139, 3) := by decide +kernel
theorem dX10_begin_80 : decode cX10_begin 80 = .ok (.iload 7, 2) := by decide +kernel
theorem dX10_begin_82 : decode cX10_begin 82 = .ok (.invokevirtual 234, 3) := by decide +kernel
theorem dX10_begin_85 : decode cX10_begin 85 = .ok (.aload_n 0, 1) := by decide +kernel
theorem dX10_begin_86 : decode cX10_begin 86 = .ok (.getfield 65, 3) := by decide +kernel
theorem dX10_begin_89 : decode cX10_begin 89 = .ok (.iload_n 2, 1) := by decide +kernel
theorem dX10_begin_90 : decode cX10_begin 90 = .ok (.invokevirtual 215, 3) := by decide +kernel
theorem dX10_begin_93 : decode cX10_begin 93 = .ok (.istore 8, 2) := by decide +kernel
theorem dX10_begin_95 : decode cX10_begin 95 = .ok (.iload 8, 2) := by decide +kernel
theorem dX10_begin_97 : decode cX10_begin 97 = .ok (.ifCond .lt 23, 3) := by decide +kernel
theorem dX10_begin_100 : decode cX10_begin 100 = .ok (.iload 5, 2) := by decide +kernel
theorem dX10_begin_102 : decode cX10_begin 102 = .ok (.ifCond .lt 10, 3) := by decide +kernel
theorem dX10_begin_105 : decode cX10_begin 105 = .ok (.iload 8, 2) := by decide +kernel
theorem dX10_begin_107 : decode cX10_begin 107 = .ok (.iload 6, 2) := by decide +kernel
theorem dX10_begin_109 : decode cX10_begin 109 = .ok (.if_icmp .ge 11, 3) := by decide +kernel
theorem dX10_begin_112 : decode cX10_begin 112 = .ok (.iload 7, 2) := by decide +kernel
theorem dX10_begin_114 : decode cX10_begin 114 = .ok (.istore 5, 2) := by decide +kernel
theorem dX10_begin_116 : decode cX10_begin 116 = .ok (.iload 8, 2) := by decide +kernel
theorem dX10_begin_118 : decode cX10_begin 118 = .ok (.istore 6, 2) := by decide +kernel
theorem dX10_begin_120 : decode cX10_begin 120 = .ok (.iinc 7 1, 3) := by decide +kernel
theorem dX10_begin_123 : decode cX10_begin 123 = .ok (.goto (-81), 3) := by decide +kernel
theorem dX10_begin_126 : decode cX10_begin 126 = .ok (.iload_n 3, 1) := by decide +kernel
theorem dX10_begin_127 : decode cX10_begin 127 = .ok (.ifCond .ne 8, 3) := by decide +kernel
theorem dX10_begin_130 : decode cX10_begin 130 = .ok (.iload 5, 2) := by decide +kernel
theorem dX10_begin_132 : decode cX10_begin 132 = .ok (.goto 5, 3) := by decide +kernel
theorem dX10_begin_135 : decode cX10_begin 135 = .ok (.iload 6, 2) := by decide +kernel
theorem dX10_begin_137 : decode cX10_begin 137 = .ok (.ireturn, 1) := by decide +kernel
theorem dX10_reached_0 : decode cX10_reached 0 = .ok (.aload_n 0, 1) := by decide +kernel
theorem dX10_reached_1 : decode cX10_reached 1 = .ok (.getfield 48, 3) := by decide +kernel
theorem dX10_reached_4 : decode cX10_reached 4 = .ok (.iload_n 1, 1) := by decide +kernel
theorem dX10_reached_5 : decode cX10_reached 5 = .ok (.invokevirtual 152, 3) := by decide +kernel
theorem dX10_reached_8 : decode cX10_reached 8 = .ok (.astore_n 3, 1) := by decide +kernel
theorem dX10_reached_9 : decode cX10_reached 9 = .ok (.aload_n 3, 1) := by decide +kernel
theorem dX10_reached_10 : decode cX10_reached 10 = .ok (.ifnull 13, 3) := by decide +kernel
theorem dX10_reached_13 : decode cX10_reached 13 = .ok (.iload_n 2, 1) := by decide +kernel
theorem dX10_reached_14 : decode cX10_reached 14 = .ok (.ifCond .lt 9, 3) := by decide +kernel
theorem dX10_reached_17 : decode cX10_reached 17 = .ok (.iload_n 2, 1) := by decide +kernel
theorem dX10_reached_18 : decode cX10_reached 18 = .ok (.bipush 60, 2) := by decide +kernel
theorem dX10_reached_20 : decode cX10_reached 20 = .ok (.if_icmp .le 9, 3) := by decide +kernel
theorem dX10_reached_23 : decode cX10_reached 23 = .ok (.ldc2_w 237, 3) := by decide +kernel
theorem dX10_reached_26 : decode cX10_reached 26 = .ok (.goto 9, 3) := by decide +kernel
theorem dX10_reached_29 : decode cX10_reached 29 = .ok (.aload_n 0, 1) := by decide +kernel
theorem dX10_reached_30 : decode cX10_reached 30 = .ok (.aload_n 3, 1) := by decide +kernel
theorem dX10_reached_31 : decode cX10_reached 31 = .ok (.iload_n 2, 1) := by decide +kernel
theorem dX10_reached_32 : decode cX10_reached 32 = .ok (.invokevirtual 239, 3) := by decide +kernel
theorem dX10_reached_35 : decode cX10_reached 35 = .ok (.lreturn, 1) := by decide +kernel
theorem dX10_never_0 : decode cX10_never 0 = .ok (.aload_n 0, 1) := by decide +kernel
theorem dX10_never_1 : decode cX10_never 1 = .ok (.getfield 48, 3) := by decide +kernel
theorem dX10_never_4 : decode cX10_never 4 = .ok (.iload_n 1, 1) := by decide +kernel
theorem dX10_never_5 : decode cX10_never 5 = .ok (.invokevirtual 152, 3) := by decide +kernel
theorem dX10_never_8 : decode cX10_never 8 = .ok (.astore_n 2, 1) := by decide +kernel
theorem dX10_never_9 : decode cX10_never 9 = .ok (.aload_n 2, 1) := by decide +kernel
theorem dX10_never_10 : decode cX10_never 10 = .ok (.ifnonnull 9, 3) := by decide +kernel
theorem dX10_never_13 : decode cX10_never 13 = .ok (.ldc2_w 237, 3) := by decide +kernel
theorem dX10_never_16 : decode cX10_never 16 = .ok (.goto 33, 3) := by decide +kernel
theorem dX10_never_19 : decode cX10_never 19 = .ok (.ldc2_w 243, 3) := by decide +kernel
theorem dX10_never_22 : decode cX10_never 22 = .ok (.aload_n 0, 1) := by decide +kernel
theorem dX10_never_23 : decode cX10_never 23 = .ok (.getfield 48, 3) := by decide +kernel
theorem dX10_never_26 : decode cX10_never 26 = .ok (.getfield 98, 3) := by decide +kernel
theorem dX10_never_29 : decode cX10_never 29 = .ok (.getfield 128, 3) := by decide +kernel
theorem dX10_never_32 : decode cX10_never 32 = .ok (.ldc2_w 245, 3) := by decide +kernel
theorem dX10_never_35 : decode cX10_never 35 = .ok (.lxor, 1) := by decide +kernel
theorem dX10_never_36 : decode cX10_never 36 = .ok (.land, 1) := by decide +kernel
theorem dX10_never_37 : decode cX10_never 37 = .ok (.aload_n 0, 1) := by decide +kernel
theorem dX10_never_38 : decode cX10_never 38 = .ok (.aload_n 2, 1) := by decide +kernel
theorem dX10_never_39 : decode cX10_never 39 = .ok (.bipush 60, 2) := by decide +kernel
theorem dX10_never_41 : decode cX10_never 41 = .ok (.invokevirtual 239, 3) := by decide +kernel
theorem dX10_never_44 : decode cX10_never 44 = .ok (.ldc2_w 245, 3) := by decide +kernel
theorem dX10_never_47 : decode cX10_never 47 = .ok (.lxor, 1) := by decide +kernel
theorem dX10_never_48 : decode cX10_never 48 = .ok (.land, 1) := by decide +kernel
theorem dX10_never_49 : decode cX10_never 49 = .ok (.lreturn, 1) := by decide +kernel
theorem dX10_within_0 : decode cX10_within 0 = .ok (.aload_n 0, 1) := by decide +kernel
theorem dX10_within_1 : decode cX10_within 1 = .ok (.getfield 65, 3) := by decide +kernel
theorem dX10_within_4 : decode cX10_within 4 = .ok (.aload_n 0, 1) := by decide +kernel
theorem dX10_within_5 : decode cX10_within 5 = .ok (.getfield 48, 3) := by decide +kernel
theorem dX10_within_8 : decode cX10_within 8 = .ok (.getfield 98, 3) := by decide +kernel
theorem dX10_within_11 : decode cX10_within 11 = .ok (.aload_n 1, 1) := by decide +kernel
theorem dX10_within_12 : decode cX10_within 12 = .ok (.invokevirtual 211, 3) := by decide +kernel
theorem dX10_within_15 : decode cX10_within 15 = .ok (.aload_n 0, 1) := by decide +kernel
theorem dX10_within_16 : decode cX10_within 16 = .ok (.getfield 65, 3) := by decide +kernel
theorem dX10_within_19 : decode cX10_within 19 = .ok (.invokevirtual 226, 3) := by decide +kernel
theorem dX10_within_22 : decode cX10_within 22 = .ok (.lstore_n 3, 1) := by decide +kernel
theorem dX10_within_23 : decode cX10_within 23 = .ok (.iconst 0, 1) := by decide +kernel
theorem dX10_within_24 : decode cX10_within 24 = .ok (.istore 5, 2) := by decide +kernel
theorem dX10_within_26 : decode cX10_within 26 = .ok (.iload 5, 2) := by decide +kernel
theorem dX10_within_28 : decode cX10_within 28 = .ok (.iload_n 2, 1) := by decide +kernel
theorem dX10_within_29 : decode cX10_within 29 = .ok (.if_icmp .ge 28, 3) := by decide +kernel
theorem dX10_within_32 : decode cX10_within 32 = .ok (.aload_n 0, 1) := by decide +kernel
theorem dX10_within_33 : decode cX10_within 33 = .ok (.getfield 65, 3) := by decide +kernel
theorem dX10_within_36 : decode cX10_within 36 = .ok (.bipush 63, 2) := by decide +kernel
theorem dX10_within_38 : decode cX10_within 38 = .ok (.invokevirtual 222, 3) := by decide +kernel
theorem dX10_within_41 : decode cX10_within 41 = .ok (.lload_n 3, 1) := by decide +kernel
theorem dX10_within_42 : decode cX10_within 42 = .ok (.aload_n 0, 1) := by decide +kernel
theorem dX10_within_43 : decode cX10_within 43 = .ok (.getfield 65, 3) := by decide +kernel
theorem dX10_within_46 : decode cX10_within 46 = .ok (.invokevirtual 226, 3) := by decide +kernel
theorem dX10_within_49 : decode cX10_within 49 = .ok (.lor, 1) := by decide +kernel
theorem dX10_within_50 : decode cX10_within 50 = .ok (.lstore_n 3, 1) := by decide +kernel
theorem dX10_within_51 : decode cX10_within 51 = .ok (.iinc 5 1, 3) := by decide +kernel
theorem dX10_within_54 : decode cX10_within 54 = .ok (.goto (-28), 3) := by decide +kernel
theorem dX10_within_57 : decode cX10_within 57 = .ok (.lload_n 3, 1) := by decide +kernel
theorem dX10_within_58 : decode cX10_within 58 = .ok (.lreturn, 1) := by decide +kernel
theorem dX10_meet_0 : decode cX10_meet 0 = .ok (.aload_n 0, 1) := by decide +kernel
theorem dX10_meet_1 : decode cX10_meet 1 = .ok (.getfield 48, 3) := by decide +kernel
theorem dX10_meet_4 : decode cX10_meet 4 = .ok (.iload_n 1, 1) := by decide +kernel
theorem dX10_meet_5 : decode cX10_meet 5 = .ok (.invokevirtual 152, 3) := by decide +kernel
theorem dX10_meet_8 : decode cX10_meet 8 = .ok (.astore 4, 2) := by decide +kernel
theorem dX10_meet_10 : decode cX10_meet 10 = .ok (.aload_n 0, 1) := by decide +kernel
theorem dX10_meet_11 : decode cX10_meet 11 = .ok (.getfield 48, 3) := by decide +kernel
theorem dX10_meet_14 : decode cX10_meet 14 = .ok (.iload_n 2, 1) := by decide +kernel
theorem dX10_meet_15 : decode cX10_meet 15 = .ok (.invokevirtual 152, 3) := by decide +kernel
theorem dX10_meet_18 : decode cX10_meet 18 = .ok (.astore 5, 2) := by decide +kernel
theorem dX10_meet_20 : decode cX10_meet 20 = .ok (.aload 4, 2) := by decide +kernel
theorem dX10_meet_22 : decode cX10_meet 22 = .ok (.ifnull 15, 3) := by decide +kernel
theorem dX10_meet_25 : decode cX10_meet 25 = .ok (.aload 5, 2) := by decide +kernel
theorem dX10_meet_27 : decode cX10_meet 27 = .ok (.ifnull 10, 3) := by decide +kernel
theorem dX10_meet_30 : decode cX10_meet 30 = .ok (.iload_n 3, 1) := by decide +kernel
theorem dX10_meet_31 : decode cX10_meet 31 = .ok (.invokestatic 208, 3) := by decide +kernel
theorem dX10_meet_34 : decode cX10_meet 34 = .ok (.ifCond .ne 5, 3) := by decide +kernel
theorem dX10_meet_37 : decode cX10_meet 37 = .ok (.iconst (-1), 1) := by decide +kernel
theorem dX10_meet_38 : decode cX10_meet 38 = .ok (.ireturn, 1) := by decide +kernel
theorem dX10_meet_39 : decode cX10_meet 39 = .ok (.iload_n 1, 1) := by decide +kernel
theorem dX10_meet_40 : decode cX10_meet 40 = .ok (.iload_n 2, 1) := by decide +kernel
theorem dX10_meet_41 : decode cX10_meet 41 = .ok (.if_icmp .ne 6, 3) := by decide +kernel
theorem dX10_meet_44 : decode cX10_meet 44 = .ok (.bipush (-2), 2) := by decide +kernel
theorem dX10_meet_46 : decode cX10_meet 46 = .ok (.ireturn, 1) := by decide +kernel
theorem dX10_meet_47 : decode cX10_meet 47 = .ok (.aload_n 0, 1) := by decide +kernel
theorem dX10_meet_48 : decode cX10_meet 48 = .ok (.getfield 65, 3) := by decide +kernel
theorem dX10_meet_51 : decode cX10_meet 51 = .ok (.aload_n 0, 1) := by decide +kernel
theorem dX10_meet_52 : decode cX10_meet 52 = .ok (.getfield 48, 3) := by decide +kernel
theorem dX10_meet_55 : decode cX10_meet 55 = .ok (.getfield 98, 3) := by decide +kernel
theorem dX10_meet_58 : decode cX10_meet 58 = .ok (.aload 4, 2) := by decide +kernel
theorem dX10_meet_60 : decode cX10_meet 60 = .ok (.invokevirtual 211, 3) := by decide +kernel
theorem dX10_meet_63 : decode cX10_meet 63 = .ok (.aload_n 0, 1) := by decide +kernel
theorem dX10_meet_64 : decode cX10_meet 64 = .ok (.getfield 69, 3) := by decide +kernel
theorem dX10_meet_67 : decode cX10_meet 67 = .ok (.aload_n 0, 1) := by decide +kernel
theorem dX10_meet_68 : decode cX10_meet 68 = .ok (.getfield 48, 3) := by decide +kernel
theorem dX10_meet_71 : decode cX10_meet 71 = .ok (.getfield 98, 3) := by decide +kernel
theorem dX10_meet_74 : decode cX10_meet 74 = .ok (.aload 5, 2) := by decide +kernel
theorem dX10_meet_76 : decode cX10_meet 76 = .ok (.invokevirtual 211, 3) := by decide +kernel
theorem dX10_meet_79 : decode cX10_meet 79 = .ok (.iconst 0, 1) := by decide +kernel
theorem dX10_meet_80 : decode cX10_meet 80 = .ok (.istore 6, 2) := by decide +kernel
theorem dX10_meet_82 : decode cX10_meet 82 = .ok (.iload 6, 2) := by decide +kernel
theorem dX10_meet_84 : decode cX10_meet 84 = .ok (.bipush 40, 2) := by decide +kernel
theorem dX10_meet_86 : decode cX10_meet 86 = .ok (.if_icmp .gt 66, 3) := by decide +kernel
theorem dX10_meet_89 : decode cX10_meet 89 = .ok (.aload_n 0, 1) := by decide +kernel
theorem dX10_meet_90 : decode cX10_meet 90 = .ok (.getfield 65, 3) := by decide +kernel
theorem dX10_meet_93 : decode cX10_meet 93 = .ok (.invokevirtual 226, 3) := by decide +kernel
theorem dX10_meet_96 : decode cX10_meet 96 = .ok (.aload_n 0, 1) := by decide +kernel
theorem dX10_meet_97 : decode cX10_meet 97 = .ok (.getfield 69, 3) := by decide +kernel
theorem dX10_meet_100 : decode cX10_meet 100 = .ok (.invokevirtual 226, 3) := by decide +kernel
theorem dX10_meet_103 : decode cX10_meet 103 = .ok (.land, 1) := by decide +kernel
theorem dX10_meet_104 : decode cX10_meet 104 = .ok (.lstore 7, 2) := by decide +kernel
theorem dX10_meet_106 : decode cX10_meet 106 = .ok (.lload 7, 2) := by decide +kernel
theorem dX10_meet_108 : decode cX10_meet 108 = .ok (.lconst 0, 1) := by decide +kernel
theorem dX10_meet_109 : decode cX10_meet 109 = .ok (.lcmp, 1) := by decide +kernel
theorem dX10_meet_110 : decode cX10_meet 110 = .ok (.ifCond .eq 18, 3) := by decide +kernel
theorem dX10_meet_113 : decode cX10_meet 113 = .ok (.iload_n 3, 1) := by decide +kernel
theorem dX10_meet_114 : decode cX10_meet 114 = .ok (.ifCond .ne 8, 3) := by decide +kernel
theorem dX10_meet_117 : decode cX10_meet 117 = .ok (.iload 6, 2) := by decide +kernel
theorem dX10_meet_119 : decode cX10_meet 119 = .ok (.goto 8, 3) := by decide +kernel
theorem dX10_meet_122 : decode cX10_meet 122 = .ok (.lload 7, 2) := by decide +kernel
theorem dX10_meet_124 : decode cX10_meet 124 = .ok (.invokestatic 247, 3) := by decide +kernel
theorem dX10_meet_127 : decode cX10_meet 127 = .ok (.ireturn, 1) := by decide +kernel
theorem dX10_meet_128 : decode cX10_meet 128 = .ok (.aload_n 0, 1) := by decide +kernel
theorem dX10_meet_129 : decode cX10_meet 129 = .ok (.getfield 65, 3) := by decide +kernel
theorem dX10_meet_132 : decode cX10_meet 132 = .ok (.bipush 63, 2) := by decide +kernel
theorem dX10_meet_134 : decode cX10_meet 134 = .ok (.invokevirtual 222, 3) := by decide +kernel
theorem dX10_meet_137 : decode cX10_meet 137 = .ok (.aload_n 0, 1) := by decide +kernel
theorem dX10_meet_138 : decode cX10_meet 138 = .ok (.getfield 69, 3) := by decide +kernel
theorem dX10_meet_141 : decode cX10_meet 141 = .ok (.bipush 63, 2) := by decide +kernel
theorem dX10_meet_143 : decode cX10_meet 143 = .ok (.invokevirtual 222, 3) := by decide +kernel
theorem dX10_meet_146 : decode cX10_meet 146 = .ok (.iinc 6 1, 3) := by decide +kernel
theorem dX10_meet_149 : decode cX10_meet 149 = .ok (.goto (-67), 3) := by decide +kernel
theorem dX10_meet_152 : decode cX10_meet 152 = .ok (.bipush (-5), 2) := by decide +kernel
theorem dX10_meet_154 : decode cX10_meet 154 = .ok (.ireturn, 1) := by decide +kernel
theorem dX10_home_0 : decode cX10_home 0 = .ok (.aload_n 0, 1) := by decide +kernel
theorem dX10_home_1 : decode cX10_home 1 = .ok (.getfield 48, 3) := by decide +kernel
theorem dX10_home_4 : decode cX10_home 4 = .ok (.iload_n 1, 1) := by decide +kernel
theorem dX10_home_5 : decode cX10_home 5 = .ok (.invokevirtual 152, 3) := by decide +kernel
theorem dX10_home_8 : decode cX10_home 8 = .ok (.astore_n 2, 1) := by decide +kernel
theorem dX10_home_9 : decode cX10_home 9 = .ok (.aload_n 2, 1) := by decide +kernel
theorem dX10_home_10 : decode cX10_home 10 = .ok (.ifnonnull 5, 3) := by decide +kernel
theorem dX10_home_13 : decode cX10_home 13 = .ok (.iconst (-1), 1) := by decide +kernel
theorem dX10_home_14 : decode cX10_home 14 = .ok (.ireturn, 1) := by decide +kernel
theorem dX10_home_15 : decode cX10_home 15 = .ok (.aload_n 0, 1) := by decide +kernel
theorem dX10_home_16 : decode cX10_home 16 = .ok (.getfield 65, 3) := by decide +kernel
theorem dX10_home_19 : decode cX10_home 19 = .ok (.aload_n 0, 1) := by decide +kernel
theorem dX10_home_20 : decode cX10_home 20 = .ok (.getfield 48, 3) := by decide +kernel
theorem dX10_home_23 : decode cX10_home 23 = .ok (.getfield 98, 3) := by decide +kernel
theorem dX10_home_26 : decode cX10_home 26 = .ok (.aload_n 2, 1) := by decide +kernel
theorem dX10_home_27 : decode cX10_home 27 = .ok (.invokevirtual 211, 3) := by decide +kernel
theorem dX10_home_30 : decode cX10_home 30 = .ok (.aload_n 0, 1) := by decide +kernel
theorem dX10_home_31 : decode cX10_home 31 = .ok (.getfield 65, 3) := by decide +kernel
theorem dX10_home_34 : decode cX10_home 34 = .ok (.getfield 251, 3) := by decide +kernel
theorem dX10_home_37 : decode cX10_home 37 = .ok (.getfield 206, 3) := by decide +kernel
theorem dX10_home_40 : decode cX10_home 40 = .ok (.istore_n 3, 1) := by decide +kernel
theorem dX10_home_41 : decode cX10_home 41 = .ok (.iconst 1, 1) := by decide +kernel
theorem dX10_home_42 : decode cX10_home 42 = .ok (.istore 4, 2) := by decide +kernel
theorem dX10_home_44 : decode cX10_home 44 = .ok (.iload 4, 2) := by decide +kernel
theorem dX10_home_46 : decode cX10_home 46 = .ok (.bipush 60, 2) := by decide +kernel
theorem dX10_home_48 : decode cX10_home 48 = .ok (.if_icmp .gt 56, 3) := by decide +kernel
theorem dX10_home_51 : decode cX10_home 51 = .ok (.aload_n 0, 1) := by decide +kernel
theorem dX10_home_52 : decode cX10_home 52 = .ok (.getfield 65, 3) := by decide +kernel
theorem dX10_home_55 : decode cX10_home 55 = .ok (.bipush 63, 2) := by decide +kernel
theorem dX10_home_57 : decode cX10_home 57 = .ok (.invokevirtual 222, 3) := by decide +kernel
theorem dX10_home_60 : decode cX10_home 60 = .ok (.aload_n 0, 1) := by decide +kernel
theorem dX10_home_61 : decode cX10_home 61 = .ok (.getfield 65, 3) := by decide +kernel
theorem dX10_home_64 : decode cX10_home 64 = .ok (.getfield 251, 3) := by decide +kernel
theorem dX10_home_67 : decode cX10_home 67 = .ok (.getfield 206, 3) := by decide +kernel
theorem dX10_home_70 : decode cX10_home 70 = .ok (.iload_n 3, 1) := by decide +kernel
theorem dX10_home_71 : decode cX10_home 71 = .ok (.if_icmp .ne 27, 3) := by decide +kernel
theorem dX10_home_74 : decode cX10_home 74 = .ok (.aload_n 0, 1) := by decide +kernel
theorem dX10_home_75 : decode cX10_home 75 = .ok (.getfield 65, 3) := by decide +kernel
theorem dX10_home_78 : decode cX10_home 78 = .ok (.aload_n 2, 1) := by decide +kernel
theorem dX10_home_79 : decode cX10_home 79 = .ok (.getfield 159, 3) := by decide +kernel
theorem dX10_home_82 : decode cX10_home 82 = .ok (.invokevirtual 252, 3) := by decide +kernel
theorem dX10_home_85 : decode cX10_home 85 = .ok (.aload_n 2, 1) := by decide +kernel
theorem dX10_home_86 : decode cX10_home 86 = .ok (.getfield 156, 3) := by decide +kernel
theorem dX10_home_89 : decode cX10_home 89 = .ok (.invokestatic 115, 3) := by decide +kernel
theorem dX10_home_92 : decode cX10_home 92 = .ok (.ifCond .eq 6, 3) := by decide +kernel
theorem dX10_home_95 : decode cX10_home 95 = .ok (.iload 4, 2) := by decide +kernel
theorem dX10_home_97 : decode cX10_home 97 = .ok (.ireturn, 1) := by decide +kernel
theorem dX10_home_98 : decode cX10_home 98 = .ok (.iinc 4 1, 3) := by decide +kernel
theorem dX10_home_101 : decode cX10_home 101 = .ok (.goto (-57), 3) := by decide +kernel
theorem dX10_home_104 : decode cX10_home 104 = .ok (.bipush (-5), 2) := by decide +kernel
theorem dX10_home_106 : decode cX10_home 106 = .ok (.ireturn, 1) := by decide +kernel
theorem dX10_row_0 : decode cX10_row 0 = .ok (.iload_n 1, 1) := by decide +kernel
theorem dX10_row_1 : decode cX10_row 1 = .ok (.iconst (-1), 1) := by decide +kernel
theorem dX10_row_2 : decode cX10_row 2 = .ok (.if_icmp .lt 23, 3) := by decide +kernel
theorem dX10_row_5 : decode cX10_row 5 = .ok (.iload_n 1, 1) := by decide +kernel
theorem dX10_row_6 : decode cX10_row 6 = .ok (.bipush 6, 2) := by decide +kernel
theorem dX10_row_8 : decode cX10_row 8 = .ok (.if_icmp .ge 17, 3) := by decide +kernel
theorem dX10_row_11 : decode cX10_row 11 = .ok (.aload_n 0, 1) := by decide +kernel
theorem dX10_row_12 : decode cX10_row 12 = .ok (.getfield 48, 3) := by decide +kernel
theorem dX10_row_15 : decode cX10_row 15 = .ok (.getfield 254, 3) := by decide +kernel
theorem dX10_row_18 : decode cX10_row 18 = .ok (.iload_n 1, 1) := by decide +kernel
theorem dX10_row_19 : decode cX10_row 19 = .ok (.invokevirtual 258, 3) := by decide +kernel
theorem dX10_row_22 : decode cX10_row 22 = .ok (.goto 4, 3) := by decide +kernel
theorem dX10_row_25 : decode cX10_row 25 = .ok (.iconst (-1), 1) := by decide +kernel
theorem dX10_row_26 : decode cX10_row 26 = .ok (.ireturn, 1) := by decide +kernel
theorem dX10_hand_0 : decode cX10_hand 0 = .ok (.aload_n 0, 1) := by decide +kernel
theorem dX10_hand_1 : decode cX10_hand 1 = .ok (.getfield 48, 3) := by decide +kernel
theorem dX10_hand_4 : decode cX10_hand 4 = .ok (.iload_n 1, 1) := by decide +kernel
theorem dX10_hand_5 : decode cX10_hand 5 = .ok (.invokevirtual 152, 3) := by decide +kernel
theorem dX10_hand_8 : decode cX10_hand 8 = .ok (.astore_n 3, 1) := by decide +kernel
theorem dX10_hand_9 : decode cX10_hand 9 = .ok (.aload_n 3, 1) := by decide +kernel
theorem dX10_hand_10 : decode cX10_hand 10 = .ok (.ifnull 12, 3) := by decide +kernel
theorem dX10_hand_13 : decode cX10_hand 13 = .ok (.iload_n 2, 1) := by decide +kernel
end
section
theorem dX10_hand_14 : decode cX10_hand 14 = .ok (.ifCond .lt 8, 3) := by decide +kernel
theorem dX10_hand_17 : decode cX10_hand 17 = .ok (.iload_n 2, 1) := by decide +kernel
theorem dX10_hand_18 : decode cX10_hand 18 = .ok (.iconst 2, 1) := by decide +kernel
theorem dX10_hand_19 : decode cX10_hand 19 = .ok (.if_icmp .le 5, 3) := by decide +kernel
theorem dX10_hand_22 : decode cX10_hand 22 = .ok (.iconst (-1), 1) := by decide +kernel
theorem dX10_hand_23 : decode cX10_hand 23 = .ok (.ireturn, 1) := by decide +kernel
theorem dX10_hand_24 : decode cX10_hand 24 = .ok (.aload_n 0, 1) := by decide +kernel
theorem dX10_hand_25 : decode cX10_hand 25 = .ok (.getfield 21, 3) := by decide +kernel
theorem dX10_hand_28 : decode cX10_hand 28 = .ok (.aload_n 3, 1) := by decide +kernel
theorem dX10_hand_29 : decode cX10_hand 29 = .ok (.invokevirtual 263, 3) := by decide +kernel
theorem dX10_hand_32 : decode cX10_hand 32 = .ok (.iconst 0, 1) := by decide +kernel
theorem dX10_hand_33 : decode cX10_hand 33 = .ok (.istore 4, 2) := by decide +kernel
theorem dX10_hand_35 : decode cX10_hand 35 = .ok (.iload 4, 2) := by decide +kernel
theorem dX10_hand_37 : decode cX10_hand 37 = .ok (.aload_n 0, 1) := by decide +kernel
theorem dX10_hand_38 : decode cX10_hand 38 = .ok (.getfield 48, 3) := by decide +kernel
theorem dX10_hand_41 : decode cX10_hand 41 = .ok (.getfield 254, 3) := by decide +kernel
theorem dX10_hand_44 : decode cX10_hand 44 = .ok (.getfield 266, 3) := by decide +kernel
theorem dX10_hand_47 : decode cX10_hand 47 = .ok (.if_icmp .ge 32, 3) := by decide +kernel
theorem dX10_hand_50 : decode cX10_hand 50 = .ok (.aload_n 0, 1) := by decide +kernel
theorem dX10_hand_51 : decode cX10_hand 51 = .ok (.aload_n 0, 1) := by decide +kernel
theorem dX10_hand_52 : decode cX10_hand 52 = .ok (.getfield 21, 3) := by decide +kernel
theorem dX10_hand_55 : decode cX10_hand 55 = .ok (.aload_n 0, 1) := by decide +kernel
theorem dX10_hand_56 : decode cX10_hand 56 = .ok (.getfield 48, 3) := by decide +kernel
theorem dX10_hand_59 : decode cX10_hand 59 = .ok (.getfield 254, 3) := by decide +kernel
theorem dX10_hand_62 : decode cX10_hand 62 = .ok (.iload 4, 2) := by decide +kernel
theorem dX10_hand_64 : decode cX10_hand 64 = .ok (.invokevirtual 267, 3) := by decide +kernel
theorem dX10_hand_67 : decode cX10_hand 67 = .ok (.invokevirtual 182, 3) := by decide +kernel
theorem dX10_hand_70 : decode cX10_hand 70 = .ok (.ifCond .eq 9, 3) := by decide +kernel
theorem dX10_hand_73 : decode cX10_hand 73 = .ok (.iinc 4 1, 3) := by decide +kernel
theorem dX10_hand_76 : decode cX10_hand 76 = .ok (.goto (-41), 3) := by decide +kernel
theorem dX10_hand_79 : decode cX10_hand 79 = .ok (.iload_n 2, 1) := by decide +kernel
theorem dX10_hand_80 : decode cX10_hand 80 = .ok (.lookupswitch 39 #[(0, 28), (1, 31)], 28) := by decide +kernel
theorem dX10_hand_108 : decode cX10_hand 108 = .ok (.iload 4, 2) := by decide +kernel
theorem dX10_hand_110 : decode cX10_hand 110 = .ok (.ireturn, 1) := by decide +kernel
theorem dX10_hand_111 : decode cX10_hand 111 = .ok (.aload_n 0, 1) := by decide +kernel
theorem dX10_hand_112 : decode cX10_hand 112 = .ok (.getfield 21, 3) := by decide +kernel
theorem dX10_hand_115 : decode cX10_hand 115 = .ok (.getfield 156, 3) := by decide +kernel
theorem dX10_hand_118 : decode cX10_hand 118 = .ok (.ireturn, 1) := by decide +kernel
theorem dX10_hand_119 : decode cX10_hand 119 = .ok (.aload_n 0, 1) := by decide +kernel
theorem dX10_hand_120 : decode cX10_hand 120 = .ok (.getfield 21, 3) := by decide +kernel
theorem dX10_hand_123 : decode cX10_hand 123 = .ok (.getfield 159, 3) := by decide +kernel
theorem dX10_hand_126 : decode cX10_hand 126 = .ok (.ireturn, 1) := by decide +kernel
theorem dX10_track_0 : decode cX10_track 0 = .ok (.iload_n 1, 1) := by decide +kernel
theorem dX10_track_1 : decode cX10_track 1 = .ok (.iconst (-1), 1) := by decide +kernel
theorem dX10_track_2 : decode cX10_track 2 = .ok (.if_icmp .lt 23, 3) := by decide +kernel
theorem dX10_track_5 : decode cX10_track 5 = .ok (.iload_n 1, 1) := by decide +kernel
theorem dX10_track_6 : decode cX10_track 6 = .ok (.bipush 36, 2) := by decide +kernel
theorem dX10_track_8 : decode cX10_track 8 = .ok (.if_icmp .ge 17, 3) := by decide +kernel
theorem dX10_track_11 : decode cX10_track 11 = .ok (.aload_n 0, 1) := by decide +kernel
theorem dX10_track_12 : decode cX10_track 12 = .ok (.getfield 48, 3) := by decide +kernel
theorem dX10_track_15 : decode cX10_track 15 = .ok (.getfield 269, 3) := by decide +kernel
theorem dX10_track_18 : decode cX10_track 18 = .ok (.iload_n 1, 1) := by decide +kernel
theorem dX10_track_19 : decode cX10_track 19 = .ok (.invokevirtual 258, 3) := by decide +kernel
theorem dX10_track_22 : decode cX10_track 22 = .ok (.goto 4, 3) := by decide +kernel
theorem dX10_track_25 : decode cX10_track 25 = .ok (.iconst (-1), 1) := by decide +kernel
theorem dX10_track_26 : decode cX10_track 26 = .ok (.ireturn, 1) := by decide +kernel
theorem dX10_tracks_0 : decode cX10_tracks 0 = .ok (.iload_n 1, 1) := by decide +kernel
theorem dX10_tracks_1 : decode cX10_tracks 1 = .ok (.invokestatic 119, 3) := by decide +kernel
theorem dX10_tracks_4 : decode cX10_tracks 4 = .ok (.ifCond .ne 5, 3) := by decide +kernel
theorem dX10_tracks_7 : decode cX10_tracks 7 = .ok (.iconst (-1), 1) := by decide +kernel
theorem dX10_tracks_8 : decode cX10_tracks 8 = .ok (.ireturn, 1) := by decide +kernel
theorem dX10_tracks_9 : decode cX10_tracks 9 = .ok (.iload_n 2, 1) := by decide +kernel
theorem dX10_tracks_10 : decode cX10_tracks 10 = .ok (.invokestatic 125, 3) := by decide +kernel
theorem dX10_tracks_13 : decode cX10_tracks 13 = .ok (.ifCond .ne 6, 3) := by decide +kernel
theorem dX10_tracks_16 : decode cX10_tracks 16 = .ok (.bipush (-2), 2) := by decide +kernel
theorem dX10_tracks_18 : decode cX10_tracks 18 = .ok (.ireturn, 1) := by decide +kernel
theorem dX10_tracks_19 : decode cX10_tracks 19 = .ok (.iconst 0, 1) := by decide +kernel
theorem dX10_tracks_20 : decode cX10_tracks 20 = .ok (.istore_n 3, 1) := by decide +kernel
theorem dX10_tracks_21 : decode cX10_tracks 21 = .ok (.iconst 0, 1) := by decide +kernel
theorem dX10_tracks_22 : decode cX10_tracks 22 = .ok (.istore 4, 2) := by decide +kernel
theorem dX10_tracks_24 : decode cX10_tracks 24 = .ok (.iload 4, 2) := by decide +kernel
theorem dX10_tracks_26 : decode cX10_tracks 26 = .ok (.aload_n 0, 1) := by decide +kernel
theorem dX10_tracks_27 : decode cX10_tracks 27 = .ok (.getfield 48, 3) := by decide +kernel
theorem dX10_tracks_30 : decode cX10_tracks 30 = .ok (.getfield 98, 3) := by decide +kernel
theorem dX10_tracks_33 : decode cX10_tracks 33 = .ok (.invokevirtual 230, 3) := by decide +kernel
theorem dX10_tracks_36 : decode cX10_tracks 36 = .ok (.if_icmp .ge 40, 3) := by decide +kernel
theorem dX10_tracks_39 : decode cX10_tracks 39 = .ok (.aload_n 0, 1) := by decide +kernel
theorem dX10_tracks_40 : decode cX10_tracks 40 = .ok (.getfield 48, 3) := by decide +kernel
theorem dX10_tracks_43 : decode cX10_tracks 43 = .ok (.getfield 269, 3) := by decide +kernel
theorem dX10_tracks_46 : decode cX10_tracks 46 = .ok (.getfield 266, 3) := by decide +kernel
theorem dX10_tracks_49 : decode cX10_tracks 49 = .ok (.ifCond .eq 14, 3) := by decide +kernel
theorem dX10_tracks_52 : decode cX10_tracks 52 = .ok (.aload_n 0, 1) := by decide +kernel
theorem dX10_tracks_53 : decode cX10_tracks 53 = .ok (.iload_n 1, 1) := by decide +kernel
theorem dX10_tracks_54 : decode cX10_tracks 54 = .ok (.iload_n 2, 1) := by decide +kernel
theorem dX10_tracks_55 : decode cX10_tracks 55 = .ok (.iload 4, 2) := by decide +kernel
theorem dX10_tracks_57 : decode cX10_tracks 57 = .ok (.invokevirtual 272, 3) := by decide +kernel
theorem dX10_tracks_60 : decode cX10_tracks 60 = .ok (.ifCond .eq 10, 3) := by decide +kernel
theorem dX10_tracks_63 : decode cX10_tracks 63 = .ok (.iload_n 3, 1) := by decide +kernel
theorem dX10_tracks_64 : decode cX10_tracks 64 = .ok (.iconst 1, 1) := by decide +kernel
theorem dX10_tracks_65 : decode cX10_tracks 65 = .ok (.iload 4, 2) := by decide +kernel
theorem dX10_tracks_67 : decode cX10_tracks 67 = .ok (.ishl, 1) := by decide +kernel
theorem dX10_tracks_68 : decode cX10_tracks 68 = .ok (.ior, 1) := by decide +kernel
theorem dX10_tracks_69 : decode cX10_tracks 69 = .ok (.istore_n 3, 1) := by decide +kernel
theorem dX10_tracks_70 : decode cX10_tracks 70 = .ok (.iinc 4 1, 3) := by decide +kernel
theorem dX10_tracks_73 : decode cX10_tracks 73 = .ok (.goto (-49), 3) := by decide +kernel
theorem dX10_tracks_76 : decode cX10_tracks 76 = .ok (.iload_n 3, 1) := by decide +kernel
theorem dX10_tracks_77 : decode cX10_tracks 77 = .ok (.ireturn, 1) := by decide +kernel
theorem dX10_left_0 : decode cX10_left 0 = .ok (.aload_n 0, 1) := by decide +kernel
theorem dX10_left_1 : decode cX10_left 1 = .ok (.getfield 65, 3) := by decide +kernel
theorem dX10_left_4 : decode cX10_left 4 = .ok (.aload_n 0, 1) := by decide +kernel
theorem dX10_left_5 : decode cX10_left 5 = .ok (.getfield 48, 3) := by decide +kernel
theorem dX10_left_8 : decode cX10_left 8 = .ok (.getfield 98, 3) := by decide +kernel
theorem dX10_left_11 : decode cX10_left 11 = .ok (.aload_n 0, 1) := by decide +kernel
theorem dX10_left_12 : decode cX10_left 12 = .ok (.getfield 48, 3) := by decide +kernel
theorem dX10_left_15 : decode cX10_left 15 = .ok (.getfield 269, 3) := by decide +kernel
theorem dX10_left_18 : decode cX10_left 18 = .ok (.iconst 0, 1) := by decide +kernel
theorem dX10_left_19 : decode cX10_left 19 = .ok (.invokevirtual 267, 3) := by decide +kernel
theorem dX10_left_22 : decode cX10_left 22 = .ok (.iload_n 1, 1) := by decide +kernel
theorem dX10_left_23 : decode cX10_left 23 = .ok (.iload_n 2, 1) := by decide +kernel
theorem dX10_left_24 : decode cX10_left 24 = .ok (.iload_n 3, 1) := by decide +kernel
theorem dX10_left_25 : decode cX10_left 25 = .ok (.invokevirtual 276, 3) := by decide +kernel
theorem dX10_left_28 : decode cX10_left 28 = .ok (.iconst 1, 1) := by decide +kernel
theorem dX10_left_29 : decode cX10_left 29 = .ok (.istore 4, 2) := by decide +kernel
theorem dX10_left_31 : decode cX10_left 31 = .ok (.iload 4, 2) := by decide +kernel
theorem dX10_left_33 : decode cX10_left 33 = .ok (.aload_n 0, 1) := by decide +kernel
theorem dX10_left_34 : decode cX10_left 34 = .ok (.getfield 48, 3) := by decide +kernel
theorem dX10_left_37 : decode cX10_left 37 = .ok (.getfield 269, 3) := by decide +kernel
theorem dX10_left_40 : decode cX10_left 40 = .ok (.getfield 266, 3) := by decide +kernel
theorem dX10_left_43 : decode cX10_left 43 = .ok (.if_icmp .ge 37, 3) := by decide +kernel
theorem dX10_left_46 : decode cX10_left 46 = .ok (.aload_n 0, 1) := by decide +kernel
theorem dX10_left_47 : decode cX10_left 47 = .ok (.getfield 65, 3) := by decide +kernel
theorem dX10_left_50 : decode cX10_left 50 = .ok (.bipush 63, 2) := by decide +kernel
theorem dX10_left_52 : decode cX10_left 52 = .ok (.invokevirtual 222, 3) := by decide +kernel
theorem dX10_left_55 : decode cX10_left 55 = .ok (.aload_n 0, 1) := by decide +kernel
theorem dX10_left_56 : decode cX10_left 56 = .ok (.getfield 65, 3) := by decide +kernel
theorem dX10_left_59 : decode cX10_left 59 = .ok (.aload_n 0, 1) := by decide +kernel
theorem dX10_left_60 : decode cX10_left 60 = .ok (.getfield 48, 3) := by decide +kernel
theorem dX10_left_63 : decode cX10_left 63 = .ok (.getfield 269, 3) := by decide +kernel
theorem dX10_left_66 : decode cX10_left 66 = .ok (.iload 4, 2) := by decide +kernel
theorem dX10_left_68 : decode cX10_left 68 = .ok (.invokevirtual 267, 3) := by decide +kernel
theorem dX10_left_71 : decode cX10_left 71 = .ok (.invokevirtual 279, 3) := by decide +kernel
theorem dX10_left_74 : decode cX10_left 74 = .ok (.iinc 4 1, 3) := by decide +kernel
theorem dX10_left_77 : decode cX10_left 77 = .ok (.goto (-46), 3) := by decide +kernel
theorem dX10_left_80 : decode cX10_left 80 = .ok (.aload_n 0, 1) := by decide +kernel
theorem dX10_left_81 : decode cX10_left 81 = .ok (.getfield 65, 3) := by decide +kernel
theorem dX10_left_84 : decode cX10_left 84 = .ok (.invokevirtual 226, 3) := by decide +kernel
theorem dX10_left_87 : decode cX10_left 87 = .ok (.lconst 0, 1) := by decide +kernel
theorem dX10_left_88 : decode cX10_left 88 = .ok (.lcmp, 1) := by decide +kernel
theorem dX10_left_89 : decode cX10_left 89 = .ok (.ifCond .eq 7, 3) := by decide +kernel
theorem dX10_left_92 : decode cX10_left 92 = .ok (.iconst 1, 1) := by decide +kernel
theorem dX10_left_93 : decode cX10_left 93 = .ok (.goto 4, 3) := by decide +kernel
theorem dX10_left_96 : decode cX10_left 96 = .ok (.iconst 0, 1) := by decide +kernel
theorem dX10_left_97 : decode cX10_left 97 = .ok (.ireturn, 1) := by decide +kernel
theorem dX10_lot_0 : decode cX10_lot 0 = .ok (.aload_n 0, 1) := by decide +kernel
theorem dX10_lot_1 : decode cX10_lot 1 = .ok (.getfield 48, 3) := by decide +kernel
theorem dX10_lot_4 : decode cX10_lot 4 = .ok (.iload_n 1, 1) := by decide +kernel
theorem dX10_lot_5 : decode cX10_lot 5 = .ok (.invokevirtual 152, 3) := by decide +kernel
theorem dX10_lot_8 : decode cX10_lot 8 = .ok (.astore 5, 2) := by decide +kernel
theorem dX10_lot_10 : decode cX10_lot 10 = .ok (.aload 5, 2) := by decide +kernel
theorem dX10_lot_12 : decode cX10_lot 12 = .ok (.ifnull 28, 3) := by decide +kernel
theorem dX10_lot_15 : decode cX10_lot 15 = .ok (.iload_n 2, 1) := by decide +kernel
theorem dX10_lot_16 : decode cX10_lot 16 = .ok (.invokestatic 108, 3) := by decide +kernel
theorem dX10_lot_19 : decode cX10_lot 19 = .ok (.ifCond .eq 21, 3) := by decide +kernel
theorem dX10_lot_22 : decode cX10_lot 22 = .ok (.iload_n 3, 1) := by decide +kernel
theorem dX10_lot_23 : decode cX10_lot 23 = .ok (.ifCond .lt 17, 3) := by decide +kernel
theorem dX10_lot_26 : decode cX10_lot 26 = .ok (.iload_n 3, 1) := by decide +kernel
theorem dX10_lot_27 : decode cX10_lot 27 = .ok (.bipush 6, 2) := by decide +kernel
theorem dX10_lot_29 : decode cX10_lot 29 = .ok (.if_icmp .gt 11, 3) := by decide +kernel
theorem dX10_lot_32 : decode cX10_lot 32 = .ok (.iload 4, 2) := by decide +kernel
theorem dX10_lot_34 : decode cX10_lot 34 = .ok (.invokestatic 208, 3) := by decide +kernel
theorem dX10_lot_37 : decode cX10_lot 37 = .ok (.ifCond .ne 7, 3) := by decide +kernel
theorem dX10_lot_40 : decode cX10_lot 40 = .ok (.ldc2_w 237, 3) := by decide +kernel
theorem dX10_lot_43 : decode cX10_lot 43 = .ok (.lreturn, 1) := by decide +kernel
theorem dX10_lot_44 : decode cX10_lot 44 = .ok (.aload_n 0, 1) := by decide +kernel
theorem dX10_lot_45 : decode cX10_lot 45 = .ok (.getfield 75, 3) := by decide +kernel
theorem dX10_lot_48 : decode cX10_lot 48 = .ok (.aload_n 0, 1) := by decide +kernel
theorem dX10_lot_49 : decode cX10_lot 49 = .ok (.getfield 48, 3) := by decide +kernel
theorem dX10_lot_52 : decode cX10_lot 52 = .ok (.getfield 98, 3) := by decide +kernel
theorem dX10_lot_55 : decode cX10_lot 55 = .ok (.aload 5, 2) := by decide +kernel
theorem dX10_lot_57 : decode cX10_lot 57 = .ok (.invokevirtual 282, 3) := by decide +kernel
theorem dX10_lot_60 : decode cX10_lot 60 = .ok (.lconst 1, 1) := by decide +kernel
theorem dX10_lot_61 : decode cX10_lot 61 = .ok (.lstore 6, 2) := by decide +kernel
theorem dX10_lot_63 : decode cX10_lot 63 = .ok (.iconst 0, 1) := by decide +kernel
theorem dX10_lot_64 : decode cX10_lot 64 = .ok (.istore 8, 2) := by decide +kernel
theorem dX10_lot_66 : decode cX10_lot 66 = .ok (.iload 8, 2) := by decide +kernel
theorem dX10_lot_68 : decode cX10_lot 68 = .ok (.iload_n 3, 1) := by decide +kernel
theorem dX10_lot_69 : decode cX10_lot 69 = .ok (.if_icmp .ge 24, 3) := by decide +kernel
theorem dX10_lot_72 : decode cX10_lot 72 = .ok (.aload_n 0, 1) := by decide +kernel
theorem dX10_lot_73 : decode cX10_lot 73 = .ok (.getfield 75, 3) := by decide +kernel
theorem dX10_lot_76 : decode cX10_lot 76 = .ok (.invokevirtual 283, 3) := by decide +kernel
theorem dX10_lot_79 : decode cX10_lot 79 = .ok (.lload 6, 2) := by decide +kernel
theorem dX10_lot_81 : decode cX10_lot 81 = .ok (.ldc2_w 285, 3) := by decide +kernel
theorem dX10_lot_84 : decode cX10_lot 84 = .ok (.lmul, 1) := by decide +kernel
theorem dX10_lot_85 : decode cX10_lot 85 = .ok (.lstore 6, 2) := by decide +kernel
theorem dX10_lot_87 : decode cX10_lot 87 = .ok (.iinc 8 1, 3) := by decide +kernel
theorem dX10_lot_90 : decode cX10_lot 90 = .ok (.goto (-24), 3) := by decide +kernel
theorem dX10_lot_93 : decode cX10_lot 93 = .ok (.aload_n 0, 1) := by decide +kernel
theorem dX10_lot_94 : decode cX10_lot 94 = .ok (.getfield 75, 3) := by decide +kernel
theorem dX10_lot_97 : decode cX10_lot 97 = .ok (.iload_n 2, 1) := by decide +kernel
theorem dX10_lot_98 : decode cX10_lot 98 = .ok (.invokevirtual 287, 3) := by decide +kernel
theorem dX10_lot_101 : decode cX10_lot 101 = .ok (.lstore 8, 2) := by decide +kernel
theorem dX10_lot_103 : decode cX10_lot 103 = .ok (.lload 6, 2) := by decide +kernel
theorem dX10_lot_105 : decode cX10_lot 105 = .ok (.lload 8, 2) := by decide +kernel
theorem dX10_lot_107 : decode cX10_lot 107 = .ok (.invokestatic 290, 3) := by decide +kernel
theorem dX10_lot_110 : decode cX10_lot 110 = .ok (.lstore 10, 2) := by decide +kernel
theorem dX10_lot_112 : decode cX10_lot 112 = .ok (.lload 10, 2) := by decide +kernel
theorem dX10_lot_114 : decode cX10_lot 114 = .ok (.lconst 0, 1) := by decide +kernel
theorem dX10_lot_115 : decode cX10_lot 115 = .ok (.lcmp, 1) := by decide +kernel
theorem dX10_lot_116 : decode cX10_lot 116 = .ok (.ifCond .ne 9, 3) := by decide +kernel
theorem dX10_lot_119 : decode cX10_lot 119 = .ok (.ldc2_w 237, 3) := by decide +kernel
theorem dX10_lot_122 : decode cX10_lot 122 = .ok (.goto 18, 3) := by decide +kernel
theorem dX10_lot_125 : decode cX10_lot 125 = .ok (.iload 4, 2) := by decide +kernel
theorem dX10_lot_127 : decode cX10_lot 127 = .ok (.ifCond .ne 8, 3) := by decide +kernel
theorem dX10_lot_130 : decode cX10_lot 130 = .ok (.lload 8, 2) := by decide +kernel
theorem dX10_lot_132 : decode cX10_lot 132 = .ok (.goto 5, 3) := by decide +kernel
theorem dX10_lot_135 : decode cX10_lot 135 = .ok (.lload 6, 2) := by decide +kernel
theorem dX10_lot_137 : decode cX10_lot 137 = .ok (.lload 10, 2) := by decide +kernel
theorem dX10_lot_139 : decode cX10_lot 139 = .ok (.ldiv, 1) := by decide +kernel
theorem dX10_lot_140 : decode cX10_lot 140 = .ok (.lreturn, 1) := by decide +kernel
theorem dX10_slower_0 : decode cX10_slower 0 = .ok (.aload_n 0, 1) := by decide +kernel
theorem dX10_slower_1 : decode cX10_slower 1 = .ok (.getfield 48, 3) := by decide +kernel
theorem dX10_slower_4 : decode cX10_slower 4 = .ok (.iload_n 1, 1) := by decide +kernel
theorem dX10_slower_5 : decode cX10_slower 5 = .ok (.invokevirtual 152, 3) := by decide +kernel
theorem dX10_slower_8 : decode cX10_slower 8 = .ok (.astore 5, 2) := by decide +kernel
theorem dX10_slower_10 : decode cX10_slower 10 = .ok (.aload 5, 2) := by decide +kernel
theorem dX10_slower_12 : decode cX10_slower 12 = .ok (.ifnull 25, 3) := by decide +kernel
theorem dX10_slower_15 : decode cX10_slower 15 = .ok (.iload_n 2, 1) := by decide +kernel
theorem dX10_slower_16 : decode cX10_slower 16 = .ok (.invokestatic 108, 3) := by decide +kernel
theorem dX10_slower_19 : decode cX10_slower 19 = .ok (.ifCond .eq 18, 3) := by decide +kernel
theorem dX10_slower_22 : decode cX10_slower 22 = .ok (.iload_n 3, 1) := by decide +kernel
theorem dX10_slower_23 : decode cX10_slower 23 = .ok (.invokestatic 119, 3) := by decide +kernel
theorem dX10_slower_26 : decode cX10_slower 26 = .ok (.ifCond .eq 11, 3) := by decide +kernel
theorem dX10_slower_29 : decode cX10_slower 29 = .ok (.iload 4, 2) := by decide +kernel
theorem dX10_slower_31 : decode cX10_slower 31 = .ok (.invokestatic 119, 3) := by decide +kernel
theorem dX10_slower_34 : decode cX10_slower 34 = .ok (.ifCond .ne 7, 3) := by decide +kernel
theorem dX10_slower_37 : decode cX10_slower 37 = .ok (.sipush (-1001), 3) := by decide +kernel
theorem dX10_slower_40 : decode cX10_slower 40 = .ok (.ireturn, 1) := by decide +kernel
theorem dX10_slower_41 : decode cX10_slower 41 = .ok (.aload_n 0, 1) := by decide +kernel
theorem dX10_slower_42 : decode cX10_slower 42 = .ok (.getfield 65, 3) := by decide +kernel
theorem dX10_slower_45 : decode cX10_slower 45 = .ok (.aload_n 0, 1) := by decide +kernel
theorem dX10_slower_46 : decode cX10_slower 46 = .ok (.getfield 48, 3) := by decide +kernel
theorem dX10_slower_49 : decode cX10_slower 49 = .ok (.getfield 98, 3) := by decide +kernel
theorem dX10_slower_52 : decode cX10_slower 52 = .ok (.aload 5, 2) := by decide +kernel
theorem dX10_slower_54 : decode cX10_slower 54 = .ok (.iload_n 3, 1) := by decide +kernel
theorem dX10_slower_55 : decode cX10_slower 55 = .ok (.iconst 0, 1) := by decide +kernel
theorem dX10_slower_56 : decode cX10_slower 56 = .ok (.aload 5, 2) := by decide +kernel
theorem dX10_slower_58 : decode cX10_slower 58 = .ok (.getfield 162, 3) := by decide +kernel
theorem dX10_slower_61 : decode cX10_slower 61 = .ok (.invokevirtual 234, 3) := by decide +kernel
theorem dX10_slower_64 : decode cX10_slower 64 = .ok (.aload_n 0, 1) := by decide +kernel
theorem dX10_slower_65 : decode cX10_slower 65 = .ok (.getfield 65, 3) := by decide +kernel
theorem dX10_slower_68 : decode cX10_slower 68 = .ok (.iload_n 2, 1) := by decide +kernel
theorem dX10_slower_69 : decode cX10_slower 69 = .ok (.invokevirtual 215, 3) := by decide +kernel
theorem dX10_slower_72 : decode cX10_slower 72 = .ok (.istore 6, 2) := by decide +kernel
theorem dX10_slower_74 : decode cX10_slower 74 = .ok (.aload_n 0, 1) := by decide +kernel
theorem dX10_slower_75 : decode cX10_slower 75 = .ok (.getfield 65, 3) := by decide +kernel
theorem dX10_slower_78 : decode cX10_slower 78 = .ok (.aload_n 0, 1) := by decide +kernel
theorem dX10_slower_79 : decode cX10_slower 79 = .ok (.getfield 48, 3) := by decide +kernel
theorem dX10_slower_82 : decode cX10_slower 82 = .ok (.getfield 98, 3) := by decide +kernel
theorem dX10_slower_85 : decode cX10_slower 85 = .ok (.aload 5, 2) := by decide +kernel
theorem dX10_slower_87 : decode cX10_slower 87 = .ok (.iload 4, 2) := by decide +kernel
theorem dX10_slower_89 : decode cX10_slower 89 = .ok (.iconst 0, 1) := by decide +kernel
theorem dX10_slower_90 : decode cX10_slower 90 = .ok (.aload 5, 2) := by decide +kernel
theorem dX10_slower_92 : decode cX10_slower 92 = .ok (.getfield 162, 3) := by decide +kernel
theorem dX10_slower_95 : decode cX10_slower 95 = .ok (.invokevirtual 234, 3) := by decide +kernel
theorem dX10_slower_98 : decode cX10_slower 98 = .ok (.aload_n 0, 1) := by decide +kernel
theorem dX10_slower_99 : decode cX10_slower 99 = .ok (.getfield 65, 3) := by decide +kernel
theorem dX10_slower_102 : decode cX10_slower 102 = .ok (.iload_n 2, 1) := by decide +kernel
theorem dX10_slower_103 : decode cX10_slower 103 = .ok (.invokevirtual 215, 3) := by decide +kernel
theorem dX10_slower_106 : decode cX10_slower 106 = .ok (.istore 7, 2) := by decide +kernel
theorem dX10_slower_108 : decode cX10_slower 108 = .ok (.iload 6, 2) := by decide +kernel
theorem dX10_slower_110 : decode cX10_slower 110 = .ok (.ifCond .lt 8, 3) := by decide +kernel
theorem dX10_slower_113 : decode cX10_slower 113 = .ok (.iload 7, 2) := by decide +kernel
theorem dX10_slower_115 : decode cX10_slower 115 = .ok (.ifCond .ge 9, 3) := by decide +kernel
theorem dX10_slower_118 : decode cX10_slower 118 = .ok (.sipush (-1000), 3) := by decide +kernel
theorem dX10_slower_121 : decode cX10_slower 121 = .ok (.goto 8, 3) := by decide +kernel
theorem dX10_slower_124 : decode cX10_slower 124 = .ok (.iload 6, 2) := by decide +kernel
theorem dX10_slower_126 : decode cX10_slower 126 = .ok (.iload 7, 2) := by decide +kernel
theorem dX10_slower_128 : decode cX10_slower 128 = .ok (.isub, 1) := by decide +kernel
theorem dX10_slower_129 : decode cX10_slower 129 = .ok (.ireturn, 1) := by decide +kernel
theorem dX10_judge_0 : decode cX10_judge 0 = .ok (.aload_n 0, 1) := by decide +kernel
theorem dX10_judge_1 : decode cX10_judge 1 = .ok (.iload_n 1, 1) := by decide +kernel
theorem dX10_judge_2 : decode cX10_judge 2 = .ok (.invokevirtual 294, 3) := by decide +kernel
theorem dX10_judge_5 : decode cX10_judge 5 = .ok (.astore_n 3, 1) := by decide +kernel
theorem dX10_judge_6 : decode cX10_judge 6 = .ok (.aload_n 3, 1) := by decide +kernel
theorem dX10_judge_7 : decode cX10_judge 7 = .ok (.ifnonnull 5, 3) := by decide +kernel
theorem dX10_judge_10 : decode cX10_judge 10 = .ok (.iconst (-1), 1) := by decide +kernel
theorem dX10_judge_11 : decode cX10_judge 11 = .ok (.ireturn, 1) := by decide +kernel
theorem dX10_judge_12 : decode cX10_judge 12 = .ok (.aload_n 3, 1) := by decide +kernel
theorem dX10_judge_13 : decode cX10_judge 13 = .ok (.getfield 298, 3) := by decide +kernel
theorem dX10_judge_16 : decode cX10_judge 16 = .ok (.iconst (-1), 1) := by decide +kernel
theorem dX10_judge_17 : decode cX10_judge 17 = .ok (.if_icmp .eq 14, 3) := by decide +kernel
theorem dX10_judge_20 : decode cX10_judge 20 = .ok (.aload_n 3, 1) := by decide +kernel
theorem dX10_judge_21 : decode cX10_judge 21 = .ok (.getfield 298, 3) := by decide +kernel
theorem dX10_judge_24 : decode cX10_judge 24 = .ok (.iconst 3, 1) := by decide +kernel
theorem dX10_judge_25 : decode cX10_judge 25 = .ok (.if_icmp .eq 6, 3) := by decide +kernel
theorem dX10_judge_28 : decode cX10_judge 28 = .ok (.bipush (-12), 2) := by decide +kernel
theorem dX10_judge_30 : decode cX10_judge 30 = .ok (.ireturn, 1) := by decide +kernel
theorem dX10_judge_31 : decode cX10_judge 31 = .ok (.iconst 0, 1) := by decide +kernel
theorem dX10_judge_32 : decode cX10_judge 32 = .ok (.istore 4, 2) := by decide +kernel
theorem dX10_judge_34 : decode cX10_judge 34 = .ok (.iload 4, 2) := by decide +kernel
theorem dX10_judge_36 : decode cX10_judge 36 = .ok (.aload_n 0, 1) := by decide +kernel
theorem dX10_judge_37 : decode cX10_judge 37 = .ok (.getfield 48, 3) := by decide +kernel
theorem dX10_judge_40 : decode cX10_judge 40 = .ok (.getfield 149, 3) := by decide +kernel
theorem dX10_judge_43 : decode cX10_judge 43 = .ok (.if_icmp .ge 65, 3) := by decide +kernel
theorem dX10_judge_46 : decode cX10_judge 46 = .ok (.aload_n 0, 1) := by decide +kernel
theorem dX10_judge_47 : decode cX10_judge 47 = .ok (.getfield 48, 3) := by decide +kernel
theorem dX10_judge_50 : decode cX10_judge 50 = .ok (.iload 4, 2) := by decide +kernel
theorem dX10_judge_52 : decode cX10_judge 52 = .ok (.invokevirtual 152, 3) := by decide +kernel
theorem dX10_judge_55 : decode cX10_judge 55 = .ok (.astore 5, 2) := by decide +kernel
theorem dX10_judge_57 : decode cX10_judge 57 = .ok (.aload_n 3, 1) := by decide +kernel
theorem dX10_judge_58 : decode cX10_judge 58 = .ok (.iload_n 2, 1) := by decide +kernel
theorem dX10_judge_59 : decode cX10_judge 59 = .ok (.i2l, 1) := by decide +kernel
theorem dX10_judge_60 : decode cX10_judge 60 = .ok (.iload 4, 2) := by decide +kernel
theorem dX10_judge_62 : decode cX10_judge 62 = .ok (.i2l, 1) := by decide +kernel
theorem dX10_judge_63 : decode cX10_judge 63 = .ok (.ladd, 1) := by decide +kernel
theorem dX10_judge_64 : decode cX10_judge 64 = .ok (.invokevirtual 301, 3) := by decide +kernel
theorem dX10_judge_67 : decode cX10_judge 67 = .ok (.ifCond .ne 9, 3) := by decide +kernel
theorem dX10_judge_70 : decode cX10_judge 70 = .ok (.bipush 100, 2) := by decide +kernel
theorem dX10_judge_72 : decode cX10_judge 72 = .ok (.iload 4, 2) := by decide +kernel
theorem dX10_judge_74 : decode cX10_judge 74 = .ok (.iadd, 1) := by decide +kernel
theorem dX10_judge_75 : decode cX10_judge 75 = .ok (.ireturn, 1) := by decide +kernel
theorem dX10_judge_76 : decode cX10_judge 76 = .ok (.aload 5, 2) := by decide +kernel
theorem dX10_judge_78 : decode cX10_judge 78 = .ok (.ifnull 21, 3) := by decide +kernel
theorem dX10_judge_81 : decode cX10_judge 81 = .ok (.aload_n 3, 1) := by decide +kernel
theorem dX10_judge_82 : decode cX10_judge 82 = .ok (.iload_n 2, 1) := by decide +kernel
theorem dX10_judge_83 : decode cX10_judge 83 = .ok (.iload 4, 2) := by decide +kernel
theorem dX10_judge_85 : decode cX10_judge 85 = .ok (.iadd, 1) := by decide +kernel
theorem dX10_judge_86 : decode cX10_judge 86 = .ok (.invokevirtual 305, 3) := by decide +kernel
theorem dX10_judge_89 : decode cX10_judge 89 = .ok (.aload 5, 2) := by decide +kernel
theorem dX10_judge_91 : decode cX10_judge 91 = .ok (.getfield 156, 3) := by decide +kernel
theorem dX10_judge_94 : decode cX10_judge 94 = .ok (.i2l, 1) := by decide +kernel
theorem dX10_judge_95 : decode cX10_judge 95 = .ok (.lcmp, 1) := by decide +kernel
theorem dX10_judge_96 : decode cX10_judge 96 = .ok (.ifCond .eq 6, 3) := by decide +kernel
theorem dX10_judge_99 : decode cX10_judge 99 = .ok (.iload 4, 2) := by decide +kernel
theorem dX10_judge_101 : decode cX10_judge 101 = .ok (.ireturn, 1) := by decide +kernel
theorem dX10_judge_102 : decode cX10_judge 102 = .ok (.iinc 4 1, 3) := by decide +kernel
theorem dX10_judge_105 : decode cX10_judge 105 = .ok (.goto (-71), 3) := by decide +kernel
theorem dX10_judge_108 : decode cX10_judge 108 = .ok (.bipush (-5), 2) := by decide +kernel
theorem dX10_judge_110 : decode cX10_judge 110 = .ok (.ireturn, 1) := by decide +kernel
theorem dX10_image_0 : decode cX10_image 0 = .ok (.aload_n 0, 1) := by decide +kernel
theorem dX10_image_1 : decode cX10_image 1 = .ok (.getfield 52, 3) := by decide +kernel
theorem dX10_image_4 : decode cX10_image 4 = .ok (.aload_n 0, 1) := by decide +kernel
theorem dX10_image_5 : decode cX10_image 5 = .ok (.getfield 48, 3) := by decide +kernel
theorem dX10_image_8 : decode cX10_image 8 = .ok (.invokevirtual 308, 3) := by decide +kernel
theorem dX10_image_11 : decode cX10_image 11 = .ok (.aload_n 0, 1) := by decide +kernel
theorem dX10_image_12 : decode cX10_image 12 = .ok (.iconst 1, 1) := by decide +kernel
theorem dX10_image_13 : decode cX10_image 13 = .ok (.putfield 311, 3) := by decide +kernel
theorem dX10_image_16 : decode cX10_image 16 = .ok (.aload_n 0, 1) := by decide +kernel
theorem dX10_image_17 : decode cX10_image 17 = .ok (.getfield 48, 3) := by decide +kernel
theorem dX10_image_20 : decode cX10_image 20 = .ok (.getfield 149, 3) := by decide +kernel
theorem dX10_image_23 : decode cX10_image 23 = .ok (.ireturn, 1) := by decide +kernel
theorem dX10_undo_0 : decode cX10_undo 0 = .ok (.aload_n 0, 1) := by decide +kernel
theorem dX10_undo_1 : decode cX10_undo 1 = .ok (.getfield 311, 3) := by decide +kernel
theorem dX10_undo_4 : decode cX10_undo 4 = .ok (.ifCond .ne 6, 3) := by decide +kernel
theorem dX10_undo_7 : decode cX10_undo 7 = .ok (.bipush (-3), 2) := by decide +kernel
theorem dX10_undo_9 : decode cX10_undo 9 = .ok (.ireturn, 1) := by decide +kernel
theorem dX10_undo_10 : decode cX10_undo 10 = .ok (.aload_n 0, 1) := by decide +kernel
theorem dX10_undo_11 : decode cX10_undo 11 = .ok (.getfield 48, 3) := by decide +kernel
theorem dX10_undo_14 : decode cX10_undo 14 = .ok (.aload_n 0, 1) := by decide +kernel
theorem dX10_undo_15 : decode cX10_undo 15 = .ok (.getfield 52, 3) := by decide +kernel
theorem dX10_undo_18 : decode cX10_undo 18 = .ok (.invokevirtual 308, 3) := by decide +kernel
theorem dX10_undo_21 : decode cX10_undo 21 = .ok (.aload_n 0, 1) := by decide +kernel
theorem dX10_undo_22 : decode cX10_undo 22 = .ok (.getfield 48, 3) := by decide +kernel
theorem dX10_undo_25 : decode cX10_undo 25 = .ok (.getfield 149, 3) := by decide +kernel
theorem dX10_undo_28 : decode cX10_undo 28 = .ok (.ireturn, 1) := by decide +kernel
theorem dX10_act_0 : decode cX10_act 0 = .ok (.aload_n 0, 1) := by decide +kernel
theorem dX10_act_1 : decode cX10_act 1 = .ok (.getfield 28, 3) := by decide +kernel
theorem dX10_act_4 : decode cX10_act 4 = .ok (.iconst 0, 1) := by decide +kernel
theorem dX10_act_5 : decode cX10_act 5 = .ok (.putfield 315, 3) := by decide +kernel
theorem dX10_act_8 : decode cX10_act 8 = .ok (.aload_n 0, 1) := by decide +kernel
theorem dX10_act_9 : decode cX10_act 9 = .ok (.getfield 48, 3) := by decide +kernel
theorem dX10_act_12 : decode cX10_act 12 = .ok (.iload_n 1, 1) := by decide +kernel
theorem dX10_act_13 : decode cX10_act 13 = .ok (.invokevirtual 152, 3) := by decide +kernel
theorem dX10_act_16 : decode cX10_act 16 = .ok (.astore 4, 2) := by decide +kernel
theorem dX10_act_18 : decode cX10_act 18 = .ok (.aload 4, 2) := by decide +kernel
theorem dX10_act_20 : decode cX10_act 20 = .ok (.ifnonnull 5, 3) := by decide +kernel
theorem dX10_act_23 : decode cX10_act 23 = .ok (.iconst 0, 1) := by decide +kernel
theorem dX10_act_24 : decode cX10_act 24 = .ok (.ireturn, 1) := by decide +kernel
theorem dX10_act_25 : decode cX10_act 25 = .ok (.aload_n 0, 1) := by decide +kernel
theorem dX10_act_26 : decode cX10_act 26 = .ok (.getfield 28, 3) := by decide +kernel
theorem dX10_act_29 : decode cX10_act 29 = .ok (.aload 4, 2) := by decide +kernel
theorem dX10_act_31 : decode cX10_act 31 = .ok (.getfield 136, 3) := by decide +kernel
theorem dX10_act_34 : decode cX10_act 34 = .ok (.putfield 318, 3) := by decide +kernel
theorem dX10_act_37 : decode cX10_act 37 = .ok (.aload_n 0, 1) := by decide +kernel
theorem dX10_act_38 : decode cX10_act 38 = .ok (.getfield 28, 3) := by decide +kernel
theorem dX10_act_41 : decode cX10_act 41 = .ok (.aload 4, 2) := by decide +kernel
theorem dX10_act_43 : decode cX10_act 43 = .ok (.getfield 139, 3) := by decide +kernel
theorem dX10_act_46 : decode cX10_act 46 = .ok (.putfield 319, 3) := by decide +kernel
theorem dX10_act_49 : decode cX10_act 49 = .ok (.aload_n 0, 1) := by decide +kernel
theorem dX10_act_50 : decode cX10_act 50 = .ok (.getfield 28, 3) := by decide +kernel
theorem dX10_act_53 : decode cX10_act 53 = .ok (.iload_n 1, 1) := by decide +kernel
theorem dX10_act_54 : decode cX10_act 54 = .ok (.putfield 320, 3) := by decide +kernel
theorem dX10_act_57 : decode cX10_act 57 = .ok (.iload_n 2, 1) := by decide +kernel
theorem dX10_act_58 : decode cX10_act 58 = .ok (.tableswitch 68 0 2 #[26, 40, 54], 26) := by decide +kernel
theorem dX10_act_84 : decode cX10_act 84 = .ok (.aload_n 0, 1) := by decide +kernel
theorem dX10_act_85 : decode cX10_act 85 = .ok (.getfield 28, 3) := by decide +kernel
theorem dX10_act_88 : decode cX10_act 88 = .ok (.aload 4, 2) := by decide +kernel
theorem dX10_act_90 : decode cX10_act 90 = .ok (.getfield 136, 3) := by decide +kernel
theorem dX10_act_93 : decode cX10_act 93 = .ok (.iload_n 3, 1) := by decide +kernel
theorem dX10_act_94 : decode cX10_act 94 = .ok (.invokevirtual 323, 3) := by decide +kernel
theorem dX10_act_97 : decode cX10_act 97 = .ok (.ireturn, 1) := by decide +kernel
theorem dX10_act_98 : decode cX10_act 98 = .ok (.aload_n 0, 1) := by decide +kernel
theorem dX10_act_99 : decode cX10_act 99 = .ok (.getfield 28, 3) := by decide +kernel
theorem dX10_act_102 : decode cX10_act 102 = .ok (.aload 4, 2) := by decide +kernel
theorem dX10_act_104 : decode cX10_act 104 = .ok (.getfield 136, 3) := by decide +kernel
theorem dX10_act_107 : decode cX10_act 107 = .ok (.iload_n 3, 1) := by decide +kernel
theorem dX10_act_108 : decode cX10_act 108 = .ok (.invokevirtual 325, 3) := by decide +kernel
theorem dX10_act_111 : decode cX10_act 111 = .ok (.ireturn, 1) := by decide +kernel
theorem dX10_act_112 : decode cX10_act 112 = .ok (.aload_n 0, 1) := by decide +kernel
theorem dX10_act_113 : decode cX10_act 113 = .ok (.getfield 28, 3) := by decide +kernel
theorem dX10_act_116 : decode cX10_act 116 = .ok (.aload 4, 2) := by decide +kernel
theorem dX10_act_118 : decode cX10_act 118 = .ok (.getfield 136, 3) := by decide +kernel
theorem dX10_act_121 : decode cX10_act 121 = .ok (.iload_n 3, 1) := by decide +kernel
theorem dX10_act_122 : decode cX10_act 122 = .ok (.invokevirtual 328, 3) := by decide +kernel
theorem dX10_act_125 : decode cX10_act 125 = .ok (.ireturn, 1) := by decide +kernel
theorem dX10_act_126 : decode cX10_act 126 = .ok (.iconst 0, 1) := by decide +kernel
theorem dX10_act_127 : decode cX10_act 127 = .ok (.ireturn, 1) := by decide +kernel
theorem dX10_trace_0 : decode cX10_trace 0 = .ok (.iload_n 1, 1) := by decide +kernel
theorem dX10_trace_1 : decode cX10_trace 1 = .ok (.ifCond .lt 32, 3) := by decide +kernel
theorem dX10_trace_4 : decode cX10_trace 4 = .ok (.iload_n 1, 1) := by decide +kernel
theorem dX10_trace_5 : decode cX10_trace 5 = .ok (.aload_n 0, 1) := by decide +kernel
theorem dX10_trace_6 : decode cX10_trace 6 = .ok (.getfield 28, 3) := by decide +kernel
theorem dX10_trace_9 : decode cX10_trace 9 = .ok (.getfield 315, 3) := by decide +kernel
theorem dX10_trace_12 : decode cX10_trace 12 = .ok (.if_icmp .ge 21, 3) := by decide +kernel
theorem dX10_trace_15 : decode cX10_trace 15 = .ok (.iload_n 1, 1) := by decide +kernel
theorem dX10_trace_16 : decode cX10_trace 16 = .ok (.bipush 20, 2) := by decide +kernel
theorem dX10_trace_18 : decode cX10_trace 18 = .ok (.if_icmp .ge 15, 3) := by decide +kernel
theorem dX10_trace_21 : decode cX10_trace 21 = .ok (.aload_n 0, 1) := by decide +kernel
theorem dX10_trace_22 : decode cX10_trace 22 = .ok (.getfield 28, 3) := by decide +kernel
theorem dX10_trace_25 : decode cX10_trace 25 = .ok (.getfield 331, 3) := by decide +kernel
theorem dX10_trace_28 : decode cX10_trace 28 = .ok (.iload_n 1, 1) := by decide +kernel
theorem dX10_trace_29 : decode cX10_trace 29 = .ok (.iaload, 1) := by decide +kernel
theorem dX10_trace_30 : decode cX10_trace 30 = .ok (.goto 4, 3) := by decide +kernel
theorem dX10_trace_33 : decode cX10_trace 33 = .ok (.iconst (-1), 1) := by decide +kernel
theorem dX10_trace_34 : decode cX10_trace 34 = .ok (.ireturn, 1) := by decide +kernel
theorem dX10_taken_0 : decode cX10_taken 0 = .ok (.iload_n 2, 1) := by decide +kernel
theorem dX10_taken_1 : decode cX10_taken 1 = .ok (.invokestatic 119, 3) := by decide +kernel
theorem dX10_taken_4 : decode cX10_taken 4 = .ok (.ifCond .ne 6, 3) := by decide +kernel
theorem dX10_taken_7 : decode cX10_taken 7 = .ok (.bipush (-2), 2) := by decide +kernel
theorem dX10_taken_9 : decode cX10_taken 9 = .ok (.ireturn, 1) := by decide +kernel
theorem dX10_taken_10 : decode cX10_taken 10 = .ok (.aload_n 0, 1) := by decide +kernel
theorem dX10_taken_11 : decode cX10_taken 11 = .ok (.getfield 48, 3) := by decide +kernel
theorem dX10_taken_14 : decode cX10_taken 14 = .ok (.iload_n 1, 1) := by decide +kernel
theorem dX10_taken_15 : decode cX10_taken 15 = .ok (.invokevirtual 152, 3) := by decide +kernel
theorem dX10_taken_18 : decode cX10_taken 18 = .ok (.astore_n 3, 1) := by decide +kernel
theorem dX10_taken_19 : decode cX10_taken 19 = .ok (.aload_n 3, 1) := by decide +kernel
theorem dX10_taken_20 : decode cX10_taken 20 = .ok (.ifnonnull 6, 3) := by decide +kernel
theorem dX10_taken_23 : decode cX10_taken 23 = .ok (.bipush (-11), 2) := by decide +kernel
theorem dX10_taken_25 : decode cX10_taken 25 = .ok (.ireturn, 1) := by decide +kernel
theorem dX10_taken_26 : decode cX10_taken 26 = .ok (.aload_n 3, 1) := by decide +kernel
theorem dX10_taken_27 : decode cX10_taken 27 = .ok (.getfield 136, 3) := by decide +kernel
theorem dX10_taken_30 : decode cX10_taken 30 = .ok (.iload_n 2, 1) := by decide +kernel
theorem dX10_taken_31 : decode cX10_taken 31 = .ok (.invokestatic 335, 3) := by decide +kernel
theorem dX10_taken_34 : decode cX10_taken 34 = .ok (.ifCond .eq 10, 3) := by decide +kernel
theorem dX10_taken_37 : decode cX10_taken 37 = .ok (.aload_n 3, 1) := by decide +kernel
theorem dX10_taken_38 : decode cX10_taken 38 = .ok (.getfield 136, 3) := by decide +kernel
theorem dX10_taken_41 : decode cX10_taken 41 = .ok (.goto 5, 3) := by decide +kernel
theorem dX10_taken_44 : decode cX10_taken 44 = .ok (.bipush (-12), 2) := by decide +kernel
theorem dX10_taken_46 : decode cX10_taken 46 = .ok (.ireturn, 1) := by decide +kernel
theorem dX10_count_0 : decode cX10_count 0 = .ok (.iload_n 1, 1) := by decide +kernel
theorem dX10_count_1 : decode cX10_count 1 = .ok (.tableswitch 90 0 5 #[39, 47, 52, 63, 74, 82], 39) := by decide +kernel
theorem dX10_count_40 : decode cX10_count 40 = .ok (.aload_n 0, 1) := by decide +kernel
theorem dX10_count_41 : decode cX10_count 41 = .ok (.getfield 48, 3) := by decide +kernel
theorem dX10_count_44 : decode cX10_count 44 = .ok (.getfield 149, 3) := by decide +kernel
theorem dX10_count_47 : decode cX10_count 47 = .ok (.ireturn, 1) := by decide +kernel
theorem dX10_count_48 : decode cX10_count 48 = .ok (.aload_n 0, 1) := by decide +kernel
theorem dX10_count_49 : decode cX10_count 49 = .ok (.getfield 88, 3) := by decide +kernel
theorem dX10_count_52 : decode cX10_count 52 = .ok (.ireturn, 1) := by decide +kernel
theorem dX10_count_53 : decode cX10_count 53 = .ok (.aload_n 0, 1) := by decide +kernel
theorem dX10_count_54 : decode cX10_count 54 = .ok (.getfield 48, 3) := by decide +kernel
theorem dX10_count_57 : decode cX10_count 57 = .ok (.getfield 254, 3) := by decide +kernel
theorem dX10_count_60 : decode cX10_count 60 = .ok (.getfield 266, 3) := by decide +kernel
theorem dX10_count_63 : decode cX10_count 63 = .ok (.ireturn, 1) := by decide +kernel
theorem dX10_count_64 : decode cX10_count 64 = .ok (.aload_n 0, 1) := by decide +kernel
theorem dX10_count_65 : decode cX10_count 65 = .ok (.getfield 48, 3) := by decide +kernel
theorem dX10_count_68 : decode cX10_count 68 = .ok (.getfield 269, 3) := by decide +kernel
theorem dX10_count_71 : decode cX10_count 71 = .ok (.getfield 266, 3) := by decide +kernel
theorem dX10_count_74 : decode cX10_count 74 = .ok (.ireturn, 1) := by decide +kernel
theorem dX10_count_75 : decode cX10_count 75 = .ok (.aload_n 0, 1) := by decide +kernel
theorem dX10_count_76 : decode cX10_count 76 = .ok (.getfield 14, 3) := by decide +kernel
theorem dX10_count_79 : decode cX10_count 79 = .ok (.getfield 84, 3) := by decide +kernel
theorem dX10_count_82 : decode cX10_count 82 = .ok (.ireturn, 1) := by decide +kernel
theorem dX10_count_83 : decode cX10_count 83 = .ok (.aload_n 0, 1) := by decide +kernel
theorem dX10_count_84 : decode cX10_count 84 = .ok (.getfield 28, 3) := by decide +kernel
theorem dX10_count_87 : decode cX10_count 87 = .ok (.getfield 315, 3) := by decide +kernel
theorem dX10_count_90 : decode cX10_count 90 = .ok (.ireturn, 1) := by decide +kernel
theorem dX10_count_91 : decode cX10_count 91 = .ok (.bipush (-2), 2) := by decide +kernel
theorem dX10_count_93 : decode cX10_count 93 = .ok (.ireturn, 1) := by decide +kernel
theorem dX10_tape_0 : decode cX10_tape 0 = .ok (.aload_n 0, 1) := by decide +kernel
theorem dX10_tape_1 : decode cX10_tape 1 = .ok (.iload_n 1, 1) := by decide +kernel
theorem dX10_tape_2 : decode cX10_tape 2 = .ok (.invokevirtual 294, 3) := by decide +kernel
theorem dX10_tape_5 : decode cX10_tape 5 = .ok (.astore 4, 2) := by decide +kernel
theorem dX10_tape_7 : decode cX10_tape 7 = .ok (.aload 4, 2) := by decide +kernel
theorem dX10_tape_9 : decode cX10_tape 9 = .ok (.ifnonnull 5, 3) := by decide +kernel
theorem dX10_tape_12 : decode cX10_tape 12 = .ok (.iconst (-1), 1) := by decide +kernel
theorem dX10_tape_13 : decode cX10_tape 13 = .ok (.ireturn, 1) := by decide +kernel
theorem dX10_tape_14 : decode cX10_tape 14 = .ok (.iload_n 2, 1) := by decide +kernel
theorem dX10_tape_15 : decode cX10_tape 15 = .ok (.iconst (-1), 1) := by decide +kernel
theorem dX10_tape_16 : decode cX10_tape 16 = .ok (.if_icmp .lt 19, 3) := by decide +kernel
theorem dX10_tape_19 : decode cX10_tape 19 = .ok (.iload_n 2, 1) := by decide +kernel
theorem dX10_tape_20 : decode cX10_tape 20 = .ok (.iconst 4, 1) := by decide +kernel
theorem dX10_tape_21 : decode cX10_tape 21 = .ok (.if_icmp .gt 14, 3) := by decide +kernel
theorem dX10_tape_24 : decode cX10_tape 24 = .ok (.iload_n 2, 1) := by decide +kernel
theorem dX10_tape_25 : decode cX10_tape 25 = .ok (.iconst (-1), 1) := by decide +kernel
theorem dX10_tape_26 : decode cX10_tape 26 = .ok (.if_icmp .eq 12, 3) := by decide +kernel
theorem dX10_tape_29 : decode cX10_tape 29 = .ok (.iload_n 3, 1) := by decide +kernel
theorem dX10_tape_30 : decode cX10_tape 30 = .ok (.bipush 60, 2) := by decide +kernel
theorem dX10_tape_32 : decode cX10_tape 32 = .ok (.if_icmp .le 6, 3) := by decide +kernel
theorem dX10_tape_35 : decode cX10_tape 35 = .ok (.bipush (-2), 2) := by decide +kernel
theorem dX10_tape_37 : decode cX10_tape 37 = .ok (.ireturn, 1) := by decide +kernel
theorem dX10_tape_38 : decode cX10_tape 38 = .ok (.iload_n 2, 1) := by decide +kernel
theorem dX10_tape_39 : decode cX10_tape 39 = .ok (.iconst (-1), 1) := by decide +kernel
theorem dX10_tape_40 : decode cX10_tape 40 = .ok (.if_icmp .eq 10, 3) := by decide +kernel
theorem dX10_tape_43 : decode cX10_tape 43 = .ok (.iload_n 3, 1) := by decide +kernel
theorem dX10_tape_44 : decode cX10_tape 44 = .ok (.ifCond .ge 6, 3) := by decide +kernel
theorem dX10_tape_47 : decode cX10_tape 47 = .ok (.bipush (-14), 2) := by decide +kernel
theorem dX10_tape_49 : decode cX10_tape 49 = .ok (.ireturn, 1) := by decide +kernel
theorem dX10_tape_50 : decode cX10_tape 50 = .ok (.aload 4, 2) := by decide +kernel
theorem dX10_tape_52 : decode cX10_tape 52 = .ok (.iload_n 2, 1) := by decide +kernel
theorem dX10_tape_53 : decode cX10_tape 53 = .ok (.iload_n 2, 1) := by decide +kernel
theorem dX10_tape_54 : decode cX10_tape 54 = .ok (.iconst (-1), 1) := by decide +kernel
theorem dX10_tape_55 : decode cX10_tape 55 = .ok (.if_icmp .ne 7, 3) := by decide +kernel
theorem dX10_tape_58 : decode cX10_tape 58 = .ok (.iconst 0, 1) := by decide +kernel
theorem dX10_tape_59 : decode cX10_tape 59 = .ok (.goto 4, 3) := by decide +kernel
theorem dX10_tape_62 : decode cX10_tape 62 = .ok (.iload_n 3, 1) := by decide +kernel
theorem dX10_tape_63 : decode cX10_tape 63 = .ok (.invokevirtual 339, 3) := by decide +kernel
theorem dX10_tape_66 : decode cX10_tape 66 = .ok (.iconst 1, 1) := by decide +kernel
theorem dX10_tape_67 : decode cX10_tape 67 = .ok (.ireturn, 1) := by decide +kernel
theorem dX10_item_0 : decode cX10_item 0 = .ok (.aload_n 0, 1) := by decide +kernel
theorem dX10_item_1 : decode cX10_item 1 = .ok (.iload_n 1, 1) := by decide +kernel
theorem dX10_item_2 : decode cX10_item 2 = .ok (.invokevirtual 294, 3) := by decide +kernel
theorem dX10_item_5 : decode cX10_item 5 = .ok (.astore 5, 2) := by decide +kernel
theorem dX10_item_7 : decode cX10_item 7 = .ok (.aload 5, 2) := by decide +kernel
theorem dX10_item_9 : decode cX10_item 9 = .ok (.ifnonnull 5, 3) := by decide +kernel
theorem dX10_item_12 : decode cX10_item 12 = .ok (.iconst (-1), 1) := by decide +kernel
theorem dX10_item_13 : decode cX10_item 13 = .ok (.ireturn, 1) := by decide +kernel
theorem dX10_item_14 : decode cX10_item 14 = .ok (.aload 5, 2) := by decide +kernel
theorem dX10_item_16 : decode cX10_item 16 = .ok (.getfield 298, 3) := by decide +kernel
theorem dX10_item_19 : decode cX10_item 19 = .ok (.iconst (-1), 1) := by decide +kernel
theorem dX10_item_20 : decode cX10_item 20 = .ok (.if_icmp .ne 6, 3) := by decide +kernel
theorem dX10_item_23 : decode cX10_item 23 = .ok (.bipush (-11), 2) := by decide +kernel
theorem dX10_item_25 : decode cX10_item 25 = .ok (.ireturn, 1) := by decide +kernel
theorem dX10_item_26 : decode cX10_item 26 = .ok (.aload 5, 2) := by decide +kernel
theorem dX10_item_28 : decode cX10_item 28 = .ok (.iload_n 2, 1) := by decide +kernel
theorem dX10_item_29 : decode cX10_item 29 = .ok (.i2l, 1) := by decide +kernel
theorem dX10_item_30 : decode cX10_item 30 = .ok (.invokevirtual 301, 3) := by decide +kernel
theorem dX10_item_33 : decode cX10_item 33 = .ok (.ifCond .ne 6, 3) := by decide +kernel
theorem dX10_item_36 : decode cX10_item 36 = .ok (.bipush (-13), 2) := by decide +kernel
theorem dX10_item_38 : decode cX10_item 38 = .ok (.ireturn, 1) := by decide +kernel
theorem dX10_item_39 : decode cX10_item 39 = .ok (.aload 5, 2) := by decide +kernel
theorem dX10_item_41 : decode cX10_item 41 = .ok (.iload_n 2, 1) := by decide +kernel
theorem dX10_item_42 : decode cX10_item 42 = .ok (.lload_n 3, 1) := by decide +kernel
theorem dX10_item_43 : decode cX10_item 43 = .ok (.invokevirtual 342, 3) := by decide +kernel
theorem dX10_item_46 : decode cX10_item 46 = .ok (.iconst 1, 1) := by decide +kernel
theorem dX10_item_47 : decode cX10_item 47 = .ok (.ireturn, 1) := by decide +kernel
theorem dX10_read_0 : decode cX10_read 0 = .ok (.aload_n 0, 1) := by decide +kernel
theorem dX10_read_1 : decode cX10_read 1 = .ok (.iload_n 1, 1) := by decide +kernel
theorem dX10_read_2 : decode cX10_read 2 = .ok (.invokevirtual 294, 3) := by decide +kernel
theorem dX10_read_5 : decode cX10_read 5 = .ok (.astore_n 3, 1) := by decide +kernel
theorem dX10_read_6 : decode cX10_read 6 = .ok (.aload_n 3, 1) := by decide +kernel
theorem dX10_read_7 : decode cX10_read 7 = .ok (.ifnull 12, 3) := by decide +kernel
theorem dX10_read_10 : decode cX10_read 10 = .ok (.aload_n 3, 1) := by decide +kernel
theorem dX10_read_11 : decode cX10_read 11 = .ok (.iload_n 2, 1) := by decide +kernel
theorem dX10_read_12 : decode cX10_read 12 = .ok (.i2l, 1) := by decide +kernel
theorem dX10_read_13 : decode cX10_read 13 = .ok (.invokevirtual 301, 3) := by decide +kernel
theorem dX10_read_16 : decode cX10_read 16 = .ok (.ifCond .ne 9, 3) := by decide +kernel
theorem dX10_read_19 : decode cX10_read 19 = .ok (.ldc2_w 237, 3) := by decide +kernel
theorem dX10_read_22 : decode cX10_read 22 = .ok (.goto 8, 3) := by decide +kernel
theorem dX10_read_25 : decode cX10_read 25 = .ok (.aload_n 3, 1) := by decide +kernel
theorem dX10_read_26 : decode cX10_read 26 = .ok (.iload_n 2, 1) := by decide +kernel
theorem dX10_read_27 : decode cX10_read 27 = .ok (.invokevirtual 305, 3) := by decide +kernel
theorem dX10_read_30 : decode cX10_read 30 = .ok (.lreturn, 1) := by decide +kernel
theorem dX10_shift_0 : decode cX10_shift 0 = .ok (.aload_n 0, 1) := by decide +kernel
theorem dX10_shift_1 : decode cX10_shift 1 = .ok (.iload_n 1, 1) := by decide +kernel
theorem dX10_shift_2 : decode cX10_shift 2 = .ok (.invokevirtual 294, 3) := by decide +kernel
theorem dX10_shift_5 : decode cX10_shift 5 = .ok (.astore 6, 2) := by decide +kernel
theorem dX10_shift_7 : decode cX10_shift 7 = .ok (.aload_n 0, 1) := by decide +kernel
theorem dX10_shift_8 : decode cX10_shift 8 = .ok (.iload_n 3, 1) := by decide +kernel
theorem dX10_shift_9 : decode cX10_shift 9 = .ok (.invokevirtual 294, 3) := by decide +kernel
theorem dX10_shift_12 : decode cX10_shift 12 = .ok (.astore 7, 2) := by decide +kernel
theorem dX10_shift_14 : decode cX10_shift 14 = .ok (.aload 6, 2) := by decide +kernel
theorem dX10_shift_16 : decode cX10_shift 16 = .ok (.ifnull 8, 3) := by decide +kernel
theorem dX10_shift_19 : decode cX10_shift 19 = .ok (.aload 7, 2) := by decide +kernel
theorem dX10_shift_21 : decode cX10_shift 21 = .ok (.ifnonnull 5, 3) := by decide +kernel
theorem dX10_shift_24 : decode cX10_shift 24 = .ok (.iconst (-1), 1) := by decide +kernel
theorem dX10_shift_25 : decode cX10_shift 25 = .ok (.ireturn, 1) := by decide +kernel
theorem dX10_shift_26 : decode cX10_shift 26 = .ok (.aload 6, 2) := by decide +kernel
theorem dX10_shift_28 : decode cX10_shift 28 = .ok (.getfield 298, 3) := by decide +kernel
theorem dX10_shift_31 : decode cX10_shift 31 = .ok (.iconst (-1), 1) := by decide +kernel
theorem dX10_shift_32 : decode cX10_shift 32 = .ok (.if_icmp .eq 12, 3) := by decide +kernel
theorem dX10_shift_35 : decode cX10_shift 35 = .ok (.aload 7, 2) := by decide +kernel
theorem dX10_shift_37 : decode cX10_shift 37 = .ok (.getfield 298, 3) := by decide +kernel
theorem dX10_shift_40 : decode cX10_shift 40 = .ok (.iconst (-1), 1) := by decide +kernel
theorem dX10_shift_41 : decode cX10_shift 41 = .ok (.if_icmp .ne 6, 3) := by decide +kernel
theorem dX10_shift_44 : decode cX10_shift 44 = .ok (.bipush (-11), 2) := by decide +kernel
theorem dX10_shift_46 : decode cX10_shift 46 = .ok (.ireturn, 1) := by decide +kernel
theorem dX10_shift_47 : decode cX10_shift 47 = .ok (.aload 6, 2) := by decide +kernel
theorem dX10_shift_49 : decode cX10_shift 49 = .ok (.getfield 298, 3) := by decide +kernel
theorem dX10_shift_52 : decode cX10_shift 52 = .ok (.aload 7, 2) := by decide +kernel
theorem dX10_shift_54 : decode cX10_shift 54 = .ok (.getfield 298, 3) := by decide +kernel
theorem dX10_shift_57 : decode cX10_shift 57 = .ok (.if_icmp .eq 6, 3) := by decide +kernel
theorem dX10_shift_60 : decode cX10_shift 60 = .ok (.bipush (-12), 2) := by decide +kernel
theorem dX10_shift_62 : decode cX10_shift 62 = .ok (.ireturn, 1) := by decide +kernel
theorem dX10_shift_63 : decode cX10_shift 63 = .ok (.aload 6, 2) := by decide +kernel
theorem dX10_shift_65 : decode cX10_shift 65 = .ok (.iload_n 2, 1) := by decide +kernel
theorem dX10_shift_66 : decode cX10_shift 66 = .ok (.iload 5, 2) := by decide +kernel
theorem dX10_shift_68 : decode cX10_shift 68 = .ok (.invokevirtual 346, 3) := by decide +kernel
theorem dX10_shift_71 : decode cX10_shift 71 = .ok (.ifCond .eq 15, 3) := by decide +kernel
theorem dX10_shift_74 : decode cX10_shift 74 = .ok (.aload 7, 2) := by decide +kernel
theorem dX10_shift_76 : decode cX10_shift 76 = .ok (.iload 4, 2) := by decide +kernel
theorem dX10_shift_78 : decode cX10_shift 78 = .ok (.iload 5, 2) := by decide +kernel
theorem dX10_shift_80 : decode cX10_shift 80 = .ok (.invokevirtual 346, 3) := by decide +kernel
theorem dX10_shift_83 : decode cX10_shift 83 = .ok (.ifCond .ne 6, 3) := by decide +kernel
theorem dX10_shift_86 : decode cX10_shift 86 = .ok (.bipush (-13), 2) := by decide +kernel
theorem dX10_shift_88 : decode cX10_shift 88 = .ok (.ireturn, 1) := by decide +kernel
theorem dX10_shift_89 : decode cX10_shift 89 = .ok (.aload 6, 2) := by decide +kernel
theorem dX10_shift_91 : decode cX10_shift 91 = .ok (.getfield 349, 3) := by decide +kernel
theorem dX10_shift_94 : decode cX10_shift 94 = .ok (.iload_n 2, 1) := by decide +kernel
theorem dX10_shift_95 : decode cX10_shift 95 = .ok (.aload 7, 2) := by decide +kernel
theorem dX10_shift_97 : decode cX10_shift 97 = .ok (.getfield 349, 3) := by decide +kernel
theorem dX10_shift_100 : decode cX10_shift 100 = .ok (.iload 4, 2) := by decide +kernel
theorem dX10_shift_102 : decode cX10_shift 102 = .ok (.iload 5, 2) := by decide +kernel
theorem dX10_shift_104 : decode cX10_shift 104 = .ok (.invokestatic 353, 3) := by decide +kernel
theorem dX10_shift_107 : decode cX10_shift 107 = .ok (.iload 5, 2) := by decide +kernel
theorem dX10_shift_109 : decode cX10_shift 109 = .ok (.ireturn, 1) := by decide +kernel
theorem dX10_tapeAt_0 : decode cX10_tapeAt 0 = .ok (.iload_n 1, 1) := by decide +kernel
theorem dX10_tapeAt_1 : decode cX10_tapeAt 1 = .ok (.ifCond .lt 18, 3) := by decide +kernel
theorem dX10_tapeAt_4 : decode cX10_tapeAt 4 = .ok (.iload_n 1, 1) := by decide +kernel
theorem dX10_tapeAt_5 : decode cX10_tapeAt 5 = .ok (.bipush 6, 2) := by decide +kernel
theorem dX10_tapeAt_7 : decode cX10_tapeAt 7 = .ok (.if_icmp .ge 12, 3) := by decide +kernel
theorem dX10_tapeAt_10 : decode cX10_tapeAt 10 = .ok (.aload_n 0, 1) := by decide +kernel
theorem dX10_tapeAt_11 : decode cX10_tapeAt 11 = .ok (.getfield 34, 3) := by decide +kernel
theorem dX10_tapeAt_14 : decode cX10_tapeAt 14 = .ok (.iload_n 1, 1) := by decide +kernel
theorem dX10_tapeAt_15 : decode cX10_tapeAt 15 = .ok (.aaload, 1) := by decide +kernel
theorem dX10_tapeAt_16 : decode cX10_tapeAt 16 = .ok (.goto 4, 3) := by decide +kernel
theorem dX10_tapeAt_19 : decode cX10_tapeAt 19 = .ok (.aconst_null, 1) := by decide +kernel
theorem dX10_tapeAt_20 : decode cX10_tapeAt 20 = .ok (.areturn, 1) := by decide +kernel
theorem dX10_isCell_0 : decode cX10_isCell 0 = .ok (.iload_n 0, 1) := by decide +kernel
theorem dX10_isCell_1 : decode cX10_isCell 1 = .ok (.ifCond .lt 13, 3) := by decide +kernel
theorem dX10_isCell_4 : decode cX10_isCell 4 = .ok (.iload_n 0, 1) := by decide +kernel
theorem dX10_isCell_5 : decode cX10_isCell 5 = .ok (.bipush 36, 2) := by decide +kernel
theorem dX10_isCell_7 : decode cX10_isCell 7 = .ok (.if_icmp .ge 7, 3) := by decide +kernel
theorem dX10_isCell_10 : decode cX10_isCell 10 = .ok (.iconst 1, 1) := by decide +kernel
theorem dX10_isCell_11 : decode cX10_isCell 11 = .ok (.goto 4, 3) := by decide +kernel
theorem dX10_isCell_14 : decode cX10_isCell 14 = .ok (.iconst 0, 1) := by decide +kernel
theorem dX10_isCell_15 : decode cX10_isCell 15 = .ok (.ireturn, 1) := by decide +kernel
theorem dX10_isWay_0 : decode cX10_isWay 0 = .ok (.iload_n 0, 1) := by decide +kernel
theorem dX10_isWay_1 : decode cX10_isWay 1 = .ok (.ifCond .lt 12, 3) := by decide +kernel
theorem dX10_isWay_4 : decode cX10_isWay 4 = .ok (.iload_n 0, 1) := by decide +kernel
theorem dX10_isWay_5 : decode cX10_isWay 5 = .ok (.iconst 4, 1) := by decide +kernel
theorem dX10_isWay_6 : decode cX10_isWay 6 = .ok (.if_icmp .ge 7, 3) := by decide +kernel
theorem dX10_isWay_9 : decode cX10_isWay 9 = .ok (.iconst 1, 1) := by decide +kernel
theorem dX10_isWay_10 : decode cX10_isWay 10 = .ok (.goto 4, 3) := by decide +kernel
theorem dX10_isWay_13 : decode cX10_isWay 13 = .ok (.iconst 0, 1) := by decide +kernel
theorem dX10_isWay_14 : decode cX10_isWay 14 = .ok (.ireturn, 1) := by decide +kernel
theorem dX10_isKind_0 : decode cX10_isKind 0 = .ok (.iload_n 0, 1) := by decide +kernel
theorem dX10_isKind_1 : decode cX10_isKind 1 = .ok (.ifCond .lt 13, 3) := by decide +kernel
theorem dX10_isKind_4 : decode cX10_isKind 4 = .ok (.iload_n 0, 1) := by decide +kernel
theorem dX10_isKind_5 : decode cX10_isKind 5 = .ok (.bipush 7, 2) := by decide +kernel
theorem dX10_isKind_7 : decode cX10_isKind 7 = .ok (.if_icmp .ge 7, 3) := by decide +kernel
theorem dX10_isKind_10 : decode cX10_isKind 10 = .ok (.iconst 1, 1) := by decide +kernel
theorem dX10_isKind_11 : decode cX10_isKind 11 = .ok (.goto 4, 3) := by decide +kernel
theorem dX10_isKind_14 : decode cX10_isKind 14 = .ok (.iconst 0, 1) := by decide +kernel
theorem dX10_isKind_15 : decode cX10_isKind 15 = .ok (.ireturn, 1) := by decide +kernel
theorem dX10_isNumber_0 : decode cX10_isNumber 0 = .ok (.iload_n 0, 1) := by decide +kernel
theorem dX10_isNumber_1 : decode cX10_isNumber 1 = .ok (.ifCond .lt 13, 3) := by decide +kernel
theorem dX10_isNumber_4 : decode cX10_isNumber 4 = .ok (.iload_n 0, 1) := by decide +kernel
theorem dX10_isNumber_5 : decode cX10_isNumber 5 = .ok (.bipush 10, 2) := by decide +kernel
theorem dX10_isNumber_7 : decode cX10_isNumber 7 = .ok (.if_icmp .ge 7, 3) := by decide +kernel
theorem dX10_isNumber_10 : decode cX10_isNumber 10 = .ok (.iconst 1, 1) := by decide +kernel
theorem dX10_isNumber_11 : decode cX10_isNumber 11 = .ok (.goto 4, 3) := by decide +kernel
theorem dX10_isNumber_14 : decode cX10_isNumber 14 = .ok (.iconst 0, 1) := by decide +kernel
theorem dX10_isNumber_15 : decode cX10_isNumber 15 = .ok (.ireturn, 1) := by decide +kernel
theorem dX10_isStep_0 : decode cX10_isStep 0 = .ok (.iload_n 0, 1) := by decide +kernel
theorem dX10_isStep_1 : decode cX10_isStep 1 = .ok (.ifCond .lt 13, 3) := by decide +kernel
theorem dX10_isStep_4 : decode cX10_isStep 4 = .ok (.iload_n 0, 1) := by decide +kernel
theorem dX10_isStep_5 : decode cX10_isStep 5 = .ok (.bipush 6, 2) := by decide +kernel
theorem dX10_isStep_7 : decode cX10_isStep 7 = .ok (.if_icmp .ge 7, 3) := by decide +kernel
theorem dX10_isStep_10 : decode cX10_isStep 10 = .ok (.iconst 1, 1) := by decide +kernel
theorem dX10_isStep_11 : decode cX10_isStep 11 = .ok (.goto 4, 3) := by decide +kernel
theorem dX10_isStep_14 : decode cX10_isStep 14 = .ok (.iconst 0, 1) := by decide +kernel
theorem dX10_isStep_15 : decode cX10_isStep 15 = .ok (.ireturn, 1) := by decide +kernel
theorem dX10_isPart_0 : decode cX10_isPart 0 = .ok (.iload_n 0, 1) := by decide +kernel
theorem dX10_isPart_1 : decode cX10_isPart 1 = .ok (.ifCond .eq 8, 3) := by decide +kernel
theorem dX10_isPart_4 : decode cX10_isPart 4 = .ok (.iload_n 0, 1) := by decide +kernel
theorem dX10_isPart_5 : decode cX10_isPart 5 = .ok (.iconst 1, 1) := by decide +kernel
theorem dX10_isPart_6 : decode cX10_isPart 6 = .ok (.if_icmp .ne 7, 3) := by decide +kernel
theorem dX10_isPart_9 : decode cX10_isPart 9 = .ok (.iconst 1, 1) := by decide +kernel
theorem dX10_isPart_10 : decode cX10_isPart 10 = .ok (.goto 4, 3) := by decide +kernel
theorem dX10_isPart_13 : decode cX10_isPart 13 = .ok (.iconst 0, 1) := by decide +kernel
theorem dX10_isPart_14 : decode cX10_isPart 14 = .ok (.ireturn, 1) := by decide +kernel
theorem dX10_holds_0 : decode cX10_holds 0 = .ok (.lload_n 0, 1) := by decide +kernel
theorem dX10_holds_1 : decode cX10_holds 1 = .ok (.iload_n 2, 1) := by decide +kernel
theorem dX10_holds_2 : decode cX10_holds 2 = .ok (.lushr, 1) := by decide +kernel
theorem dX10_holds_3 : decode cX10_holds 3 = .ok (.lconst 1, 1) := by decide +kernel
theorem dX10_holds_4 : decode cX10_holds 4 = .ok (.land, 1) := by decide +kernel
theorem dX10_holds_5 : decode cX10_holds 5 = .ok (.lconst 0, 1) := by decide +kernel
theorem dX10_holds_6 : decode cX10_holds 6 = .ok (.lcmp, 1) := by decide +kernel
theorem dX10_holds_7 : decode cX10_holds 7 = .ok (.ifCond .eq 7, 3) := by decide +kernel
theorem dX10_holds_10 : decode cX10_holds 10 = .ok (.iconst 1, 1) := by decide +kernel
theorem dX10_holds_11 : decode cX10_holds 11 = .ok (.goto 4, 3) := by decide +kernel
theorem dX10_holds_14 : decode cX10_holds 14 = .ok (.iconst 0, 1) := by decide +kernel
theorem dX10_holds_15 : decode cX10_holds 15 = .ok (.ireturn, 1) := by decide +kernel
theorem dX10_across_0 : decode cX10_across 0 = .ok (.iload_n 0, 1) := by decide +kernel
theorem dX10_across_1 : decode cX10_across 1 = .ok (.iconst 2, 1) := by decide +kernel
theorem dX10_across_2 : decode cX10_across 2 = .ok (.iadd, 1) := by decide +kernel
theorem dX10_across_3 : decode cX10_across 3 = .ok (.iconst 3, 1) := by decide +kernel
theorem dX10_across_4 : decode cX10_across 4 = .ok (.iand, 1) := by decide +kernel
theorem dX10_across_5 : decode cX10_across 5 = .ok (.ireturn, 1) := by decide +kernel
theorem dX10_next_0 : decode cX10_next 0 = .ok (.iload_n 1, 1) := by decide +kernel
theorem dX10_next_1 : decode cX10_next 1 = .ok (.tableswitch 49 0 3 #[31, 36, 40, 45], 31) := by decide +kernel
theorem dX10_next_32 : decode cX10_next 32 = .ok (.iload_n 0, 1) := by decide +kernel
theorem dX10_next_33 : decode cX10_next 33 = .ok (.bipush 6, 2) := by decide +kernel
theorem dX10_next_35 : decode cX10_next 35 = .ok (.isub, 1) := by decide +kernel
theorem dX10_next_36 : decode cX10_next 36 = .ok (.ireturn, 1) := by decide +kernel
theorem dX10_next_37 : decode cX10_next 37 = .ok (.iload_n 0, 1) := by decide +kernel
theorem dX10_next_38 : decode cX10_next 38 = .ok (.iconst 1, 1) := by decide +kernel
theorem dX10_next_39 : decode cX10_next 39 = .ok (.iadd, 1) := by decide +kernel
theorem dX10_next_40 : decode cX10_next 40 = .ok (.ireturn, 1) := by decide +kernel
theorem dX10_next_41 : decode cX10_next 41 = .ok (.iload_n 0, 1) := by decide +kernel
theorem dX10_next_42 : decode cX10_next 42 = .ok (.bipush 6, 2) := by decide +kernel
theorem dX10_next_44 : decode cX10_next 44 = .ok (.iadd, 1) := by decide +kernel
theorem dX10_next_45 : decode cX10_next 45 = .ok (.ireturn, 1) := by decide +kernel
theorem dX10_next_46 : decode cX10_next 46 = .ok (.iload_n 0, 1) := by decide +kernel
theorem dX10_next_47 : decode cX10_next 47 = .ok (.iconst 1, 1) := by decide +kernel
theorem dX10_next_48 : decode cX10_next 48 = .ok (.isub, 1) := by decide +kernel
theorem dX10_next_49 : decode cX10_next 49 = .ok (.ireturn, 1) := by decide +kernel
theorem dX10_next_50 : decode cX10_next 50 = .ok (.iload_n 0, 1) := by decide +kernel
theorem dX10_next_51 : decode cX10_next 51 = .ok (.ireturn, 1) := by decide +kernel
theorem dX10_moved_0 : decode cX10_moved 0 = .ok (.iload_n 2, 1) := by decide +kernel
theorem dX10_moved_1 : decode cX10_moved 1 = .ok (.tableswitch 61 0 3 #[31, 36, 44, 53], 31) := by decide +kernel
theorem dX10_moved_32 : decode cX10_moved 32 = .ok (.lload_n 0, 1) := by decide +kernel
theorem dX10_moved_33 : decode cX10_moved 33 = .ok (.bipush 6, 2) := by decide +kernel
theorem dX10_moved_35 : decode cX10_moved 35 = .ok (.lushr, 1) := by decide +kernel
theorem dX10_moved_36 : decode cX10_moved 36 = .ok (.lreturn, 1) := by decide +kernel
theorem dX10_moved_37 : decode cX10_moved 37 = .ok (.lload_n 0, 1) := by decide +kernel
theorem dX10_moved_38 : decode cX10_moved 38 = .ok (.ldc2_w 359, 3) := by decide +kernel
theorem dX10_moved_41 : decode cX10_moved 41 = .ok (.land, 1) := by decide +kernel
theorem dX10_moved_42 : decode cX10_moved 42 = .ok (.iconst 1, 1) := by decide +kernel
theorem dX10_moved_43 : decode cX10_moved 43 = .ok (.lshl, 1) := by decide +kernel
theorem dX10_moved_44 : decode cX10_moved 44 = .ok (.lreturn, 1) := by decide +kernel
theorem dX10_moved_45 : decode cX10_moved 45 = .ok (.lload_n 0, 1) := by decide +kernel
theorem dX10_moved_46 : decode cX10_moved 46 = .ok (.bipush 6, 2) := by decide +kernel
theorem dX10_moved_48 : decode cX10_moved 48 = .ok (.lshl, 1) := by decide +kernel
theorem dX10_moved_49 : decode cX10_moved 49 = .ok (.ldc2_w 243, 3) := by decide +kernel
theorem dX10_moved_52 : decode cX10_moved 52 = .ok (.land, 1) := by decide +kernel
theorem dX10_moved_53 : decode cX10_moved 53 = .ok (.lreturn, 1) := by decide +kernel
theorem dX10_moved_54 : decode cX10_moved 54 = .ok (.lload_n 0, 1) := by decide +kernel
theorem dX10_moved_55 : decode cX10_moved 55 = .ok (.ldc2_w 361, 3) := by decide +kernel
theorem dX10_moved_58 : decode cX10_moved 58 = .ok (.land, 1) := by decide +kernel
theorem dX10_moved_59 : decode cX10_moved 59 = .ok (.iconst 1, 1) := by decide +kernel
theorem dX10_moved_60 : decode cX10_moved 60 = .ok (.lushr, 1) := by decide +kernel
theorem dX10_moved_61 : decode cX10_moved 61 = .ok (.lreturn, 1) := by decide +kernel
theorem dX10_moved_62 : decode cX10_moved 62 = .ok (.lload_n 0, 1) := by decide +kernel
theorem dX10_moved_63 : decode cX10_moved 63 = .ok (.lreturn, 1) := by decide +kernel
theorem dX10_facingBy_0 : decode cX10_facingBy 0 = .ok (.iload_n 0, 1) := by decide +kernel
theorem dX10_facingBy_1 : decode cX10_facingBy 1 = .ok (.iconst 4, 1) := by decide +kernel
theorem dX10_facingBy_2 : decode cX10_facingBy 2 = .ok (.if_icmp .ge 7, 3) := by decide +kernel
theorem dX10_facingBy_5 : decode cX10_facingBy 5 = .ok (.iload_n 0, 1) := by decide +kernel
theorem dX10_facingBy_6 : decode cX10_facingBy 6 = .ok (.goto 4, 3) := by decide +kernel
theorem dX10_facingBy_9 : decode cX10_facingBy 9 = .ok (.iload_n 1, 1) := by decide +kernel
theorem dX10_facingBy_10 : decode cX10_facingBy 10 = .ok (.ireturn, 1) := by decide +kernel
theorem dX10_cameBy_0 : decode cX10_cameBy 0 = .ok (.iload_n 0, 1) := by decide +kernel
theorem dX10_cameBy_1 : decode cX10_cameBy 1 = .ok (.iconst 5, 1) := by decide +kernel
theorem dX10_cameBy_2 : decode cX10_cameBy 2 = .ok (.if_icmp .ne 5, 3) := by decide +kernel
theorem dX10_cameBy_5 : decode cX10_cameBy 5 = .ok (.iload_n 2, 1) := by decide +kernel
theorem dX10_cameBy_6 : decode cX10_cameBy 6 = .ok (.ireturn, 1) := by decide +kernel
theorem dX10_cameBy_7 : decode cX10_cameBy 7 = .ok (.iload_n 1, 1) := by decide +kernel
theorem dX10_cameBy_8 : decode cX10_cameBy 8 = .ok (.iconst 4, 1) := by decide +kernel
theorem dX10_cameBy_9 : decode cX10_cameBy 9 = .ok (.if_icmp .ne 7, 3) := by decide +kernel
theorem dX10_cameBy_12 : decode cX10_cameBy 12 = .ok (.iconst 4, 1) := by decide +kernel
theorem dX10_cameBy_13 : decode cX10_cameBy 13 = .ok (.goto 7, 3) := by decide +kernel
theorem dX10_cameBy_16 : decode cX10_cameBy 16 = .ok (.iload_n 1, 1) := by decide +kernel
theorem dX10_cameBy_17 : decode cX10_cameBy 17 = .ok (.invokestatic 363, 3) := by decide +kernel
theorem dX10_cameBy_20 : decode cX10_cameBy 20 = .ok (.ireturn, 1) := by decide +kernel
theorem dX10_above_0 : decode cX10_above 0 = .ok (.iload_n 0, 1) := by decide +kernel
theorem dX10_above_1 : decode cX10_above 1 = .ok (.tableswitch 47 1 6 #[39, 39, 39, 41, 43, 45], 39) := by decide +kernel
theorem dX10_above_40 : decode cX10_above 40 = .ok (.iconst 0, 1) := by decide +kernel
theorem dX10_above_41 : decode cX10_above 41 = .ok (.ireturn, 1) := by decide +kernel
theorem dX10_above_42 : decode cX10_above 42 = .ok (.iconst 1, 1) := by decide +kernel
theorem dX10_above_43 : decode cX10_above 43 = .ok (.ireturn, 1) := by decide +kernel
theorem dX10_above_44 : decode cX10_above 44 = .ok (.iconst 2, 1) := by decide +kernel
theorem dX10_above_45 : decode cX10_above 45 = .ok (.ireturn, 1) := by decide +kernel
theorem dX10_above_46 : decode cX10_above 46 = .ok (.iconst 3, 1) := by decide +kernel
theorem dX10_above_47 : decode cX10_above 47 = .ok (.ireturn, 1) := by decide +kernel
theorem dX10_above_48 : decode cX10_above 48 = .ok (.iconst (-1), 1) := by decide +kernel
theorem dX10_above_49 : decode cX10_above 49 = .ok (.ireturn, 1) := by decide +kernel
theorem dX10_isUnder_0 : decode cX10_isUnder 0 = .ok (.iload_n 0, 1) := by decide +kernel
theorem dX10_isUnder_1 : decode cX10_isUnder 1 = .ok (.istore_n 2, 1) := by decide +kernel
theorem dX10_isUnder_2 : decode cX10_isUnder 2 = .ok (.iconst 0, 1) := by decide +kernel
theorem dX10_isUnder_3 : decode cX10_isUnder 3 = .ok (.istore_n 3, 1) := by decide +kernel
theorem dX10_isUnder_4 : decode cX10_isUnder 4 = .ok (.iload_n 3, 1) := by decide +kernel
theorem dX10_isUnder_5 : decode cX10_isUnder 5 = .ok (.bipush 7, 2) := by decide +kernel
theorem dX10_isUnder_7 : decode cX10_isUnder 7 = .ok (.if_icmp .ge 26, 3) := by decide +kernel
theorem dX10_isUnder_10 : decode cX10_isUnder 10 = .ok (.iload_n 2, 1) := by decide +kernel
theorem dX10_isUnder_11 : decode cX10_isUnder 11 = .ok (.iconst (-1), 1) := by decide +kernel
theorem dX10_isUnder_12 : decode cX10_isUnder 12 = .ok (.if_icmp .eq 21, 3) := by decide +kernel
theorem dX10_isUnder_15 : decode cX10_isUnder 15 = .ok (.iload_n 2, 1) := by decide +kernel
theorem dX10_isUnder_16 : decode cX10_isUnder 16 = .ok (.iload_n 1, 1) := by decide +kernel
theorem dX10_isUnder_17 : decode cX10_isUnder 17 = .ok (.if_icmp .ne 5, 3) := by decide +kernel
theorem dX10_isUnder_20 : decode cX10_isUnder 20 = .ok (.iconst 1, 1) := by decide +kernel
theorem dX10_isUnder_21 : decode cX10_isUnder 21 = .ok (.ireturn, 1) := by decide +kernel
theorem dX10_isUnder_22 : decode cX10_isUnder 22 = .ok (.iload_n 2, 1) := by decide +kernel
theorem dX10_isUnder_23 : decode cX10_isUnder 23 = .ok (.invokestatic 366, 3) := by decide +kernel
theorem dX10_isUnder_26 : decode cX10_isUnder 26 = .ok (.istore_n 2, 1) := by decide +kernel
theorem dX10_isUnder_27 : decode cX10_isUnder 27 = .ok (.iinc 3 1, 3) := by decide +kernel
theorem dX10_isUnder_30 : decode cX10_isUnder 30 = .ok (.goto (-26), 3) := by decide +kernel
theorem dX10_isUnder_33 : decode cX10_isUnder 33 = .ok (.iconst 0, 1) := by decide +kernel
theorem dX10_isUnder_34 : decode cX10_isUnder 34 = .ok (.ireturn, 1) := by decide +kernel
theorem dX10_common_0 : decode cX10_common 0 = .ok (.lload_n 0, 1) := by decide +kernel
theorem dX10_common_1 : decode cX10_common 1 = .ok (.lstore 4, 2) := by decide +kernel
theorem dX10_common_3 : decode cX10_common 3 = .ok (.lload_n 2, 1) := by decide +kernel
theorem dX10_common_4 : decode cX10_common 4 = .ok (.lstore 6, 2) := by decide +kernel
theorem dX10_common_6 : decode cX10_common 6 = .ok (.iconst 0, 1) := by decide +kernel
theorem dX10_common_7 : decode cX10_common 7 = .ok (.istore 8, 2) := by decide +kernel
theorem dX10_common_9 : decode cX10_common 9 = .ok (.iload 8, 2) := by decide +kernel
theorem dX10_common_11 : decode cX10_common 11 = .ok (.sipush 1000, 3) := by decide +kernel
theorem dX10_common_14 : decode cX10_common 14 = .ok (.if_icmp .ge 31, 3) := by decide +kernel
theorem dX10_common_17 : decode cX10_common 17 = .ok (.lload 6, 2) := by decide +kernel
theorem dX10_common_19 : decode cX10_common 19 = .ok (.lconst 0, 1) := by decide +kernel
theorem dX10_common_20 : decode cX10_common 20 = .ok (.lcmp, 1) := by decide +kernel
theorem dX10_common_21 : decode cX10_common 21 = .ok (.ifCond .eq 24, 3) := by decide +kernel
theorem dX10_common_24 : decode cX10_common 24 = .ok (.lload 4, 2) := by decide +kernel
theorem dX10_common_26 : decode cX10_common 26 = .ok (.lload 6, 2) := by decide +kernel
theorem dX10_common_28 : decode cX10_common 28 = .ok (.lrem, 1) := by decide +kernel
theorem dX10_common_29 : decode cX10_common 29 = .ok (.lstore 9, 2) := by decide +kernel
theorem dX10_common_31 : decode cX10_common 31 = .ok (.lload 6, 2) := by decide +kernel
theorem dX10_common_33 : decode cX10_common 33 = .ok (.lstore 4, 2) := by decide +kernel
theorem dX10_common_35 : decode cX10_common 35 = .ok (.lload 9, 2) := by decide +kernel
theorem dX10_common_37 : decode cX10_common 37 = .ok (.lstore 6, 2) := by decide +kernel
theorem dX10_common_39 : decode cX10_common 39 = .ok (.iinc 8 1, 3) := by decide +kernel
theorem dX10_common_42 : decode cX10_common 42 = .ok (.goto (-33), 3) := by decide +kernel
theorem dX10_common_45 : decode cX10_common 45 = .ok (.lload 4, 2) := by decide +kernel
theorem dX10_common_47 : decode cX10_common 47 = .ok (.lreturn, 1) := by decide +kernel
theorem dX11_init_0 : decode cX11_init 0 = .ok (.aload_n 0, 1) := by decide +kernel
theorem dX11_init_1 : decode cX11_init 1 = .ok (.invokespecial 3, 3) := by decide +kernel
theorem dX11_init_4 : decode cX11_init 4 = .ok (.aload_n 0, 1) := by decide +kernel
theorem dX11_init_5 : decode cX11_init 5 = .ok (.bipush 70, 2) := by decide +kernel
theorem dX11_init_7 : decode cX11_init 7 = .ok (.newarray .int, 2) := by decide +kernel
theorem dX11_init_9 : decode cX11_init 9 = .ok (.putfield 9, 3) := by decide +kernel
theorem dX11_init_12 : decode cX11_init 12 = .ok (.aload_n 0, 1) := by decide +kernel
theorem dX11_init_13 : decode cX11_init 13 = .ok (.bipush 70, 2) := by decide +kernel
theorem dX11_init_15 : decode cX11_init 15 = .ok (.newarray .int, 2) := by decide +kernel
theorem dX11_init_17 : decode cX11_init 17 = .ok (.putfield 13, 3) := by decide +kernel
theorem dX11_init_20 : decode cX11_init 20 = .ok (.aload_n 0, 1) := by decide +kernel
theorem dX11_init_21 : decode cX11_init 21 = .ok (.bipush 6, 2) := by decide +kernel
theorem dX11_init_23 : decode cX11_init 23 = .ok (.newarray .int, 2) := by decide +kernel
theorem dX11_init_25 : decode cX11_init 25 = .ok (.putfield 16, 3) := by decide +kernel
theorem dX11_init_28 : decode cX11_init 28 = .ok (.aload_n 0, 1) := by decide +kernel
theorem dX11_init_29 : decode cX11_init 29 = .ok (.bipush 6, 2) := by decide +kernel
theorem dX11_init_31 : decode cX11_init 31 = .ok (.newarray .int, 2) := by decide +kernel
theorem dX11_init_33 : decode cX11_init 33 = .ok (.putfield 19, 3) := by decide +kernel
theorem dX11_init_36 : decode cX11_init 36 = .ok (.aload_n 0, 1) := by decide +kernel
theorem dX11_init_37 : decode cX11_init 37 = .ok (.sipush 216, 3) := by decide +kernel
theorem dX11_init_40 : decode cX11_init 40 = .ok (.newarray .int, 2) := by decide +kernel
theorem dX11_init_42 : decode cX11_init 42 = .ok (.putfield 22, 3) := by decide +kernel
theorem dX11_init_45 : decode cX11_init 45 = .ok (.aload_n 0, 1) := by decide +kernel
theorem dX11_init_46 : decode cX11_init 46 = .ok (.bipush 100, 2) := by decide +kernel
theorem dX11_init_48 : decode cX11_init 48 = .ok (.newarray .int, 2) := by decide +kernel
theorem dX11_init_50 : decode cX11_init 50 = .ok (.putfield 25, 3) := by decide +kernel
theorem dX11_init_53 : decode cX11_init 53 = .ok (.aload_n 0, 1) := by decide +kernel
theorem dX11_init_54 : decode cX11_init 54 = .ok (.bipush 36, 2) := by decide +kernel
theorem dX11_init_56 : decode cX11_init 56 = .ok (.newarray .int, 2) := by decide +kernel
theorem dX11_init_58 : decode cX11_init 58 = .ok (.putfield 28, 3) := by decide +kernel
theorem dX11_init_61 : decode cX11_init 61 = .ok (.aload_n 0, 1) := by decide +kernel
theorem dX11_init_62 : decode cX11_init 62 = .ok (.sipush 5184, 3) := by decide +kernel
theorem dX11_init_65 : decode cX11_init 65 = .ok (.newarray .int, 2) := by decide +kernel
theorem dX11_init_67 : decode cX11_init 67 = .ok (.putfield 31, 3) := by decide +kernel
theorem dX11_init_70 : decode cX11_init 70 = .ok (.aload_n 0, 1) := by decide +kernel
theorem dX11_init_71 : decode cX11_init 71 = .ok (.sipush 5184, 3) := by decide +kernel
theorem dX11_init_74 : decode cX11_init 74 = .ok (.newarray .int, 2) := by decide +kernel
theorem dX11_init_76 : decode cX11_init 76 = .ok (.putfield 34, 3) := by decide +kernel
theorem dX11_init_79 : decode cX11_init 79 = .ok (.aload_n 0, 1) := by decide +kernel
theorem dX11_init_80 : decode cX11_init 80 = .ok (.sipush 5184, 3) := by decide +kernel
theorem dX11_init_83 : decode cX11_init 83 = .ok (.newarray .long, 2) := by decide +kernel
theorem dX11_init_85 : decode cX11_init 85 = .ok (.putfield 37, 3) := by decide +kernel
theorem dX11_init_88 : decode cX11_init 88 = .ok (.aload_n 0, 1) := by decide +kernel
theorem dX11_init_89 : decode cX11_init 89 = .ok (.sipush 5184, 3) := by decide +kernel
theorem dX11_init_92 : decode cX11_init 92 = .ok (.newarray .long, 2) := by decide +kernel
theorem dX11_init_94 : decode cX11_init 94 = .ok (.putfield 41, 3) := by decide +kernel
theorem dX11_init_97 : decode cX11_init 97 = .ok (.aload_n 0, 1) := by decide +kernel
theorem dX11_init_98 : decode cX11_init 98 = .ok (.bipush 41, 2) := by decide +kernel
theorem dX11_init_100 : decode cX11_init 100 = .ok (.newarray .long, 2) := by decide +kernel
theorem dX11_init_102 : decode cX11_init 102 = .ok (.putfield 44, 3) := by decide +kernel
theorem dX11_init_105 : decode cX11_init 105 = .ok (.aload_n 0, 1) := by decide +kernel
theorem dX11_init_106 : decode cX11_init 106 = .ok (.bipush 7, 2) := by decide +kernel
theorem dX11_init_108 : decode cX11_init 108 = .ok (.newarray .int, 2) := by decide +kernel
theorem dX11_init_110 : decode cX11_init 110 = .ok (.putfield 47, 3) := by decide +kernel
theorem dX11_init_113 : decode cX11_init 113 = .ok (.aload_n 0, 1) := by decide +kernel
theorem dX11_init_114 : decode cX11_init 114 = .ok (.bipush 20, 2) := by decide +kernel
theorem dX11_init_116 : decode cX11_init 116 = .ok (.newarray .int, 2) := by decide +kernel
theorem dX11_init_118 : decode cX11_init 118 = .ok (.putfield 50, 3) := by decide +kernel
theorem dX11_init_121 : decode cX11_init 121 = .ok (.aload_n 0, 1) := by decide +kernel
theorem dX11_init_122 : decode cX11_init 122 = .ok (.bipush 6, 2) := by decide +kernel
theorem dX11_init_124 : decode cX11_init 124 = .ok (.newarray .int, 2) := by decide +kernel
theorem dX11_init_126 : decode cX11_init 126 = .ok (.putfield 53, 3) := by decide +kernel
theorem dX11_init_129 : decode cX11_init 129 = .ok (.aload_n 0, 1) := by decide +kernel
theorem dX11_init_130 : decode cX11_init 130 = .ok (.bipush 6, 2) := by decide +kernel
theorem dX11_init_132 : decode cX11_init 132 = .ok (.newarray .int, 2) := by decide +kernel
theorem dX11_init_134 : decode cX11_init 134 = .ok (.putfield 56, 3) := by decide +kernel
theorem dX11_init_137 : decode cX11_init 137 = .ok (.aload_n 0, 1) := by decide +kernel
theorem dX11_init_138 : decode cX11_init 138 = .ok (.bipush 6, 2) := by decide +kernel
theorem dX11_init_140 : decode cX11_init 140 = .ok (.newarray .boolean, 2) := by decide +kernel
theorem dX11_init_142 : decode cX11_init 142 = .ok (.putfield 59, 3) := by decide +kernel
theorem dX11_init_145 : decode cX11_init 145 = .ok (.aload_n 0, 1) := by decide +kernel
theorem dX11_init_146 : decode cX11_init 146 = .ok (.sipush 360, 3) := by decide +kernel
theorem dX11_init_149 : decode cX11_init 149 = .ok (.newarray .long, 2) := by decide +kernel
theorem dX11_init_151 : decode cX11_init 151 = .ok (.putfield 63, 3) := by decide +kernel
theorem dX11_init_154 : decode cX11_init 154 = .ok (.aload_n 0, 1) := by decide +kernel
theorem dX11_init_155 : decode cX11_init 155 = .ok (.getfield 9, 3) := by decide +kernel
theorem dX11_init_158 : decode cX11_init 158 = .ok (.iconst 1, 1) := by decide +kernel
theorem dX11_init_159 : decode cX11_init 159 = .ok (.iconst (-1), 1) := by decide +kernel
theorem dX11_init_160 : decode cX11_init 160 = .ok (.iastore, 1) := by decide +kernel
theorem dX11_init_161 : decode cX11_init 161 = .ok (.return_, 1) := by decide +kernel
theorem dX11_isIn_0 : decode cX11_isIn 0 = .ok (.iload_n 0, 1) := by decide +kernel
theorem dX11_isIn_1 : decode cX11_isIn 1 = .ok (.ifCond .lt 12, 3) := by decide +kernel
theorem dX11_isIn_4 : decode cX11_isIn 4 = .ok (.iload_n 0, 1) := by decide +kernel
theorem dX11_isIn_5 : decode cX11_isIn 5 = .ok (.iload_n 1, 1) := by decide +kernel
theorem dX11_isIn_6 : decode cX11_isIn 6 = .ok (.if_icmp .ge 7, 3) := by decide +kernel
theorem dX11_isIn_9 : decode cX11_isIn 9 = .ok (.iconst 1, 1) := by decide +kernel
theorem dX11_isIn_10 : decode cX11_isIn 10 = .ok (.goto 4, 3) := by decide +kernel
theorem dX11_isIn_13 : decode cX11_isIn 13 = .ok (.iconst 0, 1) := by decide +kernel
theorem dX11_isIn_14 : decode cX11_isIn 14 = .ok (.ireturn, 1) := by decide +kernel
theorem dX11_isWalker_0 : decode cX11_isWalker 0 = .ok (.iload_n 1, 1) := by decide +kernel
theorem dX11_isWalker_1 : decode cX11_isWalker 1 = .ok (.aload_n 0, 1) := by decide +kernel
theorem dX11_isWalker_2 : decode cX11_isWalker 2 = .ok (.getfield 9, 3) := by decide +kernel
theorem dX11_isWalker_5 : decode cX11_isWalker 5 = .ok (.iconst 0, 1) := by decide +kernel
theorem dX11_isWalker_6 : decode cX11_isWalker 6 = .ok (.iaload, 1) := by decide +kernel
theorem dX11_isWalker_7 : decode cX11_isWalker 7 = .ok (.invokestatic 66, 3) := by decide +kernel
theorem dX11_isWalker_10 : decode cX11_isWalker 10 = .ok (.ireturn, 1) := by decide +kernel
theorem dX11_isCell_0 : decode cX11_isCell 0 = .ok (.iload_n 0, 1) := by decide +kernel
theorem dX11_isCell_1 : decode cX11_isCell 1 = .ok (.bipush 36, 2) := by decide +kernel
theorem dX11_isCell_3 : decode cX11_isCell 3 = .ok (.invokestatic 66, 3) := by decide +kernel
theorem dX11_isCell_6 : decode cX11_isCell 6 = .ok (.ireturn, 1) := by decide +kernel
theorem dX11_get_0 : decode cX11_get 0 = .ok (.aload_n 0, 1) := by decide +kernel
theorem dX11_get_1 : decode cX11_get 1 = .ok (.getfield 9, 3) := by decide +kernel
theorem dX11_get_4 : decode cX11_get 4 = .ok (.iconst 4, 1) := by decide +kernel
theorem dX11_get_5 : decode cX11_get 5 = .ok (.bipush 7, 2) := by decide +kernel
theorem dX11_get_7 : decode cX11_get 7 = .ok (.iload_n 1, 1) := by decide +kernel
theorem dX11_get_8 : decode cX11_get 8 = .ok (.imul, 1) := by decide +kernel
theorem dX11_get_9 : decode cX11_get 9 = .ok (.iadd, 1) := by decide +kernel
theorem dX11_get_10 : decode cX11_get 10 = .ok (.iload_n 2, 1) := by decide +kernel
theorem dX11_get_11 : decode cX11_get 11 = .ok (.iadd, 1) := by decide +kernel
theorem dX11_get_12 : decode cX11_get 12 = .ok (.iaload, 1) := by decide +kernel
theorem dX11_get_13 : decode cX11_get 13 = .ok (.ireturn, 1) := by decide +kernel
theorem dX11_puts_0 : decode cX11_puts 0 = .ok (.aload_n 0, 1) := by decide +kernel
theorem dX11_puts_1 : decode cX11_puts 1 = .ok (.getfield 9, 3) := by decide +kernel
theorem dX11_puts_4 : decode cX11_puts 4 = .ok (.iconst 4, 1) := by decide +kernel
theorem dX11_puts_5 : decode cX11_puts 5 = .ok (.bipush 7, 2) := by decide +kernel
theorem dX11_puts_7 : decode cX11_puts 7 = .ok (.iload_n 1, 1) := by decide +kernel
theorem dX11_puts_8 : decode cX11_puts 8 = .ok (.imul, 1) := by decide +kernel
theorem dX11_puts_9 : decode cX11_puts 9 = .ok (.iadd, 1) := by decide +kernel
theorem dX11_puts_10 : decode cX11_puts 10 = .ok (.iload_n 2, 1) := by decide +kernel
theorem dX11_puts_11 : decode cX11_puts 11 = .ok (.iadd, 1) := by decide +kernel
theorem dX11_puts_12 : decode cX11_puts 12 = .ok (.iload_n 3, 1) := by decide +kernel
theorem dX11_puts_13 : decode cX11_puts 13 = .ok (.iastore, 1) := by decide +kernel
theorem dX11_puts_14 : decode cX11_puts 14 = .ok (.return_, 1) := by decide +kernel
theorem dX11_feed_0 : decode cX11_feed 0 = .ok (.iload_n 1, 1) := by decide +kernel
theorem dX11_feed_1 : decode cX11_feed 1 = .ok (.ifCond .lt 9, 3) := by decide +kernel
theorem dX11_feed_4 : decode cX11_feed 4 = .ok (.iload_n 1, 1) := by decide +kernel
theorem dX11_feed_5 : decode cX11_feed 5 = .ok (.bipush 127, 2) := by decide +kernel
theorem dX11_feed_7 : decode cX11_feed 7 = .ok (.if_icmp .le 6, 3) := by decide +kernel
theorem dX11_feed_10 : decode cX11_feed 10 = .ok (.bipush (-2), 2) := by decide +kernel
theorem dX11_feed_12 : decode cX11_feed 12 = .ok (.ireturn, 1) := by decide +kernel
theorem dX11_feed_13 : decode cX11_feed 13 = .ok (.aload_n 0, 1) := by decide +kernel
theorem dX11_feed_14 : decode cX11_feed 14 = .ok (.getfield 70, 3) := by decide +kernel
theorem dX11_feed_17 : decode cX11_feed 17 = .ok (.bipush 100, 2) := by decide +kernel
theorem dX11_feed_19 : decode cX11_feed 19 = .ok (.if_icmp .ne 6, 3) := by decide +kernel
theorem dX11_feed_22 : decode cX11_feed 22 = .ok (.bipush (-4), 2) := by decide +kernel
theorem dX11_feed_24 : decode cX11_feed 24 = .ok (.ireturn, 1) := by decide +kernel
theorem dX11_feed_25 : decode cX11_feed 25 = .ok (.aload_n 0, 1) := by decide +kernel
theorem dX11_feed_26 : decode cX11_feed 26 = .ok (.getfield 25, 3) := by decide +kernel
theorem dX11_feed_29 : decode cX11_feed 29 = .ok (.aload_n 0, 1) := by decide +kernel
theorem dX11_feed_30 : decode cX11_feed 30 = .ok (.getfield 70, 3) := by decide +kernel
theorem dX11_feed_33 : decode cX11_feed 33 = .ok (.iload_n 1, 1) := by decide +kernel
theorem dX11_feed_34 : decode cX11_feed 34 = .ok (.iastore, 1) := by decide +kernel
theorem dX11_feed_35 : decode cX11_feed 35 = .ok (.aload_n 0, 1) := by decide +kernel
theorem dX11_feed_36 : decode cX11_feed 36 = .ok (.dup, 1) := by decide +kernel
theorem dX11_feed_37 : decode cX11_feed 37 = .ok (.getfield 70, 3) := by decide +kernel
theorem dX11_feed_40 : decode cX11_feed 40 = .ok (.iconst 1, 1) := by decide +kernel
theorem dX11_feed_41 : decode cX11_feed 41 = .ok (.iadd, 1) := by decide +kernel
theorem dX11_feed_42 : decode cX11_feed 42 = .ok (.putfield 70, 3) := by decide +kernel
theorem dX11_feed_45 : decode cX11_feed 45 = .ok (.aload_n 0, 1) := by decide +kernel
theorem dX11_feed_46 : decode cX11_feed 46 = .ok (.getfield 70, 3) := by decide +kernel
theorem dX11_feed_49 : decode cX11_feed 49 = .ok (.ireturn, 1) := by decide +kernel
theorem dX11_here_0 : decode cX11_here 0 = .ok (.aload_n 0, 1) := by decide +kernel
theorem dX11_here_1 : decode cX11_here 1 = .ok (.getfield 74, 3) := by decide +kernel
theorem dX11_here_4 : decode cX11_here 4 = .ok (.aload_n 0, 1) := by decide +kernel
theorem dX11_here_5 : decode cX11_here 5 = .ok (.getfield 70, 3) := by decide +kernel
theorem dX11_here_8 : decode cX11_here 8 = .ok (.if_icmp .ge 15, 3) := by decide +kernel
theorem dX11_here_11 : decode cX11_here 11 = .ok (.aload_n 0, 1) := by decide +kernel
theorem dX11_here_12 : decode cX11_here 12 = .ok (.getfield 25, 3) := by decide +kernel
theorem dX11_here_15 : decode cX11_here 15 = .ok (.aload_n 0, 1) := by decide +kernel
theorem dX11_here_16 : decode cX11_here 16 = .ok (.getfield 74, 3) := by decide +kernel
theorem dX11_here_19 : decode cX11_here 19 = .ok (.iaload, 1) := by decide +kernel
theorem dX11_here_20 : decode cX11_here 20 = .ok (.goto 4, 3) := by decide +kernel
theorem dX11_here_23 : decode cX11_here 23 = .ok (.iconst (-1), 1) := by decide +kernel
theorem dX11_here_24 : decode cX11_here 24 = .ok (.ireturn, 1) := by decide +kernel
theorem dX11_takes_0 : decode cX11_takes 0 = .ok (.aload_n 0, 1) := by decide +kernel
theorem dX11_takes_1 : decode cX11_takes 1 = .ok (.getfield 77, 3) := by decide +kernel
theorem dX11_takes_4 : decode cX11_takes 4 = .ok (.ifCond .eq 4, 3) := by decide +kernel
theorem dX11_takes_7 : decode cX11_takes 7 = .ok (.return_, 1) := by decide +kernel
theorem dX11_takes_8 : decode cX11_takes 8 = .ok (.aload_n 0, 1) := by decide +kernel
theorem dX11_takes_9 : decode cX11_takes 9 = .ok (.invokevirtual 81, 3) := by decide +kernel
theorem dX11_takes_12 : decode cX11_takes 12 = .ok (.iload_n 1, 1) := by decide +kernel
theorem dX11_takes_13 : decode cX11_takes 13 = .ok (.if_icmp .ne 16, 3) := by decide +kernel
theorem dX11_takes_16 : decode cX11_takes 16 = .ok (.aload_n 0, 1) := by decide +kernel
theorem dX11_takes_17 : decode cX11_takes 17 = .ok (.dup, 1) := by decide +kernel
theorem dX11_takes_18 : decode cX11_takes 18 = .ok (.getfield 74, 3) := by decide +kernel
theorem dX11_takes_21 : decode cX11_takes 21 = .ok (.iconst 1, 1) := by decide +kernel
theorem dX11_takes_22 : decode cX11_takes 22 = .ok (.iadd, 1) := by decide +kernel
theorem dX11_takes_23 : decode cX11_takes 23 = .ok (.putfield 74, 3) := by decide +kernel
theorem dX11_takes_26 : decode cX11_takes 26 = .ok (.goto 8, 3) := by decide +kernel
theorem dX11_takes_29 : decode cX11_takes 29 = .ok (.aload_n 0, 1) := by decide +kernel
theorem dX11_takes_30 : decode cX11_takes 30 = .ok (.iconst 1, 1) := by decide +kernel
theorem dX11_takes_31 : decode cX11_takes 31 = .ok (.putfield 77, 3) := by decide +kernel
theorem dX11_takes_34 : decode cX11_takes 34 = .ok (.return_, 1) := by decide +kernel
theorem dX11_number_0 : decode cX11_number 0 = .ok (.iconst 0, 1) := by decide +kernel
theorem dX11_number_1 : decode cX11_number 1 = .ok (.istore_n 1, 1) := by decide +kernel
theorem dX11_number_2 : decode cX11_number 2 = .ok (.iconst 0, 1) := by decide +kernel
theorem dX11_number_3 : decode cX11_number 3 = .ok (.istore_n 2, 1) := by decide +kernel
theorem dX11_number_4 : decode cX11_number 4 = .ok (.iload_n 2, 1) := by decide +kernel
theorem dX11_number_5 : decode cX11_number 5 = .ok (.iconst 2, 1) := by decide +kernel
theorem dX11_number_6 : decode cX11_number 6 = .ok (.if_icmp .ge 50, 3) := by decide +kernel
theorem dX11_number_9 : decode cX11_number 9 = .ok (.aload_n 0, 1) := by decide +kernel
theorem dX11_number_10 : decode cX11_number 10 = .ok (.invokevirtual 81, 3) := by decide +kernel
theorem dX11_number_13 : decode cX11_number 13 = .ok (.bipush 48, 2) := by decide +kernel
theorem dX11_number_15 : decode cX11_number 15 = .ok (.if_icmp .lt 41, 3) := by decide +kernel
theorem dX11_number_18 : decode cX11_number 18 = .ok (.aload_n 0, 1) := by decide +kernel
theorem dX11_number_19 : decode cX11_number 19 = .ok (.invokevirtual 81, 3) := by decide +kernel
theorem dX11_number_22 : decode cX11_number 22 = .ok (.bipush 57, 2) := by decide +kernel
theorem dX11_number_24 : decode cX11_number 24 = .ok (.if_icmp .gt 32, 3) := by decide +kernel
theorem dX11_number_27 : decode cX11_number 27 = .ok (.bipush 10, 2) := by decide +kernel
theorem dX11_number_29 : decode cX11_number 29 = .ok (.iload_n 1, 1) := by decide +kernel
theorem dX11_number_30 : decode cX11_number 30 = .ok (.imul, 1) := by decide +kernel
theorem dX11_number_31 : decode cX11_number 31 = .ok (.aload_n 0, 1) := by decide +kernel
theorem dX11_number_32 : decode cX11_number 32 = .ok (.invokevirtual 81, 3) := by decide +kernel
theorem dX11_number_35 : decode cX11_number 35 = .ok (.iadd, 1) := by decide +kernel
theorem dX11_number_36 : decode cX11_number 36 = .ok (.bipush 48, 2) := by decide +kernel
theorem dX11_number_38 : decode cX11_number 38 = .ok (.isub, 1) := by decide +kernel
theorem dX11_number_39 : decode cX11_number 39 = .ok (.istore_n 1, 1) := by decide +kernel
theorem dX11_number_40 : decode cX11_number 40 = .ok (.aload_n 0, 1) := by decide +kernel
theorem dX11_number_41 : decode cX11_number 41 = .ok (.dup, 1) := by decide +kernel
theorem dX11_number_42 : decode cX11_number 42 = .ok (.getfield 74, 3) := by decide +kernel
theorem dX11_number_45 : decode cX11_number 45 = .ok (.iconst 1, 1) := by decide +kernel
theorem dX11_number_46 : decode cX11_number 46 = .ok (.iadd, 1) := by decide +kernel
theorem dX11_number_47 : decode cX11_number 47 = .ok (.putfield 74, 3) := by decide +kernel
theorem dX11_number_50 : decode cX11_number 50 = .ok (.iinc 2 1, 3) := by decide +kernel
theorem dX11_number_53 : decode cX11_number 53 = .ok (.goto (-49), 3) := by decide +kernel
theorem dX11_number_56 : decode cX11_number 56 = .ok (.aload_n 0, 1) := by decide +kernel
theorem dX11_number_57 : decode cX11_number 57 = .ok (.aload_n 0, 1) := by decide +kernel
theorem dX11_number_58 : decode cX11_number 58 = .ok (.getfield 77, 3) := by decide +kernel
theorem dX11_number_61 : decode cX11_number 61 = .ok (.ifCond .ne 7, 3) := by decide +kernel
theorem dX11_number_64 : decode cX11_number 64 = .ok (.iload_n 2, 1) := by decide +kernel
theorem dX11_number_65 : decode cX11_number 65 = .ok (.ifCond .ne 7, 3) := by decide +kernel
theorem dX11_number_68 : decode cX11_number 68 = .ok (.iconst 1, 1) := by decide +kernel
theorem dX11_number_69 : decode cX11_number 69 = .ok (.goto 4, 3) := by decide +kernel
theorem dX11_number_72 : decode cX11_number 72 = .ok (.iconst 0, 1) := by decide +kernel
theorem dX11_number_73 : decode cX11_number 73 = .ok (.putfield 77, 3) := by decide +kernel
theorem dX11_number_76 : decode cX11_number 76 = .ok (.iload_n 1, 1) := by decide +kernel
theorem dX11_number_77 : decode cX11_number 77 = .ok (.ireturn, 1) := by decide +kernel
theorem dX11_amount_0 : decode cX11_amount 0 = .ok (.iload_n 0, 1) := by decide +kernel
theorem dX11_amount_1 : decode cX11_amount 1 = .ok (.ifCond .ge 8, 3) := by decide +kernel
theorem dX11_amount_4 : decode cX11_amount 4 = .ok (.iload_n 0, 1) := by decide +kernel
theorem dX11_amount_5 : decode cX11_amount 5 = .ok (.ineg, 1) := by decide +kernel
theorem dX11_amount_6 : decode cX11_amount 6 = .ok (.goto 4, 3) := by decide +kernel
theorem dX11_amount_9 : decode cX11_amount 9 = .ok (.iload_n 0, 1) := by decide +kernel
theorem dX11_amount_10 : decode cX11_amount 10 = .ok (.ireturn, 1) := by decide +kernel
theorem dX11_valueOf_0 : decode cX11_valueOf 0 = .ok (.iload_n 1, 1) := by decide +kernel
theorem dX11_valueOf_1 : decode cX11_valueOf 1 = .ok (.bipush 6, 2) := by decide +kernel
theorem dX11_valueOf_3 : decode cX11_valueOf 3 = .ok (.idiv, 1) := by decide +kernel
theorem dX11_valueOf_4 : decode cX11_valueOf 4 = .ok (.istore_n 2, 1) := by decide +kernel
theorem dX11_valueOf_5 : decode cX11_valueOf 5 = .ok (.iload_n 1, 1) := by decide +kernel
theorem dX11_valueOf_6 : decode cX11_valueOf 6 = .ok (.bipush 6, 2) := by decide +kernel
theorem dX11_valueOf_8 : decode cX11_valueOf 8 = .ok (.irem, 1) := by decide +kernel
theorem dX11_valueOf_9 : decode cX11_valueOf 9 = .ok (.istore_n 3, 1) := by decide +kernel
theorem dX11_valueOf_10 : decode cX11_valueOf 10 = .ok (.iload_n 0, 1) := by decide +kernel
theorem dX11_valueOf_11 : decode cX11_valueOf 11 = .ok (.lookupswitch 56 #[(99, 43), (100, 49), (114, 41), (115, 45)], 41) := by decide +kernel
theorem dX11_valueOf_52 : decode cX11_valueOf 52 = .ok (.iload_n 2, 1) := by decide +kernel
theorem dX11_valueOf_53 : decode cX11_valueOf 53 = .ok (.ireturn, 1) := by decide +kernel
theorem dX11_valueOf_54 : decode cX11_valueOf 54 = .ok (.iload_n 3, 1) := by decide +kernel
theorem dX11_valueOf_55 : decode cX11_valueOf 55 = .ok (.ireturn, 1) := by decide +kernel
theorem dX11_valueOf_56 : decode cX11_valueOf 56 = .ok (.iload_n 2, 1) := by decide +kernel
theorem dX11_valueOf_57 : decode cX11_valueOf 57 = .ok (.iload_n 3, 1) := by decide +kernel
theorem dX11_valueOf_58 : decode cX11_valueOf 58 = .ok (.iadd, 1) := by decide +kernel
theorem dX11_valueOf_59 : decode cX11_valueOf 59 = .ok (.ireturn, 1) := by decide +kernel
theorem dX11_valueOf_60 : decode cX11_valueOf 60 = .ok (.iload_n 2, 1) := by decide +kernel
theorem dX11_valueOf_61 : decode cX11_valueOf 61 = .ok (.iload_n 3, 1) := by decide +kernel
theorem dX11_valueOf_62 : decode cX11_valueOf 62 = .ok (.isub, 1) := by decide +kernel
theorem dX11_valueOf_63 : decode cX11_valueOf 63 = .ok (.invokestatic 85, 3) := by decide +kernel
theorem dX11_valueOf_66 : decode cX11_valueOf 66 = .ok (.ireturn, 1) := by decide +kernel
theorem dX11_valueOf_67 : decode cX11_valueOf 67 = .ok (.iload_n 1, 1) := by decide +kernel
theorem dX11_valueOf_68 : decode cX11_valueOf 68 = .ok (.ireturn, 1) := by decide +kernel
theorem dX11_test_0 : decode cX11_test 0 = .ok (.aload_n 0, 1) := by decide +kernel
theorem dX11_test_1 : decode cX11_test 1 = .ok (.invokevirtual 81, 3) := by decide +kernel
theorem dX11_test_4 : decode cX11_test 4 = .ok (.istore_n 1, 1) := by decide +kernel
theorem dX11_test_5 : decode cX11_test 5 = .ok (.iload_n 1, 1) := by decide +kernel
theorem dX11_test_6 : decode cX11_test 6 = .ok (.bipush 114, 2) := by decide +kernel
theorem dX11_test_8 : decode cX11_test 8 = .ok (.if_icmp .eq 34, 3) := by decide +kernel
theorem dX11_test_11 : decode cX11_test 11 = .ok (.iload_n 1, 1) := by decide +kernel
theorem dX11_test_12 : decode cX11_test 12 = .ok (.bipush 99, 2) := by decide +kernel
theorem dX11_test_14 : decode cX11_test 14 = .ok (.if_icmp .eq 28, 3) := by decide +kernel
theorem dX11_test_17 : decode cX11_test 17 = .ok (.iload_n 1, 1) := by decide +kernel
theorem dX11_test_18 : decode cX11_test 18 = .ok (.bipush 115, 2) := by decide +kernel
theorem dX11_test_20 : decode cX11_test 20 = .ok (.if_icmp .eq 22, 3) := by decide +kernel
theorem dX11_test_23 : decode cX11_test 23 = .ok (.iload_n 1, 1) := by decide +kernel
theorem dX11_test_24 : decode cX11_test 24 = .ok (.bipush 100, 2) := by decide +kernel
theorem dX11_test_26 : decode cX11_test 26 = .ok (.if_icmp .eq 16, 3) := by decide +kernel
theorem dX11_test_29 : decode cX11_test 29 = .ok (.iload_n 1, 1) := by decide +kernel
theorem dX11_test_30 : decode cX11_test 30 = .ok (.bipush 105, 2) := by decide +kernel
theorem dX11_test_32 : decode cX11_test 32 = .ok (.if_icmp .eq 10, 3) := by decide +kernel
theorem dX11_test_35 : decode cX11_test 35 = .ok (.aload_n 0, 1) := by decide +kernel
theorem dX11_test_36 : decode cX11_test 36 = .ok (.iconst 1, 1) := by decide +kernel
theorem dX11_test_37 : decode cX11_test 37 = .ok (.putfield 77, 3) := by decide +kernel
theorem dX11_test_40 : decode cX11_test 40 = .ok (.lconst 0, 1) := by decide +kernel
theorem dX11_test_41 : decode cX11_test 41 = .ok (.lreturn, 1) := by decide +kernel
theorem dX11_test_42 : decode cX11_test 42 = .ok (.aload_n 0, 1) := by decide +kernel
theorem dX11_test_43 : decode cX11_test 43 = .ok (.dup, 1) := by decide +kernel
theorem dX11_test_44 : decode cX11_test 44 = .ok (.getfield 74, 3) := by decide +kernel
theorem dX11_test_47 : decode cX11_test 47 = .ok (.iconst 1, 1) := by decide +kernel
theorem dX11_test_48 : decode cX11_test 48 = .ok (.iadd, 1) := by decide +kernel
theorem dX11_test_49 : decode cX11_test 49 = .ok (.putfield 74, 3) := by decide +kernel
theorem dX11_test_52 : decode cX11_test 52 = .ok (.aload_n 0, 1) := by decide +kernel
theorem dX11_test_53 : decode cX11_test 53 = .ok (.invokevirtual 81, 3) := by decide +kernel
theorem dX11_test_56 : decode cX11_test 56 = .ok (.istore_n 2, 1) := by decide +kernel
theorem dX11_test_57 : decode cX11_test 57 = .ok (.iload_n 2, 1) := by decide +kernel
theorem dX11_test_58 : decode cX11_test 58 = .ok (.bipush 60, 2) := by decide +kernel
theorem dX11_test_60 : decode cX11_test 60 = .ok (.if_icmp .eq 22, 3) := by decide +kernel
theorem dX11_test_63 : decode cX11_test 63 = .ok (.iload_n 2, 1) := by decide +kernel
theorem dX11_test_64 : decode cX11_test 64 = .ok (.bipush 61, 2) := by decide +kernel
theorem dX11_test_66 : decode cX11_test 66 = .ok (.if_icmp .eq 16, 3) := by decide +kernel
theorem dX11_test_69 : decode cX11_test 69 = .ok (.iload_n 2, 1) := by decide +kernel
theorem dX11_test_70 : decode cX11_test 70 = .ok (.bipush 62, 2) := by decide +kernel
theorem dX11_test_72 : decode cX11_test 72 = .ok (.if_icmp .eq 10, 3) := by decide +kernel
theorem dX11_test_75 : decode cX11_test 75 = .ok (.aload_n 0, 1) := by decide +kernel
theorem dX11_test_76 : decode cX11_test 76 = .ok (.iconst 1, 1) := by decide +kernel
theorem dX11_test_77 : decode cX11_test 77 = .ok (.putfield 77, 3) := by decide +kernel
theorem dX11_test_80 : decode cX11_test 80 = .ok (.lconst 0, 1) := by decide +kernel
theorem dX11_test_81 : decode cX11_test 81 = .ok (.lreturn, 1) := by decide +kernel
theorem dX11_test_82 : decode cX11_test 82 = .ok (.aload_n 0, 1) := by decide +kernel
theorem dX11_test_83 : decode cX11_test 83 = .ok (.dup, 1) := by decide +kernel
theorem dX11_test_84 : decode cX11_test 84 = .ok (.getfield 74, 3) := by decide +kernel
theorem dX11_test_87 : decode cX11_test 87 = .ok (.iconst 1, 1) := by decide +kernel
theorem dX11_test_88 : decode cX11_test 88 = .ok (.iadd, 1) := by decide +kernel
theorem dX11_test_89 : decode cX11_test 89 = .ok (.putfield 74, 3) := by decide +kernel
theorem dX11_test_92 : decode cX11_test 92 = .ok (.aload_n 0, 1) := by decide +kernel
theorem dX11_test_93 : decode cX11_test 93 = .ok (.invokevirtual 89, 3) := by decide +kernel
theorem dX11_test_96 : decode cX11_test 96 = .ok (.istore_n 3, 1) := by decide +kernel
theorem dX11_test_97 : decode cX11_test 97 = .ok (.lconst 0, 1) := by decide +kernel
theorem dX11_test_98 : decode cX11_test 98 = .ok (.lstore 4, 2) := by decide +kernel
theorem dX11_test_100 : decode cX11_test 100 = .ok (.iconst 0, 1) := by decide +kernel
theorem dX11_test_101 : decode cX11_test 101 = .ok (.istore 6, 2) := by decide +kernel
theorem dX11_test_103 : decode cX11_test 103 = .ok (.iload 6, 2) := by decide +kernel
theorem dX11_test_105 : decode cX11_test 105 = .ok (.bipush 36, 2) := by decide +kernel
theorem dX11_test_107 : decode cX11_test 107 = .ok (.if_icmp .ge 62, 3) := by decide +kernel
theorem dX11_test_110 : decode cX11_test 110 = .ok (.iload_n 1, 1) := by decide +kernel
theorem dX11_test_111 : decode cX11_test 111 = .ok (.iload 6, 2) := by decide +kernel
theorem dX11_test_113 : decode cX11_test 113 = .ok (.invokestatic 92, 3) := by decide +kernel
theorem dX11_test_116 : decode cX11_test 116 = .ok (.istore 7, 2) := by decide +kernel
theorem dX11_test_118 : decode cX11_test 118 = .ok (.iload_n 2, 1) := by decide +kernel
theorem dX11_test_119 : decode cX11_test 119 = .ok (.bipush 60, 2) := by decide +kernel
theorem dX11_test_121 : decode cX11_test 121 = .ok (.if_icmp .ne 12, 3) := by decide +kernel
theorem dX11_test_124 : decode cX11_test 124 = .ok (.iload 7, 2) := by decide +kernel
theorem dX11_test_126 : decode cX11_test 126 = .ok (.iload_n 3, 1) := by decide +kernel
theorem dX11_test_127 : decode cX11_test 127 = .ok (.if_icmp .ge 36, 3) := by decide +kernel
theorem dX11_test_130 : decode cX11_test 130 = .ok (.goto 24, 3) := by decide +kernel
theorem dX11_test_133 : decode cX11_test 133 = .ok (.iload_n 2, 1) := by decide +kernel
theorem dX11_test_134 : decode cX11_test 134 = .ok (.bipush 61, 2) := by decide +kernel
theorem dX11_test_136 : decode cX11_test 136 = .ok (.if_icmp .ne 12, 3) := by decide +kernel
theorem dX11_test_139 : decode cX11_test 139 = .ok (.iload 7, 2) := by decide +kernel
theorem dX11_test_141 : decode cX11_test 141 = .ok (.iload_n 3, 1) := by decide +kernel
theorem dX11_test_142 : decode cX11_test 142 = .ok (.if_icmp .ne 21, 3) := by decide +kernel
theorem dX11_test_145 : decode cX11_test 145 = .ok (.goto 9, 3) := by decide +kernel
theorem dX11_test_148 : decode cX11_test 148 = .ok (.iload 7, 2) := by decide +kernel
theorem dX11_test_150 : decode cX11_test 150 = .ok (.iload_n 3, 1) := by decide +kernel
theorem dX11_test_151 : decode cX11_test 151 = .ok (.if_icmp .le 12, 3) := by decide +kernel
theorem dX11_test_154 : decode cX11_test 154 = .ok (.lload 4, 2) := by decide +kernel
theorem dX11_test_156 : decode cX11_test 156 = .ok (.lconst 1, 1) := by decide +kernel
theorem dX11_test_157 : decode cX11_test 157 = .ok (.iload 6, 2) := by decide +kernel
theorem dX11_test_159 : decode cX11_test 159 = .ok (.lshl, 1) := by decide +kernel
theorem dX11_test_160 : decode cX11_test 160 = .ok (.lor, 1) := by decide +kernel
theorem dX11_test_161 : decode cX11_test 161 = .ok (.lstore 4, 2) := by decide +kernel
theorem dX11_test_163 : decode cX11_test 163 = .ok (.iinc 6 1, 3) := by decide +kernel
theorem dX11_test_166 : decode cX11_test 166 = .ok (.goto (-63), 3) := by decide +kernel
theorem dX11_test_169 : decode cX11_test 169 = .ok (.lload 4, 2) := by decide +kernel
theorem dX11_test_171 : decode cX11_test 171 = .ok (.lreturn, 1) := by decide +kernel
theorem dX11_factor_0 : decode cX11_factor 0 = .ok (.aload_n 0, 1) := by decide +kernel
theorem dX11_factor_1 : decode cX11_factor 1 = .ok (.getfield 77, 3) := by decide +kernel
theorem dX11_factor_4 : decode cX11_factor 4 = .ok (.ifCond .eq 5, 3) := by decide +kernel
theorem dX11_factor_7 : decode cX11_factor 7 = .ok (.lconst 0, 1) := by decide +kernel
theorem dX11_factor_8 : decode cX11_factor 8 = .ok (.lreturn, 1) := by decide +kernel
theorem dX11_factor_9 : decode cX11_factor 9 = .ok (.aload_n 0, 1) := by decide +kernel
theorem dX11_factor_10 : decode cX11_factor 10 = .ok (.invokevirtual 81, 3) := by decide +kernel
theorem dX11_factor_13 : decode cX11_factor 13 = .ok (.istore_n 1, 1) := by decide +kernel
theorem dX11_factor_14 : decode cX11_factor 14 = .ok (.iload_n 1, 1) := by decide +kernel
theorem dX11_factor_15 : decode cX11_factor 15 = .ok (.bipush 33, 2) := by decide +kernel
theorem dX11_factor_17 : decode cX11_factor 17 = .ok (.if_icmp .eq 14, 3) := by decide +kernel
theorem dX11_factor_20 : decode cX11_factor 20 = .ok (.iload_n 1, 1) := by decide +kernel
theorem dX11_factor_21 : decode cX11_factor 21 = .ok (.bipush 40, 2) := by decide +kernel
theorem dX11_factor_23 : decode cX11_factor 23 = .ok (.if_icmp .eq 8, 3) := by decide +kernel
theorem dX11_factor_26 : decode cX11_factor 26 = .ok (.aload_n 0, 1) := by decide +kernel
theorem dX11_factor_27 : decode cX11_factor 27 = .ok (.invokevirtual 96, 3) := by decide +kernel
theorem dX11_factor_30 : decode cX11_factor 30 = .ok (.lreturn, 1) := by decide +kernel
theorem dX11_factor_31 : decode cX11_factor 31 = .ok (.aload_n 0, 1) := by decide +kernel
theorem dX11_factor_32 : decode cX11_factor 32 = .ok (.getfield 100, 3) := by decide +kernel
theorem dX11_factor_35 : decode cX11_factor 35 = .ok (.iconst 4, 1) := by decide +kernel
theorem dX11_factor_36 : decode cX11_factor 36 = .ok (.if_icmp .ne 10, 3) := by decide +kernel
theorem dX11_factor_39 : decode cX11_factor 39 = .ok (.aload_n 0, 1) := by decide +kernel
theorem dX11_factor_40 : decode cX11_factor 40 = .ok (.iconst 1, 1) := by decide +kernel
theorem dX11_factor_41 : decode cX11_factor 41 = .ok (.putfield 77, 3) := by decide +kernel
theorem dX11_factor_44 : decode cX11_factor 44 = .ok (.lconst 0, 1) := by decide +kernel
theorem dX11_factor_45 : decode cX11_factor 45 = .ok (.lreturn, 1) := by decide +kernel
theorem dX11_factor_46 : decode cX11_factor 46 = .ok (.aload_n 0, 1) := by decide +kernel
theorem dX11_factor_47 : decode cX11_factor 47 = .ok (.dup, 1) := by decide +kernel
theorem dX11_factor_48 : decode cX11_factor 48 = .ok (.getfield 74, 3) := by decide +kernel
theorem dX11_factor_51 : decode cX11_factor 51 = .ok (.iconst 1, 1) := by decide +kernel
theorem dX11_factor_52 : decode cX11_factor 52 = .ok (.iadd, 1) := by decide +kernel
theorem dX11_factor_53 : decode cX11_factor 53 = .ok (.putfield 74, 3) := by decide +kernel
theorem dX11_factor_56 : decode cX11_factor 56 = .ok (.aload_n 0, 1) := by decide +kernel
theorem dX11_factor_57 : decode cX11_factor 57 = .ok (.dup, 1) := by decide +kernel
theorem dX11_factor_58 : decode cX11_factor 58 = .ok (.getfield 100, 3) := by decide +kernel
theorem dX11_factor_61 : decode cX11_factor 61 = .ok (.iconst 1, 1) := by decide +kernel
theorem dX11_factor_62 : decode cX11_factor 62 = .ok (.iadd, 1) := by decide +kernel
theorem dX11_factor_63 : decode cX11_factor 63 = .ok (.putfield 100, 3) := by decide +kernel
theorem dX11_factor_66 : decode cX11_factor 66 = .ok (.iload_n 1, 1) := by decide +kernel
theorem dX11_factor_67 : decode cX11_factor 67 = .ok (.bipush 33, 2) := by decide +kernel
theorem dX11_factor_69 : decode cX11_factor 69 = .ok (.if_icmp .ne 18, 3) := by decide +kernel
theorem dX11_factor_72 : decode cX11_factor 72 = .ok (.ldc2_w 103, 3) := by decide +kernel
theorem dX11_factor_75 : decode cX11_factor 75 = .ok (.aload_n 0, 1) := by decide +kernel
theorem dX11_factor_76 : decode cX11_factor 76 = .ok (.invokevirtual 105, 3) := by decide +kernel
theorem dX11_factor_79 : decode cX11_factor 79 = .ok (.ldc2_w 108, 3) := by decide +kernel
theorem dX11_factor_82 : decode cX11_factor 82 = .ok (.lxor, 1) := by decide +kernel
theorem dX11_factor_83 : decode cX11_factor 83 = .ok (.land, 1) := by decide +kernel
theorem dX11_factor_84 : decode cX11_factor 84 = .ok (.goto 7, 3) := by decide +kernel
theorem dX11_factor_87 : decode cX11_factor 87 = .ok (.aload_n 0, 1) := by decide +kernel
theorem dX11_factor_88 : decode cX11_factor 88 = .ok (.invokevirtual 110, 3) := by decide +kernel
theorem dX11_factor_91 : decode cX11_factor 91 = .ok (.lstore_n 2, 1) := by decide +kernel
theorem dX11_factor_92 : decode cX11_factor 92 = .ok (.aload_n 0, 1) := by decide +kernel
theorem dX11_factor_93 : decode cX11_factor 93 = .ok (.dup, 1) := by decide +kernel
theorem dX11_factor_94 : decode cX11_factor 94 = .ok (.getfield 100, 3) := by decide +kernel
theorem dX11_factor_97 : decode cX11_factor 97 = .ok (.iconst 1, 1) := by decide +kernel
theorem dX11_factor_98 : decode cX11_factor 98 = .ok (.isub, 1) := by decide +kernel
theorem dX11_factor_99 : decode cX11_factor 99 = .ok (.putfield 100, 3) := by decide +kernel
theorem dX11_factor_102 : decode cX11_factor 102 = .ok (.iload_n 1, 1) := by decide +kernel
theorem dX11_factor_103 : decode cX11_factor 103 = .ok (.bipush 40, 2) := by decide +kernel
theorem dX11_factor_105 : decode cX11_factor 105 = .ok (.if_icmp .ne 9, 3) := by decide +kernel
theorem dX11_factor_108 : decode cX11_factor 108 = .ok (.aload_n 0, 1) := by decide +kernel
theorem dX11_factor_109 : decode cX11_factor 109 = .ok (.bipush 41, 2) := by decide +kernel
theorem dX11_factor_111 : decode cX11_factor 111 = .ok (.invokevirtual 113, 3) := by decide +kernel
theorem dX11_factor_114 : decode cX11_factor 114 = .ok (.lload_n 2, 1) := by decide +kernel
theorem dX11_factor_115 : decode cX11_factor 115 = .ok (.lreturn, 1) := by decide +kernel
theorem dX11_term_0 : decode cX11_term 0 = .ok (.aload_n 0, 1) := by decide +kernel
theorem dX11_term_1 : decode cX11_term 1 = .ok (.invokevirtual 105, 3) := by decide +kernel
theorem dX11_term_4 : decode cX11_term 4 = .ok (.lstore_n 1, 1) := by decide +kernel
theorem dX11_term_5 : decode cX11_term 5 = .ok (.aload_n 0, 1) := by decide +kernel
theorem dX11_term_6 : decode cX11_term 6 = .ok (.getfield 77, 3) := by decide +kernel
theorem dX11_term_9 : decode cX11_term 9 = .ok (.ifCond .ne 32, 3) := by decide +kernel
theorem dX11_term_12 : decode cX11_term 12 = .ok (.aload_n 0, 1) := by decide +kernel
theorem dX11_term_13 : decode cX11_term 13 = .ok (.invokevirtual 81, 3) := by decide +kernel
theorem dX11_term_16 : decode cX11_term 16 = .ok (.bipush 38, 2) := by decide +kernel
theorem dX11_term_18 : decode cX11_term 18 = .ok (.if_icmp .ne 23, 3) := by decide +kernel
theorem dX11_term_21 : decode cX11_term 21 = .ok (.aload_n 0, 1) := by decide +kernel
theorem dX11_term_22 : decode cX11_term 22 = .ok (.dup, 1) := by decide +kernel
theorem dX11_term_23 : decode cX11_term 23 = .ok (.getfield 74, 3) := by decide +kernel
theorem dX11_term_26 : decode cX11_term 26 = .ok (.iconst 1, 1) := by decide +kernel
theorem dX11_term_27 : decode cX11_term 27 = .ok (.iadd, 1) := by decide +kernel
theorem dX11_term_28 : decode cX11_term 28 = .ok (.putfield 74, 3) := by decide +kernel
theorem dX11_term_31 : decode cX11_term 31 = .ok (.lload_n 1, 1) := by decide +kernel
theorem dX11_term_32 : decode cX11_term 32 = .ok (.aload_n 0, 1) := by decide +kernel
theorem dX11_term_33 : decode cX11_term 33 = .ok (.invokevirtual 105, 3) := by decide +kernel
theorem dX11_term_36 : decode cX11_term 36 = .ok (.land, 1) := by decide +kernel
theorem dX11_term_37 : decode cX11_term 37 = .ok (.lstore_n 1, 1) := by decide +kernel
theorem dX11_term_38 : decode cX11_term 38 = .ok (.goto (-33), 3) := by decide +kernel
theorem dX11_term_41 : decode cX11_term 41 = .ok (.lload_n 1, 1) := by decide +kernel
theorem dX11_term_42 : decode cX11_term 42 = .ok (.lreturn, 1) := by decide +kernel
theorem dX11_either_0 : decode cX11_either 0 = .ok (.aload_n 0, 1) := by decide +kernel
theorem dX11_either_1 : decode cX11_either 1 = .ok (.invokevirtual 117, 3) := by decide +kernel
theorem dX11_either_4 : decode cX11_either 4 = .ok (.lstore_n 1, 1) := by decide +kernel
theorem dX11_either_5 : decode cX11_either 5 = .ok (.aload_n 0, 1) := by decide +kernel
theorem dX11_either_6 : decode cX11_either 6 = .ok (.getfield 77, 3) := by decide +kernel
theorem dX11_either_9 : decode cX11_either 9 = .ok (.ifCond .ne 32, 3) := by decide +kernel
theorem dX11_either_12 : decode cX11_either 12 = .ok (.aload_n 0, 1) := by decide +kernel
theorem dX11_either_13 : decode cX11_either 13 = .ok (.invokevirtual 81, 3) := by decide +kernel
theorem dX11_either_16 : decode cX11_either 16 = .ok (.bipush 124, 2) := by decide +kernel
theorem dX11_either_18 : decode cX11_either 18 = .ok (.if_icmp .ne 23, 3) := by decide +kernel
theorem dX11_either_21 : decode cX11_either 21 = .ok (.aload_n 0, 1) := by decide +kernel
theorem dX11_either_22 : decode cX11_either 22 = .ok (.dup, 1) := by decide +kernel
theorem dX11_either_23 : decode cX11_either 23 = .ok (.getfield 74, 3) := by decide +kernel
theorem dX11_either_26 : decode cX11_either 26 = .ok (.iconst 1, 1) := by decide +kernel
theorem dX11_either_27 : decode cX11_either 27 = .ok (.iadd, 1) := by decide +kernel
theorem dX11_either_28 : decode cX11_either 28 = .ok (.putfield 74, 3) := by decide +kernel
theorem dX11_either_31 : decode cX11_either 31 = .ok (.lload_n 1, 1) := by decide +kernel
theorem dX11_either_32 : decode cX11_either 32 = .ok (.aload_n 0, 1) := by decide +kernel
theorem dX11_either_33 : decode cX11_either 33 = .ok (.invokevirtual 117, 3) := by decide +kernel
theorem dX11_either_36 : decode cX11_either 36 = .ok (.lor, 1) := by decide +kernel
theorem dX11_either_37 : decode cX11_either 37 = .ok (.lstore_n 1, 1) := by decide +kernel
theorem dX11_either_38 : decode cX11_either 38 = .ok (.goto (-33), 3) := by decide +kernel
theorem dX11_either_41 : decode cX11_either 41 = .ok (.lload_n 1, 1) := by decide +kernel
theorem dX11_either_42 : decode cX11_either 42 = .ok (.lreturn, 1) := by decide +kernel
theorem dX11_word_0 : decode cX11_word 0 = .ok (.aload_n 0, 1) := by decide +kernel
theorem dX11_word_1 : decode cX11_word 1 = .ok (.iload_n 1, 1) := by decide +kernel
theorem dX11_word_2 : decode cX11_word 2 = .ok (.invokevirtual 113, 3) := by decide +kernel
theorem dX11_word_5 : decode cX11_word 5 = .ok (.aload_n 0, 1) := by decide +kernel
theorem dX11_word_6 : decode cX11_word 6 = .ok (.iload_n 2, 1) := by decide +kernel
theorem dX11_word_7 : decode cX11_word 7 = .ok (.invokevirtual 113, 3) := by decide +kernel
theorem dX11_word_10 : decode cX11_word 10 = .ok (.iload_n 3, 1) := by decide +kernel
theorem dX11_word_11 : decode cX11_word 11 = .ok (.ifCond .eq 8, 3) := by decide +kernel
theorem dX11_word_14 : decode cX11_word 14 = .ok (.aload_n 0, 1) := by decide +kernel
theorem dX11_word_15 : decode cX11_word 15 = .ok (.iload_n 3, 1) := by decide +kernel
theorem dX11_word_16 : decode cX11_word 16 = .ok (.invokevirtual 113, 3) := by decide +kernel
theorem dX11_word_19 : decode cX11_word 19 = .ok (.iload 4, 2) := by decide +kernel
theorem dX11_word_21 : decode cX11_word 21 = .ok (.ifCond .eq 9, 3) := by decide +kernel
theorem dX11_word_24 : decode cX11_word 24 = .ok (.aload_n 0, 1) := by decide +kernel
theorem dX11_word_25 : decode cX11_word 25 = .ok (.iload 4, 2) := by decide +kernel
theorem dX11_word_27 : decode cX11_word 27 = .ok (.invokevirtual 113, 3) := by decide +kernel
theorem dX11_word_30 : decode cX11_word 30 = .ok (.iload 5, 2) := by decide +kernel
theorem dX11_word_32 : decode cX11_word 32 = .ok (.ifCond .eq 9, 3) := by decide +kernel
theorem dX11_word_35 : decode cX11_word 35 = .ok (.aload_n 0, 1) := by decide +kernel
theorem dX11_word_36 : decode cX11_word 36 = .ok (.iload 5, 2) := by decide +kernel
theorem dX11_word_38 : decode cX11_word 38 = .ok (.invokevirtual 113, 3) := by decide +kernel
theorem dX11_word_41 : decode cX11_word 41 = .ok (.aload_n 0, 1) := by decide +kernel
theorem dX11_word_42 : decode cX11_word 42 = .ok (.bipush 32, 2) := by decide +kernel
theorem dX11_word_44 : decode cX11_word 44 = .ok (.invokevirtual 113, 3) := by decide +kernel
theorem dX11_word_47 : decode cX11_word 47 = .ok (.return_, 1) := by decide +kernel
theorem dX11_marksBy_0 : decode cX11_marksBy 0 = .ok (.aload_n 0, 1) := by decide +kernel
theorem dX11_marksBy_1 : decode cX11_marksBy 1 = .ok (.invokevirtual 110, 3) := by decide +kernel
theorem dX11_marksBy_4 : decode cX11_marksBy 4 = .ok (.lstore_n 2, 1) := by decide +kernel
theorem dX11_marksBy_5 : decode cX11_marksBy 5 = .ok (.iconst 0, 1) := by decide +kernel
theorem dX11_marksBy_6 : decode cX11_marksBy 6 = .ok (.istore 4, 2) := by decide +kernel
theorem dX11_marksBy_8 : decode cX11_marksBy 8 = .ok (.iload 4, 2) := by decide +kernel
theorem dX11_marksBy_10 : decode cX11_marksBy 10 = .ok (.bipush 36, 2) := by decide +kernel
theorem dX11_marksBy_12 : decode cX11_marksBy 12 = .ok (.if_icmp .ge 33, 3) := by decide +kernel
theorem dX11_marksBy_15 : decode cX11_marksBy 15 = .ok (.lload_n 2, 1) := by decide +kernel
theorem dX11_marksBy_16 : decode cX11_marksBy 16 = .ok (.iload 4, 2) := by decide +kernel
theorem dX11_marksBy_18 : decode cX11_marksBy 18 = .ok (.lshr, 1) := by decide +kernel
theorem dX11_marksBy_19 : decode cX11_marksBy 19 = .ok (.lconst 1, 1) := by decide +kernel
theorem dX11_marksBy_20 : decode cX11_marksBy 20 = .ok (.land, 1) := by decide +kernel
theorem dX11_marksBy_21 : decode cX11_marksBy 21 = .ok (.lconst 1, 1) := by decide +kernel
theorem dX11_marksBy_22 : decode cX11_marksBy 22 = .ok (.lcmp, 1) := by decide +kernel
theorem dX11_marksBy_23 : decode cX11_marksBy 23 = .ok (.ifCond .ne 16, 3) := by decide +kernel
theorem dX11_marksBy_26 : decode cX11_marksBy 26 = .ok (.aload_n 0, 1) := by decide +kernel
theorem dX11_marksBy_27 : decode cX11_marksBy 27 = .ok (.getfield 28, 3) := by decide +kernel
theorem dX11_marksBy_30 : decode cX11_marksBy 30 = .ok (.iload 4, 2) := by decide +kernel
theorem dX11_marksBy_32 : decode cX11_marksBy 32 = .ok (.dup2, 1) := by decide +kernel
theorem dX11_marksBy_33 : decode cX11_marksBy 33 = .ok (.iaload, 1) := by decide +kernel
theorem dX11_marksBy_34 : decode cX11_marksBy 34 = .ok (.iconst 1, 1) := by decide +kernel
theorem dX11_marksBy_35 : decode cX11_marksBy 35 = .ok (.iload_n 1, 1) := by decide +kernel
theorem dX11_marksBy_36 : decode cX11_marksBy 36 = .ok (.ishl, 1) := by decide +kernel
theorem dX11_marksBy_37 : decode cX11_marksBy 37 = .ok (.ior, 1) := by decide +kernel
theorem dX11_marksBy_38 : decode cX11_marksBy 38 = .ok (.iastore, 1) := by decide +kernel
theorem dX11_marksBy_39 : decode cX11_marksBy 39 = .ok (.iinc 4 1, 3) := by decide +kernel
theorem dX11_marksBy_42 : decode cX11_marksBy 42 = .ok (.goto (-34), 3) := by decide +kernel
theorem dX11_marksBy_45 : decode cX11_marksBy 45 = .ok (.return_, 1) := by decide +kernel
end
section
theorem dX11_clause_0 : decode cX11_clause 0 = .ok (.aload_n 0, 1) := by decide +kernel
theorem dX11_clause_1 : decode cX11_clause 1 = .ok (.invokevirtual 81, 3) := by decide +kernel
theorem dX11_clause_4 : decode cX11_clause 4 = .ok (.lookupswitch 222 #[(98, 87), (100, 169), (108, 142), (111, 60), (115, 195), (119, 116)], 60) := by decide +kernel
theorem dX11_clause_64 : decode cX11_clause 64 = .ok (.aload_n 0, 1) := by decide +kernel
theorem dX11_clause_65 : decode cX11_clause 65 = .ok (.bipush 111, 2) := by decide +kernel
theorem dX11_clause_67 : decode cX11_clause 67 = .ok (.bipush 110, 2) := by decide +kernel
theorem dX11_clause_69 : decode cX11_clause 69 = .ok (.iconst 0, 1) := by decide +kernel
theorem dX11_clause_70 : decode cX11_clause 70 = .ok (.iconst 0, 1) := by decide +kernel
theorem dX11_clause_71 : decode cX11_clause 71 = .ok (.iconst 0, 1) := by decide +kernel
theorem dX11_clause_72 : decode cX11_clause 72 = .ok (.invokevirtual 120, 3) := by decide +kernel
theorem dX11_clause_75 : decode cX11_clause 75 = .ok (.aload_n 0, 1) := by decide +kernel
theorem dX11_clause_76 : decode cX11_clause 76 = .ok (.getfield 77, 3) := by decide +kernel
theorem dX11_clause_79 : decode cX11_clause 79 = .ok (.ifCond .ne 11, 3) := by decide +kernel
theorem dX11_clause_82 : decode cX11_clause 82 = .ok (.aload_n 0, 1) := by decide +kernel
theorem dX11_clause_83 : decode cX11_clause 83 = .ok (.aload_n 0, 1) := by decide +kernel
theorem dX11_clause_84 : decode cX11_clause 84 = .ok (.invokevirtual 89, 3) := by decide +kernel
theorem dX11_clause_87 : decode cX11_clause 87 = .ok (.putfield 124, 3) := by decide +kernel
theorem dX11_clause_90 : decode cX11_clause 90 = .ok (.return_, 1) := by decide +kernel
theorem dX11_clause_91 : decode cX11_clause 91 = .ok (.aload_n 0, 1) := by decide +kernel
theorem dX11_clause_92 : decode cX11_clause 92 = .ok (.bipush 98, 2) := by decide +kernel
theorem dX11_clause_94 : decode cX11_clause 94 = .ok (.bipush 97, 2) := by decide +kernel
theorem dX11_clause_96 : decode cX11_clause 96 = .ok (.bipush 99, 2) := by decide +kernel
theorem dX11_clause_98 : decode cX11_clause 98 = .ok (.bipush 107, 2) := by decide +kernel
theorem dX11_clause_100 : decode cX11_clause 100 = .ok (.iconst 0, 1) := by decide +kernel
theorem dX11_clause_101 : decode cX11_clause 101 = .ok (.invokevirtual 120, 3) := by decide +kernel
theorem dX11_clause_104 : decode cX11_clause 104 = .ok (.aload_n 0, 1) := by decide +kernel
theorem dX11_clause_105 : decode cX11_clause 105 = .ok (.getfield 77, 3) := by decide +kernel
theorem dX11_clause_108 : decode cX11_clause 108 = .ok (.ifCond .ne 11, 3) := by decide +kernel
theorem dX11_clause_111 : decode cX11_clause 111 = .ok (.aload_n 0, 1) := by decide +kernel
theorem dX11_clause_112 : decode cX11_clause 112 = .ok (.aload_n 0, 1) := by decide +kernel
theorem dX11_clause_113 : decode cX11_clause 113 = .ok (.invokevirtual 89, 3) := by decide +kernel
theorem dX11_clause_116 : decode cX11_clause 116 = .ok (.putfield 127, 3) := by decide +kernel
theorem dX11_clause_119 : decode cX11_clause 119 = .ok (.return_, 1) := by decide +kernel
theorem dX11_clause_120 : decode cX11_clause 120 = .ok (.aload_n 0, 1) := by decide +kernel
theorem dX11_clause_121 : decode cX11_clause 121 = .ok (.bipush 119, 2) := by decide +kernel
theorem dX11_clause_123 : decode cX11_clause 123 = .ok (.bipush 97, 2) := by decide +kernel
theorem dX11_clause_125 : decode cX11_clause 125 = .ok (.bipush 108, 2) := by decide +kernel
theorem dX11_clause_127 : decode cX11_clause 127 = .ok (.bipush 108, 2) := by decide +kernel
theorem dX11_clause_129 : decode cX11_clause 129 = .ok (.iconst 0, 1) := by decide +kernel
theorem dX11_clause_130 : decode cX11_clause 130 = .ok (.invokevirtual 120, 3) := by decide +kernel
theorem dX11_clause_133 : decode cX11_clause 133 = .ok (.aload_n 0, 1) := by decide +kernel
theorem dX11_clause_134 : decode cX11_clause 134 = .ok (.getfield 77, 3) := by decide +kernel
theorem dX11_clause_137 : decode cX11_clause 137 = .ok (.ifCond .ne 8, 3) := by decide +kernel
theorem dX11_clause_140 : decode cX11_clause 140 = .ok (.aload_n 0, 1) := by decide +kernel
theorem dX11_clause_141 : decode cX11_clause 141 = .ok (.iconst 0, 1) := by decide +kernel
theorem dX11_clause_142 : decode cX11_clause 142 = .ok (.invokevirtual 130, 3) := by decide +kernel
theorem dX11_clause_145 : decode cX11_clause 145 = .ok (.return_, 1) := by decide +kernel
theorem dX11_clause_146 : decode cX11_clause 146 = .ok (.aload_n 0, 1) := by decide +kernel
theorem dX11_clause_147 : decode cX11_clause 147 = .ok (.bipush 108, 2) := by decide +kernel
theorem dX11_clause_149 : decode cX11_clause 149 = .ok (.bipush 101, 2) := by decide +kernel
theorem dX11_clause_151 : decode cX11_clause 151 = .ok (.bipush 100, 2) := by decide +kernel
theorem dX11_clause_153 : decode cX11_clause 153 = .ok (.bipush 103, 2) := by decide +kernel
theorem dX11_clause_155 : decode cX11_clause 155 = .ok (.bipush 101, 2) := by decide +kernel
theorem dX11_clause_157 : decode cX11_clause 157 = .ok (.invokevirtual 120, 3) := by decide +kernel
theorem dX11_clause_160 : decode cX11_clause 160 = .ok (.aload_n 0, 1) := by decide +kernel
theorem dX11_clause_161 : decode cX11_clause 161 = .ok (.getfield 77, 3) := by decide +kernel
theorem dX11_clause_164 : decode cX11_clause 164 = .ok (.ifCond .ne 8, 3) := by decide +kernel
theorem dX11_clause_167 : decode cX11_clause 167 = .ok (.aload_n 0, 1) := by decide +kernel
theorem dX11_clause_168 : decode cX11_clause 168 = .ok (.iconst 1, 1) := by decide +kernel
theorem dX11_clause_169 : decode cX11_clause 169 = .ok (.invokevirtual 130, 3) := by decide +kernel
theorem dX11_clause_172 : decode cX11_clause 172 = .ok (.return_, 1) := by decide +kernel
theorem dX11_clause_173 : decode cX11_clause 173 = .ok (.aload_n 0, 1) := by decide +kernel
theorem dX11_clause_174 : decode cX11_clause 174 = .ok (.bipush 100, 2) := by decide +kernel
theorem dX11_clause_176 : decode cX11_clause 176 = .ok (.bipush 111, 2) := by decide +kernel
theorem dX11_clause_178 : decode cX11_clause 178 = .ok (.bipush 111, 2) := by decide +kernel
theorem dX11_clause_180 : decode cX11_clause 180 = .ok (.bipush 114, 2) := by decide +kernel
theorem dX11_clause_182 : decode cX11_clause 182 = .ok (.iconst 0, 1) := by decide +kernel
theorem dX11_clause_183 : decode cX11_clause 183 = .ok (.invokevirtual 120, 3) := by decide +kernel
theorem dX11_clause_186 : decode cX11_clause 186 = .ok (.aload_n 0, 1) := by decide +kernel
theorem dX11_clause_187 : decode cX11_clause 187 = .ok (.getfield 77, 3) := by decide +kernel
theorem dX11_clause_190 : decode cX11_clause 190 = .ok (.ifCond .ne 8, 3) := by decide +kernel
theorem dX11_clause_193 : decode cX11_clause 193 = .ok (.aload_n 0, 1) := by decide +kernel
theorem dX11_clause_194 : decode cX11_clause 194 = .ok (.iconst 2, 1) := by decide +kernel
theorem dX11_clause_195 : decode cX11_clause 195 = .ok (.invokevirtual 130, 3) := by decide +kernel
theorem dX11_clause_198 : decode cX11_clause 198 = .ok (.return_, 1) := by decide +kernel
theorem dX11_clause_199 : decode cX11_clause 199 = .ok (.aload_n 0, 1) := by decide +kernel
theorem dX11_clause_200 : decode cX11_clause 200 = .ok (.bipush 115, 2) := by decide +kernel
theorem dX11_clause_202 : decode cX11_clause 202 = .ok (.bipush 116, 2) := by decide +kernel
theorem dX11_clause_204 : decode cX11_clause 204 = .ok (.bipush 97, 2) := by decide +kernel
theorem dX11_clause_206 : decode cX11_clause 206 = .ok (.bipush 105, 2) := by decide +kernel
theorem dX11_clause_208 : decode cX11_clause 208 = .ok (.bipush 114, 2) := by decide +kernel
theorem dX11_clause_210 : decode cX11_clause 210 = .ok (.invokevirtual 120, 3) := by decide +kernel
theorem dX11_clause_213 : decode cX11_clause 213 = .ok (.aload_n 0, 1) := by decide +kernel
theorem dX11_clause_214 : decode cX11_clause 214 = .ok (.getfield 77, 3) := by decide +kernel
theorem dX11_clause_217 : decode cX11_clause 217 = .ok (.ifCond .ne 8, 3) := by decide +kernel
theorem dX11_clause_220 : decode cX11_clause 220 = .ok (.aload_n 0, 1) := by decide +kernel
theorem dX11_clause_221 : decode cX11_clause 221 = .ok (.iconst 3, 1) := by decide +kernel
theorem dX11_clause_222 : decode cX11_clause 222 = .ok (.invokevirtual 130, 3) := by decide +kernel
theorem dX11_clause_225 : decode cX11_clause 225 = .ok (.return_, 1) := by decide +kernel
theorem dX11_clause_226 : decode cX11_clause 226 = .ok (.aload_n 0, 1) := by decide +kernel
theorem dX11_clause_227 : decode cX11_clause 227 = .ok (.iconst 1, 1) := by decide +kernel
theorem dX11_clause_228 : decode cX11_clause 228 = .ok (.putfield 77, 3) := by decide +kernel
theorem dX11_clause_231 : decode cX11_clause 231 = .ok (.return_, 1) := by decide +kernel
theorem dX11_held_0 : decode cX11_held 0 = .ok (.iload_n 0, 1) := by decide +kernel
theorem dX11_held_1 : decode cX11_held 1 = .ok (.iconst 1, 1) := by decide +kernel
theorem dX11_held_2 : decode cX11_held 2 = .ok (.if_icmp .ge 7, 3) := by decide +kernel
theorem dX11_held_5 : decode cX11_held 5 = .ok (.iconst 1, 1) := by decide +kernel
theorem dX11_held_6 : decode cX11_held 6 = .ok (.goto 13, 3) := by decide +kernel
theorem dX11_held_9 : decode cX11_held 9 = .ok (.iload_n 0, 1) := by decide +kernel
theorem dX11_held_10 : decode cX11_held 10 = .ok (.iconst 4, 1) := by decide +kernel
theorem dX11_held_11 : decode cX11_held 11 = .ok (.if_icmp .le 7, 3) := by decide +kernel
theorem dX11_held_14 : decode cX11_held 14 = .ok (.iconst 4, 1) := by decide +kernel
theorem dX11_held_15 : decode cX11_held 15 = .ok (.goto 4, 3) := by decide +kernel
theorem dX11_held_18 : decode cX11_held 18 = .ok (.iload_n 0, 1) := by decide +kernel
theorem dX11_held_19 : decode cX11_held 19 = .ok (.ireturn, 1) := by decide +kernel
theorem dX11_reads_0 : decode cX11_reads 0 = .ok (.aload_n 0, 1) := by decide +kernel
theorem dX11_reads_1 : decode cX11_reads 1 = .ok (.iconst 0, 1) := by decide +kernel
theorem dX11_reads_2 : decode cX11_reads 2 = .ok (.putfield 74, 3) := by decide +kernel
theorem dX11_reads_5 : decode cX11_reads 5 = .ok (.aload_n 0, 1) := by decide +kernel
theorem dX11_reads_6 : decode cX11_reads 6 = .ok (.iconst 0, 1) := by decide +kernel
theorem dX11_reads_7 : decode cX11_reads 7 = .ok (.putfield 100, 3) := by decide +kernel
theorem dX11_reads_10 : decode cX11_reads 10 = .ok (.aload_n 0, 1) := by decide +kernel
theorem dX11_reads_11 : decode cX11_reads 11 = .ok (.iconst 0, 1) := by decide +kernel
theorem dX11_reads_12 : decode cX11_reads 12 = .ok (.putfield 77, 3) := by decide +kernel
theorem dX11_reads_15 : decode cX11_reads 15 = .ok (.aload_n 0, 1) := by decide +kernel
theorem dX11_reads_16 : decode cX11_reads 16 = .ok (.iconst 2, 1) := by decide +kernel
theorem dX11_reads_17 : decode cX11_reads 17 = .ok (.putfield 124, 3) := by decide +kernel
theorem dX11_reads_20 : decode cX11_reads 20 = .ok (.aload_n 0, 1) := by decide +kernel
theorem dX11_reads_21 : decode cX11_reads 21 = .ok (.iconst 1, 1) := by decide +kernel
theorem dX11_reads_22 : decode cX11_reads 22 = .ok (.putfield 127, 3) := by decide +kernel
theorem dX11_reads_25 : decode cX11_reads 25 = .ok (.iconst 0, 1) := by decide +kernel
theorem dX11_reads_26 : decode cX11_reads 26 = .ok (.istore_n 1, 1) := by decide +kernel
theorem dX11_reads_27 : decode cX11_reads 27 = .ok (.iload_n 1, 1) := by decide +kernel
theorem dX11_reads_28 : decode cX11_reads 28 = .ok (.bipush 36, 2) := by decide +kernel
theorem dX11_reads_30 : decode cX11_reads 30 = .ok (.if_icmp .ge 16, 3) := by decide +kernel
theorem dX11_reads_33 : decode cX11_reads 33 = .ok (.aload_n 0, 1) := by decide +kernel
theorem dX11_reads_34 : decode cX11_reads 34 = .ok (.getfield 28, 3) := by decide +kernel
theorem dX11_reads_37 : decode cX11_reads 37 = .ok (.iload_n 1, 1) := by decide +kernel
theorem dX11_reads_38 : decode cX11_reads 38 = .ok (.iconst 0, 1) := by decide +kernel
theorem dX11_reads_39 : decode cX11_reads 39 = .ok (.iastore, 1) := by decide +kernel
theorem dX11_reads_40 : decode cX11_reads 40 = .ok (.iinc 1 1, 3) := by decide +kernel
theorem dX11_reads_43 : decode cX11_reads 43 = .ok (.goto (-16), 3) := by decide +kernel
theorem dX11_reads_46 : decode cX11_reads 46 = .ok (.aload_n 0, 1) := by decide +kernel
theorem dX11_reads_47 : decode cX11_reads 47 = .ok (.invokevirtual 133, 3) := by decide +kernel
theorem dX11_reads_50 : decode cX11_reads 50 = .ok (.iconst 1, 1) := by decide +kernel
theorem dX11_reads_51 : decode cX11_reads 51 = .ok (.istore_n 1, 1) := by decide +kernel
theorem dX11_reads_52 : decode cX11_reads 52 = .ok (.iload_n 1, 1) := by decide +kernel
theorem dX11_reads_53 : decode cX11_reads 53 = .ok (.bipush 10, 2) := by decide +kernel
theorem dX11_reads_55 : decode cX11_reads 55 = .ok (.if_icmp .ge 39, 3) := by decide +kernel
theorem dX11_reads_58 : decode cX11_reads 58 = .ok (.aload_n 0, 1) := by decide +kernel
theorem dX11_reads_59 : decode cX11_reads 59 = .ok (.getfield 77, 3) := by decide +kernel
theorem dX11_reads_62 : decode cX11_reads 62 = .ok (.ifCond .ne 32, 3) := by decide +kernel
theorem dX11_reads_65 : decode cX11_reads 65 = .ok (.aload_n 0, 1) := by decide +kernel
theorem dX11_reads_66 : decode cX11_reads 66 = .ok (.invokevirtual 81, 3) := by decide +kernel
theorem dX11_reads_69 : decode cX11_reads 69 = .ok (.bipush 59, 2) := by decide +kernel
theorem dX11_reads_71 : decode cX11_reads 71 = .ok (.if_icmp .ne 23, 3) := by decide +kernel
theorem dX11_reads_74 : decode cX11_reads 74 = .ok (.aload_n 0, 1) := by decide +kernel
theorem dX11_reads_75 : decode cX11_reads 75 = .ok (.dup, 1) := by decide +kernel
theorem dX11_reads_76 : decode cX11_reads 76 = .ok (.getfield 74, 3) := by decide +kernel
theorem dX11_reads_79 : decode cX11_reads 79 = .ok (.iconst 1, 1) := by decide +kernel
theorem dX11_reads_80 : decode cX11_reads 80 = .ok (.iadd, 1) := by decide +kernel
theorem dX11_reads_81 : decode cX11_reads 81 = .ok (.putfield 74, 3) := by decide +kernel
theorem dX11_reads_84 : decode cX11_reads 84 = .ok (.aload_n 0, 1) := by decide +kernel
theorem dX11_reads_85 : decode cX11_reads 85 = .ok (.invokevirtual 133, 3) := by decide +kernel
theorem dX11_reads_88 : decode cX11_reads 88 = .ok (.iinc 1 1, 3) := by decide +kernel
theorem dX11_reads_91 : decode cX11_reads 91 = .ok (.goto (-39), 3) := by decide +kernel
theorem dX11_reads_94 : decode cX11_reads 94 = .ok (.aload_n 0, 1) := by decide +kernel
theorem dX11_reads_95 : decode cX11_reads 95 = .ok (.aload_n 0, 1) := by decide +kernel
theorem dX11_reads_96 : decode cX11_reads 96 = .ok (.getfield 77, 3) := by decide +kernel
theorem dX11_reads_99 : decode cX11_reads 99 = .ok (.ifCond .ne 14, 3) := by decide +kernel
theorem dX11_reads_102 : decode cX11_reads 102 = .ok (.aload_n 0, 1) := by decide +kernel
theorem dX11_reads_103 : decode cX11_reads 103 = .ok (.getfield 74, 3) := by decide +kernel
theorem dX11_reads_106 : decode cX11_reads 106 = .ok (.aload_n 0, 1) := by decide +kernel
theorem dX11_reads_107 : decode cX11_reads 107 = .ok (.getfield 70, 3) := by decide +kernel
theorem dX11_reads_110 : decode cX11_reads 110 = .ok (.if_icmp .ge 7, 3) := by decide +kernel
theorem dX11_reads_113 : decode cX11_reads 113 = .ok (.iconst 1, 1) := by decide +kernel
theorem dX11_reads_114 : decode cX11_reads 114 = .ok (.goto 4, 3) := by decide +kernel
theorem dX11_reads_117 : decode cX11_reads 117 = .ok (.iconst 0, 1) := by decide +kernel
theorem dX11_reads_118 : decode cX11_reads 118 = .ok (.putfield 77, 3) := by decide +kernel
theorem dX11_reads_121 : decode cX11_reads 121 = .ok (.return_, 1) := by decide +kernel
theorem dX11_land_0 : decode cX11_land 0 = .ok (.aload_n 0, 1) := by decide +kernel
theorem dX11_land_1 : decode cX11_land 1 = .ok (.getfield 136, 3) := by decide +kernel
theorem dX11_land_4 : decode cX11_land 4 = .ok (.bipush 6, 2) := by decide +kernel
theorem dX11_land_6 : decode cX11_land 6 = .ok (.if_icmp .ne 6, 3) := by decide +kernel
theorem dX11_land_9 : decode cX11_land 9 = .ok (.bipush (-4), 2) := by decide +kernel
theorem dX11_land_11 : decode cX11_land 11 = .ok (.ireturn, 1) := by decide +kernel
theorem dX11_land_12 : decode cX11_land 12 = .ok (.aload_n 0, 1) := by decide +kernel
theorem dX11_land_13 : decode cX11_land 13 = .ok (.invokevirtual 139, 3) := by decide +kernel
theorem dX11_land_16 : decode cX11_land 16 = .ok (.aload_n 0, 1) := by decide +kernel
theorem dX11_land_17 : decode cX11_land 17 = .ok (.iconst 0, 1) := by decide +kernel
theorem dX11_land_18 : decode cX11_land 18 = .ok (.putfield 70, 3) := by decide +kernel
theorem dX11_land_21 : decode cX11_land 21 = .ok (.aload_n 0, 1) := by decide +kernel
theorem dX11_land_22 : decode cX11_land 22 = .ok (.getfield 77, 3) := by decide +kernel
theorem dX11_land_25 : decode cX11_land 25 = .ok (.ifCond .eq 11, 3) := by decide +kernel
theorem dX11_land_28 : decode cX11_land 28 = .ok (.bipush (-10), 2) := by decide +kernel
theorem dX11_land_30 : decode cX11_land 30 = .ok (.aload_n 0, 1) := by decide +kernel
theorem dX11_land_31 : decode cX11_land 31 = .ok (.getfield 74, 3) := by decide +kernel
theorem dX11_land_34 : decode cX11_land 34 = .ok (.isub, 1) := by decide +kernel
theorem dX11_land_35 : decode cX11_land 35 = .ok (.ireturn, 1) := by decide +kernel
theorem dX11_land_36 : decode cX11_land 36 = .ok (.aload_n 0, 1) := by decide +kernel
theorem dX11_land_37 : decode cX11_land 37 = .ok (.getfield 16, 3) := by decide +kernel
theorem dX11_land_40 : decode cX11_land 40 = .ok (.aload_n 0, 1) := by decide +kernel
theorem dX11_land_41 : decode cX11_land 41 = .ok (.getfield 136, 3) := by decide +kernel
theorem dX11_land_44 : decode cX11_land 44 = .ok (.aload_n 0, 1) := by decide +kernel
theorem dX11_land_45 : decode cX11_land 45 = .ok (.getfield 124, 3) := by decide +kernel
theorem dX11_land_48 : decode cX11_land 48 = .ok (.invokestatic 142, 3) := by decide +kernel
theorem dX11_land_51 : decode cX11_land 51 = .ok (.iastore, 1) := by decide +kernel
theorem dX11_land_52 : decode cX11_land 52 = .ok (.aload_n 0, 1) := by decide +kernel
theorem dX11_land_53 : decode cX11_land 53 = .ok (.getfield 19, 3) := by decide +kernel
theorem dX11_land_56 : decode cX11_land 56 = .ok (.aload_n 0, 1) := by decide +kernel
theorem dX11_land_57 : decode cX11_land 57 = .ok (.getfield 136, 3) := by decide +kernel
theorem dX11_land_60 : decode cX11_land 60 = .ok (.aload_n 0, 1) := by decide +kernel
theorem dX11_land_61 : decode cX11_land 61 = .ok (.getfield 127, 3) := by decide +kernel
theorem dX11_land_64 : decode cX11_land 64 = .ok (.invokestatic 142, 3) := by decide +kernel
theorem dX11_land_67 : decode cX11_land 67 = .ok (.iastore, 1) := by decide +kernel
theorem dX11_land_68 : decode cX11_land 68 = .ok (.iconst 0, 1) := by decide +kernel
theorem dX11_land_69 : decode cX11_land 69 = .ok (.istore_n 1, 1) := by decide +kernel
theorem dX11_land_70 : decode cX11_land 70 = .ok (.iload_n 1, 1) := by decide +kernel
theorem dX11_land_71 : decode cX11_land 71 = .ok (.bipush 36, 2) := by decide +kernel
theorem dX11_land_73 : decode cX11_land 73 = .ok (.if_icmp .ge 29, 3) := by decide +kernel
theorem dX11_land_76 : decode cX11_land 76 = .ok (.aload_n 0, 1) := by decide +kernel
theorem dX11_land_77 : decode cX11_land 77 = .ok (.getfield 22, 3) := by decide +kernel
theorem dX11_land_80 : decode cX11_land 80 = .ok (.bipush 36, 2) := by decide +kernel
theorem dX11_land_82 : decode cX11_land 82 = .ok (.aload_n 0, 1) := by decide +kernel
theorem dX11_land_83 : decode cX11_land 83 = .ok (.getfield 136, 3) := by decide +kernel
theorem dX11_land_86 : decode cX11_land 86 = .ok (.imul, 1) := by decide +kernel
theorem dX11_land_87 : decode cX11_land 87 = .ok (.iload_n 1, 1) := by decide +kernel
theorem dX11_land_88 : decode cX11_land 88 = .ok (.iadd, 1) := by decide +kernel
theorem dX11_land_89 : decode cX11_land 89 = .ok (.aload_n 0, 1) := by decide +kernel
theorem dX11_land_90 : decode cX11_land 90 = .ok (.getfield 28, 3) := by decide +kernel
theorem dX11_land_93 : decode cX11_land 93 = .ok (.iload_n 1, 1) := by decide +kernel
theorem dX11_land_94 : decode cX11_land 94 = .ok (.iaload, 1) := by decide +kernel
theorem dX11_land_95 : decode cX11_land 95 = .ok (.iastore, 1) := by decide +kernel
theorem dX11_land_96 : decode cX11_land 96 = .ok (.iinc 1 1, 3) := by decide +kernel
theorem dX11_land_99 : decode cX11_land 99 = .ok (.goto (-29), 3) := by decide +kernel
theorem dX11_land_102 : decode cX11_land 102 = .ok (.aload_n 0, 1) := by decide +kernel
theorem dX11_land_103 : decode cX11_land 103 = .ok (.getfield 9, 3) := by decide +kernel
theorem dX11_land_106 : decode cX11_land 106 = .ok (.iconst 1, 1) := by decide +kernel
theorem dX11_land_107 : decode cX11_land 107 = .ok (.aload_n 0, 1) := by decide +kernel
theorem dX11_land_108 : decode cX11_land 108 = .ok (.getfield 136, 3) := by decide +kernel
theorem dX11_land_111 : decode cX11_land 111 = .ok (.iastore, 1) := by decide +kernel
theorem dX11_land_112 : decode cX11_land 112 = .ok (.aload_n 0, 1) := by decide +kernel
theorem dX11_land_113 : decode cX11_land 113 = .ok (.dup, 1) := by decide +kernel
theorem dX11_land_114 : decode cX11_land 114 = .ok (.getfield 136, 3) := by decide +kernel
theorem dX11_land_117 : decode cX11_land 117 = .ok (.iconst 1, 1) := by decide +kernel
theorem dX11_land_118 : decode cX11_land 118 = .ok (.iadd, 1) := by decide +kernel
theorem dX11_land_119 : decode cX11_land 119 = .ok (.putfield 136, 3) := by decide +kernel
theorem dX11_land_122 : decode cX11_land 122 = .ok (.aload_n 0, 1) := by decide +kernel
theorem dX11_land_123 : decode cX11_land 123 = .ok (.getfield 9, 3) := by decide +kernel
theorem dX11_land_126 : decode cX11_land 126 = .ok (.iconst 1, 1) := by decide +kernel
theorem dX11_land_127 : decode cX11_land 127 = .ok (.iaload, 1) := by decide +kernel
theorem dX11_land_128 : decode cX11_land 128 = .ok (.ireturn, 1) := by decide +kernel
theorem dX11_onBeats_0 : decode cX11_onBeats 0 = .ok (.aload_n 0, 1) := by decide +kernel
theorem dX11_onBeats_1 : decode cX11_onBeats 1 = .ok (.getfield 9, 3) := by decide +kernel
theorem dX11_onBeats_4 : decode cX11_onBeats 4 = .ok (.iconst 1, 1) := by decide +kernel
theorem dX11_onBeats_5 : decode cX11_onBeats 5 = .ok (.iaload, 1) := by decide +kernel
theorem dX11_onBeats_6 : decode cX11_onBeats 6 = .ok (.ifCond .ge 7, 3) := by decide +kernel
theorem dX11_onBeats_9 : decode cX11_onBeats 9 = .ok (.iconst 2, 1) := by decide +kernel
theorem dX11_onBeats_10 : decode cX11_onBeats 10 = .ok (.goto 14, 3) := by decide +kernel
theorem dX11_onBeats_13 : decode cX11_onBeats 13 = .ok (.aload_n 0, 1) := by decide +kernel
theorem dX11_onBeats_14 : decode cX11_onBeats 14 = .ok (.getfield 16, 3) := by decide +kernel
theorem dX11_onBeats_17 : decode cX11_onBeats 17 = .ok (.aload_n 0, 1) := by decide +kernel
theorem dX11_onBeats_18 : decode cX11_onBeats 18 = .ok (.getfield 9, 3) := by decide +kernel
theorem dX11_onBeats_21 : decode cX11_onBeats 21 = .ok (.iconst 1, 1) := by decide +kernel
theorem dX11_onBeats_22 : decode cX11_onBeats 22 = .ok (.iaload, 1) := by decide +kernel
theorem dX11_onBeats_23 : decode cX11_onBeats 23 = .ok (.iaload, 1) := by decide +kernel
theorem dX11_onBeats_24 : decode cX11_onBeats 24 = .ok (.ireturn, 1) := by decide +kernel
theorem dX11_beats_0 : decode cX11_beats 0 = .ok (.aload_n 0, 1) := by decide +kernel
theorem dX11_beats_1 : decode cX11_beats 1 = .ok (.invokevirtual 145, 3) := by decide +kernel
theorem dX11_beats_4 : decode cX11_beats 4 = .ok (.aload_n 0, 1) := by decide +kernel
theorem dX11_beats_5 : decode cX11_beats 5 = .ok (.getfield 9, 3) := by decide +kernel
theorem dX11_beats_8 : decode cX11_beats 8 = .ok (.iconst 1, 1) := by decide +kernel
theorem dX11_beats_9 : decode cX11_beats 9 = .ok (.iaload, 1) := by decide +kernel
theorem dX11_beats_10 : decode cX11_beats 10 = .ok (.ifCond .ge 7, 3) := by decide +kernel
theorem dX11_beats_13 : decode cX11_beats 13 = .ok (.iconst 1, 1) := by decide +kernel
theorem dX11_beats_14 : decode cX11_beats 14 = .ok (.goto 14, 3) := by decide +kernel
theorem dX11_beats_17 : decode cX11_beats 17 = .ok (.aload_n 0, 1) := by decide +kernel
theorem dX11_beats_18 : decode cX11_beats 18 = .ok (.getfield 19, 3) := by decide +kernel
theorem dX11_beats_21 : decode cX11_beats 21 = .ok (.aload_n 0, 1) := by decide +kernel
theorem dX11_beats_22 : decode cX11_beats 22 = .ok (.getfield 9, 3) := by decide +kernel
theorem dX11_beats_25 : decode cX11_beats 25 = .ok (.iconst 1, 1) := by decide +kernel
theorem dX11_beats_26 : decode cX11_beats 26 = .ok (.iaload, 1) := by decide +kernel
theorem dX11_beats_27 : decode cX11_beats 27 = .ok (.iaload, 1) := by decide +kernel
theorem dX11_beats_28 : decode cX11_beats 28 = .ok (.iadd, 1) := by decide +kernel
theorem dX11_beats_29 : decode cX11_beats 29 = .ok (.ireturn, 1) := by decide +kernel
theorem dX11_told_0 : decode cX11_told 0 = .ok (.iload_n 1, 1) := by decide +kernel
theorem dX11_told_1 : decode cX11_told 1 = .ok (.ifCond .ne 10, 3) := by decide +kernel
theorem dX11_told_4 : decode cX11_told 4 = .ok (.aload_n 0, 1) := by decide +kernel
theorem dX11_told_5 : decode cX11_told 5 = .ok (.invokevirtual 145, 3) := by decide +kernel
theorem dX11_told_8 : decode cX11_told 8 = .ok (.goto 21, 3) := by decide +kernel
theorem dX11_told_11 : decode cX11_told 11 = .ok (.iload_n 1, 1) := by decide +kernel
theorem dX11_told_12 : decode cX11_told 12 = .ok (.iconst 1, 1) := by decide +kernel
theorem dX11_told_13 : decode cX11_told 13 = .ok (.if_icmp .ne 15, 3) := by decide +kernel
theorem dX11_told_16 : decode cX11_told 16 = .ok (.aload_n 0, 1) := by decide +kernel
theorem dX11_told_17 : decode cX11_told 17 = .ok (.invokevirtual 148, 3) := by decide +kernel
theorem dX11_told_20 : decode cX11_told 20 = .ok (.aload_n 0, 1) := by decide +kernel
theorem dX11_told_21 : decode cX11_told 21 = .ok (.invokevirtual 145, 3) := by decide +kernel
theorem dX11_told_24 : decode cX11_told 24 = .ok (.isub, 1) := by decide +kernel
theorem dX11_told_25 : decode cX11_told 25 = .ok (.goto 4, 3) := by decide +kernel
theorem dX11_told_28 : decode cX11_told 28 = .ok (.iconst (-1), 1) := by decide +kernel
theorem dX11_told_29 : decode cX11_told 29 = .ok (.ireturn, 1) := by decide +kernel
theorem dX11_isMarked_0 : decode cX11_isMarked 0 = .ok (.aload_n 0, 1) := by decide +kernel
theorem dX11_isMarked_1 : decode cX11_isMarked 1 = .ok (.getfield 9, 3) := by decide +kernel
theorem dX11_isMarked_4 : decode cX11_isMarked 4 = .ok (.iconst 1, 1) := by decide +kernel
theorem dX11_isMarked_5 : decode cX11_isMarked 5 = .ok (.iaload, 1) := by decide +kernel
theorem dX11_isMarked_6 : decode cX11_isMarked 6 = .ok (.ifCond .lt 31, 3) := by decide +kernel
theorem dX11_isMarked_9 : decode cX11_isMarked 9 = .ok (.aload_n 0, 1) := by decide +kernel
theorem dX11_isMarked_10 : decode cX11_isMarked 10 = .ok (.getfield 22, 3) := by decide +kernel
theorem dX11_isMarked_13 : decode cX11_isMarked 13 = .ok (.bipush 36, 2) := by decide +kernel
theorem dX11_isMarked_15 : decode cX11_isMarked 15 = .ok (.aload_n 0, 1) := by decide +kernel
theorem dX11_isMarked_16 : decode cX11_isMarked 16 = .ok (.getfield 9, 3) := by decide +kernel
theorem dX11_isMarked_19 : decode cX11_isMarked 19 = .ok (.iconst 1, 1) := by decide +kernel
theorem dX11_isMarked_20 : decode cX11_isMarked 20 = .ok (.iaload, 1) := by decide +kernel
theorem dX11_isMarked_21 : decode cX11_isMarked 21 = .ok (.imul, 1) := by decide +kernel
theorem dX11_isMarked_22 : decode cX11_isMarked 22 = .ok (.iload_n 1, 1) := by decide +kernel
theorem dX11_isMarked_23 : decode cX11_isMarked 23 = .ok (.iadd, 1) := by decide +kernel
theorem dX11_isMarked_24 : decode cX11_isMarked 24 = .ok (.iaload, 1) := by decide +kernel
theorem dX11_isMarked_25 : decode cX11_isMarked 25 = .ok (.iload_n 2, 1) := by decide +kernel
theorem dX11_isMarked_26 : decode cX11_isMarked 26 = .ok (.ishr, 1) := by decide +kernel
theorem dX11_isMarked_27 : decode cX11_isMarked 27 = .ok (.iconst 1, 1) := by decide +kernel
theorem dX11_isMarked_28 : decode cX11_isMarked 28 = .ok (.iand, 1) := by decide +kernel
theorem dX11_isMarked_29 : decode cX11_isMarked 29 = .ok (.iconst 1, 1) := by decide +kernel
theorem dX11_isMarked_30 : decode cX11_isMarked 30 = .ok (.if_icmp .ne 7, 3) := by decide +kernel
theorem dX11_isMarked_33 : decode cX11_isMarked 33 = .ok (.iconst 1, 1) := by decide +kernel
theorem dX11_isMarked_34 : decode cX11_isMarked 34 = .ok (.goto 4, 3) := by decide +kernel
theorem dX11_isMarked_37 : decode cX11_isMarked 37 = .ok (.iconst 0, 1) := by decide +kernel
theorem dX11_isMarked_38 : decode cX11_isMarked 38 = .ok (.ireturn, 1) := by decide +kernel
theorem dX11_ground_0 : decode cX11_ground 0 = .ok (.iload_n 1, 1) := by decide +kernel
theorem dX11_ground_1 : decode cX11_ground 1 = .ok (.invokestatic 151, 3) := by decide +kernel
theorem dX11_ground_4 : decode cX11_ground 4 = .ok (.ifCond .eq 11, 3) := by decide +kernel
theorem dX11_ground_7 : decode cX11_ground 7 = .ok (.iload_n 2, 1) := by decide +kernel
theorem dX11_ground_8 : decode cX11_ground 8 = .ok (.iconst 4, 1) := by decide +kernel
theorem dX11_ground_9 : decode cX11_ground 9 = .ok (.invokestatic 66, 3) := by decide +kernel
theorem dX11_ground_12 : decode cX11_ground 12 = .ok (.ifCond .ne 7, 3) := by decide +kernel
theorem dX11_ground_15 : decode cX11_ground 15 = .ok (.iconst (-1), 1) := by decide +kernel
theorem dX11_ground_16 : decode cX11_ground 16 = .ok (.goto 17, 3) := by decide +kernel
theorem dX11_ground_19 : decode cX11_ground 19 = .ok (.aload_n 0, 1) := by decide +kernel
theorem dX11_ground_20 : decode cX11_ground 20 = .ok (.iload_n 1, 1) := by decide +kernel
theorem dX11_ground_21 : decode cX11_ground 21 = .ok (.iload_n 2, 1) := by decide +kernel
theorem dX11_ground_22 : decode cX11_ground 22 = .ok (.invokevirtual 155, 3) := by decide +kernel
theorem dX11_ground_25 : decode cX11_ground 25 = .ok (.ifCond .eq 7, 3) := by decide +kernel
theorem dX11_ground_28 : decode cX11_ground 28 = .ok (.iconst 1, 1) := by decide +kernel
theorem dX11_ground_29 : decode cX11_ground 29 = .ok (.goto 4, 3) := by decide +kernel
theorem dX11_ground_32 : decode cX11_ground 32 = .ok (.iconst 0, 1) := by decide +kernel
theorem dX11_ground_33 : decode cX11_ground 33 = .ok (.ireturn, 1) := by decide +kernel
theorem dX11_walker_0 : decode cX11_walker 0 = .ok (.iload_n 1, 1) := by decide +kernel
theorem dX11_walker_1 : decode cX11_walker 1 = .ok (.bipush 7, 2) := by decide +kernel
theorem dX11_walker_3 : decode cX11_walker 3 = .ok (.invokestatic 66, 3) := by decide +kernel
theorem dX11_walker_6 : decode cX11_walker 6 = .ok (.ifCond .eq 19, 3) := by decide +kernel
theorem dX11_walker_9 : decode cX11_walker 9 = .ok (.iload_n 3, 1) := by decide +kernel
theorem dX11_walker_10 : decode cX11_walker 10 = .ok (.invokestatic 151, 3) := by decide +kernel
theorem dX11_walker_13 : decode cX11_walker 13 = .ok (.ifCond .eq 12, 3) := by decide +kernel
theorem dX11_walker_16 : decode cX11_walker 16 = .ok (.iload 4, 2) := by decide +kernel
theorem dX11_walker_18 : decode cX11_walker 18 = .ok (.iconst 4, 1) := by decide +kernel
theorem dX11_walker_19 : decode cX11_walker 19 = .ok (.invokestatic 66, 3) := by decide +kernel
theorem dX11_walker_22 : decode cX11_walker 22 = .ok (.ifCond .ne 5, 3) := by decide +kernel
theorem dX11_walker_25 : decode cX11_walker 25 = .ok (.iconst (-1), 1) := by decide +kernel
theorem dX11_walker_26 : decode cX11_walker 26 = .ok (.ireturn, 1) := by decide +kernel
theorem dX11_walker_27 : decode cX11_walker 27 = .ok (.iload_n 2, 1) := by decide +kernel
theorem dX11_walker_28 : decode cX11_walker 28 = .ok (.ifCond .lt 9, 3) := by decide +kernel
theorem dX11_walker_31 : decode cX11_walker 31 = .ok (.iload_n 2, 1) := by decide +kernel
theorem dX11_walker_32 : decode cX11_walker 32 = .ok (.bipush 9, 2) := by decide +kernel
theorem dX11_walker_34 : decode cX11_walker 34 = .ok (.if_icmp .le 6, 3) := by decide +kernel
theorem dX11_walker_37 : decode cX11_walker 37 = .ok (.bipush (-2), 2) := by decide +kernel
theorem dX11_walker_39 : decode cX11_walker 39 = .ok (.ireturn, 1) := by decide +kernel
theorem dX11_walker_40 : decode cX11_walker 40 = .ok (.aload_n 0, 1) := by decide +kernel
theorem dX11_walker_41 : decode cX11_walker 41 = .ok (.iload_n 3, 1) := by decide +kernel
theorem dX11_walker_42 : decode cX11_walker 42 = .ok (.iconst 0, 1) := by decide +kernel
theorem dX11_walker_43 : decode cX11_walker 43 = .ok (.invokevirtual 155, 3) := by decide +kernel
theorem dX11_walker_46 : decode cX11_walker 46 = .ok (.ifCond .eq 6, 3) := by decide +kernel
theorem dX11_walker_49 : decode cX11_walker 49 = .ok (.bipush (-3), 2) := by decide +kernel
theorem dX11_walker_51 : decode cX11_walker 51 = .ok (.ireturn, 1) := by decide +kernel
theorem dX11_walker_52 : decode cX11_walker 52 = .ok (.aload_n 0, 1) := by decide +kernel
theorem dX11_walker_53 : decode cX11_walker 53 = .ok (.getfield 9, 3) := by decide +kernel
theorem dX11_walker_56 : decode cX11_walker 56 = .ok (.iconst 0, 1) := by decide +kernel
theorem dX11_walker_57 : decode cX11_walker 57 = .ok (.iaload, 1) := by decide +kernel
theorem dX11_walker_58 : decode cX11_walker 58 = .ok (.bipush 6, 2) := by decide +kernel
theorem dX11_walker_60 : decode cX11_walker 60 = .ok (.if_icmp .ne 6, 3) := by decide +kernel
theorem dX11_walker_63 : decode cX11_walker 63 = .ok (.bipush (-4), 2) := by decide +kernel
theorem dX11_walker_65 : decode cX11_walker 65 = .ok (.ireturn, 1) := by decide +kernel
theorem dX11_walker_66 : decode cX11_walker 66 = .ok (.aload_n 0, 1) := by decide +kernel
theorem dX11_walker_67 : decode cX11_walker 67 = .ok (.getfield 9, 3) := by decide +kernel
theorem dX11_walker_70 : decode cX11_walker 70 = .ok (.iconst 0, 1) := by decide +kernel
theorem dX11_walker_71 : decode cX11_walker 71 = .ok (.iaload, 1) := by decide +kernel
theorem dX11_walker_72 : decode cX11_walker 72 = .ok (.istore 5, 2) := by decide +kernel
theorem dX11_walker_74 : decode cX11_walker 74 = .ok (.aload_n 0, 1) := by decide +kernel
theorem dX11_walker_75 : decode cX11_walker 75 = .ok (.getfield 9, 3) := by decide +kernel
theorem dX11_walker_78 : decode cX11_walker 78 = .ok (.iconst 0, 1) := by decide +kernel
theorem dX11_walker_79 : decode cX11_walker 79 = .ok (.dup2, 1) := by decide +kernel
theorem dX11_walker_80 : decode cX11_walker 80 = .ok (.iaload, 1) := by decide +kernel
theorem dX11_walker_81 : decode cX11_walker 81 = .ok (.iconst 1, 1) := by decide +kernel
theorem dX11_walker_82 : decode cX11_walker 82 = .ok (.iadd, 1) := by decide +kernel
theorem dX11_walker_83 : decode cX11_walker 83 = .ok (.iastore, 1) := by decide +kernel
theorem dX11_walker_84 : decode cX11_walker 84 = .ok (.aload_n 0, 1) := by decide +kernel
theorem dX11_walker_85 : decode cX11_walker 85 = .ok (.iload 5, 2) := by decide +kernel
theorem dX11_walker_87 : decode cX11_walker 87 = .ok (.iconst 0, 1) := by decide +kernel
theorem dX11_walker_88 : decode cX11_walker 88 = .ok (.iload_n 1, 1) := by decide +kernel
theorem dX11_walker_89 : decode cX11_walker 89 = .ok (.invokevirtual 158, 3) := by decide +kernel
theorem dX11_walker_92 : decode cX11_walker 92 = .ok (.aload_n 0, 1) := by decide +kernel
theorem dX11_walker_93 : decode cX11_walker 93 = .ok (.iload 5, 2) := by decide +kernel
theorem dX11_walker_95 : decode cX11_walker 95 = .ok (.iconst 1, 1) := by decide +kernel
theorem dX11_walker_96 : decode cX11_walker 96 = .ok (.iload_n 2, 1) := by decide +kernel
theorem dX11_walker_97 : decode cX11_walker 97 = .ok (.invokevirtual 158, 3) := by decide +kernel
theorem dX11_walker_100 : decode cX11_walker 100 = .ok (.aload_n 0, 1) := by decide +kernel
theorem dX11_walker_101 : decode cX11_walker 101 = .ok (.iload 5, 2) := by decide +kernel
theorem dX11_walker_103 : decode cX11_walker 103 = .ok (.iconst 2, 1) := by decide +kernel
theorem dX11_walker_104 : decode cX11_walker 104 = .ok (.iload_n 3, 1) := by decide +kernel
theorem dX11_walker_105 : decode cX11_walker 105 = .ok (.invokevirtual 158, 3) := by decide +kernel
theorem dX11_walker_108 : decode cX11_walker 108 = .ok (.aload_n 0, 1) := by decide +kernel
theorem dX11_walker_109 : decode cX11_walker 109 = .ok (.iload 5, 2) := by decide +kernel
theorem dX11_walker_111 : decode cX11_walker 111 = .ok (.iconst 3, 1) := by decide +kernel
theorem dX11_walker_112 : decode cX11_walker 112 = .ok (.iload 4, 2) := by decide +kernel
theorem dX11_walker_114 : decode cX11_walker 114 = .ok (.invokevirtual 158, 3) := by decide +kernel
theorem dX11_walker_117 : decode cX11_walker 117 = .ok (.aload_n 0, 1) := by decide +kernel
theorem dX11_walker_118 : decode cX11_walker 118 = .ok (.iload 5, 2) := by decide +kernel
theorem dX11_walker_120 : decode cX11_walker 120 = .ok (.iconst 4, 1) := by decide +kernel
theorem dX11_walker_121 : decode cX11_walker 121 = .ok (.iconst 0, 1) := by decide +kernel
theorem dX11_walker_122 : decode cX11_walker 122 = .ok (.invokevirtual 158, 3) := by decide +kernel
theorem dX11_walker_125 : decode cX11_walker 125 = .ok (.aload_n 0, 1) := by decide +kernel
theorem dX11_walker_126 : decode cX11_walker 126 = .ok (.iload 5, 2) := by decide +kernel
theorem dX11_walker_128 : decode cX11_walker 128 = .ok (.iconst 5, 1) := by decide +kernel
theorem dX11_walker_129 : decode cX11_walker 129 = .ok (.iload_n 3, 1) := by decide +kernel
theorem dX11_walker_130 : decode cX11_walker 130 = .ok (.invokevirtual 158, 3) := by decide +kernel
theorem dX11_walker_133 : decode cX11_walker 133 = .ok (.aload_n 0, 1) := by decide +kernel
theorem dX11_walker_134 : decode cX11_walker 134 = .ok (.iload 5, 2) := by decide +kernel
theorem dX11_walker_136 : decode cX11_walker 136 = .ok (.bipush 6, 2) := by decide +kernel
theorem dX11_walker_138 : decode cX11_walker 138 = .ok (.iconst 0, 1) := by decide +kernel
theorem dX11_walker_139 : decode cX11_walker 139 = .ok (.invokevirtual 158, 3) := by decide +kernel
theorem dX11_walker_142 : decode cX11_walker 142 = .ok (.iload 5, 2) := by decide +kernel
theorem dX11_walker_144 : decode cX11_walker 144 = .ok (.ireturn, 1) := by decide +kernel
theorem dX11_beatOf_0 : decode cX11_beatOf 0 = .ok (.aload_n 0, 1) := by decide +kernel
theorem dX11_beatOf_1 : decode cX11_beatOf 1 = .ok (.iload_n 1, 1) := by decide +kernel
theorem dX11_beatOf_2 : decode cX11_beatOf 2 = .ok (.iconst 4, 1) := by decide +kernel
theorem dX11_beatOf_3 : decode cX11_beatOf 3 = .ok (.invokevirtual 162, 3) := by decide +kernel
theorem dX11_beatOf_6 : decode cX11_beatOf 6 = .ok (.aload_n 0, 1) := by decide +kernel
theorem dX11_beatOf_7 : decode cX11_beatOf 7 = .ok (.invokevirtual 148, 3) := by decide +kernel
theorem dX11_beatOf_10 : decode cX11_beatOf 10 = .ok (.irem, 1) := by decide +kernel
theorem dX11_beatOf_11 : decode cX11_beatOf 11 = .ok (.ireturn, 1) := by decide +kernel
theorem dX11_of_0 : decode cX11_of 0 = .ok (.aload_n 0, 1) := by decide +kernel
theorem dX11_of_1 : decode cX11_of 1 = .ok (.iload_n 1, 1) := by decide +kernel
theorem dX11_of_2 : decode cX11_of 2 = .ok (.invokevirtual 165, 3) := by decide +kernel
theorem dX11_of_5 : decode cX11_of 5 = .ok (.ifCond .eq 12, 3) := by decide +kernel
theorem dX11_of_8 : decode cX11_of 8 = .ok (.iload_n 2, 1) := by decide +kernel
theorem dX11_of_9 : decode cX11_of 9 = .ok (.bipush 7, 2) := by decide +kernel
theorem dX11_of_11 : decode cX11_of 11 = .ok (.invokestatic 66, 3) := by decide +kernel
theorem dX11_of_14 : decode cX11_of 14 = .ok (.ifCond .ne 7, 3) := by decide +kernel
theorem dX11_of_17 : decode cX11_of 17 = .ok (.iconst (-1), 1) := by decide +kernel
theorem dX11_of_18 : decode cX11_of 18 = .ok (.goto 22, 3) := by decide +kernel
theorem dX11_of_21 : decode cX11_of 21 = .ok (.iload_n 2, 1) := by decide +kernel
theorem dX11_of_22 : decode cX11_of 22 = .ok (.iconst 4, 1) := by decide +kernel
theorem dX11_of_23 : decode cX11_of 23 = .ok (.if_icmp .ne 11, 3) := by decide +kernel
theorem dX11_of_26 : decode cX11_of 26 = .ok (.aload_n 0, 1) := by decide +kernel
theorem dX11_of_27 : decode cX11_of 27 = .ok (.iload_n 1, 1) := by decide +kernel
theorem dX11_of_28 : decode cX11_of 28 = .ok (.invokevirtual 168, 3) := by decide +kernel
theorem dX11_of_31 : decode cX11_of 31 = .ok (.goto 9, 3) := by decide +kernel
theorem dX11_of_34 : decode cX11_of 34 = .ok (.aload_n 0, 1) := by decide +kernel
theorem dX11_of_35 : decode cX11_of 35 = .ok (.iload_n 1, 1) := by decide +kernel
theorem dX11_of_36 : decode cX11_of 36 = .ok (.iload_n 2, 1) := by decide +kernel
theorem dX11_of_37 : decode cX11_of 37 = .ok (.invokevirtual 162, 3) := by decide +kernel
theorem dX11_of_40 : decode cX11_of 40 = .ok (.ireturn, 1) := by decide +kernel
theorem dX11_put_0 : decode cX11_put 0 = .ok (.aload_n 0, 1) := by decide +kernel
theorem dX11_put_1 : decode cX11_put 1 = .ok (.iload_n 1, 1) := by decide +kernel
theorem dX11_put_2 : decode cX11_put 2 = .ok (.invokevirtual 165, 3) := by decide +kernel
theorem dX11_put_5 : decode cX11_put 5 = .ok (.ifCond .eq 18, 3) := by decide +kernel
theorem dX11_put_8 : decode cX11_put 8 = .ok (.iload_n 2, 1) := by decide +kernel
theorem dX11_put_9 : decode cX11_put 9 = .ok (.invokestatic 151, 3) := by decide +kernel
theorem dX11_put_12 : decode cX11_put 12 = .ok (.ifCond .eq 11, 3) := by decide +kernel
theorem dX11_put_15 : decode cX11_put 15 = .ok (.iload_n 3, 1) := by decide +kernel
theorem dX11_put_16 : decode cX11_put 16 = .ok (.iconst 4, 1) := by decide +kernel
theorem dX11_put_17 : decode cX11_put 17 = .ok (.invokestatic 66, 3) := by decide +kernel
theorem dX11_put_20 : decode cX11_put 20 = .ok (.ifCond .ne 5, 3) := by decide +kernel
theorem dX11_put_23 : decode cX11_put 23 = .ok (.iconst (-1), 1) := by decide +kernel
theorem dX11_put_24 : decode cX11_put 24 = .ok (.ireturn, 1) := by decide +kernel
theorem dX11_put_25 : decode cX11_put 25 = .ok (.iload 4, 2) := by decide +kernel
theorem dX11_put_27 : decode cX11_put 27 = .ok (.ifCond .lt 10, 3) := by decide +kernel
theorem dX11_put_30 : decode cX11_put 30 = .ok (.iload 4, 2) := by decide +kernel
theorem dX11_put_32 : decode cX11_put 32 = .ok (.bipush 7, 2) := by decide +kernel
theorem dX11_put_34 : decode cX11_put 34 = .ok (.if_icmp .le 6, 3) := by decide +kernel
theorem dX11_put_37 : decode cX11_put 37 = .ok (.bipush (-2), 2) := by decide +kernel
theorem dX11_put_39 : decode cX11_put 39 = .ok (.ireturn, 1) := by decide +kernel
theorem dX11_put_40 : decode cX11_put 40 = .ok (.aload_n 0, 1) := by decide +kernel
theorem dX11_put_41 : decode cX11_put 41 = .ok (.iload_n 2, 1) := by decide +kernel
theorem dX11_put_42 : decode cX11_put 42 = .ok (.iconst 0, 1) := by decide +kernel
theorem dX11_put_43 : decode cX11_put 43 = .ok (.invokevirtual 155, 3) := by decide +kernel
theorem dX11_put_46 : decode cX11_put 46 = .ok (.ifCond .eq 6, 3) := by decide +kernel
theorem dX11_put_49 : decode cX11_put 49 = .ok (.bipush (-3), 2) := by decide +kernel
theorem dX11_put_51 : decode cX11_put 51 = .ok (.ireturn, 1) := by decide +kernel
theorem dX11_put_52 : decode cX11_put 52 = .ok (.aload_n 0, 1) := by decide +kernel
theorem dX11_put_53 : decode cX11_put 53 = .ok (.iload_n 1, 1) := by decide +kernel
theorem dX11_put_54 : decode cX11_put 54 = .ok (.iconst 2, 1) := by decide +kernel
theorem dX11_put_55 : decode cX11_put 55 = .ok (.invokevirtual 162, 3) := by decide +kernel
theorem dX11_put_58 : decode cX11_put 58 = .ok (.istore 5, 2) := by decide +kernel
theorem dX11_put_60 : decode cX11_put 60 = .ok (.aload_n 0, 1) := by decide +kernel
theorem dX11_put_61 : decode cX11_put 61 = .ok (.iload_n 1, 1) := by decide +kernel
theorem dX11_put_62 : decode cX11_put 62 = .ok (.iconst 2, 1) := by decide +kernel
theorem dX11_put_63 : decode cX11_put 63 = .ok (.iload_n 2, 1) := by decide +kernel
theorem dX11_put_64 : decode cX11_put 64 = .ok (.invokevirtual 158, 3) := by decide +kernel
theorem dX11_put_67 : decode cX11_put 67 = .ok (.aload_n 0, 1) := by decide +kernel
theorem dX11_put_68 : decode cX11_put 68 = .ok (.iload_n 1, 1) := by decide +kernel
theorem dX11_put_69 : decode cX11_put 69 = .ok (.iconst 3, 1) := by decide +kernel
theorem dX11_put_70 : decode cX11_put 70 = .ok (.iload_n 3, 1) := by decide +kernel
theorem dX11_put_71 : decode cX11_put 71 = .ok (.invokevirtual 158, 3) := by decide +kernel
theorem dX11_put_74 : decode cX11_put 74 = .ok (.aload_n 0, 1) := by decide +kernel
theorem dX11_put_75 : decode cX11_put 75 = .ok (.iload_n 1, 1) := by decide +kernel
theorem dX11_put_76 : decode cX11_put 76 = .ok (.iconst 4, 1) := by decide +kernel
theorem dX11_put_77 : decode cX11_put 77 = .ok (.iload 4, 2) := by decide +kernel
theorem dX11_put_79 : decode cX11_put 79 = .ok (.invokevirtual 158, 3) := by decide +kernel
theorem dX11_put_82 : decode cX11_put 82 = .ok (.aload_n 0, 1) := by decide +kernel
theorem dX11_put_83 : decode cX11_put 83 = .ok (.iload_n 1, 1) := by decide +kernel
theorem dX11_put_84 : decode cX11_put 84 = .ok (.iconst 5, 1) := by decide +kernel
theorem dX11_put_85 : decode cX11_put 85 = .ok (.iload_n 2, 1) := by decide +kernel
theorem dX11_put_86 : decode cX11_put 86 = .ok (.invokevirtual 158, 3) := by decide +kernel
theorem dX11_put_89 : decode cX11_put 89 = .ok (.iload 5, 2) := by decide +kernel
theorem dX11_put_91 : decode cX11_put 91 = .ok (.ireturn, 1) := by decide +kernel
theorem dX11_beside_0 : decode cX11_beside 0 = .ok (.iload_n 1, 1) := by decide +kernel
theorem dX11_beside_1 : decode cX11_beside 1 = .ok (.tableswitch 73 0 2 #[27, 42, 58], 27) := by decide +kernel
theorem dX11_beside_28 : decode cX11_beside 28 = .ok (.iload_n 0, 1) := by decide +kernel
theorem dX11_beside_29 : decode cX11_beside 29 = .ok (.bipush 6, 2) := by decide +kernel
theorem dX11_beside_31 : decode cX11_beside 31 = .ok (.if_icmp .lt 10, 3) := by decide +kernel
theorem dX11_beside_34 : decode cX11_beside 34 = .ok (.iload_n 0, 1) := by decide +kernel
theorem dX11_beside_35 : decode cX11_beside 35 = .ok (.bipush 6, 2) := by decide +kernel
theorem dX11_beside_37 : decode cX11_beside 37 = .ok (.isub, 1) := by decide +kernel
theorem dX11_beside_38 : decode cX11_beside 38 = .ok (.goto 4, 3) := by decide +kernel
theorem dX11_beside_41 : decode cX11_beside 41 = .ok (.iconst (-1), 1) := by decide +kernel
theorem dX11_beside_42 : decode cX11_beside 42 = .ok (.ireturn, 1) := by decide +kernel
theorem dX11_beside_43 : decode cX11_beside 43 = .ok (.iload_n 0, 1) := by decide +kernel
theorem dX11_beside_44 : decode cX11_beside 44 = .ok (.bipush 6, 2) := by decide +kernel
theorem dX11_beside_46 : decode cX11_beside 46 = .ok (.irem, 1) := by decide +kernel
theorem dX11_beside_47 : decode cX11_beside 47 = .ok (.iconst 5, 1) := by decide +kernel
theorem dX11_beside_48 : decode cX11_beside 48 = .ok (.if_icmp .ge 9, 3) := by decide +kernel
theorem dX11_beside_51 : decode cX11_beside 51 = .ok (.iload_n 0, 1) := by decide +kernel
theorem dX11_beside_52 : decode cX11_beside 52 = .ok (.iconst 1, 1) := by decide +kernel
theorem dX11_beside_53 : decode cX11_beside 53 = .ok (.iadd, 1) := by decide +kernel
theorem dX11_beside_54 : decode cX11_beside 54 = .ok (.goto 4, 3) := by decide +kernel
theorem dX11_beside_57 : decode cX11_beside 57 = .ok (.iconst (-1), 1) := by decide +kernel
theorem dX11_beside_58 : decode cX11_beside 58 = .ok (.ireturn, 1) := by decide +kernel
theorem dX11_beside_59 : decode cX11_beside 59 = .ok (.iload_n 0, 1) := by decide +kernel
theorem dX11_beside_60 : decode cX11_beside 60 = .ok (.bipush 30, 2) := by decide +kernel
theorem dX11_beside_62 : decode cX11_beside 62 = .ok (.if_icmp .ge 10, 3) := by decide +kernel
theorem dX11_beside_65 : decode cX11_beside 65 = .ok (.iload_n 0, 1) := by decide +kernel
theorem dX11_beside_66 : decode cX11_beside 66 = .ok (.bipush 6, 2) := by decide +kernel
theorem dX11_beside_68 : decode cX11_beside 68 = .ok (.iadd, 1) := by decide +kernel
theorem dX11_beside_69 : decode cX11_beside 69 = .ok (.goto 4, 3) := by decide +kernel
theorem dX11_beside_72 : decode cX11_beside 72 = .ok (.iconst (-1), 1) := by decide +kernel
theorem dX11_beside_73 : decode cX11_beside 73 = .ok (.ireturn, 1) := by decide +kernel
theorem dX11_beside_74 : decode cX11_beside 74 = .ok (.iload_n 0, 1) := by decide +kernel
theorem dX11_beside_75 : decode cX11_beside 75 = .ok (.bipush 6, 2) := by decide +kernel
theorem dX11_beside_77 : decode cX11_beside 77 = .ok (.irem, 1) := by decide +kernel
theorem dX11_beside_78 : decode cX11_beside 78 = .ok (.ifCond .le 9, 3) := by decide +kernel
theorem dX11_beside_81 : decode cX11_beside 81 = .ok (.iload_n 0, 1) := by decide +kernel
theorem dX11_beside_82 : decode cX11_beside 82 = .ok (.iconst 1, 1) := by decide +kernel
theorem dX11_beside_83 : decode cX11_beside 83 = .ok (.isub, 1) := by decide +kernel
theorem dX11_beside_84 : decode cX11_beside 84 = .ok (.goto 4, 3) := by decide +kernel
theorem dX11_beside_87 : decode cX11_beside 87 = .ok (.iconst (-1), 1) := by decide +kernel
theorem dX11_beside_88 : decode cX11_beside 88 = .ok (.ireturn, 1) := by decide +kernel
theorem dX11_goesOn_0 : decode cX11_goesOn 0 = .ok (.iload_n 1, 1) := by decide +kernel
theorem dX11_goesOn_1 : decode cX11_goesOn 1 = .ok (.iload_n 3, 1) := by decide +kernel
theorem dX11_goesOn_2 : decode cX11_goesOn 2 = .ok (.invokestatic 171, 3) := by decide +kernel
theorem dX11_goesOn_5 : decode cX11_goesOn 5 = .ok (.istore 4, 2) := by decide +kernel
theorem dX11_goesOn_7 : decode cX11_goesOn 7 = .ok (.iload 4, 2) := by decide +kernel
theorem dX11_goesOn_9 : decode cX11_goesOn 9 = .ok (.ifCond .lt 32, 3) := by decide +kernel
theorem dX11_goesOn_12 : decode cX11_goesOn 12 = .ok (.aload_n 0, 1) := by decide +kernel
theorem dX11_goesOn_13 : decode cX11_goesOn 13 = .ok (.iload 4, 2) := by decide +kernel
theorem dX11_goesOn_15 : decode cX11_goesOn 15 = .ok (.iconst 0, 1) := by decide +kernel
theorem dX11_goesOn_16 : decode cX11_goesOn 16 = .ok (.invokevirtual 155, 3) := by decide +kernel
theorem dX11_goesOn_19 : decode cX11_goesOn 19 = .ok (.ifCond .ne 22, 3) := by decide +kernel
theorem dX11_goesOn_22 : decode cX11_goesOn 22 = .ok (.iload_n 3, 1) := by decide +kernel
theorem dX11_goesOn_23 : decode cX11_goesOn 23 = .ok (.iload_n 2, 1) := by decide +kernel
theorem dX11_goesOn_24 : decode cX11_goesOn 24 = .ok (.if_icmp .eq 13, 3) := by decide +kernel
theorem dX11_goesOn_27 : decode cX11_goesOn 27 = .ok (.aload_n 0, 1) := by decide +kernel
theorem dX11_goesOn_28 : decode cX11_goesOn 28 = .ok (.iload 4, 2) := by decide +kernel
theorem dX11_goesOn_30 : decode cX11_goesOn 30 = .ok (.iconst 1, 1) := by decide +kernel
theorem dX11_goesOn_31 : decode cX11_goesOn 31 = .ok (.invokevirtual 155, 3) := by decide +kernel
theorem dX11_goesOn_34 : decode cX11_goesOn 34 = .ok (.ifCond .ne 7, 3) := by decide +kernel
theorem dX11_goesOn_37 : decode cX11_goesOn 37 = .ok (.iconst 1, 1) := by decide +kernel
theorem dX11_goesOn_38 : decode cX11_goesOn 38 = .ok (.goto 4, 3) := by decide +kernel
theorem dX11_goesOn_41 : decode cX11_goesOn 41 = .ok (.iconst 0, 1) := by decide +kernel
theorem dX11_goesOn_42 : decode cX11_goesOn 42 = .ok (.ireturn, 1) := by decide +kernel
theorem dX11_backTo_0 : decode cX11_backTo 0 = .ok (.iload_n 1, 1) := by decide +kernel
theorem dX11_backTo_1 : decode cX11_backTo 1 = .ok (.iconst 2, 1) := by decide +kernel
theorem dX11_backTo_2 : decode cX11_backTo 2 = .ok (.if_icmp .eq 8, 3) := by decide +kernel
theorem dX11_backTo_5 : decode cX11_backTo 5 = .ok (.iload_n 1, 1) := by decide +kernel
theorem dX11_backTo_6 : decode cX11_backTo 6 = .ok (.iconst 5, 1) := by decide +kernel
theorem dX11_backTo_7 : decode cX11_backTo 7 = .ok (.if_icmp .ne 8, 3) := by decide +kernel
theorem dX11_backTo_10 : decode cX11_backTo 10 = .ok (.iload 4, 2) := by decide +kernel
theorem dX11_backTo_12 : decode cX11_backTo 12 = .ok (.goto 12, 3) := by decide +kernel
theorem dX11_backTo_15 : decode cX11_backTo 15 = .ok (.iload_n 2, 1) := by decide +kernel
theorem dX11_backTo_16 : decode cX11_backTo 16 = .ok (.iload_n 3, 1) := by decide +kernel
theorem dX11_backTo_17 : decode cX11_backTo 17 = .ok (.iconst 2, 1) := by decide +kernel
theorem dX11_backTo_18 : decode cX11_backTo 18 = .ok (.iadd, 1) := by decide +kernel
theorem dX11_backTo_19 : decode cX11_backTo 19 = .ok (.iconst 4, 1) := by decide +kernel
theorem dX11_backTo_20 : decode cX11_backTo 20 = .ok (.irem, 1) := by decide +kernel
theorem dX11_backTo_21 : decode cX11_backTo 21 = .ok (.invokestatic 171, 3) := by decide +kernel
theorem dX11_backTo_24 : decode cX11_backTo 24 = .ok (.ireturn, 1) := by decide +kernel
theorem dX11_goesBack_0 : decode cX11_goesBack 0 = .ok (.aload_n 0, 1) := by decide +kernel
theorem dX11_goesBack_1 : decode cX11_goesBack 1 = .ok (.iload_n 1, 1) := by decide +kernel
theorem dX11_goesBack_2 : decode cX11_goesBack 2 = .ok (.iload_n 2, 1) := by decide +kernel
theorem dX11_goesBack_3 : decode cX11_goesBack 3 = .ok (.iload_n 3, 1) := by decide +kernel
theorem dX11_goesBack_4 : decode cX11_goesBack 4 = .ok (.iload 4, 2) := by decide +kernel
theorem dX11_goesBack_6 : decode cX11_goesBack 6 = .ok (.invokevirtual 174, 3) := by decide +kernel
theorem dX11_goesBack_9 : decode cX11_goesBack 9 = .ok (.istore 5, 2) := by decide +kernel
theorem dX11_goesBack_11 : decode cX11_goesBack 11 = .ok (.iload 5, 2) := by decide +kernel
theorem dX11_goesBack_13 : decode cX11_goesBack 13 = .ok (.ifCond .lt 45, 3) := by decide +kernel
theorem dX11_goesBack_16 : decode cX11_goesBack 16 = .ok (.aload_n 0, 1) := by decide +kernel
theorem dX11_goesBack_17 : decode cX11_goesBack 17 = .ok (.iload 5, 2) := by decide +kernel
theorem dX11_goesBack_19 : decode cX11_goesBack 19 = .ok (.iconst 0, 1) := by decide +kernel
theorem dX11_goesBack_20 : decode cX11_goesBack 20 = .ok (.invokevirtual 155, 3) := by decide +kernel
theorem dX11_goesBack_23 : decode cX11_goesBack 23 = .ok (.ifCond .ne 35, 3) := by decide +kernel
theorem dX11_goesBack_26 : decode cX11_goesBack 26 = .ok (.aload_n 0, 1) := by decide +kernel
theorem dX11_goesBack_27 : decode cX11_goesBack 27 = .ok (.iload 5, 2) := by decide +kernel
theorem dX11_goesBack_29 : decode cX11_goesBack 29 = .ok (.iconst 1, 1) := by decide +kernel
theorem dX11_goesBack_30 : decode cX11_goesBack 30 = .ok (.invokevirtual 155, 3) := by decide +kernel
theorem dX11_goesBack_33 : decode cX11_goesBack 33 = .ok (.ifCond .ne 25, 3) := by decide +kernel
theorem dX11_goesBack_36 : decode cX11_goesBack 36 = .ok (.aload_n 0, 1) := by decide +kernel
theorem dX11_goesBack_37 : decode cX11_goesBack 37 = .ok (.iload_n 2, 1) := by decide +kernel
theorem dX11_goesBack_38 : decode cX11_goesBack 38 = .ok (.iconst 3, 1) := by decide +kernel
theorem dX11_goesBack_39 : decode cX11_goesBack 39 = .ok (.invokevirtual 155, 3) := by decide +kernel
theorem dX11_goesBack_42 : decode cX11_goesBack 42 = .ok (.ifCond .ne 16, 3) := by decide +kernel
theorem dX11_goesBack_45 : decode cX11_goesBack 45 = .ok (.aload_n 0, 1) := by decide +kernel
theorem dX11_goesBack_46 : decode cX11_goesBack 46 = .ok (.iload_n 2, 1) := by decide +kernel
theorem dX11_goesBack_47 : decode cX11_goesBack 47 = .ok (.iconst 2, 1) := by decide +kernel
theorem dX11_goesBack_48 : decode cX11_goesBack 48 = .ok (.invokevirtual 155, 3) := by decide +kernel
theorem dX11_goesBack_51 : decode cX11_goesBack 51 = .ok (.ifCond .ne 7, 3) := by decide +kernel
theorem dX11_goesBack_54 : decode cX11_goesBack 54 = .ok (.iconst 1, 1) := by decide +kernel
theorem dX11_goesBack_55 : decode cX11_goesBack 55 = .ok (.goto 4, 3) := by decide +kernel
theorem dX11_goesBack_58 : decode cX11_goesBack 58 = .ok (.iconst 0, 1) := by decide +kernel
theorem dX11_goesBack_59 : decode cX11_goesBack 59 = .ok (.ireturn, 1) := by decide +kernel
theorem dX11_mayOn_0 : decode cX11_mayOn 0 = .ok (.iload 4, 2) := by decide +kernel
theorem dX11_mayOn_2 : decode cX11_mayOn 2 = .ok (.iconst 2, 1) := by decide +kernel
theorem dX11_mayOn_3 : decode cX11_mayOn 3 = .ok (.iadd, 1) := by decide +kernel
theorem dX11_mayOn_4 : decode cX11_mayOn 4 = .ok (.iconst 4, 1) := by decide +kernel
theorem dX11_mayOn_5 : decode cX11_mayOn 5 = .ok (.irem, 1) := by decide +kernel
theorem dX11_mayOn_6 : decode cX11_mayOn 6 = .ok (.istore 6, 2) := by decide +kernel
theorem dX11_mayOn_8 : decode cX11_mayOn 8 = .ok (.iload_n 1, 1) := by decide +kernel
theorem dX11_mayOn_9 : decode cX11_mayOn 9 = .ok (.iconst 3, 1) := by decide +kernel
theorem dX11_mayOn_10 : decode cX11_mayOn 10 = .ok (.if_icmp .eq 9, 3) := by decide +kernel
theorem dX11_mayOn_13 : decode cX11_mayOn 13 = .ok (.iload_n 1, 1) := by decide +kernel
theorem dX11_mayOn_14 : decode cX11_mayOn 14 = .ok (.bipush 6, 2) := by decide +kernel
theorem dX11_mayOn_16 : decode cX11_mayOn 16 = .ok (.if_icmp .ne 17, 3) := by decide +kernel
theorem dX11_mayOn_19 : decode cX11_mayOn 19 = .ok (.iload 5, 2) := by decide +kernel
theorem dX11_mayOn_21 : decode cX11_mayOn 21 = .ok (.iload_n 2, 1) := by decide +kernel
theorem dX11_mayOn_22 : decode cX11_mayOn 22 = .ok (.iadd, 1) := by decide +kernel
theorem dX11_mayOn_23 : decode cX11_mayOn 23 = .ok (.iconst 2, 1) := by decide +kernel
theorem dX11_mayOn_24 : decode cX11_mayOn 24 = .ok (.irem, 1) := by decide +kernel
theorem dX11_mayOn_25 : decode cX11_mayOn 25 = .ok (.iconst 1, 1) := by decide +kernel
theorem dX11_mayOn_26 : decode cX11_mayOn 26 = .ok (.if_icmp .ne 7, 3) := by decide +kernel
theorem dX11_mayOn_29 : decode cX11_mayOn 29 = .ok (.iconst 1, 1) := by decide +kernel
theorem dX11_mayOn_30 : decode cX11_mayOn 30 = .ok (.goto 4, 3) := by decide +kernel
theorem dX11_mayOn_33 : decode cX11_mayOn 33 = .ok (.iconst 0, 1) := by decide +kernel
theorem dX11_mayOn_34 : decode cX11_mayOn 34 = .ok (.istore 7, 2) := by decide +kernel
theorem dX11_mayOn_36 : decode cX11_mayOn 36 = .ok (.iconst 0, 1) := by decide +kernel
theorem dX11_mayOn_37 : decode cX11_mayOn 37 = .ok (.istore 8, 2) := by decide +kernel
theorem dX11_mayOn_39 : decode cX11_mayOn 39 = .ok (.iconst 0, 1) := by decide +kernel
theorem dX11_mayOn_40 : decode cX11_mayOn 40 = .ok (.istore 9, 2) := by decide +kernel
theorem dX11_mayOn_42 : decode cX11_mayOn 42 = .ok (.iload 9, 2) := by decide +kernel
theorem dX11_mayOn_44 : decode cX11_mayOn 44 = .ok (.iconst 4, 1) := by decide +kernel
theorem dX11_mayOn_45 : decode cX11_mayOn 45 = .ok (.if_icmp .ge 85, 3) := by decide +kernel
theorem dX11_mayOn_48 : decode cX11_mayOn 48 = .ok (.iload_n 1, 1) := by decide +kernel
theorem dX11_mayOn_49 : decode cX11_mayOn 49 = .ok (.iconst 1, 1) := by decide +kernel
theorem dX11_mayOn_50 : decode cX11_mayOn 50 = .ok (.if_icmp .eq 41, 3) := by decide +kernel
theorem dX11_mayOn_53 : decode cX11_mayOn 53 = .ok (.iload_n 1, 1) := by decide +kernel
theorem dX11_mayOn_54 : decode cX11_mayOn 54 = .ok (.iconst 4, 1) := by decide +kernel
theorem dX11_mayOn_55 : decode cX11_mayOn 55 = .ok (.if_icmp .ne 14, 3) := by decide +kernel
theorem dX11_mayOn_58 : decode cX11_mayOn 58 = .ok (.iload 9, 2) := by decide +kernel
theorem dX11_mayOn_60 : decode cX11_mayOn 60 = .ok (.iload_n 2, 1) := by decide +kernel
theorem dX11_mayOn_61 : decode cX11_mayOn 61 = .ok (.iconst 4, 1) := by decide +kernel
theorem dX11_mayOn_62 : decode cX11_mayOn 62 = .ok (.irem, 1) := by decide +kernel
theorem dX11_mayOn_63 : decode cX11_mayOn 63 = .ok (.if_icmp .eq 32, 3) := by decide +kernel
theorem dX11_mayOn_66 : decode cX11_mayOn 66 = .ok (.goto 25, 3) := by decide +kernel
theorem dX11_mayOn_69 : decode cX11_mayOn 69 = .ok (.iload 7, 2) := by decide +kernel
theorem dX11_mayOn_71 : decode cX11_mayOn 71 = .ok (.ifCond .eq 13, 3) := by decide +kernel
theorem dX11_mayOn_74 : decode cX11_mayOn 74 = .ok (.iload 9, 2) := by decide +kernel
theorem dX11_mayOn_76 : decode cX11_mayOn 76 = .ok (.iload 4, 2) := by decide +kernel
theorem dX11_mayOn_78 : decode cX11_mayOn 78 = .ok (.if_icmp .ne 17, 3) := by decide +kernel
theorem dX11_mayOn_81 : decode cX11_mayOn 81 = .ok (.goto 10, 3) := by decide +kernel
theorem dX11_mayOn_84 : decode cX11_mayOn 84 = .ok (.iload 9, 2) := by decide +kernel
theorem dX11_mayOn_86 : decode cX11_mayOn 86 = .ok (.iload 6, 2) := by decide +kernel
theorem dX11_mayOn_88 : decode cX11_mayOn 88 = .ok (.if_icmp .eq 7, 3) := by decide +kernel
theorem dX11_mayOn_91 : decode cX11_mayOn 91 = .ok (.iconst 1, 1) := by decide +kernel
theorem dX11_mayOn_92 : decode cX11_mayOn 92 = .ok (.goto 4, 3) := by decide +kernel
theorem dX11_mayOn_95 : decode cX11_mayOn 95 = .ok (.iconst 0, 1) := by decide +kernel
theorem dX11_mayOn_96 : decode cX11_mayOn 96 = .ok (.istore 10, 2) := by decide +kernel
theorem dX11_mayOn_98 : decode cX11_mayOn 98 = .ok (.iload 10, 2) := by decide +kernel
theorem dX11_mayOn_100 : decode cX11_mayOn 100 = .ok (.ifCond .eq 24, 3) := by decide +kernel
theorem dX11_mayOn_103 : decode cX11_mayOn 103 = .ok (.aload_n 0, 1) := by decide +kernel
theorem dX11_mayOn_104 : decode cX11_mayOn 104 = .ok (.iload_n 3, 1) := by decide +kernel
theorem dX11_mayOn_105 : decode cX11_mayOn 105 = .ok (.iload 4, 2) := by decide +kernel
theorem dX11_mayOn_107 : decode cX11_mayOn 107 = .ok (.iload 9, 2) := by decide +kernel
theorem dX11_mayOn_109 : decode cX11_mayOn 109 = .ok (.invokevirtual 178, 3) := by decide +kernel
theorem dX11_mayOn_112 : decode cX11_mayOn 112 = .ok (.ifCond .eq 12, 3) := by decide +kernel
theorem dX11_mayOn_115 : decode cX11_mayOn 115 = .ok (.iload 8, 2) := by decide +kernel
theorem dX11_mayOn_117 : decode cX11_mayOn 117 = .ok (.iconst 1, 1) := by decide +kernel
theorem dX11_mayOn_118 : decode cX11_mayOn 118 = .ok (.iload 9, 2) := by decide +kernel
theorem dX11_mayOn_120 : decode cX11_mayOn 120 = .ok (.ishl, 1) := by decide +kernel
theorem dX11_mayOn_121 : decode cX11_mayOn 121 = .ok (.ior, 1) := by decide +kernel
theorem dX11_mayOn_122 : decode cX11_mayOn 122 = .ok (.istore 8, 2) := by decide +kernel
theorem dX11_mayOn_124 : decode cX11_mayOn 124 = .ok (.iinc 9 1, 3) := by decide +kernel
theorem dX11_mayOn_127 : decode cX11_mayOn 127 = .ok (.goto (-85), 3) := by decide +kernel
theorem dX11_mayOn_130 : decode cX11_mayOn 130 = .ok (.iload_n 1, 1) := by decide +kernel
theorem dX11_mayOn_131 : decode cX11_mayOn 131 = .ok (.iconst 5, 1) := by decide +kernel
theorem dX11_mayOn_132 : decode cX11_mayOn 132 = .ok (.if_icmp .ne 20, 3) := by decide +kernel
theorem dX11_mayOn_135 : decode cX11_mayOn 135 = .ok (.iload 8, 2) := by decide +kernel
theorem dX11_mayOn_137 : decode cX11_mayOn 137 = .ok (.iload 4, 2) := by decide +kernel
theorem dX11_mayOn_139 : decode cX11_mayOn 139 = .ok (.ishr, 1) := by decide +kernel
theorem dX11_mayOn_140 : decode cX11_mayOn 140 = .ok (.iconst 1, 1) := by decide +kernel
theorem dX11_mayOn_141 : decode cX11_mayOn 141 = .ok (.iand, 1) := by decide +kernel
theorem dX11_mayOn_142 : decode cX11_mayOn 142 = .ok (.iconst 1, 1) := by decide +kernel
theorem dX11_mayOn_143 : decode cX11_mayOn 143 = .ok (.if_icmp .ne 9, 3) := by decide +kernel
theorem dX11_mayOn_146 : decode cX11_mayOn 146 = .ok (.iconst 1, 1) := by decide +kernel
theorem dX11_mayOn_147 : decode cX11_mayOn 147 = .ok (.iload 4, 2) := by decide +kernel
theorem dX11_mayOn_149 : decode cX11_mayOn 149 = .ok (.ishl, 1) := by decide +kernel
theorem dX11_mayOn_150 : decode cX11_mayOn 150 = .ok (.istore 8, 2) := by decide +kernel
theorem dX11_mayOn_152 : decode cX11_mayOn 152 = .ok (.iload 8, 2) := by decide +kernel
theorem dX11_mayOn_154 : decode cX11_mayOn 154 = .ok (.ireturn, 1) := by decide +kernel
theorem dX11_mayBy_0 : decode cX11_mayBy 0 = .ok (.iload 6, 2) := by decide +kernel
theorem dX11_mayBy_2 : decode cX11_mayBy 2 = .ok (.aload_n 0, 1) := by decide +kernel
theorem dX11_mayBy_3 : decode cX11_mayBy 3 = .ok (.invokevirtual 145, 3) := by decide +kernel
theorem dX11_mayBy_6 : decode cX11_mayBy 6 = .ok (.if_icmp .ge 43, 3) := by decide +kernel
theorem dX11_mayBy_9 : decode cX11_mayBy 9 = .ok (.aload_n 0, 1) := by decide +kernel
theorem dX11_mayBy_10 : decode cX11_mayBy 10 = .ok (.iload_n 1, 1) := by decide +kernel
theorem dX11_mayBy_11 : decode cX11_mayBy 11 = .ok (.iload_n 2, 1) := by decide +kernel
theorem dX11_mayBy_12 : decode cX11_mayBy 12 = .ok (.iload_n 3, 1) := by decide +kernel
theorem dX11_mayBy_13 : decode cX11_mayBy 13 = .ok (.iload 4, 2) := by decide +kernel
theorem dX11_mayBy_15 : decode cX11_mayBy 15 = .ok (.iload 7, 2) := by decide +kernel
theorem dX11_mayBy_17 : decode cX11_mayBy 17 = .ok (.invokevirtual 182, 3) := by decide +kernel
theorem dX11_mayBy_20 : decode cX11_mayBy 20 = .ok (.istore 8, 2) := by decide +kernel
theorem dX11_mayBy_22 : decode cX11_mayBy 22 = .ok (.iload_n 1, 1) := by decide +kernel
theorem dX11_mayBy_23 : decode cX11_mayBy 23 = .ok (.bipush 6, 2) := by decide +kernel
theorem dX11_mayBy_25 : decode cX11_mayBy 25 = .ok (.if_icmp .ne 45, 3) := by decide +kernel
theorem dX11_mayBy_28 : decode cX11_mayBy 28 = .ok (.iload_n 2, 1) := by decide +kernel
theorem dX11_mayBy_29 : decode cX11_mayBy 29 = .ok (.ifCond .le 41, 3) := by decide +kernel
theorem dX11_mayBy_32 : decode cX11_mayBy 32 = .ok (.iload 7, 2) := by decide +kernel
theorem dX11_mayBy_34 : decode cX11_mayBy 34 = .ok (.iload_n 2, 1) := by decide +kernel
theorem dX11_mayBy_35 : decode cX11_mayBy 35 = .ok (.irem, 1) := by decide +kernel
theorem dX11_mayBy_36 : decode cX11_mayBy 36 = .ok (.ifCond .ne 34, 3) := by decide +kernel
theorem dX11_mayBy_39 : decode cX11_mayBy 39 = .ok (.iload 8, 2) := by decide +kernel
theorem dX11_mayBy_41 : decode cX11_mayBy 41 = .ok (.bipush 32, 2) := by decide +kernel
theorem dX11_mayBy_43 : decode cX11_mayBy 43 = .ok (.ior, 1) := by decide +kernel
theorem dX11_mayBy_44 : decode cX11_mayBy 44 = .ok (.istore 8, 2) := by decide +kernel
theorem dX11_mayBy_46 : decode cX11_mayBy 46 = .ok (.goto 24, 3) := by decide +kernel
theorem dX11_mayBy_49 : decode cX11_mayBy 49 = .ok (.aload_n 0, 1) := by decide +kernel
theorem dX11_mayBy_50 : decode cX11_mayBy 50 = .ok (.iload_n 1, 1) := by decide +kernel
theorem dX11_mayBy_51 : decode cX11_mayBy 51 = .ok (.iload_n 3, 1) := by decide +kernel
theorem dX11_mayBy_52 : decode cX11_mayBy 52 = .ok (.iload 4, 2) := by decide +kernel
theorem dX11_mayBy_54 : decode cX11_mayBy 54 = .ok (.iload 5, 2) := by decide +kernel
theorem dX11_mayBy_56 : decode cX11_mayBy 56 = .ok (.invokevirtual 186, 3) := by decide +kernel
theorem dX11_mayBy_59 : decode cX11_mayBy 59 = .ok (.ifCond .eq 8, 3) := by decide +kernel
theorem dX11_mayBy_62 : decode cX11_mayBy 62 = .ok (.bipush 16, 2) := by decide +kernel
theorem dX11_mayBy_64 : decode cX11_mayBy 64 = .ok (.goto 4, 3) := by decide +kernel
theorem dX11_mayBy_67 : decode cX11_mayBy 67 = .ok (.iconst 0, 1) := by decide +kernel
theorem dX11_mayBy_68 : decode cX11_mayBy 68 = .ok (.istore 8, 2) := by decide +kernel
theorem dX11_mayBy_70 : decode cX11_mayBy 70 = .ok (.iload 8, 2) := by decide +kernel
theorem dX11_mayBy_72 : decode cX11_mayBy 72 = .ok (.ifCond .ne 8, 3) := by decide +kernel
theorem dX11_mayBy_75 : decode cX11_mayBy 75 = .ok (.bipush 32, 2) := by decide +kernel
theorem dX11_mayBy_77 : decode cX11_mayBy 77 = .ok (.goto 5, 3) := by decide +kernel
theorem dX11_mayBy_80 : decode cX11_mayBy 80 = .ok (.iload 8, 2) := by decide +kernel
theorem dX11_mayBy_82 : decode cX11_mayBy 82 = .ok (.ireturn, 1) := by decide +kernel
theorem dX11_mayNow_0 : decode cX11_mayNow 0 = .ok (.aload_n 0, 1) := by decide +kernel
theorem dX11_mayNow_1 : decode cX11_mayNow 1 = .ok (.aload_n 0, 1) := by decide +kernel
theorem dX11_mayNow_2 : decode cX11_mayNow 2 = .ok (.iload_n 1, 1) := by decide +kernel
theorem dX11_mayNow_3 : decode cX11_mayNow 3 = .ok (.iconst 0, 1) := by decide +kernel
theorem dX11_mayNow_4 : decode cX11_mayNow 4 = .ok (.invokevirtual 162, 3) := by decide +kernel
theorem dX11_mayNow_7 : decode cX11_mayNow 7 = .ok (.aload_n 0, 1) := by decide +kernel
theorem dX11_mayNow_8 : decode cX11_mayNow 8 = .ok (.iload_n 1, 1) := by decide +kernel
theorem dX11_mayNow_9 : decode cX11_mayNow 9 = .ok (.iconst 1, 1) := by decide +kernel
theorem dX11_mayNow_10 : decode cX11_mayNow 10 = .ok (.invokevirtual 162, 3) := by decide +kernel
theorem dX11_mayNow_13 : decode cX11_mayNow 13 = .ok (.aload_n 0, 1) := by decide +kernel
theorem dX11_mayNow_14 : decode cX11_mayNow 14 = .ok (.iload_n 1, 1) := by decide +kernel
theorem dX11_mayNow_15 : decode cX11_mayNow 15 = .ok (.iconst 2, 1) := by decide +kernel
theorem dX11_mayNow_16 : decode cX11_mayNow 16 = .ok (.invokevirtual 162, 3) := by decide +kernel
theorem dX11_mayNow_19 : decode cX11_mayNow 19 = .ok (.aload_n 0, 1) := by decide +kernel
theorem dX11_mayNow_20 : decode cX11_mayNow 20 = .ok (.iload_n 1, 1) := by decide +kernel
theorem dX11_mayNow_21 : decode cX11_mayNow 21 = .ok (.iconst 3, 1) := by decide +kernel
theorem dX11_mayNow_22 : decode cX11_mayNow 22 = .ok (.invokevirtual 162, 3) := by decide +kernel
theorem dX11_mayNow_25 : decode cX11_mayNow 25 = .ok (.aload_n 0, 1) := by decide +kernel
theorem dX11_mayNow_26 : decode cX11_mayNow 26 = .ok (.iload_n 1, 1) := by decide +kernel
theorem dX11_mayNow_27 : decode cX11_mayNow 27 = .ok (.iconst 5, 1) := by decide +kernel
theorem dX11_mayNow_28 : decode cX11_mayNow 28 = .ok (.invokevirtual 162, 3) := by decide +kernel
theorem dX11_mayNow_31 : decode cX11_mayNow 31 = .ok (.aload_n 0, 1) := by decide +kernel
theorem dX11_mayNow_32 : decode cX11_mayNow 32 = .ok (.iload_n 1, 1) := by decide +kernel
theorem dX11_mayNow_33 : decode cX11_mayNow 33 = .ok (.invokevirtual 168, 3) := by decide +kernel
theorem dX11_mayNow_36 : decode cX11_mayNow 36 = .ok (.aload_n 0, 1) := by decide +kernel
theorem dX11_mayNow_37 : decode cX11_mayNow 37 = .ok (.iload_n 1, 1) := by decide +kernel
theorem dX11_mayNow_38 : decode cX11_mayNow 38 = .ok (.bipush 6, 2) := by decide +kernel
theorem dX11_mayNow_40 : decode cX11_mayNow 40 = .ok (.invokevirtual 162, 3) := by decide +kernel
theorem dX11_mayNow_43 : decode cX11_mayNow 43 = .ok (.invokevirtual 190, 3) := by decide +kernel
theorem dX11_mayNow_46 : decode cX11_mayNow 46 = .ok (.ireturn, 1) := by decide +kernel
theorem dX11_may_0 : decode cX11_may 0 = .ok (.aload_n 0, 1) := by decide +kernel
theorem dX11_may_1 : decode cX11_may 1 = .ok (.iload_n 1, 1) := by decide +kernel
theorem dX11_may_2 : decode cX11_may 2 = .ok (.invokevirtual 165, 3) := by decide +kernel
theorem dX11_may_5 : decode cX11_may 5 = .ok (.ifCond .eq 11, 3) := by decide +kernel
theorem dX11_may_8 : decode cX11_may 8 = .ok (.aload_n 0, 1) := by decide +kernel
theorem dX11_may_9 : decode cX11_may 9 = .ok (.iload_n 1, 1) := by decide +kernel
theorem dX11_may_10 : decode cX11_may 10 = .ok (.invokevirtual 194, 3) := by decide +kernel
theorem dX11_may_13 : decode cX11_may 13 = .ok (.goto 4, 3) := by decide +kernel
theorem dX11_may_16 : decode cX11_may 16 = .ok (.iconst (-1), 1) := by decide +kernel
theorem dX11_may_17 : decode cX11_may 17 = .ok (.ireturn, 1) := by decide +kernel
theorem dX11_steps_0 : decode cX11_steps 0 = .ok (.aload_n 0, 1) := by decide +kernel
theorem dX11_steps_1 : decode cX11_steps 1 = .ok (.iload_n 1, 1) := by decide +kernel
theorem dX11_steps_2 : decode cX11_steps 2 = .ok (.iconst 2, 1) := by decide +kernel
theorem dX11_steps_3 : decode cX11_steps 3 = .ok (.invokevirtual 162, 3) := by decide +kernel
theorem dX11_steps_6 : decode cX11_steps 6 = .ok (.istore_n 3, 1) := by decide +kernel
theorem dX11_steps_7 : decode cX11_steps 7 = .ok (.iload_n 2, 1) := by decide +kernel
theorem dX11_steps_8 : decode cX11_steps 8 = .ok (.iconst 4, 1) := by decide +kernel
theorem dX11_steps_9 : decode cX11_steps 9 = .ok (.if_icmp .ge 31, 3) := by decide +kernel
theorem dX11_steps_12 : decode cX11_steps 12 = .ok (.aload_n 0, 1) := by decide +kernel
theorem dX11_steps_13 : decode cX11_steps 13 = .ok (.iload_n 1, 1) := by decide +kernel
theorem dX11_steps_14 : decode cX11_steps 14 = .ok (.iconst 3, 1) := by decide +kernel
theorem dX11_steps_15 : decode cX11_steps 15 = .ok (.iload_n 2, 1) := by decide +kernel
theorem dX11_steps_16 : decode cX11_steps 16 = .ok (.invokevirtual 158, 3) := by decide +kernel
theorem dX11_steps_19 : decode cX11_steps 19 = .ok (.aload_n 0, 1) := by decide +kernel
theorem dX11_steps_20 : decode cX11_steps 20 = .ok (.iload_n 1, 1) := by decide +kernel
theorem dX11_steps_21 : decode cX11_steps 21 = .ok (.iconst 2, 1) := by decide +kernel
theorem dX11_steps_22 : decode cX11_steps 22 = .ok (.iload_n 3, 1) := by decide +kernel
theorem dX11_steps_23 : decode cX11_steps 23 = .ok (.iload_n 2, 1) := by decide +kernel
theorem dX11_steps_24 : decode cX11_steps 24 = .ok (.invokestatic 171, 3) := by decide +kernel
theorem dX11_steps_27 : decode cX11_steps 27 = .ok (.invokevirtual 158, 3) := by decide +kernel
theorem dX11_steps_30 : decode cX11_steps 30 = .ok (.aload_n 0, 1) := by decide +kernel
theorem dX11_steps_31 : decode cX11_steps 31 = .ok (.iload_n 1, 1) := by decide +kernel
theorem dX11_steps_32 : decode cX11_steps 32 = .ok (.iconst 5, 1) := by decide +kernel
theorem dX11_steps_33 : decode cX11_steps 33 = .ok (.iload_n 3, 1) := by decide +kernel
theorem dX11_steps_34 : decode cX11_steps 34 = .ok (.invokevirtual 158, 3) := by decide +kernel
theorem dX11_steps_37 : decode cX11_steps 37 = .ok (.goto 44, 3) := by decide +kernel
theorem dX11_steps_40 : decode cX11_steps 40 = .ok (.iload_n 2, 1) := by decide +kernel
theorem dX11_steps_41 : decode cX11_steps 41 = .ok (.iconst 4, 1) := by decide +kernel
theorem dX11_steps_42 : decode cX11_steps 42 = .ok (.if_icmp .ne 39, 3) := by decide +kernel
theorem dX11_steps_45 : decode cX11_steps 45 = .ok (.aload_n 0, 1) := by decide +kernel
theorem dX11_steps_46 : decode cX11_steps 46 = .ok (.iload_n 1, 1) := by decide +kernel
theorem dX11_steps_47 : decode cX11_steps 47 = .ok (.iconst 2, 1) := by decide +kernel
theorem dX11_steps_48 : decode cX11_steps 48 = .ok (.aload_n 0, 1) := by decide +kernel
theorem dX11_steps_49 : decode cX11_steps 49 = .ok (.aload_n 0, 1) := by decide +kernel
theorem dX11_steps_50 : decode cX11_steps 50 = .ok (.iload_n 1, 1) := by decide +kernel
theorem dX11_steps_51 : decode cX11_steps 51 = .ok (.iconst 0, 1) := by decide +kernel
theorem dX11_steps_52 : decode cX11_steps 52 = .ok (.invokevirtual 162, 3) := by decide +kernel
theorem dX11_steps_55 : decode cX11_steps 55 = .ok (.iload_n 3, 1) := by decide +kernel
theorem dX11_steps_56 : decode cX11_steps 56 = .ok (.aload_n 0, 1) := by decide +kernel
theorem dX11_steps_57 : decode cX11_steps 57 = .ok (.iload_n 1, 1) := by decide +kernel
theorem dX11_steps_58 : decode cX11_steps 58 = .ok (.iconst 3, 1) := by decide +kernel
theorem dX11_steps_59 : decode cX11_steps 59 = .ok (.invokevirtual 162, 3) := by decide +kernel
theorem dX11_steps_62 : decode cX11_steps 62 = .ok (.aload_n 0, 1) := by decide +kernel
theorem dX11_steps_63 : decode cX11_steps 63 = .ok (.iload_n 1, 1) := by decide +kernel
theorem dX11_steps_64 : decode cX11_steps 64 = .ok (.iconst 5, 1) := by decide +kernel
theorem dX11_steps_65 : decode cX11_steps 65 = .ok (.invokevirtual 162, 3) := by decide +kernel
theorem dX11_steps_68 : decode cX11_steps 68 = .ok (.invokevirtual 174, 3) := by decide +kernel
theorem dX11_steps_71 : decode cX11_steps 71 = .ok (.invokevirtual 158, 3) := by decide +kernel
theorem dX11_steps_74 : decode cX11_steps 74 = .ok (.aload_n 0, 1) := by decide +kernel
theorem dX11_steps_75 : decode cX11_steps 75 = .ok (.iload_n 1, 1) := by decide +kernel
theorem dX11_steps_76 : decode cX11_steps 76 = .ok (.iconst 5, 1) := by decide +kernel
theorem dX11_steps_77 : decode cX11_steps 77 = .ok (.iload_n 3, 1) := by decide +kernel
theorem dX11_steps_78 : decode cX11_steps 78 = .ok (.invokevirtual 158, 3) := by decide +kernel
theorem dX11_steps_81 : decode cX11_steps 81 = .ok (.aload_n 0, 1) := by decide +kernel
theorem dX11_steps_82 : decode cX11_steps 82 = .ok (.iload_n 1, 1) := by decide +kernel
theorem dX11_steps_83 : decode cX11_steps 83 = .ok (.iconst 4, 1) := by decide +kernel
theorem dX11_steps_84 : decode cX11_steps 84 = .ok (.aload_n 0, 1) := by decide +kernel
theorem dX11_steps_85 : decode cX11_steps 85 = .ok (.iload_n 1, 1) := by decide +kernel
theorem dX11_steps_86 : decode cX11_steps 86 = .ok (.invokevirtual 168, 3) := by decide +kernel
theorem dX11_steps_89 : decode cX11_steps 89 = .ok (.iconst 1, 1) := by decide +kernel
theorem dX11_steps_90 : decode cX11_steps 90 = .ok (.iadd, 1) := by decide +kernel
theorem dX11_steps_91 : decode cX11_steps 91 = .ok (.aload_n 0, 1) := by decide +kernel
theorem dX11_steps_92 : decode cX11_steps 92 = .ok (.invokevirtual 148, 3) := by decide +kernel
theorem dX11_steps_95 : decode cX11_steps 95 = .ok (.irem, 1) := by decide +kernel
theorem dX11_steps_96 : decode cX11_steps 96 = .ok (.invokevirtual 158, 3) := by decide +kernel
theorem dX11_steps_99 : decode cX11_steps 99 = .ok (.aload_n 0, 1) := by decide +kernel
theorem dX11_steps_100 : decode cX11_steps 100 = .ok (.iload_n 1, 1) := by decide +kernel
theorem dX11_steps_101 : decode cX11_steps 101 = .ok (.bipush 6, 2) := by decide +kernel
theorem dX11_steps_103 : decode cX11_steps 103 = .ok (.aload_n 0, 1) := by decide +kernel
theorem dX11_steps_104 : decode cX11_steps 104 = .ok (.iload_n 1, 1) := by decide +kernel
theorem dX11_steps_105 : decode cX11_steps 105 = .ok (.bipush 6, 2) := by decide +kernel
theorem dX11_steps_107 : decode cX11_steps 107 = .ok (.invokevirtual 162, 3) := by decide +kernel
theorem dX11_steps_110 : decode cX11_steps 110 = .ok (.iconst 1, 1) := by decide +kernel
theorem dX11_steps_111 : decode cX11_steps 111 = .ok (.iadd, 1) := by decide +kernel
theorem dX11_steps_112 : decode cX11_steps 112 = .ok (.invokevirtual 158, 3) := by decide +kernel
theorem dX11_steps_115 : decode cX11_steps 115 = .ok (.return_, 1) := by decide +kernel
theorem dX11_step_0 : decode cX11_step 0 = .ok (.aload_n 0, 1) := by decide +kernel
theorem dX11_step_1 : decode cX11_step 1 = .ok (.iload_n 1, 1) := by decide +kernel
theorem dX11_step_2 : decode cX11_step 2 = .ok (.invokevirtual 165, 3) := by decide +kernel
theorem dX11_step_5 : decode cX11_step 5 = .ok (.ifCond .eq 12, 3) := by decide +kernel
theorem dX11_step_8 : decode cX11_step 8 = .ok (.iload_n 2, 1) := by decide +kernel
theorem dX11_step_9 : decode cX11_step 9 = .ok (.bipush 6, 2) := by decide +kernel
theorem dX11_step_11 : decode cX11_step 11 = .ok (.invokestatic 66, 3) := by decide +kernel
theorem dX11_step_14 : decode cX11_step 14 = .ok (.ifCond .ne 5, 3) := by decide +kernel
theorem dX11_step_17 : decode cX11_step 17 = .ok (.iconst (-1), 1) := by decide +kernel
theorem dX11_step_18 : decode cX11_step 18 = .ok (.ireturn, 1) := by decide +kernel
theorem dX11_step_19 : decode cX11_step 19 = .ok (.aload_n 0, 1) := by decide +kernel
theorem dX11_step_20 : decode cX11_step 20 = .ok (.iload_n 1, 1) := by decide +kernel
theorem dX11_step_21 : decode cX11_step 21 = .ok (.invokevirtual 194, 3) := by decide +kernel
theorem dX11_step_24 : decode cX11_step 24 = .ok (.iload_n 2, 1) := by decide +kernel
theorem dX11_step_25 : decode cX11_step 25 = .ok (.ishr, 1) := by decide +kernel
theorem dX11_step_26 : decode cX11_step 26 = .ok (.iconst 1, 1) := by decide +kernel
theorem dX11_step_27 : decode cX11_step 27 = .ok (.iand, 1) := by decide +kernel
theorem dX11_step_28 : decode cX11_step 28 = .ok (.ifCond .ne 6, 3) := by decide +kernel
theorem dX11_step_31 : decode cX11_step 31 = .ok (.bipush (-3), 2) := by decide +kernel
theorem dX11_step_33 : decode cX11_step 33 = .ok (.ireturn, 1) := by decide +kernel
theorem dX11_step_34 : decode cX11_step 34 = .ok (.aload_n 0, 1) := by decide +kernel
theorem dX11_step_35 : decode cX11_step 35 = .ok (.iload_n 1, 1) := by decide +kernel
theorem dX11_step_36 : decode cX11_step 36 = .ok (.iload_n 2, 1) := by decide +kernel
theorem dX11_step_37 : decode cX11_step 37 = .ok (.invokevirtual 197, 3) := by decide +kernel
theorem dX11_step_40 : decode cX11_step 40 = .ok (.aload_n 0, 1) := by decide +kernel
theorem dX11_step_41 : decode cX11_step 41 = .ok (.iload_n 1, 1) := by decide +kernel
theorem dX11_step_42 : decode cX11_step 42 = .ok (.iconst 2, 1) := by decide +kernel
theorem dX11_step_43 : decode cX11_step 43 = .ok (.invokevirtual 162, 3) := by decide +kernel
theorem dX11_step_46 : decode cX11_step 46 = .ok (.ireturn, 1) := by decide +kernel
theorem dX11_stateOf_0 : decode cX11_stateOf 0 = .ok (.iload_n 0, 1) := by decide +kernel
theorem dX11_stateOf_1 : decode cX11_stateOf 1 = .ok (.iconst 4, 1) := by decide +kernel
theorem dX11_stateOf_2 : decode cX11_stateOf 2 = .ok (.imul, 1) := by decide +kernel
theorem dX11_stateOf_3 : decode cX11_stateOf 3 = .ok (.iload_n 1, 1) := by decide +kernel
theorem dX11_stateOf_4 : decode cX11_stateOf 4 = .ok (.iadd, 1) := by decide +kernel
theorem dX11_stateOf_5 : decode cX11_stateOf 5 = .ok (.bipush 36, 2) := by decide +kernel
theorem dX11_stateOf_7 : decode cX11_stateOf 7 = .ok (.imul, 1) := by decide +kernel
theorem dX11_stateOf_8 : decode cX11_stateOf 8 = .ok (.iload_n 2, 1) := by decide +kernel
theorem dX11_stateOf_9 : decode cX11_stateOf 9 = .ok (.iadd, 1) := by decide +kernel
theorem dX11_stateOf_10 : decode cX11_stateOf 10 = .ok (.ireturn, 1) := by decide +kernel
theorem dX11_comesTo_0 : decode cX11_comesTo 0 = .ok (.iload_n 0, 1) := by decide +kernel
theorem dX11_comesTo_1 : decode cX11_comesTo 1 = .ok (.bipush 36, 2) := by decide +kernel
theorem dX11_comesTo_3 : decode cX11_comesTo 3 = .ok (.idiv, 1) := by decide +kernel
theorem dX11_comesTo_4 : decode cX11_comesTo 4 = .ok (.iconst 4, 1) := by decide +kernel
theorem dX11_comesTo_5 : decode cX11_comesTo 5 = .ok (.idiv, 1) := by decide +kernel
theorem dX11_comesTo_6 : decode cX11_comesTo 6 = .ok (.istore 4, 2) := by decide +kernel
theorem dX11_comesTo_8 : decode cX11_comesTo 8 = .ok (.iload_n 0, 1) := by decide +kernel
theorem dX11_comesTo_9 : decode cX11_comesTo 9 = .ok (.bipush 36, 2) := by decide +kernel
theorem dX11_comesTo_11 : decode cX11_comesTo 11 = .ok (.idiv, 1) := by decide +kernel
theorem dX11_comesTo_12 : decode cX11_comesTo 12 = .ok (.iconst 4, 1) := by decide +kernel
theorem dX11_comesTo_13 : decode cX11_comesTo 13 = .ok (.irem, 1) := by decide +kernel
theorem dX11_comesTo_14 : decode cX11_comesTo 14 = .ok (.istore 5, 2) := by decide +kernel
theorem dX11_comesTo_16 : decode cX11_comesTo 16 = .ok (.iload_n 2, 1) := by decide +kernel
theorem dX11_comesTo_17 : decode cX11_comesTo 17 = .ok (.iconst 4, 1) := by decide +kernel
theorem dX11_comesTo_18 : decode cX11_comesTo 18 = .ok (.if_icmp .ge 13, 3) := by decide +kernel
theorem dX11_comesTo_21 : decode cX11_comesTo 21 = .ok (.iload_n 3, 1) := by decide +kernel
theorem dX11_comesTo_22 : decode cX11_comesTo 22 = .ok (.iload_n 2, 1) := by decide +kernel
theorem dX11_comesTo_23 : decode cX11_comesTo 23 = .ok (.iload 4, 2) := by decide +kernel
theorem dX11_comesTo_25 : decode cX11_comesTo 25 = .ok (.invokestatic 201, 3) := by decide +kernel
theorem dX11_comesTo_28 : decode cX11_comesTo 28 = .ok (.goto 20, 3) := by decide +kernel
theorem dX11_comesTo_31 : decode cX11_comesTo 31 = .ok (.iload_n 2, 1) := by decide +kernel
theorem dX11_comesTo_32 : decode cX11_comesTo 32 = .ok (.iconst 4, 1) := by decide +kernel
theorem dX11_comesTo_33 : decode cX11_comesTo 33 = .ok (.if_icmp .ne 14, 3) := by decide +kernel
theorem dX11_comesTo_36 : decode cX11_comesTo 36 = .ok (.iload_n 3, 1) := by decide +kernel
theorem dX11_comesTo_37 : decode cX11_comesTo 37 = .ok (.iload 5, 2) := by decide +kernel
theorem dX11_comesTo_39 : decode cX11_comesTo 39 = .ok (.iload 4, 2) := by decide +kernel
theorem dX11_comesTo_41 : decode cX11_comesTo 41 = .ok (.invokestatic 201, 3) := by decide +kernel
theorem dX11_comesTo_44 : decode cX11_comesTo 44 = .ok (.goto 4, 3) := by decide +kernel
theorem dX11_comesTo_47 : decode cX11_comesTo 47 = .ok (.iload_n 0, 1) := by decide +kernel
theorem dX11_comesTo_48 : decode cX11_comesTo 48 = .ok (.ireturn, 1) := by decide +kernel
theorem dX11_begins_0 : decode cX11_begins 0 = .ok (.aload_n 0, 1) := by decide +kernel
theorem dX11_begins_1 : decode cX11_begins 1 = .ok (.iload_n 1, 1) := by decide +kernel
theorem dX11_begins_2 : decode cX11_begins 2 = .ok (.putfield 205, 3) := by decide +kernel
theorem dX11_begins_5 : decode cX11_begins 5 = .ok (.aload_n 0, 1) := by decide +kernel
theorem dX11_begins_6 : decode cX11_begins 6 = .ok (.iload_n 2, 1) := by decide +kernel
theorem dX11_begins_7 : decode cX11_begins 7 = .ok (.putfield 208, 3) := by decide +kernel
theorem dX11_begins_10 : decode cX11_begins 10 = .ok (.aload_n 0, 1) := by decide +kernel
theorem dX11_begins_11 : decode cX11_begins 11 = .ok (.iload 6, 2) := by decide +kernel
theorem dX11_begins_13 : decode cX11_begins 13 = .ok (.putfield 210, 3) := by decide +kernel
theorem dX11_begins_16 : decode cX11_begins 16 = .ok (.aload_n 0, 1) := by decide +kernel
theorem dX11_begins_17 : decode cX11_begins 17 = .ok (.iload 7, 2) := by decide +kernel
theorem dX11_begins_19 : decode cX11_begins 19 = .ok (.putfield 213, 3) := by decide +kernel
theorem dX11_begins_22 : decode cX11_begins 22 = .ok (.aload_n 0, 1) := by decide +kernel
theorem dX11_begins_23 : decode cX11_begins 23 = .ok (.iconst 0, 1) := by decide +kernel
theorem dX11_begins_24 : decode cX11_begins 24 = .ok (.putfield 216, 3) := by decide +kernel
theorem dX11_begins_27 : decode cX11_begins 27 = .ok (.iconst 0, 1) := by decide +kernel
theorem dX11_begins_28 : decode cX11_begins 28 = .ok (.istore 8, 2) := by decide +kernel
theorem dX11_begins_30 : decode cX11_begins 30 = .ok (.iload 8, 2) := by decide +kernel
theorem dX11_begins_32 : decode cX11_begins 32 = .ok (.sipush 5184, 3) := by decide +kernel
theorem dX11_begins_35 : decode cX11_begins 35 = .ok (.if_icmp .ge 25, 3) := by decide +kernel
theorem dX11_begins_38 : decode cX11_begins 38 = .ok (.aload_n 0, 1) := by decide +kernel
theorem dX11_begins_39 : decode cX11_begins 39 = .ok (.getfield 31, 3) := by decide +kernel
theorem dX11_begins_42 : decode cX11_begins 42 = .ok (.iload 8, 2) := by decide +kernel
theorem dX11_begins_44 : decode cX11_begins 44 = .ok (.iconst 0, 1) := by decide +kernel
theorem dX11_begins_45 : decode cX11_begins 45 = .ok (.iastore, 1) := by decide +kernel
theorem dX11_begins_46 : decode cX11_begins 46 = .ok (.aload_n 0, 1) := by decide +kernel
theorem dX11_begins_47 : decode cX11_begins 47 = .ok (.getfield 37, 3) := by decide +kernel
theorem dX11_begins_50 : decode cX11_begins 50 = .ok (.iload 8, 2) := by decide +kernel
theorem dX11_begins_52 : decode cX11_begins 52 = .ok (.lconst 0, 1) := by decide +kernel
theorem dX11_begins_53 : decode cX11_begins 53 = .ok (.lastore, 1) := by decide +kernel
theorem dX11_begins_54 : decode cX11_begins 54 = .ok (.iinc 8 1, 3) := by decide +kernel
theorem dX11_begins_57 : decode cX11_begins 57 = .ok (.goto (-27), 3) := by decide +kernel
theorem dX11_begins_60 : decode cX11_begins 60 = .ok (.aload_n 0, 1) := by decide +kernel
theorem dX11_begins_61 : decode cX11_begins 61 = .ok (.getfield 31, 3) := by decide +kernel
theorem dX11_begins_64 : decode cX11_begins 64 = .ok (.iload_n 3, 1) := by decide +kernel
theorem dX11_begins_65 : decode cX11_begins 65 = .ok (.iload 4, 2) := by decide +kernel
theorem dX11_begins_67 : decode cX11_begins 67 = .ok (.iload 5, 2) := by decide +kernel
theorem dX11_begins_69 : decode cX11_begins 69 = .ok (.invokestatic 201, 3) := by decide +kernel
theorem dX11_begins_72 : decode cX11_begins 72 = .ok (.bipush 64, 2) := by decide +kernel
theorem dX11_begins_74 : decode cX11_begins 74 = .ok (.iastore, 1) := by decide +kernel
theorem dX11_begins_75 : decode cX11_begins 75 = .ok (.aload_n 0, 1) := by decide +kernel
theorem dX11_begins_76 : decode cX11_begins 76 = .ok (.getfield 37, 3) := by decide +kernel
theorem dX11_begins_79 : decode cX11_begins 79 = .ok (.iload_n 3, 1) := by decide +kernel
theorem dX11_begins_80 : decode cX11_begins 80 = .ok (.iload 4, 2) := by decide +kernel
theorem dX11_begins_82 : decode cX11_begins 82 = .ok (.iload 5, 2) := by decide +kernel
theorem dX11_begins_84 : decode cX11_begins 84 = .ok (.invokestatic 201, 3) := by decide +kernel
theorem dX11_begins_87 : decode cX11_begins 87 = .ok (.lconst 1, 1) := by decide +kernel
theorem dX11_begins_88 : decode cX11_begins 88 = .ok (.lastore, 1) := by decide +kernel
theorem dX11_begins_89 : decode cX11_begins 89 = .ok (.return_, 1) := by decide +kernel
theorem dX11_beginsAs_0 : decode cX11_beginsAs 0 = .ok (.aload_n 0, 1) := by decide +kernel
theorem dX11_beginsAs_1 : decode cX11_beginsAs 1 = .ok (.aload_n 0, 1) := by decide +kernel
theorem dX11_beginsAs_2 : decode cX11_beginsAs 2 = .ok (.iload_n 1, 1) := by decide +kernel
theorem dX11_beginsAs_3 : decode cX11_beginsAs 3 = .ok (.iconst 0, 1) := by decide +kernel
theorem dX11_beginsAs_4 : decode cX11_beginsAs 4 = .ok (.invokevirtual 162, 3) := by decide +kernel
theorem dX11_beginsAs_7 : decode cX11_beginsAs 7 = .ok (.aload_n 0, 1) := by decide +kernel
theorem dX11_beginsAs_8 : decode cX11_beginsAs 8 = .ok (.iload_n 1, 1) := by decide +kernel
theorem dX11_beginsAs_9 : decode cX11_beginsAs 9 = .ok (.iconst 1, 1) := by decide +kernel
theorem dX11_beginsAs_10 : decode cX11_beginsAs 10 = .ok (.invokevirtual 162, 3) := by decide +kernel
theorem dX11_beginsAs_13 : decode cX11_beginsAs 13 = .ok (.aload_n 0, 1) := by decide +kernel
theorem dX11_beginsAs_14 : decode cX11_beginsAs 14 = .ok (.iload_n 1, 1) := by decide +kernel
theorem dX11_beginsAs_15 : decode cX11_beginsAs 15 = .ok (.iconst 2, 1) := by decide +kernel
theorem dX11_beginsAs_16 : decode cX11_beginsAs 16 = .ok (.invokevirtual 162, 3) := by decide +kernel
theorem dX11_beginsAs_19 : decode cX11_beginsAs 19 = .ok (.aload_n 0, 1) := by decide +kernel
theorem dX11_beginsAs_20 : decode cX11_beginsAs 20 = .ok (.iload_n 1, 1) := by decide +kernel
theorem dX11_beginsAs_21 : decode cX11_beginsAs 21 = .ok (.iconst 3, 1) := by decide +kernel
theorem dX11_beginsAs_22 : decode cX11_beginsAs 22 = .ok (.invokevirtual 162, 3) := by decide +kernel
theorem dX11_beginsAs_25 : decode cX11_beginsAs 25 = .ok (.aload_n 0, 1) := by decide +kernel
theorem dX11_beginsAs_26 : decode cX11_beginsAs 26 = .ok (.iload_n 1, 1) := by decide +kernel
theorem dX11_beginsAs_27 : decode cX11_beginsAs 27 = .ok (.iconst 5, 1) := by decide +kernel
theorem dX11_beginsAs_28 : decode cX11_beginsAs 28 = .ok (.invokevirtual 162, 3) := by decide +kernel
theorem dX11_beginsAs_31 : decode cX11_beginsAs 31 = .ok (.iload_n 2, 1) := by decide +kernel
theorem dX11_beginsAs_32 : decode cX11_beginsAs 32 = .ok (.aload_n 0, 1) := by decide +kernel
theorem dX11_beginsAs_33 : decode cX11_beginsAs 33 = .ok (.iload_n 1, 1) := by decide +kernel
theorem dX11_beginsAs_34 : decode cX11_beginsAs 34 = .ok (.bipush 6, 2) := by decide +kernel
theorem dX11_beginsAs_36 : decode cX11_beginsAs 36 = .ok (.invokevirtual 162, 3) := by decide +kernel
theorem dX11_beginsAs_39 : decode cX11_beginsAs 39 = .ok (.invokevirtual 219, 3) := by decide +kernel
theorem dX11_beginsAs_42 : decode cX11_beginsAs 42 = .ok (.return_, 1) := by decide +kernel
theorem dX11_bits_0 : decode cX11_bits 0 = .ok (.iconst 0, 1) := by decide +kernel
theorem dX11_bits_1 : decode cX11_bits 1 = .ok (.istore_n 1, 1) := by decide +kernel
theorem dX11_bits_2 : decode cX11_bits 2 = .ok (.iload_n 0, 1) := by decide +kernel
theorem dX11_bits_3 : decode cX11_bits 3 = .ok (.istore_n 2, 1) := by decide +kernel
theorem dX11_bits_4 : decode cX11_bits 4 = .ok (.iload_n 2, 1) := by decide +kernel
theorem dX11_bits_5 : decode cX11_bits 5 = .ok (.ifCond .le 16, 3) := by decide +kernel
theorem dX11_bits_8 : decode cX11_bits 8 = .ok (.iload_n 1, 1) := by decide +kernel
theorem dX11_bits_9 : decode cX11_bits 9 = .ok (.iload_n 2, 1) := by decide +kernel
theorem dX11_bits_10 : decode cX11_bits 10 = .ok (.iconst 1, 1) := by decide +kernel
theorem dX11_bits_11 : decode cX11_bits 11 = .ok (.iand, 1) := by decide +kernel
theorem dX11_bits_12 : decode cX11_bits 12 = .ok (.iadd, 1) := by decide +kernel
theorem dX11_bits_13 : decode cX11_bits 13 = .ok (.istore_n 1, 1) := by decide +kernel
theorem dX11_bits_14 : decode cX11_bits 14 = .ok (.iload_n 2, 1) := by decide +kernel
theorem dX11_bits_15 : decode cX11_bits 15 = .ok (.iconst 1, 1) := by decide +kernel
theorem dX11_bits_16 : decode cX11_bits 16 = .ok (.ishr, 1) := by decide +kernel
theorem dX11_bits_17 : decode cX11_bits 17 = .ok (.istore_n 2, 1) := by decide +kernel
theorem dX11_bits_18 : decode cX11_bits 18 = .ok (.goto (-14), 3) := by decide +kernel
theorem dX11_bits_21 : decode cX11_bits 21 = .ok (.iload_n 1, 1) := by decide +kernel
theorem dX11_bits_22 : decode cX11_bits 22 = .ok (.ireturn, 1) := by decide +kernel
theorem dX11_goesBeat_0 : decode cX11_goesBeat 0 = .ok (.aload_n 0, 1) := by decide +kernel
theorem dX11_goesBeat_1 : decode cX11_goesBeat 1 = .ok (.getfield 210, 3) := by decide +kernel
theorem dX11_goesBeat_4 : decode cX11_goesBeat 4 = .ok (.aload_n 0, 1) := by decide +kernel
theorem dX11_goesBeat_5 : decode cX11_goesBeat 5 = .ok (.getfield 216, 3) := by decide +kernel
theorem dX11_goesBeat_8 : decode cX11_goesBeat 8 = .ok (.iadd, 1) := by decide +kernel
theorem dX11_goesBeat_9 : decode cX11_goesBeat 9 = .ok (.aload_n 0, 1) := by decide +kernel
theorem dX11_goesBeat_10 : decode cX11_goesBeat 10 = .ok (.invokevirtual 148, 3) := by decide +kernel
theorem dX11_goesBeat_13 : decode cX11_goesBeat 13 = .ok (.irem, 1) := by decide +kernel
theorem dX11_goesBeat_14 : decode cX11_goesBeat 14 = .ok (.istore_n 1, 1) := by decide +kernel
theorem dX11_goesBeat_15 : decode cX11_goesBeat 15 = .ok (.iconst 0, 1) := by decide +kernel
theorem dX11_goesBeat_16 : decode cX11_goesBeat 16 = .ok (.istore_n 2, 1) := by decide +kernel
theorem dX11_goesBeat_17 : decode cX11_goesBeat 17 = .ok (.iload_n 2, 1) := by decide +kernel
theorem dX11_goesBeat_18 : decode cX11_goesBeat 18 = .ok (.sipush 5184, 3) := by decide +kernel
theorem dX11_goesBeat_21 : decode cX11_goesBeat 21 = .ok (.if_icmp .ge 23, 3) := by decide +kernel
theorem dX11_goesBeat_24 : decode cX11_goesBeat 24 = .ok (.aload_n 0, 1) := by decide +kernel
theorem dX11_goesBeat_25 : decode cX11_goesBeat 25 = .ok (.getfield 34, 3) := by decide +kernel
theorem dX11_goesBeat_28 : decode cX11_goesBeat 28 = .ok (.iload_n 2, 1) := by decide +kernel
theorem dX11_goesBeat_29 : decode cX11_goesBeat 29 = .ok (.iconst 0, 1) := by decide +kernel
theorem dX11_goesBeat_30 : decode cX11_goesBeat 30 = .ok (.iastore, 1) := by decide +kernel
theorem dX11_goesBeat_31 : decode cX11_goesBeat 31 = .ok (.aload_n 0, 1) := by decide +kernel
theorem dX11_goesBeat_32 : decode cX11_goesBeat 32 = .ok (.getfield 41, 3) := by decide +kernel
theorem dX11_goesBeat_35 : decode cX11_goesBeat 35 = .ok (.iload_n 2, 1) := by decide +kernel
theorem dX11_goesBeat_36 : decode cX11_goesBeat 36 = .ok (.lconst 0, 1) := by decide +kernel
theorem dX11_goesBeat_37 : decode cX11_goesBeat 37 = .ok (.lastore, 1) := by decide +kernel
theorem dX11_goesBeat_38 : decode cX11_goesBeat 38 = .ok (.iinc 2 1, 3) := by decide +kernel
theorem dX11_goesBeat_41 : decode cX11_goesBeat 41 = .ok (.goto (-24), 3) := by decide +kernel
theorem dX11_goesBeat_44 : decode cX11_goesBeat 44 = .ok (.iconst 0, 1) := by decide +kernel
theorem dX11_goesBeat_45 : decode cX11_goesBeat 45 = .ok (.istore_n 2, 1) := by decide +kernel
theorem dX11_goesBeat_46 : decode cX11_goesBeat 46 = .ok (.iload_n 2, 1) := by decide +kernel
theorem dX11_goesBeat_47 : decode cX11_goesBeat 47 = .ok (.sipush 5184, 3) := by decide +kernel
theorem dX11_goesBeat_50 : decode cX11_goesBeat 50 = .ok (.if_icmp .ge 214, 3) := by decide +kernel
theorem dX11_goesBeat_53 : decode cX11_goesBeat 53 = .ok (.aload_n 0, 1) := by decide +kernel
theorem dX11_goesBeat_54 : decode cX11_goesBeat 54 = .ok (.getfield 31, 3) := by decide +kernel
theorem dX11_goesBeat_57 : decode cX11_goesBeat 57 = .ok (.iload_n 2, 1) := by decide +kernel
theorem dX11_goesBeat_58 : decode cX11_goesBeat 58 = .ok (.iaload, 1) := by decide +kernel
theorem dX11_goesBeat_59 : decode cX11_goesBeat 59 = .ok (.ifCond .ne 6, 3) := by decide +kernel
theorem dX11_goesBeat_62 : decode cX11_goesBeat 62 = .ok (.goto 196, 3) := by decide +kernel
theorem dX11_goesBeat_65 : decode cX11_goesBeat 65 = .ok (.iload_n 2, 1) := by decide +kernel
theorem dX11_goesBeat_66 : decode cX11_goesBeat 66 = .ok (.bipush 36, 2) := by decide +kernel
theorem dX11_goesBeat_68 : decode cX11_goesBeat 68 = .ok (.idiv, 1) := by decide +kernel
theorem dX11_goesBeat_69 : decode cX11_goesBeat 69 = .ok (.iconst 4, 1) := by decide +kernel
theorem dX11_goesBeat_70 : decode cX11_goesBeat 70 = .ok (.idiv, 1) := by decide +kernel
theorem dX11_goesBeat_71 : decode cX11_goesBeat 71 = .ok (.istore_n 3, 1) := by decide +kernel
theorem dX11_goesBeat_72 : decode cX11_goesBeat 72 = .ok (.iload_n 2, 1) := by decide +kernel
theorem dX11_goesBeat_73 : decode cX11_goesBeat 73 = .ok (.bipush 36, 2) := by decide +kernel
theorem dX11_goesBeat_75 : decode cX11_goesBeat 75 = .ok (.idiv, 1) := by decide +kernel
theorem dX11_goesBeat_76 : decode cX11_goesBeat 76 = .ok (.iconst 4, 1) := by decide +kernel
theorem dX11_goesBeat_77 : decode cX11_goesBeat 77 = .ok (.irem, 1) := by decide +kernel
theorem dX11_goesBeat_78 : decode cX11_goesBeat 78 = .ok (.istore 4, 2) := by decide +kernel
theorem dX11_goesBeat_80 : decode cX11_goesBeat 80 = .ok (.iload_n 2, 1) := by decide +kernel
theorem dX11_goesBeat_81 : decode cX11_goesBeat 81 = .ok (.bipush 36, 2) := by decide +kernel
theorem dX11_goesBeat_83 : decode cX11_goesBeat 83 = .ok (.irem, 1) := by decide +kernel
theorem dX11_goesBeat_84 : decode cX11_goesBeat 84 = .ok (.istore 5, 2) := by decide +kernel
theorem dX11_goesBeat_86 : decode cX11_goesBeat 86 = .ok (.aload_n 0, 1) := by decide +kernel
theorem dX11_goesBeat_87 : decode cX11_goesBeat 87 = .ok (.aload_n 0, 1) := by decide +kernel
theorem dX11_goesBeat_88 : decode cX11_goesBeat 88 = .ok (.getfield 205, 3) := by decide +kernel
theorem dX11_goesBeat_91 : decode cX11_goesBeat 91 = .ok (.aload_n 0, 1) := by decide +kernel
theorem dX11_goesBeat_92 : decode cX11_goesBeat 92 = .ok (.getfield 208, 3) := by decide +kernel
theorem dX11_goesBeat_95 : decode cX11_goesBeat 95 = .ok (.iload_n 3, 1) := by decide +kernel
theorem dX11_goesBeat_96 : decode cX11_goesBeat 96 = .ok (.iload 4, 2) := by decide +kernel
theorem dX11_goesBeat_98 : decode cX11_goesBeat 98 = .ok (.iload 5, 2) := by decide +kernel
theorem dX11_goesBeat_100 : decode cX11_goesBeat 100 = .ok (.iload_n 1, 1) := by decide +kernel
theorem dX11_goesBeat_101 : decode cX11_goesBeat 101 = .ok (.aload_n 0, 1) := by decide +kernel
theorem dX11_goesBeat_102 : decode cX11_goesBeat 102 = .ok (.getfield 213, 3) := by decide +kernel
theorem dX11_goesBeat_105 : decode cX11_goesBeat 105 = .ok (.aload_n 0, 1) := by decide +kernel
theorem dX11_goesBeat_106 : decode cX11_goesBeat 106 = .ok (.getfield 216, 3) := by decide +kernel
theorem dX11_goesBeat_109 : decode cX11_goesBeat 109 = .ok (.iadd, 1) := by decide +kernel
theorem dX11_goesBeat_110 : decode cX11_goesBeat 110 = .ok (.invokevirtual 190, 3) := by decide +kernel
theorem dX11_goesBeat_113 : decode cX11_goesBeat 113 = .ok (.istore 6, 2) := by decide +kernel
theorem dX11_goesBeat_115 : decode cX11_goesBeat 115 = .ok (.iconst 0, 1) := by decide +kernel
theorem dX11_goesBeat_116 : decode cX11_goesBeat 116 = .ok (.istore 7, 2) := by decide +kernel
theorem dX11_goesBeat_118 : decode cX11_goesBeat 118 = .ok (.iload 7, 2) := by decide +kernel
theorem dX11_goesBeat_120 : decode cX11_goesBeat 120 = .ok (.bipush 6, 2) := by decide +kernel
theorem dX11_goesBeat_122 : decode cX11_goesBeat 122 = .ok (.if_icmp .ge 136, 3) := by decide +kernel
theorem dX11_goesBeat_125 : decode cX11_goesBeat 125 = .ok (.iload 6, 2) := by decide +kernel
theorem dX11_goesBeat_127 : decode cX11_goesBeat 127 = .ok (.iload 7, 2) := by decide +kernel
theorem dX11_goesBeat_129 : decode cX11_goesBeat 129 = .ok (.ishr, 1) := by decide +kernel
theorem dX11_goesBeat_130 : decode cX11_goesBeat 130 = .ok (.iconst 1, 1) := by decide +kernel
theorem dX11_goesBeat_131 : decode cX11_goesBeat 131 = .ok (.iand, 1) := by decide +kernel
theorem dX11_goesBeat_132 : decode cX11_goesBeat 132 = .ok (.ifCond .ne 6, 3) := by decide +kernel
theorem dX11_goesBeat_135 : decode cX11_goesBeat 135 = .ok (.goto 117, 3) := by decide +kernel
theorem dX11_goesBeat_138 : decode cX11_goesBeat 138 = .ok (.iload 7, 2) := by decide +kernel
theorem dX11_goesBeat_140 : decode cX11_goesBeat 140 = .ok (.iconst 4, 1) := by decide +kernel
theorem dX11_goesBeat_141 : decode cX11_goesBeat 141 = .ok (.if_icmp .ge 12, 3) := by decide +kernel
theorem dX11_goesBeat_144 : decode cX11_goesBeat 144 = .ok (.iload_n 3, 1) := by decide +kernel
theorem dX11_goesBeat_145 : decode cX11_goesBeat 145 = .ok (.iload 7, 2) := by decide +kernel
theorem dX11_goesBeat_147 : decode cX11_goesBeat 147 = .ok (.invokestatic 171, 3) := by decide +kernel
theorem dX11_goesBeat_150 : decode cX11_goesBeat 150 = .ok (.goto 26, 3) := by decide +kernel
theorem dX11_goesBeat_153 : decode cX11_goesBeat 153 = .ok (.iload 7, 2) := by decide +kernel
theorem dX11_goesBeat_155 : decode cX11_goesBeat 155 = .ok (.iconst 4, 1) := by decide +kernel
theorem dX11_goesBeat_156 : decode cX11_goesBeat 156 = .ok (.if_icmp .ne 19, 3) := by decide +kernel
theorem dX11_goesBeat_159 : decode cX11_goesBeat 159 = .ok (.aload_n 0, 1) := by decide +kernel
theorem dX11_goesBeat_160 : decode cX11_goesBeat 160 = .ok (.aload_n 0, 1) := by decide +kernel
theorem dX11_goesBeat_161 : decode cX11_goesBeat 161 = .ok (.getfield 205, 3) := by decide +kernel
theorem dX11_goesBeat_164 : decode cX11_goesBeat 164 = .ok (.iload_n 3, 1) := by decide +kernel
theorem dX11_goesBeat_165 : decode cX11_goesBeat 165 = .ok (.iload 4, 2) := by decide +kernel
theorem dX11_goesBeat_167 : decode cX11_goesBeat 167 = .ok (.iload 5, 2) := by decide +kernel
theorem dX11_goesBeat_169 : decode cX11_goesBeat 169 = .ok (.invokevirtual 174, 3) := by decide +kernel
theorem dX11_goesBeat_172 : decode cX11_goesBeat 172 = .ok (.goto 4, 3) := by decide +kernel
theorem dX11_goesBeat_175 : decode cX11_goesBeat 175 = .ok (.iload_n 3, 1) := by decide +kernel
theorem dX11_goesBeat_176 : decode cX11_goesBeat 176 = .ok (.istore 8, 2) := by decide +kernel
theorem dX11_goesBeat_178 : decode cX11_goesBeat 178 = .ok (.iload_n 2, 1) := by decide +kernel
theorem dX11_goesBeat_179 : decode cX11_goesBeat 179 = .ok (.aload_n 0, 1) := by decide +kernel
theorem dX11_goesBeat_180 : decode cX11_goesBeat 180 = .ok (.getfield 205, 3) := by decide +kernel
theorem dX11_goesBeat_183 : decode cX11_goesBeat 183 = .ok (.iload 7, 2) := by decide +kernel
theorem dX11_goesBeat_185 : decode cX11_goesBeat 185 = .ok (.iload 8, 2) := by decide +kernel
theorem dX11_goesBeat_187 : decode cX11_goesBeat 187 = .ok (.invokestatic 223, 3) := by decide +kernel
theorem dX11_goesBeat_190 : decode cX11_goesBeat 190 = .ok (.istore 9, 2) := by decide +kernel
theorem dX11_goesBeat_192 : decode cX11_goesBeat 192 = .ok (.aload_n 0, 1) := by decide +kernel
theorem dX11_goesBeat_193 : decode cX11_goesBeat 193 = .ok (.getfield 34, 3) := by decide +kernel
theorem dX11_goesBeat_196 : decode cX11_goesBeat 196 = .ok (.iload 9, 2) := by decide +kernel
theorem dX11_goesBeat_198 : decode cX11_goesBeat 198 = .ok (.dup2, 1) := by decide +kernel
theorem dX11_goesBeat_199 : decode cX11_goesBeat 199 = .ok (.iaload, 1) := by decide +kernel
theorem dX11_goesBeat_200 : decode cX11_goesBeat 200 = .ok (.aload_n 0, 1) := by decide +kernel
theorem dX11_goesBeat_201 : decode cX11_goesBeat 201 = .ok (.getfield 31, 3) := by decide +kernel
theorem dX11_goesBeat_204 : decode cX11_goesBeat 204 = .ok (.iload_n 2, 1) := by decide +kernel
theorem dX11_goesBeat_205 : decode cX11_goesBeat 205 = .ok (.iaload, 1) := by decide +kernel
theorem dX11_goesBeat_206 : decode cX11_goesBeat 206 = .ok (.bipush 64, 2) := by decide +kernel
theorem dX11_goesBeat_208 : decode cX11_goesBeat 208 = .ok (.if_icmp .ne 10, 3) := by decide +kernel
theorem dX11_goesBeat_211 : decode cX11_goesBeat 211 = .ok (.iconst 1, 1) := by decide +kernel
theorem dX11_goesBeat_212 : decode cX11_goesBeat 212 = .ok (.iload 7, 2) := by decide +kernel
theorem dX11_goesBeat_214 : decode cX11_goesBeat 214 = .ok (.ishl, 1) := by decide +kernel
theorem dX11_goesBeat_215 : decode cX11_goesBeat 215 = .ok (.goto 9, 3) := by decide +kernel
theorem dX11_goesBeat_218 : decode cX11_goesBeat 218 = .ok (.aload_n 0, 1) := by decide +kernel
theorem dX11_goesBeat_219 : decode cX11_goesBeat 219 = .ok (.getfield 31, 3) := by decide +kernel
theorem dX11_goesBeat_222 : decode cX11_goesBeat 222 = .ok (.iload_n 2, 1) := by decide +kernel
theorem dX11_goesBeat_223 : decode cX11_goesBeat 223 = .ok (.iaload, 1) := by decide +kernel
theorem dX11_goesBeat_224 : decode cX11_goesBeat 224 = .ok (.ior, 1) := by decide +kernel
theorem dX11_goesBeat_225 : decode cX11_goesBeat 225 = .ok (.iastore, 1) := by decide +kernel
theorem dX11_goesBeat_226 : decode cX11_goesBeat 226 = .ok (.aload_n 0, 1) := by decide +kernel
theorem dX11_goesBeat_227 : decode cX11_goesBeat 227 = .ok (.getfield 41, 3) := by decide +kernel
theorem dX11_goesBeat_230 : decode cX11_goesBeat 230 = .ok (.iload 9, 2) := by decide +kernel
theorem dX11_goesBeat_232 : decode cX11_goesBeat 232 = .ok (.dup2, 1) := by decide +kernel
theorem dX11_goesBeat_233 : decode cX11_goesBeat 233 = .ok (.laload, 1) := by decide +kernel
theorem dX11_goesBeat_234 : decode cX11_goesBeat 234 = .ok (.aload_n 0, 1) := by decide +kernel
theorem dX11_goesBeat_235 : decode cX11_goesBeat 235 = .ok (.getfield 37, 3) := by decide +kernel
theorem dX11_goesBeat_238 : decode cX11_goesBeat 238 = .ok (.iload_n 2, 1) := by decide +kernel
theorem dX11_goesBeat_239 : decode cX11_goesBeat 239 = .ok (.laload, 1) := by decide +kernel
theorem dX11_goesBeat_240 : decode cX11_goesBeat 240 = .ok (.bipush 60, 2) := by decide +kernel
theorem dX11_goesBeat_242 : decode cX11_goesBeat 242 = .ok (.iload 6, 2) := by decide +kernel
theorem dX11_goesBeat_244 : decode cX11_goesBeat 244 = .ok (.invokestatic 226, 3) := by decide +kernel
theorem dX11_goesBeat_247 : decode cX11_goesBeat 247 = .ok (.idiv, 1) := by decide +kernel
theorem dX11_goesBeat_248 : decode cX11_goesBeat 248 = .ok (.i2l, 1) := by decide +kernel
theorem dX11_goesBeat_249 : decode cX11_goesBeat 249 = .ok (.lmul, 1) := by decide +kernel
theorem dX11_goesBeat_250 : decode cX11_goesBeat 250 = .ok (.ladd, 1) := by decide +kernel
theorem dX11_goesBeat_251 : decode cX11_goesBeat 251 = .ok (.lastore, 1) := by decide +kernel
theorem dX11_goesBeat_252 : decode cX11_goesBeat 252 = .ok (.iinc 7 1, 3) := by decide +kernel
theorem dX11_goesBeat_255 : decode cX11_goesBeat 255 = .ok (.goto (-137), 3) := by decide +kernel
theorem dX11_goesBeat_258 : decode cX11_goesBeat 258 = .ok (.iinc 2 1, 3) := by decide +kernel
theorem dX11_goesBeat_261 : decode cX11_goesBeat 261 = .ok (.goto (-215), 3) := by decide +kernel
theorem dX11_goesBeat_264 : decode cX11_goesBeat 264 = .ok (.iconst 0, 1) := by decide +kernel
theorem dX11_goesBeat_265 : decode cX11_goesBeat 265 = .ok (.istore_n 2, 1) := by decide +kernel
theorem dX11_goesBeat_266 : decode cX11_goesBeat 266 = .ok (.iload_n 2, 1) := by decide +kernel
theorem dX11_goesBeat_267 : decode cX11_goesBeat 267 = .ok (.sipush 5184, 3) := by decide +kernel
theorem dX11_goesBeat_270 : decode cX11_goesBeat 270 = .ok (.if_icmp .ge 33, 3) := by decide +kernel
theorem dX11_goesBeat_273 : decode cX11_goesBeat 273 = .ok (.aload_n 0, 1) := by decide +kernel
theorem dX11_goesBeat_274 : decode cX11_goesBeat 274 = .ok (.getfield 31, 3) := by decide +kernel
theorem dX11_goesBeat_277 : decode cX11_goesBeat 277 = .ok (.iload_n 2, 1) := by decide +kernel
theorem dX11_goesBeat_278 : decode cX11_goesBeat 278 = .ok (.aload_n 0, 1) := by decide +kernel
theorem dX11_goesBeat_279 : decode cX11_goesBeat 279 = .ok (.getfield 34, 3) := by decide +kernel
theorem dX11_goesBeat_282 : decode cX11_goesBeat 282 = .ok (.iload_n 2, 1) := by decide +kernel
theorem dX11_goesBeat_283 : decode cX11_goesBeat 283 = .ok (.iaload, 1) := by decide +kernel
theorem dX11_goesBeat_284 : decode cX11_goesBeat 284 = .ok (.iastore, 1) := by decide +kernel
theorem dX11_goesBeat_285 : decode cX11_goesBeat 285 = .ok (.aload_n 0, 1) := by decide +kernel
theorem dX11_goesBeat_286 : decode cX11_goesBeat 286 = .ok (.getfield 37, 3) := by decide +kernel
theorem dX11_goesBeat_289 : decode cX11_goesBeat 289 = .ok (.iload_n 2, 1) := by decide +kernel
theorem dX11_goesBeat_290 : decode cX11_goesBeat 290 = .ok (.aload_n 0, 1) := by decide +kernel
theorem dX11_goesBeat_291 : decode cX11_goesBeat 291 = .ok (.getfield 41, 3) := by decide +kernel
theorem dX11_goesBeat_294 : decode cX11_goesBeat 294 = .ok (.iload_n 2, 1) := by decide +kernel
theorem dX11_goesBeat_295 : decode cX11_goesBeat 295 = .ok (.laload, 1) := by decide +kernel
theorem dX11_goesBeat_296 : decode cX11_goesBeat 296 = .ok (.lastore, 1) := by decide +kernel
theorem dX11_goesBeat_297 : decode cX11_goesBeat 297 = .ok (.iinc 2 1, 3) := by decide +kernel
theorem dX11_goesBeat_300 : decode cX11_goesBeat 300 = .ok (.goto (-34), 3) := by decide +kernel
theorem dX11_goesBeat_303 : decode cX11_goesBeat 303 = .ok (.aload_n 0, 1) := by decide +kernel
theorem dX11_goesBeat_304 : decode cX11_goesBeat 304 = .ok (.dup, 1) := by decide +kernel
theorem dX11_goesBeat_305 : decode cX11_goesBeat 305 = .ok (.getfield 216, 3) := by decide +kernel
theorem dX11_goesBeat_308 : decode cX11_goesBeat 308 = .ok (.iconst 1, 1) := by decide +kernel
theorem dX11_goesBeat_309 : decode cX11_goesBeat 309 = .ok (.iadd, 1) := by decide +kernel
theorem dX11_goesBeat_310 : decode cX11_goesBeat 310 = .ok (.putfield 216, 3) := by decide +kernel
theorem dX11_goesBeat_313 : decode cX11_goesBeat 313 = .ok (.return_, 1) := by decide +kernel
theorem dX11_cellsNow_0 : decode cX11_cellsNow 0 = .ok (.lconst 0, 1) := by decide +kernel
theorem dX11_cellsNow_1 : decode cX11_cellsNow 1 = .ok (.lstore_n 1, 1) := by decide +kernel
theorem dX11_cellsNow_2 : decode cX11_cellsNow 2 = .ok (.iconst 0, 1) := by decide +kernel
theorem dX11_cellsNow_3 : decode cX11_cellsNow 3 = .ok (.istore_n 3, 1) := by decide +kernel
theorem dX11_cellsNow_4 : decode cX11_cellsNow 4 = .ok (.iload_n 3, 1) := by decide +kernel
theorem dX11_cellsNow_5 : decode cX11_cellsNow 5 = .ok (.sipush 5184, 3) := by decide +kernel
theorem dX11_cellsNow_8 : decode cX11_cellsNow 8 = .ok (.if_icmp .ge 29, 3) := by decide +kernel
theorem dX11_cellsNow_11 : decode cX11_cellsNow 11 = .ok (.aload_n 0, 1) := by decide +kernel
theorem dX11_cellsNow_12 : decode cX11_cellsNow 12 = .ok (.getfield 31, 3) := by decide +kernel
theorem dX11_cellsNow_15 : decode cX11_cellsNow 15 = .ok (.iload_n 3, 1) := by decide +kernel
theorem dX11_cellsNow_16 : decode cX11_cellsNow 16 = .ok (.iaload, 1) := by decide +kernel
theorem dX11_cellsNow_17 : decode cX11_cellsNow 17 = .ok (.ifCond .eq 14, 3) := by decide +kernel
theorem dX11_cellsNow_20 : decode cX11_cellsNow 20 = .ok (.lload_n 1, 1) := by decide +kernel
theorem dX11_cellsNow_21 : decode cX11_cellsNow 21 = .ok (.lconst 1, 1) := by decide +kernel
theorem dX11_cellsNow_22 : decode cX11_cellsNow 22 = .ok (.iload_n 3, 1) := by decide +kernel
theorem dX11_cellsNow_23 : decode cX11_cellsNow 23 = .ok (.bipush 36, 2) := by decide +kernel
theorem dX11_cellsNow_25 : decode cX11_cellsNow 25 = .ok (.idiv, 1) := by decide +kernel
theorem dX11_cellsNow_26 : decode cX11_cellsNow 26 = .ok (.iconst 4, 1) := by decide +kernel
theorem dX11_cellsNow_27 : decode cX11_cellsNow 27 = .ok (.idiv, 1) := by decide +kernel
theorem dX11_cellsNow_28 : decode cX11_cellsNow 28 = .ok (.lshl, 1) := by decide +kernel
theorem dX11_cellsNow_29 : decode cX11_cellsNow 29 = .ok (.lor, 1) := by decide +kernel
theorem dX11_cellsNow_30 : decode cX11_cellsNow 30 = .ok (.lstore_n 1, 1) := by decide +kernel
theorem dX11_cellsNow_31 : decode cX11_cellsNow 31 = .ok (.iinc 3 1, 3) := by decide +kernel
theorem dX11_cellsNow_34 : decode cX11_cellsNow 34 = .ok (.goto (-30), 3) := by decide +kernel
theorem dX11_cellsNow_37 : decode cX11_cellsNow 37 = .ok (.lload_n 1, 1) := by decide +kernel
theorem dX11_cellsNow_38 : decode cX11_cellsNow 38 = .ok (.lreturn, 1) := by decide +kernel
theorem dX11_firstTo_0 : decode cX11_firstTo 0 = .ok (.iconst 0, 1) := by decide +kernel
theorem dX11_firstTo_1 : decode cX11_firstTo 1 = .ok (.istore_n 2, 1) := by decide +kernel
theorem dX11_firstTo_2 : decode cX11_firstTo 2 = .ok (.iconst 0, 1) := by decide +kernel
theorem dX11_firstTo_3 : decode cX11_firstTo 3 = .ok (.istore_n 3, 1) := by decide +kernel
theorem dX11_firstTo_4 : decode cX11_firstTo 4 = .ok (.iload_n 3, 1) := by decide +kernel
theorem dX11_firstTo_5 : decode cX11_firstTo 5 = .ok (.sipush 144, 3) := by decide +kernel
theorem dX11_firstTo_8 : decode cX11_firstTo 8 = .ok (.if_icmp .ge 24, 3) := by decide +kernel
theorem dX11_firstTo_11 : decode cX11_firstTo 11 = .ok (.iload_n 2, 1) := by decide +kernel
theorem dX11_firstTo_12 : decode cX11_firstTo 12 = .ok (.aload_n 0, 1) := by decide +kernel
theorem dX11_firstTo_13 : decode cX11_firstTo 13 = .ok (.getfield 31, 3) := by decide +kernel
theorem dX11_firstTo_16 : decode cX11_firstTo 16 = .ok (.sipush 144, 3) := by decide +kernel
theorem dX11_firstTo_19 : decode cX11_firstTo 19 = .ok (.iload_n 1, 1) := by decide +kernel
theorem dX11_firstTo_20 : decode cX11_firstTo 20 = .ok (.imul, 1) := by decide +kernel
theorem dX11_firstTo_21 : decode cX11_firstTo 21 = .ok (.iload_n 3, 1) := by decide +kernel
theorem dX11_firstTo_22 : decode cX11_firstTo 22 = .ok (.iadd, 1) := by decide +kernel
theorem dX11_firstTo_23 : decode cX11_firstTo 23 = .ok (.iaload, 1) := by decide +kernel
theorem dX11_firstTo_24 : decode cX11_firstTo 24 = .ok (.ior, 1) := by decide +kernel
theorem dX11_firstTo_25 : decode cX11_firstTo 25 = .ok (.istore_n 2, 1) := by decide +kernel
theorem dX11_firstTo_26 : decode cX11_firstTo 26 = .ok (.iinc 3 1, 3) := by decide +kernel
theorem dX11_firstTo_29 : decode cX11_firstTo 29 = .ok (.goto (-25), 3) := by decide +kernel
theorem dX11_firstTo_32 : decode cX11_firstTo 32 = .ok (.iload_n 2, 1) := by decide +kernel
theorem dX11_firstTo_33 : decode cX11_firstTo 33 = .ok (.ireturn, 1) := by decide +kernel
theorem dX11_soonestTo_0 : decode cX11_soonestTo 0 = .ok (.iconst 0, 1) := by decide +kernel
theorem dX11_soonestTo_1 : decode cX11_soonestTo 1 = .ok (.istore_n 2, 1) := by decide +kernel
theorem dX11_soonestTo_2 : decode cX11_soonestTo 2 = .ok (.iload_n 2, 1) := by decide +kernel
theorem dX11_soonestTo_3 : decode cX11_soonestTo 3 = .ok (.bipush 60, 2) := by decide +kernel
theorem dX11_soonestTo_5 : decode cX11_soonestTo 5 = .ok (.if_icmp .gt 74, 3) := by decide +kernel
theorem dX11_soonestTo_8 : decode cX11_soonestTo 8 = .ok (.iload_n 2, 1) := by decide +kernel
theorem dX11_soonestTo_9 : decode cX11_soonestTo 9 = .ok (.ifCond .le 7, 3) := by decide +kernel
theorem dX11_soonestTo_12 : decode cX11_soonestTo 12 = .ok (.aload_n 0, 1) := by decide +kernel
theorem dX11_soonestTo_13 : decode cX11_soonestTo 13 = .ok (.invokevirtual 229, 3) := by decide +kernel
theorem dX11_soonestTo_16 : decode cX11_soonestTo 16 = .ok (.aload_n 0, 1) := by decide +kernel
theorem dX11_soonestTo_17 : decode cX11_soonestTo 17 = .ok (.iload_n 1, 1) := by decide +kernel
theorem dX11_soonestTo_18 : decode cX11_soonestTo 18 = .ok (.invokevirtual 232, 3) := by decide +kernel
theorem dX11_soonestTo_21 : decode cX11_soonestTo 21 = .ok (.istore_n 3, 1) := by decide +kernel
theorem dX11_soonestTo_22 : decode cX11_soonestTo 22 = .ok (.iload_n 3, 1) := by decide +kernel
theorem dX11_soonestTo_23 : decode cX11_soonestTo 23 = .ok (.ifCond .ne 6, 3) := by decide +kernel
theorem dX11_soonestTo_26 : decode cX11_soonestTo 26 = .ok (.goto 47, 3) := by decide +kernel
theorem dX11_soonestTo_29 : decode cX11_soonestTo 29 = .ok (.aload_n 0, 1) := by decide +kernel
theorem dX11_soonestTo_30 : decode cX11_soonestTo 30 = .ok (.iload_n 2, 1) := by decide +kernel
theorem dX11_soonestTo_31 : decode cX11_soonestTo 31 = .ok (.ifCond .ne 8, 3) := by decide +kernel
theorem dX11_soonestTo_34 : decode cX11_soonestTo 34 = .ok (.bipush (-5), 2) := by decide +kernel
theorem dX11_soonestTo_36 : decode cX11_soonestTo 36 = .ok (.goto 4, 3) := by decide +kernel
theorem dX11_soonestTo_39 : decode cX11_soonestTo 39 = .ok (.iconst 0, 1) := by decide +kernel
theorem dX11_soonestTo_40 : decode cX11_soonestTo 40 = .ok (.putfield 235, 3) := by decide +kernel
theorem dX11_soonestTo_43 : decode cX11_soonestTo 43 = .ok (.iload_n 2, 1) := by decide +kernel
theorem dX11_soonestTo_44 : decode cX11_soonestTo 44 = .ok (.ifCond .le 27, 3) := by decide +kernel
theorem dX11_soonestTo_47 : decode cX11_soonestTo 47 = .ok (.iload_n 3, 1) := by decide +kernel
theorem dX11_soonestTo_48 : decode cX11_soonestTo 48 = .ok (.aload_n 0, 1) := by decide +kernel
theorem dX11_soonestTo_49 : decode cX11_soonestTo 49 = .ok (.getfield 235, 3) := by decide +kernel
theorem dX11_soonestTo_52 : decode cX11_soonestTo 52 = .ok (.ishr, 1) := by decide +kernel
theorem dX11_soonestTo_53 : decode cX11_soonestTo 53 = .ok (.iconst 1, 1) := by decide +kernel
theorem dX11_soonestTo_54 : decode cX11_soonestTo 54 = .ok (.iand, 1) := by decide +kernel
theorem dX11_soonestTo_55 : decode cX11_soonestTo 55 = .ok (.ifCond .ne 16, 3) := by decide +kernel
theorem dX11_soonestTo_58 : decode cX11_soonestTo 58 = .ok (.aload_n 0, 1) := by decide +kernel
theorem dX11_soonestTo_59 : decode cX11_soonestTo 59 = .ok (.dup, 1) := by decide +kernel
theorem dX11_soonestTo_60 : decode cX11_soonestTo 60 = .ok (.getfield 235, 3) := by decide +kernel
theorem dX11_soonestTo_63 : decode cX11_soonestTo 63 = .ok (.iconst 1, 1) := by decide +kernel
theorem dX11_soonestTo_64 : decode cX11_soonestTo 64 = .ok (.iadd, 1) := by decide +kernel
theorem dX11_soonestTo_65 : decode cX11_soonestTo 65 = .ok (.putfield 235, 3) := by decide +kernel
theorem dX11_soonestTo_68 : decode cX11_soonestTo 68 = .ok (.goto (-25), 3) := by decide +kernel
theorem dX11_soonestTo_71 : decode cX11_soonestTo 71 = .ok (.iload_n 2, 1) := by decide +kernel
theorem dX11_soonestTo_72 : decode cX11_soonestTo 72 = .ok (.ireturn, 1) := by decide +kernel
theorem dX11_soonestTo_73 : decode cX11_soonestTo 73 = .ok (.iinc 2 1, 3) := by decide +kernel
theorem dX11_soonestTo_76 : decode cX11_soonestTo 76 = .ok (.goto (-74), 3) := by decide +kernel
theorem dX11_soonestTo_79 : decode cX11_soonestTo 79 = .ok (.aload_n 0, 1) := by decide +kernel
theorem dX11_soonestTo_80 : decode cX11_soonestTo 80 = .ok (.bipush (-5), 2) := by decide +kernel
theorem dX11_soonestTo_82 : decode cX11_soonestTo 82 = .ok (.putfield 235, 3) := by decide +kernel
theorem dX11_soonestTo_85 : decode cX11_soonestTo 85 = .ok (.bipush (-5), 2) := by decide +kernel
theorem dX11_soonestTo_87 : decode cX11_soonestTo 87 = .ok (.ireturn, 1) := by decide +kernel
theorem dX11_soonest_0 : decode cX11_soonest 0 = .ok (.aload_n 0, 1) := by decide +kernel
theorem dX11_soonest_1 : decode cX11_soonest 1 = .ok (.iload_n 1, 1) := by decide +kernel
theorem dX11_soonest_2 : decode cX11_soonest 2 = .ok (.invokevirtual 165, 3) := by decide +kernel
theorem dX11_soonest_5 : decode cX11_soonest 5 = .ok (.ifCond .eq 18, 3) := by decide +kernel
theorem dX11_soonest_8 : decode cX11_soonest 8 = .ok (.iload_n 2, 1) := by decide +kernel
theorem dX11_soonest_9 : decode cX11_soonest 9 = .ok (.invokestatic 151, 3) := by decide +kernel
theorem dX11_soonest_12 : decode cX11_soonest 12 = .ok (.ifCond .eq 11, 3) := by decide +kernel
theorem dX11_soonest_15 : decode cX11_soonest 15 = .ok (.iload_n 3, 1) := by decide +kernel
theorem dX11_soonest_16 : decode cX11_soonest 16 = .ok (.iconst 2, 1) := by decide +kernel
theorem dX11_soonest_17 : decode cX11_soonest 17 = .ok (.invokestatic 66, 3) := by decide +kernel
theorem dX11_soonest_20 : decode cX11_soonest 20 = .ok (.ifCond .ne 5, 3) := by decide +kernel
theorem dX11_soonest_23 : decode cX11_soonest 23 = .ok (.iconst (-1), 1) := by decide +kernel
theorem dX11_soonest_24 : decode cX11_soonest 24 = .ok (.ireturn, 1) := by decide +kernel
theorem dX11_soonest_25 : decode cX11_soonest 25 = .ok (.aload_n 0, 1) := by decide +kernel
theorem dX11_soonest_26 : decode cX11_soonest 26 = .ok (.iload_n 1, 1) := by decide +kernel
theorem dX11_soonest_27 : decode cX11_soonest 27 = .ok (.aload_n 0, 1) := by decide +kernel
theorem dX11_soonest_28 : decode cX11_soonest 28 = .ok (.iload_n 1, 1) := by decide +kernel
theorem dX11_soonest_29 : decode cX11_soonest 29 = .ok (.invokevirtual 168, 3) := by decide +kernel
theorem dX11_soonest_32 : decode cX11_soonest 32 = .ok (.invokevirtual 238, 3) := by decide +kernel
theorem dX11_soonest_35 : decode cX11_soonest 35 = .ok (.aload_n 0, 1) := by decide +kernel
theorem dX11_soonest_36 : decode cX11_soonest 36 = .ok (.iload_n 2, 1) := by decide +kernel
theorem dX11_soonest_37 : decode cX11_soonest 37 = .ok (.invokevirtual 241, 3) := by decide +kernel
theorem dX11_soonest_40 : decode cX11_soonest 40 = .ok (.istore 4, 2) := by decide +kernel
theorem dX11_soonest_42 : decode cX11_soonest 42 = .ok (.iload_n 3, 1) := by decide +kernel
theorem dX11_soonest_43 : decode cX11_soonest 43 = .ok (.ifCond .ne 8, 3) := by decide +kernel
theorem dX11_soonest_46 : decode cX11_soonest 46 = .ok (.iload 4, 2) := by decide +kernel
theorem dX11_soonest_48 : decode cX11_soonest 48 = .ok (.goto 7, 3) := by decide +kernel
theorem dX11_soonest_51 : decode cX11_soonest 51 = .ok (.aload_n 0, 1) := by decide +kernel
theorem dX11_soonest_52 : decode cX11_soonest 52 = .ok (.getfield 235, 3) := by decide +kernel
theorem dX11_soonest_55 : decode cX11_soonest 55 = .ok (.ireturn, 1) := by decide +kernel
theorem dX11_begin_0 : decode cX11_begin 0 = .ok (.aload_n 0, 1) := by decide +kernel
theorem dX11_begin_1 : decode cX11_begin 1 = .ok (.iload_n 1, 1) := by decide +kernel
theorem dX11_begin_2 : decode cX11_begin 2 = .ok (.invokevirtual 165, 3) := by decide +kernel
theorem dX11_begin_5 : decode cX11_begin 5 = .ok (.ifCond .eq 18, 3) := by decide +kernel
theorem dX11_begin_8 : decode cX11_begin 8 = .ok (.iload_n 2, 1) := by decide +kernel
theorem dX11_begin_9 : decode cX11_begin 9 = .ok (.invokestatic 151, 3) := by decide +kernel
theorem dX11_begin_12 : decode cX11_begin 12 = .ok (.ifCond .eq 11, 3) := by decide +kernel
theorem dX11_begin_15 : decode cX11_begin 15 = .ok (.iload_n 3, 1) := by decide +kernel
theorem dX11_begin_16 : decode cX11_begin 16 = .ok (.iconst 2, 1) := by decide +kernel
end
section
theorem dX11_begin_17 : decode cX11_begin 17 = .ok (.invokestatic 66, 3) := by decide +kernel
theorem dX11_begin_20 : decode cX11_begin 20 = .ok (.ifCond .ne 5, 3) := by decide +kernel
theorem dX11_begin_23 : decode cX11_begin 23 = .ok (.iconst (-1), 1) := by decide +kernel
theorem dX11_begin_24 : decode cX11_begin 24 = .ok (.ireturn, 1) := by decide +kernel
theorem dX11_begin_25 : decode cX11_begin 25 = .ok (.bipush (-5), 2) := by decide +kernel
theorem dX11_begin_27 : decode cX11_begin 27 = .ok (.istore 4, 2) := by decide +kernel
theorem dX11_begin_29 : decode cX11_begin 29 = .ok (.bipush (-5), 2) := by decide +kernel
theorem dX11_begin_31 : decode cX11_begin 31 = .ok (.istore 5, 2) := by decide +kernel
theorem dX11_begin_33 : decode cX11_begin 33 = .ok (.iconst 0, 1) := by decide +kernel
theorem dX11_begin_34 : decode cX11_begin 34 = .ok (.istore 6, 2) := by decide +kernel
theorem dX11_begin_36 : decode cX11_begin 36 = .ok (.iload 6, 2) := by decide +kernel
theorem dX11_begin_38 : decode cX11_begin 38 = .ok (.aload_n 0, 1) := by decide +kernel
theorem dX11_begin_39 : decode cX11_begin 39 = .ok (.invokevirtual 148, 3) := by decide +kernel
theorem dX11_begin_42 : decode cX11_begin 42 = .ok (.if_icmp .ge 51, 3) := by decide +kernel
theorem dX11_begin_45 : decode cX11_begin 45 = .ok (.aload_n 0, 1) := by decide +kernel
theorem dX11_begin_46 : decode cX11_begin 46 = .ok (.iload_n 1, 1) := by decide +kernel
theorem dX11_begin_47 : decode cX11_begin 47 = .ok (.iload 6, 2) := by decide +kernel
theorem dX11_begin_49 : decode cX11_begin 49 = .ok (.invokevirtual 238, 3) := by decide +kernel
theorem dX11_begin_52 : decode cX11_begin 52 = .ok (.aload_n 0, 1) := by decide +kernel
theorem dX11_begin_53 : decode cX11_begin 53 = .ok (.iload_n 2, 1) := by decide +kernel
theorem dX11_begin_54 : decode cX11_begin 54 = .ok (.invokevirtual 241, 3) := by decide +kernel
theorem dX11_begin_57 : decode cX11_begin 57 = .ok (.istore 7, 2) := by decide +kernel
theorem dX11_begin_59 : decode cX11_begin 59 = .ok (.iload 7, 2) := by decide +kernel
theorem dX11_begin_61 : decode cX11_begin 61 = .ok (.ifCond .lt 26, 3) := by decide +kernel
theorem dX11_begin_64 : decode cX11_begin 64 = .ok (.iload 4, 2) := by decide +kernel
theorem dX11_begin_66 : decode cX11_begin 66 = .ok (.ifCond .lt 13, 3) := by decide +kernel
theorem dX11_begin_69 : decode cX11_begin 69 = .ok (.iload 7, 2) := by decide +kernel
theorem dX11_begin_71 : decode cX11_begin 71 = .ok (.iload 5, 2) := by decide +kernel
theorem dX11_begin_73 : decode cX11_begin 73 = .ok (.if_icmp .lt 6, 3) := by decide +kernel
theorem dX11_begin_76 : decode cX11_begin 76 = .ok (.goto 11, 3) := by decide +kernel
theorem dX11_begin_79 : decode cX11_begin 79 = .ok (.iload 6, 2) := by decide +kernel
theorem dX11_begin_81 : decode cX11_begin 81 = .ok (.istore 4, 2) := by decide +kernel
theorem dX11_begin_83 : decode cX11_begin 83 = .ok (.iload 7, 2) := by decide +kernel
theorem dX11_begin_85 : decode cX11_begin 85 = .ok (.istore 5, 2) := by decide +kernel
theorem dX11_begin_87 : decode cX11_begin 87 = .ok (.iinc 6 1, 3) := by decide +kernel
theorem dX11_begin_90 : decode cX11_begin 90 = .ok (.goto (-54), 3) := by decide +kernel
theorem dX11_begin_93 : decode cX11_begin 93 = .ok (.iload_n 3, 1) := by decide +kernel
theorem dX11_begin_94 : decode cX11_begin 94 = .ok (.ifCond .ne 8, 3) := by decide +kernel
theorem dX11_begin_97 : decode cX11_begin 97 = .ok (.iload 4, 2) := by decide +kernel
theorem dX11_begin_99 : decode cX11_begin 99 = .ok (.goto 5, 3) := by decide +kernel
theorem dX11_begin_102 : decode cX11_begin 102 = .ok (.iload 5, 2) := by decide +kernel
theorem dX11_begin_104 : decode cX11_begin 104 = .ok (.ireturn, 1) := by decide +kernel
theorem dX11_within_0 : decode cX11_within 0 = .ok (.aload_n 0, 1) := by decide +kernel
theorem dX11_within_1 : decode cX11_within 1 = .ok (.iload_n 1, 1) := by decide +kernel
theorem dX11_within_2 : decode cX11_within 2 = .ok (.aload_n 0, 1) := by decide +kernel
theorem dX11_within_3 : decode cX11_within 3 = .ok (.iload_n 1, 1) := by decide +kernel
theorem dX11_within_4 : decode cX11_within 4 = .ok (.invokevirtual 168, 3) := by decide +kernel
theorem dX11_within_7 : decode cX11_within 7 = .ok (.invokevirtual 238, 3) := by decide +kernel
theorem dX11_within_10 : decode cX11_within 10 = .ok (.aload_n 0, 1) := by decide +kernel
theorem dX11_within_11 : decode cX11_within 11 = .ok (.invokevirtual 244, 3) := by decide +kernel
theorem dX11_within_14 : decode cX11_within 14 = .ok (.lstore_n 3, 1) := by decide +kernel
theorem dX11_within_15 : decode cX11_within 15 = .ok (.iconst 0, 1) := by decide +kernel
theorem dX11_within_16 : decode cX11_within 16 = .ok (.istore 5, 2) := by decide +kernel
theorem dX11_within_18 : decode cX11_within 18 = .ok (.iload 5, 2) := by decide +kernel
theorem dX11_within_20 : decode cX11_within 20 = .ok (.iload_n 2, 1) := by decide +kernel
theorem dX11_within_21 : decode cX11_within 21 = .ok (.if_icmp .ge 20, 3) := by decide +kernel
theorem dX11_within_24 : decode cX11_within 24 = .ok (.aload_n 0, 1) := by decide +kernel
theorem dX11_within_25 : decode cX11_within 25 = .ok (.invokevirtual 229, 3) := by decide +kernel
theorem dX11_within_28 : decode cX11_within 28 = .ok (.lload_n 3, 1) := by decide +kernel
theorem dX11_within_29 : decode cX11_within 29 = .ok (.aload_n 0, 1) := by decide +kernel
theorem dX11_within_30 : decode cX11_within 30 = .ok (.invokevirtual 244, 3) := by decide +kernel
theorem dX11_within_33 : decode cX11_within 33 = .ok (.lor, 1) := by decide +kernel
theorem dX11_within_34 : decode cX11_within 34 = .ok (.lstore_n 3, 1) := by decide +kernel
theorem dX11_within_35 : decode cX11_within 35 = .ok (.iinc 5 1, 3) := by decide +kernel
theorem dX11_within_38 : decode cX11_within 38 = .ok (.goto (-20), 3) := by decide +kernel
theorem dX11_within_41 : decode cX11_within 41 = .ok (.lload_n 3, 1) := by decide +kernel
theorem dX11_within_42 : decode cX11_within 42 = .ok (.lreturn, 1) := by decide +kernel
theorem dX11_reached_0 : decode cX11_reached 0 = .ok (.aload_n 0, 1) := by decide +kernel
theorem dX11_reached_1 : decode cX11_reached 1 = .ok (.iload_n 1, 1) := by decide +kernel
theorem dX11_reached_2 : decode cX11_reached 2 = .ok (.invokevirtual 165, 3) := by decide +kernel
theorem dX11_reached_5 : decode cX11_reached 5 = .ok (.ifCond .eq 21, 3) := by decide +kernel
theorem dX11_reached_8 : decode cX11_reached 8 = .ok (.iload_n 2, 1) := by decide +kernel
theorem dX11_reached_9 : decode cX11_reached 9 = .ok (.bipush 61, 2) := by decide +kernel
theorem dX11_reached_11 : decode cX11_reached 11 = .ok (.invokestatic 66, 3) := by decide +kernel
theorem dX11_reached_14 : decode cX11_reached 14 = .ok (.ifCond .eq 12, 3) := by decide +kernel
theorem dX11_reached_17 : decode cX11_reached 17 = .ok (.aload_n 0, 1) := by decide +kernel
theorem dX11_reached_18 : decode cX11_reached 18 = .ok (.iload_n 1, 1) := by decide +kernel
theorem dX11_reached_19 : decode cX11_reached 19 = .ok (.iload_n 2, 1) := by decide +kernel
theorem dX11_reached_20 : decode cX11_reached 20 = .ok (.invokevirtual 247, 3) := by decide +kernel
theorem dX11_reached_23 : decode cX11_reached 23 = .ok (.goto 6, 3) := by decide +kernel
theorem dX11_reached_26 : decode cX11_reached 26 = .ok (.ldc2_w 251, 3) := by decide +kernel
theorem dX11_reached_29 : decode cX11_reached 29 = .ok (.lreturn, 1) := by decide +kernel
theorem dX11_never_0 : decode cX11_never 0 = .ok (.aload_n 0, 1) := by decide +kernel
theorem dX11_never_1 : decode cX11_never 1 = .ok (.iload_n 1, 1) := by decide +kernel
theorem dX11_never_2 : decode cX11_never 2 = .ok (.invokevirtual 165, 3) := by decide +kernel
theorem dX11_never_5 : decode cX11_never 5 = .ok (.ifCond .ne 7, 3) := by decide +kernel
theorem dX11_never_8 : decode cX11_never 8 = .ok (.ldc2_w 251, 3) := by decide +kernel
theorem dX11_never_11 : decode cX11_never 11 = .ok (.lreturn, 1) := by decide +kernel
theorem dX11_never_12 : decode cX11_never 12 = .ok (.ldc2_w 103, 3) := by decide +kernel
theorem dX11_never_15 : decode cX11_never 15 = .ok (.aload_n 0, 1) := by decide +kernel
theorem dX11_never_16 : decode cX11_never 16 = .ok (.iload_n 1, 1) := by decide +kernel
theorem dX11_never_17 : decode cX11_never 17 = .ok (.bipush 60, 2) := by decide +kernel
theorem dX11_never_19 : decode cX11_never 19 = .ok (.invokevirtual 247, 3) := by decide +kernel
theorem dX11_never_22 : decode cX11_never 22 = .ok (.ldc2_w 108, 3) := by decide +kernel
theorem dX11_never_25 : decode cX11_never 25 = .ok (.lxor, 1) := by decide +kernel
theorem dX11_never_26 : decode cX11_never 26 = .ok (.land, 1) := by decide +kernel
theorem dX11_never_27 : decode cX11_never 27 = .ok (.lstore_n 2, 1) := by decide +kernel
theorem dX11_never_28 : decode cX11_never 28 = .ok (.iconst 0, 1) := by decide +kernel
theorem dX11_never_29 : decode cX11_never 29 = .ok (.istore 4, 2) := by decide +kernel
theorem dX11_never_31 : decode cX11_never 31 = .ok (.iload 4, 2) := by decide +kernel
theorem dX11_never_33 : decode cX11_never 33 = .ok (.bipush 36, 2) := by decide +kernel
theorem dX11_never_35 : decode cX11_never 35 = .ok (.if_icmp .ge 30, 3) := by decide +kernel
theorem dX11_never_38 : decode cX11_never 38 = .ok (.aload_n 0, 1) := by decide +kernel
theorem dX11_never_39 : decode cX11_never 39 = .ok (.iload 4, 2) := by decide +kernel
theorem dX11_never_41 : decode cX11_never 41 = .ok (.iconst 0, 1) := by decide +kernel
theorem dX11_never_42 : decode cX11_never 42 = .ok (.invokevirtual 155, 3) := by decide +kernel
theorem dX11_never_45 : decode cX11_never 45 = .ok (.ifCond .eq 14, 3) := by decide +kernel
theorem dX11_never_48 : decode cX11_never 48 = .ok (.lload_n 2, 1) := by decide +kernel
theorem dX11_never_49 : decode cX11_never 49 = .ok (.lconst 1, 1) := by decide +kernel
theorem dX11_never_50 : decode cX11_never 50 = .ok (.iload 4, 2) := by decide +kernel
theorem dX11_never_52 : decode cX11_never 52 = .ok (.lshl, 1) := by decide +kernel
theorem dX11_never_53 : decode cX11_never 53 = .ok (.ldc2_w 108, 3) := by decide +kernel
theorem dX11_never_56 : decode cX11_never 56 = .ok (.lxor, 1) := by decide +kernel
theorem dX11_never_57 : decode cX11_never 57 = .ok (.land, 1) := by decide +kernel
theorem dX11_never_58 : decode cX11_never 58 = .ok (.lstore_n 2, 1) := by decide +kernel
theorem dX11_never_59 : decode cX11_never 59 = .ok (.iinc 4 1, 3) := by decide +kernel
theorem dX11_never_62 : decode cX11_never 62 = .ok (.goto (-31), 3) := by decide +kernel
theorem dX11_never_65 : decode cX11_never 65 = .ok (.lload_n 2, 1) := by decide +kernel
theorem dX11_never_66 : decode cX11_never 66 = .ok (.lreturn, 1) := by decide +kernel
theorem dX11_meet_0 : decode cX11_meet 0 = .ok (.aload_n 0, 1) := by decide +kernel
theorem dX11_meet_1 : decode cX11_meet 1 = .ok (.iload_n 1, 1) := by decide +kernel
theorem dX11_meet_2 : decode cX11_meet 2 = .ok (.invokevirtual 165, 3) := by decide +kernel
theorem dX11_meet_5 : decode cX11_meet 5 = .ok (.ifCond .eq 19, 3) := by decide +kernel
theorem dX11_meet_8 : decode cX11_meet 8 = .ok (.aload_n 0, 1) := by decide +kernel
theorem dX11_meet_9 : decode cX11_meet 9 = .ok (.iload_n 2, 1) := by decide +kernel
theorem dX11_meet_10 : decode cX11_meet 10 = .ok (.invokevirtual 165, 3) := by decide +kernel
theorem dX11_meet_13 : decode cX11_meet 13 = .ok (.ifCond .eq 11, 3) := by decide +kernel
theorem dX11_meet_16 : decode cX11_meet 16 = .ok (.iload_n 3, 1) := by decide +kernel
theorem dX11_meet_17 : decode cX11_meet 17 = .ok (.iconst 2, 1) := by decide +kernel
theorem dX11_meet_18 : decode cX11_meet 18 = .ok (.invokestatic 66, 3) := by decide +kernel
theorem dX11_meet_21 : decode cX11_meet 21 = .ok (.ifCond .ne 5, 3) := by decide +kernel
theorem dX11_meet_24 : decode cX11_meet 24 = .ok (.iconst (-1), 1) := by decide +kernel
theorem dX11_meet_25 : decode cX11_meet 25 = .ok (.ireturn, 1) := by decide +kernel
theorem dX11_meet_26 : decode cX11_meet 26 = .ok (.iload_n 1, 1) := by decide +kernel
theorem dX11_meet_27 : decode cX11_meet 27 = .ok (.iload_n 2, 1) := by decide +kernel
theorem dX11_meet_28 : decode cX11_meet 28 = .ok (.if_icmp .ne 6, 3) := by decide +kernel
theorem dX11_meet_31 : decode cX11_meet 31 = .ok (.bipush (-2), 2) := by decide +kernel
theorem dX11_meet_33 : decode cX11_meet 33 = .ok (.ireturn, 1) := by decide +kernel
theorem dX11_meet_34 : decode cX11_meet 34 = .ok (.aload_n 0, 1) := by decide +kernel
theorem dX11_meet_35 : decode cX11_meet 35 = .ok (.iload_n 1, 1) := by decide +kernel
theorem dX11_meet_36 : decode cX11_meet 36 = .ok (.aload_n 0, 1) := by decide +kernel
theorem dX11_meet_37 : decode cX11_meet 37 = .ok (.iload_n 1, 1) := by decide +kernel
theorem dX11_meet_38 : decode cX11_meet 38 = .ok (.invokevirtual 168, 3) := by decide +kernel
theorem dX11_meet_41 : decode cX11_meet 41 = .ok (.invokevirtual 238, 3) := by decide +kernel
theorem dX11_meet_44 : decode cX11_meet 44 = .ok (.iconst 0, 1) := by decide +kernel
theorem dX11_meet_45 : decode cX11_meet 45 = .ok (.istore 4, 2) := by decide +kernel
theorem dX11_meet_47 : decode cX11_meet 47 = .ok (.iload 4, 2) := by decide +kernel
theorem dX11_meet_49 : decode cX11_meet 49 = .ok (.bipush 40, 2) := by decide +kernel
theorem dX11_meet_51 : decode cX11_meet 51 = .ok (.if_icmp .gt 29, 3) := by decide +kernel
theorem dX11_meet_54 : decode cX11_meet 54 = .ok (.iload 4, 2) := by decide +kernel
theorem dX11_meet_56 : decode cX11_meet 56 = .ok (.ifCond .le 7, 3) := by decide +kernel
theorem dX11_meet_59 : decode cX11_meet 59 = .ok (.aload_n 0, 1) := by decide +kernel
theorem dX11_meet_60 : decode cX11_meet 60 = .ok (.invokevirtual 229, 3) := by decide +kernel
theorem dX11_meet_63 : decode cX11_meet 63 = .ok (.aload_n 0, 1) := by decide +kernel
theorem dX11_meet_64 : decode cX11_meet 64 = .ok (.getfield 44, 3) := by decide +kernel
theorem dX11_meet_67 : decode cX11_meet 67 = .ok (.iload 4, 2) := by decide +kernel
theorem dX11_meet_69 : decode cX11_meet 69 = .ok (.aload_n 0, 1) := by decide +kernel
theorem dX11_meet_70 : decode cX11_meet 70 = .ok (.invokevirtual 244, 3) := by decide +kernel
theorem dX11_meet_73 : decode cX11_meet 73 = .ok (.lastore, 1) := by decide +kernel
theorem dX11_meet_74 : decode cX11_meet 74 = .ok (.iinc 4 1, 3) := by decide +kernel
theorem dX11_meet_77 : decode cX11_meet 77 = .ok (.goto (-30), 3) := by decide +kernel
theorem dX11_meet_80 : decode cX11_meet 80 = .ok (.aload_n 0, 1) := by decide +kernel
theorem dX11_meet_81 : decode cX11_meet 81 = .ok (.iload_n 2, 1) := by decide +kernel
theorem dX11_meet_82 : decode cX11_meet 82 = .ok (.aload_n 0, 1) := by decide +kernel
theorem dX11_meet_83 : decode cX11_meet 83 = .ok (.iload_n 2, 1) := by decide +kernel
theorem dX11_meet_84 : decode cX11_meet 84 = .ok (.invokevirtual 168, 3) := by decide +kernel
theorem dX11_meet_87 : decode cX11_meet 87 = .ok (.invokevirtual 238, 3) := by decide +kernel
theorem dX11_meet_90 : decode cX11_meet 90 = .ok (.iconst 0, 1) := by decide +kernel
theorem dX11_meet_91 : decode cX11_meet 91 = .ok (.istore 4, 2) := by decide +kernel
theorem dX11_meet_93 : decode cX11_meet 93 = .ok (.iload 4, 2) := by decide +kernel
theorem dX11_meet_95 : decode cX11_meet 95 = .ok (.bipush 40, 2) := by decide +kernel
theorem dX11_meet_97 : decode cX11_meet 97 = .ok (.if_icmp .gt 73, 3) := by decide +kernel
theorem dX11_meet_100 : decode cX11_meet 100 = .ok (.iload 4, 2) := by decide +kernel
theorem dX11_meet_102 : decode cX11_meet 102 = .ok (.ifCond .le 7, 3) := by decide +kernel
theorem dX11_meet_105 : decode cX11_meet 105 = .ok (.aload_n 0, 1) := by decide +kernel
theorem dX11_meet_106 : decode cX11_meet 106 = .ok (.invokevirtual 229, 3) := by decide +kernel
theorem dX11_meet_109 : decode cX11_meet 109 = .ok (.aload_n 0, 1) := by decide +kernel
theorem dX11_meet_110 : decode cX11_meet 110 = .ok (.getfield 44, 3) := by decide +kernel
theorem dX11_meet_113 : decode cX11_meet 113 = .ok (.iload 4, 2) := by decide +kernel
theorem dX11_meet_115 : decode cX11_meet 115 = .ok (.laload, 1) := by decide +kernel
theorem dX11_meet_116 : decode cX11_meet 116 = .ok (.aload_n 0, 1) := by decide +kernel
theorem dX11_meet_117 : decode cX11_meet 117 = .ok (.invokevirtual 244, 3) := by decide +kernel
theorem dX11_meet_120 : decode cX11_meet 120 = .ok (.land, 1) := by decide +kernel
theorem dX11_meet_121 : decode cX11_meet 121 = .ok (.lstore 5, 2) := by decide +kernel
theorem dX11_meet_123 : decode cX11_meet 123 = .ok (.lload 5, 2) := by decide +kernel
theorem dX11_meet_125 : decode cX11_meet 125 = .ok (.lconst 0, 1) := by decide +kernel
theorem dX11_meet_126 : decode cX11_meet 126 = .ok (.lcmp, 1) := by decide +kernel
theorem dX11_meet_127 : decode cX11_meet 127 = .ok (.ifCond .ne 6, 3) := by decide +kernel
theorem dX11_meet_130 : decode cX11_meet 130 = .ok (.goto 34, 3) := by decide +kernel
theorem dX11_meet_133 : decode cX11_meet 133 = .ok (.iload_n 3, 1) := by decide +kernel
theorem dX11_meet_134 : decode cX11_meet 134 = .ok (.ifCond .ne 6, 3) := by decide +kernel
theorem dX11_meet_137 : decode cX11_meet 137 = .ok (.iload 4, 2) := by decide +kernel
theorem dX11_meet_139 : decode cX11_meet 139 = .ok (.ireturn, 1) := by decide +kernel
theorem dX11_meet_140 : decode cX11_meet 140 = .ok (.iconst 0, 1) := by decide +kernel
theorem dX11_meet_141 : decode cX11_meet 141 = .ok (.istore 7, 2) := by decide +kernel
theorem dX11_meet_143 : decode cX11_meet 143 = .ok (.lload 5, 2) := by decide +kernel
theorem dX11_meet_145 : decode cX11_meet 145 = .ok (.iload 7, 2) := by decide +kernel
theorem dX11_meet_147 : decode cX11_meet 147 = .ok (.lshr, 1) := by decide +kernel
theorem dX11_meet_148 : decode cX11_meet 148 = .ok (.lconst 1, 1) := by decide +kernel
theorem dX11_meet_149 : decode cX11_meet 149 = .ok (.land, 1) := by decide +kernel
theorem dX11_meet_150 : decode cX11_meet 150 = .ok (.lconst 0, 1) := by decide +kernel
theorem dX11_meet_151 : decode cX11_meet 151 = .ok (.lcmp, 1) := by decide +kernel
theorem dX11_meet_152 : decode cX11_meet 152 = .ok (.ifCond .ne 9, 3) := by decide +kernel
theorem dX11_meet_155 : decode cX11_meet 155 = .ok (.iinc 7 1, 3) := by decide +kernel
theorem dX11_meet_158 : decode cX11_meet 158 = .ok (.goto (-15), 3) := by decide +kernel
theorem dX11_meet_161 : decode cX11_meet 161 = .ok (.iload 7, 2) := by decide +kernel
theorem dX11_meet_163 : decode cX11_meet 163 = .ok (.ireturn, 1) := by decide +kernel
theorem dX11_meet_164 : decode cX11_meet 164 = .ok (.iinc 4 1, 3) := by decide +kernel
theorem dX11_meet_167 : decode cX11_meet 167 = .ok (.goto (-74), 3) := by decide +kernel
theorem dX11_meet_170 : decode cX11_meet 170 = .ok (.bipush (-5), 2) := by decide +kernel
theorem dX11_meet_172 : decode cX11_meet 172 = .ok (.ireturn, 1) := by decide +kernel
theorem dX11_home_0 : decode cX11_home 0 = .ok (.aload_n 0, 1) := by decide +kernel
theorem dX11_home_1 : decode cX11_home 1 = .ok (.iload_n 1, 1) := by decide +kernel
theorem dX11_home_2 : decode cX11_home 2 = .ok (.invokevirtual 165, 3) := by decide +kernel
theorem dX11_home_5 : decode cX11_home 5 = .ok (.ifCond .ne 5, 3) := by decide +kernel
theorem dX11_home_8 : decode cX11_home 8 = .ok (.iconst (-1), 1) := by decide +kernel
theorem dX11_home_9 : decode cX11_home 9 = .ok (.ireturn, 1) := by decide +kernel
theorem dX11_home_10 : decode cX11_home 10 = .ok (.aload_n 0, 1) := by decide +kernel
theorem dX11_home_11 : decode cX11_home 11 = .ok (.iload_n 1, 1) := by decide +kernel
theorem dX11_home_12 : decode cX11_home 12 = .ok (.aload_n 0, 1) := by decide +kernel
theorem dX11_home_13 : decode cX11_home 13 = .ok (.iload_n 1, 1) := by decide +kernel
theorem dX11_home_14 : decode cX11_home 14 = .ok (.invokevirtual 168, 3) := by decide +kernel
theorem dX11_home_17 : decode cX11_home 17 = .ok (.invokevirtual 238, 3) := by decide +kernel
theorem dX11_home_20 : decode cX11_home 20 = .ok (.iconst 1, 1) := by decide +kernel
theorem dX11_home_21 : decode cX11_home 21 = .ok (.istore_n 2, 1) := by decide +kernel
theorem dX11_home_22 : decode cX11_home 22 = .ok (.iload_n 2, 1) := by decide +kernel
theorem dX11_home_23 : decode cX11_home 23 = .ok (.bipush 60, 2) := by decide +kernel
theorem dX11_home_25 : decode cX11_home 25 = .ok (.if_icmp .gt 65, 3) := by decide +kernel
theorem dX11_home_28 : decode cX11_home 28 = .ok (.aload_n 0, 1) := by decide +kernel
theorem dX11_home_29 : decode cX11_home 29 = .ok (.invokevirtual 229, 3) := by decide +kernel
theorem dX11_home_32 : decode cX11_home 32 = .ok (.iload_n 2, 1) := by decide +kernel
theorem dX11_home_33 : decode cX11_home 33 = .ok (.aload_n 0, 1) := by decide +kernel
theorem dX11_home_34 : decode cX11_home 34 = .ok (.invokevirtual 148, 3) := by decide +kernel
theorem dX11_home_37 : decode cX11_home 37 = .ok (.irem, 1) := by decide +kernel
theorem dX11_home_38 : decode cX11_home 38 = .ok (.ifCond .eq 6, 3) := by decide +kernel
theorem dX11_home_41 : decode cX11_home 41 = .ok (.goto 43, 3) := by decide +kernel
theorem dX11_home_44 : decode cX11_home 44 = .ok (.iconst 0, 1) := by decide +kernel
theorem dX11_home_45 : decode cX11_home 45 = .ok (.istore_n 3, 1) := by decide +kernel
theorem dX11_home_46 : decode cX11_home 46 = .ok (.iload_n 3, 1) := by decide +kernel
theorem dX11_home_47 : decode cX11_home 47 = .ok (.bipush 36, 2) := by decide +kernel
theorem dX11_home_49 : decode cX11_home 49 = .ok (.if_icmp .ge 35, 3) := by decide +kernel
theorem dX11_home_52 : decode cX11_home 52 = .ok (.aload_n 0, 1) := by decide +kernel
theorem dX11_home_53 : decode cX11_home 53 = .ok (.getfield 31, 3) := by decide +kernel
theorem dX11_home_56 : decode cX11_home 56 = .ok (.aload_n 0, 1) := by decide +kernel
theorem dX11_home_57 : decode cX11_home 57 = .ok (.iload_n 1, 1) := by decide +kernel
theorem dX11_home_58 : decode cX11_home 58 = .ok (.iconst 2, 1) := by decide +kernel
theorem dX11_home_59 : decode cX11_home 59 = .ok (.invokevirtual 162, 3) := by decide +kernel
theorem dX11_home_62 : decode cX11_home 62 = .ok (.aload_n 0, 1) := by decide +kernel
theorem dX11_home_63 : decode cX11_home 63 = .ok (.iload_n 1, 1) := by decide +kernel
theorem dX11_home_64 : decode cX11_home 64 = .ok (.iconst 3, 1) := by decide +kernel
theorem dX11_home_65 : decode cX11_home 65 = .ok (.invokevirtual 162, 3) := by decide +kernel
theorem dX11_home_68 : decode cX11_home 68 = .ok (.iload_n 3, 1) := by decide +kernel
theorem dX11_home_69 : decode cX11_home 69 = .ok (.invokestatic 201, 3) := by decide +kernel
theorem dX11_home_72 : decode cX11_home 72 = .ok (.iaload, 1) := by decide +kernel
theorem dX11_home_73 : decode cX11_home 73 = .ok (.ifCond .eq 5, 3) := by decide +kernel
theorem dX11_home_76 : decode cX11_home 76 = .ok (.iload_n 2, 1) := by decide +kernel
theorem dX11_home_77 : decode cX11_home 77 = .ok (.ireturn, 1) := by decide +kernel
theorem dX11_home_78 : decode cX11_home 78 = .ok (.iinc 3 1, 3) := by decide +kernel
theorem dX11_home_81 : decode cX11_home 81 = .ok (.goto (-35), 3) := by decide +kernel
theorem dX11_home_84 : decode cX11_home 84 = .ok (.iinc 2 1, 3) := by decide +kernel
theorem dX11_home_87 : decode cX11_home 87 = .ok (.goto (-65), 3) := by decide +kernel
theorem dX11_home_90 : decode cX11_home 90 = .ok (.bipush (-5), 2) := by decide +kernel
theorem dX11_home_92 : decode cX11_home 92 = .ok (.ireturn, 1) := by decide +kernel
theorem dX11_row_0 : decode cX11_row 0 = .ok (.iload_n 1, 1) := by decide +kernel
theorem dX11_row_1 : decode cX11_row 1 = .ok (.iconst (-1), 1) := by decide +kernel
theorem dX11_row_2 : decode cX11_row 2 = .ok (.if_icmp .ne 12, 3) := by decide +kernel
theorem dX11_row_5 : decode cX11_row 5 = .ok (.aload_n 0, 1) := by decide +kernel
theorem dX11_row_6 : decode cX11_row 6 = .ok (.getfield 9, 3) := by decide +kernel
theorem dX11_row_9 : decode cX11_row 9 = .ok (.iconst 2, 1) := by decide +kernel
theorem dX11_row_10 : decode cX11_row 10 = .ok (.iconst 0, 1) := by decide +kernel
theorem dX11_row_11 : decode cX11_row 11 = .ok (.iastore, 1) := by decide +kernel
theorem dX11_row_12 : decode cX11_row 12 = .ok (.iconst 0, 1) := by decide +kernel
theorem dX11_row_13 : decode cX11_row 13 = .ok (.ireturn, 1) := by decide +kernel
theorem dX11_row_14 : decode cX11_row 14 = .ok (.iload_n 1, 1) := by decide +kernel
theorem dX11_row_15 : decode cX11_row 15 = .ok (.bipush 6, 2) := by decide +kernel
theorem dX11_row_17 : decode cX11_row 17 = .ok (.invokestatic 66, 3) := by decide +kernel
theorem dX11_row_20 : decode cX11_row 20 = .ok (.ifCond .ne 5, 3) := by decide +kernel
theorem dX11_row_23 : decode cX11_row 23 = .ok (.iconst (-1), 1) := by decide +kernel
theorem dX11_row_24 : decode cX11_row 24 = .ok (.ireturn, 1) := by decide +kernel
theorem dX11_row_25 : decode cX11_row 25 = .ok (.aload_n 0, 1) := by decide +kernel
theorem dX11_row_26 : decode cX11_row 26 = .ok (.getfield 9, 3) := by decide +kernel
theorem dX11_row_29 : decode cX11_row 29 = .ok (.iconst 2, 1) := by decide +kernel
theorem dX11_row_30 : decode cX11_row 30 = .ok (.iaload, 1) := by decide +kernel
theorem dX11_row_31 : decode cX11_row 31 = .ok (.bipush 12, 2) := by decide +kernel
theorem dX11_row_33 : decode cX11_row 33 = .ok (.if_icmp .ne 6, 3) := by decide +kernel
theorem dX11_row_36 : decode cX11_row 36 = .ok (.bipush (-4), 2) := by decide +kernel
theorem dX11_row_38 : decode cX11_row 38 = .ok (.ireturn, 1) := by decide +kernel
theorem dX11_row_39 : decode cX11_row 39 = .ok (.aload_n 0, 1) := by decide +kernel
theorem dX11_row_40 : decode cX11_row 40 = .ok (.getfield 9, 3) := by decide +kernel
theorem dX11_row_43 : decode cX11_row 43 = .ok (.bipush 46, 2) := by decide +kernel
theorem dX11_row_45 : decode cX11_row 45 = .ok (.aload_n 0, 1) := by decide +kernel
theorem dX11_row_46 : decode cX11_row 46 = .ok (.getfield 9, 3) := by decide +kernel
theorem dX11_row_49 : decode cX11_row 49 = .ok (.iconst 2, 1) := by decide +kernel
theorem dX11_row_50 : decode cX11_row 50 = .ok (.iaload, 1) := by decide +kernel
theorem dX11_row_51 : decode cX11_row 51 = .ok (.iadd, 1) := by decide +kernel
theorem dX11_row_52 : decode cX11_row 52 = .ok (.iload_n 1, 1) := by decide +kernel
theorem dX11_row_53 : decode cX11_row 53 = .ok (.iastore, 1) := by decide +kernel
theorem dX11_row_54 : decode cX11_row 54 = .ok (.aload_n 0, 1) := by decide +kernel
theorem dX11_row_55 : decode cX11_row 55 = .ok (.getfield 9, 3) := by decide +kernel
theorem dX11_row_58 : decode cX11_row 58 = .ok (.iconst 2, 1) := by decide +kernel
theorem dX11_row_59 : decode cX11_row 59 = .ok (.dup2, 1) := by decide +kernel
theorem dX11_row_60 : decode cX11_row 60 = .ok (.iaload, 1) := by decide +kernel
theorem dX11_row_61 : decode cX11_row 61 = .ok (.iconst 1, 1) := by decide +kernel
theorem dX11_row_62 : decode cX11_row 62 = .ok (.iadd, 1) := by decide +kernel
theorem dX11_row_63 : decode cX11_row 63 = .ok (.iastore, 1) := by decide +kernel
theorem dX11_row_64 : decode cX11_row 64 = .ok (.aload_n 0, 1) := by decide +kernel
theorem dX11_row_65 : decode cX11_row 65 = .ok (.getfield 9, 3) := by decide +kernel
theorem dX11_row_68 : decode cX11_row 68 = .ok (.iconst 2, 1) := by decide +kernel
theorem dX11_row_69 : decode cX11_row 69 = .ok (.iaload, 1) := by decide +kernel
theorem dX11_row_70 : decode cX11_row 70 = .ok (.ireturn, 1) := by decide +kernel
theorem dX11_hand_0 : decode cX11_hand 0 = .ok (.aload_n 0, 1) := by decide +kernel
theorem dX11_hand_1 : decode cX11_hand 1 = .ok (.iload_n 1, 1) := by decide +kernel
theorem dX11_hand_2 : decode cX11_hand 2 = .ok (.invokevirtual 165, 3) := by decide +kernel
theorem dX11_hand_5 : decode cX11_hand 5 = .ok (.ifCond .eq 11, 3) := by decide +kernel
theorem dX11_hand_8 : decode cX11_hand 8 = .ok (.iload_n 2, 1) := by decide +kernel
theorem dX11_hand_9 : decode cX11_hand 9 = .ok (.iconst 3, 1) := by decide +kernel
theorem dX11_hand_10 : decode cX11_hand 10 = .ok (.invokestatic 66, 3) := by decide +kernel
theorem dX11_hand_13 : decode cX11_hand 13 = .ok (.ifCond .ne 5, 3) := by decide +kernel
theorem dX11_hand_16 : decode cX11_hand 16 = .ok (.iconst (-1), 1) := by decide +kernel
theorem dX11_hand_17 : decode cX11_hand 17 = .ok (.ireturn, 1) := by decide +kernel
theorem dX11_hand_18 : decode cX11_hand 18 = .ok (.iconst 0, 1) := by decide +kernel
theorem dX11_hand_19 : decode cX11_hand 19 = .ok (.istore_n 3, 1) := by decide +kernel
theorem dX11_hand_20 : decode cX11_hand 20 = .ok (.iload_n 3, 1) := by decide +kernel
theorem dX11_hand_21 : decode cX11_hand 21 = .ok (.bipush 7, 2) := by decide +kernel
theorem dX11_hand_23 : decode cX11_hand 23 = .ok (.if_icmp .ge 21, 3) := by decide +kernel
theorem dX11_hand_26 : decode cX11_hand 26 = .ok (.aload_n 0, 1) := by decide +kernel
theorem dX11_hand_27 : decode cX11_hand 27 = .ok (.getfield 47, 3) := by decide +kernel
theorem dX11_hand_30 : decode cX11_hand 30 = .ok (.iload_n 3, 1) := by decide +kernel
theorem dX11_hand_31 : decode cX11_hand 31 = .ok (.aload_n 0, 1) := by decide +kernel
theorem dX11_hand_32 : decode cX11_hand 32 = .ok (.iload_n 1, 1) := by decide +kernel
theorem dX11_hand_33 : decode cX11_hand 33 = .ok (.iload_n 3, 1) := by decide +kernel
theorem dX11_hand_34 : decode cX11_hand 34 = .ok (.invokevirtual 162, 3) := by decide +kernel
theorem dX11_hand_37 : decode cX11_hand 37 = .ok (.iastore, 1) := by decide +kernel
theorem dX11_hand_38 : decode cX11_hand 38 = .ok (.iinc 3 1, 3) := by decide +kernel
theorem dX11_hand_41 : decode cX11_hand 41 = .ok (.goto (-21), 3) := by decide +kernel
theorem dX11_hand_44 : decode cX11_hand 44 = .ok (.iconst 0, 1) := by decide +kernel
theorem dX11_hand_45 : decode cX11_hand 45 = .ok (.istore_n 3, 1) := by decide +kernel
theorem dX11_hand_46 : decode cX11_hand 46 = .ok (.iload_n 3, 1) := by decide +kernel
theorem dX11_hand_47 : decode cX11_hand 47 = .ok (.aload_n 0, 1) := by decide +kernel
theorem dX11_hand_48 : decode cX11_hand 48 = .ok (.getfield 9, 3) := by decide +kernel
theorem dX11_hand_51 : decode cX11_hand 51 = .ok (.iconst 2, 1) := by decide +kernel
theorem dX11_hand_52 : decode cX11_hand 52 = .ok (.iaload, 1) := by decide +kernel
theorem dX11_hand_53 : decode cX11_hand 53 = .ok (.if_icmp .ge 44, 3) := by decide +kernel
theorem dX11_hand_56 : decode cX11_hand 56 = .ok (.aload_n 0, 1) := by decide +kernel
theorem dX11_hand_57 : decode cX11_hand 57 = .ok (.iload_n 1, 1) := by decide +kernel
theorem dX11_hand_58 : decode cX11_hand 58 = .ok (.invokevirtual 194, 3) := by decide +kernel
theorem dX11_hand_61 : decode cX11_hand 61 = .ok (.aload_n 0, 1) := by decide +kernel
theorem dX11_hand_62 : decode cX11_hand 62 = .ok (.getfield 9, 3) := by decide +kernel
theorem dX11_hand_65 : decode cX11_hand 65 = .ok (.bipush 46, 2) := by decide +kernel
theorem dX11_hand_67 : decode cX11_hand 67 = .ok (.iload_n 3, 1) := by decide +kernel
theorem dX11_hand_68 : decode cX11_hand 68 = .ok (.iadd, 1) := by decide +kernel
theorem dX11_hand_69 : decode cX11_hand 69 = .ok (.iaload, 1) := by decide +kernel
theorem dX11_hand_70 : decode cX11_hand 70 = .ok (.ishr, 1) := by decide +kernel
theorem dX11_hand_71 : decode cX11_hand 71 = .ok (.iconst 1, 1) := by decide +kernel
theorem dX11_hand_72 : decode cX11_hand 72 = .ok (.iand, 1) := by decide +kernel
theorem dX11_hand_73 : decode cX11_hand 73 = .ok (.iconst 1, 1) := by decide +kernel
theorem dX11_hand_74 : decode cX11_hand 74 = .ok (.if_icmp .ne 23, 3) := by decide +kernel
theorem dX11_hand_77 : decode cX11_hand 77 = .ok (.aload_n 0, 1) := by decide +kernel
theorem dX11_hand_78 : decode cX11_hand 78 = .ok (.iload_n 1, 1) := by decide +kernel
theorem dX11_hand_79 : decode cX11_hand 79 = .ok (.aload_n 0, 1) := by decide +kernel
theorem dX11_hand_80 : decode cX11_hand 80 = .ok (.getfield 9, 3) := by decide +kernel
theorem dX11_hand_83 : decode cX11_hand 83 = .ok (.bipush 46, 2) := by decide +kernel
theorem dX11_hand_85 : decode cX11_hand 85 = .ok (.iload_n 3, 1) := by decide +kernel
theorem dX11_hand_86 : decode cX11_hand 86 = .ok (.iadd, 1) := by decide +kernel
theorem dX11_hand_87 : decode cX11_hand 87 = .ok (.iaload, 1) := by decide +kernel
theorem dX11_hand_88 : decode cX11_hand 88 = .ok (.invokevirtual 197, 3) := by decide +kernel
theorem dX11_hand_91 : decode cX11_hand 91 = .ok (.iinc 3 1, 3) := by decide +kernel
theorem dX11_hand_94 : decode cX11_hand 94 = .ok (.goto (-48), 3) := by decide +kernel
theorem dX11_hand_97 : decode cX11_hand 97 = .ok (.iload_n 2, 1) := by decide +kernel
theorem dX11_hand_98 : decode cX11_hand 98 = .ok (.ifCond .ne 7, 3) := by decide +kernel
theorem dX11_hand_101 : decode cX11_hand 101 = .ok (.iload_n 3, 1) := by decide +kernel
theorem dX11_hand_102 : decode cX11_hand 102 = .ok (.goto 23, 3) := by decide +kernel
theorem dX11_hand_105 : decode cX11_hand 105 = .ok (.iload_n 2, 1) := by decide +kernel
theorem dX11_hand_106 : decode cX11_hand 106 = .ok (.iconst 1, 1) := by decide +kernel
theorem dX11_hand_107 : decode cX11_hand 107 = .ok (.if_icmp .ne 12, 3) := by decide +kernel
theorem dX11_hand_110 : decode cX11_hand 110 = .ok (.aload_n 0, 1) := by decide +kernel
theorem dX11_hand_111 : decode cX11_hand 111 = .ok (.iload_n 1, 1) := by decide +kernel
theorem dX11_hand_112 : decode cX11_hand 112 = .ok (.iconst 2, 1) := by decide +kernel
theorem dX11_hand_113 : decode cX11_hand 113 = .ok (.invokevirtual 162, 3) := by decide +kernel
theorem dX11_hand_116 : decode cX11_hand 116 = .ok (.goto 9, 3) := by decide +kernel
theorem dX11_hand_119 : decode cX11_hand 119 = .ok (.aload_n 0, 1) := by decide +kernel
theorem dX11_hand_120 : decode cX11_hand 120 = .ok (.iload_n 1, 1) := by decide +kernel
theorem dX11_hand_121 : decode cX11_hand 121 = .ok (.iconst 3, 1) := by decide +kernel
theorem dX11_hand_122 : decode cX11_hand 122 = .ok (.invokevirtual 162, 3) := by decide +kernel
theorem dX11_hand_125 : decode cX11_hand 125 = .ok (.istore 4, 2) := by decide +kernel
theorem dX11_hand_127 : decode cX11_hand 127 = .ok (.iconst 0, 1) := by decide +kernel
theorem dX11_hand_128 : decode cX11_hand 128 = .ok (.istore 5, 2) := by decide +kernel
theorem dX11_hand_130 : decode cX11_hand 130 = .ok (.iload 5, 2) := by decide +kernel
theorem dX11_hand_132 : decode cX11_hand 132 = .ok (.bipush 7, 2) := by decide +kernel
theorem dX11_hand_134 : decode cX11_hand 134 = .ok (.if_icmp .ge 23, 3) := by decide +kernel
theorem dX11_hand_137 : decode cX11_hand 137 = .ok (.aload_n 0, 1) := by decide +kernel
theorem dX11_hand_138 : decode cX11_hand 138 = .ok (.iload_n 1, 1) := by decide +kernel
theorem dX11_hand_139 : decode cX11_hand 139 = .ok (.iload 5, 2) := by decide +kernel
theorem dX11_hand_141 : decode cX11_hand 141 = .ok (.aload_n 0, 1) := by decide +kernel
theorem dX11_hand_142 : decode cX11_hand 142 = .ok (.getfield 47, 3) := by decide +kernel
theorem dX11_hand_145 : decode cX11_hand 145 = .ok (.iload 5, 2) := by decide +kernel
theorem dX11_hand_147 : decode cX11_hand 147 = .ok (.iaload, 1) := by decide +kernel
theorem dX11_hand_148 : decode cX11_hand 148 = .ok (.invokevirtual 158, 3) := by decide +kernel
theorem dX11_hand_151 : decode cX11_hand 151 = .ok (.iinc 5 1, 3) := by decide +kernel
theorem dX11_hand_154 : decode cX11_hand 154 = .ok (.goto (-24), 3) := by decide +kernel
theorem dX11_hand_157 : decode cX11_hand 157 = .ok (.iload 4, 2) := by decide +kernel
theorem dX11_hand_159 : decode cX11_hand 159 = .ok (.ireturn, 1) := by decide +kernel
theorem dX11_track_0 : decode cX11_track 0 = .ok (.iload_n 1, 1) := by decide +kernel
theorem dX11_track_1 : decode cX11_track 1 = .ok (.iconst (-1), 1) := by decide +kernel
theorem dX11_track_2 : decode cX11_track 2 = .ok (.if_icmp .ne 12, 3) := by decide +kernel
theorem dX11_track_5 : decode cX11_track 5 = .ok (.aload_n 0, 1) := by decide +kernel
theorem dX11_track_6 : decode cX11_track 6 = .ok (.getfield 9, 3) := by decide +kernel
theorem dX11_track_9 : decode cX11_track 9 = .ok (.iconst 3, 1) := by decide +kernel
theorem dX11_track_10 : decode cX11_track 10 = .ok (.iconst 0, 1) := by decide +kernel
theorem dX11_track_11 : decode cX11_track 11 = .ok (.iastore, 1) := by decide +kernel
theorem dX11_track_12 : decode cX11_track 12 = .ok (.iconst 0, 1) := by decide +kernel
theorem dX11_track_13 : decode cX11_track 13 = .ok (.ireturn, 1) := by decide +kernel
theorem dX11_track_14 : decode cX11_track 14 = .ok (.iload_n 1, 1) := by decide +kernel
theorem dX11_track_15 : decode cX11_track 15 = .ok (.invokestatic 151, 3) := by decide +kernel
theorem dX11_track_18 : decode cX11_track 18 = .ok (.ifCond .ne 5, 3) := by decide +kernel
theorem dX11_track_21 : decode cX11_track 21 = .ok (.iconst (-1), 1) := by decide +kernel
theorem dX11_track_22 : decode cX11_track 22 = .ok (.ireturn, 1) := by decide +kernel
theorem dX11_track_23 : decode cX11_track 23 = .ok (.aload_n 0, 1) := by decide +kernel
theorem dX11_track_24 : decode cX11_track 24 = .ok (.getfield 9, 3) := by decide +kernel
theorem dX11_track_27 : decode cX11_track 27 = .ok (.iconst 3, 1) := by decide +kernel
theorem dX11_track_28 : decode cX11_track 28 = .ok (.iaload, 1) := by decide +kernel
theorem dX11_track_29 : decode cX11_track 29 = .ok (.bipush 12, 2) := by decide +kernel
theorem dX11_track_31 : decode cX11_track 31 = .ok (.if_icmp .ne 6, 3) := by decide +kernel
theorem dX11_track_34 : decode cX11_track 34 = .ok (.bipush (-4), 2) := by decide +kernel
theorem dX11_track_36 : decode cX11_track 36 = .ok (.ireturn, 1) := by decide +kernel
theorem dX11_track_37 : decode cX11_track 37 = .ok (.aload_n 0, 1) := by decide +kernel
theorem dX11_track_38 : decode cX11_track 38 = .ok (.getfield 9, 3) := by decide +kernel
theorem dX11_track_41 : decode cX11_track 41 = .ok (.bipush 58, 2) := by decide +kernel
theorem dX11_track_43 : decode cX11_track 43 = .ok (.aload_n 0, 1) := by decide +kernel
theorem dX11_track_44 : decode cX11_track 44 = .ok (.getfield 9, 3) := by decide +kernel
theorem dX11_track_47 : decode cX11_track 47 = .ok (.iconst 3, 1) := by decide +kernel
theorem dX11_track_48 : decode cX11_track 48 = .ok (.iaload, 1) := by decide +kernel
theorem dX11_track_49 : decode cX11_track 49 = .ok (.iadd, 1) := by decide +kernel
theorem dX11_track_50 : decode cX11_track 50 = .ok (.iload_n 1, 1) := by decide +kernel
theorem dX11_track_51 : decode cX11_track 51 = .ok (.iastore, 1) := by decide +kernel
theorem dX11_track_52 : decode cX11_track 52 = .ok (.aload_n 0, 1) := by decide +kernel
theorem dX11_track_53 : decode cX11_track 53 = .ok (.getfield 9, 3) := by decide +kernel
theorem dX11_track_56 : decode cX11_track 56 = .ok (.iconst 3, 1) := by decide +kernel
theorem dX11_track_57 : decode cX11_track 57 = .ok (.dup2, 1) := by decide +kernel
theorem dX11_track_58 : decode cX11_track 58 = .ok (.iaload, 1) := by decide +kernel
theorem dX11_track_59 : decode cX11_track 59 = .ok (.iconst 1, 1) := by decide +kernel
theorem dX11_track_60 : decode cX11_track 60 = .ok (.iadd, 1) := by decide +kernel
theorem dX11_track_61 : decode cX11_track 61 = .ok (.iastore, 1) := by decide +kernel
theorem dX11_track_62 : decode cX11_track 62 = .ok (.aload_n 0, 1) := by decide +kernel
theorem dX11_track_63 : decode cX11_track 63 = .ok (.getfield 9, 3) := by decide +kernel
theorem dX11_track_66 : decode cX11_track 66 = .ok (.iconst 3, 1) := by decide +kernel
theorem dX11_track_67 : decode cX11_track 67 = .ok (.iaload, 1) := by decide +kernel
theorem dX11_track_68 : decode cX11_track 68 = .ok (.ireturn, 1) := by decide +kernel
theorem dX11_mightHave_0 : decode cX11_mightHave 0 = .ok (.aload_n 0, 1) := by decide +kernel
theorem dX11_mightHave_1 : decode cX11_mightHave 1 = .ok (.getfield 9, 3) := by decide +kernel
theorem dX11_mightHave_4 : decode cX11_mightHave 4 = .ok (.bipush 58, 2) := by decide +kernel
theorem dX11_mightHave_6 : decode cX11_mightHave 6 = .ok (.iaload, 1) := by decide +kernel
theorem dX11_mightHave_7 : decode cX11_mightHave 7 = .ok (.istore 5, 2) := by decide +kernel
theorem dX11_mightHave_9 : decode cX11_mightHave 9 = .ok (.aload_n 0, 1) := by decide +kernel
theorem dX11_mightHave_10 : decode cX11_mightHave 10 = .ok (.iload_n 1, 1) := by decide +kernel
theorem dX11_mightHave_11 : decode cX11_mightHave 11 = .ok (.iload_n 2, 1) := by decide +kernel
theorem dX11_mightHave_12 : decode cX11_mightHave 12 = .ok (.iload 5, 2) := by decide +kernel
theorem dX11_mightHave_14 : decode cX11_mightHave 14 = .ok (.iload_n 3, 1) := by decide +kernel
theorem dX11_mightHave_15 : decode cX11_mightHave 15 = .ok (.iload 5, 2) := by decide +kernel
theorem dX11_mightHave_17 : decode cX11_mightHave 17 = .ok (.iload 4, 2) := by decide +kernel
theorem dX11_mightHave_19 : decode cX11_mightHave 19 = .ok (.iconst 0, 1) := by decide +kernel
theorem dX11_mightHave_20 : decode cX11_mightHave 20 = .ok (.invokevirtual 219, 3) := by decide +kernel
theorem dX11_mightHave_23 : decode cX11_mightHave 23 = .ok (.iconst 1, 1) := by decide +kernel
theorem dX11_mightHave_24 : decode cX11_mightHave 24 = .ok (.istore 6, 2) := by decide +kernel
theorem dX11_mightHave_26 : decode cX11_mightHave 26 = .ok (.iload 6, 2) := by decide +kernel
theorem dX11_mightHave_28 : decode cX11_mightHave 28 = .ok (.aload_n 0, 1) := by decide +kernel
theorem dX11_mightHave_29 : decode cX11_mightHave 29 = .ok (.getfield 9, 3) := by decide +kernel
theorem dX11_mightHave_32 : decode cX11_mightHave 32 = .ok (.iconst 3, 1) := by decide +kernel
theorem dX11_mightHave_33 : decode cX11_mightHave 33 = .ok (.iaload, 1) := by decide +kernel
theorem dX11_mightHave_34 : decode cX11_mightHave 34 = .ok (.if_icmp .ge 90, 3) := by decide +kernel
theorem dX11_mightHave_37 : decode cX11_mightHave 37 = .ok (.aload_n 0, 1) := by decide +kernel
theorem dX11_mightHave_38 : decode cX11_mightHave 38 = .ok (.invokevirtual 229, 3) := by decide +kernel
theorem dX11_mightHave_41 : decode cX11_mightHave 41 = .ok (.iconst 0, 1) := by decide +kernel
theorem dX11_mightHave_42 : decode cX11_mightHave 42 = .ok (.istore 7, 2) := by decide +kernel
theorem dX11_mightHave_44 : decode cX11_mightHave 44 = .ok (.iconst 0, 1) := by decide +kernel
theorem dX11_mightHave_45 : decode cX11_mightHave 45 = .ok (.istore 8, 2) := by decide +kernel
theorem dX11_mightHave_47 : decode cX11_mightHave 47 = .ok (.iload 8, 2) := by decide +kernel
theorem dX11_mightHave_49 : decode cX11_mightHave 49 = .ok (.sipush 5184, 3) := by decide +kernel
theorem dX11_mightHave_52 : decode cX11_mightHave 52 = .ok (.if_icmp .ge 59, 3) := by decide +kernel
theorem dX11_mightHave_55 : decode cX11_mightHave 55 = .ok (.iload 8, 2) := by decide +kernel
theorem dX11_mightHave_57 : decode cX11_mightHave 57 = .ok (.bipush 36, 2) := by decide +kernel
theorem dX11_mightHave_59 : decode cX11_mightHave 59 = .ok (.idiv, 1) := by decide +kernel
theorem dX11_mightHave_60 : decode cX11_mightHave 60 = .ok (.iconst 4, 1) := by decide +kernel
theorem dX11_mightHave_61 : decode cX11_mightHave 61 = .ok (.idiv, 1) := by decide +kernel
theorem dX11_mightHave_62 : decode cX11_mightHave 62 = .ok (.aload_n 0, 1) := by decide +kernel
theorem dX11_mightHave_63 : decode cX11_mightHave 63 = .ok (.getfield 9, 3) := by decide +kernel
theorem dX11_mightHave_66 : decode cX11_mightHave 66 = .ok (.bipush 58, 2) := by decide +kernel
theorem dX11_mightHave_68 : decode cX11_mightHave 68 = .ok (.iload 6, 2) := by decide +kernel
theorem dX11_mightHave_70 : decode cX11_mightHave 70 = .ok (.iadd, 1) := by decide +kernel
theorem dX11_mightHave_71 : decode cX11_mightHave 71 = .ok (.iaload, 1) := by decide +kernel
theorem dX11_mightHave_72 : decode cX11_mightHave 72 = .ok (.if_icmp .eq 11, 3) := by decide +kernel
theorem dX11_mightHave_75 : decode cX11_mightHave 75 = .ok (.aload_n 0, 1) := by decide +kernel
theorem dX11_mightHave_76 : decode cX11_mightHave 76 = .ok (.getfield 31, 3) := by decide +kernel
theorem dX11_mightHave_79 : decode cX11_mightHave 79 = .ok (.iload 8, 2) := by decide +kernel
theorem dX11_mightHave_81 : decode cX11_mightHave 81 = .ok (.iconst 0, 1) := by decide +kernel
theorem dX11_mightHave_82 : decode cX11_mightHave 82 = .ok (.iastore, 1) := by decide +kernel
theorem dX11_mightHave_83 : decode cX11_mightHave 83 = .ok (.iload 7, 2) := by decide +kernel
theorem dX11_mightHave_85 : decode cX11_mightHave 85 = .ok (.ifCond .ne 13, 3) := by decide +kernel
theorem dX11_mightHave_88 : decode cX11_mightHave 88 = .ok (.aload_n 0, 1) := by decide +kernel
theorem dX11_mightHave_89 : decode cX11_mightHave 89 = .ok (.getfield 31, 3) := by decide +kernel
theorem dX11_mightHave_92 : decode cX11_mightHave 92 = .ok (.iload 8, 2) := by decide +kernel
theorem dX11_mightHave_94 : decode cX11_mightHave 94 = .ok (.iaload, 1) := by decide +kernel
theorem dX11_mightHave_95 : decode cX11_mightHave 95 = .ok (.ifCond .eq 7, 3) := by decide +kernel
theorem dX11_mightHave_98 : decode cX11_mightHave 98 = .ok (.iconst 1, 1) := by decide +kernel
theorem dX11_mightHave_99 : decode cX11_mightHave 99 = .ok (.goto 4, 3) := by decide +kernel
theorem dX11_mightHave_102 : decode cX11_mightHave 102 = .ok (.iconst 0, 1) := by decide +kernel
theorem dX11_mightHave_103 : decode cX11_mightHave 103 = .ok (.istore 7, 2) := by decide +kernel
theorem dX11_mightHave_105 : decode cX11_mightHave 105 = .ok (.iinc 8 1, 3) := by decide +kernel
theorem dX11_mightHave_108 : decode cX11_mightHave 108 = .ok (.goto (-61), 3) := by decide +kernel
theorem dX11_mightHave_111 : decode cX11_mightHave 111 = .ok (.iload 7, 2) := by decide +kernel
theorem dX11_mightHave_113 : decode cX11_mightHave 113 = .ok (.ifCond .ne 5, 3) := by decide +kernel
theorem dX11_mightHave_116 : decode cX11_mightHave 116 = .ok (.iconst 0, 1) := by decide +kernel
theorem dX11_mightHave_117 : decode cX11_mightHave 117 = .ok (.ireturn, 1) := by decide +kernel
theorem dX11_mightHave_118 : decode cX11_mightHave 118 = .ok (.iinc 6 1, 3) := by decide +kernel
theorem dX11_mightHave_121 : decode cX11_mightHave 121 = .ok (.goto (-95), 3) := by decide +kernel
theorem dX11_mightHave_124 : decode cX11_mightHave 124 = .ok (.iconst 1, 1) := by decide +kernel
theorem dX11_mightHave_125 : decode cX11_mightHave 125 = .ok (.ireturn, 1) := by decide +kernel
theorem dX11_tracks_0 : decode cX11_tracks 0 = .ok (.iload_n 1, 1) := by decide +kernel
theorem dX11_tracks_1 : decode cX11_tracks 1 = .ok (.bipush 7, 2) := by decide +kernel
theorem dX11_tracks_3 : decode cX11_tracks 3 = .ok (.invokestatic 66, 3) := by decide +kernel
theorem dX11_tracks_6 : decode cX11_tracks 6 = .ok (.ifCond .ne 5, 3) := by decide +kernel
theorem dX11_tracks_9 : decode cX11_tracks 9 = .ok (.iconst (-1), 1) := by decide +kernel
theorem dX11_tracks_10 : decode cX11_tracks 10 = .ok (.ireturn, 1) := by decide +kernel
theorem dX11_tracks_11 : decode cX11_tracks 11 = .ok (.iload_n 2, 1) := by decide +kernel
theorem dX11_tracks_12 : decode cX11_tracks 12 = .ok (.bipush 10, 2) := by decide +kernel
theorem dX11_tracks_14 : decode cX11_tracks 14 = .ok (.invokestatic 66, 3) := by decide +kernel
theorem dX11_tracks_17 : decode cX11_tracks 17 = .ok (.ifCond .ne 6, 3) := by decide +kernel
theorem dX11_tracks_20 : decode cX11_tracks 20 = .ok (.bipush (-2), 2) := by decide +kernel
theorem dX11_tracks_22 : decode cX11_tracks 22 = .ok (.ireturn, 1) := by decide +kernel
theorem dX11_tracks_23 : decode cX11_tracks 23 = .ok (.iconst 0, 1) := by decide +kernel
theorem dX11_tracks_24 : decode cX11_tracks 24 = .ok (.istore_n 3, 1) := by decide +kernel
theorem dX11_tracks_25 : decode cX11_tracks 25 = .ok (.iconst 0, 1) := by decide +kernel
theorem dX11_tracks_26 : decode cX11_tracks 26 = .ok (.istore 4, 2) := by decide +kernel
theorem dX11_tracks_28 : decode cX11_tracks 28 = .ok (.iload 4, 2) := by decide +kernel
theorem dX11_tracks_30 : decode cX11_tracks 30 = .ok (.aload_n 0, 1) := by decide +kernel
theorem dX11_tracks_31 : decode cX11_tracks 31 = .ok (.invokevirtual 148, 3) := by decide +kernel
theorem dX11_tracks_34 : decode cX11_tracks 34 = .ok (.if_icmp .ge 73, 3) := by decide +kernel
theorem dX11_tracks_37 : decode cX11_tracks 37 = .ok (.aload_n 0, 1) := by decide +kernel
theorem dX11_tracks_38 : decode cX11_tracks 38 = .ok (.getfield 9, 3) := by decide +kernel
theorem dX11_tracks_41 : decode cX11_tracks 41 = .ok (.iconst 3, 1) := by decide +kernel
theorem dX11_tracks_42 : decode cX11_tracks 42 = .ok (.iaload, 1) := by decide +kernel
theorem dX11_tracks_43 : decode cX11_tracks 43 = .ok (.ifCond .ne 7, 3) := by decide +kernel
theorem dX11_tracks_46 : decode cX11_tracks 46 = .ok (.iconst 1, 1) := by decide +kernel
theorem dX11_tracks_47 : decode cX11_tracks 47 = .ok (.goto 4, 3) := by decide +kernel
theorem dX11_tracks_50 : decode cX11_tracks 50 = .ok (.iconst 0, 1) := by decide +kernel
theorem dX11_tracks_51 : decode cX11_tracks 51 = .ok (.istore 5, 2) := by decide +kernel
theorem dX11_tracks_53 : decode cX11_tracks 53 = .ok (.iconst 0, 1) := by decide +kernel
theorem dX11_tracks_54 : decode cX11_tracks 54 = .ok (.istore 6, 2) := by decide +kernel
theorem dX11_tracks_56 : decode cX11_tracks 56 = .ok (.iload 6, 2) := by decide +kernel
theorem dX11_tracks_58 : decode cX11_tracks 58 = .ok (.iconst 4, 1) := by decide +kernel
theorem dX11_tracks_59 : decode cX11_tracks 59 = .ok (.if_icmp .ge 26, 3) := by decide +kernel
theorem dX11_tracks_62 : decode cX11_tracks 62 = .ok (.iload 5, 2) := by decide +kernel
theorem dX11_tracks_64 : decode cX11_tracks 64 = .ok (.ifCond .ne 21, 3) := by decide +kernel
theorem dX11_tracks_67 : decode cX11_tracks 67 = .ok (.aload_n 0, 1) := by decide +kernel
theorem dX11_tracks_68 : decode cX11_tracks 68 = .ok (.iload_n 1, 1) := by decide +kernel
theorem dX11_tracks_69 : decode cX11_tracks 69 = .ok (.iload_n 2, 1) := by decide +kernel
theorem dX11_tracks_70 : decode cX11_tracks 70 = .ok (.iload 6, 2) := by decide +kernel
theorem dX11_tracks_72 : decode cX11_tracks 72 = .ok (.iload 4, 2) := by decide +kernel
theorem dX11_tracks_74 : decode cX11_tracks 74 = .ok (.invokevirtual 253, 3) := by decide +kernel
theorem dX11_tracks_77 : decode cX11_tracks 77 = .ok (.istore 5, 2) := by decide +kernel
theorem dX11_tracks_79 : decode cX11_tracks 79 = .ok (.iinc 6 1, 3) := by decide +kernel
theorem dX11_tracks_82 : decode cX11_tracks 82 = .ok (.goto (-26), 3) := by decide +kernel
theorem dX11_tracks_85 : decode cX11_tracks 85 = .ok (.iload_n 3, 1) := by decide +kernel
theorem dX11_tracks_86 : decode cX11_tracks 86 = .ok (.iload 5, 2) := by decide +kernel
theorem dX11_tracks_88 : decode cX11_tracks 88 = .ok (.ifCond .eq 10, 3) := by decide +kernel
theorem dX11_tracks_91 : decode cX11_tracks 91 = .ok (.iconst 1, 1) := by decide +kernel
theorem dX11_tracks_92 : decode cX11_tracks 92 = .ok (.iload 4, 2) := by decide +kernel
theorem dX11_tracks_94 : decode cX11_tracks 94 = .ok (.ishl, 1) := by decide +kernel
theorem dX11_tracks_95 : decode cX11_tracks 95 = .ok (.goto 4, 3) := by decide +kernel
theorem dX11_tracks_98 : decode cX11_tracks 98 = .ok (.iconst 0, 1) := by decide +kernel
theorem dX11_tracks_99 : decode cX11_tracks 99 = .ok (.ior, 1) := by decide +kernel
theorem dX11_tracks_100 : decode cX11_tracks 100 = .ok (.istore_n 3, 1) := by decide +kernel
theorem dX11_tracks_101 : decode cX11_tracks 101 = .ok (.iinc 4 1, 3) := by decide +kernel
theorem dX11_tracks_104 : decode cX11_tracks 104 = .ok (.goto (-76), 3) := by decide +kernel
theorem dX11_tracks_107 : decode cX11_tracks 107 = .ok (.iload_n 3, 1) := by decide +kernel
theorem dX11_tracks_108 : decode cX11_tracks 108 = .ok (.ireturn, 1) := by decide +kernel
theorem dX11_common_0 : decode cX11_common 0 = .ok (.lload_n 2, 1) := by decide +kernel
theorem dX11_common_1 : decode cX11_common 1 = .ok (.lconst 0, 1) := by decide +kernel
theorem dX11_common_2 : decode cX11_common 2 = .ok (.lcmp, 1) := by decide +kernel
theorem dX11_common_3 : decode cX11_common 3 = .ok (.ifCond .ne 7, 3) := by decide +kernel
theorem dX11_common_6 : decode cX11_common 6 = .ok (.lload_n 0, 1) := by decide +kernel
theorem dX11_common_7 : decode cX11_common 7 = .ok (.goto 10, 3) := by decide +kernel
theorem dX11_common_10 : decode cX11_common 10 = .ok (.lload_n 2, 1) := by decide +kernel
theorem dX11_common_11 : decode cX11_common 11 = .ok (.lload_n 0, 1) := by decide +kernel
theorem dX11_common_12 : decode cX11_common 12 = .ok (.lload_n 2, 1) := by decide +kernel
theorem dX11_common_13 : decode cX11_common 13 = .ok (.lrem, 1) := by decide +kernel
theorem dX11_common_14 : decode cX11_common 14 = .ok (.invokestatic 256, 3) := by decide +kernel
theorem dX11_common_17 : decode cX11_common 17 = .ok (.lreturn, 1) := by decide +kernel
theorem dX11_lot_0 : decode cX11_lot 0 = .ok (.aload_n 0, 1) := by decide +kernel
theorem dX11_lot_1 : decode cX11_lot 1 = .ok (.iload_n 1, 1) := by decide +kernel
theorem dX11_lot_2 : decode cX11_lot 2 = .ok (.invokevirtual 165, 3) := by decide +kernel
theorem dX11_lot_5 : decode cX11_lot 5 = .ok (.ifCond .eq 28, 3) := by decide +kernel
theorem dX11_lot_8 : decode cX11_lot 8 = .ok (.iload_n 2, 1) := by decide +kernel
theorem dX11_lot_9 : decode cX11_lot 9 = .ok (.invokestatic 151, 3) := by decide +kernel
theorem dX11_lot_12 : decode cX11_lot 12 = .ok (.ifCond .eq 21, 3) := by decide +kernel
theorem dX11_lot_15 : decode cX11_lot 15 = .ok (.iload_n 3, 1) := by decide +kernel
theorem dX11_lot_16 : decode cX11_lot 16 = .ok (.bipush 7, 2) := by decide +kernel
theorem dX11_lot_18 : decode cX11_lot 18 = .ok (.invokestatic 66, 3) := by decide +kernel
theorem dX11_lot_21 : decode cX11_lot 21 = .ok (.ifCond .eq 12, 3) := by decide +kernel
theorem dX11_lot_24 : decode cX11_lot 24 = .ok (.iload 4, 2) := by decide +kernel
theorem dX11_lot_26 : decode cX11_lot 26 = .ok (.iconst 2, 1) := by decide +kernel
theorem dX11_lot_27 : decode cX11_lot 27 = .ok (.invokestatic 66, 3) := by decide +kernel
theorem dX11_lot_30 : decode cX11_lot 30 = .ok (.ifCond .ne 7, 3) := by decide +kernel
theorem dX11_lot_33 : decode cX11_lot 33 = .ok (.ldc2_w 251, 3) := by decide +kernel
theorem dX11_lot_36 : decode cX11_lot 36 = .ok (.lreturn, 1) := by decide +kernel
theorem dX11_lot_37 : decode cX11_lot 37 = .ok (.aload_n 0, 1) := by decide +kernel
theorem dX11_lot_38 : decode cX11_lot 38 = .ok (.iload_n 1, 1) := by decide +kernel
theorem dX11_lot_39 : decode cX11_lot 39 = .ok (.aload_n 0, 1) := by decide +kernel
theorem dX11_lot_40 : decode cX11_lot 40 = .ok (.iload_n 1, 1) := by decide +kernel
theorem dX11_lot_41 : decode cX11_lot 41 = .ok (.invokevirtual 168, 3) := by decide +kernel
theorem dX11_lot_44 : decode cX11_lot 44 = .ok (.invokevirtual 238, 3) := by decide +kernel
theorem dX11_lot_47 : decode cX11_lot 47 = .ok (.lconst 1, 1) := by decide +kernel
theorem dX11_lot_48 : decode cX11_lot 48 = .ok (.lstore 5, 2) := by decide +kernel
theorem dX11_lot_50 : decode cX11_lot 50 = .ok (.iconst 0, 1) := by decide +kernel
theorem dX11_lot_51 : decode cX11_lot 51 = .ok (.istore 7, 2) := by decide +kernel
theorem dX11_lot_53 : decode cX11_lot 53 = .ok (.iload 7, 2) := by decide +kernel
theorem dX11_lot_55 : decode cX11_lot 55 = .ok (.iload_n 3, 1) := by decide +kernel
theorem dX11_lot_56 : decode cX11_lot 56 = .ok (.if_icmp .ge 21, 3) := by decide +kernel
theorem dX11_lot_59 : decode cX11_lot 59 = .ok (.aload_n 0, 1) := by decide +kernel
theorem dX11_lot_60 : decode cX11_lot 60 = .ok (.invokevirtual 229, 3) := by decide +kernel
theorem dX11_lot_63 : decode cX11_lot 63 = .ok (.lload 5, 2) := by decide +kernel
theorem dX11_lot_65 : decode cX11_lot 65 = .ok (.ldc2_w 260, 3) := by decide +kernel
theorem dX11_lot_68 : decode cX11_lot 68 = .ok (.lmul, 1) := by decide +kernel
theorem dX11_lot_69 : decode cX11_lot 69 = .ok (.lstore 5, 2) := by decide +kernel
theorem dX11_lot_71 : decode cX11_lot 71 = .ok (.iinc 7 1, 3) := by decide +kernel
theorem dX11_lot_74 : decode cX11_lot 74 = .ok (.goto (-21), 3) := by decide +kernel
theorem dX11_lot_77 : decode cX11_lot 77 = .ok (.lconst 0, 1) := by decide +kernel
theorem dX11_lot_78 : decode cX11_lot 78 = .ok (.lstore 7, 2) := by decide +kernel
theorem dX11_lot_80 : decode cX11_lot 80 = .ok (.iconst 0, 1) := by decide +kernel
theorem dX11_lot_81 : decode cX11_lot 81 = .ok (.istore 9, 2) := by decide +kernel
theorem dX11_lot_83 : decode cX11_lot 83 = .ok (.iload 9, 2) := by decide +kernel
theorem dX11_lot_85 : decode cX11_lot 85 = .ok (.sipush 144, 3) := by decide +kernel
theorem dX11_lot_88 : decode cX11_lot 88 = .ok (.if_icmp .ge 27, 3) := by decide +kernel
theorem dX11_lot_91 : decode cX11_lot 91 = .ok (.lload 7, 2) := by decide +kernel
theorem dX11_lot_93 : decode cX11_lot 93 = .ok (.aload_n 0, 1) := by decide +kernel
theorem dX11_lot_94 : decode cX11_lot 94 = .ok (.getfield 37, 3) := by decide +kernel
theorem dX11_lot_97 : decode cX11_lot 97 = .ok (.sipush 144, 3) := by decide +kernel
theorem dX11_lot_100 : decode cX11_lot 100 = .ok (.iload_n 2, 1) := by decide +kernel
theorem dX11_lot_101 : decode cX11_lot 101 = .ok (.imul, 1) := by decide +kernel
theorem dX11_lot_102 : decode cX11_lot 102 = .ok (.iload 9, 2) := by decide +kernel
theorem dX11_lot_104 : decode cX11_lot 104 = .ok (.iadd, 1) := by decide +kernel
theorem dX11_lot_105 : decode cX11_lot 105 = .ok (.laload, 1) := by decide +kernel
theorem dX11_lot_106 : decode cX11_lot 106 = .ok (.ladd, 1) := by decide +kernel
theorem dX11_lot_107 : decode cX11_lot 107 = .ok (.lstore 7, 2) := by decide +kernel
theorem dX11_lot_109 : decode cX11_lot 109 = .ok (.iinc 9 1, 3) := by decide +kernel
theorem dX11_lot_112 : decode cX11_lot 112 = .ok (.goto (-29), 3) := by decide +kernel
theorem dX11_lot_115 : decode cX11_lot 115 = .ok (.lload 5, 2) := by decide +kernel
theorem dX11_lot_117 : decode cX11_lot 117 = .ok (.lload 7, 2) := by decide +kernel
theorem dX11_lot_119 : decode cX11_lot 119 = .ok (.invokestatic 256, 3) := by decide +kernel
theorem dX11_lot_122 : decode cX11_lot 122 = .ok (.lstore 9, 2) := by decide +kernel
theorem dX11_lot_124 : decode cX11_lot 124 = .ok (.iload 4, 2) := by decide +kernel
theorem dX11_lot_126 : decode cX11_lot 126 = .ok (.ifCond .ne 11, 3) := by decide +kernel
theorem dX11_lot_129 : decode cX11_lot 129 = .ok (.lload 7, 2) := by decide +kernel
theorem dX11_lot_131 : decode cX11_lot 131 = .ok (.lload 9, 2) := by decide +kernel
theorem dX11_lot_133 : decode cX11_lot 133 = .ok (.ldiv, 1) := by decide +kernel
theorem dX11_lot_134 : decode cX11_lot 134 = .ok (.goto 8, 3) := by decide +kernel
theorem dX11_lot_137 : decode cX11_lot 137 = .ok (.lload 5, 2) := by decide +kernel
theorem dX11_lot_139 : decode cX11_lot 139 = .ok (.lload 9, 2) := by decide +kernel
theorem dX11_lot_141 : decode cX11_lot 141 = .ok (.ldiv, 1) := by decide +kernel
theorem dX11_lot_142 : decode cX11_lot 142 = .ok (.lreturn, 1) := by decide +kernel
theorem dX11_soonestBy_0 : decode cX11_soonestBy 0 = .ok (.aload_n 0, 1) := by decide +kernel
theorem dX11_soonestBy_1 : decode cX11_soonestBy 1 = .ok (.iload_n 3, 1) := by decide +kernel
theorem dX11_soonestBy_2 : decode cX11_soonestBy 2 = .ok (.iconst 0, 1) := by decide +kernel
theorem dX11_soonestBy_3 : decode cX11_soonestBy 3 = .ok (.aload_n 0, 1) := by decide +kernel
theorem dX11_soonestBy_4 : decode cX11_soonestBy 4 = .ok (.iload_n 1, 1) := by decide +kernel
theorem dX11_soonestBy_5 : decode cX11_soonestBy 5 = .ok (.iconst 2, 1) := by decide +kernel
theorem dX11_soonestBy_6 : decode cX11_soonestBy 6 = .ok (.invokevirtual 162, 3) := by decide +kernel
theorem dX11_soonestBy_9 : decode cX11_soonestBy 9 = .ok (.aload_n 0, 1) := by decide +kernel
theorem dX11_soonestBy_10 : decode cX11_soonestBy 10 = .ok (.iload_n 1, 1) := by decide +kernel
theorem dX11_soonestBy_11 : decode cX11_soonestBy 11 = .ok (.iconst 3, 1) := by decide +kernel
theorem dX11_soonestBy_12 : decode cX11_soonestBy 12 = .ok (.invokevirtual 162, 3) := by decide +kernel
theorem dX11_soonestBy_15 : decode cX11_soonestBy 15 = .ok (.aload_n 0, 1) := by decide +kernel
theorem dX11_soonestBy_16 : decode cX11_soonestBy 16 = .ok (.iload_n 1, 1) := by decide +kernel
theorem dX11_soonestBy_17 : decode cX11_soonestBy 17 = .ok (.iconst 5, 1) := by decide +kernel
theorem dX11_soonestBy_18 : decode cX11_soonestBy 18 = .ok (.invokevirtual 162, 3) := by decide +kernel
theorem dX11_soonestBy_21 : decode cX11_soonestBy 21 = .ok (.aload_n 0, 1) := by decide +kernel
theorem dX11_soonestBy_22 : decode cX11_soonestBy 22 = .ok (.iload_n 1, 1) := by decide +kernel
theorem dX11_soonestBy_23 : decode cX11_soonestBy 23 = .ok (.invokevirtual 168, 3) := by decide +kernel
theorem dX11_soonestBy_26 : decode cX11_soonestBy 26 = .ok (.aload_n 0, 1) := by decide +kernel
theorem dX11_soonestBy_27 : decode cX11_soonestBy 27 = .ok (.iload_n 1, 1) := by decide +kernel
theorem dX11_soonestBy_28 : decode cX11_soonestBy 28 = .ok (.bipush 6, 2) := by decide +kernel
theorem dX11_soonestBy_30 : decode cX11_soonestBy 30 = .ok (.invokevirtual 162, 3) := by decide +kernel
theorem dX11_soonestBy_33 : decode cX11_soonestBy 33 = .ok (.invokevirtual 219, 3) := by decide +kernel
theorem dX11_soonestBy_36 : decode cX11_soonestBy 36 = .ok (.aload_n 0, 1) := by decide +kernel
theorem dX11_soonestBy_37 : decode cX11_soonestBy 37 = .ok (.iload_n 2, 1) := by decide +kernel
theorem dX11_soonestBy_38 : decode cX11_soonestBy 38 = .ok (.invokevirtual 241, 3) := by decide +kernel
theorem dX11_soonestBy_41 : decode cX11_soonestBy 41 = .ok (.ireturn, 1) := by decide +kernel
theorem dX11_slower_0 : decode cX11_slower 0 = .ok (.aload_n 0, 1) := by decide +kernel
theorem dX11_slower_1 : decode cX11_slower 1 = .ok (.iload_n 1, 1) := by decide +kernel
theorem dX11_slower_2 : decode cX11_slower 2 = .ok (.invokevirtual 165, 3) := by decide +kernel
theorem dX11_slower_5 : decode cX11_slower 5 = .ok (.ifCond .eq 29, 3) := by decide +kernel
theorem dX11_slower_8 : decode cX11_slower 8 = .ok (.iload_n 2, 1) := by decide +kernel
theorem dX11_slower_9 : decode cX11_slower 9 = .ok (.invokestatic 151, 3) := by decide +kernel
theorem dX11_slower_12 : decode cX11_slower 12 = .ok (.ifCond .eq 22, 3) := by decide +kernel
theorem dX11_slower_15 : decode cX11_slower 15 = .ok (.iload_n 3, 1) := by decide +kernel
theorem dX11_slower_16 : decode cX11_slower 16 = .ok (.bipush 7, 2) := by decide +kernel
theorem dX11_slower_18 : decode cX11_slower 18 = .ok (.invokestatic 66, 3) := by decide +kernel
theorem dX11_slower_21 : decode cX11_slower 21 = .ok (.ifCond .eq 13, 3) := by decide +kernel
theorem dX11_slower_24 : decode cX11_slower 24 = .ok (.iload 4, 2) := by decide +kernel
theorem dX11_slower_26 : decode cX11_slower 26 = .ok (.bipush 7, 2) := by decide +kernel
theorem dX11_slower_28 : decode cX11_slower 28 = .ok (.invokestatic 66, 3) := by decide +kernel
theorem dX11_slower_31 : decode cX11_slower 31 = .ok (.ifCond .ne 7, 3) := by decide +kernel
theorem dX11_slower_34 : decode cX11_slower 34 = .ok (.sipush (-1001), 3) := by decide +kernel
theorem dX11_slower_37 : decode cX11_slower 37 = .ok (.ireturn, 1) := by decide +kernel
theorem dX11_slower_38 : decode cX11_slower 38 = .ok (.aload_n 0, 1) := by decide +kernel
theorem dX11_slower_39 : decode cX11_slower 39 = .ok (.iload_n 1, 1) := by decide +kernel
theorem dX11_slower_40 : decode cX11_slower 40 = .ok (.iload_n 2, 1) := by decide +kernel
theorem dX11_slower_41 : decode cX11_slower 41 = .ok (.iload_n 3, 1) := by decide +kernel
theorem dX11_slower_42 : decode cX11_slower 42 = .ok (.invokevirtual 262, 3) := by decide +kernel
theorem dX11_slower_45 : decode cX11_slower 45 = .ok (.istore 5, 2) := by decide +kernel
theorem dX11_slower_47 : decode cX11_slower 47 = .ok (.aload_n 0, 1) := by decide +kernel
theorem dX11_slower_48 : decode cX11_slower 48 = .ok (.iload_n 1, 1) := by decide +kernel
theorem dX11_slower_49 : decode cX11_slower 49 = .ok (.iload_n 2, 1) := by decide +kernel
theorem dX11_slower_50 : decode cX11_slower 50 = .ok (.iload 4, 2) := by decide +kernel
theorem dX11_slower_52 : decode cX11_slower 52 = .ok (.invokevirtual 262, 3) := by decide +kernel
theorem dX11_slower_55 : decode cX11_slower 55 = .ok (.istore 6, 2) := by decide +kernel
theorem dX11_slower_57 : decode cX11_slower 57 = .ok (.iload 5, 2) := by decide +kernel
theorem dX11_slower_59 : decode cX11_slower 59 = .ok (.ifCond .lt 8, 3) := by decide +kernel
theorem dX11_slower_62 : decode cX11_slower 62 = .ok (.iload 6, 2) := by decide +kernel
theorem dX11_slower_64 : decode cX11_slower 64 = .ok (.ifCond .ge 9, 3) := by decide +kernel
theorem dX11_slower_67 : decode cX11_slower 67 = .ok (.sipush (-1000), 3) := by decide +kernel
theorem dX11_slower_70 : decode cX11_slower 70 = .ok (.goto 8, 3) := by decide +kernel
theorem dX11_slower_73 : decode cX11_slower 73 = .ok (.iload 5, 2) := by decide +kernel
theorem dX11_slower_75 : decode cX11_slower 75 = .ok (.iload 6, 2) := by decide +kernel
theorem dX11_slower_77 : decode cX11_slower 77 = .ok (.isub, 1) := by decide +kernel
theorem dX11_slower_78 : decode cX11_slower 78 = .ok (.ireturn, 1) := by decide +kernel
theorem dX11_above_0 : decode cX11_above 0 = .ok (.iload_n 0, 1) := by decide +kernel
theorem dX11_above_1 : decode cX11_above 1 = .ok (.iconst 4, 1) := by decide +kernel
theorem dX11_above_2 : decode cX11_above 2 = .ok (.if_icmp .ne 7, 3) := by decide +kernel
theorem dX11_above_5 : decode cX11_above 5 = .ok (.iconst 1, 1) := by decide +kernel
theorem dX11_above_6 : decode cX11_above 6 = .ok (.goto 31, 3) := by decide +kernel
theorem dX11_above_9 : decode cX11_above 9 = .ok (.iload_n 0, 1) := by decide +kernel
theorem dX11_above_10 : decode cX11_above 10 = .ok (.iconst 5, 1) := by decide +kernel
theorem dX11_above_11 : decode cX11_above 11 = .ok (.if_icmp .ne 7, 3) := by decide +kernel
theorem dX11_above_14 : decode cX11_above 14 = .ok (.iconst 2, 1) := by decide +kernel
theorem dX11_above_15 : decode cX11_above 15 = .ok (.goto 22, 3) := by decide +kernel
theorem dX11_above_18 : decode cX11_above 18 = .ok (.iload_n 0, 1) := by decide +kernel
theorem dX11_above_19 : decode cX11_above 19 = .ok (.bipush 6, 2) := by decide +kernel
theorem dX11_above_21 : decode cX11_above 21 = .ok (.if_icmp .ne 7, 3) := by decide +kernel
theorem dX11_above_24 : decode cX11_above 24 = .ok (.iconst 3, 1) := by decide +kernel
theorem dX11_above_25 : decode cX11_above 25 = .ok (.goto 12, 3) := by decide +kernel
theorem dX11_above_28 : decode cX11_above 28 = .ok (.iload_n 0, 1) := by decide +kernel
theorem dX11_above_29 : decode cX11_above 29 = .ok (.ifCond .ne 7, 3) := by decide +kernel
theorem dX11_above_32 : decode cX11_above 32 = .ok (.iconst (-1), 1) := by decide +kernel
theorem dX11_above_33 : decode cX11_above 33 = .ok (.goto 4, 3) := by decide +kernel
theorem dX11_above_36 : decode cX11_above 36 = .ok (.iconst 0, 1) := by decide +kernel
theorem dX11_above_37 : decode cX11_above 37 = .ok (.ireturn, 1) := by decide +kernel
theorem dX11_runs_0 : decode cX11_runs 0 = .ok (.aload_n 0, 1) := by decide +kernel
theorem dX11_runs_1 : decode cX11_runs 1 = .ok (.getfield 265, 3) := by decide +kernel
theorem dX11_runs_4 : decode cX11_runs 4 = .ok (.bipush 20, 2) := by decide +kernel
theorem dX11_runs_6 : decode cX11_runs 6 = .ok (.if_icmp .ge 13, 3) := by decide +kernel
theorem dX11_runs_9 : decode cX11_runs 9 = .ok (.aload_n 0, 1) := by decide +kernel
theorem dX11_runs_10 : decode cX11_runs 10 = .ok (.getfield 50, 3) := by decide +kernel
theorem dX11_runs_13 : decode cX11_runs 13 = .ok (.aload_n 0, 1) := by decide +kernel
theorem dX11_runs_14 : decode cX11_runs 14 = .ok (.getfield 265, 3) := by decide +kernel
theorem dX11_runs_17 : decode cX11_runs 17 = .ok (.iload_n 1, 1) := by decide +kernel
theorem dX11_runs_18 : decode cX11_runs 18 = .ok (.iastore, 1) := by decide +kernel
theorem dX11_runs_19 : decode cX11_runs 19 = .ok (.aload_n 0, 1) := by decide +kernel
theorem dX11_runs_20 : decode cX11_runs 20 = .ok (.dup, 1) := by decide +kernel
theorem dX11_runs_21 : decode cX11_runs 21 = .ok (.getfield 265, 3) := by decide +kernel
theorem dX11_runs_24 : decode cX11_runs 24 = .ok (.iconst 1, 1) := by decide +kernel
theorem dX11_runs_25 : decode cX11_runs 25 = .ok (.iadd, 1) := by decide +kernel
theorem dX11_runs_26 : decode cX11_runs 26 = .ok (.putfield 265, 3) := by decide +kernel
theorem dX11_runs_29 : decode cX11_runs 29 = .ok (.return_, 1) := by decide +kernel
theorem dX11_bodyOf_0 : decode cX11_bodyOf 0 = .ok (.iload_n 2, 1) := by decide +kernel
theorem dX11_bodyOf_1 : decode cX11_bodyOf 1 = .ok (.istore 4, 2) := by decide +kernel
theorem dX11_bodyOf_3 : decode cX11_bodyOf 3 = .ok (.iload_n 1, 1) := by decide +kernel
theorem dX11_bodyOf_4 : decode cX11_bodyOf 4 = .ok (.iload 4, 2) := by decide +kernel
theorem dX11_bodyOf_6 : decode cX11_bodyOf 6 = .ok (.invokestatic 268, 3) := by decide +kernel
theorem dX11_bodyOf_9 : decode cX11_bodyOf 9 = .ok (.ifCond .ne 13, 3) := by decide +kernel
theorem dX11_bodyOf_12 : decode cX11_bodyOf 12 = .ok (.iload 4, 2) := by decide +kernel
theorem dX11_bodyOf_14 : decode cX11_bodyOf 14 = .ok (.invokestatic 271, 3) := by decide +kernel
theorem dX11_bodyOf_17 : decode cX11_bodyOf 17 = .ok (.istore 4, 2) := by decide +kernel
theorem dX11_bodyOf_19 : decode cX11_bodyOf 19 = .ok (.goto (-16), 3) := by decide +kernel
theorem dX11_bodyOf_22 : decode cX11_bodyOf 22 = .ok (.aload_n 0, 1) := by decide +kernel
theorem dX11_bodyOf_23 : decode cX11_bodyOf 23 = .ok (.aload_n 0, 1) := by decide +kernel
theorem dX11_bodyOf_24 : decode cX11_bodyOf 24 = .ok (.getfield 274, 3) := by decide +kernel
theorem dX11_bodyOf_27 : decode cX11_bodyOf 27 = .ok (.iconst 1, 1) := by decide +kernel
theorem dX11_bodyOf_28 : decode cX11_bodyOf 28 = .ok (.invokevirtual 162, 3) := by decide +kernel
theorem dX11_bodyOf_31 : decode cX11_bodyOf 31 = .ok (.istore 5, 2) := by decide +kernel
theorem dX11_bodyOf_33 : decode cX11_bodyOf 33 = .ok (.iload 4, 2) := by decide +kernel
theorem dX11_bodyOf_35 : decode cX11_bodyOf 35 = .ok (.invokestatic 271, 3) := by decide +kernel
theorem dX11_bodyOf_38 : decode cX11_bodyOf 38 = .ok (.istore 6, 2) := by decide +kernel
theorem dX11_bodyOf_40 : decode cX11_bodyOf 40 = .ok (.iload_n 1, 1) := by decide +kernel
theorem dX11_bodyOf_41 : decode cX11_bodyOf 41 = .ok (.ifCond .ne 103, 3) := by decide +kernel
theorem dX11_bodyOf_44 : decode cX11_bodyOf 44 = .ok (.iload 4, 2) := by decide +kernel
theorem dX11_bodyOf_46 : decode cX11_bodyOf 46 = .ok (.tableswitch 85 2 6 #[34, 85, 51, 85, 67], 34) := by decide +kernel
theorem dX11_bodyOf_80 : decode cX11_bodyOf 80 = .ok (.aload_n 0, 1) := by decide +kernel
theorem dX11_bodyOf_81 : decode cX11_bodyOf 81 = .ok (.bipush 30, 2) := by decide +kernel
theorem dX11_bodyOf_83 : decode cX11_bodyOf 83 = .ok (.invokevirtual 277, 3) := by decide +kernel
theorem dX11_bodyOf_86 : decode cX11_bodyOf 86 = .ok (.aload_n 0, 1) := by decide +kernel
theorem dX11_bodyOf_87 : decode cX11_bodyOf 87 = .ok (.iconst 0, 1) := by decide +kernel
theorem dX11_bodyOf_88 : decode cX11_bodyOf 88 = .ok (.iload 6, 2) := by decide +kernel
theorem dX11_bodyOf_90 : decode cX11_bodyOf 90 = .ok (.iload_n 3, 1) := by decide +kernel
theorem dX11_bodyOf_91 : decode cX11_bodyOf 91 = .ok (.iconst 3, 1) := by decide +kernel
theorem dX11_bodyOf_92 : decode cX11_bodyOf 92 = .ok (.imul, 1) := by decide +kernel
theorem dX11_bodyOf_93 : decode cX11_bodyOf 93 = .ok (.invokevirtual 280, 3) := by decide +kernel
theorem dX11_bodyOf_96 : decode cX11_bodyOf 96 = .ok (.ireturn, 1) := by decide +kernel
theorem dX11_bodyOf_97 : decode cX11_bodyOf 97 = .ok (.aload_n 0, 1) := by decide +kernel
theorem dX11_bodyOf_98 : decode cX11_bodyOf 98 = .ok (.bipush 50, 2) := by decide +kernel
theorem dX11_bodyOf_100 : decode cX11_bodyOf 100 = .ok (.invokevirtual 277, 3) := by decide +kernel
theorem dX11_bodyOf_103 : decode cX11_bodyOf 103 = .ok (.aload_n 0, 1) := by decide +kernel
theorem dX11_bodyOf_104 : decode cX11_bodyOf 104 = .ok (.iconst 0, 1) := by decide +kernel
theorem dX11_bodyOf_105 : decode cX11_bodyOf 105 = .ok (.iload 6, 2) := by decide +kernel
theorem dX11_bodyOf_107 : decode cX11_bodyOf 107 = .ok (.iload_n 3, 1) := by decide +kernel
theorem dX11_bodyOf_108 : decode cX11_bodyOf 108 = .ok (.invokevirtual 280, 3) := by decide +kernel
theorem dX11_bodyOf_111 : decode cX11_bodyOf 111 = .ok (.ineg, 1) := by decide +kernel
theorem dX11_bodyOf_112 : decode cX11_bodyOf 112 = .ok (.ireturn, 1) := by decide +kernel
theorem dX11_bodyOf_113 : decode cX11_bodyOf 113 = .ok (.aload_n 0, 1) := by decide +kernel
theorem dX11_bodyOf_114 : decode cX11_bodyOf 114 = .ok (.bipush 71, 2) := by decide +kernel
theorem dX11_bodyOf_116 : decode cX11_bodyOf 116 = .ok (.invokevirtual 277, 3) := by decide +kernel
theorem dX11_bodyOf_119 : decode cX11_bodyOf 119 = .ok (.aload_n 0, 1) := by decide +kernel
theorem dX11_bodyOf_120 : decode cX11_bodyOf 120 = .ok (.iconst 0, 1) := by decide +kernel
theorem dX11_bodyOf_121 : decode cX11_bodyOf 121 = .ok (.iload 6, 2) := by decide +kernel
theorem dX11_bodyOf_123 : decode cX11_bodyOf 123 = .ok (.iload_n 3, 1) := by decide +kernel
theorem dX11_bodyOf_124 : decode cX11_bodyOf 124 = .ok (.invokevirtual 280, 3) := by decide +kernel
theorem dX11_bodyOf_127 : decode cX11_bodyOf 127 = .ok (.iload 5, 2) := by decide +kernel
theorem dX11_bodyOf_129 : decode cX11_bodyOf 129 = .ok (.ixor, 1) := by decide +kernel
theorem dX11_bodyOf_130 : decode cX11_bodyOf 130 = .ok (.ireturn, 1) := by decide +kernel
theorem dX11_bodyOf_131 : decode cX11_bodyOf 131 = .ok (.aload_n 0, 1) := by decide +kernel
theorem dX11_bodyOf_132 : decode cX11_bodyOf 132 = .ok (.bipush 10, 2) := by decide +kernel
theorem dX11_bodyOf_134 : decode cX11_bodyOf 134 = .ok (.invokevirtual 277, 3) := by decide +kernel
theorem dX11_bodyOf_137 : decode cX11_bodyOf 137 = .ok (.iload_n 3, 1) := by decide +kernel
theorem dX11_bodyOf_138 : decode cX11_bodyOf 138 = .ok (.aload_n 0, 1) := by decide +kernel
theorem dX11_bodyOf_139 : decode cX11_bodyOf 139 = .ok (.getfield 274, 3) := by decide +kernel
theorem dX11_bodyOf_142 : decode cX11_bodyOf 142 = .ok (.iadd, 1) := by decide +kernel
theorem dX11_bodyOf_143 : decode cX11_bodyOf 143 = .ok (.ireturn, 1) := by decide +kernel
theorem dX11_bodyOf_144 : decode cX11_bodyOf 144 = .ok (.iload_n 1, 1) := by decide +kernel
theorem dX11_bodyOf_145 : decode cX11_bodyOf 145 = .ok (.iconst 1, 1) := by decide +kernel
theorem dX11_bodyOf_146 : decode cX11_bodyOf 146 = .ok (.if_icmp .ne 117, 3) := by decide +kernel
theorem dX11_bodyOf_149 : decode cX11_bodyOf 149 = .ok (.iload 4, 2) := by decide +kernel
theorem dX11_bodyOf_151 : decode cX11_bodyOf 151 = .ok (.lookupswitch 96 #[(1, 33), (4, 51), (6, 68)], 33) := by decide +kernel
theorem dX11_bodyOf_184 : decode cX11_bodyOf 184 = .ok (.aload_n 0, 1) := by decide +kernel
theorem dX11_bodyOf_185 : decode cX11_bodyOf 185 = .ok (.bipush 20, 2) := by decide +kernel
theorem dX11_bodyOf_187 : decode cX11_bodyOf 187 = .ok (.invokevirtual 277, 3) := by decide +kernel
theorem dX11_bodyOf_190 : decode cX11_bodyOf 190 = .ok (.aload_n 0, 1) := by decide +kernel
theorem dX11_bodyOf_191 : decode cX11_bodyOf 191 = .ok (.iconst 1, 1) := by decide +kernel
theorem dX11_bodyOf_192 : decode cX11_bodyOf 192 = .ok (.iload 6, 2) := by decide +kernel
theorem dX11_bodyOf_194 : decode cX11_bodyOf 194 = .ok (.iload_n 3, 1) := by decide +kernel
theorem dX11_bodyOf_195 : decode cX11_bodyOf 195 = .ok (.invokevirtual 280, 3) := by decide +kernel
theorem dX11_bodyOf_198 : decode cX11_bodyOf 198 = .ok (.bipush 6, 2) := by decide +kernel
theorem dX11_bodyOf_200 : decode cX11_bodyOf 200 = .ok (.ixor, 1) := by decide +kernel
theorem dX11_bodyOf_201 : decode cX11_bodyOf 201 = .ok (.ireturn, 1) := by decide +kernel
theorem dX11_bodyOf_202 : decode cX11_bodyOf 202 = .ok (.aload_n 0, 1) := by decide +kernel
theorem dX11_bodyOf_203 : decode cX11_bodyOf 203 = .ok (.bipush 51, 2) := by decide +kernel
theorem dX11_bodyOf_205 : decode cX11_bodyOf 205 = .ok (.invokevirtual 277, 3) := by decide +kernel
theorem dX11_bodyOf_208 : decode cX11_bodyOf 208 = .ok (.aload_n 0, 1) := by decide +kernel
theorem dX11_bodyOf_209 : decode cX11_bodyOf 209 = .ok (.iconst 1, 1) := by decide +kernel
theorem dX11_bodyOf_210 : decode cX11_bodyOf 210 = .ok (.iload 6, 2) := by decide +kernel
theorem dX11_bodyOf_212 : decode cX11_bodyOf 212 = .ok (.iload_n 3, 1) := by decide +kernel
theorem dX11_bodyOf_213 : decode cX11_bodyOf 213 = .ok (.iconst 1, 1) := by decide +kernel
theorem dX11_bodyOf_214 : decode cX11_bodyOf 214 = .ok (.iadd, 1) := by decide +kernel
theorem dX11_bodyOf_215 : decode cX11_bodyOf 215 = .ok (.invokevirtual 280, 3) := by decide +kernel
theorem dX11_bodyOf_218 : decode cX11_bodyOf 218 = .ok (.ireturn, 1) := by decide +kernel
theorem dX11_bodyOf_219 : decode cX11_bodyOf 219 = .ok (.aload_n 0, 1) := by decide +kernel
theorem dX11_bodyOf_220 : decode cX11_bodyOf 220 = .ok (.bipush 70, 2) := by decide +kernel
theorem dX11_bodyOf_222 : decode cX11_bodyOf 222 = .ok (.invokevirtual 277, 3) := by decide +kernel
theorem dX11_bodyOf_225 : decode cX11_bodyOf 225 = .ok (.aload_n 0, 1) := by decide +kernel
theorem dX11_bodyOf_226 : decode cX11_bodyOf 226 = .ok (.iconst 1, 1) := by decide +kernel
theorem dX11_bodyOf_227 : decode cX11_bodyOf 227 = .ok (.iload 6, 2) := by decide +kernel
theorem dX11_bodyOf_229 : decode cX11_bodyOf 229 = .ok (.iload_n 3, 1) := by decide +kernel
theorem dX11_bodyOf_230 : decode cX11_bodyOf 230 = .ok (.invokevirtual 280, 3) := by decide +kernel
theorem dX11_bodyOf_233 : decode cX11_bodyOf 233 = .ok (.istore 7, 2) := by decide +kernel
theorem dX11_bodyOf_235 : decode cX11_bodyOf 235 = .ok (.iload 7, 2) := by decide +kernel
theorem dX11_bodyOf_237 : decode cX11_bodyOf 237 = .ok (.aload_n 0, 1) := by decide +kernel
theorem dX11_bodyOf_238 : decode cX11_bodyOf 238 = .ok (.iconst 0, 1) := by decide +kernel
theorem dX11_bodyOf_239 : decode cX11_bodyOf 239 = .ok (.iload 6, 2) := by decide +kernel
theorem dX11_bodyOf_241 : decode cX11_bodyOf 241 = .ok (.iconst 2, 1) := by decide +kernel
theorem dX11_bodyOf_242 : decode cX11_bodyOf 242 = .ok (.invokevirtual 280, 3) := by decide +kernel
theorem dX11_bodyOf_245 : decode cX11_bodyOf 245 = .ok (.iadd, 1) := by decide +kernel
theorem dX11_bodyOf_246 : decode cX11_bodyOf 246 = .ok (.ireturn, 1) := by decide +kernel
theorem dX11_bodyOf_247 : decode cX11_bodyOf 247 = .ok (.aload_n 0, 1) := by decide +kernel
theorem dX11_bodyOf_248 : decode cX11_bodyOf 248 = .ok (.bipush 11, 2) := by decide +kernel
theorem dX11_bodyOf_250 : decode cX11_bodyOf 250 = .ok (.invokevirtual 277, 3) := by decide +kernel
theorem dX11_bodyOf_253 : decode cX11_bodyOf 253 = .ok (.aload_n 0, 1) := by decide +kernel
theorem dX11_bodyOf_254 : decode cX11_bodyOf 254 = .ok (.iconst 0, 1) := by decide +kernel
theorem dX11_bodyOf_255 : decode cX11_bodyOf 255 = .ok (.iload_n 3, 1) := by decide +kernel
theorem dX11_bodyOf_256 : decode cX11_bodyOf 256 = .ok (.invokevirtual 283, 3) := by decide +kernel
theorem dX11_bodyOf_259 : decode cX11_bodyOf 259 = .ok (.iload 5, 2) := by decide +kernel
theorem dX11_bodyOf_261 : decode cX11_bodyOf 261 = .ok (.isub, 1) := by decide +kernel
theorem dX11_bodyOf_262 : decode cX11_bodyOf 262 = .ok (.ireturn, 1) := by decide +kernel
theorem dX11_bodyOf_263 : decode cX11_bodyOf 263 = .ok (.iload 4, 2) := by decide +kernel
theorem dX11_bodyOf_265 : decode cX11_bodyOf 265 = .ok (.lookupswitch 73 #[(3, 27), (5, 53)], 27) := by decide +kernel
theorem dX11_bodyOf_292 : decode cX11_bodyOf 292 = .ok (.aload_n 0, 1) := by decide +kernel
theorem dX11_bodyOf_293 : decode cX11_bodyOf 293 = .ok (.bipush 40, 2) := by decide +kernel
theorem dX11_bodyOf_295 : decode cX11_bodyOf 295 = .ok (.invokevirtual 277, 3) := by decide +kernel
theorem dX11_bodyOf_298 : decode cX11_bodyOf 298 = .ok (.aload_n 0, 1) := by decide +kernel
theorem dX11_bodyOf_299 : decode cX11_bodyOf 299 = .ok (.iconst 2, 1) := by decide +kernel
theorem dX11_bodyOf_300 : decode cX11_bodyOf 300 = .ok (.iload 6, 2) := by decide +kernel
theorem dX11_bodyOf_302 : decode cX11_bodyOf 302 = .ok (.iload_n 3, 1) := by decide +kernel
theorem dX11_bodyOf_303 : decode cX11_bodyOf 303 = .ok (.invokevirtual 280, 3) := by decide +kernel
theorem dX11_bodyOf_306 : decode cX11_bodyOf 306 = .ok (.istore 7, 2) := by decide +kernel
theorem dX11_bodyOf_308 : decode cX11_bodyOf 308 = .ok (.iload 7, 2) := by decide +kernel
theorem dX11_bodyOf_310 : decode cX11_bodyOf 310 = .ok (.aload_n 0, 1) := by decide +kernel
theorem dX11_bodyOf_311 : decode cX11_bodyOf 311 = .ok (.iconst 1, 1) := by decide +kernel
theorem dX11_bodyOf_312 : decode cX11_bodyOf 312 = .ok (.iconst 1, 1) := by decide +kernel
theorem dX11_bodyOf_313 : decode cX11_bodyOf 313 = .ok (.invokevirtual 283, 3) := by decide +kernel
theorem dX11_bodyOf_316 : decode cX11_bodyOf 316 = .ok (.iadd, 1) := by decide +kernel
theorem dX11_bodyOf_317 : decode cX11_bodyOf 317 = .ok (.ireturn, 1) := by decide +kernel
theorem dX11_bodyOf_318 : decode cX11_bodyOf 318 = .ok (.aload_n 0, 1) := by decide +kernel
theorem dX11_bodyOf_319 : decode cX11_bodyOf 319 = .ok (.bipush 60, 2) := by decide +kernel
theorem dX11_bodyOf_321 : decode cX11_bodyOf 321 = .ok (.invokevirtual 277, 3) := by decide +kernel
theorem dX11_bodyOf_324 : decode cX11_bodyOf 324 = .ok (.aload_n 0, 1) := by decide +kernel
theorem dX11_bodyOf_325 : decode cX11_bodyOf 325 = .ok (.iconst 2, 1) := by decide +kernel
theorem dX11_bodyOf_326 : decode cX11_bodyOf 326 = .ok (.iload 6, 2) := by decide +kernel
theorem dX11_bodyOf_328 : decode cX11_bodyOf 328 = .ok (.iload_n 3, 1) := by decide +kernel
theorem dX11_bodyOf_329 : decode cX11_bodyOf 329 = .ok (.aload_n 0, 1) := by decide +kernel
theorem dX11_bodyOf_330 : decode cX11_bodyOf 330 = .ok (.getfield 274, 3) := by decide +kernel
theorem dX11_bodyOf_333 : decode cX11_bodyOf 333 = .ok (.isub, 1) := by decide +kernel
theorem dX11_bodyOf_334 : decode cX11_bodyOf 334 = .ok (.invokevirtual 280, 3) := by decide +kernel
theorem dX11_bodyOf_337 : decode cX11_bodyOf 337 = .ok (.ireturn, 1) := by decide +kernel
theorem dX11_bodyOf_338 : decode cX11_bodyOf 338 = .ok (.aload_n 0, 1) := by decide +kernel
theorem dX11_bodyOf_339 : decode cX11_bodyOf 339 = .ok (.bipush 12, 2) := by decide +kernel
theorem dX11_bodyOf_341 : decode cX11_bodyOf 341 = .ok (.invokevirtual 277, 3) := by decide +kernel
theorem dX11_bodyOf_344 : decode cX11_bodyOf 344 = .ok (.aload_n 0, 1) := by decide +kernel
theorem dX11_bodyOf_345 : decode cX11_bodyOf 345 = .ok (.iconst 1, 1) := by decide +kernel
theorem dX11_bodyOf_346 : decode cX11_bodyOf 346 = .ok (.iload_n 3, 1) := by decide +kernel
theorem dX11_bodyOf_347 : decode cX11_bodyOf 347 = .ok (.invokevirtual 283, 3) := by decide +kernel
theorem dX11_bodyOf_350 : decode cX11_bodyOf 350 = .ok (.iconst 2, 1) := by decide +kernel
theorem dX11_bodyOf_351 : decode cX11_bodyOf 351 = .ok (.imul, 1) := by decide +kernel
theorem dX11_bodyOf_352 : decode cX11_bodyOf 352 = .ok (.ireturn, 1) := by decide +kernel
theorem dX11_hasBody_0 : decode cX11_hasBody 0 = .ok (.iload_n 1, 1) := by decide +kernel
theorem dX11_hasBody_1 : decode cX11_hasBody 1 = .ok (.ifCond .ne 5, 3) := by decide +kernel
theorem dX11_hasBody_4 : decode cX11_hasBody 4 = .ok (.iconst 1, 1) := by decide +kernel
theorem dX11_hasBody_5 : decode cX11_hasBody 5 = .ok (.ireturn, 1) := by decide +kernel
theorem dX11_hasBody_6 : decode cX11_hasBody 6 = .ok (.iload_n 0, 1) := by decide +kernel
theorem dX11_hasBody_7 : decode cX11_hasBody 7 = .ok (.ifCond .ne 27, 3) := by decide +kernel
theorem dX11_hasBody_10 : decode cX11_hasBody 10 = .ok (.iload_n 1, 1) := by decide +kernel
theorem dX11_hasBody_11 : decode cX11_hasBody 11 = .ok (.iconst 2, 1) := by decide +kernel
theorem dX11_hasBody_12 : decode cX11_hasBody 12 = .ok (.if_icmp .eq 14, 3) := by decide +kernel
theorem dX11_hasBody_15 : decode cX11_hasBody 15 = .ok (.iload_n 1, 1) := by decide +kernel
theorem dX11_hasBody_16 : decode cX11_hasBody 16 = .ok (.iconst 4, 1) := by decide +kernel
theorem dX11_hasBody_17 : decode cX11_hasBody 17 = .ok (.if_icmp .eq 9, 3) := by decide +kernel
theorem dX11_hasBody_20 : decode cX11_hasBody 20 = .ok (.iload_n 1, 1) := by decide +kernel
theorem dX11_hasBody_21 : decode cX11_hasBody 21 = .ok (.bipush 6, 2) := by decide +kernel
theorem dX11_hasBody_23 : decode cX11_hasBody 23 = .ok (.if_icmp .ne 7, 3) := by decide +kernel
theorem dX11_hasBody_26 : decode cX11_hasBody 26 = .ok (.iconst 1, 1) := by decide +kernel
theorem dX11_hasBody_27 : decode cX11_hasBody 27 = .ok (.goto 51, 3) := by decide +kernel
theorem dX11_hasBody_30 : decode cX11_hasBody 30 = .ok (.iconst 0, 1) := by decide +kernel
theorem dX11_hasBody_31 : decode cX11_hasBody 31 = .ok (.goto 47, 3) := by decide +kernel
theorem dX11_hasBody_34 : decode cX11_hasBody 34 = .ok (.iload_n 0, 1) := by decide +kernel
theorem dX11_hasBody_35 : decode cX11_hasBody 35 = .ok (.iconst 1, 1) := by decide +kernel
theorem dX11_hasBody_36 : decode cX11_hasBody 36 = .ok (.if_icmp .ne 27, 3) := by decide +kernel
theorem dX11_hasBody_39 : decode cX11_hasBody 39 = .ok (.iload_n 1, 1) := by decide +kernel
theorem dX11_hasBody_40 : decode cX11_hasBody 40 = .ok (.iconst 1, 1) := by decide +kernel
theorem dX11_hasBody_41 : decode cX11_hasBody 41 = .ok (.if_icmp .eq 14, 3) := by decide +kernel
theorem dX11_hasBody_44 : decode cX11_hasBody 44 = .ok (.iload_n 1, 1) := by decide +kernel
theorem dX11_hasBody_45 : decode cX11_hasBody 45 = .ok (.iconst 4, 1) := by decide +kernel
theorem dX11_hasBody_46 : decode cX11_hasBody 46 = .ok (.if_icmp .eq 9, 3) := by decide +kernel
theorem dX11_hasBody_49 : decode cX11_hasBody 49 = .ok (.iload_n 1, 1) := by decide +kernel
theorem dX11_hasBody_50 : decode cX11_hasBody 50 = .ok (.bipush 6, 2) := by decide +kernel
theorem dX11_hasBody_52 : decode cX11_hasBody 52 = .ok (.if_icmp .ne 7, 3) := by decide +kernel
theorem dX11_hasBody_55 : decode cX11_hasBody 55 = .ok (.iconst 1, 1) := by decide +kernel
theorem dX11_hasBody_56 : decode cX11_hasBody 56 = .ok (.goto 22, 3) := by decide +kernel
theorem dX11_hasBody_59 : decode cX11_hasBody 59 = .ok (.iconst 0, 1) := by decide +kernel
theorem dX11_hasBody_60 : decode cX11_hasBody 60 = .ok (.goto 18, 3) := by decide +kernel
theorem dX11_hasBody_63 : decode cX11_hasBody 63 = .ok (.iload_n 1, 1) := by decide +kernel
theorem dX11_hasBody_64 : decode cX11_hasBody 64 = .ok (.iconst 3, 1) := by decide +kernel
theorem dX11_hasBody_65 : decode cX11_hasBody 65 = .ok (.if_icmp .eq 8, 3) := by decide +kernel
theorem dX11_hasBody_68 : decode cX11_hasBody 68 = .ok (.iload_n 1, 1) := by decide +kernel
theorem dX11_hasBody_69 : decode cX11_hasBody 69 = .ok (.iconst 5, 1) := by decide +kernel
theorem dX11_hasBody_70 : decode cX11_hasBody 70 = .ok (.if_icmp .ne 7, 3) := by decide +kernel
theorem dX11_hasBody_73 : decode cX11_hasBody 73 = .ok (.iconst 1, 1) := by decide +kernel
theorem dX11_hasBody_74 : decode cX11_hasBody 74 = .ok (.goto 4, 3) := by decide +kernel
theorem dX11_hasBody_77 : decode cX11_hasBody 77 = .ok (.iconst 0, 1) := by decide +kernel
theorem dX11_hasBody_78 : decode cX11_hasBody 78 = .ok (.ireturn, 1) := by decide +kernel
theorem dX11_acts_0 : decode cX11_acts 0 = .ok (.aload_n 0, 1) := by decide +kernel
theorem dX11_acts_1 : decode cX11_acts 1 = .ok (.iload_n 1, 1) := by decide +kernel
theorem dX11_acts_2 : decode cX11_acts 2 = .ok (.aload_n 0, 1) := by decide +kernel
theorem dX11_acts_3 : decode cX11_acts 3 = .ok (.aload_n 0, 1) := by decide +kernel
theorem dX11_acts_4 : decode cX11_acts 4 = .ok (.getfield 274, 3) := by decide +kernel
theorem dX11_acts_7 : decode cX11_acts 7 = .ok (.iconst 0, 1) := by decide +kernel
theorem dX11_acts_8 : decode cX11_acts 8 = .ok (.invokevirtual 162, 3) := by decide +kernel
theorem dX11_acts_11 : decode cX11_acts 11 = .ok (.iload_n 2, 1) := by decide +kernel
theorem dX11_acts_12 : decode cX11_acts 12 = .ok (.invokevirtual 280, 3) := by decide +kernel
theorem dX11_acts_15 : decode cX11_acts 15 = .ok (.ireturn, 1) := by decide +kernel
theorem dX11_act_0 : decode cX11_act 0 = .ok (.aload_n 0, 1) := by decide +kernel
theorem dX11_act_1 : decode cX11_act 1 = .ok (.iconst 0, 1) := by decide +kernel
theorem dX11_act_2 : decode cX11_act 2 = .ok (.putfield 265, 3) := by decide +kernel
theorem dX11_act_5 : decode cX11_act 5 = .ok (.aload_n 0, 1) := by decide +kernel
theorem dX11_act_6 : decode cX11_act 6 = .ok (.iload_n 1, 1) := by decide +kernel
theorem dX11_act_7 : decode cX11_act 7 = .ok (.invokevirtual 165, 3) := by decide +kernel
theorem dX11_act_10 : decode cX11_act 10 = .ok (.ifCond .eq 11, 3) := by decide +kernel
theorem dX11_act_13 : decode cX11_act 13 = .ok (.iload_n 2, 1) := by decide +kernel
theorem dX11_act_14 : decode cX11_act 14 = .ok (.iconst 3, 1) := by decide +kernel
theorem dX11_act_15 : decode cX11_act 15 = .ok (.invokestatic 66, 3) := by decide +kernel
theorem dX11_act_18 : decode cX11_act 18 = .ok (.ifCond .ne 5, 3) := by decide +kernel
theorem dX11_act_21 : decode cX11_act 21 = .ok (.iconst 0, 1) := by decide +kernel
theorem dX11_act_22 : decode cX11_act 22 = .ok (.ireturn, 1) := by decide +kernel
theorem dX11_act_23 : decode cX11_act 23 = .ok (.aload_n 0, 1) := by decide +kernel
theorem dX11_act_24 : decode cX11_act 24 = .ok (.iload_n 1, 1) := by decide +kernel
theorem dX11_act_25 : decode cX11_act 25 = .ok (.putfield 274, 3) := by decide +kernel
theorem dX11_act_28 : decode cX11_act 28 = .ok (.aload_n 0, 1) := by decide +kernel
theorem dX11_act_29 : decode cX11_act 29 = .ok (.iload_n 2, 1) := by decide +kernel
theorem dX11_act_30 : decode cX11_act 30 = .ok (.iload_n 3, 1) := by decide +kernel
theorem dX11_act_31 : decode cX11_act 31 = .ok (.invokevirtual 283, 3) := by decide +kernel
theorem dX11_act_34 : decode cX11_act 34 = .ok (.ireturn, 1) := by decide +kernel
theorem dX11_trace_0 : decode cX11_trace 0 = .ok (.iload_n 1, 1) := by decide +kernel
theorem dX11_trace_1 : decode cX11_trace 1 = .ok (.ifCond .lt 26, 3) := by decide +kernel
theorem dX11_trace_4 : decode cX11_trace 4 = .ok (.iload_n 1, 1) := by decide +kernel
theorem dX11_trace_5 : decode cX11_trace 5 = .ok (.aload_n 0, 1) := by decide +kernel
theorem dX11_trace_6 : decode cX11_trace 6 = .ok (.getfield 265, 3) := by decide +kernel
theorem dX11_trace_9 : decode cX11_trace 9 = .ok (.if_icmp .ge 18, 3) := by decide +kernel
theorem dX11_trace_12 : decode cX11_trace 12 = .ok (.iload_n 1, 1) := by decide +kernel
theorem dX11_trace_13 : decode cX11_trace 13 = .ok (.bipush 20, 2) := by decide +kernel
theorem dX11_trace_15 : decode cX11_trace 15 = .ok (.if_icmp .ge 12, 3) := by decide +kernel
theorem dX11_trace_18 : decode cX11_trace 18 = .ok (.aload_n 0, 1) := by decide +kernel
theorem dX11_trace_19 : decode cX11_trace 19 = .ok (.getfield 50, 3) := by decide +kernel
theorem dX11_trace_22 : decode cX11_trace 22 = .ok (.iload_n 1, 1) := by decide +kernel
theorem dX11_trace_23 : decode cX11_trace 23 = .ok (.iaload, 1) := by decide +kernel
theorem dX11_trace_24 : decode cX11_trace 24 = .ok (.goto 4, 3) := by decide +kernel
theorem dX11_trace_27 : decode cX11_trace 27 = .ok (.iconst (-1), 1) := by decide +kernel
theorem dX11_trace_28 : decode cX11_trace 28 = .ok (.ireturn, 1) := by decide +kernel
theorem dX11_taken_0 : decode cX11_taken 0 = .ok (.iload_n 2, 1) := by decide +kernel
theorem dX11_taken_1 : decode cX11_taken 1 = .ok (.bipush 7, 2) := by decide +kernel
theorem dX11_taken_3 : decode cX11_taken 3 = .ok (.invokestatic 66, 3) := by decide +kernel
theorem dX11_taken_6 : decode cX11_taken 6 = .ok (.ifCond .ne 6, 3) := by decide +kernel
theorem dX11_taken_9 : decode cX11_taken 9 = .ok (.bipush (-2), 2) := by decide +kernel
theorem dX11_taken_11 : decode cX11_taken 11 = .ok (.ireturn, 1) := by decide +kernel
theorem dX11_taken_12 : decode cX11_taken 12 = .ok (.aload_n 0, 1) := by decide +kernel
theorem dX11_taken_13 : decode cX11_taken 13 = .ok (.iload_n 1, 1) := by decide +kernel
theorem dX11_taken_14 : decode cX11_taken 14 = .ok (.invokevirtual 165, 3) := by decide +kernel
theorem dX11_taken_17 : decode cX11_taken 17 = .ok (.ifCond .ne 6, 3) := by decide +kernel
theorem dX11_taken_20 : decode cX11_taken 20 = .ok (.bipush (-11), 2) := by decide +kernel
theorem dX11_taken_22 : decode cX11_taken 22 = .ok (.ireturn, 1) := by decide +kernel
theorem dX11_taken_23 : decode cX11_taken 23 = .ok (.aload_n 0, 1) := by decide +kernel
theorem dX11_taken_24 : decode cX11_taken 24 = .ok (.iload_n 1, 1) := by decide +kernel
theorem dX11_taken_25 : decode cX11_taken 25 = .ok (.iconst 0, 1) := by decide +kernel
theorem dX11_taken_26 : decode cX11_taken 26 = .ok (.invokevirtual 162, 3) := by decide +kernel
theorem dX11_taken_29 : decode cX11_taken 29 = .ok (.istore_n 3, 1) := by decide +kernel
theorem dX11_taken_30 : decode cX11_taken 30 = .ok (.iload_n 3, 1) := by decide +kernel
theorem dX11_taken_31 : decode cX11_taken 31 = .ok (.istore 4, 2) := by decide +kernel
theorem dX11_taken_33 : decode cX11_taken 33 = .ok (.iload 4, 2) := by decide +kernel
theorem dX11_taken_35 : decode cX11_taken 35 = .ok (.ifCond .lt 21, 3) := by decide +kernel
theorem dX11_taken_38 : decode cX11_taken 38 = .ok (.iload 4, 2) := by decide +kernel
theorem dX11_taken_40 : decode cX11_taken 40 = .ok (.iload_n 2, 1) := by decide +kernel
theorem dX11_taken_41 : decode cX11_taken 41 = .ok (.if_icmp .ne 5, 3) := by decide +kernel
theorem dX11_taken_44 : decode cX11_taken 44 = .ok (.iload_n 3, 1) := by decide +kernel
theorem dX11_taken_45 : decode cX11_taken 45 = .ok (.ireturn, 1) := by decide +kernel
theorem dX11_taken_46 : decode cX11_taken 46 = .ok (.iload 4, 2) := by decide +kernel
theorem dX11_taken_48 : decode cX11_taken 48 = .ok (.invokestatic 271, 3) := by decide +kernel
theorem dX11_taken_51 : decode cX11_taken 51 = .ok (.istore 4, 2) := by decide +kernel
theorem dX11_taken_53 : decode cX11_taken 53 = .ok (.goto (-20), 3) := by decide +kernel
theorem dX11_taken_56 : decode cX11_taken 56 = .ok (.bipush (-12), 2) := by decide +kernel
theorem dX11_taken_58 : decode cX11_taken 58 = .ok (.ireturn, 1) := by decide +kernel
theorem dX11_judge_0 : decode cX11_judge 0 = .ok (.iload_n 1, 1) := by decide +kernel
theorem dX11_judge_1 : decode cX11_judge 1 = .ok (.bipush 6, 2) := by decide +kernel
theorem dX11_judge_3 : decode cX11_judge 3 = .ok (.invokestatic 66, 3) := by decide +kernel
theorem dX11_judge_6 : decode cX11_judge 6 = .ok (.ifCond .ne 5, 3) := by decide +kernel
theorem dX11_judge_9 : decode cX11_judge 9 = .ok (.iconst (-1), 1) := by decide +kernel
theorem dX11_judge_10 : decode cX11_judge 10 = .ok (.ireturn, 1) := by decide +kernel
theorem dX11_judge_11 : decode cX11_judge 11 = .ok (.aload_n 0, 1) := by decide +kernel
theorem dX11_judge_12 : decode cX11_judge 12 = .ok (.getfield 59, 3) := by decide +kernel
theorem dX11_judge_15 : decode cX11_judge 15 = .ok (.iload_n 1, 1) := by decide +kernel
theorem dX11_judge_16 : decode cX11_judge 16 = .ok (.baload, 1) := by decide +kernel
theorem dX11_judge_17 : decode cX11_judge 17 = .ok (.ifCond .eq 16, 3) := by decide +kernel
theorem dX11_judge_20 : decode cX11_judge 20 = .ok (.aload_n 0, 1) := by decide +kernel
theorem dX11_judge_21 : decode cX11_judge 21 = .ok (.getfield 53, 3) := by decide +kernel
theorem dX11_judge_24 : decode cX11_judge 24 = .ok (.iload_n 1, 1) := by decide +kernel
theorem dX11_judge_25 : decode cX11_judge 25 = .ok (.iaload, 1) := by decide +kernel
theorem dX11_judge_26 : decode cX11_judge 26 = .ok (.iconst 3, 1) := by decide +kernel
theorem dX11_judge_27 : decode cX11_judge 27 = .ok (.if_icmp .eq 6, 3) := by decide +kernel
theorem dX11_judge_30 : decode cX11_judge 30 = .ok (.bipush (-12), 2) := by decide +kernel
theorem dX11_judge_32 : decode cX11_judge 32 = .ok (.ireturn, 1) := by decide +kernel
theorem dX11_judge_33 : decode cX11_judge 33 = .ok (.aload_n 0, 1) := by decide +kernel
theorem dX11_judge_34 : decode cX11_judge 34 = .ok (.getfield 9, 3) := by decide +kernel
theorem dX11_judge_37 : decode cX11_judge 37 = .ok (.iconst 0, 1) := by decide +kernel
theorem dX11_judge_38 : decode cX11_judge 38 = .ok (.iaload, 1) := by decide +kernel
theorem dX11_judge_39 : decode cX11_judge 39 = .ok (.ifCond .ne 6, 3) := by decide +kernel
theorem dX11_judge_42 : decode cX11_judge 42 = .ok (.bipush (-5), 2) := by decide +kernel
theorem dX11_judge_44 : decode cX11_judge 44 = .ok (.ireturn, 1) := by decide +kernel
theorem dX11_judge_45 : decode cX11_judge 45 = .ok (.aload_n 0, 1) := by decide +kernel
theorem dX11_judge_46 : decode cX11_judge 46 = .ok (.getfield 59, 3) := by decide +kernel
theorem dX11_judge_49 : decode cX11_judge 49 = .ok (.iload_n 1, 1) := by decide +kernel
theorem dX11_judge_50 : decode cX11_judge 50 = .ok (.baload, 1) := by decide +kernel
theorem dX11_judge_51 : decode cX11_judge 51 = .ok (.ifCond .eq 7, 3) := by decide +kernel
theorem dX11_judge_54 : decode cX11_judge 54 = .ok (.iload_n 2, 1) := by decide +kernel
theorem dX11_judge_55 : decode cX11_judge 55 = .ok (.ifCond .ge 6, 3) := by decide +kernel
theorem dX11_judge_58 : decode cX11_judge 58 = .ok (.bipush 100, 2) := by decide +kernel
theorem dX11_judge_60 : decode cX11_judge 60 = .ok (.ireturn, 1) := by decide +kernel
theorem dX11_judge_61 : decode cX11_judge 61 = .ok (.iconst 0, 1) := by decide +kernel
theorem dX11_judge_62 : decode cX11_judge 62 = .ok (.istore_n 3, 1) := by decide +kernel
theorem dX11_judge_63 : decode cX11_judge 63 = .ok (.iload_n 3, 1) := by decide +kernel
theorem dX11_judge_64 : decode cX11_judge 64 = .ok (.aload_n 0, 1) := by decide +kernel
theorem dX11_judge_65 : decode cX11_judge 65 = .ok (.getfield 9, 3) := by decide +kernel
theorem dX11_judge_68 : decode cX11_judge 68 = .ok (.iconst 0, 1) := by decide +kernel
theorem dX11_judge_69 : decode cX11_judge 69 = .ok (.iaload, 1) := by decide +kernel
theorem dX11_judge_70 : decode cX11_judge 70 = .ok (.if_icmp .ge 54, 3) := by decide +kernel
theorem dX11_judge_73 : decode cX11_judge 73 = .ok (.iload_n 2, 1) := by decide +kernel
theorem dX11_judge_74 : decode cX11_judge 74 = .ok (.aload_n 0, 1) := by decide +kernel
theorem dX11_judge_75 : decode cX11_judge 75 = .ok (.getfield 56, 3) := by decide +kernel
theorem dX11_judge_78 : decode cX11_judge 78 = .ok (.iload_n 1, 1) := by decide +kernel
theorem dX11_judge_79 : decode cX11_judge 79 = .ok (.iaload, 1) := by decide +kernel
theorem dX11_judge_80 : decode cX11_judge 80 = .ok (.iconst 1, 1) := by decide +kernel
theorem dX11_judge_81 : decode cX11_judge 81 = .ok (.isub, 1) := by decide +kernel
theorem dX11_judge_82 : decode cX11_judge 82 = .ok (.iload_n 3, 1) := by decide +kernel
theorem dX11_judge_83 : decode cX11_judge 83 = .ok (.isub, 1) := by decide +kernel
theorem dX11_judge_84 : decode cX11_judge 84 = .ok (.if_icmp .le 8, 3) := by decide +kernel
theorem dX11_judge_87 : decode cX11_judge 87 = .ok (.bipush 100, 2) := by decide +kernel
theorem dX11_judge_89 : decode cX11_judge 89 = .ok (.iload_n 3, 1) := by decide +kernel
theorem dX11_judge_90 : decode cX11_judge 90 = .ok (.iadd, 1) := by decide +kernel
theorem dX11_judge_91 : decode cX11_judge 91 = .ok (.ireturn, 1) := by decide +kernel
theorem dX11_judge_92 : decode cX11_judge 92 = .ok (.aload_n 0, 1) := by decide +kernel
theorem dX11_judge_93 : decode cX11_judge 93 = .ok (.getfield 63, 3) := by decide +kernel
theorem dX11_judge_96 : decode cX11_judge 96 = .ok (.bipush 60, 2) := by decide +kernel
theorem dX11_judge_98 : decode cX11_judge 98 = .ok (.iload_n 1, 1) := by decide +kernel
theorem dX11_judge_99 : decode cX11_judge 99 = .ok (.imul, 1) := by decide +kernel
theorem dX11_judge_100 : decode cX11_judge 100 = .ok (.iload_n 2, 1) := by decide +kernel
theorem dX11_judge_101 : decode cX11_judge 101 = .ok (.iadd, 1) := by decide +kernel
theorem dX11_judge_102 : decode cX11_judge 102 = .ok (.iload_n 3, 1) := by decide +kernel
theorem dX11_judge_103 : decode cX11_judge 103 = .ok (.iadd, 1) := by decide +kernel
theorem dX11_judge_104 : decode cX11_judge 104 = .ok (.laload, 1) := by decide +kernel
theorem dX11_judge_105 : decode cX11_judge 105 = .ok (.aload_n 0, 1) := by decide +kernel
theorem dX11_judge_106 : decode cX11_judge 106 = .ok (.iload_n 3, 1) := by decide +kernel
theorem dX11_judge_107 : decode cX11_judge 107 = .ok (.iconst 2, 1) := by decide +kernel
theorem dX11_judge_108 : decode cX11_judge 108 = .ok (.invokevirtual 162, 3) := by decide +kernel
theorem dX11_judge_111 : decode cX11_judge 111 = .ok (.i2l, 1) := by decide +kernel
theorem dX11_judge_112 : decode cX11_judge 112 = .ok (.lcmp, 1) := by decide +kernel
theorem dX11_judge_113 : decode cX11_judge 113 = .ok (.ifCond .eq 5, 3) := by decide +kernel
theorem dX11_judge_116 : decode cX11_judge 116 = .ok (.iload_n 3, 1) := by decide +kernel
theorem dX11_judge_117 : decode cX11_judge 117 = .ok (.ireturn, 1) := by decide +kernel
theorem dX11_judge_118 : decode cX11_judge 118 = .ok (.iinc 3 1, 3) := by decide +kernel
theorem dX11_judge_121 : decode cX11_judge 121 = .ok (.goto (-58), 3) := by decide +kernel
theorem dX11_judge_124 : decode cX11_judge 124 = .ok (.bipush (-5), 2) := by decide +kernel
theorem dX11_judge_126 : decode cX11_judge 126 = .ok (.ireturn, 1) := by decide +kernel
theorem dX11_image_0 : decode cX11_image 0 = .ok (.iconst 0, 1) := by decide +kernel
theorem dX11_image_1 : decode cX11_image 1 = .ok (.istore_n 1, 1) := by decide +kernel
theorem dX11_image_2 : decode cX11_image 2 = .ok (.iload_n 1, 1) := by decide +kernel
theorem dX11_image_3 : decode cX11_image 3 = .ok (.bipush 70, 2) := by decide +kernel
theorem dX11_image_5 : decode cX11_image 5 = .ok (.if_icmp .ge 21, 3) := by decide +kernel
theorem dX11_image_8 : decode cX11_image 8 = .ok (.aload_n 0, 1) := by decide +kernel
theorem dX11_image_9 : decode cX11_image 9 = .ok (.getfield 13, 3) := by decide +kernel
theorem dX11_image_12 : decode cX11_image 12 = .ok (.iload_n 1, 1) := by decide +kernel
theorem dX11_image_13 : decode cX11_image 13 = .ok (.aload_n 0, 1) := by decide +kernel
theorem dX11_image_14 : decode cX11_image 14 = .ok (.getfield 9, 3) := by decide +kernel
theorem dX11_image_17 : decode cX11_image 17 = .ok (.iload_n 1, 1) := by decide +kernel
theorem dX11_image_18 : decode cX11_image 18 = .ok (.iaload, 1) := by decide +kernel
theorem dX11_image_19 : decode cX11_image 19 = .ok (.iastore, 1) := by decide +kernel
theorem dX11_image_20 : decode cX11_image 20 = .ok (.iinc 1 1, 3) := by decide +kernel
theorem dX11_image_23 : decode cX11_image 23 = .ok (.goto (-21), 3) := by decide +kernel
theorem dX11_image_26 : decode cX11_image 26 = .ok (.aload_n 0, 1) := by decide +kernel
theorem dX11_image_27 : decode cX11_image 27 = .ok (.iconst 1, 1) := by decide +kernel
theorem dX11_image_28 : decode cX11_image 28 = .ok (.putfield 286, 3) := by decide +kernel
theorem dX11_image_31 : decode cX11_image 31 = .ok (.aload_n 0, 1) := by decide +kernel
theorem dX11_image_32 : decode cX11_image 32 = .ok (.getfield 9, 3) := by decide +kernel
theorem dX11_image_35 : decode cX11_image 35 = .ok (.iconst 0, 1) := by decide +kernel
theorem dX11_image_36 : decode cX11_image 36 = .ok (.iaload, 1) := by decide +kernel
theorem dX11_image_37 : decode cX11_image 37 = .ok (.ireturn, 1) := by decide +kernel
theorem dX11_undo_0 : decode cX11_undo 0 = .ok (.aload_n 0, 1) := by decide +kernel
theorem dX11_undo_1 : decode cX11_undo 1 = .ok (.getfield 286, 3) := by decide +kernel
theorem dX11_undo_4 : decode cX11_undo 4 = .ok (.ifCond .ne 6, 3) := by decide +kernel
theorem dX11_undo_7 : decode cX11_undo 7 = .ok (.bipush (-3), 2) := by decide +kernel
theorem dX11_undo_9 : decode cX11_undo 9 = .ok (.ireturn, 1) := by decide +kernel
theorem dX11_undo_10 : decode cX11_undo 10 = .ok (.iconst 0, 1) := by decide +kernel
theorem dX11_undo_11 : decode cX11_undo 11 = .ok (.istore_n 1, 1) := by decide +kernel
theorem dX11_undo_12 : decode cX11_undo 12 = .ok (.iload_n 1, 1) := by decide +kernel
theorem dX11_undo_13 : decode cX11_undo 13 = .ok (.bipush 70, 2) := by decide +kernel
theorem dX11_undo_15 : decode cX11_undo 15 = .ok (.if_icmp .ge 21, 3) := by decide +kernel
theorem dX11_undo_18 : decode cX11_undo 18 = .ok (.aload_n 0, 1) := by decide +kernel
theorem dX11_undo_19 : decode cX11_undo 19 = .ok (.getfield 9, 3) := by decide +kernel
theorem dX11_undo_22 : decode cX11_undo 22 = .ok (.iload_n 1, 1) := by decide +kernel
theorem dX11_undo_23 : decode cX11_undo 23 = .ok (.aload_n 0, 1) := by decide +kernel
theorem dX11_undo_24 : decode cX11_undo 24 = .ok (.getfield 13, 3) := by decide +kernel
theorem dX11_undo_27 : decode cX11_undo 27 = .ok (.iload_n 1, 1) := by decide +kernel
theorem dX11_undo_28 : decode cX11_undo 28 = .ok (.iaload, 1) := by decide +kernel
theorem dX11_undo_29 : decode cX11_undo 29 = .ok (.iastore, 1) := by decide +kernel
theorem dX11_undo_30 : decode cX11_undo 30 = .ok (.iinc 1 1, 3) := by decide +kernel
theorem dX11_undo_33 : decode cX11_undo 33 = .ok (.goto (-21), 3) := by decide +kernel
theorem dX11_undo_36 : decode cX11_undo 36 = .ok (.aload_n 0, 1) := by decide +kernel
theorem dX11_undo_37 : decode cX11_undo 37 = .ok (.getfield 9, 3) := by decide +kernel
theorem dX11_undo_40 : decode cX11_undo 40 = .ok (.iconst 0, 1) := by decide +kernel
theorem dX11_undo_41 : decode cX11_undo 41 = .ok (.iaload, 1) := by decide +kernel
theorem dX11_undo_42 : decode cX11_undo 42 = .ok (.ireturn, 1) := by decide +kernel
theorem dX11_count_0 : decode cX11_count 0 = .ok (.iload_n 1, 1) := by decide +kernel
theorem dX11_count_1 : decode cX11_count 1 = .ok (.tableswitch 75 0 5 #[39, 46, 51, 58, 65, 70], 39) := by decide +kernel
theorem dX11_count_40 : decode cX11_count 40 = .ok (.aload_n 0, 1) := by decide +kernel
theorem dX11_count_41 : decode cX11_count 41 = .ok (.getfield 9, 3) := by decide +kernel
theorem dX11_count_44 : decode cX11_count 44 = .ok (.iconst 0, 1) := by decide +kernel
theorem dX11_count_45 : decode cX11_count 45 = .ok (.iaload, 1) := by decide +kernel
theorem dX11_count_46 : decode cX11_count 46 = .ok (.ireturn, 1) := by decide +kernel
theorem dX11_count_47 : decode cX11_count 47 = .ok (.aload_n 0, 1) := by decide +kernel
theorem dX11_count_48 : decode cX11_count 48 = .ok (.getfield 136, 3) := by decide +kernel
theorem dX11_count_51 : decode cX11_count 51 = .ok (.ireturn, 1) := by decide +kernel
theorem dX11_count_52 : decode cX11_count 52 = .ok (.aload_n 0, 1) := by decide +kernel
theorem dX11_count_53 : decode cX11_count 53 = .ok (.getfield 9, 3) := by decide +kernel
theorem dX11_count_56 : decode cX11_count 56 = .ok (.iconst 2, 1) := by decide +kernel
theorem dX11_count_57 : decode cX11_count 57 = .ok (.iaload, 1) := by decide +kernel
theorem dX11_count_58 : decode cX11_count 58 = .ok (.ireturn, 1) := by decide +kernel
theorem dX11_count_59 : decode cX11_count 59 = .ok (.aload_n 0, 1) := by decide +kernel
theorem dX11_count_60 : decode cX11_count 60 = .ok (.getfield 9, 3) := by decide +kernel
theorem dX11_count_63 : decode cX11_count 63 = .ok (.iconst 3, 1) := by decide +kernel
theorem dX11_count_64 : decode cX11_count 64 = .ok (.iaload, 1) := by decide +kernel
theorem dX11_count_65 : decode cX11_count 65 = .ok (.ireturn, 1) := by decide +kernel
theorem dX11_count_66 : decode cX11_count 66 = .ok (.aload_n 0, 1) := by decide +kernel
theorem dX11_count_67 : decode cX11_count 67 = .ok (.getfield 70, 3) := by decide +kernel
theorem dX11_count_70 : decode cX11_count 70 = .ok (.ireturn, 1) := by decide +kernel
theorem dX11_count_71 : decode cX11_count 71 = .ok (.aload_n 0, 1) := by decide +kernel
theorem dX11_count_72 : decode cX11_count 72 = .ok (.getfield 265, 3) := by decide +kernel
theorem dX11_count_75 : decode cX11_count 75 = .ok (.ireturn, 1) := by decide +kernel
theorem dX11_count_76 : decode cX11_count 76 = .ok (.bipush (-2), 2) := by decide +kernel
theorem dX11_count_78 : decode cX11_count 78 = .ok (.ireturn, 1) := by decide +kernel
theorem dX11_tape_0 : decode cX11_tape 0 = .ok (.iload_n 1, 1) := by decide +kernel
theorem dX11_tape_1 : decode cX11_tape 1 = .ok (.bipush 6, 2) := by decide +kernel
theorem dX11_tape_3 : decode cX11_tape 3 = .ok (.invokestatic 66, 3) := by decide +kernel
theorem dX11_tape_6 : decode cX11_tape 6 = .ok (.ifCond .ne 5, 3) := by decide +kernel
theorem dX11_tape_9 : decode cX11_tape 9 = .ok (.iconst (-1), 1) := by decide +kernel
theorem dX11_tape_10 : decode cX11_tape 10 = .ok (.ireturn, 1) := by decide +kernel
theorem dX11_tape_11 : decode cX11_tape 11 = .ok (.iload_n 2, 1) := by decide +kernel
theorem dX11_tape_12 : decode cX11_tape 12 = .ok (.iconst (-1), 1) := by decide +kernel
theorem dX11_tape_13 : decode cX11_tape 13 = .ok (.if_icmp .lt 18, 3) := by decide +kernel
theorem dX11_tape_16 : decode cX11_tape 16 = .ok (.iload_n 2, 1) := by decide +kernel
theorem dX11_tape_17 : decode cX11_tape 17 = .ok (.iconst 4, 1) := by decide +kernel
theorem dX11_tape_18 : decode cX11_tape 18 = .ok (.if_icmp .gt 13, 3) := by decide +kernel
theorem dX11_tape_21 : decode cX11_tape 21 = .ok (.iload_n 2, 1) := by decide +kernel
theorem dX11_tape_22 : decode cX11_tape 22 = .ok (.ifCond .lt 12, 3) := by decide +kernel
theorem dX11_tape_25 : decode cX11_tape 25 = .ok (.iload_n 3, 1) := by decide +kernel
theorem dX11_tape_26 : decode cX11_tape 26 = .ok (.bipush 60, 2) := by decide +kernel
theorem dX11_tape_28 : decode cX11_tape 28 = .ok (.if_icmp .le 6, 3) := by decide +kernel
theorem dX11_tape_31 : decode cX11_tape 31 = .ok (.bipush (-2), 2) := by decide +kernel
theorem dX11_tape_33 : decode cX11_tape 33 = .ok (.ireturn, 1) := by decide +kernel
theorem dX11_tape_34 : decode cX11_tape 34 = .ok (.iload_n 2, 1) := by decide +kernel
theorem dX11_tape_35 : decode cX11_tape 35 = .ok (.ifCond .lt 10, 3) := by decide +kernel
theorem dX11_tape_38 : decode cX11_tape 38 = .ok (.iload_n 3, 1) := by decide +kernel
theorem dX11_tape_39 : decode cX11_tape 39 = .ok (.ifCond .ge 6, 3) := by decide +kernel
theorem dX11_tape_42 : decode cX11_tape 42 = .ok (.bipush (-14), 2) := by decide +kernel
theorem dX11_tape_44 : decode cX11_tape 44 = .ok (.ireturn, 1) := by decide +kernel
theorem dX11_tape_45 : decode cX11_tape 45 = .ok (.aload_n 0, 1) := by decide +kernel
theorem dX11_tape_46 : decode cX11_tape 46 = .ok (.getfield 59, 3) := by decide +kernel
theorem dX11_tape_49 : decode cX11_tape 49 = .ok (.iload_n 1, 1) := by decide +kernel
theorem dX11_tape_50 : decode cX11_tape 50 = .ok (.iload_n 2, 1) := by decide +kernel
theorem dX11_tape_51 : decode cX11_tape 51 = .ok (.ifCond .lt 7, 3) := by decide +kernel
theorem dX11_tape_54 : decode cX11_tape 54 = .ok (.iconst 1, 1) := by decide +kernel
theorem dX11_tape_55 : decode cX11_tape 55 = .ok (.goto 4, 3) := by decide +kernel
theorem dX11_tape_58 : decode cX11_tape 58 = .ok (.iconst 0, 1) := by decide +kernel
theorem dX11_tape_59 : decode cX11_tape 59 = .ok (.bastore, 1) := by decide +kernel
theorem dX11_tape_60 : decode cX11_tape 60 = .ok (.aload_n 0, 1) := by decide +kernel
theorem dX11_tape_61 : decode cX11_tape 61 = .ok (.getfield 53, 3) := by decide +kernel
theorem dX11_tape_64 : decode cX11_tape 64 = .ok (.iload_n 1, 1) := by decide +kernel
theorem dX11_tape_65 : decode cX11_tape 65 = .ok (.iload_n 2, 1) := by decide +kernel
theorem dX11_tape_66 : decode cX11_tape 66 = .ok (.iastore, 1) := by decide +kernel
theorem dX11_tape_67 : decode cX11_tape 67 = .ok (.aload_n 0, 1) := by decide +kernel
theorem dX11_tape_68 : decode cX11_tape 68 = .ok (.getfield 56, 3) := by decide +kernel
theorem dX11_tape_71 : decode cX11_tape 71 = .ok (.iload_n 1, 1) := by decide +kernel
theorem dX11_tape_72 : decode cX11_tape 72 = .ok (.iload_n 2, 1) := by decide +kernel
theorem dX11_tape_73 : decode cX11_tape 73 = .ok (.ifCond .ge 7, 3) := by decide +kernel
theorem dX11_tape_76 : decode cX11_tape 76 = .ok (.iconst 0, 1) := by decide +kernel
theorem dX11_tape_77 : decode cX11_tape 77 = .ok (.goto 4, 3) := by decide +kernel
theorem dX11_tape_80 : decode cX11_tape 80 = .ok (.iload_n 3, 1) := by decide +kernel
theorem dX11_tape_81 : decode cX11_tape 81 = .ok (.iastore, 1) := by decide +kernel
theorem dX11_tape_82 : decode cX11_tape 82 = .ok (.iconst 0, 1) := by decide +kernel
theorem dX11_tape_83 : decode cX11_tape 83 = .ok (.istore 4, 2) := by decide +kernel
theorem dX11_tape_85 : decode cX11_tape 85 = .ok (.iload 4, 2) := by decide +kernel
theorem dX11_tape_87 : decode cX11_tape 87 = .ok (.bipush 60, 2) := by decide +kernel
theorem dX11_tape_89 : decode cX11_tape 89 = .ok (.if_icmp .ge 22, 3) := by decide +kernel
theorem dX11_tape_92 : decode cX11_tape 92 = .ok (.aload_n 0, 1) := by decide +kernel
theorem dX11_tape_93 : decode cX11_tape 93 = .ok (.getfield 63, 3) := by decide +kernel
theorem dX11_tape_96 : decode cX11_tape 96 = .ok (.bipush 60, 2) := by decide +kernel
theorem dX11_tape_98 : decode cX11_tape 98 = .ok (.iload_n 1, 1) := by decide +kernel
theorem dX11_tape_99 : decode cX11_tape 99 = .ok (.imul, 1) := by decide +kernel
theorem dX11_tape_100 : decode cX11_tape 100 = .ok (.iload 4, 2) := by decide +kernel
theorem dX11_tape_102 : decode cX11_tape 102 = .ok (.iadd, 1) := by decide +kernel
theorem dX11_tape_103 : decode cX11_tape 103 = .ok (.lconst 0, 1) := by decide +kernel
theorem dX11_tape_104 : decode cX11_tape 104 = .ok (.lastore, 1) := by decide +kernel
theorem dX11_tape_105 : decode cX11_tape 105 = .ok (.iinc 4 1, 3) := by decide +kernel
theorem dX11_tape_108 : decode cX11_tape 108 = .ok (.goto (-23), 3) := by decide +kernel
theorem dX11_tape_111 : decode cX11_tape 111 = .ok (.iconst 1, 1) := by decide +kernel
theorem dX11_tape_112 : decode cX11_tape 112 = .ok (.ireturn, 1) := by decide +kernel
theorem dX11_item_0 : decode cX11_item 0 = .ok (.iload_n 1, 1) := by decide +kernel
theorem dX11_item_1 : decode cX11_item 1 = .ok (.bipush 6, 2) := by decide +kernel
theorem dX11_item_3 : decode cX11_item 3 = .ok (.invokestatic 66, 3) := by decide +kernel
theorem dX11_item_6 : decode cX11_item 6 = .ok (.ifCond .ne 5, 3) := by decide +kernel
theorem dX11_item_9 : decode cX11_item 9 = .ok (.iconst (-1), 1) := by decide +kernel
theorem dX11_item_10 : decode cX11_item 10 = .ok (.ireturn, 1) := by decide +kernel
theorem dX11_item_11 : decode cX11_item 11 = .ok (.aload_n 0, 1) := by decide +kernel
theorem dX11_item_12 : decode cX11_item 12 = .ok (.getfield 59, 3) := by decide +kernel
theorem dX11_item_15 : decode cX11_item 15 = .ok (.iload_n 1, 1) := by decide +kernel
theorem dX11_item_16 : decode cX11_item 16 = .ok (.baload, 1) := by decide +kernel
theorem dX11_item_17 : decode cX11_item 17 = .ok (.ifCond .ne 6, 3) := by decide +kernel
theorem dX11_item_20 : decode cX11_item 20 = .ok (.bipush (-11), 2) := by decide +kernel
theorem dX11_item_22 : decode cX11_item 22 = .ok (.ireturn, 1) := by decide +kernel
theorem dX11_item_23 : decode cX11_item 23 = .ok (.iload_n 2, 1) := by decide +kernel
theorem dX11_item_24 : decode cX11_item 24 = .ok (.aload_n 0, 1) := by decide +kernel
theorem dX11_item_25 : decode cX11_item 25 = .ok (.getfield 56, 3) := by decide +kernel
theorem dX11_item_28 : decode cX11_item 28 = .ok (.iload_n 1, 1) := by decide +kernel
theorem dX11_item_29 : decode cX11_item 29 = .ok (.iaload, 1) := by decide +kernel
theorem dX11_item_30 : decode cX11_item 30 = .ok (.invokestatic 66, 3) := by decide +kernel
theorem dX11_item_33 : decode cX11_item 33 = .ok (.ifCond .ne 6, 3) := by decide +kernel
theorem dX11_item_36 : decode cX11_item 36 = .ok (.bipush (-13), 2) := by decide +kernel
theorem dX11_item_38 : decode cX11_item 38 = .ok (.ireturn, 1) := by decide +kernel
theorem dX11_item_39 : decode cX11_item 39 = .ok (.aload_n 0, 1) := by decide +kernel
theorem dX11_item_40 : decode cX11_item 40 = .ok (.getfield 63, 3) := by decide +kernel
theorem dX11_item_43 : decode cX11_item 43 = .ok (.bipush 60, 2) := by decide +kernel
theorem dX11_item_45 : decode cX11_item 45 = .ok (.iload_n 1, 1) := by decide +kernel
theorem dX11_item_46 : decode cX11_item 46 = .ok (.imul, 1) := by decide +kernel
theorem dX11_item_47 : decode cX11_item 47 = .ok (.iload_n 2, 1) := by decide +kernel
theorem dX11_item_48 : decode cX11_item 48 = .ok (.iadd, 1) := by decide +kernel
theorem dX11_item_49 : decode cX11_item 49 = .ok (.aload_n 0, 1) := by decide +kernel
theorem dX11_item_50 : decode cX11_item 50 = .ok (.getfield 53, 3) := by decide +kernel
theorem dX11_item_53 : decode cX11_item 53 = .ok (.iload_n 1, 1) := by decide +kernel
theorem dX11_item_54 : decode cX11_item 54 = .ok (.iaload, 1) := by decide +kernel
theorem dX11_item_55 : decode cX11_item 55 = .ok (.ifCond .ne 10, 3) := by decide +kernel
theorem dX11_item_58 : decode cX11_item 58 = .ok (.lload_n 3, 1) := by decide +kernel
theorem dX11_item_59 : decode cX11_item 59 = .ok (.l2i, 1) := by decide +kernel
theorem dX11_item_60 : decode cX11_item 60 = .ok (.i2b, 1) := by decide +kernel
theorem dX11_item_61 : decode cX11_item 61 = .ok (.i2l, 1) := by decide +kernel
theorem dX11_item_62 : decode cX11_item 62 = .ok (.goto 61, 3) := by decide +kernel
theorem dX11_item_65 : decode cX11_item 65 = .ok (.aload_n 0, 1) := by decide +kernel
theorem dX11_item_66 : decode cX11_item 66 = .ok (.getfield 53, 3) := by decide +kernel
theorem dX11_item_69 : decode cX11_item 69 = .ok (.iload_n 1, 1) := by decide +kernel
theorem dX11_item_70 : decode cX11_item 70 = .ok (.iaload, 1) := by decide +kernel
theorem dX11_item_71 : decode cX11_item 71 = .ok (.iconst 1, 1) := by decide +kernel
theorem dX11_item_72 : decode cX11_item 72 = .ok (.if_icmp .ne 10, 3) := by decide +kernel
theorem dX11_item_75 : decode cX11_item 75 = .ok (.lload_n 3, 1) := by decide +kernel
theorem dX11_item_76 : decode cX11_item 76 = .ok (.l2i, 1) := by decide +kernel
theorem dX11_item_77 : decode cX11_item 77 = .ok (.i2s, 1) := by decide +kernel
theorem dX11_item_78 : decode cX11_item 78 = .ok (.i2l, 1) := by decide +kernel
theorem dX11_item_79 : decode cX11_item 79 = .ok (.goto 44, 3) := by decide +kernel
theorem dX11_item_82 : decode cX11_item 82 = .ok (.aload_n 0, 1) := by decide +kernel
theorem dX11_item_83 : decode cX11_item 83 = .ok (.getfield 53, 3) := by decide +kernel
theorem dX11_item_86 : decode cX11_item 86 = .ok (.iload_n 1, 1) := by decide +kernel
theorem dX11_item_87 : decode cX11_item 87 = .ok (.iaload, 1) := by decide +kernel
theorem dX11_item_88 : decode cX11_item 88 = .ok (.iconst 2, 1) := by decide +kernel
theorem dX11_item_89 : decode cX11_item 89 = .ok (.if_icmp .ne 9, 3) := by decide +kernel
theorem dX11_item_92 : decode cX11_item 92 = .ok (.lload_n 3, 1) := by decide +kernel
theorem dX11_item_93 : decode cX11_item 93 = .ok (.l2i, 1) := by decide +kernel
theorem dX11_item_94 : decode cX11_item 94 = .ok (.i2l, 1) := by decide +kernel
theorem dX11_item_95 : decode cX11_item 95 = .ok (.goto 28, 3) := by decide +kernel
theorem dX11_item_98 : decode cX11_item 98 = .ok (.aload_n 0, 1) := by decide +kernel
theorem dX11_item_99 : decode cX11_item 99 = .ok (.getfield 53, 3) := by decide +kernel
theorem dX11_item_102 : decode cX11_item 102 = .ok (.iload_n 1, 1) := by decide +kernel
theorem dX11_item_103 : decode cX11_item 103 = .ok (.iaload, 1) := by decide +kernel
theorem dX11_item_104 : decode cX11_item 104 = .ok (.iconst 3, 1) := by decide +kernel
theorem dX11_item_105 : decode cX11_item 105 = .ok (.if_icmp .ne 7, 3) := by decide +kernel
theorem dX11_item_108 : decode cX11_item 108 = .ok (.lload_n 3, 1) := by decide +kernel
theorem dX11_item_109 : decode cX11_item 109 = .ok (.goto 14, 3) := by decide +kernel
theorem dX11_item_112 : decode cX11_item 112 = .ok (.lload_n 3, 1) := by decide +kernel
theorem dX11_item_113 : decode cX11_item 113 = .ok (.lconst 0, 1) := by decide +kernel
theorem dX11_item_114 : decode cX11_item 114 = .ok (.lcmp, 1) := by decide +kernel
theorem dX11_item_115 : decode cX11_item 115 = .ok (.ifCond .eq 7, 3) := by decide +kernel
theorem dX11_item_118 : decode cX11_item 118 = .ok (.lconst 1, 1) := by decide +kernel
theorem dX11_item_119 : decode cX11_item 119 = .ok (.goto 4, 3) := by decide +kernel
theorem dX11_item_122 : decode cX11_item 122 = .ok (.lconst 0, 1) := by decide +kernel
theorem dX11_item_123 : decode cX11_item 123 = .ok (.lastore, 1) := by decide +kernel
end
section
theorem dX11_item_124 : decode cX11_item 124 = .ok (.iconst 1, 1) := by decide +kernel
theorem dX11_item_125 : decode cX11_item 125 = .ok (.ireturn, 1) := by decide +kernel
theorem dX11_read_0 : decode cX11_read 0 = .ok (.iload_n 1, 1) := by decide +kernel
theorem dX11_read_1 : decode cX11_read 1 = .ok (.bipush 6, 2) := by decide +kernel
theorem dX11_read_3 : decode cX11_read 3 = .ok (.invokestatic 66, 3) := by decide +kernel
theorem dX11_read_6 : decode cX11_read 6 = .ok (.ifCond .eq 39, 3) := by decide +kernel
theorem dX11_read_9 : decode cX11_read 9 = .ok (.aload_n 0, 1) := by decide +kernel
theorem dX11_read_10 : decode cX11_read 10 = .ok (.getfield 59, 3) := by decide +kernel
theorem dX11_read_13 : decode cX11_read 13 = .ok (.iload_n 1, 1) := by decide +kernel
theorem dX11_read_14 : decode cX11_read 14 = .ok (.baload, 1) := by decide +kernel
theorem dX11_read_15 : decode cX11_read 15 = .ok (.ifCond .eq 30, 3) := by decide +kernel
theorem dX11_read_18 : decode cX11_read 18 = .ok (.iload_n 2, 1) := by decide +kernel
theorem dX11_read_19 : decode cX11_read 19 = .ok (.aload_n 0, 1) := by decide +kernel
theorem dX11_read_20 : decode cX11_read 20 = .ok (.getfield 56, 3) := by decide +kernel
theorem dX11_read_23 : decode cX11_read 23 = .ok (.iload_n 1, 1) := by decide +kernel
theorem dX11_read_24 : decode cX11_read 24 = .ok (.iaload, 1) := by decide +kernel
theorem dX11_read_25 : decode cX11_read 25 = .ok (.invokestatic 66, 3) := by decide +kernel
theorem dX11_read_28 : decode cX11_read 28 = .ok (.ifCond .eq 17, 3) := by decide +kernel
theorem dX11_read_31 : decode cX11_read 31 = .ok (.aload_n 0, 1) := by decide +kernel
theorem dX11_read_32 : decode cX11_read 32 = .ok (.getfield 63, 3) := by decide +kernel
theorem dX11_read_35 : decode cX11_read 35 = .ok (.bipush 60, 2) := by decide +kernel
theorem dX11_read_37 : decode cX11_read 37 = .ok (.iload_n 1, 1) := by decide +kernel
theorem dX11_read_38 : decode cX11_read 38 = .ok (.imul, 1) := by decide +kernel
theorem dX11_read_39 : decode cX11_read 39 = .ok (.iload_n 2, 1) := by decide +kernel
theorem dX11_read_40 : decode cX11_read 40 = .ok (.iadd, 1) := by decide +kernel
theorem dX11_read_41 : decode cX11_read 41 = .ok (.laload, 1) := by decide +kernel
theorem dX11_read_42 : decode cX11_read 42 = .ok (.goto 6, 3) := by decide +kernel
theorem dX11_read_45 : decode cX11_read 45 = .ok (.ldc2_w 251, 3) := by decide +kernel
theorem dX11_read_48 : decode cX11_read 48 = .ok (.lreturn, 1) := by decide +kernel
theorem dX11_shift_0 : decode cX11_shift 0 = .ok (.iload_n 1, 1) := by decide +kernel
theorem dX11_shift_1 : decode cX11_shift 1 = .ok (.bipush 6, 2) := by decide +kernel
theorem dX11_shift_3 : decode cX11_shift 3 = .ok (.invokestatic 66, 3) := by decide +kernel
theorem dX11_shift_6 : decode cX11_shift 6 = .ok (.ifCond .eq 12, 3) := by decide +kernel
theorem dX11_shift_9 : decode cX11_shift 9 = .ok (.iload_n 3, 1) := by decide +kernel
theorem dX11_shift_10 : decode cX11_shift 10 = .ok (.bipush 6, 2) := by decide +kernel
theorem dX11_shift_12 : decode cX11_shift 12 = .ok (.invokestatic 66, 3) := by decide +kernel
theorem dX11_shift_15 : decode cX11_shift 15 = .ok (.ifCond .ne 5, 3) := by decide +kernel
theorem dX11_shift_18 : decode cX11_shift 18 = .ok (.iconst (-1), 1) := by decide +kernel
theorem dX11_shift_19 : decode cX11_shift 19 = .ok (.ireturn, 1) := by decide +kernel
theorem dX11_shift_20 : decode cX11_shift 20 = .ok (.aload_n 0, 1) := by decide +kernel
theorem dX11_shift_21 : decode cX11_shift 21 = .ok (.getfield 59, 3) := by decide +kernel
theorem dX11_shift_24 : decode cX11_shift 24 = .ok (.iload_n 1, 1) := by decide +kernel
theorem dX11_shift_25 : decode cX11_shift 25 = .ok (.baload, 1) := by decide +kernel
theorem dX11_shift_26 : decode cX11_shift 26 = .ok (.ifCond .eq 12, 3) := by decide +kernel
theorem dX11_shift_29 : decode cX11_shift 29 = .ok (.aload_n 0, 1) := by decide +kernel
theorem dX11_shift_30 : decode cX11_shift 30 = .ok (.getfield 59, 3) := by decide +kernel
theorem dX11_shift_33 : decode cX11_shift 33 = .ok (.iload_n 3, 1) := by decide +kernel
theorem dX11_shift_34 : decode cX11_shift 34 = .ok (.baload, 1) := by decide +kernel
theorem dX11_shift_35 : decode cX11_shift 35 = .ok (.ifCond .ne 6, 3) := by decide +kernel
theorem dX11_shift_38 : decode cX11_shift 38 = .ok (.bipush (-11), 2) := by decide +kernel
theorem dX11_shift_40 : decode cX11_shift 40 = .ok (.ireturn, 1) := by decide +kernel
theorem dX11_shift_41 : decode cX11_shift 41 = .ok (.aload_n 0, 1) := by decide +kernel
theorem dX11_shift_42 : decode cX11_shift 42 = .ok (.getfield 53, 3) := by decide +kernel
theorem dX11_shift_45 : decode cX11_shift 45 = .ok (.iload_n 1, 1) := by decide +kernel
theorem dX11_shift_46 : decode cX11_shift 46 = .ok (.iaload, 1) := by decide +kernel
theorem dX11_shift_47 : decode cX11_shift 47 = .ok (.aload_n 0, 1) := by decide +kernel
theorem dX11_shift_48 : decode cX11_shift 48 = .ok (.getfield 53, 3) := by decide +kernel
theorem dX11_shift_51 : decode cX11_shift 51 = .ok (.iload_n 3, 1) := by decide +kernel
theorem dX11_shift_52 : decode cX11_shift 52 = .ok (.iaload, 1) := by decide +kernel
theorem dX11_shift_53 : decode cX11_shift 53 = .ok (.if_icmp .eq 6, 3) := by decide +kernel
theorem dX11_shift_56 : decode cX11_shift 56 = .ok (.bipush (-12), 2) := by decide +kernel
theorem dX11_shift_58 : decode cX11_shift 58 = .ok (.ireturn, 1) := by decide +kernel
theorem dX11_shift_59 : decode cX11_shift 59 = .ok (.iload 5, 2) := by decide +kernel
theorem dX11_shift_61 : decode cX11_shift 61 = .ok (.ifCond .lt 39, 3) := by decide +kernel
theorem dX11_shift_64 : decode cX11_shift 64 = .ok (.iload_n 2, 1) := by decide +kernel
theorem dX11_shift_65 : decode cX11_shift 65 = .ok (.ifCond .lt 35, 3) := by decide +kernel
theorem dX11_shift_68 : decode cX11_shift 68 = .ok (.iload 4, 2) := by decide +kernel
theorem dX11_shift_70 : decode cX11_shift 70 = .ok (.ifCond .lt 30, 3) := by decide +kernel
theorem dX11_shift_73 : decode cX11_shift 73 = .ok (.iload 5, 2) := by decide +kernel
theorem dX11_shift_75 : decode cX11_shift 75 = .ok (.aload_n 0, 1) := by decide +kernel
theorem dX11_shift_76 : decode cX11_shift 76 = .ok (.getfield 56, 3) := by decide +kernel
theorem dX11_shift_79 : decode cX11_shift 79 = .ok (.iload_n 1, 1) := by decide +kernel
theorem dX11_shift_80 : decode cX11_shift 80 = .ok (.iaload, 1) := by decide +kernel
theorem dX11_shift_81 : decode cX11_shift 81 = .ok (.iload_n 2, 1) := by decide +kernel
theorem dX11_shift_82 : decode cX11_shift 82 = .ok (.isub, 1) := by decide +kernel
theorem dX11_shift_83 : decode cX11_shift 83 = .ok (.if_icmp .gt 17, 3) := by decide +kernel
theorem dX11_shift_86 : decode cX11_shift 86 = .ok (.iload 5, 2) := by decide +kernel
theorem dX11_shift_88 : decode cX11_shift 88 = .ok (.aload_n 0, 1) := by decide +kernel
theorem dX11_shift_89 : decode cX11_shift 89 = .ok (.getfield 56, 3) := by decide +kernel
theorem dX11_shift_92 : decode cX11_shift 92 = .ok (.iload_n 3, 1) := by decide +kernel
theorem dX11_shift_93 : decode cX11_shift 93 = .ok (.iaload, 1) := by decide +kernel
theorem dX11_shift_94 : decode cX11_shift 94 = .ok (.iload 4, 2) := by decide +kernel
theorem dX11_shift_96 : decode cX11_shift 96 = .ok (.isub, 1) := by decide +kernel
theorem dX11_shift_97 : decode cX11_shift 97 = .ok (.if_icmp .le 6, 3) := by decide +kernel
theorem dX11_shift_100 : decode cX11_shift 100 = .ok (.bipush (-13), 2) := by decide +kernel
theorem dX11_shift_102 : decode cX11_shift 102 = .ok (.ireturn, 1) := by decide +kernel
theorem dX11_shift_103 : decode cX11_shift 103 = .ok (.iconst 0, 1) := by decide +kernel
theorem dX11_shift_104 : decode cX11_shift 104 = .ok (.istore 6, 2) := by decide +kernel
theorem dX11_shift_106 : decode cX11_shift 106 = .ok (.iload 6, 2) := by decide +kernel
theorem dX11_shift_108 : decode cX11_shift 108 = .ok (.iload 5, 2) := by decide +kernel
theorem dX11_shift_110 : decode cX11_shift 110 = .ok (.if_icmp .ge 58, 3) := by decide +kernel
theorem dX11_shift_113 : decode cX11_shift 113 = .ok (.iload_n 2, 1) := by decide +kernel
theorem dX11_shift_114 : decode cX11_shift 114 = .ok (.iload 4, 2) := by decide +kernel
theorem dX11_shift_116 : decode cX11_shift 116 = .ok (.if_icmp .le 8, 3) := by decide +kernel
theorem dX11_shift_119 : decode cX11_shift 119 = .ok (.iload 6, 2) := by decide +kernel
theorem dX11_shift_121 : decode cX11_shift 121 = .ok (.goto 10, 3) := by decide +kernel
theorem dX11_shift_124 : decode cX11_shift 124 = .ok (.iload 5, 2) := by decide +kernel
theorem dX11_shift_126 : decode cX11_shift 126 = .ok (.iconst 1, 1) := by decide +kernel
theorem dX11_shift_127 : decode cX11_shift 127 = .ok (.isub, 1) := by decide +kernel
theorem dX11_shift_128 : decode cX11_shift 128 = .ok (.iload 6, 2) := by decide +kernel
theorem dX11_shift_130 : decode cX11_shift 130 = .ok (.isub, 1) := by decide +kernel
theorem dX11_shift_131 : decode cX11_shift 131 = .ok (.istore 7, 2) := by decide +kernel
theorem dX11_shift_133 : decode cX11_shift 133 = .ok (.aload_n 0, 1) := by decide +kernel
theorem dX11_shift_134 : decode cX11_shift 134 = .ok (.getfield 63, 3) := by decide +kernel
theorem dX11_shift_137 : decode cX11_shift 137 = .ok (.bipush 60, 2) := by decide +kernel
theorem dX11_shift_139 : decode cX11_shift 139 = .ok (.iload_n 3, 1) := by decide +kernel
theorem dX11_shift_140 : decode cX11_shift 140 = .ok (.imul, 1) := by decide +kernel
theorem dX11_shift_141 : decode cX11_shift 141 = .ok (.iload 4, 2) := by decide +kernel
theorem dX11_shift_143 : decode cX11_shift 143 = .ok (.iadd, 1) := by decide +kernel
theorem dX11_shift_144 : decode cX11_shift 144 = .ok (.iload 7, 2) := by decide +kernel
theorem dX11_shift_146 : decode cX11_shift 146 = .ok (.iadd, 1) := by decide +kernel
theorem dX11_shift_147 : decode cX11_shift 147 = .ok (.aload_n 0, 1) := by decide +kernel
theorem dX11_shift_148 : decode cX11_shift 148 = .ok (.getfield 63, 3) := by decide +kernel
theorem dX11_shift_151 : decode cX11_shift 151 = .ok (.bipush 60, 2) := by decide +kernel
theorem dX11_shift_153 : decode cX11_shift 153 = .ok (.iload_n 1, 1) := by decide +kernel
theorem dX11_shift_154 : decode cX11_shift 154 = .ok (.imul, 1) := by decide +kernel
theorem dX11_shift_155 : decode cX11_shift 155 = .ok (.iload_n 2, 1) := by decide +kernel
theorem dX11_shift_156 : decode cX11_shift 156 = .ok (.iadd, 1) := by decide +kernel
theorem dX11_shift_157 : decode cX11_shift 157 = .ok (.iload 7, 2) := by decide +kernel
theorem dX11_shift_159 : decode cX11_shift 159 = .ok (.iadd, 1) := by decide +kernel
theorem dX11_shift_160 : decode cX11_shift 160 = .ok (.laload, 1) := by decide +kernel
theorem dX11_shift_161 : decode cX11_shift 161 = .ok (.lastore, 1) := by decide +kernel
theorem dX11_shift_162 : decode cX11_shift 162 = .ok (.iinc 6 1, 3) := by decide +kernel
theorem dX11_shift_165 : decode cX11_shift 165 = .ok (.goto (-59), 3) := by decide +kernel
theorem dX11_shift_168 : decode cX11_shift 168 = .ok (.iload 5, 2) := by decide +kernel
theorem dX11_shift_170 : decode cX11_shift 170 = .ok (.ireturn, 1) := by decide +kernel
theorem dJ6_compare_7cf53_0 : decode cJ6_compare_7cf53 0 = .ok (.iload_n 0, 1) := by decide +kernel
theorem dJ6_compare_7cf53_1 : decode cJ6_compare_7cf53 1 = .ok (.iload_n 1, 1) := by decide +kernel
theorem dJ6_compare_7cf53_2 : decode cJ6_compare_7cf53 2 = .ok (.if_icmp .ge 7, 3) := by decide +kernel
theorem dJ6_compare_7cf53_5 : decode cJ6_compare_7cf53 5 = .ok (.iconst (-1), 1) := by decide +kernel
theorem dJ6_compare_7cf53_6 : decode cJ6_compare_7cf53 6 = .ok (.goto 13, 3) := by decide +kernel
theorem dJ6_compare_7cf53_9 : decode cJ6_compare_7cf53 9 = .ok (.iload_n 0, 1) := by decide +kernel
theorem dJ6_compare_7cf53_10 : decode cJ6_compare_7cf53 10 = .ok (.iload_n 1, 1) := by decide +kernel
theorem dJ6_compare_7cf53_11 : decode cJ6_compare_7cf53 11 = .ok (.if_icmp .ne 7, 3) := by decide +kernel
theorem dJ6_compare_7cf53_14 : decode cJ6_compare_7cf53 14 = .ok (.iconst 0, 1) := by decide +kernel
theorem dJ6_compare_7cf53_15 : decode cJ6_compare_7cf53 15 = .ok (.goto 4, 3) := by decide +kernel
theorem dJ6_compare_7cf53_18 : decode cJ6_compare_7cf53 18 = .ok (.iconst 1, 1) := by decide +kernel
theorem dJ6_compare_7cf53_19 : decode cJ6_compare_7cf53 19 = .ok (.ireturn, 1) := by decide +kernel
theorem dJ6_numberOfTrailingZeros_0f7a4_0 : decode cJ6_numberOfTrailingZeros_0f7a4 0 = .ok (.iload_n 0, 1) := by decide +kernel
theorem dJ6_numberOfTrailingZeros_0f7a4_1 : decode cJ6_numberOfTrailingZeros_0f7a4 1 = .ok (.iconst (-1), 1) := by decide +kernel
theorem dJ6_numberOfTrailingZeros_0f7a4_2 : decode cJ6_numberOfTrailingZeros_0f7a4 2 = .ok (.ixor, 1) := by decide +kernel
theorem dJ6_numberOfTrailingZeros_0f7a4_3 : decode cJ6_numberOfTrailingZeros_0f7a4 3 = .ok (.iload_n 0, 1) := by decide +kernel
theorem dJ6_numberOfTrailingZeros_0f7a4_4 : decode cJ6_numberOfTrailingZeros_0f7a4 4 = .ok (.iconst 1, 1) := by decide +kernel
theorem dJ6_numberOfTrailingZeros_0f7a4_5 : decode cJ6_numberOfTrailingZeros_0f7a4 5 = .ok (.isub, 1) := by decide +kernel
theorem dJ6_numberOfTrailingZeros_0f7a4_6 : decode cJ6_numberOfTrailingZeros_0f7a4 6 = .ok (.iand, 1) := by decide +kernel
theorem dJ6_numberOfTrailingZeros_0f7a4_7 : decode cJ6_numberOfTrailingZeros_0f7a4 7 = .ok (.istore_n 0, 1) := by decide +kernel
theorem dJ6_numberOfTrailingZeros_0f7a4_8 : decode cJ6_numberOfTrailingZeros_0f7a4 8 = .ok (.iload_n 0, 1) := by decide +kernel
theorem dJ6_numberOfTrailingZeros_0f7a4_9 : decode cJ6_numberOfTrailingZeros_0f7a4 9 = .ok (.ifCond .gt 8, 3) := by decide +kernel
theorem dJ6_numberOfTrailingZeros_0f7a4_12 : decode cJ6_numberOfTrailingZeros_0f7a4 12 = .ok (.iload_n 0, 1) := by decide +kernel
theorem dJ6_numberOfTrailingZeros_0f7a4_13 : decode cJ6_numberOfTrailingZeros_0f7a4 13 = .ok (.bipush 32, 2) := by decide +kernel
theorem dJ6_numberOfTrailingZeros_0f7a4_15 : decode cJ6_numberOfTrailingZeros_0f7a4 15 = .ok (.iand, 1) := by decide +kernel
theorem dJ6_numberOfTrailingZeros_0f7a4_16 : decode cJ6_numberOfTrailingZeros_0f7a4 16 = .ok (.ireturn, 1) := by decide +kernel
theorem dJ6_numberOfTrailingZeros_0f7a4_17 : decode cJ6_numberOfTrailingZeros_0f7a4 17 = .ok (.iconst 1, 1) := by decide +kernel
theorem dJ6_numberOfTrailingZeros_0f7a4_18 : decode cJ6_numberOfTrailingZeros_0f7a4 18 = .ok (.istore_n 1, 1) := by decide +kernel
theorem dJ6_numberOfTrailingZeros_0f7a4_19 : decode cJ6_numberOfTrailingZeros_0f7a4 19 = .ok (.iload_n 0, 1) := by decide +kernel
theorem dJ6_numberOfTrailingZeros_0f7a4_20 : decode cJ6_numberOfTrailingZeros_0f7a4 20 = .ok (.ldc_w 264, 3) := by decide +kernel
theorem dJ6_numberOfTrailingZeros_0f7a4_23 : decode cJ6_numberOfTrailingZeros_0f7a4 23 = .ok (.if_icmp .le 11, 3) := by decide +kernel
theorem dJ6_numberOfTrailingZeros_0f7a4_26 : decode cJ6_numberOfTrailingZeros_0f7a4 26 = .ok (.iinc 1 16, 3) := by decide +kernel
theorem dJ6_numberOfTrailingZeros_0f7a4_29 : decode cJ6_numberOfTrailingZeros_0f7a4 29 = .ok (.iload_n 0, 1) := by decide +kernel
theorem dJ6_numberOfTrailingZeros_0f7a4_30 : decode cJ6_numberOfTrailingZeros_0f7a4 30 = .ok (.bipush 16, 2) := by decide +kernel
theorem dJ6_numberOfTrailingZeros_0f7a4_32 : decode cJ6_numberOfTrailingZeros_0f7a4 32 = .ok (.iushr, 1) := by decide +kernel
theorem dJ6_numberOfTrailingZeros_0f7a4_33 : decode cJ6_numberOfTrailingZeros_0f7a4 33 = .ok (.istore_n 0, 1) := by decide +kernel
theorem dJ6_numberOfTrailingZeros_0f7a4_34 : decode cJ6_numberOfTrailingZeros_0f7a4 34 = .ok (.iload_n 0, 1) := by decide +kernel
theorem dJ6_numberOfTrailingZeros_0f7a4_35 : decode cJ6_numberOfTrailingZeros_0f7a4 35 = .ok (.sipush 256, 3) := by decide +kernel
theorem dJ6_numberOfTrailingZeros_0f7a4_38 : decode cJ6_numberOfTrailingZeros_0f7a4 38 = .ok (.if_icmp .le 11, 3) := by decide +kernel
theorem dJ6_numberOfTrailingZeros_0f7a4_41 : decode cJ6_numberOfTrailingZeros_0f7a4 41 = .ok (.iinc 1 8, 3) := by decide +kernel
theorem dJ6_numberOfTrailingZeros_0f7a4_44 : decode cJ6_numberOfTrailingZeros_0f7a4 44 = .ok (.iload_n 0, 1) := by decide +kernel
theorem dJ6_numberOfTrailingZeros_0f7a4_45 : decode cJ6_numberOfTrailingZeros_0f7a4 45 = .ok (.bipush 8, 2) := by decide +kernel
theorem dJ6_numberOfTrailingZeros_0f7a4_47 : decode cJ6_numberOfTrailingZeros_0f7a4 47 = .ok (.iushr, 1) := by decide +kernel
theorem dJ6_numberOfTrailingZeros_0f7a4_48 : decode cJ6_numberOfTrailingZeros_0f7a4 48 = .ok (.istore_n 0, 1) := by decide +kernel
theorem dJ6_numberOfTrailingZeros_0f7a4_49 : decode cJ6_numberOfTrailingZeros_0f7a4 49 = .ok (.iload_n 0, 1) := by decide +kernel
theorem dJ6_numberOfTrailingZeros_0f7a4_50 : decode cJ6_numberOfTrailingZeros_0f7a4 50 = .ok (.bipush 16, 2) := by decide +kernel
theorem dJ6_numberOfTrailingZeros_0f7a4_52 : decode cJ6_numberOfTrailingZeros_0f7a4 52 = .ok (.if_icmp .le 10, 3) := by decide +kernel
theorem dJ6_numberOfTrailingZeros_0f7a4_55 : decode cJ6_numberOfTrailingZeros_0f7a4 55 = .ok (.iinc 1 4, 3) := by decide +kernel
theorem dJ6_numberOfTrailingZeros_0f7a4_58 : decode cJ6_numberOfTrailingZeros_0f7a4 58 = .ok (.iload_n 0, 1) := by decide +kernel
theorem dJ6_numberOfTrailingZeros_0f7a4_59 : decode cJ6_numberOfTrailingZeros_0f7a4 59 = .ok (.iconst 4, 1) := by decide +kernel
theorem dJ6_numberOfTrailingZeros_0f7a4_60 : decode cJ6_numberOfTrailingZeros_0f7a4 60 = .ok (.iushr, 1) := by decide +kernel
theorem dJ6_numberOfTrailingZeros_0f7a4_61 : decode cJ6_numberOfTrailingZeros_0f7a4 61 = .ok (.istore_n 0, 1) := by decide +kernel
theorem dJ6_numberOfTrailingZeros_0f7a4_62 : decode cJ6_numberOfTrailingZeros_0f7a4 62 = .ok (.iload_n 0, 1) := by decide +kernel
theorem dJ6_numberOfTrailingZeros_0f7a4_63 : decode cJ6_numberOfTrailingZeros_0f7a4 63 = .ok (.iconst 4, 1) := by decide +kernel
theorem dJ6_numberOfTrailingZeros_0f7a4_64 : decode cJ6_numberOfTrailingZeros_0f7a4 64 = .ok (.if_icmp .le 10, 3) := by decide +kernel
theorem dJ6_numberOfTrailingZeros_0f7a4_67 : decode cJ6_numberOfTrailingZeros_0f7a4 67 = .ok (.iinc 1 2, 3) := by decide +kernel
theorem dJ6_numberOfTrailingZeros_0f7a4_70 : decode cJ6_numberOfTrailingZeros_0f7a4 70 = .ok (.iload_n 0, 1) := by decide +kernel
theorem dJ6_numberOfTrailingZeros_0f7a4_71 : decode cJ6_numberOfTrailingZeros_0f7a4 71 = .ok (.iconst 2, 1) := by decide +kernel
theorem dJ6_numberOfTrailingZeros_0f7a4_72 : decode cJ6_numberOfTrailingZeros_0f7a4 72 = .ok (.iushr, 1) := by decide +kernel
theorem dJ6_numberOfTrailingZeros_0f7a4_73 : decode cJ6_numberOfTrailingZeros_0f7a4 73 = .ok (.istore_n 0, 1) := by decide +kernel
theorem dJ6_numberOfTrailingZeros_0f7a4_74 : decode cJ6_numberOfTrailingZeros_0f7a4 74 = .ok (.iload_n 1, 1) := by decide +kernel
theorem dJ6_numberOfTrailingZeros_0f7a4_75 : decode cJ6_numberOfTrailingZeros_0f7a4 75 = .ok (.iload_n 0, 1) := by decide +kernel
theorem dJ6_numberOfTrailingZeros_0f7a4_76 : decode cJ6_numberOfTrailingZeros_0f7a4 76 = .ok (.iconst 1, 1) := by decide +kernel
theorem dJ6_numberOfTrailingZeros_0f7a4_77 : decode cJ6_numberOfTrailingZeros_0f7a4 77 = .ok (.iushr, 1) := by decide +kernel
theorem dJ6_numberOfTrailingZeros_0f7a4_78 : decode cJ6_numberOfTrailingZeros_0f7a4 78 = .ok (.iadd, 1) := by decide +kernel
theorem dJ6_numberOfTrailingZeros_0f7a4_79 : decode cJ6_numberOfTrailingZeros_0f7a4 79 = .ok (.ireturn, 1) := by decide +kernel
theorem dJ6_bitCount_0f7a4_0 : decode cJ6_bitCount_0f7a4 0 = .ok (.iload_n 0, 1) := by decide +kernel
theorem dJ6_bitCount_0f7a4_1 : decode cJ6_bitCount_0f7a4 1 = .ok (.iload_n 0, 1) := by decide +kernel
theorem dJ6_bitCount_0f7a4_2 : decode cJ6_bitCount_0f7a4 2 = .ok (.iconst 1, 1) := by decide +kernel
theorem dJ6_bitCount_0f7a4_3 : decode cJ6_bitCount_0f7a4 3 = .ok (.iushr, 1) := by decide +kernel
theorem dJ6_bitCount_0f7a4_4 : decode cJ6_bitCount_0f7a4 4 = .ok (.ldc_w 265, 3) := by decide +kernel
theorem dJ6_bitCount_0f7a4_7 : decode cJ6_bitCount_0f7a4 7 = .ok (.iand, 1) := by decide +kernel
theorem dJ6_bitCount_0f7a4_8 : decode cJ6_bitCount_0f7a4 8 = .ok (.isub, 1) := by decide +kernel
theorem dJ6_bitCount_0f7a4_9 : decode cJ6_bitCount_0f7a4 9 = .ok (.istore_n 0, 1) := by decide +kernel
theorem dJ6_bitCount_0f7a4_10 : decode cJ6_bitCount_0f7a4 10 = .ok (.iload_n 0, 1) := by decide +kernel
theorem dJ6_bitCount_0f7a4_11 : decode cJ6_bitCount_0f7a4 11 = .ok (.ldc_w 266, 3) := by decide +kernel
theorem dJ6_bitCount_0f7a4_14 : decode cJ6_bitCount_0f7a4 14 = .ok (.iand, 1) := by decide +kernel
theorem dJ6_bitCount_0f7a4_15 : decode cJ6_bitCount_0f7a4 15 = .ok (.iload_n 0, 1) := by decide +kernel
theorem dJ6_bitCount_0f7a4_16 : decode cJ6_bitCount_0f7a4 16 = .ok (.iconst 2, 1) := by decide +kernel
theorem dJ6_bitCount_0f7a4_17 : decode cJ6_bitCount_0f7a4 17 = .ok (.iushr, 1) := by decide +kernel
theorem dJ6_bitCount_0f7a4_18 : decode cJ6_bitCount_0f7a4 18 = .ok (.ldc_w 266, 3) := by decide +kernel
theorem dJ6_bitCount_0f7a4_21 : decode cJ6_bitCount_0f7a4 21 = .ok (.iand, 1) := by decide +kernel
theorem dJ6_bitCount_0f7a4_22 : decode cJ6_bitCount_0f7a4 22 = .ok (.iadd, 1) := by decide +kernel
theorem dJ6_bitCount_0f7a4_23 : decode cJ6_bitCount_0f7a4 23 = .ok (.istore_n 0, 1) := by decide +kernel
theorem dJ6_bitCount_0f7a4_24 : decode cJ6_bitCount_0f7a4 24 = .ok (.iload_n 0, 1) := by decide +kernel
theorem dJ6_bitCount_0f7a4_25 : decode cJ6_bitCount_0f7a4 25 = .ok (.iload_n 0, 1) := by decide +kernel
theorem dJ6_bitCount_0f7a4_26 : decode cJ6_bitCount_0f7a4 26 = .ok (.iconst 4, 1) := by decide +kernel
theorem dJ6_bitCount_0f7a4_27 : decode cJ6_bitCount_0f7a4 27 = .ok (.iushr, 1) := by decide +kernel
theorem dJ6_bitCount_0f7a4_28 : decode cJ6_bitCount_0f7a4 28 = .ok (.iadd, 1) := by decide +kernel
theorem dJ6_bitCount_0f7a4_29 : decode cJ6_bitCount_0f7a4 29 = .ok (.ldc_w 267, 3) := by decide +kernel
theorem dJ6_bitCount_0f7a4_32 : decode cJ6_bitCount_0f7a4 32 = .ok (.iand, 1) := by decide +kernel
theorem dJ6_bitCount_0f7a4_33 : decode cJ6_bitCount_0f7a4 33 = .ok (.istore_n 0, 1) := by decide +kernel
theorem dJ6_bitCount_0f7a4_34 : decode cJ6_bitCount_0f7a4 34 = .ok (.iload_n 0, 1) := by decide +kernel
theorem dJ6_bitCount_0f7a4_35 : decode cJ6_bitCount_0f7a4 35 = .ok (.iload_n 0, 1) := by decide +kernel
theorem dJ6_bitCount_0f7a4_36 : decode cJ6_bitCount_0f7a4 36 = .ok (.bipush 8, 2) := by decide +kernel
theorem dJ6_bitCount_0f7a4_38 : decode cJ6_bitCount_0f7a4 38 = .ok (.iushr, 1) := by decide +kernel
theorem dJ6_bitCount_0f7a4_39 : decode cJ6_bitCount_0f7a4 39 = .ok (.iadd, 1) := by decide +kernel
theorem dJ6_bitCount_0f7a4_40 : decode cJ6_bitCount_0f7a4 40 = .ok (.istore_n 0, 1) := by decide +kernel
theorem dJ6_bitCount_0f7a4_41 : decode cJ6_bitCount_0f7a4 41 = .ok (.iload_n 0, 1) := by decide +kernel
theorem dJ6_bitCount_0f7a4_42 : decode cJ6_bitCount_0f7a4 42 = .ok (.iload_n 0, 1) := by decide +kernel
theorem dJ6_bitCount_0f7a4_43 : decode cJ6_bitCount_0f7a4 43 = .ok (.bipush 16, 2) := by decide +kernel
theorem dJ6_bitCount_0f7a4_45 : decode cJ6_bitCount_0f7a4 45 = .ok (.iushr, 1) := by decide +kernel
theorem dJ6_bitCount_0f7a4_46 : decode cJ6_bitCount_0f7a4 46 = .ok (.iadd, 1) := by decide +kernel
theorem dJ6_bitCount_0f7a4_47 : decode cJ6_bitCount_0f7a4 47 = .ok (.istore_n 0, 1) := by decide +kernel
theorem dJ6_bitCount_0f7a4_48 : decode cJ6_bitCount_0f7a4 48 = .ok (.iload_n 0, 1) := by decide +kernel
theorem dJ6_bitCount_0f7a4_49 : decode cJ6_bitCount_0f7a4 49 = .ok (.bipush 63, 2) := by decide +kernel
theorem dJ6_bitCount_0f7a4_51 : decode cJ6_bitCount_0f7a4 51 = .ok (.iand, 1) := by decide +kernel
theorem dJ6_bitCount_0f7a4_52 : decode cJ6_bitCount_0f7a4 52 = .ok (.ireturn, 1) := by decide +kernel
theorem dJ13_numberOfTrailingZeros_95d88_0 : decode cJ13_numberOfTrailingZeros_95d88 0 = .ok (.lload_n 0, 1) := by decide +kernel
theorem dJ13_numberOfTrailingZeros_95d88_1 : decode cJ13_numberOfTrailingZeros_95d88 1 = .ok (.l2i, 1) := by decide +kernel
theorem dJ13_numberOfTrailingZeros_95d88_2 : decode cJ13_numberOfTrailingZeros_95d88 2 = .ok (.istore_n 2, 1) := by decide +kernel
theorem dJ13_numberOfTrailingZeros_95d88_3 : decode cJ13_numberOfTrailingZeros_95d88 3 = .ok (.iload_n 2, 1) := by decide +kernel
theorem dJ13_numberOfTrailingZeros_95d88_4 : decode cJ13_numberOfTrailingZeros_95d88 4 = .ok (.ifCond .ne 17, 3) := by decide +kernel
theorem dJ13_numberOfTrailingZeros_95d88_7 : decode cJ13_numberOfTrailingZeros_95d88 7 = .ok (.bipush 32, 2) := by decide +kernel
theorem dJ13_numberOfTrailingZeros_95d88_9 : decode cJ13_numberOfTrailingZeros_95d88 9 = .ok (.lload_n 0, 1) := by decide +kernel
theorem dJ13_numberOfTrailingZeros_95d88_10 : decode cJ13_numberOfTrailingZeros_95d88 10 = .ok (.bipush 32, 2) := by decide +kernel
theorem dJ13_numberOfTrailingZeros_95d88_12 : decode cJ13_numberOfTrailingZeros_95d88 12 = .ok (.lushr, 1) := by decide +kernel
theorem dJ13_numberOfTrailingZeros_95d88_13 : decode cJ13_numberOfTrailingZeros_95d88 13 = .ok (.l2i, 1) := by decide +kernel
theorem dJ13_numberOfTrailingZeros_95d88_14 : decode cJ13_numberOfTrailingZeros_95d88 14 = .ok (.invokestatic 311, 3) := by decide +kernel
theorem dJ13_numberOfTrailingZeros_95d88_17 : decode cJ13_numberOfTrailingZeros_95d88 17 = .ok (.iadd, 1) := by decide +kernel
theorem dJ13_numberOfTrailingZeros_95d88_18 : decode cJ13_numberOfTrailingZeros_95d88 18 = .ok (.goto 7, 3) := by decide +kernel
theorem dJ13_numberOfTrailingZeros_95d88_21 : decode cJ13_numberOfTrailingZeros_95d88 21 = .ok (.iload_n 2, 1) := by decide +kernel
theorem dJ13_numberOfTrailingZeros_95d88_22 : decode cJ13_numberOfTrailingZeros_95d88 22 = .ok (.invokestatic 311, 3) := by decide +kernel
theorem dJ13_numberOfTrailingZeros_95d88_25 : decode cJ13_numberOfTrailingZeros_95d88 25 = .ok (.ireturn, 1) := by decide +kernel
theorem dJ9_abs_0f7a4_0 : decode cJ9_abs_0f7a4 0 = .ok (.iload_n 0, 1) := by decide +kernel
theorem dJ9_abs_0f7a4_1 : decode cJ9_abs_0f7a4 1 = .ok (.ifCond .ge 8, 3) := by decide +kernel
theorem dJ9_abs_0f7a4_4 : decode cJ9_abs_0f7a4 4 = .ok (.iload_n 0, 1) := by decide +kernel
theorem dJ9_abs_0f7a4_5 : decode cJ9_abs_0f7a4 5 = .ok (.ineg, 1) := by decide +kernel
theorem dJ9_abs_0f7a4_6 : decode cJ9_abs_0f7a4 6 = .ok (.goto 4, 3) := by decide +kernel
theorem dJ9_abs_0f7a4_9 : decode cJ9_abs_0f7a4 9 = .ok (.iload_n 0, 1) := by decide +kernel
theorem dJ9_abs_0f7a4_10 : decode cJ9_abs_0f7a4 10 = .ok (.ireturn, 1) := by decide +kernel
theorem dJ9_max_7cf53_0 : decode cJ9_max_7cf53 0 = .ok (.iload_n 0, 1) := by decide +kernel
theorem dJ9_max_7cf53_1 : decode cJ9_max_7cf53 1 = .ok (.iload_n 1, 1) := by decide +kernel
theorem dJ9_max_7cf53_2 : decode cJ9_max_7cf53 2 = .ok (.if_icmp .lt 7, 3) := by decide +kernel
theorem dJ9_max_7cf53_5 : decode cJ9_max_7cf53 5 = .ok (.iload_n 0, 1) := by decide +kernel
theorem dJ9_max_7cf53_6 : decode cJ9_max_7cf53 6 = .ok (.goto 4, 3) := by decide +kernel
theorem dJ9_max_7cf53_9 : decode cJ9_max_7cf53 9 = .ok (.iload_n 1, 1) := by decide +kernel
theorem dJ9_max_7cf53_10 : decode cJ9_max_7cf53 10 = .ok (.ireturn, 1) := by decide +kernel
theorem dJ9_min_7cf53_0 : decode cJ9_min_7cf53 0 = .ok (.iload_n 0, 1) := by decide +kernel
theorem dJ9_min_7cf53_1 : decode cJ9_min_7cf53 1 = .ok (.iload_n 1, 1) := by decide +kernel
theorem dJ9_min_7cf53_2 : decode cJ9_min_7cf53 2 = .ok (.if_icmp .gt 7, 3) := by decide +kernel
theorem dJ9_min_7cf53_5 : decode cJ9_min_7cf53 5 = .ok (.iload_n 0, 1) := by decide +kernel
theorem dJ9_min_7cf53_6 : decode cJ9_min_7cf53 6 = .ok (.goto 4, 3) := by decide +kernel
theorem dJ9_min_7cf53_9 : decode cJ9_min_7cf53 9 = .ok (.iload_n 1, 1) := by decide +kernel
theorem dJ9_min_7cf53_10 : decode cJ9_min_7cf53 10 = .ok (.ireturn, 1) := by decide +kernel
theorem dJ0_length_8abf5_0 : decode cJ0_length_8abf5 0 = .ok (.aload_n 0, 1) := by decide +kernel
theorem dJ0_length_8abf5_1 : decode cJ0_length_8abf5 1 = .ok (.getfield 9, 3) := by decide +kernel
theorem dJ0_length_8abf5_4 : decode cJ0_length_8abf5 4 = .ok (.arraylength, 1) := by decide +kernel
theorem dJ0_length_8abf5_5 : decode cJ0_length_8abf5 5 = .ok (.aload_n 0, 1) := by decide +kernel
theorem dJ0_length_8abf5_6 : decode cJ0_length_8abf5 6 = .ok (.invokevirtual 335, 3) := by decide +kernel
theorem dJ0_length_8abf5_9 : decode cJ0_length_8abf5 9 = .ok (.ishr, 1) := by decide +kernel
theorem dJ0_length_8abf5_10 : decode cJ0_length_8abf5 10 = .ok (.ireturn, 1) := by decide +kernel
theorem dJ0_charAt_5068e_0 : decode cJ0_charAt_5068e 0 = .ok (.aload_n 0, 1) := by decide +kernel
theorem dJ0_charAt_5068e_1 : decode cJ0_charAt_5068e 1 = .ok (.invokevirtual 492, 3) := by decide +kernel
theorem dJ0_charAt_5068e_4 : decode cJ0_charAt_5068e 4 = .ok (.ifCond .eq 12, 3) := by decide +kernel
theorem dJ0_charAt_5068e_7 : decode cJ0_charAt_5068e 7 = .ok (.aload_n 0, 1) := by decide +kernel
theorem dJ0_charAt_5068e_8 : decode cJ0_charAt_5068e 8 = .ok (.getfield 9, 3) := by decide +kernel
theorem dJ0_charAt_5068e_11 : decode cJ0_charAt_5068e 11 = .ok (.iload_n 1, 1) := by decide +kernel
theorem dJ0_charAt_5068e_12 : decode cJ0_charAt_5068e 12 = .ok (.invokestatic 495, 3) := by decide +kernel
theorem dJ0_charAt_5068e_15 : decode cJ0_charAt_5068e 15 = .ok (.ireturn, 1) := by decide +kernel
theorem dJ0_charAt_5068e_16 : decode cJ0_charAt_5068e 16 = .ok (.aload_n 0, 1) := by decide +kernel
theorem dJ0_charAt_5068e_17 : decode cJ0_charAt_5068e 17 = .ok (.getfield 9, 3) := by decide +kernel
theorem dJ0_charAt_5068e_20 : decode cJ0_charAt_5068e 20 = .ok (.iload_n 1, 1) := by decide +kernel
theorem dJ0_charAt_5068e_21 : decode cJ0_charAt_5068e 21 = .ok (.invokestatic 498, 3) := by decide +kernel
theorem dJ0_charAt_5068e_24 : decode cJ0_charAt_5068e 24 = .ok (.ireturn, 1) := by decide +kernel
theorem dJ0_coder_7d493_0 : decode cJ0_coder_7d493 0 = .ok (.getstatic 38, 3) := by decide +kernel
theorem dJ0_coder_7d493_3 : decode cJ0_coder_7d493 3 = .ok (.ifCond .eq 10, 3) := by decide +kernel
theorem dJ0_coder_7d493_6 : decode cJ0_coder_7d493 6 = .ok (.aload_n 0, 1) := by decide +kernel
theorem dJ0_coder_7d493_7 : decode cJ0_coder_7d493 7 = .ok (.getfield 15, 3) := by decide +kernel
theorem dJ0_coder_7d493_10 : decode cJ0_coder_7d493 10 = .ok (.goto 4, 3) := by decide +kernel
theorem dJ0_coder_7d493_13 : decode cJ0_coder_7d493 13 = .ok (.iconst 1, 1) := by decide +kernel
theorem dJ0_coder_7d493_14 : decode cJ0_coder_7d493 14 = .ok (.ireturn, 1) := by decide +kernel
theorem dJ0_isLatin1_aae02_0 : decode cJ0_isLatin1_aae02 0 = .ok (.getstatic 38, 3) := by decide +kernel
theorem dJ0_isLatin1_aae02_3 : decode cJ0_isLatin1_aae02 3 = .ok (.ifCond .eq 14, 3) := by decide +kernel
theorem dJ0_isLatin1_aae02_6 : decode cJ0_isLatin1_aae02 6 = .ok (.aload_n 0, 1) := by decide +kernel
theorem dJ0_isLatin1_aae02_7 : decode cJ0_isLatin1_aae02 7 = .ok (.getfield 15, 3) := by decide +kernel
theorem dJ0_isLatin1_aae02_10 : decode cJ0_isLatin1_aae02 10 = .ok (.ifCond .ne 7, 3) := by decide +kernel
theorem dJ0_isLatin1_aae02_13 : decode cJ0_isLatin1_aae02 13 = .ok (.iconst 1, 1) := by decide +kernel
theorem dJ0_isLatin1_aae02_14 : decode cJ0_isLatin1_aae02 14 = .ok (.goto 4, 3) := by decide +kernel
theorem dJ0_isLatin1_aae02_17 : decode cJ0_isLatin1_aae02 17 = .ok (.iconst 0, 1) := by decide +kernel
theorem dJ0_isLatin1_aae02_18 : decode cJ0_isLatin1_aae02 18 = .ok (.ireturn, 1) := by decide +kernel
theorem dJ0_checkIndex_df160_0 : decode cJ0_checkIndex_df160 0 = .ok (.iload_n 0, 1) := by decide +kernel
theorem dJ0_checkIndex_df160_1 : decode cJ0_checkIndex_df160 1 = .ok (.iload_n 1, 1) := by decide +kernel
theorem dJ0_checkIndex_df160_2 : decode cJ0_checkIndex_df160 2 = .ok (.getstatic 1053, 3) := by decide +kernel
theorem dJ0_checkIndex_df160_5 : decode cJ0_checkIndex_df160 5 = .ok (.invokestatic 1059, 3) := by decide +kernel
theorem dJ0_checkIndex_df160_8 : decode cJ0_checkIndex_df160 8 = .ok (.pop, 1) := by decide +kernel
theorem dJ0_checkIndex_df160_9 : decode cJ0_checkIndex_df160 9 = .ok (.return_, 1) := by decide +kernel
theorem dJ1_charAt_3b067_0 : decode cJ1_charAt_3b067 0 = .ok (.iload_n 1, 1) := by decide +kernel
theorem dJ1_charAt_3b067_1 : decode cJ1_charAt_3b067 1 = .ok (.aload_n 0, 1) := by decide +kernel
theorem dJ1_charAt_3b067_2 : decode cJ1_charAt_3b067 2 = .ok (.arraylength, 1) := by decide +kernel
theorem dJ1_charAt_3b067_3 : decode cJ1_charAt_3b067 3 = .ok (.invokestatic 9, 3) := by decide +kernel
theorem dJ1_charAt_3b067_6 : decode cJ1_charAt_3b067 6 = .ok (.aload_n 0, 1) := by decide +kernel
theorem dJ1_charAt_3b067_7 : decode cJ1_charAt_3b067 7 = .ok (.iload_n 1, 1) := by decide +kernel
theorem dJ1_charAt_3b067_8 : decode cJ1_charAt_3b067 8 = .ok (.baload, 1) := by decide +kernel
theorem dJ1_charAt_3b067_9 : decode cJ1_charAt_3b067 9 = .ok (.sipush 255, 3) := by decide +kernel
theorem dJ1_charAt_3b067_12 : decode cJ1_charAt_3b067 12 = .ok (.iand, 1) := by decide +kernel
theorem dJ1_charAt_3b067_13 : decode cJ1_charAt_3b067 13 = .ok (.i2c, 1) := by decide +kernel
theorem dJ1_charAt_3b067_14 : decode cJ1_charAt_3b067 14 = .ok (.ireturn, 1) := by decide +kernel
theorem dJ2_getChar_3b067_0 : decode cJ2_getChar_3b067 0 = .ok (.getstatic 44, 3) := by decide +kernel
theorem dJ2_getChar_3b067_3 : decode cJ2_getChar_3b067 3 = .ok (.ifCond .ne 25, 3) := by decide +kernel
theorem dJ2_getChar_3b067_6 : decode cJ2_getChar_3b067 6 = .ok (.iload_n 1, 1) := by decide +kernel
theorem dJ2_getChar_3b067_7 : decode cJ2_getChar_3b067 7 = .ok (.ifCond .lt 11, 3) := by decide +kernel
theorem dJ2_getChar_3b067_10 : decode cJ2_getChar_3b067 10 = .ok (.iload_n 1, 1) := by decide +kernel
theorem dJ2_getChar_3b067_11 : decode cJ2_getChar_3b067 11 = .ok (.aload_n 0, 1) := by decide +kernel
theorem dJ2_getChar_3b067_12 : decode cJ2_getChar_3b067 12 = .ok (.invokestatic 48, 3) := by decide +kernel
theorem dJ2_getChar_3b067_15 : decode cJ2_getChar_3b067 15 = .ok (.if_icmp .lt 13, 3) := by decide +kernel
theorem dJ2_getChar_3b067_18 : decode cJ2_getChar_3b067 18 = .ok (.new 52, 3) := by decide +kernel
theorem dJ2_getChar_3b067_21 : decode cJ2_getChar_3b067 21 = .ok (.dup, 1) := by decide +kernel
theorem dJ2_getChar_3b067_22 : decode cJ2_getChar_3b067 22 = .ok (.ldc 54, 2) := by decide +kernel
theorem dJ2_getChar_3b067_24 : decode cJ2_getChar_3b067 24 = .ok (.invokespecial 56, 3) := by decide +kernel
theorem dJ2_getChar_3b067_27 : decode cJ2_getChar_3b067 27 = .ok (.athrow, 1) := by decide +kernel
theorem dJ2_getChar_3b067_28 : decode cJ2_getChar_3b067 28 = .ok (.iload_n 1, 1) := by decide +kernel
theorem dJ2_getChar_3b067_29 : decode cJ2_getChar_3b067 29 = .ok (.iconst 1, 1) := by decide +kernel
theorem dJ2_getChar_3b067_30 : decode cJ2_getChar_3b067 30 = .ok (.ishl, 1) := by decide +kernel
theorem dJ2_getChar_3b067_31 : decode cJ2_getChar_3b067 31 = .ok (.istore_n 1, 1) := by decide +kernel
theorem dJ2_getChar_3b067_32 : decode cJ2_getChar_3b067 32 = .ok (.aload_n 0, 1) := by decide +kernel
theorem dJ2_getChar_3b067_33 : decode cJ2_getChar_3b067 33 = .ok (.iload_n 1, 1) := by decide +kernel
theorem dJ2_getChar_3b067_34 : decode cJ2_getChar_3b067 34 = .ok (.iinc 1 1, 3) := by decide +kernel
theorem dJ2_getChar_3b067_37 : decode cJ2_getChar_3b067 37 = .ok (.baload, 1) := by decide +kernel
theorem dJ2_getChar_3b067_38 : decode cJ2_getChar_3b067 38 = .ok (.sipush 255, 3) := by decide +kernel
theorem dJ2_getChar_3b067_41 : decode cJ2_getChar_3b067 41 = .ok (.iand, 1) := by decide +kernel
theorem dJ2_getChar_3b067_42 : decode cJ2_getChar_3b067 42 = .ok (.getstatic 59, 3) := by decide +kernel
theorem dJ2_getChar_3b067_45 : decode cJ2_getChar_3b067 45 = .ok (.ishl, 1) := by decide +kernel
theorem dJ2_getChar_3b067_46 : decode cJ2_getChar_3b067 46 = .ok (.aload_n 0, 1) := by decide +kernel
theorem dJ2_getChar_3b067_47 : decode cJ2_getChar_3b067 47 = .ok (.iload_n 1, 1) := by decide +kernel
theorem dJ2_getChar_3b067_48 : decode cJ2_getChar_3b067 48 = .ok (.baload, 1) := by decide +kernel
theorem dJ2_getChar_3b067_49 : decode cJ2_getChar_3b067 49 = .ok (.sipush 255, 3) := by decide +kernel
theorem dJ2_getChar_3b067_52 : decode cJ2_getChar_3b067 52 = .ok (.iand, 1) := by decide +kernel
theorem dJ2_getChar_3b067_53 : decode cJ2_getChar_3b067 53 = .ok (.getstatic 63, 3) := by decide +kernel
theorem dJ2_getChar_3b067_56 : decode cJ2_getChar_3b067 56 = .ok (.ishl, 1) := by decide +kernel
theorem dJ2_getChar_3b067_57 : decode cJ2_getChar_3b067 57 = .ok (.ior, 1) := by decide +kernel
theorem dJ2_getChar_3b067_58 : decode cJ2_getChar_3b067 58 = .ok (.i2c, 1) := by decide +kernel
theorem dJ2_getChar_3b067_59 : decode cJ2_getChar_3b067 59 = .ok (.ireturn, 1) := by decide +kernel
theorem dJ2_length_9d52b_0 : decode cJ2_length_9d52b 0 = .ok (.aload_n 0, 1) := by decide +kernel
theorem dJ2_length_9d52b_1 : decode cJ2_length_9d52b 1 = .ok (.arraylength, 1) := by decide +kernel
theorem dJ2_length_9d52b_2 : decode cJ2_length_9d52b 2 = .ok (.iconst 1, 1) := by decide +kernel
theorem dJ2_length_9d52b_3 : decode cJ2_length_9d52b 3 = .ok (.ishr, 1) := by decide +kernel
theorem dJ2_length_9d52b_4 : decode cJ2_length_9d52b 4 = .ok (.ireturn, 1) := by decide +kernel
theorem dJ2_charAt_3b067_0 : decode cJ2_charAt_3b067 0 = .ok (.iload_n 1, 1) := by decide +kernel
theorem dJ2_charAt_3b067_1 : decode cJ2_charAt_3b067 1 = .ok (.aload_n 0, 1) := by decide +kernel
theorem dJ2_charAt_3b067_2 : decode cJ2_charAt_3b067 2 = .ok (.invokestatic 67, 3) := by decide +kernel
theorem dJ2_charAt_3b067_5 : decode cJ2_charAt_3b067 5 = .ok (.aload_n 0, 1) := by decide +kernel
theorem dJ2_charAt_3b067_6 : decode cJ2_charAt_3b067 6 = .ok (.iload_n 1, 1) := by decide +kernel
theorem dJ2_charAt_3b067_7 : decode cJ2_charAt_3b067 7 = .ok (.invokestatic 71, 3) := by decide +kernel
theorem dJ2_charAt_3b067_10 : decode cJ2_charAt_3b067 10 = .ok (.ireturn, 1) := by decide +kernel
theorem dJ2_checkIndex_2214a_0 : decode cJ2_checkIndex_2214a 0 = .ok (.iload_n 0, 1) := by decide +kernel
theorem dJ2_checkIndex_2214a_1 : decode cJ2_checkIndex_2214a 1 = .ok (.aload_n 1, 1) := by decide +kernel
theorem dJ2_checkIndex_2214a_2 : decode cJ2_checkIndex_2214a 2 = .ok (.invokestatic 48, 3) := by decide +kernel
theorem dJ2_checkIndex_2214a_5 : decode cJ2_checkIndex_2214a 5 = .ok (.invokestatic 414, 3) := by decide +kernel
theorem dJ2_checkIndex_2214a_8 : decode cJ2_checkIndex_2214a 8 = .ok (.return_, 1) := by decide +kernel
theorem dJ7_fill_d0a16_0 : decode cJ7_fill_d0a16 0 = .ok (.iconst 0, 1) := by decide +kernel
theorem dJ7_fill_d0a16_1 : decode cJ7_fill_d0a16 1 = .ok (.istore_n 3, 1) := by decide +kernel
theorem dJ7_fill_d0a16_2 : decode cJ7_fill_d0a16 2 = .ok (.aload_n 0, 1) := by decide +kernel
theorem dJ7_fill_d0a16_3 : decode cJ7_fill_d0a16 3 = .ok (.arraylength, 1) := by decide +kernel
theorem dJ7_fill_d0a16_4 : decode cJ7_fill_d0a16 4 = .ok (.istore 4, 2) := by decide +kernel
theorem dJ7_fill_d0a16_6 : decode cJ7_fill_d0a16 6 = .ok (.iload_n 3, 1) := by decide +kernel
theorem dJ7_fill_d0a16_7 : decode cJ7_fill_d0a16 7 = .ok (.iload 4, 2) := by decide +kernel
theorem dJ7_fill_d0a16_9 : decode cJ7_fill_d0a16 9 = .ok (.if_icmp .ge 13, 3) := by decide +kernel
theorem dJ7_fill_d0a16_12 : decode cJ7_fill_d0a16 12 = .ok (.aload_n 0, 1) := by decide +kernel
theorem dJ7_fill_d0a16_13 : decode cJ7_fill_d0a16 13 = .ok (.iload_n 3, 1) := by decide +kernel
theorem dJ7_fill_d0a16_14 : decode cJ7_fill_d0a16 14 = .ok (.lload_n 1, 1) := by decide +kernel
theorem dJ7_fill_d0a16_15 : decode cJ7_fill_d0a16 15 = .ok (.lastore, 1) := by decide +kernel
theorem dJ7_fill_d0a16_16 : decode cJ7_fill_d0a16 16 = .ok (.iinc 3 1, 3) := by decide +kernel
theorem dJ7_fill_d0a16_19 : decode cJ7_fill_d0a16 19 = .ok (.goto (-13), 3) := by decide +kernel
theorem dJ7_fill_d0a16_22 : decode cJ7_fill_d0a16 22 = .ok (.return_, 1) := by decide +kernel
theorem dJ3_checkIndex_8e157_0 : decode cJ3_checkIndex_8e157 0 = .ok (.iload_n 0, 1) := by decide +kernel
theorem dJ3_checkIndex_8e157_1 : decode cJ3_checkIndex_8e157 1 = .ok (.ifCond .lt 8, 3) := by decide +kernel
theorem dJ3_checkIndex_8e157_4 : decode cJ3_checkIndex_8e157 4 = .ok (.iload_n 0, 1) := by decide +kernel
theorem dJ3_checkIndex_8e157_5 : decode cJ3_checkIndex_8e157 5 = .ok (.iload_n 1, 1) := by decide +kernel
theorem dJ3_checkIndex_8e157_6 : decode cJ3_checkIndex_8e157 6 = .ok (.if_icmp .lt 10, 3) := by decide +kernel
theorem dJ3_checkIndex_8e157_9 : decode cJ3_checkIndex_8e157 9 = .ok (.aload_n 2, 1) := by decide +kernel
theorem dJ3_checkIndex_8e157_10 : decode cJ3_checkIndex_8e157 10 = .ok (.iload_n 0, 1) := by decide +kernel
theorem dJ3_checkIndex_8e157_11 : decode cJ3_checkIndex_8e157 11 = .ok (.iload_n 1, 1) := by decide +kernel
theorem dJ3_checkIndex_8e157_12 : decode cJ3_checkIndex_8e157 12 = .ok (.invokestatic 95, 3) := by decide +kernel
theorem dJ3_checkIndex_8e157_15 : decode cJ3_checkIndex_8e157 15 = .ok (.athrow, 1) := by decide +kernel
theorem dJ3_checkIndex_8e157_16 : decode cJ3_checkIndex_8e157 16 = .ok (.iload_n 0, 1) := by decide +kernel
theorem dJ3_checkIndex_8e157_17 : decode cJ3_checkIndex_8e157 17 = .ok (.ireturn, 1) := by decide +kernel
theorem dL_law_0 : decode cL_law 0 = .ok (.new 7, 3) := by decide +kernel
theorem dL_law_3 : decode cL_law 3 = .ok (.dup, 1) := by decide +kernel
theorem dL_law_4 : decode cL_law 4 = .ok (.invokespecial 9, 3) := by decide +kernel
theorem dL_law_7 : decode cL_law 7 = .ok (.astore_n 1, 1) := by decide +kernel
theorem dL_law_8 : decode cL_law 8 = .ok (.new 10, 3) := by decide +kernel
theorem dL_law_11 : decode cL_law 11 = .ok (.dup, 1) := by decide +kernel
theorem dL_law_12 : decode cL_law 12 = .ok (.invokespecial 12, 3) := by decide +kernel
theorem dL_law_15 : decode cL_law 15 = .ok (.astore_n 2, 1) := by decide +kernel
theorem dL_law_16 : decode cL_law 16 = .ok (.iconst 0, 1) := by decide +kernel
theorem dL_law_17 : decode cL_law 17 = .ok (.istore_n 3, 1) := by decide +kernel
theorem dL_law_18 : decode cL_law 18 = .ok (.iload_n 3, 1) := by decide +kernel
theorem dL_law_19 : decode cL_law 19 = .ok (.aload_n 0, 1) := by decide +kernel
theorem dL_law_20 : decode cL_law 20 = .ok (.arraylength, 1) := by decide +kernel
theorem dL_law_21 : decode cL_law 21 = .ok (.bipush 6, 2) := by decide +kernel
theorem dL_law_23 : decode cL_law 23 = .ok (.isub, 1) := by decide +kernel
theorem dL_law_24 : decode cL_law 24 = .ok (.if_icmp .gt 1268, 3) := by decide +kernel
theorem dL_law_27 : decode cL_law 27 = .ok (.aload_n 0, 1) := by decide +kernel
theorem dL_law_28 : decode cL_law 28 = .ok (.iload_n 3, 1) := by decide +kernel
theorem dL_law_29 : decode cL_law 29 = .ok (.iaload, 1) := by decide +kernel
theorem dL_law_30 : decode cL_law 30 = .ok (.bipush 31, 2) := by decide +kernel
theorem dL_law_32 : decode cL_law 32 = .ok (.iand, 1) := by decide +kernel
theorem dL_law_33 : decode cL_law 33 = .ok (.tableswitch 1253 0 31 #[143, 166, 179, 202, 235, 288, 321, 374, 397, 430, 473, 516, 550, 574, 617, 640, 663, 696, 719, 752, 806, 859, 892, 905, 918, 961, 984, 1017, 1040, 1083, 1156, 1190], 143) := by decide +kernel
theorem dL_law_176 : decode cL_law 176 = .ok (.aload_n 1, 1) := by decide +kernel
theorem dL_law_177 : decode cL_law 177 = .ok (.aload_n 0, 1) := by decide +kernel
theorem dL_law_178 : decode cL_law 178 = .ok (.iload_n 3, 1) := by decide +kernel
theorem dL_law_179 : decode cL_law 179 = .ok (.iconst 1, 1) := by decide +kernel
theorem dL_law_180 : decode cL_law 180 = .ok (.iadd, 1) := by decide +kernel
theorem dL_law_181 : decode cL_law 181 = .ok (.iaload, 1) := by decide +kernel
theorem dL_law_182 : decode cL_law 182 = .ok (.invokevirtual 13, 3) := by decide +kernel
theorem dL_law_185 : decode cL_law 185 = .ok (.aload_n 2, 1) := by decide +kernel
theorem dL_law_186 : decode cL_law 186 = .ok (.aload_n 0, 1) := by decide +kernel
theorem dL_law_187 : decode cL_law 187 = .ok (.iload_n 3, 1) := by decide +kernel
theorem dL_law_188 : decode cL_law 188 = .ok (.iconst 1, 1) := by decide +kernel
theorem dL_law_189 : decode cL_law 189 = .ok (.iadd, 1) := by decide +kernel
theorem dL_law_190 : decode cL_law 190 = .ok (.iaload, 1) := by decide +kernel
theorem dL_law_191 : decode cL_law 191 = .ok (.invokevirtual 17, 3) := by decide +kernel
theorem dL_law_194 : decode cL_law 194 = .ok (.if_icmp .eq 1092, 3) := by decide +kernel
theorem dL_law_197 : decode cL_law 197 = .ok (.iconst 0, 1) := by decide +kernel
theorem dL_law_198 : decode cL_law 198 = .ok (.ireturn, 1) := by decide +kernel
theorem dL_law_199 : decode cL_law 199 = .ok (.aload_n 1, 1) := by decide +kernel
theorem dL_law_200 : decode cL_law 200 = .ok (.invokevirtual 18, 3) := by decide +kernel
theorem dL_law_203 : decode cL_law 203 = .ok (.aload_n 2, 1) := by decide +kernel
theorem dL_law_204 : decode cL_law 204 = .ok (.invokevirtual 22, 3) := by decide +kernel
theorem dL_law_207 : decode cL_law 207 = .ok (.if_icmp .eq 1079, 3) := by decide +kernel
theorem dL_law_210 : decode cL_law 210 = .ok (.iconst 0, 1) := by decide +kernel
theorem dL_law_211 : decode cL_law 211 = .ok (.ireturn, 1) := by decide +kernel
theorem dL_law_212 : decode cL_law 212 = .ok (.aload_n 1, 1) := by decide +kernel
theorem dL_law_213 : decode cL_law 213 = .ok (.aload_n 0, 1) := by decide +kernel
theorem dL_law_214 : decode cL_law 214 = .ok (.iload_n 3, 1) := by decide +kernel
theorem dL_law_215 : decode cL_law 215 = .ok (.iconst 1, 1) := by decide +kernel
theorem dL_law_216 : decode cL_law 216 = .ok (.iadd, 1) := by decide +kernel
theorem dL_law_217 : decode cL_law 217 = .ok (.iaload, 1) := by decide +kernel
theorem dL_law_218 : decode cL_law 218 = .ok (.invokevirtual 23, 3) := by decide +kernel
theorem dL_law_221 : decode cL_law 221 = .ok (.aload_n 2, 1) := by decide +kernel
theorem dL_law_222 : decode cL_law 222 = .ok (.aload_n 0, 1) := by decide +kernel
theorem dL_law_223 : decode cL_law 223 = .ok (.iload_n 3, 1) := by decide +kernel
theorem dL_law_224 : decode cL_law 224 = .ok (.iconst 1, 1) := by decide +kernel
theorem dL_law_225 : decode cL_law 225 = .ok (.iadd, 1) := by decide +kernel
theorem dL_law_226 : decode cL_law 226 = .ok (.iaload, 1) := by decide +kernel
theorem dL_law_227 : decode cL_law 227 = .ok (.invokevirtual 26, 3) := by decide +kernel
theorem dL_law_230 : decode cL_law 230 = .ok (.if_icmp .eq 1056, 3) := by decide +kernel
theorem dL_law_233 : decode cL_law 233 = .ok (.iconst 0, 1) := by decide +kernel
theorem dL_law_234 : decode cL_law 234 = .ok (.ireturn, 1) := by decide +kernel
theorem dL_law_235 : decode cL_law 235 = .ok (.aload_n 1, 1) := by decide +kernel
theorem dL_law_236 : decode cL_law 236 = .ok (.aload_n 0, 1) := by decide +kernel
theorem dL_law_237 : decode cL_law 237 = .ok (.iload_n 3, 1) := by decide +kernel
theorem dL_law_238 : decode cL_law 238 = .ok (.iconst 1, 1) := by decide +kernel
theorem dL_law_239 : decode cL_law 239 = .ok (.iadd, 1) := by decide +kernel
theorem dL_law_240 : decode cL_law 240 = .ok (.iaload, 1) := by decide +kernel
theorem dL_law_241 : decode cL_law 241 = .ok (.aload_n 0, 1) := by decide +kernel
theorem dL_law_242 : decode cL_law 242 = .ok (.iload_n 3, 1) := by decide +kernel
theorem dL_law_243 : decode cL_law 243 = .ok (.iconst 2, 1) := by decide +kernel
theorem dL_law_244 : decode cL_law 244 = .ok (.iadd, 1) := by decide +kernel
theorem dL_law_245 : decode cL_law 245 = .ok (.iaload, 1) := by decide +kernel
theorem dL_law_246 : decode cL_law 246 = .ok (.invokevirtual 27, 3) := by decide +kernel
theorem dL_law_249 : decode cL_law 249 = .ok (.aload_n 2, 1) := by decide +kernel
theorem dL_law_250 : decode cL_law 250 = .ok (.aload_n 0, 1) := by decide +kernel
theorem dL_law_251 : decode cL_law 251 = .ok (.iload_n 3, 1) := by decide +kernel
theorem dL_law_252 : decode cL_law 252 = .ok (.iconst 1, 1) := by decide +kernel
theorem dL_law_253 : decode cL_law 253 = .ok (.iadd, 1) := by decide +kernel
theorem dL_law_254 : decode cL_law 254 = .ok (.iaload, 1) := by decide +kernel
theorem dL_law_255 : decode cL_law 255 = .ok (.aload_n 0, 1) := by decide +kernel
theorem dL_law_256 : decode cL_law 256 = .ok (.iload_n 3, 1) := by decide +kernel
theorem dL_law_257 : decode cL_law 257 = .ok (.iconst 2, 1) := by decide +kernel
theorem dL_law_258 : decode cL_law 258 = .ok (.iadd, 1) := by decide +kernel
theorem dL_law_259 : decode cL_law 259 = .ok (.iaload, 1) := by decide +kernel
theorem dL_law_260 : decode cL_law 260 = .ok (.invokevirtual 31, 3) := by decide +kernel
theorem dL_law_263 : decode cL_law 263 = .ok (.if_icmp .eq 1023, 3) := by decide +kernel
theorem dL_law_266 : decode cL_law 266 = .ok (.iconst 0, 1) := by decide +kernel
theorem dL_law_267 : decode cL_law 267 = .ok (.ireturn, 1) := by decide +kernel
theorem dL_law_268 : decode cL_law 268 = .ok (.aload_n 1, 1) := by decide +kernel
theorem dL_law_269 : decode cL_law 269 = .ok (.aload_n 0, 1) := by decide +kernel
theorem dL_law_270 : decode cL_law 270 = .ok (.iload_n 3, 1) := by decide +kernel
theorem dL_law_271 : decode cL_law 271 = .ok (.iconst 1, 1) := by decide +kernel
theorem dL_law_272 : decode cL_law 272 = .ok (.iadd, 1) := by decide +kernel
theorem dL_law_273 : decode cL_law 273 = .ok (.iaload, 1) := by decide +kernel
theorem dL_law_274 : decode cL_law 274 = .ok (.aload_n 0, 1) := by decide +kernel
theorem dL_law_275 : decode cL_law 275 = .ok (.iload_n 3, 1) := by decide +kernel
theorem dL_law_276 : decode cL_law 276 = .ok (.iconst 2, 1) := by decide +kernel
theorem dL_law_277 : decode cL_law 277 = .ok (.iadd, 1) := by decide +kernel
theorem dL_law_278 : decode cL_law 278 = .ok (.iaload, 1) := by decide +kernel
theorem dL_law_279 : decode cL_law 279 = .ok (.aload_n 0, 1) := by decide +kernel
theorem dL_law_280 : decode cL_law 280 = .ok (.iload_n 3, 1) := by decide +kernel
theorem dL_law_281 : decode cL_law 281 = .ok (.iconst 3, 1) := by decide +kernel
theorem dL_law_282 : decode cL_law 282 = .ok (.iadd, 1) := by decide +kernel
theorem dL_law_283 : decode cL_law 283 = .ok (.iaload, 1) := by decide +kernel
theorem dL_law_284 : decode cL_law 284 = .ok (.aload_n 0, 1) := by decide +kernel
theorem dL_law_285 : decode cL_law 285 = .ok (.iload_n 3, 1) := by decide +kernel
theorem dL_law_286 : decode cL_law 286 = .ok (.iconst 4, 1) := by decide +kernel
theorem dL_law_287 : decode cL_law 287 = .ok (.iadd, 1) := by decide +kernel
theorem dL_law_288 : decode cL_law 288 = .ok (.iaload, 1) := by decide +kernel
theorem dL_law_289 : decode cL_law 289 = .ok (.invokevirtual 32, 3) := by decide +kernel
theorem dL_law_292 : decode cL_law 292 = .ok (.aload_n 2, 1) := by decide +kernel
theorem dL_law_293 : decode cL_law 293 = .ok (.aload_n 0, 1) := by decide +kernel
theorem dL_law_294 : decode cL_law 294 = .ok (.iload_n 3, 1) := by decide +kernel
theorem dL_law_295 : decode cL_law 295 = .ok (.iconst 1, 1) := by decide +kernel
theorem dL_law_296 : decode cL_law 296 = .ok (.iadd, 1) := by decide +kernel
theorem dL_law_297 : decode cL_law 297 = .ok (.iaload, 1) := by decide +kernel
theorem dL_law_298 : decode cL_law 298 = .ok (.aload_n 0, 1) := by decide +kernel
theorem dL_law_299 : decode cL_law 299 = .ok (.iload_n 3, 1) := by decide +kernel
theorem dL_law_300 : decode cL_law 300 = .ok (.iconst 2, 1) := by decide +kernel
theorem dL_law_301 : decode cL_law 301 = .ok (.iadd, 1) := by decide +kernel
theorem dL_law_302 : decode cL_law 302 = .ok (.iaload, 1) := by decide +kernel
theorem dL_law_303 : decode cL_law 303 = .ok (.aload_n 0, 1) := by decide +kernel
theorem dL_law_304 : decode cL_law 304 = .ok (.iload_n 3, 1) := by decide +kernel
theorem dL_law_305 : decode cL_law 305 = .ok (.iconst 3, 1) := by decide +kernel
theorem dL_law_306 : decode cL_law 306 = .ok (.iadd, 1) := by decide +kernel
theorem dL_law_307 : decode cL_law 307 = .ok (.iaload, 1) := by decide +kernel
theorem dL_law_308 : decode cL_law 308 = .ok (.aload_n 0, 1) := by decide +kernel
theorem dL_law_309 : decode cL_law 309 = .ok (.iload_n 3, 1) := by decide +kernel
theorem dL_law_310 : decode cL_law 310 = .ok (.iconst 4, 1) := by decide +kernel
theorem dL_law_311 : decode cL_law 311 = .ok (.iadd, 1) := by decide +kernel
theorem dL_law_312 : decode cL_law 312 = .ok (.iaload, 1) := by decide +kernel
theorem dL_law_313 : decode cL_law 313 = .ok (.invokevirtual 36, 3) := by decide +kernel
theorem dL_law_316 : decode cL_law 316 = .ok (.if_icmp .eq 970, 3) := by decide +kernel
theorem dL_law_319 : decode cL_law 319 = .ok (.iconst 0, 1) := by decide +kernel
theorem dL_law_320 : decode cL_law 320 = .ok (.ireturn, 1) := by decide +kernel
theorem dL_law_321 : decode cL_law 321 = .ok (.aload_n 1, 1) := by decide +kernel
theorem dL_law_322 : decode cL_law 322 = .ok (.aload_n 0, 1) := by decide +kernel
theorem dL_law_323 : decode cL_law 323 = .ok (.iload_n 3, 1) := by decide +kernel
theorem dL_law_324 : decode cL_law 324 = .ok (.iconst 1, 1) := by decide +kernel
theorem dL_law_325 : decode cL_law 325 = .ok (.iadd, 1) := by decide +kernel
theorem dL_law_326 : decode cL_law 326 = .ok (.iaload, 1) := by decide +kernel
theorem dL_law_327 : decode cL_law 327 = .ok (.aload_n 0, 1) := by decide +kernel
theorem dL_law_328 : decode cL_law 328 = .ok (.iload_n 3, 1) := by decide +kernel
theorem dL_law_329 : decode cL_law 329 = .ok (.iconst 2, 1) := by decide +kernel
theorem dL_law_330 : decode cL_law 330 = .ok (.iadd, 1) := by decide +kernel
theorem dL_law_331 : decode cL_law 331 = .ok (.iaload, 1) := by decide +kernel
theorem dL_law_332 : decode cL_law 332 = .ok (.invokevirtual 37, 3) := by decide +kernel
theorem dL_law_335 : decode cL_law 335 = .ok (.aload_n 2, 1) := by decide +kernel
theorem dL_law_336 : decode cL_law 336 = .ok (.aload_n 0, 1) := by decide +kernel
theorem dL_law_337 : decode cL_law 337 = .ok (.iload_n 3, 1) := by decide +kernel
theorem dL_law_338 : decode cL_law 338 = .ok (.iconst 1, 1) := by decide +kernel
theorem dL_law_339 : decode cL_law 339 = .ok (.iadd, 1) := by decide +kernel
theorem dL_law_340 : decode cL_law 340 = .ok (.iaload, 1) := by decide +kernel
theorem dL_law_341 : decode cL_law 341 = .ok (.aload_n 0, 1) := by decide +kernel
theorem dL_law_342 : decode cL_law 342 = .ok (.iload_n 3, 1) := by decide +kernel
theorem dL_law_343 : decode cL_law 343 = .ok (.iconst 2, 1) := by decide +kernel
theorem dL_law_344 : decode cL_law 344 = .ok (.iadd, 1) := by decide +kernel
theorem dL_law_345 : decode cL_law 345 = .ok (.iaload, 1) := by decide +kernel
theorem dL_law_346 : decode cL_law 346 = .ok (.invokevirtual 40, 3) := by decide +kernel
theorem dL_law_349 : decode cL_law 349 = .ok (.if_icmp .eq 937, 3) := by decide +kernel
theorem dL_law_352 : decode cL_law 352 = .ok (.iconst 0, 1) := by decide +kernel
theorem dL_law_353 : decode cL_law 353 = .ok (.ireturn, 1) := by decide +kernel
theorem dL_law_354 : decode cL_law 354 = .ok (.aload_n 1, 1) := by decide +kernel
theorem dL_law_355 : decode cL_law 355 = .ok (.aload_n 0, 1) := by decide +kernel
theorem dL_law_356 : decode cL_law 356 = .ok (.iload_n 3, 1) := by decide +kernel
theorem dL_law_357 : decode cL_law 357 = .ok (.iconst 1, 1) := by decide +kernel
theorem dL_law_358 : decode cL_law 358 = .ok (.iadd, 1) := by decide +kernel
theorem dL_law_359 : decode cL_law 359 = .ok (.iaload, 1) := by decide +kernel
theorem dL_law_360 : decode cL_law 360 = .ok (.aload_n 0, 1) := by decide +kernel
theorem dL_law_361 : decode cL_law 361 = .ok (.iload_n 3, 1) := by decide +kernel
theorem dL_law_362 : decode cL_law 362 = .ok (.iconst 2, 1) := by decide +kernel
theorem dL_law_363 : decode cL_law 363 = .ok (.iadd, 1) := by decide +kernel
theorem dL_law_364 : decode cL_law 364 = .ok (.iaload, 1) := by decide +kernel
theorem dL_law_365 : decode cL_law 365 = .ok (.aload_n 0, 1) := by decide +kernel
theorem dL_law_366 : decode cL_law 366 = .ok (.iload_n 3, 1) := by decide +kernel
theorem dL_law_367 : decode cL_law 367 = .ok (.iconst 3, 1) := by decide +kernel
theorem dL_law_368 : decode cL_law 368 = .ok (.iadd, 1) := by decide +kernel
theorem dL_law_369 : decode cL_law 369 = .ok (.iaload, 1) := by decide +kernel
theorem dL_law_370 : decode cL_law 370 = .ok (.aload_n 0, 1) := by decide +kernel
theorem dL_law_371 : decode cL_law 371 = .ok (.iload_n 3, 1) := by decide +kernel
theorem dL_law_372 : decode cL_law 372 = .ok (.iconst 4, 1) := by decide +kernel
theorem dL_law_373 : decode cL_law 373 = .ok (.iadd, 1) := by decide +kernel
theorem dL_law_374 : decode cL_law 374 = .ok (.iaload, 1) := by decide +kernel
theorem dL_law_375 : decode cL_law 375 = .ok (.invokevirtual 41, 3) := by decide +kernel
theorem dL_law_378 : decode cL_law 378 = .ok (.aload_n 2, 1) := by decide +kernel
theorem dL_law_379 : decode cL_law 379 = .ok (.aload_n 0, 1) := by decide +kernel
theorem dL_law_380 : decode cL_law 380 = .ok (.iload_n 3, 1) := by decide +kernel
theorem dL_law_381 : decode cL_law 381 = .ok (.iconst 1, 1) := by decide +kernel
theorem dL_law_382 : decode cL_law 382 = .ok (.iadd, 1) := by decide +kernel
theorem dL_law_383 : decode cL_law 383 = .ok (.iaload, 1) := by decide +kernel
theorem dL_law_384 : decode cL_law 384 = .ok (.aload_n 0, 1) := by decide +kernel
theorem dL_law_385 : decode cL_law 385 = .ok (.iload_n 3, 1) := by decide +kernel
theorem dL_law_386 : decode cL_law 386 = .ok (.iconst 2, 1) := by decide +kernel
theorem dL_law_387 : decode cL_law 387 = .ok (.iadd, 1) := by decide +kernel
theorem dL_law_388 : decode cL_law 388 = .ok (.iaload, 1) := by decide +kernel
theorem dL_law_389 : decode cL_law 389 = .ok (.aload_n 0, 1) := by decide +kernel
theorem dL_law_390 : decode cL_law 390 = .ok (.iload_n 3, 1) := by decide +kernel
theorem dL_law_391 : decode cL_law 391 = .ok (.iconst 3, 1) := by decide +kernel
theorem dL_law_392 : decode cL_law 392 = .ok (.iadd, 1) := by decide +kernel
theorem dL_law_393 : decode cL_law 393 = .ok (.iaload, 1) := by decide +kernel
theorem dL_law_394 : decode cL_law 394 = .ok (.aload_n 0, 1) := by decide +kernel
theorem dL_law_395 : decode cL_law 395 = .ok (.iload_n 3, 1) := by decide +kernel
theorem dL_law_396 : decode cL_law 396 = .ok (.iconst 4, 1) := by decide +kernel
theorem dL_law_397 : decode cL_law 397 = .ok (.iadd, 1) := by decide +kernel
theorem dL_law_398 : decode cL_law 398 = .ok (.iaload, 1) := by decide +kernel
theorem dL_law_399 : decode cL_law 399 = .ok (.invokevirtual 44, 3) := by decide +kernel
theorem dL_law_402 : decode cL_law 402 = .ok (.if_icmp .eq 884, 3) := by decide +kernel
theorem dL_law_405 : decode cL_law 405 = .ok (.iconst 0, 1) := by decide +kernel
theorem dL_law_406 : decode cL_law 406 = .ok (.ireturn, 1) := by decide +kernel
theorem dL_law_407 : decode cL_law 407 = .ok (.aload_n 1, 1) := by decide +kernel
theorem dL_law_408 : decode cL_law 408 = .ok (.aload_n 0, 1) := by decide +kernel
theorem dL_law_409 : decode cL_law 409 = .ok (.iload_n 3, 1) := by decide +kernel
theorem dL_law_410 : decode cL_law 410 = .ok (.iconst 1, 1) := by decide +kernel
theorem dL_law_411 : decode cL_law 411 = .ok (.iadd, 1) := by decide +kernel
theorem dL_law_412 : decode cL_law 412 = .ok (.iaload, 1) := by decide +kernel
theorem dL_law_413 : decode cL_law 413 = .ok (.invokevirtual 45, 3) := by decide +kernel
theorem dL_law_416 : decode cL_law 416 = .ok (.aload_n 2, 1) := by decide +kernel
theorem dL_law_417 : decode cL_law 417 = .ok (.aload_n 0, 1) := by decide +kernel
theorem dL_law_418 : decode cL_law 418 = .ok (.iload_n 3, 1) := by decide +kernel
theorem dL_law_419 : decode cL_law 419 = .ok (.iconst 1, 1) := by decide +kernel
theorem dL_law_420 : decode cL_law 420 = .ok (.iadd, 1) := by decide +kernel
theorem dL_law_421 : decode cL_law 421 = .ok (.iaload, 1) := by decide +kernel
theorem dL_law_422 : decode cL_law 422 = .ok (.invokevirtual 48, 3) := by decide +kernel
theorem dL_law_425 : decode cL_law 425 = .ok (.if_icmp .eq 861, 3) := by decide +kernel
theorem dL_law_428 : decode cL_law 428 = .ok (.iconst 0, 1) := by decide +kernel
theorem dL_law_429 : decode cL_law 429 = .ok (.ireturn, 1) := by decide +kernel
theorem dL_law_430 : decode cL_law 430 = .ok (.aload_n 1, 1) := by decide +kernel
theorem dL_law_431 : decode cL_law 431 = .ok (.aload_n 0, 1) := by decide +kernel
theorem dL_law_432 : decode cL_law 432 = .ok (.iload_n 3, 1) := by decide +kernel
theorem dL_law_433 : decode cL_law 433 = .ok (.iconst 1, 1) := by decide +kernel
theorem dL_law_434 : decode cL_law 434 = .ok (.iadd, 1) := by decide +kernel
theorem dL_law_435 : decode cL_law 435 = .ok (.iaload, 1) := by decide +kernel
theorem dL_law_436 : decode cL_law 436 = .ok (.aload_n 0, 1) := by decide +kernel
theorem dL_law_437 : decode cL_law 437 = .ok (.iload_n 3, 1) := by decide +kernel
theorem dL_law_438 : decode cL_law 438 = .ok (.iconst 2, 1) := by decide +kernel
theorem dL_law_439 : decode cL_law 439 = .ok (.iadd, 1) := by decide +kernel
theorem dL_law_440 : decode cL_law 440 = .ok (.iaload, 1) := by decide +kernel
theorem dL_law_441 : decode cL_law 441 = .ok (.invokevirtual 49, 3) := by decide +kernel
theorem dL_law_444 : decode cL_law 444 = .ok (.aload_n 2, 1) := by decide +kernel
theorem dL_law_445 : decode cL_law 445 = .ok (.aload_n 0, 1) := by decide +kernel
theorem dL_law_446 : decode cL_law 446 = .ok (.iload_n 3, 1) := by decide +kernel
theorem dL_law_447 : decode cL_law 447 = .ok (.iconst 1, 1) := by decide +kernel
theorem dL_law_448 : decode cL_law 448 = .ok (.iadd, 1) := by decide +kernel
theorem dL_law_449 : decode cL_law 449 = .ok (.iaload, 1) := by decide +kernel
theorem dL_law_450 : decode cL_law 450 = .ok (.aload_n 0, 1) := by decide +kernel
theorem dL_law_451 : decode cL_law 451 = .ok (.iload_n 3, 1) := by decide +kernel
theorem dL_law_452 : decode cL_law 452 = .ok (.iconst 2, 1) := by decide +kernel
theorem dL_law_453 : decode cL_law 453 = .ok (.iadd, 1) := by decide +kernel
theorem dL_law_454 : decode cL_law 454 = .ok (.iaload, 1) := by decide +kernel
theorem dL_law_455 : decode cL_law 455 = .ok (.invokevirtual 52, 3) := by decide +kernel
theorem dL_law_458 : decode cL_law 458 = .ok (.if_icmp .eq 828, 3) := by decide +kernel
theorem dL_law_461 : decode cL_law 461 = .ok (.iconst 0, 1) := by decide +kernel
theorem dL_law_462 : decode cL_law 462 = .ok (.ireturn, 1) := by decide +kernel
theorem dL_law_463 : decode cL_law 463 = .ok (.aload_n 1, 1) := by decide +kernel
theorem dL_law_464 : decode cL_law 464 = .ok (.aload_n 0, 1) := by decide +kernel
theorem dL_law_465 : decode cL_law 465 = .ok (.iload_n 3, 1) := by decide +kernel
theorem dL_law_466 : decode cL_law 466 = .ok (.iconst 1, 1) := by decide +kernel
theorem dL_law_467 : decode cL_law 467 = .ok (.iadd, 1) := by decide +kernel
theorem dL_law_468 : decode cL_law 468 = .ok (.iaload, 1) := by decide +kernel
theorem dL_law_469 : decode cL_law 469 = .ok (.aload_n 0, 1) := by decide +kernel
theorem dL_law_470 : decode cL_law 470 = .ok (.iload_n 3, 1) := by decide +kernel
theorem dL_law_471 : decode cL_law 471 = .ok (.iconst 2, 1) := by decide +kernel
theorem dL_law_472 : decode cL_law 472 = .ok (.iadd, 1) := by decide +kernel
theorem dL_law_473 : decode cL_law 473 = .ok (.iaload, 1) := by decide +kernel
theorem dL_law_474 : decode cL_law 474 = .ok (.aload_n 0, 1) := by decide +kernel
theorem dL_law_475 : decode cL_law 475 = .ok (.iload_n 3, 1) := by decide +kernel
theorem dL_law_476 : decode cL_law 476 = .ok (.iconst 3, 1) := by decide +kernel
theorem dL_law_477 : decode cL_law 477 = .ok (.iadd, 1) := by decide +kernel
theorem dL_law_478 : decode cL_law 478 = .ok (.iaload, 1) := by decide +kernel
theorem dL_law_479 : decode cL_law 479 = .ok (.invokevirtual 53, 3) := by decide +kernel
theorem dL_law_482 : decode cL_law 482 = .ok (.aload_n 2, 1) := by decide +kernel
theorem dL_law_483 : decode cL_law 483 = .ok (.aload_n 0, 1) := by decide +kernel
theorem dL_law_484 : decode cL_law 484 = .ok (.iload_n 3, 1) := by decide +kernel
theorem dL_law_485 : decode cL_law 485 = .ok (.iconst 1, 1) := by decide +kernel
theorem dL_law_486 : decode cL_law 486 = .ok (.iadd, 1) := by decide +kernel
theorem dL_law_487 : decode cL_law 487 = .ok (.iaload, 1) := by decide +kernel
theorem dL_law_488 : decode cL_law 488 = .ok (.aload_n 0, 1) := by decide +kernel
theorem dL_law_489 : decode cL_law 489 = .ok (.iload_n 3, 1) := by decide +kernel
theorem dL_law_490 : decode cL_law 490 = .ok (.iconst 2, 1) := by decide +kernel
theorem dL_law_491 : decode cL_law 491 = .ok (.iadd, 1) := by decide +kernel
theorem dL_law_492 : decode cL_law 492 = .ok (.iaload, 1) := by decide +kernel
theorem dL_law_493 : decode cL_law 493 = .ok (.aload_n 0, 1) := by decide +kernel
theorem dL_law_494 : decode cL_law 494 = .ok (.iload_n 3, 1) := by decide +kernel
theorem dL_law_495 : decode cL_law 495 = .ok (.iconst 3, 1) := by decide +kernel
theorem dL_law_496 : decode cL_law 496 = .ok (.iadd, 1) := by decide +kernel
theorem dL_law_497 : decode cL_law 497 = .ok (.iaload, 1) := by decide +kernel
theorem dL_law_498 : decode cL_law 498 = .ok (.invokevirtual 57, 3) := by decide +kernel
theorem dL_law_501 : decode cL_law 501 = .ok (.if_icmp .eq 785, 3) := by decide +kernel
theorem dL_law_504 : decode cL_law 504 = .ok (.iconst 0, 1) := by decide +kernel
theorem dL_law_505 : decode cL_law 505 = .ok (.ireturn, 1) := by decide +kernel
theorem dL_law_506 : decode cL_law 506 = .ok (.aload_n 1, 1) := by decide +kernel
theorem dL_law_507 : decode cL_law 507 = .ok (.aload_n 0, 1) := by decide +kernel
theorem dL_law_508 : decode cL_law 508 = .ok (.iload_n 3, 1) := by decide +kernel
theorem dL_law_509 : decode cL_law 509 = .ok (.iconst 1, 1) := by decide +kernel
theorem dL_law_510 : decode cL_law 510 = .ok (.iadd, 1) := by decide +kernel
theorem dL_law_511 : decode cL_law 511 = .ok (.iaload, 1) := by decide +kernel
theorem dL_law_512 : decode cL_law 512 = .ok (.aload_n 0, 1) := by decide +kernel
theorem dL_law_513 : decode cL_law 513 = .ok (.iload_n 3, 1) := by decide +kernel
theorem dL_law_514 : decode cL_law 514 = .ok (.iconst 2, 1) := by decide +kernel
theorem dL_law_515 : decode cL_law 515 = .ok (.iadd, 1) := by decide +kernel
theorem dL_law_516 : decode cL_law 516 = .ok (.iaload, 1) := by decide +kernel
theorem dL_law_517 : decode cL_law 517 = .ok (.aload_n 0, 1) := by decide +kernel
theorem dL_law_518 : decode cL_law 518 = .ok (.iload_n 3, 1) := by decide +kernel
theorem dL_law_519 : decode cL_law 519 = .ok (.iconst 3, 1) := by decide +kernel
theorem dL_law_520 : decode cL_law 520 = .ok (.iadd, 1) := by decide +kernel
theorem dL_law_521 : decode cL_law 521 = .ok (.iaload, 1) := by decide +kernel
theorem dL_law_522 : decode cL_law 522 = .ok (.invokevirtual 58, 3) := by decide +kernel
theorem dL_law_525 : decode cL_law 525 = .ok (.aload_n 2, 1) := by decide +kernel
theorem dL_law_526 : decode cL_law 526 = .ok (.aload_n 0, 1) := by decide +kernel
theorem dL_law_527 : decode cL_law 527 = .ok (.iload_n 3, 1) := by decide +kernel
theorem dL_law_528 : decode cL_law 528 = .ok (.iconst 1, 1) := by decide +kernel
theorem dL_law_529 : decode cL_law 529 = .ok (.iadd, 1) := by decide +kernel
theorem dL_law_530 : decode cL_law 530 = .ok (.iaload, 1) := by decide +kernel
theorem dL_law_531 : decode cL_law 531 = .ok (.aload_n 0, 1) := by decide +kernel
theorem dL_law_532 : decode cL_law 532 = .ok (.iload_n 3, 1) := by decide +kernel
theorem dL_law_533 : decode cL_law 533 = .ok (.iconst 2, 1) := by decide +kernel
theorem dL_law_534 : decode cL_law 534 = .ok (.iadd, 1) := by decide +kernel
theorem dL_law_535 : decode cL_law 535 = .ok (.iaload, 1) := by decide +kernel
theorem dL_law_536 : decode cL_law 536 = .ok (.aload_n 0, 1) := by decide +kernel
theorem dL_law_537 : decode cL_law 537 = .ok (.iload_n 3, 1) := by decide +kernel
theorem dL_law_538 : decode cL_law 538 = .ok (.iconst 3, 1) := by decide +kernel
theorem dL_law_539 : decode cL_law 539 = .ok (.iadd, 1) := by decide +kernel
theorem dL_law_540 : decode cL_law 540 = .ok (.iaload, 1) := by decide +kernel
theorem dL_law_541 : decode cL_law 541 = .ok (.invokevirtual 61, 3) := by decide +kernel
theorem dL_law_544 : decode cL_law 544 = .ok (.if_icmp .eq 742, 3) := by decide +kernel
theorem dL_law_547 : decode cL_law 547 = .ok (.iconst 0, 1) := by decide +kernel
theorem dL_law_548 : decode cL_law 548 = .ok (.ireturn, 1) := by decide +kernel
theorem dL_law_549 : decode cL_law 549 = .ok (.aload_n 1, 1) := by decide +kernel
theorem dL_law_550 : decode cL_law 550 = .ok (.aload_n 0, 1) := by decide +kernel
theorem dL_law_551 : decode cL_law 551 = .ok (.iload_n 3, 1) := by decide +kernel
theorem dL_law_552 : decode cL_law 552 = .ok (.iconst 1, 1) := by decide +kernel
theorem dL_law_553 : decode cL_law 553 = .ok (.iadd, 1) := by decide +kernel
theorem dL_law_554 : decode cL_law 554 = .ok (.iaload, 1) := by decide +kernel
theorem dL_law_555 : decode cL_law 555 = .ok (.aload_n 0, 1) := by decide +kernel
theorem dL_law_556 : decode cL_law 556 = .ok (.iload_n 3, 1) := by decide +kernel
theorem dL_law_557 : decode cL_law 557 = .ok (.iconst 2, 1) := by decide +kernel
theorem dL_law_558 : decode cL_law 558 = .ok (.iadd, 1) := by decide +kernel
theorem dL_law_559 : decode cL_law 559 = .ok (.iaload, 1) := by decide +kernel
theorem dL_law_560 : decode cL_law 560 = .ok (.invokevirtual 62, 3) := by decide +kernel
theorem dL_law_563 : decode cL_law 563 = .ok (.aload_n 2, 1) := by decide +kernel
theorem dL_law_564 : decode cL_law 564 = .ok (.aload_n 0, 1) := by decide +kernel
theorem dL_law_565 : decode cL_law 565 = .ok (.iload_n 3, 1) := by decide +kernel
theorem dL_law_566 : decode cL_law 566 = .ok (.iconst 1, 1) := by decide +kernel
theorem dL_law_567 : decode cL_law 567 = .ok (.iadd, 1) := by decide +kernel
theorem dL_law_568 : decode cL_law 568 = .ok (.iaload, 1) := by decide +kernel
theorem dL_law_569 : decode cL_law 569 = .ok (.aload_n 0, 1) := by decide +kernel
theorem dL_law_570 : decode cL_law 570 = .ok (.iload_n 3, 1) := by decide +kernel
theorem dL_law_571 : decode cL_law 571 = .ok (.iconst 2, 1) := by decide +kernel
theorem dL_law_572 : decode cL_law 572 = .ok (.iadd, 1) := by decide +kernel
theorem dL_law_573 : decode cL_law 573 = .ok (.iaload, 1) := by decide +kernel
theorem dL_law_574 : decode cL_law 574 = .ok (.invokevirtual 66, 3) := by decide +kernel
theorem dL_law_577 : decode cL_law 577 = .ok (.lcmp, 1) := by decide +kernel
theorem dL_law_578 : decode cL_law 578 = .ok (.ifCond .eq 708, 3) := by decide +kernel
theorem dL_law_581 : decode cL_law 581 = .ok (.iconst 0, 1) := by decide +kernel
theorem dL_law_582 : decode cL_law 582 = .ok (.ireturn, 1) := by decide +kernel
theorem dL_law_583 : decode cL_law 583 = .ok (.aload_n 1, 1) := by decide +kernel
theorem dL_law_584 : decode cL_law 584 = .ok (.aload_n 0, 1) := by decide +kernel
theorem dL_law_585 : decode cL_law 585 = .ok (.iload_n 3, 1) := by decide +kernel
theorem dL_law_586 : decode cL_law 586 = .ok (.iconst 1, 1) := by decide +kernel
theorem dL_law_587 : decode cL_law 587 = .ok (.iadd, 1) := by decide +kernel
theorem dL_law_588 : decode cL_law 588 = .ok (.iaload, 1) := by decide +kernel
theorem dL_law_589 : decode cL_law 589 = .ok (.invokevirtual 67, 3) := by decide +kernel
theorem dL_law_592 : decode cL_law 592 = .ok (.aload_n 2, 1) := by decide +kernel
theorem dL_law_593 : decode cL_law 593 = .ok (.aload_n 0, 1) := by decide +kernel
theorem dL_law_594 : decode cL_law 594 = .ok (.iload_n 3, 1) := by decide +kernel
theorem dL_law_595 : decode cL_law 595 = .ok (.iconst 1, 1) := by decide +kernel
theorem dL_law_596 : decode cL_law 596 = .ok (.iadd, 1) := by decide +kernel
theorem dL_law_597 : decode cL_law 597 = .ok (.iaload, 1) := by decide +kernel
theorem dL_law_598 : decode cL_law 598 = .ok (.invokevirtual 71, 3) := by decide +kernel
theorem dL_law_601 : decode cL_law 601 = .ok (.lcmp, 1) := by decide +kernel
theorem dL_law_602 : decode cL_law 602 = .ok (.ifCond .eq 684, 3) := by decide +kernel
theorem dL_law_605 : decode cL_law 605 = .ok (.iconst 0, 1) := by decide +kernel
theorem dL_law_606 : decode cL_law 606 = .ok (.ireturn, 1) := by decide +kernel
theorem dL_law_607 : decode cL_law 607 = .ok (.aload_n 1, 1) := by decide +kernel
theorem dL_law_608 : decode cL_law 608 = .ok (.aload_n 0, 1) := by decide +kernel
theorem dL_law_609 : decode cL_law 609 = .ok (.iload_n 3, 1) := by decide +kernel
theorem dL_law_610 : decode cL_law 610 = .ok (.iconst 1, 1) := by decide +kernel
theorem dL_law_611 : decode cL_law 611 = .ok (.iadd, 1) := by decide +kernel
theorem dL_law_612 : decode cL_law 612 = .ok (.iaload, 1) := by decide +kernel
theorem dL_law_613 : decode cL_law 613 = .ok (.aload_n 0, 1) := by decide +kernel
theorem dL_law_614 : decode cL_law 614 = .ok (.iload_n 3, 1) := by decide +kernel
theorem dL_law_615 : decode cL_law 615 = .ok (.iconst 2, 1) := by decide +kernel
theorem dL_law_616 : decode cL_law 616 = .ok (.iadd, 1) := by decide +kernel
theorem dL_law_617 : decode cL_law 617 = .ok (.iaload, 1) := by decide +kernel
theorem dL_law_618 : decode cL_law 618 = .ok (.aload_n 0, 1) := by decide +kernel
theorem dL_law_619 : decode cL_law 619 = .ok (.iload_n 3, 1) := by decide +kernel
theorem dL_law_620 : decode cL_law 620 = .ok (.iconst 3, 1) := by decide +kernel
theorem dL_law_621 : decode cL_law 621 = .ok (.iadd, 1) := by decide +kernel
theorem dL_law_622 : decode cL_law 622 = .ok (.iaload, 1) := by decide +kernel
theorem dL_law_623 : decode cL_law 623 = .ok (.invokevirtual 72, 3) := by decide +kernel
theorem dL_law_626 : decode cL_law 626 = .ok (.aload_n 2, 1) := by decide +kernel
theorem dL_law_627 : decode cL_law 627 = .ok (.aload_n 0, 1) := by decide +kernel
theorem dL_law_628 : decode cL_law 628 = .ok (.iload_n 3, 1) := by decide +kernel
theorem dL_law_629 : decode cL_law 629 = .ok (.iconst 1, 1) := by decide +kernel
theorem dL_law_630 : decode cL_law 630 = .ok (.iadd, 1) := by decide +kernel
theorem dL_law_631 : decode cL_law 631 = .ok (.iaload, 1) := by decide +kernel
theorem dL_law_632 : decode cL_law 632 = .ok (.aload_n 0, 1) := by decide +kernel
theorem dL_law_633 : decode cL_law 633 = .ok (.iload_n 3, 1) := by decide +kernel
theorem dL_law_634 : decode cL_law 634 = .ok (.iconst 2, 1) := by decide +kernel
theorem dL_law_635 : decode cL_law 635 = .ok (.iadd, 1) := by decide +kernel
theorem dL_law_636 : decode cL_law 636 = .ok (.iaload, 1) := by decide +kernel
theorem dL_law_637 : decode cL_law 637 = .ok (.aload_n 0, 1) := by decide +kernel
theorem dL_law_638 : decode cL_law 638 = .ok (.iload_n 3, 1) := by decide +kernel
theorem dL_law_639 : decode cL_law 639 = .ok (.iconst 3, 1) := by decide +kernel
theorem dL_law_640 : decode cL_law 640 = .ok (.iadd, 1) := by decide +kernel
theorem dL_law_641 : decode cL_law 641 = .ok (.iaload, 1) := by decide +kernel
theorem dL_law_642 : decode cL_law 642 = .ok (.invokevirtual 75, 3) := by decide +kernel
theorem dL_law_645 : decode cL_law 645 = .ok (.if_icmp .eq 641, 3) := by decide +kernel
theorem dL_law_648 : decode cL_law 648 = .ok (.iconst 0, 1) := by decide +kernel
theorem dL_law_649 : decode cL_law 649 = .ok (.ireturn, 1) := by decide +kernel
theorem dL_law_650 : decode cL_law 650 = .ok (.aload_n 1, 1) := by decide +kernel
theorem dL_law_651 : decode cL_law 651 = .ok (.aload_n 0, 1) := by decide +kernel
theorem dL_law_652 : decode cL_law 652 = .ok (.iload_n 3, 1) := by decide +kernel
theorem dL_law_653 : decode cL_law 653 = .ok (.iconst 1, 1) := by decide +kernel
theorem dL_law_654 : decode cL_law 654 = .ok (.iadd, 1) := by decide +kernel
theorem dL_law_655 : decode cL_law 655 = .ok (.iaload, 1) := by decide +kernel
theorem dL_law_656 : decode cL_law 656 = .ok (.invokevirtual 76, 3) := by decide +kernel
theorem dL_law_659 : decode cL_law 659 = .ok (.aload_n 2, 1) := by decide +kernel
theorem dL_law_660 : decode cL_law 660 = .ok (.aload_n 0, 1) := by decide +kernel
theorem dL_law_661 : decode cL_law 661 = .ok (.iload_n 3, 1) := by decide +kernel
theorem dL_law_662 : decode cL_law 662 = .ok (.iconst 1, 1) := by decide +kernel
theorem dL_law_663 : decode cL_law 663 = .ok (.iadd, 1) := by decide +kernel
theorem dL_law_664 : decode cL_law 664 = .ok (.iaload, 1) := by decide +kernel
theorem dL_law_665 : decode cL_law 665 = .ok (.invokevirtual 79, 3) := by decide +kernel
theorem dL_law_668 : decode cL_law 668 = .ok (.if_icmp .eq 618, 3) := by decide +kernel
theorem dL_law_671 : decode cL_law 671 = .ok (.iconst 0, 1) := by decide +kernel
theorem dL_law_672 : decode cL_law 672 = .ok (.ireturn, 1) := by decide +kernel
theorem dL_law_673 : decode cL_law 673 = .ok (.aload_n 1, 1) := by decide +kernel
theorem dL_law_674 : decode cL_law 674 = .ok (.aload_n 0, 1) := by decide +kernel
theorem dL_law_675 : decode cL_law 675 = .ok (.iload_n 3, 1) := by decide +kernel
theorem dL_law_676 : decode cL_law 676 = .ok (.iconst 1, 1) := by decide +kernel
theorem dL_law_677 : decode cL_law 677 = .ok (.iadd, 1) := by decide +kernel
theorem dL_law_678 : decode cL_law 678 = .ok (.iaload, 1) := by decide +kernel
theorem dL_law_679 : decode cL_law 679 = .ok (.invokevirtual 80, 3) := by decide +kernel
theorem dL_law_682 : decode cL_law 682 = .ok (.aload_n 2, 1) := by decide +kernel
theorem dL_law_683 : decode cL_law 683 = .ok (.aload_n 0, 1) := by decide +kernel
theorem dL_law_684 : decode cL_law 684 = .ok (.iload_n 3, 1) := by decide +kernel
theorem dL_law_685 : decode cL_law 685 = .ok (.iconst 1, 1) := by decide +kernel
theorem dL_law_686 : decode cL_law 686 = .ok (.iadd, 1) := by decide +kernel
theorem dL_law_687 : decode cL_law 687 = .ok (.iaload, 1) := by decide +kernel
theorem dL_law_688 : decode cL_law 688 = .ok (.invokevirtual 83, 3) := by decide +kernel
theorem dL_law_691 : decode cL_law 691 = .ok (.if_icmp .eq 595, 3) := by decide +kernel
theorem dL_law_694 : decode cL_law 694 = .ok (.iconst 0, 1) := by decide +kernel
theorem dL_law_695 : decode cL_law 695 = .ok (.ireturn, 1) := by decide +kernel
theorem dL_law_696 : decode cL_law 696 = .ok (.aload_n 1, 1) := by decide +kernel
theorem dL_law_697 : decode cL_law 697 = .ok (.aload_n 0, 1) := by decide +kernel
theorem dL_law_698 : decode cL_law 698 = .ok (.iload_n 3, 1) := by decide +kernel
theorem dL_law_699 : decode cL_law 699 = .ok (.iconst 1, 1) := by decide +kernel
theorem dL_law_700 : decode cL_law 700 = .ok (.iadd, 1) := by decide +kernel
theorem dL_law_701 : decode cL_law 701 = .ok (.iaload, 1) := by decide +kernel
theorem dL_law_702 : decode cL_law 702 = .ok (.aload_n 0, 1) := by decide +kernel
theorem dL_law_703 : decode cL_law 703 = .ok (.iload_n 3, 1) := by decide +kernel
theorem dL_law_704 : decode cL_law 704 = .ok (.iconst 2, 1) := by decide +kernel
theorem dL_law_705 : decode cL_law 705 = .ok (.iadd, 1) := by decide +kernel
theorem dL_law_706 : decode cL_law 706 = .ok (.iaload, 1) := by decide +kernel
theorem dL_law_707 : decode cL_law 707 = .ok (.invokevirtual 84, 3) := by decide +kernel
theorem dL_law_710 : decode cL_law 710 = .ok (.aload_n 2, 1) := by decide +kernel
theorem dL_law_711 : decode cL_law 711 = .ok (.aload_n 0, 1) := by decide +kernel
theorem dL_law_712 : decode cL_law 712 = .ok (.iload_n 3, 1) := by decide +kernel
theorem dL_law_713 : decode cL_law 713 = .ok (.iconst 1, 1) := by decide +kernel
theorem dL_law_714 : decode cL_law 714 = .ok (.iadd, 1) := by decide +kernel
theorem dL_law_715 : decode cL_law 715 = .ok (.iaload, 1) := by decide +kernel
theorem dL_law_716 : decode cL_law 716 = .ok (.aload_n 0, 1) := by decide +kernel
theorem dL_law_717 : decode cL_law 717 = .ok (.iload_n 3, 1) := by decide +kernel
theorem dL_law_718 : decode cL_law 718 = .ok (.iconst 2, 1) := by decide +kernel
theorem dL_law_719 : decode cL_law 719 = .ok (.iadd, 1) := by decide +kernel
theorem dL_law_720 : decode cL_law 720 = .ok (.iaload, 1) := by decide +kernel
theorem dL_law_721 : decode cL_law 721 = .ok (.invokevirtual 87, 3) := by decide +kernel
theorem dL_law_724 : decode cL_law 724 = .ok (.if_icmp .eq 562, 3) := by decide +kernel
theorem dL_law_727 : decode cL_law 727 = .ok (.iconst 0, 1) := by decide +kernel
theorem dL_law_728 : decode cL_law 728 = .ok (.ireturn, 1) := by decide +kernel
theorem dL_law_729 : decode cL_law 729 = .ok (.aload_n 1, 1) := by decide +kernel
theorem dL_law_730 : decode cL_law 730 = .ok (.aload_n 0, 1) := by decide +kernel
theorem dL_law_731 : decode cL_law 731 = .ok (.iload_n 3, 1) := by decide +kernel
theorem dL_law_732 : decode cL_law 732 = .ok (.iconst 1, 1) := by decide +kernel
theorem dL_law_733 : decode cL_law 733 = .ok (.iadd, 1) := by decide +kernel
theorem dL_law_734 : decode cL_law 734 = .ok (.iaload, 1) := by decide +kernel
theorem dL_law_735 : decode cL_law 735 = .ok (.invokevirtual 88, 3) := by decide +kernel
theorem dL_law_738 : decode cL_law 738 = .ok (.aload_n 2, 1) := by decide +kernel
theorem dL_law_739 : decode cL_law 739 = .ok (.aload_n 0, 1) := by decide +kernel
theorem dL_law_740 : decode cL_law 740 = .ok (.iload_n 3, 1) := by decide +kernel
theorem dL_law_741 : decode cL_law 741 = .ok (.iconst 1, 1) := by decide +kernel
theorem dL_law_742 : decode cL_law 742 = .ok (.iadd, 1) := by decide +kernel
theorem dL_law_743 : decode cL_law 743 = .ok (.iaload, 1) := by decide +kernel
theorem dL_law_744 : decode cL_law 744 = .ok (.invokevirtual 91, 3) := by decide +kernel
theorem dL_law_747 : decode cL_law 747 = .ok (.if_icmp .eq 539, 3) := by decide +kernel
theorem dL_law_750 : decode cL_law 750 = .ok (.iconst 0, 1) := by decide +kernel
theorem dL_law_751 : decode cL_law 751 = .ok (.ireturn, 1) := by decide +kernel
theorem dL_law_752 : decode cL_law 752 = .ok (.aload_n 1, 1) := by decide +kernel
theorem dL_law_753 : decode cL_law 753 = .ok (.aload_n 0, 1) := by decide +kernel
theorem dL_law_754 : decode cL_law 754 = .ok (.iload_n 3, 1) := by decide +kernel
theorem dL_law_755 : decode cL_law 755 = .ok (.iconst 1, 1) := by decide +kernel
theorem dL_law_756 : decode cL_law 756 = .ok (.iadd, 1) := by decide +kernel
theorem dL_law_757 : decode cL_law 757 = .ok (.iaload, 1) := by decide +kernel
theorem dL_law_758 : decode cL_law 758 = .ok (.aload_n 0, 1) := by decide +kernel
theorem dL_law_759 : decode cL_law 759 = .ok (.iload_n 3, 1) := by decide +kernel
theorem dL_law_760 : decode cL_law 760 = .ok (.iconst 2, 1) := by decide +kernel
theorem dL_law_761 : decode cL_law 761 = .ok (.iadd, 1) := by decide +kernel
theorem dL_law_762 : decode cL_law 762 = .ok (.iaload, 1) := by decide +kernel
theorem dL_law_763 : decode cL_law 763 = .ok (.invokevirtual 92, 3) := by decide +kernel
theorem dL_law_766 : decode cL_law 766 = .ok (.aload_n 2, 1) := by decide +kernel
theorem dL_law_767 : decode cL_law 767 = .ok (.aload_n 0, 1) := by decide +kernel
theorem dL_law_768 : decode cL_law 768 = .ok (.iload_n 3, 1) := by decide +kernel
theorem dL_law_769 : decode cL_law 769 = .ok (.iconst 1, 1) := by decide +kernel
theorem dL_law_770 : decode cL_law 770 = .ok (.iadd, 1) := by decide +kernel
theorem dL_law_771 : decode cL_law 771 = .ok (.iaload, 1) := by decide +kernel
theorem dL_law_772 : decode cL_law 772 = .ok (.aload_n 0, 1) := by decide +kernel
theorem dL_law_773 : decode cL_law 773 = .ok (.iload_n 3, 1) := by decide +kernel
theorem dL_law_774 : decode cL_law 774 = .ok (.iconst 2, 1) := by decide +kernel
theorem dL_law_775 : decode cL_law 775 = .ok (.iadd, 1) := by decide +kernel
theorem dL_law_776 : decode cL_law 776 = .ok (.iaload, 1) := by decide +kernel
theorem dL_law_777 : decode cL_law 777 = .ok (.invokevirtual 95, 3) := by decide +kernel
theorem dL_law_780 : decode cL_law 780 = .ok (.if_icmp .eq 506, 3) := by decide +kernel
theorem dL_law_783 : decode cL_law 783 = .ok (.iconst 0, 1) := by decide +kernel
theorem dL_law_784 : decode cL_law 784 = .ok (.ireturn, 1) := by decide +kernel
theorem dL_law_785 : decode cL_law 785 = .ok (.aload_n 1, 1) := by decide +kernel
theorem dL_law_786 : decode cL_law 786 = .ok (.aload_n 0, 1) := by decide +kernel
theorem dL_law_787 : decode cL_law 787 = .ok (.iload_n 3, 1) := by decide +kernel
theorem dL_law_788 : decode cL_law 788 = .ok (.iconst 1, 1) := by decide +kernel
theorem dL_law_789 : decode cL_law 789 = .ok (.iadd, 1) := by decide +kernel
theorem dL_law_790 : decode cL_law 790 = .ok (.iaload, 1) := by decide +kernel
theorem dL_law_791 : decode cL_law 791 = .ok (.aload_n 0, 1) := by decide +kernel
theorem dL_law_792 : decode cL_law 792 = .ok (.iload_n 3, 1) := by decide +kernel
theorem dL_law_793 : decode cL_law 793 = .ok (.iconst 2, 1) := by decide +kernel
theorem dL_law_794 : decode cL_law 794 = .ok (.iadd, 1) := by decide +kernel
theorem dL_law_795 : decode cL_law 795 = .ok (.iaload, 1) := by decide +kernel
theorem dL_law_796 : decode cL_law 796 = .ok (.aload_n 0, 1) := by decide +kernel
theorem dL_law_797 : decode cL_law 797 = .ok (.iload_n 3, 1) := by decide +kernel
theorem dL_law_798 : decode cL_law 798 = .ok (.iconst 3, 1) := by decide +kernel
theorem dL_law_799 : decode cL_law 799 = .ok (.iadd, 1) := by decide +kernel
theorem dL_law_800 : decode cL_law 800 = .ok (.iaload, 1) := by decide +kernel
theorem dL_law_801 : decode cL_law 801 = .ok (.aload_n 0, 1) := by decide +kernel
theorem dL_law_802 : decode cL_law 802 = .ok (.iload_n 3, 1) := by decide +kernel
theorem dL_law_803 : decode cL_law 803 = .ok (.iconst 4, 1) := by decide +kernel
theorem dL_law_804 : decode cL_law 804 = .ok (.iadd, 1) := by decide +kernel
theorem dL_law_805 : decode cL_law 805 = .ok (.iaload, 1) := by decide +kernel
theorem dL_law_806 : decode cL_law 806 = .ok (.invokevirtual 96, 3) := by decide +kernel
theorem dL_law_809 : decode cL_law 809 = .ok (.aload_n 2, 1) := by decide +kernel
theorem dL_law_810 : decode cL_law 810 = .ok (.aload_n 0, 1) := by decide +kernel
theorem dL_law_811 : decode cL_law 811 = .ok (.iload_n 3, 1) := by decide +kernel
theorem dL_law_812 : decode cL_law 812 = .ok (.iconst 1, 1) := by decide +kernel
theorem dL_law_813 : decode cL_law 813 = .ok (.iadd, 1) := by decide +kernel
theorem dL_law_814 : decode cL_law 814 = .ok (.iaload, 1) := by decide +kernel
theorem dL_law_815 : decode cL_law 815 = .ok (.aload_n 0, 1) := by decide +kernel
theorem dL_law_816 : decode cL_law 816 = .ok (.iload_n 3, 1) := by decide +kernel
theorem dL_law_817 : decode cL_law 817 = .ok (.iconst 2, 1) := by decide +kernel
theorem dL_law_818 : decode cL_law 818 = .ok (.iadd, 1) := by decide +kernel
theorem dL_law_819 : decode cL_law 819 = .ok (.iaload, 1) := by decide +kernel
theorem dL_law_820 : decode cL_law 820 = .ok (.aload_n 0, 1) := by decide +kernel
theorem dL_law_821 : decode cL_law 821 = .ok (.iload_n 3, 1) := by decide +kernel
theorem dL_law_822 : decode cL_law 822 = .ok (.iconst 3, 1) := by decide +kernel
theorem dL_law_823 : decode cL_law 823 = .ok (.iadd, 1) := by decide +kernel
theorem dL_law_824 : decode cL_law 824 = .ok (.iaload, 1) := by decide +kernel
theorem dL_law_825 : decode cL_law 825 = .ok (.aload_n 0, 1) := by decide +kernel
theorem dL_law_826 : decode cL_law 826 = .ok (.iload_n 3, 1) := by decide +kernel
theorem dL_law_827 : decode cL_law 827 = .ok (.iconst 4, 1) := by decide +kernel
theorem dL_law_828 : decode cL_law 828 = .ok (.iadd, 1) := by decide +kernel
theorem dL_law_829 : decode cL_law 829 = .ok (.iaload, 1) := by decide +kernel
theorem dL_law_830 : decode cL_law 830 = .ok (.invokevirtual 100, 3) := by decide +kernel
theorem dL_law_833 : decode cL_law 833 = .ok (.lcmp, 1) := by decide +kernel
theorem dL_law_834 : decode cL_law 834 = .ok (.ifCond .eq 452, 3) := by decide +kernel
theorem dL_law_837 : decode cL_law 837 = .ok (.iconst 0, 1) := by decide +kernel
theorem dL_law_838 : decode cL_law 838 = .ok (.ireturn, 1) := by decide +kernel
theorem dL_law_839 : decode cL_law 839 = .ok (.aload_n 1, 1) := by decide +kernel
theorem dL_law_840 : decode cL_law 840 = .ok (.aload_n 0, 1) := by decide +kernel
theorem dL_law_841 : decode cL_law 841 = .ok (.iload_n 3, 1) := by decide +kernel
theorem dL_law_842 : decode cL_law 842 = .ok (.iconst 1, 1) := by decide +kernel
theorem dL_law_843 : decode cL_law 843 = .ok (.iadd, 1) := by decide +kernel
theorem dL_law_844 : decode cL_law 844 = .ok (.iaload, 1) := by decide +kernel
theorem dL_law_845 : decode cL_law 845 = .ok (.aload_n 0, 1) := by decide +kernel
theorem dL_law_846 : decode cL_law 846 = .ok (.iload_n 3, 1) := by decide +kernel
theorem dL_law_847 : decode cL_law 847 = .ok (.iconst 2, 1) := by decide +kernel
theorem dL_law_848 : decode cL_law 848 = .ok (.iadd, 1) := by decide +kernel
theorem dL_law_849 : decode cL_law 849 = .ok (.iaload, 1) := by decide +kernel
theorem dL_law_850 : decode cL_law 850 = .ok (.aload_n 0, 1) := by decide +kernel
theorem dL_law_851 : decode cL_law 851 = .ok (.iload_n 3, 1) := by decide +kernel
theorem dL_law_852 : decode cL_law 852 = .ok (.iconst 3, 1) := by decide +kernel
theorem dL_law_853 : decode cL_law 853 = .ok (.iadd, 1) := by decide +kernel
theorem dL_law_854 : decode cL_law 854 = .ok (.iaload, 1) := by decide +kernel
theorem dL_law_855 : decode cL_law 855 = .ok (.aload_n 0, 1) := by decide +kernel
theorem dL_law_856 : decode cL_law 856 = .ok (.iload_n 3, 1) := by decide +kernel
theorem dL_law_857 : decode cL_law 857 = .ok (.iconst 4, 1) := by decide +kernel
theorem dL_law_858 : decode cL_law 858 = .ok (.iadd, 1) := by decide +kernel
theorem dL_law_859 : decode cL_law 859 = .ok (.iaload, 1) := by decide +kernel
theorem dL_law_860 : decode cL_law 860 = .ok (.invokevirtual 101, 3) := by decide +kernel
theorem dL_law_863 : decode cL_law 863 = .ok (.aload_n 2, 1) := by decide +kernel
theorem dL_law_864 : decode cL_law 864 = .ok (.aload_n 0, 1) := by decide +kernel
theorem dL_law_865 : decode cL_law 865 = .ok (.iload_n 3, 1) := by decide +kernel
theorem dL_law_866 : decode cL_law 866 = .ok (.iconst 1, 1) := by decide +kernel
theorem dL_law_867 : decode cL_law 867 = .ok (.iadd, 1) := by decide +kernel
theorem dL_law_868 : decode cL_law 868 = .ok (.iaload, 1) := by decide +kernel
theorem dL_law_869 : decode cL_law 869 = .ok (.aload_n 0, 1) := by decide +kernel
theorem dL_law_870 : decode cL_law 870 = .ok (.iload_n 3, 1) := by decide +kernel
theorem dL_law_871 : decode cL_law 871 = .ok (.iconst 2, 1) := by decide +kernel
theorem dL_law_872 : decode cL_law 872 = .ok (.iadd, 1) := by decide +kernel
theorem dL_law_873 : decode cL_law 873 = .ok (.iaload, 1) := by decide +kernel
theorem dL_law_874 : decode cL_law 874 = .ok (.aload_n 0, 1) := by decide +kernel
theorem dL_law_875 : decode cL_law 875 = .ok (.iload_n 3, 1) := by decide +kernel
theorem dL_law_876 : decode cL_law 876 = .ok (.iconst 3, 1) := by decide +kernel
theorem dL_law_877 : decode cL_law 877 = .ok (.iadd, 1) := by decide +kernel
theorem dL_law_878 : decode cL_law 878 = .ok (.iaload, 1) := by decide +kernel
theorem dL_law_879 : decode cL_law 879 = .ok (.aload_n 0, 1) := by decide +kernel
theorem dL_law_880 : decode cL_law 880 = .ok (.iload_n 3, 1) := by decide +kernel
theorem dL_law_881 : decode cL_law 881 = .ok (.iconst 4, 1) := by decide +kernel
theorem dL_law_882 : decode cL_law 882 = .ok (.iadd, 1) := by decide +kernel
theorem dL_law_883 : decode cL_law 883 = .ok (.iaload, 1) := by decide +kernel
theorem dL_law_884 : decode cL_law 884 = .ok (.invokevirtual 104, 3) := by decide +kernel
theorem dL_law_887 : decode cL_law 887 = .ok (.if_icmp .eq 399, 3) := by decide +kernel
theorem dL_law_890 : decode cL_law 890 = .ok (.iconst 0, 1) := by decide +kernel
theorem dL_law_891 : decode cL_law 891 = .ok (.ireturn, 1) := by decide +kernel
theorem dL_law_892 : decode cL_law 892 = .ok (.aload_n 1, 1) := by decide +kernel
theorem dL_law_893 : decode cL_law 893 = .ok (.aload_n 0, 1) := by decide +kernel
theorem dL_law_894 : decode cL_law 894 = .ok (.iload_n 3, 1) := by decide +kernel
theorem dL_law_895 : decode cL_law 895 = .ok (.iconst 1, 1) := by decide +kernel
theorem dL_law_896 : decode cL_law 896 = .ok (.iadd, 1) := by decide +kernel
theorem dL_law_897 : decode cL_law 897 = .ok (.iaload, 1) := by decide +kernel
theorem dL_law_898 : decode cL_law 898 = .ok (.aload_n 0, 1) := by decide +kernel
theorem dL_law_899 : decode cL_law 899 = .ok (.iload_n 3, 1) := by decide +kernel
theorem dL_law_900 : decode cL_law 900 = .ok (.iconst 2, 1) := by decide +kernel
theorem dL_law_901 : decode cL_law 901 = .ok (.iadd, 1) := by decide +kernel
theorem dL_law_902 : decode cL_law 902 = .ok (.iaload, 1) := by decide +kernel
theorem dL_law_903 : decode cL_law 903 = .ok (.invokevirtual 105, 3) := by decide +kernel
theorem dL_law_906 : decode cL_law 906 = .ok (.aload_n 2, 1) := by decide +kernel
theorem dL_law_907 : decode cL_law 907 = .ok (.aload_n 0, 1) := by decide +kernel
theorem dL_law_908 : decode cL_law 908 = .ok (.iload_n 3, 1) := by decide +kernel
theorem dL_law_909 : decode cL_law 909 = .ok (.iconst 1, 1) := by decide +kernel
theorem dL_law_910 : decode cL_law 910 = .ok (.iadd, 1) := by decide +kernel
theorem dL_law_911 : decode cL_law 911 = .ok (.iaload, 1) := by decide +kernel
theorem dL_law_912 : decode cL_law 912 = .ok (.aload_n 0, 1) := by decide +kernel
theorem dL_law_913 : decode cL_law 913 = .ok (.iload_n 3, 1) := by decide +kernel
theorem dL_law_914 : decode cL_law 914 = .ok (.iconst 2, 1) := by decide +kernel
theorem dL_law_915 : decode cL_law 915 = .ok (.iadd, 1) := by decide +kernel
theorem dL_law_916 : decode cL_law 916 = .ok (.iaload, 1) := by decide +kernel
theorem dL_law_917 : decode cL_law 917 = .ok (.invokevirtual 108, 3) := by decide +kernel
theorem dL_law_920 : decode cL_law 920 = .ok (.if_icmp .eq 366, 3) := by decide +kernel
theorem dL_law_923 : decode cL_law 923 = .ok (.iconst 0, 1) := by decide +kernel
theorem dL_law_924 : decode cL_law 924 = .ok (.ireturn, 1) := by decide +kernel
theorem dL_law_925 : decode cL_law 925 = .ok (.aload_n 1, 1) := by decide +kernel
theorem dL_law_926 : decode cL_law 926 = .ok (.invokevirtual 109, 3) := by decide +kernel
theorem dL_law_929 : decode cL_law 929 = .ok (.aload_n 2, 1) := by decide +kernel
theorem dL_law_930 : decode cL_law 930 = .ok (.invokevirtual 112, 3) := by decide +kernel
theorem dL_law_933 : decode cL_law 933 = .ok (.if_icmp .eq 353, 3) := by decide +kernel
theorem dL_law_936 : decode cL_law 936 = .ok (.iconst 0, 1) := by decide +kernel
theorem dL_law_937 : decode cL_law 937 = .ok (.ireturn, 1) := by decide +kernel
theorem dL_law_938 : decode cL_law 938 = .ok (.aload_n 1, 1) := by decide +kernel
theorem dL_law_939 : decode cL_law 939 = .ok (.invokevirtual 113, 3) := by decide +kernel
theorem dL_law_942 : decode cL_law 942 = .ok (.aload_n 2, 1) := by decide +kernel
theorem dL_law_943 : decode cL_law 943 = .ok (.invokevirtual 116, 3) := by decide +kernel
theorem dL_law_946 : decode cL_law 946 = .ok (.if_icmp .eq 340, 3) := by decide +kernel
theorem dL_law_949 : decode cL_law 949 = .ok (.iconst 0, 1) := by decide +kernel
theorem dL_law_950 : decode cL_law 950 = .ok (.ireturn, 1) := by decide +kernel
theorem dL_law_951 : decode cL_law 951 = .ok (.aload_n 1, 1) := by decide +kernel
theorem dL_law_952 : decode cL_law 952 = .ok (.aload_n 0, 1) := by decide +kernel
theorem dL_law_953 : decode cL_law 953 = .ok (.iload_n 3, 1) := by decide +kernel
theorem dL_law_954 : decode cL_law 954 = .ok (.iconst 1, 1) := by decide +kernel
theorem dL_law_955 : decode cL_law 955 = .ok (.iadd, 1) := by decide +kernel
theorem dL_law_956 : decode cL_law 956 = .ok (.iaload, 1) := by decide +kernel
theorem dL_law_957 : decode cL_law 957 = .ok (.aload_n 0, 1) := by decide +kernel
theorem dL_law_958 : decode cL_law 958 = .ok (.iload_n 3, 1) := by decide +kernel
theorem dL_law_959 : decode cL_law 959 = .ok (.iconst 2, 1) := by decide +kernel
theorem dL_law_960 : decode cL_law 960 = .ok (.iadd, 1) := by decide +kernel
theorem dL_law_961 : decode cL_law 961 = .ok (.iaload, 1) := by decide +kernel
theorem dL_law_962 : decode cL_law 962 = .ok (.aload_n 0, 1) := by decide +kernel
theorem dL_law_963 : decode cL_law 963 = .ok (.iload_n 3, 1) := by decide +kernel
theorem dL_law_964 : decode cL_law 964 = .ok (.iconst 3, 1) := by decide +kernel
theorem dL_law_965 : decode cL_law 965 = .ok (.iadd, 1) := by decide +kernel
theorem dL_law_966 : decode cL_law 966 = .ok (.iaload, 1) := by decide +kernel
theorem dL_law_967 : decode cL_law 967 = .ok (.invokevirtual 117, 3) := by decide +kernel
theorem dL_law_970 : decode cL_law 970 = .ok (.aload_n 2, 1) := by decide +kernel
theorem dL_law_971 : decode cL_law 971 = .ok (.aload_n 0, 1) := by decide +kernel
theorem dL_law_972 : decode cL_law 972 = .ok (.iload_n 3, 1) := by decide +kernel
theorem dL_law_973 : decode cL_law 973 = .ok (.iconst 1, 1) := by decide +kernel
theorem dL_law_974 : decode cL_law 974 = .ok (.iadd, 1) := by decide +kernel
theorem dL_law_975 : decode cL_law 975 = .ok (.iaload, 1) := by decide +kernel
theorem dL_law_976 : decode cL_law 976 = .ok (.aload_n 0, 1) := by decide +kernel
theorem dL_law_977 : decode cL_law 977 = .ok (.iload_n 3, 1) := by decide +kernel
theorem dL_law_978 : decode cL_law 978 = .ok (.iconst 2, 1) := by decide +kernel
theorem dL_law_979 : decode cL_law 979 = .ok (.iadd, 1) := by decide +kernel
theorem dL_law_980 : decode cL_law 980 = .ok (.iaload, 1) := by decide +kernel
theorem dL_law_981 : decode cL_law 981 = .ok (.aload_n 0, 1) := by decide +kernel
theorem dL_law_982 : decode cL_law 982 = .ok (.iload_n 3, 1) := by decide +kernel
theorem dL_law_983 : decode cL_law 983 = .ok (.iconst 3, 1) := by decide +kernel
theorem dL_law_984 : decode cL_law 984 = .ok (.iadd, 1) := by decide +kernel
theorem dL_law_985 : decode cL_law 985 = .ok (.iaload, 1) := by decide +kernel
theorem dL_law_986 : decode cL_law 986 = .ok (.invokevirtual 120, 3) := by decide +kernel
theorem dL_law_989 : decode cL_law 989 = .ok (.if_icmp .eq 297, 3) := by decide +kernel
theorem dL_law_992 : decode cL_law 992 = .ok (.iconst 0, 1) := by decide +kernel
theorem dL_law_993 : decode cL_law 993 = .ok (.ireturn, 1) := by decide +kernel
theorem dL_law_994 : decode cL_law 994 = .ok (.aload_n 1, 1) := by decide +kernel
theorem dL_law_995 : decode cL_law 995 = .ok (.aload_n 0, 1) := by decide +kernel
theorem dL_law_996 : decode cL_law 996 = .ok (.iload_n 3, 1) := by decide +kernel
theorem dL_law_997 : decode cL_law 997 = .ok (.iconst 1, 1) := by decide +kernel
theorem dL_law_998 : decode cL_law 998 = .ok (.iadd, 1) := by decide +kernel
theorem dL_law_999 : decode cL_law 999 = .ok (.iaload, 1) := by decide +kernel
theorem dL_law_1000 : decode cL_law 1000 = .ok (.invokevirtual 121, 3) := by decide +kernel
theorem dL_law_1003 : decode cL_law 1003 = .ok (.aload_n 2, 1) := by decide +kernel
theorem dL_law_1004 : decode cL_law 1004 = .ok (.aload_n 0, 1) := by decide +kernel
theorem dL_law_1005 : decode cL_law 1005 = .ok (.iload_n 3, 1) := by decide +kernel
theorem dL_law_1006 : decode cL_law 1006 = .ok (.iconst 1, 1) := by decide +kernel
theorem dL_law_1007 : decode cL_law 1007 = .ok (.iadd, 1) := by decide +kernel
theorem dL_law_1008 : decode cL_law 1008 = .ok (.iaload, 1) := by decide +kernel
theorem dL_law_1009 : decode cL_law 1009 = .ok (.invokevirtual 124, 3) := by decide +kernel
theorem dL_law_1012 : decode cL_law 1012 = .ok (.if_icmp .eq 274, 3) := by decide +kernel
theorem dL_law_1015 : decode cL_law 1015 = .ok (.iconst 0, 1) := by decide +kernel
theorem dL_law_1016 : decode cL_law 1016 = .ok (.ireturn, 1) := by decide +kernel
theorem dL_law_1017 : decode cL_law 1017 = .ok (.aload_n 1, 1) := by decide +kernel
theorem dL_law_1018 : decode cL_law 1018 = .ok (.aload_n 0, 1) := by decide +kernel
theorem dL_law_1019 : decode cL_law 1019 = .ok (.iload_n 3, 1) := by decide +kernel
theorem dL_law_1020 : decode cL_law 1020 = .ok (.iconst 1, 1) := by decide +kernel
theorem dL_law_1021 : decode cL_law 1021 = .ok (.iadd, 1) := by decide +kernel
theorem dL_law_1022 : decode cL_law 1022 = .ok (.iaload, 1) := by decide +kernel
theorem dL_law_1023 : decode cL_law 1023 = .ok (.aload_n 0, 1) := by decide +kernel
theorem dL_law_1024 : decode cL_law 1024 = .ok (.iload_n 3, 1) := by decide +kernel
theorem dL_law_1025 : decode cL_law 1025 = .ok (.iconst 2, 1) := by decide +kernel
theorem dL_law_1026 : decode cL_law 1026 = .ok (.iadd, 1) := by decide +kernel
theorem dL_law_1027 : decode cL_law 1027 = .ok (.iaload, 1) := by decide +kernel
theorem dL_law_1028 : decode cL_law 1028 = .ok (.invokevirtual 125, 3) := by decide +kernel
theorem dL_law_1031 : decode cL_law 1031 = .ok (.aload_n 2, 1) := by decide +kernel
theorem dL_law_1032 : decode cL_law 1032 = .ok (.aload_n 0, 1) := by decide +kernel
theorem dL_law_1033 : decode cL_law 1033 = .ok (.iload_n 3, 1) := by decide +kernel
theorem dL_law_1034 : decode cL_law 1034 = .ok (.iconst 1, 1) := by decide +kernel
theorem dL_law_1035 : decode cL_law 1035 = .ok (.iadd, 1) := by decide +kernel
theorem dL_law_1036 : decode cL_law 1036 = .ok (.iaload, 1) := by decide +kernel
theorem dL_law_1037 : decode cL_law 1037 = .ok (.aload_n 0, 1) := by decide +kernel
theorem dL_law_1038 : decode cL_law 1038 = .ok (.iload_n 3, 1) := by decide +kernel
theorem dL_law_1039 : decode cL_law 1039 = .ok (.iconst 2, 1) := by decide +kernel
theorem dL_law_1040 : decode cL_law 1040 = .ok (.iadd, 1) := by decide +kernel
theorem dL_law_1041 : decode cL_law 1041 = .ok (.iaload, 1) := by decide +kernel
theorem dL_law_1042 : decode cL_law 1042 = .ok (.invokevirtual 128, 3) := by decide +kernel
theorem dL_law_1045 : decode cL_law 1045 = .ok (.if_icmp .eq 241, 3) := by decide +kernel
theorem dL_law_1048 : decode cL_law 1048 = .ok (.iconst 0, 1) := by decide +kernel
theorem dL_law_1049 : decode cL_law 1049 = .ok (.ireturn, 1) := by decide +kernel
theorem dL_law_1050 : decode cL_law 1050 = .ok (.aload_n 1, 1) := by decide +kernel
theorem dL_law_1051 : decode cL_law 1051 = .ok (.aload_n 0, 1) := by decide +kernel
theorem dL_law_1052 : decode cL_law 1052 = .ok (.iload_n 3, 1) := by decide +kernel
theorem dL_law_1053 : decode cL_law 1053 = .ok (.iconst 1, 1) := by decide +kernel
theorem dL_law_1054 : decode cL_law 1054 = .ok (.iadd, 1) := by decide +kernel
theorem dL_law_1055 : decode cL_law 1055 = .ok (.iaload, 1) := by decide +kernel
theorem dL_law_1056 : decode cL_law 1056 = .ok (.invokevirtual 129, 3) := by decide +kernel
theorem dL_law_1059 : decode cL_law 1059 = .ok (.aload_n 2, 1) := by decide +kernel
theorem dL_law_1060 : decode cL_law 1060 = .ok (.aload_n 0, 1) := by decide +kernel
theorem dL_law_1061 : decode cL_law 1061 = .ok (.iload_n 3, 1) := by decide +kernel
theorem dL_law_1062 : decode cL_law 1062 = .ok (.iconst 1, 1) := by decide +kernel
theorem dL_law_1063 : decode cL_law 1063 = .ok (.iadd, 1) := by decide +kernel
theorem dL_law_1064 : decode cL_law 1064 = .ok (.iaload, 1) := by decide +kernel
theorem dL_law_1065 : decode cL_law 1065 = .ok (.invokevirtual 132, 3) := by decide +kernel
theorem dL_law_1068 : decode cL_law 1068 = .ok (.if_icmp .eq 218, 3) := by decide +kernel
theorem dL_law_1071 : decode cL_law 1071 = .ok (.iconst 0, 1) := by decide +kernel
theorem dL_law_1072 : decode cL_law 1072 = .ok (.ireturn, 1) := by decide +kernel
theorem dL_law_1073 : decode cL_law 1073 = .ok (.aload_n 1, 1) := by decide +kernel
theorem dL_law_1074 : decode cL_law 1074 = .ok (.aload_n 0, 1) := by decide +kernel
theorem dL_law_1075 : decode cL_law 1075 = .ok (.iload_n 3, 1) := by decide +kernel
theorem dL_law_1076 : decode cL_law 1076 = .ok (.iconst 1, 1) := by decide +kernel
theorem dL_law_1077 : decode cL_law 1077 = .ok (.iadd, 1) := by decide +kernel
theorem dL_law_1078 : decode cL_law 1078 = .ok (.iaload, 1) := by decide +kernel
theorem dL_law_1079 : decode cL_law 1079 = .ok (.aload_n 0, 1) := by decide +kernel
theorem dL_law_1080 : decode cL_law 1080 = .ok (.iload_n 3, 1) := by decide +kernel
theorem dL_law_1081 : decode cL_law 1081 = .ok (.iconst 2, 1) := by decide +kernel
theorem dL_law_1082 : decode cL_law 1082 = .ok (.iadd, 1) := by decide +kernel
theorem dL_law_1083 : decode cL_law 1083 = .ok (.iaload, 1) := by decide +kernel
theorem dL_law_1084 : decode cL_law 1084 = .ok (.aload_n 0, 1) := by decide +kernel
theorem dL_law_1085 : decode cL_law 1085 = .ok (.iload_n 3, 1) := by decide +kernel
theorem dL_law_1086 : decode cL_law 1086 = .ok (.iconst 3, 1) := by decide +kernel
theorem dL_law_1087 : decode cL_law 1087 = .ok (.iadd, 1) := by decide +kernel
theorem dL_law_1088 : decode cL_law 1088 = .ok (.iaload, 1) := by decide +kernel
theorem dL_law_1089 : decode cL_law 1089 = .ok (.invokevirtual 133, 3) := by decide +kernel
theorem dL_law_1092 : decode cL_law 1092 = .ok (.aload_n 2, 1) := by decide +kernel
theorem dL_law_1093 : decode cL_law 1093 = .ok (.aload_n 0, 1) := by decide +kernel
theorem dL_law_1094 : decode cL_law 1094 = .ok (.iload_n 3, 1) := by decide +kernel
theorem dL_law_1095 : decode cL_law 1095 = .ok (.iconst 1, 1) := by decide +kernel
theorem dL_law_1096 : decode cL_law 1096 = .ok (.iadd, 1) := by decide +kernel
theorem dL_law_1097 : decode cL_law 1097 = .ok (.iaload, 1) := by decide +kernel
theorem dL_law_1098 : decode cL_law 1098 = .ok (.aload_n 0, 1) := by decide +kernel
theorem dL_law_1099 : decode cL_law 1099 = .ok (.iload_n 3, 1) := by decide +kernel
theorem dL_law_1100 : decode cL_law 1100 = .ok (.iconst 2, 1) := by decide +kernel
theorem dL_law_1101 : decode cL_law 1101 = .ok (.iadd, 1) := by decide +kernel
theorem dL_law_1102 : decode cL_law 1102 = .ok (.iaload, 1) := by decide +kernel
theorem dL_law_1103 : decode cL_law 1103 = .ok (.aload_n 0, 1) := by decide +kernel
theorem dL_law_1104 : decode cL_law 1104 = .ok (.iload_n 3, 1) := by decide +kernel
theorem dL_law_1105 : decode cL_law 1105 = .ok (.iconst 3, 1) := by decide +kernel
theorem dL_law_1106 : decode cL_law 1106 = .ok (.iadd, 1) := by decide +kernel
theorem dL_law_1107 : decode cL_law 1107 = .ok (.iaload, 1) := by decide +kernel
theorem dL_law_1108 : decode cL_law 1108 = .ok (.invokevirtual 136, 3) := by decide +kernel
theorem dL_law_1111 : decode cL_law 1111 = .ok (.if_icmp .eq 175, 3) := by decide +kernel
theorem dL_law_1114 : decode cL_law 1114 = .ok (.iconst 0, 1) := by decide +kernel
theorem dL_law_1115 : decode cL_law 1115 = .ok (.ireturn, 1) := by decide +kernel
theorem dL_law_1116 : decode cL_law 1116 = .ok (.aload_n 1, 1) := by decide +kernel
theorem dL_law_1117 : decode cL_law 1117 = .ok (.aload_n 0, 1) := by decide +kernel
theorem dL_law_1118 : decode cL_law 1118 = .ok (.iload_n 3, 1) := by decide +kernel
theorem dL_law_1119 : decode cL_law 1119 = .ok (.iconst 1, 1) := by decide +kernel
theorem dL_law_1120 : decode cL_law 1120 = .ok (.iadd, 1) := by decide +kernel
theorem dL_law_1121 : decode cL_law 1121 = .ok (.iaload, 1) := by decide +kernel
theorem dL_law_1122 : decode cL_law 1122 = .ok (.aload_n 0, 1) := by decide +kernel
theorem dL_law_1123 : decode cL_law 1123 = .ok (.iload_n 3, 1) := by decide +kernel
theorem dL_law_1124 : decode cL_law 1124 = .ok (.iconst 2, 1) := by decide +kernel
theorem dL_law_1125 : decode cL_law 1125 = .ok (.iadd, 1) := by decide +kernel
theorem dL_law_1126 : decode cL_law 1126 = .ok (.iaload, 1) := by decide +kernel
theorem dL_law_1127 : decode cL_law 1127 = .ok (.aload_n 0, 1) := by decide +kernel
theorem dL_law_1128 : decode cL_law 1128 = .ok (.iload_n 3, 1) := by decide +kernel
theorem dL_law_1129 : decode cL_law 1129 = .ok (.iconst 3, 1) := by decide +kernel
theorem dL_law_1130 : decode cL_law 1130 = .ok (.iadd, 1) := by decide +kernel
theorem dL_law_1131 : decode cL_law 1131 = .ok (.iaload, 1) := by decide +kernel
theorem dL_law_1132 : decode cL_law 1132 = .ok (.i2l, 1) := by decide +kernel
theorem dL_law_1133 : decode cL_law 1133 = .ok (.bipush 32, 2) := by decide +kernel
theorem dL_law_1135 : decode cL_law 1135 = .ok (.lshl, 1) := by decide +kernel
theorem dL_law_1136 : decode cL_law 1136 = .ok (.aload_n 0, 1) := by decide +kernel
theorem dL_law_1137 : decode cL_law 1137 = .ok (.iload_n 3, 1) := by decide +kernel
theorem dL_law_1138 : decode cL_law 1138 = .ok (.iconst 4, 1) := by decide +kernel
theorem dL_law_1139 : decode cL_law 1139 = .ok (.iadd, 1) := by decide +kernel
theorem dL_law_1140 : decode cL_law 1140 = .ok (.iaload, 1) := by decide +kernel
theorem dL_law_1141 : decode cL_law 1141 = .ok (.i2l, 1) := by decide +kernel
theorem dL_law_1142 : decode cL_law 1142 = .ok (.ldc2_w 137, 3) := by decide +kernel
theorem dL_law_1145 : decode cL_law 1145 = .ok (.land, 1) := by decide +kernel
theorem dL_law_1146 : decode cL_law 1146 = .ok (.lor, 1) := by decide +kernel
theorem dL_law_1147 : decode cL_law 1147 = .ok (.invokevirtual 139, 3) := by decide +kernel
theorem dL_law_1150 : decode cL_law 1150 = .ok (.aload_n 2, 1) := by decide +kernel
theorem dL_law_1151 : decode cL_law 1151 = .ok (.aload_n 0, 1) := by decide +kernel
theorem dL_law_1152 : decode cL_law 1152 = .ok (.iload_n 3, 1) := by decide +kernel
theorem dL_law_1153 : decode cL_law 1153 = .ok (.iconst 1, 1) := by decide +kernel
theorem dL_law_1154 : decode cL_law 1154 = .ok (.iadd, 1) := by decide +kernel
theorem dL_law_1155 : decode cL_law 1155 = .ok (.iaload, 1) := by decide +kernel
theorem dL_law_1156 : decode cL_law 1156 = .ok (.aload_n 0, 1) := by decide +kernel
theorem dL_law_1157 : decode cL_law 1157 = .ok (.iload_n 3, 1) := by decide +kernel
theorem dL_law_1158 : decode cL_law 1158 = .ok (.iconst 2, 1) := by decide +kernel
theorem dL_law_1159 : decode cL_law 1159 = .ok (.iadd, 1) := by decide +kernel
theorem dL_law_1160 : decode cL_law 1160 = .ok (.iaload, 1) := by decide +kernel
theorem dL_law_1161 : decode cL_law 1161 = .ok (.aload_n 0, 1) := by decide +kernel
theorem dL_law_1162 : decode cL_law 1162 = .ok (.iload_n 3, 1) := by decide +kernel
theorem dL_law_1163 : decode cL_law 1163 = .ok (.iconst 3, 1) := by decide +kernel
theorem dL_law_1164 : decode cL_law 1164 = .ok (.iadd, 1) := by decide +kernel
theorem dL_law_1165 : decode cL_law 1165 = .ok (.iaload, 1) := by decide +kernel
theorem dL_law_1166 : decode cL_law 1166 = .ok (.i2l, 1) := by decide +kernel
theorem dL_law_1167 : decode cL_law 1167 = .ok (.bipush 32, 2) := by decide +kernel
theorem dL_law_1169 : decode cL_law 1169 = .ok (.lshl, 1) := by decide +kernel
theorem dL_law_1170 : decode cL_law 1170 = .ok (.aload_n 0, 1) := by decide +kernel
theorem dL_law_1171 : decode cL_law 1171 = .ok (.iload_n 3, 1) := by decide +kernel
theorem dL_law_1172 : decode cL_law 1172 = .ok (.iconst 4, 1) := by decide +kernel
theorem dL_law_1173 : decode cL_law 1173 = .ok (.iadd, 1) := by decide +kernel
theorem dL_law_1174 : decode cL_law 1174 = .ok (.iaload, 1) := by decide +kernel
theorem dL_law_1175 : decode cL_law 1175 = .ok (.i2l, 1) := by decide +kernel
theorem dL_law_1176 : decode cL_law 1176 = .ok (.ldc2_w 137, 3) := by decide +kernel
theorem dL_law_1179 : decode cL_law 1179 = .ok (.land, 1) := by decide +kernel
theorem dL_law_1180 : decode cL_law 1180 = .ok (.lor, 1) := by decide +kernel
theorem dL_law_1181 : decode cL_law 1181 = .ok (.invokevirtual 143, 3) := by decide +kernel
theorem dL_law_1184 : decode cL_law 1184 = .ok (.if_icmp .eq 102, 3) := by decide +kernel
theorem dL_law_1187 : decode cL_law 1187 = .ok (.iconst 0, 1) := by decide +kernel
theorem dL_law_1188 : decode cL_law 1188 = .ok (.ireturn, 1) := by decide +kernel
theorem dL_law_1189 : decode cL_law 1189 = .ok (.aload_n 1, 1) := by decide +kernel
theorem dL_law_1190 : decode cL_law 1190 = .ok (.aload_n 0, 1) := by decide +kernel
theorem dL_law_1191 : decode cL_law 1191 = .ok (.iload_n 3, 1) := by decide +kernel
theorem dL_law_1192 : decode cL_law 1192 = .ok (.iconst 1, 1) := by decide +kernel
theorem dL_law_1193 : decode cL_law 1193 = .ok (.iadd, 1) := by decide +kernel
theorem dL_law_1194 : decode cL_law 1194 = .ok (.iaload, 1) := by decide +kernel
theorem dL_law_1195 : decode cL_law 1195 = .ok (.aload_n 0, 1) := by decide +kernel
theorem dL_law_1196 : decode cL_law 1196 = .ok (.iload_n 3, 1) := by decide +kernel
theorem dL_law_1197 : decode cL_law 1197 = .ok (.iconst 2, 1) := by decide +kernel
theorem dL_law_1198 : decode cL_law 1198 = .ok (.iadd, 1) := by decide +kernel
theorem dL_law_1199 : decode cL_law 1199 = .ok (.iaload, 1) := by decide +kernel
theorem dL_law_1200 : decode cL_law 1200 = .ok (.invokevirtual 144, 3) := by decide +kernel
theorem dL_law_1203 : decode cL_law 1203 = .ok (.aload_n 2, 1) := by decide +kernel
theorem dL_law_1204 : decode cL_law 1204 = .ok (.aload_n 0, 1) := by decide +kernel
theorem dL_law_1205 : decode cL_law 1205 = .ok (.iload_n 3, 1) := by decide +kernel
theorem dL_law_1206 : decode cL_law 1206 = .ok (.iconst 1, 1) := by decide +kernel
theorem dL_law_1207 : decode cL_law 1207 = .ok (.iadd, 1) := by decide +kernel
theorem dL_law_1208 : decode cL_law 1208 = .ok (.iaload, 1) := by decide +kernel
theorem dL_law_1209 : decode cL_law 1209 = .ok (.aload_n 0, 1) := by decide +kernel
theorem dL_law_1210 : decode cL_law 1210 = .ok (.iload_n 3, 1) := by decide +kernel
theorem dL_law_1211 : decode cL_law 1211 = .ok (.iconst 2, 1) := by decide +kernel
theorem dL_law_1212 : decode cL_law 1212 = .ok (.iadd, 1) := by decide +kernel
theorem dL_law_1213 : decode cL_law 1213 = .ok (.iaload, 1) := by decide +kernel
theorem dL_law_1214 : decode cL_law 1214 = .ok (.invokevirtual 147, 3) := by decide +kernel
theorem dL_law_1217 : decode cL_law 1217 = .ok (.lcmp, 1) := by decide +kernel
theorem dL_law_1218 : decode cL_law 1218 = .ok (.ifCond .eq 68, 3) := by decide +kernel
theorem dL_law_1221 : decode cL_law 1221 = .ok (.iconst 0, 1) := by decide +kernel
theorem dL_law_1222 : decode cL_law 1222 = .ok (.ireturn, 1) := by decide +kernel
theorem dL_law_1223 : decode cL_law 1223 = .ok (.aload_n 1, 1) := by decide +kernel
theorem dL_law_1224 : decode cL_law 1224 = .ok (.aload_n 0, 1) := by decide +kernel
theorem dL_law_1225 : decode cL_law 1225 = .ok (.iload_n 3, 1) := by decide +kernel
theorem dL_law_1226 : decode cL_law 1226 = .ok (.iconst 1, 1) := by decide +kernel
theorem dL_law_1227 : decode cL_law 1227 = .ok (.iadd, 1) := by decide +kernel
theorem dL_law_1228 : decode cL_law 1228 = .ok (.iaload, 1) := by decide +kernel
theorem dL_law_1229 : decode cL_law 1229 = .ok (.aload_n 0, 1) := by decide +kernel
theorem dL_law_1230 : decode cL_law 1230 = .ok (.iload_n 3, 1) := by decide +kernel
theorem dL_law_1231 : decode cL_law 1231 = .ok (.iconst 2, 1) := by decide +kernel
theorem dL_law_1232 : decode cL_law 1232 = .ok (.iadd, 1) := by decide +kernel
theorem dL_law_1233 : decode cL_law 1233 = .ok (.iaload, 1) := by decide +kernel
theorem dL_law_1234 : decode cL_law 1234 = .ok (.aload_n 0, 1) := by decide +kernel
theorem dL_law_1235 : decode cL_law 1235 = .ok (.iload_n 3, 1) := by decide +kernel
theorem dL_law_1236 : decode cL_law 1236 = .ok (.iconst 3, 1) := by decide +kernel
theorem dL_law_1237 : decode cL_law 1237 = .ok (.iadd, 1) := by decide +kernel
theorem dL_law_1238 : decode cL_law 1238 = .ok (.iaload, 1) := by decide +kernel
theorem dL_law_1239 : decode cL_law 1239 = .ok (.aload_n 0, 1) := by decide +kernel
theorem dL_law_1240 : decode cL_law 1240 = .ok (.iload_n 3, 1) := by decide +kernel
theorem dL_law_1241 : decode cL_law 1241 = .ok (.iconst 4, 1) := by decide +kernel
theorem dL_law_1242 : decode cL_law 1242 = .ok (.iadd, 1) := by decide +kernel
theorem dL_law_1243 : decode cL_law 1243 = .ok (.iaload, 1) := by decide +kernel
theorem dL_law_1244 : decode cL_law 1244 = .ok (.aload_n 0, 1) := by decide +kernel
theorem dL_law_1245 : decode cL_law 1245 = .ok (.iload_n 3, 1) := by decide +kernel
theorem dL_law_1246 : decode cL_law 1246 = .ok (.iconst 5, 1) := by decide +kernel
theorem dL_law_1247 : decode cL_law 1247 = .ok (.iadd, 1) := by decide +kernel
theorem dL_law_1248 : decode cL_law 1248 = .ok (.iaload, 1) := by decide +kernel
theorem dL_law_1249 : decode cL_law 1249 = .ok (.invokevirtual 148, 3) := by decide +kernel
theorem dL_law_1252 : decode cL_law 1252 = .ok (.aload_n 2, 1) := by decide +kernel
theorem dL_law_1253 : decode cL_law 1253 = .ok (.aload_n 0, 1) := by decide +kernel
theorem dL_law_1254 : decode cL_law 1254 = .ok (.iload_n 3, 1) := by decide +kernel
theorem dL_law_1255 : decode cL_law 1255 = .ok (.iconst 1, 1) := by decide +kernel
theorem dL_law_1256 : decode cL_law 1256 = .ok (.iadd, 1) := by decide +kernel
theorem dL_law_1257 : decode cL_law 1257 = .ok (.iaload, 1) := by decide +kernel
theorem dL_law_1258 : decode cL_law 1258 = .ok (.aload_n 0, 1) := by decide +kernel
theorem dL_law_1259 : decode cL_law 1259 = .ok (.iload_n 3, 1) := by decide +kernel
theorem dL_law_1260 : decode cL_law 1260 = .ok (.iconst 2, 1) := by decide +kernel
theorem dL_law_1261 : decode cL_law 1261 = .ok (.iadd, 1) := by decide +kernel
theorem dL_law_1262 : decode cL_law 1262 = .ok (.iaload, 1) := by decide +kernel
theorem dL_law_1263 : decode cL_law 1263 = .ok (.aload_n 0, 1) := by decide +kernel
theorem dL_law_1264 : decode cL_law 1264 = .ok (.iload_n 3, 1) := by decide +kernel
theorem dL_law_1265 : decode cL_law 1265 = .ok (.iconst 3, 1) := by decide +kernel
theorem dL_law_1266 : decode cL_law 1266 = .ok (.iadd, 1) := by decide +kernel
theorem dL_law_1267 : decode cL_law 1267 = .ok (.iaload, 1) := by decide +kernel
theorem dL_law_1268 : decode cL_law 1268 = .ok (.aload_n 0, 1) := by decide +kernel
theorem dL_law_1269 : decode cL_law 1269 = .ok (.iload_n 3, 1) := by decide +kernel
theorem dL_law_1270 : decode cL_law 1270 = .ok (.iconst 4, 1) := by decide +kernel
theorem dL_law_1271 : decode cL_law 1271 = .ok (.iadd, 1) := by decide +kernel
theorem dL_law_1272 : decode cL_law 1272 = .ok (.iaload, 1) := by decide +kernel
theorem dL_law_1273 : decode cL_law 1273 = .ok (.aload_n 0, 1) := by decide +kernel
theorem dL_law_1274 : decode cL_law 1274 = .ok (.iload_n 3, 1) := by decide +kernel
theorem dL_law_1275 : decode cL_law 1275 = .ok (.iconst 5, 1) := by decide +kernel
theorem dL_law_1276 : decode cL_law 1276 = .ok (.iadd, 1) := by decide +kernel
theorem dL_law_1277 : decode cL_law 1277 = .ok (.iaload, 1) := by decide +kernel
theorem dL_law_1278 : decode cL_law 1278 = .ok (.invokevirtual 152, 3) := by decide +kernel
theorem dL_law_1281 : decode cL_law 1281 = .ok (.if_icmp .eq 5, 3) := by decide +kernel
theorem dL_law_1284 : decode cL_law 1284 = .ok (.iconst 0, 1) := by decide +kernel
theorem dL_law_1285 : decode cL_law 1285 = .ok (.ireturn, 1) := by decide +kernel
theorem dL_law_1286 : decode cL_law 1286 = .ok (.iinc 3 6, 3) := by decide +kernel
theorem dL_law_1289 : decode cL_law 1289 = .ok (.goto (-1271), 3) := by decide +kernel
theorem dL_law_1292 : decode cL_law 1292 = .ok (.iconst 1, 1) := by decide +kernel
theorem dL_law_1293 : decode cL_law 1293 = .ok (.ireturn, 1) := by decide +kernel
end
section
/-! ===== the small machine: values as the machine has them; cells are numbered: 0 the script, then the String constants, their bytes, then what the law makes, in its order ===== -/
abbrev MM : Type := (Nat → Nat → Int32) × (Nat → Nat → Int64) × (Nat → Nat → Option Nat) × Nat
def mI (M : MM) (a k : Nat) : Int32 := M.1 a k
def mL (M : MM) (a k : Nat) : Int64 := M.2.1 a k
def mR (M : MM) (a k : Nat) : Option Nat := M.2.2.1 a k
def mN (M : MM) : Nat := M.2.2.2
def up2 {α : Type} (f : Nat → Nat → α) (a k : Nat) (v : α) : Nat → Nat → α := fun b j => if b = a ∧ j = k then v else f b j
def row0 {α : Type} (f : Nat → Nat → α) (a : Nat) (v : α) : Nat → Nat → α := fun b j => if b = a then v else f b j
def cp2 {α : Type} (f : Nat → Nat → α) (a i b j n : Nat) : Nat → Nat → α := fun c x => if c = b ∧ j ≤ x ∧ x < j + n then f a (i + (x - j)) else f c x
def sI (M : MM) (a k : Nat) (v : Int32) : MM := (up2 M.1 a k v, M.2.1, M.2.2.1, M.2.2.2)
def sL (M : MM) (a k : Nat) (v : Int64) : MM := (M.1, up2 M.2.1 a k v, M.2.2.1, M.2.2.2)
def sR (M : MM) (a k : Nat) (v : Option Nat) : MM := (M.1, M.2.1, up2 M.2.2.1 a k v, M.2.2.2)
def cI (M : MM) (a i b j n : Nat) : MM := (cp2 M.1 a i b j n, M.2.1, M.2.2.1, M.2.2.2)
def cL (M : MM) (a i b j n : Nat) : MM := (M.1, cp2 M.2.1 a i b j n, M.2.2.1, M.2.2.2)
def nw (M : MM) : MM := (row0 M.1 M.2.2.2 0, row0 M.2.1 M.2.2.2 0, row0 M.2.2.1 M.2.2.2 none, M.2.2.2 + 1)
def rf : Option Nat → Value
  | none => .null
  | some a => .ref a
def dm : Value := .retAddr 0
def lay0 : List (Nat × Nat) := [(99, 0), (13, 0), (13, 0), (13, 0), (13, 0), (13, 0), (13, 0), (13, 0), (13, 0), (13, 0), (13, 0), (31, 2), (31, 10), (31, 4), (31, 4), (31, 1)]
def lay1 : List (Nat × Nat) := [(31, 5), (31, 3), (31, 5), (31, 4), (31, 6), (10, 0), (7, 0), (22, 100), (21, 4), (9, 0), (0, 0), (20, 20), (25, 6), (3, 0), (21, 4), (21, 4)]
def lay2 : List (Nat × Nat) := [(21, 4), (5, 0), (24, 6), (8, 0), (20, 12), (8, 0), (20, 12), (9, 0), (9, 0), (9, 0), (9, 0), (9, 0), (9, 0), (5, 0), (24, 6), (8, 0)]
def lay3 : List (Nat × Nat) := [(20, 12), (8, 0), (20, 12), (9, 0), (9, 0), (9, 0), (9, 0), (9, 0), (9, 0), (2, 0), (1, 0), (21, 20), (21, 20), (2, 0), (1, 0), (21, 20)]
def lay4 : List (Nat × Nat) := [(21, 20), (2, 0), (4, 0), (21, 720), (21, 720), (2, 0), (6, 0), (21, 60), (6, 0), (21, 60), (6, 0), (21, 60), (6, 0), (21, 60), (6, 0), (21, 60)]
def lay5 : List (Nat × Nat) := [(6, 0), (21, 60), (11, 0), (20, 70), (20, 70), (20, 6), (20, 6), (20, 216), (20, 100), (20, 36), (20, 5184), (20, 5184), (21, 5184), (21, 5184), (21, 41), (20, 7)]
def lay6 : List (Nat × Nat) := [(20, 20), (20, 6), (20, 6), (23, 6), (21, 360)]
def layL : List (Nat × Nat) := lay0 ++ (lay1 ++ (lay2 ++ (lay3 ++ (lay4 ++ (lay5 ++ (lay6))))))
/-- cells 0 .. 100 stand from the law's start on; then three cells a LAND, six times at most -/
def TY (a : Nat) : Nat × Nat := if a < 101 then layL.getD a (99, 0) else if a < 119 then (if (a - 101) % 3 = 0 then (3, 0) else (21, 4)) else (99, 0)
abbrev MR : Type := MethodName × ByteArray × Nat × Option FieldType × Nat × Bool × Nat
abbrev kJ0_coder_7d493 : Nat := 0
abbrev kJ0_length_8abf5 : Nat := 1
abbrev kJ0_isLatin1_aae02 : Nat := 2
abbrev kJ0_checkIndex_df160 : Nat := 3
abbrev kJ0_charAt_5068e : Nat := 4
abbrev kJ1_charAt_3b067 : Nat := 5
abbrev kJ3_checkIndex_8e157 : Nat := 6
abbrev kJ6_bitCount_0f7a4 : Nat := 7
abbrev kJ6_compare_7cf53 : Nat := 8
abbrev kJ6_numberOfTrailingZeros_0f7a4 : Nat := 9
abbrev kJ7_fill_d0a16 : Nat := 10
abbrev kJ13_numberOfTrailingZeros_95d88 : Nat := 11
abbrev kX0_init : Nat := 12
abbrev kX0_begins : Nat := 13
abbrev kX0_steps : Nat := 14
abbrev kX0_turns : Nat := 15
abbrev kX0_tells : Nat := 16
abbrev kX1_init : Nat := 17
abbrev kX1_join : Nat := 18
abbrev kX1_alone_ : Nat := 19
abbrev kX1_alone : Nat := 20
abbrev kX1_around : Nat := 21
abbrev kX1_among : Nat := 22
abbrev kX1_spread : Nat := 23
abbrev kX1_advance : Nat := 24
abbrev kX1_keep : Nat := 25
abbrev kX1_cells : Nat := 26
abbrev kX1_facing : Nat := 27
abbrev kX1_beatsTo : Nat := 28
abbrev kX2_init : Nat := 29
abbrev kX2_become : Nat := 30
abbrev kX2_isOn : Nat := 31
abbrev kX2_rests : Nat := 32
abbrev kX2_isRound : Nat := 33
abbrev kX2_way : Nat := 34
abbrev kX2_ons : Nat := 35
abbrev kX2_leaves : Nat := 36
abbrev kX2_starts : Nat := 37
abbrev kX2_tick : Nat := 38
abbrev kX2_steps : Nat := 39
abbrev kX3_rhythm : Nat := 40
abbrev kX3_beat : Nat := 41
abbrev kX3_backward : Nat := 42
abbrev kX3_onward : Nat := 43
abbrev kX3_init : Nat := 44
abbrev kX3_marked : Nat := 45
abbrev kX4_init : Nat := 46
abbrev kX4_join : Nat := 47
abbrev kX4_alone : Nat := 48
abbrev kX4_part : Nat := 49
abbrev kX4_advance : Nat := 50
abbrev kX4_shares : Nat := 51
abbrev kX5_init : Nat := 52
abbrev kX5_who : Nat := 53
abbrev kX5_added : Nat := 54
abbrev kX5_become : Nat := 55
abbrev kX6_init : Nat := 56
abbrev kX6_become : Nat := 57
abbrev kX6_has : Nat := 58
abbrev kX6_reaches : Nat := 59
abbrev kX6_value : Nat := 60
abbrev kX6_cut : Nat := 61
abbrev kX6_write : Nat := 62
abbrev kX7_init : Nat := 63
abbrev kX7_add : Nat := 64
abbrev kX7_takes : Nat := 65
abbrev kX7_needs : Nat := 66
abbrev kX7_oneIf : Nat := 67
abbrev kX7_number : Nat := 68
abbrev kX7_oneOf : Nat := 69
abbrev kX7_measure : Nat := 70
abbrev kX7_tested : Nat := 71
abbrev kX7_both : Nat := 72
abbrev kX7_either : Nat := 73
abbrev kX7_single : Nat := 74
abbrev kX7_clause : Nat := 75
abbrev kX7_parsed : Nat := 76
abbrev kX8_init : Nat := 77
abbrev kX8_become : Nat := 78
abbrev kX8_at : Nat := 79
abbrev kX8_tell : Nat := 80
abbrev kX9_init : Nat := 81
abbrev kX9_become : Nat := 82
abbrev kX9_stands : Nat := 83
abbrev kX10_across : Nat := 84
abbrev kX10_facingBy : Nat := 85
abbrev kX10_cameBy : Nat := 86
abbrev kX10_moved : Nat := 87
abbrev kX10_holds : Nat := 88
abbrev kX10_next : Nat := 89
abbrev kX10_init : Nat := 90
abbrev kX10_feed : Nat := 91
abbrev kX10_land : Nat := 92
abbrev kX10_told : Nat := 93
abbrev kX10_isCell : Nat := 94
abbrev kX10_ground : Nat := 95
abbrev kX10_isKind : Nat := 96
abbrev kX10_isWay : Nat := 97
abbrev kX10_isNumber : Nat := 98
abbrev kX10_walker : Nat := 99
abbrev kX10_of : Nat := 100
abbrev kX10_put : Nat := 101
abbrev kX10_allowed : Nat := 102
abbrev kX10_may : Nat := 103
abbrev kX10_isStep : Nat := 104
abbrev kX10_goes : Nat := 105
abbrev kX10_step : Nat := 106
abbrev kX10_isPart : Nat := 107
abbrev kX10_firstStep : Nat := 108
abbrev kX10_soonest : Nat := 109
abbrev kX10_begin : Nat := 110
abbrev kX10_within : Nat := 111
abbrev kX10_reached : Nat := 112
abbrev kX10_never : Nat := 113
abbrev kX10_meet : Nat := 114
abbrev kX10_home : Nat := 115
abbrev kX10_row : Nat := 116
abbrev kX10_hand : Nat := 117
abbrev kX10_track : Nat := 118
abbrev kX10_left : Nat := 119
abbrev kX10_tracks : Nat := 120
abbrev kX10_common : Nat := 121
abbrev kX10_lot : Nat := 122
abbrev kX10_slower : Nat := 123
abbrev kX10_tapeAt : Nat := 124
abbrev kX10_judge : Nat := 125
abbrev kX10_image : Nat := 126
abbrev kX10_undo : Nat := 127
abbrev kX10_act : Nat := 128
abbrev kX10_trace : Nat := 129
abbrev kX10_above : Nat := 130
abbrev kX10_isUnder : Nat := 131
abbrev kX10_taken : Nat := 132
abbrev kX10_count : Nat := 133
abbrev kX10_tape : Nat := 134
abbrev kX10_item : Nat := 135
abbrev kX10_read : Nat := 136
abbrev kX10_shift : Nat := 137
abbrev kX11_init : Nat := 138
abbrev kX11_isIn : Nat := 139
abbrev kX11_isWalker : Nat := 140
abbrev kX11_isCell : Nat := 141
abbrev kX11_get : Nat := 142
abbrev kX11_puts : Nat := 143
abbrev kX11_feed : Nat := 144
abbrev kX11_here : Nat := 145
abbrev kX11_takes : Nat := 146
abbrev kX11_number : Nat := 147
abbrev kX11_amount : Nat := 148
abbrev kX11_valueOf : Nat := 149
abbrev kX11_test : Nat := 150
abbrev kX11_either : Nat := 151
abbrev kX11_factor : Nat := 152
abbrev kX11_term : Nat := 153
abbrev kX11_word : Nat := 154
abbrev kX11_marksBy : Nat := 155
abbrev kX11_clause : Nat := 156
abbrev kX11_held : Nat := 157
abbrev kX11_reads : Nat := 158
abbrev kX11_land : Nat := 159
abbrev kX11_onBeats : Nat := 160
abbrev kX11_beats : Nat := 161
abbrev kX11_told : Nat := 162
abbrev kX11_isMarked : Nat := 163
abbrev kX11_ground : Nat := 164
abbrev kX11_walker : Nat := 165
abbrev kX11_beatOf : Nat := 166
abbrev kX11_of : Nat := 167
abbrev kX11_put : Nat := 168
abbrev kX11_beside : Nat := 169
abbrev kX11_goesOn : Nat := 170
abbrev kX11_backTo : Nat := 171
abbrev kX11_goesBack : Nat := 172
abbrev kX11_mayOn : Nat := 173
abbrev kX11_mayBy : Nat := 174
abbrev kX11_mayNow : Nat := 175
abbrev kX11_may : Nat := 176
abbrev kX11_steps : Nat := 177
abbrev kX11_step : Nat := 178
abbrev kX11_stateOf : Nat := 179
abbrev kX11_comesTo : Nat := 180
abbrev kX11_begins : Nat := 181
abbrev kX11_beginsAs : Nat := 182
abbrev kX11_bits : Nat := 183
abbrev kX11_goesBeat : Nat := 184
abbrev kX11_cellsNow : Nat := 185
abbrev kX11_firstTo : Nat := 186
abbrev kX11_soonestTo : Nat := 187
abbrev kX11_soonest : Nat := 188
abbrev kX11_begin : Nat := 189
abbrev kX11_within : Nat := 190
abbrev kX11_reached : Nat := 191
abbrev kX11_never : Nat := 192
abbrev kX11_meet : Nat := 193
abbrev kX11_home : Nat := 194
abbrev kX11_row : Nat := 195
abbrev kX11_hand : Nat := 196
abbrev kX11_track : Nat := 197
abbrev kX11_mightHave : Nat := 198
abbrev kX11_tracks : Nat := 199
abbrev kX11_common : Nat := 200
abbrev kX11_lot : Nat := 201
abbrev kX11_soonestBy : Nat := 202
abbrev kX11_slower : Nat := 203
abbrev kX11_above : Nat := 204
abbrev kX11_runs : Nat := 205
abbrev kX11_hasBody : Nat := 206
abbrev kX11_acts : Nat := 207
abbrev kX11_bodyOf : Nat := 208
abbrev kX11_act : Nat := 209
abbrev kX11_trace : Nat := 210
abbrev kX11_taken : Nat := 211
abbrev kX11_judge : Nat := 212
abbrev kX11_image : Nat := 213
abbrev kX11_undo : Nat := 214
abbrev kX11_count : Nat := 215
abbrev kX11_tape : Nat := 216
abbrev kX11_item : Nat := 217
abbrev kX11_read : Nat := 218
abbrev kX11_shift : Nat := 219
abbrev kL_law : Nat := 220
def mt0 : List MR := [(yJ0_coder_7d493, cJ0_coder_7d493, 1, (some .byte), 13, false, 1),
  (yJ0_length_8abf5, cJ0_length_8abf5, 1, (some .int), 13, false, 1),
  (yJ0_isLatin1_aae02, cJ0_isLatin1_aae02, 1, (some .boolean), 13, false, 1),
  (yJ0_checkIndex_df160, cJ0_checkIndex_df160, 2, none, 13, true, 2),
  (yJ0_charAt_5068e, cJ0_charAt_5068e, 2, (some .char), 13, false, 2),
  (yJ1_charAt_3b067, cJ1_charAt_3b067, 2, (some .char), 14, true, 2),
  (yJ3_checkIndex_8e157, cJ3_checkIndex_8e157, 3, (some .int), 15, true, 3),
  (yJ6_bitCount_0f7a4, cJ6_bitCount_0f7a4, 1, (some .int), 16, true, 1),
  (yJ6_compare_7cf53, cJ6_compare_7cf53, 2, (some .int), 16, true, 2),
  (yJ6_numberOfTrailingZeros_0f7a4, cJ6_numberOfTrailingZeros_0f7a4, 2, (some .int), 16, true, 1),
  (yJ7_fill_d0a16, cJ7_fill_d0a16, 5, none, 19, true, 2),
  (yJ13_numberOfTrailingZeros_95d88, cJ13_numberOfTrailingZeros_95d88, 3, (some .int), 17, true, 1),
  (yX0_init, cX0_init, 1, none, 0, false, 1),
  (yX0_begins, cX0_begins, 2, none, 0, false, 2),
  (yX0_steps, cX0_steps, 3, (some .int), 0, false, 3),
  (yX0_turns, cX0_turns, 4, (some .int), 0, false, 3)]
def mt1 : List MR := [(yX0_tells, cX0_tells, 4, (some .int), 0, false, 3),
  (yX1_init, cX1_init, 2, none, 1, false, 2),
  (yX1_join, cX1_join, 6, none, 1, true, 4),
  (yX1_alone_, cX1_alone_, 6, none, 1, false, 6),
  (yX1_alone, cX1_alone, 3, none, 1, false, 3),
  (yX1_around, cX1_around, 7, none, 1, false, 6),
  (yX1_among, cX1_among, 4, (some .long), 1, false, 3),
  (yX1_spread, cX1_spread, 10, none, 1, false, 4),
  (yX1_advance, cX1_advance, 4, none, 1, false, 2),
  (yX1_keep, cX1_keep, 3, none, 1, false, 2),
  (yX1_cells, cX1_cells, 4, (some .long), 1, false, 1),
  (yX1_facing, cX1_facing, 5, (some .long), 1, false, 2),
  (yX1_beatsTo, cX1_beatsTo, 3, (some .int), 1, false, 2),
  (yX2_init, cX2_init, 2, none, 2, false, 2),
  (yX2_become, cX2_become, 6, none, 2, false, 6),
  (yX2_isOn, cX2_isOn, 1, (some .boolean), 2, false, 1)]
def mt2 : List MR := [(yX2_rests, cX2_rests, 1, (some .boolean), 2, false, 1),
  (yX2_isRound, cX2_isRound, 1, (some .boolean), 2, false, 1),
  (yX2_way, cX2_way, 4, (some .int), 2, false, 4),
  (yX2_ons, cX2_ons, 5, (some .long), 2, false, 3),
  (yX2_leaves, cX2_leaves, 3, (some .long), 2, false, 3),
  (yX2_starts, cX2_starts, 4, (some .long), 2, false, 4),
  (yX2_tick, cX2_tick, 1, none, 2, false, 1),
  (yX2_steps, cX2_steps, 6, (some .int), 2, false, 4),
  (yX3_rhythm, cX3_rhythm, 1, (some .int), 3, false, 1),
  (yX3_beat, cX3_beat, 3, (some .int), 3, false, 2),
  (yX3_backward, cX3_backward, 2, (some .long), 3, false, 2),
  (yX3_onward, cX3_onward, 3, (some .long), 3, false, 3),
  (yX3_init, cX3_init, 6, none, 3, false, 4),
  (yX3_marked, cX3_marked, 2, (some .long), 3, false, 2),
  (yX4_init, cX4_init, 2, none, 4, false, 2),
  (yX4_join, cX4_join, 7, none, 4, true, 5)]
def mt3 : List MR := [(yX4_alone, cX4_alone, 3, none, 4, false, 3),
  (yX4_part, cX4_part, 12, none, 4, false, 5),
  (yX4_advance, cX4_advance, 2, none, 4, false, 1),
  (yX4_shares, cX4_shares, 5, (some .long), 4, false, 2),
  (yX5_init, cX5_init, 3, none, 5, false, 2),
  (yX5_who, cX5_who, 2, (some (.object "TwoOnOneBack$Walker")), 5, false, 2),
  (yX5_added, cX5_added, 1, (some (.object "TwoOnOneBack$Walker")), 5, false, 1),
  (yX5_become, cX5_become, 3, none, 5, false, 2),
  (yX6_init, cX6_init, 1, none, 6, false, 1),
  (yX6_become, cX6_become, 3, none, 6, false, 3),
  (yX6_has, cX6_has, 3, (some .boolean), 6, false, 2),
  (yX6_reaches, cX6_reaches, 3, (some .boolean), 6, false, 3),
  (yX6_value, cX6_value, 2, (some .long), 6, false, 2),
  (yX6_cut, cX6_cut, 3, (some .long), 6, false, 2),
  (yX6_write, cX6_write, 4, none, 6, false, 3),
  (yX7_init, cX7_init, 1, none, 7, false, 1)]
def mt4 : List MR := [(yX7_add, cX7_add, 2, (some .boolean), 7, false, 2),
  (yX7_takes, cX7_takes, 2, (some .boolean), 7, false, 2),
  (yX7_needs, cX7_needs, 3, none, 7, false, 2),
  (yX7_oneIf, cX7_oneIf, 3, (some .int), 7, false, 2),
  (yX7_number, cX7_number, 3, (some .int), 7, false, 1),
  (yX7_oneOf, cX7_oneOf, 3, (some .int), 7, false, 2),
  (yX7_measure, cX7_measure, 4, (some .int), 7, true, 2),
  (yX7_tested, cX7_tested, 6, (some .long), 7, true, 3),
  (yX7_both, cX7_both, 5, (some .long), 7, false, 2),
  (yX7_either, cX7_either, 5, (some .long), 7, false, 2),
  (yX7_single, cX7_single, 4, (some .long), 7, false, 2),
  (yX7_clause, cX7_clause, 1, none, 7, false, 1),
  (yX7_parsed, cX7_parsed, 2, (some (.object "TwoOnOneBack$Land")), 7, false, 1),
  (yX8_init, cX8_init, 1, none, 8, false, 1),
  (yX8_become, cX8_become, 2, none, 8, false, 2),
  (yX8_at, cX8_at, 2, (some .int), 8, false, 2)]
def mt5 : List MR := [(yX8_tell, cX8_tell, 2, (some .int), 8, false, 2),
  (yX9_init, cX9_init, 1, none, 9, false, 1),
  (yX9_become, cX9_become, 2, none, 9, false, 2),
  (yX9_stands, cX9_stands, 4, none, 9, false, 4),
  (yX10_across, cX10_across, 1, (some .int), 10, true, 1),
  (yX10_facingBy, cX10_facingBy, 2, (some .int), 10, true, 2),
  (yX10_cameBy, cX10_cameBy, 3, (some .int), 10, true, 3),
  (yX10_moved, cX10_moved, 3, (some .long), 10, true, 2),
  (yX10_holds, cX10_holds, 3, (some .boolean), 10, true, 2),
  (yX10_next, cX10_next, 2, (some .int), 10, true, 2),
  (yX10_init, cX10_init, 3, none, 10, false, 1),
  (yX10_feed, cX10_feed, 2, (some .int), 10, false, 2),
  (yX10_land, cX10_land, 2, (some .int), 10, false, 1),
  (yX10_told, cX10_told, 2, (some .int), 10, false, 2),
  (yX10_isCell, cX10_isCell, 1, (some .boolean), 10, true, 1),
  (yX10_ground, cX10_ground, 3, (some .int), 10, false, 3)]
def mt6 : List MR := [(yX10_isKind, cX10_isKind, 1, (some .boolean), 10, true, 1),
  (yX10_isWay, cX10_isWay, 1, (some .boolean), 10, true, 1),
  (yX10_isNumber, cX10_isNumber, 1, (some .boolean), 10, true, 1),
  (yX10_walker, cX10_walker, 6, (some .int), 10, false, 5),
  (yX10_of, cX10_of, 4, (some .int), 10, false, 3),
  (yX10_put, cX10_put, 7, (some .int), 10, false, 5),
  (yX10_allowed, cX10_allowed, 2, (some .int), 10, false, 2),
  (yX10_may, cX10_may, 3, (some .int), 10, false, 2),
  (yX10_isStep, cX10_isStep, 1, (some .boolean), 10, true, 1),
  (yX10_goes, cX10_goes, 4, (some .boolean), 10, false, 3),
  (yX10_step, cX10_step, 4, (some .int), 10, false, 3),
  (yX10_isPart, cX10_isPart, 1, (some .boolean), 10, true, 1),
  (yX10_firstStep, cX10_firstStep, 6, (some .int), 10, false, 4),
  (yX10_soonest, cX10_soonest, 6, (some .int), 10, false, 4),
  (yX10_begin, cX10_begin, 9, (some .int), 10, false, 4),
  (yX10_within, cX10_within, 6, (some .long), 10, false, 3)]
def mt7 : List MR := [(yX10_reached, cX10_reached, 4, (some .long), 10, false, 3),
  (yX10_never, cX10_never, 3, (some .long), 10, false, 2),
  (yX10_meet, cX10_meet, 9, (some .int), 10, false, 4),
  (yX10_home, cX10_home, 5, (some .int), 10, false, 2),
  (yX10_row, cX10_row, 2, (some .int), 10, false, 2),
  (yX10_hand, cX10_hand, 5, (some .int), 10, false, 3),
  (yX10_track, cX10_track, 2, (some .int), 10, false, 2),
  (yX10_left, cX10_left, 5, (some .boolean), 10, false, 4),
  (yX10_tracks, cX10_tracks, 5, (some .int), 10, false, 3),
  (yX10_common, cX10_common, 11, (some .long), 10, true, 2),
  (yX10_lot, cX10_lot, 12, (some .long), 10, false, 5),
  (yX10_slower, cX10_slower, 8, (some .int), 10, false, 5),
  (yX10_tapeAt, cX10_tapeAt, 2, (some (.object "TwoOnOneBack$Tape")), 10, false, 2),
  (yX10_judge, cX10_judge, 6, (some .int), 10, false, 3),
  (yX10_image, cX10_image, 1, (some .int), 10, false, 1),
  (yX10_undo, cX10_undo, 1, (some .int), 10, false, 1)]
def mt8 : List MR := [(yX10_act, cX10_act, 5, (some .int), 10, false, 4),
  (yX10_trace, cX10_trace, 2, (some .int), 10, false, 2),
  (yX10_above, cX10_above, 1, (some .int), 10, true, 1),
  (yX10_isUnder, cX10_isUnder, 4, (some .boolean), 10, true, 2),
  (yX10_taken, cX10_taken, 4, (some .int), 10, false, 3),
  (yX10_count, cX10_count, 2, (some .int), 10, false, 2),
  (yX10_tape, cX10_tape, 5, (some .int), 10, false, 4),
  (yX10_item, cX10_item, 6, (some .int), 10, false, 4),
  (yX10_read, cX10_read, 4, (some .long), 10, false, 3),
  (yX10_shift, cX10_shift, 8, (some .int), 10, false, 6),
  (yX11_init, cX11_init, 1, none, 11, false, 1),
  (yX11_isIn, cX11_isIn, 2, (some .boolean), 11, true, 2),
  (yX11_isWalker, cX11_isWalker, 2, (some .boolean), 11, false, 2),
  (yX11_isCell, cX11_isCell, 1, (some .boolean), 11, true, 1),
  (yX11_get, cX11_get, 3, (some .int), 11, false, 3),
  (yX11_puts, cX11_puts, 4, none, 11, false, 4)]
def mt9 : List MR := [(yX11_feed, cX11_feed, 2, (some .int), 11, false, 2),
  (yX11_here, cX11_here, 1, (some .int), 11, false, 1),
  (yX11_takes, cX11_takes, 2, none, 11, false, 2),
  (yX11_number, cX11_number, 3, (some .int), 11, false, 1),
  (yX11_amount, cX11_amount, 1, (some .int), 11, true, 1),
  (yX11_valueOf, cX11_valueOf, 4, (some .int), 11, true, 2),
  (yX11_test, cX11_test, 8, (some .long), 11, false, 1),
  (yX11_either, cX11_either, 3, (some .long), 11, false, 1),
  (yX11_factor, cX11_factor, 4, (some .long), 11, false, 1),
  (yX11_term, cX11_term, 3, (some .long), 11, false, 1),
  (yX11_word, cX11_word, 6, none, 11, false, 6),
  (yX11_marksBy, cX11_marksBy, 5, none, 11, false, 2),
  (yX11_clause, cX11_clause, 1, none, 11, false, 1),
  (yX11_held, cX11_held, 1, (some .int), 11, true, 1),
  (yX11_reads, cX11_reads, 2, none, 11, false, 1),
  (yX11_land, cX11_land, 2, (some .int), 11, false, 1)]
def mt10 : List MR := [(yX11_onBeats, cX11_onBeats, 1, (some .int), 11, false, 1),
  (yX11_beats, cX11_beats, 1, (some .int), 11, false, 1),
  (yX11_told, cX11_told, 2, (some .int), 11, false, 2),
  (yX11_isMarked, cX11_isMarked, 3, (some .boolean), 11, false, 3),
  (yX11_ground, cX11_ground, 3, (some .int), 11, false, 3),
  (yX11_walker, cX11_walker, 6, (some .int), 11, false, 5),
  (yX11_beatOf, cX11_beatOf, 2, (some .int), 11, false, 2),
  (yX11_of, cX11_of, 3, (some .int), 11, false, 3),
  (yX11_put, cX11_put, 6, (some .int), 11, false, 5),
  (yX11_beside, cX11_beside, 2, (some .int), 11, true, 2),
  (yX11_goesOn, cX11_goesOn, 5, (some .boolean), 11, false, 4),
  (yX11_backTo, cX11_backTo, 5, (some .int), 11, false, 5),
  (yX11_goesBack, cX11_goesBack, 6, (some .boolean), 11, false, 5),
  (yX11_mayOn, cX11_mayOn, 11, (some .int), 11, false, 6),
  (yX11_mayBy, cX11_mayBy, 9, (some .int), 11, false, 8),
  (yX11_mayNow, cX11_mayNow, 2, (some .int), 11, false, 2)]
def mt11 : List MR := [(yX11_may, cX11_may, 2, (some .int), 11, false, 2),
  (yX11_steps, cX11_steps, 4, none, 11, false, 3),
  (yX11_step, cX11_step, 3, (some .int), 11, false, 3),
  (yX11_stateOf, cX11_stateOf, 3, (some .int), 11, true, 3),
  (yX11_comesTo, cX11_comesTo, 6, (some .int), 11, true, 4),
  (yX11_begins, cX11_begins, 9, none, 11, false, 8),
  (yX11_beginsAs, cX11_beginsAs, 3, none, 11, false, 3),
  (yX11_bits, cX11_bits, 3, (some .int), 11, true, 1),
  (yX11_goesBeat, cX11_goesBeat, 10, none, 11, false, 1),
  (yX11_cellsNow, cX11_cellsNow, 4, (some .long), 11, false, 1),
  (yX11_firstTo, cX11_firstTo, 4, (some .int), 11, false, 2),
  (yX11_soonestTo, cX11_soonestTo, 4, (some .int), 11, false, 2),
  (yX11_soonest, cX11_soonest, 5, (some .int), 11, false, 4),
  (yX11_begin, cX11_begin, 8, (some .int), 11, false, 4),
  (yX11_within, cX11_within, 6, (some .long), 11, false, 3),
  (yX11_reached, cX11_reached, 3, (some .long), 11, false, 3)]
def mt12 : List MR := [(yX11_never, cX11_never, 5, (some .long), 11, false, 2),
  (yX11_meet, cX11_meet, 8, (some .int), 11, false, 4),
  (yX11_home, cX11_home, 4, (some .int), 11, false, 2),
  (yX11_row, cX11_row, 2, (some .int), 11, false, 2),
  (yX11_hand, cX11_hand, 6, (some .int), 11, false, 3),
  (yX11_track, cX11_track, 2, (some .int), 11, false, 2),
  (yX11_mightHave, cX11_mightHave, 9, (some .boolean), 11, false, 5),
  (yX11_tracks, cX11_tracks, 7, (some .int), 11, false, 3),
  (yX11_common, cX11_common, 4, (some .long), 11, true, 2),
  (yX11_lot, cX11_lot, 11, (some .long), 11, false, 5),
  (yX11_soonestBy, cX11_soonestBy, 4, (some .int), 11, false, 4),
  (yX11_slower, cX11_slower, 7, (some .int), 11, false, 5),
  (yX11_above, cX11_above, 1, (some .int), 11, true, 1),
  (yX11_runs, cX11_runs, 2, none, 11, false, 2),
  (yX11_hasBody, cX11_hasBody, 2, (some .boolean), 11, true, 2),
  (yX11_acts, cX11_acts, 3, (some .int), 11, false, 3)]
def mt13 : List MR := [(yX11_bodyOf, cX11_bodyOf, 8, (some .int), 11, false, 4),
  (yX11_act, cX11_act, 4, (some .int), 11, false, 4),
  (yX11_trace, cX11_trace, 2, (some .int), 11, false, 2),
  (yX11_taken, cX11_taken, 5, (some .int), 11, false, 3),
  (yX11_judge, cX11_judge, 4, (some .int), 11, false, 3),
  (yX11_image, cX11_image, 2, (some .int), 11, false, 1),
  (yX11_undo, cX11_undo, 2, (some .int), 11, false, 1),
  (yX11_count, cX11_count, 2, (some .int), 11, false, 2),
  (yX11_tape, cX11_tape, 5, (some .int), 11, false, 4),
  (yX11_item, cX11_item, 5, (some .int), 11, false, 4),
  (yX11_read, cX11_read, 3, (some .long), 11, false, 3),
  (yX11_shift, cX11_shift, 8, (some .int), 11, false, 6),
  (yL_law, cL_law, 4, (some .boolean), 12, true, 1)]
def mtab : List MR := mt0 ++ (mt1 ++ (mt2 ++ (mt3 ++ (mt4 ++ (mt5 ++ (mt6 ++ (mt7 ++ (mt8 ++ (mt9 ++ (mt10 ++ (mt11 ++ (mt12 ++ (mt13)))))))))))))
def mrow (k : Nat) : MR := mtab.getD k (⟨"", "", ""⟩, ⟨#[]⟩, 0, none, 98, false, 0)
def nam (k : Nat) : MethodName := (mrow k).1
def cod (k : Nat) : ByteArray := (mrow k).2.1
def mlo (k : Nat) : Nat := (mrow k).2.2.1
def ret_ (k : Nat) : Option FieldType := (mrow k).2.2.2.1
def own_ (k : Nat) : Nat := (mrow k).2.2.2.2.1
def sta (k : Nat) : Bool := (mrow k).2.2.2.2.2.1
def nar (k : Nat) : Nat := (mrow k).2.2.2.2.2.2
def fld_0 : List ((Nat × Nat) × (Nat × Nat)) := [((7, 9), (7, 0)), ((7, 15), (7, 1)), ((7, 30), (7, 2)), ((7, 33), (7, 3)), ((7, 26), (7, 4)), ((7, 19), (7, 5)), ((10, 84), (7, 5)), ((7, 23), (7, 6)), ((10, 95), (7, 6)), ((1, 27), (9, 0)), ((4, 27), (9, 0)), ((9, 24), (9, 0)), ((10, 136), (9, 0)), ((1, 33), (9, 1)), ((4, 33), (9, 1)), ((9, 27), (9, 1)), ((10, 139), (9, 1)), ((9, 15), (9, 2)), ((4, 52), (9, 2)), ((1, 62), (9, 2)), ((10, 156), (9, 2)), ((9, 18), (9, 3)), ((4, 55), (9, 3)), ((1, 56), (9, 3))]
def fld_1 : List ((Nat × Nat) × (Nat × Nat)) := [((10, 159), (9, 3)), ((9, 21), (9, 4)), ((1, 36), (9, 4)), ((4, 36), (9, 4)), ((10, 162), (9, 4)), ((4, 39), (9, 5)), ((1, 43), (9, 5)), ((9, 30), (9, 5)), ((10, 142), (9, 5)), ((9, 9), (9, 6)), ((4, 58), (9, 6)), ((1, 59), (9, 6)), ((10, 168), (9, 6)), ((0, 9), (0, 0)), ((10, 331), (0, 0)), ((0, 39), (0, 1)), ((10, 315), (0, 1)), ((0, 33), (0, 2)), ((10, 318), (0, 2)), ((0, 23), (0, 3)), ((10, 319), (0, 3)), ((0, 27), (0, 4)), ((10, 320), (0, 4)), ((3, 18), (3, 0))]
def fld_2 : List ((Nat × Nat) × (Nat × Nat)) := [((10, 102), (3, 0)), ((2, 73), (3, 0)), ((3, 22), (3, 1)), ((10, 105), (3, 1)), ((3, 25), (3, 2)), ((10, 128), (3, 2)), ((3, 29), (3, 3)), ((3, 32), (3, 4)), ((3, 35), (3, 5)), ((3, 9), (3, 6)), ((3, 15), (3, 7)), ((3, 42), (3, 8)), ((3, 45), (3, 9)), ((8, 9), (8, 0)), ((8, 15), (8, 1)), ((10, 266), (8, 1)), ((5, 11), (5, 0)), ((5, 32), (5, 1)), ((10, 149), (5, 1)), ((5, 20), (5, 2)), ((10, 254), (5, 2)), ((5, 24), (5, 3)), ((10, 269), (5, 3)), ((5, 27), (5, 4))]
def fld_3 : List ((Nat × Nat) × (Nat × Nat)) := [((10, 98), (5, 4)), ((2, 9), (2, 0)), ((2, 15), (2, 1)), ((2, 19), (2, 2)), ((2, 28), (2, 3)), ((10, 206), (2, 3)), ((2, 30), (2, 4)), ((10, 207), (2, 4)), ((1, 9), (1, 0)), ((1, 15), (1, 1)), ((1, 23), (1, 2)), ((10, 251), (1, 2)), ((4, 11), (4, 0)), ((4, 15), (4, 1)), ((4, 23), (4, 2)), ((6, 9), (6, 0)), ((10, 349), (6, 0)), ((6, 15), (6, 1)), ((10, 298), (6, 1)), ((6, 19), (6, 2)), ((10, 14), (10, 0)), ((10, 48), (10, 1)), ((10, 52), (10, 2)), ((10, 58), (10, 3))]
def fld_4 : List ((Nat × Nat) × (Nat × Nat)) := [((10, 21), (10, 4)), ((10, 65), (10, 5)), ((10, 69), (10, 6)), ((10, 75), (10, 7)), ((10, 28), (10, 8)), ((10, 34), (10, 9)), ((10, 88), (10, 10)), ((10, 311), (10, 11)), ((11, 9), (11, 0)), ((11, 13), (11, 1)), ((11, 286), (11, 2)), ((11, 16), (11, 3)), ((11, 19), (11, 4)), ((11, 22), (11, 5)), ((11, 136), (11, 6)), ((11, 25), (11, 7)), ((11, 70), (11, 8)), ((11, 74), (11, 9)), ((11, 100), (11, 10)), ((11, 77), (11, 11)), ((11, 28), (11, 12)), ((11, 124), (11, 13)), ((11, 127), (11, 14)), ((11, 31), (11, 15))]
def fld_5 : List ((Nat × Nat) × (Nat × Nat)) := [((11, 34), (11, 16)), ((11, 37), (11, 17)), ((11, 41), (11, 18)), ((11, 205), (11, 19)), ((11, 208), (11, 20)), ((11, 210), (11, 21)), ((11, 213), (11, 22)), ((11, 216), (11, 23)), ((11, 235), (11, 24)), ((11, 44), (11, 25)), ((11, 47), (11, 26)), ((11, 50), (11, 27)), ((11, 265), (11, 28)), ((11, 274), (11, 29)), ((11, 53), (11, 30)), ((11, 56), (11, 31)), ((11, 59), (11, 32)), ((11, 63), (11, 33)), ((13, 9), (13, 0)), ((13, 15), (13, 1))]
def fldT : List ((Nat × Nat) × (Nat × Nat)) := fld_0 ++ (fld_1 ++ (fld_2 ++ (fld_3 ++ (fld_4 ++ (fld_5)))))
def fld (o i : Nat) : Option ((Nat × Nat)) := fldT.lookup (o, i)
def mth_0 : List ((Nat × Nat) × Nat) := [((12, 9), kX10_init), ((10, 5), 1000), ((10, 13), kX7_init), ((7, 3), 1000), ((10, 20), kX9_init), ((9, 3), 1000), ((10, 27), kX0_init), ((0, 3), 1000), ((10, 40), kX3_init), ((3, 3), 1000), ((3, 48), kX10_across), ((3, 52), kX10_moved), ((10, 45), kX5_init), ((5, 3), 1000), ((5, 19), kX8_init), ((8, 3), 1000), ((5, 31), kX9_init), ((10, 57), kX2_init), ((2, 3), 1000), ((10, 64), kX1_init), ((1, 3), 1000), ((1, 20), kX2_init), ((10, 74), kX4_init), ((4, 3), 1000)]
def mth_1 : List ((Nat × Nat) × Nat) := [((4, 20), kX2_init), ((10, 79), kX6_init), ((6, 3), 1000), ((12, 13), kX10_feed), ((10, 80), kX7_add), ((12, 18), kX10_land), ((10, 91), kX7_parsed), ((7, 36), kJ7_fill_d0a16), ((7, 42), kX7_clause), ((7, 45), kX7_takes), ((7, 56), kX7_needs), ((7, 128), kJ0_length_8abf5), ((13, 335), kJ0_coder_7d493), ((7, 132), kJ0_charAt_5068e), ((13, 492), kJ0_isLatin1_aae02), ((13, 495), kJ1_charAt_3b067), ((14, 9), kJ0_checkIndex_df160), ((13, 1059), kJ3_checkIndex_8e157), ((7, 60), kX7_number), ((7, 125), kX7_oneIf), ((7, 64), 1004), ((7, 70), 1003), ((7, 77), kX7_either), ((7, 87), kX7_both)]
def mth_2 : List ((Nat × Nat) × Nat) := [((7, 90), kX7_single), ((7, 101), kX7_oneOf), ((7, 107), kX7_tested), ((7, 111), kX7_measure), ((7, 119), 1002), ((7, 114), kJ6_compare_7cf53), ((7, 51), kX3_init), ((12, 23), kX10_told), ((12, 27), kX10_ground), ((10, 108), kX10_isCell), ((10, 111), kX3_marked), ((10, 115), kX10_holds), ((12, 32), kX10_walker), ((10, 119), kX10_isKind), ((10, 122), kX10_isWay), ((10, 125), kX10_isNumber), ((10, 132), kX5_added), ((5, 36), kX5_who), ((10, 145), kX9_stands), ((12, 37), kX10_of), ((10, 152), kX5_who), ((10, 165), kX3_beat), ((3, 56), kX3_rhythm), ((10, 171), kX10_next)]
def mth_3 : List ((Nat × Nat) × Nat) := [((12, 41), kX10_put), ((12, 45), kX10_may), ((10, 175), kX10_allowed), ((10, 186), kX2_become), ((2, 22), kX3_beat), ((10, 190), kX2_steps), ((2, 33), kX2_starts), ((2, 41), kX2_rests), ((2, 53), kX2_isOn), ((2, 47), kX2_leaves), ((2, 56), kX2_way), ((2, 67), kX2_isRound), ((2, 70), kX10_across), ((2, 60), kX3_backward), ((2, 64), kX2_ons), ((2, 76), kX3_onward), ((2, 37), kX10_holds), ((12, 49), kX10_step), ((10, 179), kX10_isStep), ((10, 182), kX10_goes), ((10, 194), kX2_way), ((10, 197), kX10_cameBy), ((10, 363), kX10_across), ((10, 200), kX10_facingBy)]
def mth_4 : List ((Nat × Nat) × Nat) := [((10, 203), kX2_tick), ((12, 53), kX10_soonest), ((10, 208), kX10_isPart), ((10, 211), kX1_alone), ((1, 39), kX1_alone_), ((1, 46), kX2_become), ((1, 50), kJ7_fill_d0a16), ((1, 65), kX1_join), ((10, 215), kX1_beatsTo), ((1, 99), kX1_cells), ((1, 103), kX10_holds), ((1, 107), kX1_advance), ((1, 69), kX1_spread), ((1, 76), kX1_among), ((1, 80), kX2_starts), ((1, 84), kX2_way), ((1, 88), kX10_facingBy), ((1, 92), kX10_cameBy), ((1, 95), kX10_moved), ((1, 73), kX2_tick), ((10, 218), kX10_firstStep), ((10, 222), kX1_advance), ((10, 226), kX1_cells), ((12, 58), kX10_begin)]
def mth_5 : List ((Nat × Nat) × Nat) := [((10, 230), kX3_rhythm), ((10, 234), kX1_alone_), ((12, 62), kX10_reached), ((10, 239), kX10_within), ((12, 67), kX10_never), ((12, 72), kX10_meet), ((10, 247), kJ13_numberOfTrailingZeros_95d88), ((17, 311), kJ6_numberOfTrailingZeros_0f7a4), ((12, 76), kX10_home), ((10, 252), kX1_facing), ((12, 80), kX10_row), ((10, 258), kX8_tell), ((12, 84), kX10_hand), ((10, 263), kX9_become), ((10, 267), kX8_at), ((12, 88), kX10_track), ((12, 92), kX10_tracks), ((10, 272), kX10_left), ((10, 276), kX1_around), ((10, 279), kX1_keep), ((12, 96), kX10_lot), ((10, 282), kX4_alone), ((4, 42), kX2_become), ((4, 46), kJ7_fill_d0a16)]
def mth_6 : List ((Nat × Nat) × Nat) := [((4, 61), kX4_join), ((10, 283), kX4_advance), ((4, 65), kX4_part), ((4, 72), kX2_steps), ((4, 76), kJ6_bitCount_0f7a4), ((4, 82), kX2_way), ((4, 85), kX10_next), ((4, 89), kX10_facingBy), ((4, 92), kX10_cameBy), ((4, 69), kX2_tick), ((10, 287), kX4_shares), ((10, 290), kX10_common), ((12, 101), kX10_slower), ((12, 105), kX10_judge), ((10, 294), kX10_tapeAt), ((10, 301), kX6_has), ((10, 305), kX6_value), ((12, 109), kX10_image), ((10, 308), kX5_become), ((5, 40), kX8_become), ((8, 19), 1001), ((5, 44), kX9_become), ((12, 113), kX10_undo), ((12, 117), kX10_act)]
def mth_7 : List ((Nat × Nat) × Nat) := [((10, 323), kX0_steps), ((0, 15), kX0_begins), ((0, 19), kX0_steps), ((10, 325), kX0_turns), ((0, 30), kX0_turns), ((10, 328), kX0_tells), ((0, 36), kX0_tells), ((12, 121), kX10_trace), ((12, 125), kX10_taken), ((10, 335), kX10_isUnder), ((10, 366), kX10_above), ((12, 129), kX10_count), ((12, 133), kX10_tape), ((10, 339), kX6_become), ((6, 22), kJ7_fill_d0a16), ((12, 139), kX10_item), ((10, 342), kX6_write), ((6, 28), kX6_cut), ((12, 144), kX10_read), ((12, 148), kX10_shift), ((10, 346), kX6_reaches), ((10, 353), 1001), ((12, 12), kX11_init), ((11, 3), 1000)]
def mth_8 : List ((Nat × Nat) × Nat) := [((12, 17), kX11_feed), ((12, 22), kX11_land), ((11, 139), kX11_reads), ((11, 133), kX11_clause), ((11, 81), kX11_here), ((11, 120), kX11_word), ((11, 113), kX11_takes), ((11, 89), kX11_number), ((11, 130), kX11_marksBy), ((11, 110), kX11_either), ((11, 117), kX11_term), ((11, 105), kX11_factor), ((11, 96), kX11_test), ((11, 92), kX11_valueOf), ((11, 85), kX11_amount), ((11, 142), kX11_held), ((12, 26), kX11_told), ((11, 145), kX11_onBeats), ((11, 148), kX11_beats), ((12, 31), kX11_ground), ((11, 151), kX11_isCell), ((11, 66), kX11_isIn), ((11, 155), kX11_isMarked), ((12, 36), kX11_walker)]
def mth_9 : List ((Nat × Nat) × Nat) := [((11, 158), kX11_puts), ((12, 40), kX11_of), ((11, 165), kX11_isWalker), ((11, 168), kX11_beatOf), ((11, 162), kX11_get), ((12, 44), kX11_put), ((12, 48), kX11_may), ((11, 194), kX11_mayNow), ((11, 190), kX11_mayBy), ((11, 182), kX11_mayOn), ((11, 178), kX11_goesOn), ((11, 171), kX11_beside), ((11, 186), kX11_goesBack), ((11, 174), kX11_backTo), ((12, 52), kX11_step), ((11, 197), kX11_steps), ((12, 57), kX11_soonest), ((11, 238), kX11_beginsAs), ((11, 219), kX11_begins), ((11, 201), kX11_stateOf), ((11, 241), kX11_soonestTo), ((11, 229), kX11_goesBeat), ((11, 223), kX11_comesTo), ((11, 226), kX11_bits)]
def mth_10 : List ((Nat × Nat) × Nat) := [((11, 232), kX11_firstTo), ((12, 61), kX11_begin), ((12, 66), kX11_reached), ((11, 247), kX11_within), ((11, 244), kX11_cellsNow), ((12, 71), kX11_never), ((12, 75), kX11_meet), ((12, 79), kX11_home), ((12, 83), kX11_row), ((12, 87), kX11_hand), ((12, 91), kX11_track), ((12, 95), kX11_tracks), ((11, 253), kX11_mightHave), ((12, 100), kX11_lot), ((11, 256), kX11_common), ((12, 104), kX11_slower), ((11, 262), kX11_soonestBy), ((12, 120), kX11_act), ((11, 283), kX11_acts), ((11, 280), kX11_bodyOf), ((11, 268), kX11_hasBody), ((11, 271), kX11_above), ((11, 277), kX11_runs), ((12, 124), kX11_trace)]
def mth_11 : List ((Nat × Nat) × Nat) := [((12, 128), kX11_taken), ((12, 108), kX11_judge), ((12, 112), kX11_image), ((12, 116), kX11_undo), ((12, 132), kX11_count), ((12, 136), kX11_tape), ((12, 143), kX11_item), ((12, 147), kX11_read), ((12, 152), kX11_shift)]
def mthT : List ((Nat × Nat) × Nat) := mth_0 ++ (mth_1 ++ (mth_2 ++ (mth_3 ++ (mth_4 ++ (mth_5 ++ (mth_6 ++ (mth_7 ++ (mth_8 ++ (mth_9 ++ (mth_10 ++ (mth_11)))))))))))
def mth (o i : Nat) : Option Nat := mthT.lookup (o, i)
def cls_0 : List ((Nat × Nat) × Nat) := [((12, 7), 10), ((10, 11), 7), ((10, 18), 9), ((10, 25), 0), ((10, 32), 6), ((10, 38), 3), ((10, 43), 5), ((5, 9), 9), ((5, 17), 8), ((10, 55), 2), ((10, 62), 1), ((1, 18), 2), ((10, 72), 4), ((4, 18), 2), ((7, 49), 3), ((12, 10), 11)]
def clsT : List ((Nat × Nat) × Nat) := cls_0
def cls (o i : Nat) : Option Nat := clsT.lookup (o, i)
def lng_0 : List ((Nat × Nat) × Int64) := [((3, 38), (68719476735)), ((3, 40), (-1)), ((10, 359), (-34905131041)), ((10, 243), (68719476735)), ((10, 361), (-1090785346)), ((7, 93), (68719476735)), ((7, 95), (-1)), ((2, 45), (68719476735)), ((2, 51), (-1)), ((10, 237), (-9223372036854775808)), ((10, 245), (-1)), ((10, 285), (12)), ((11, 103), (68719476735)), ((11, 108), (-1)), ((11, 251), (-9223372036854775808)), ((11, 260), (60)), ((12, 137), (4294967295))]
def lngT : List ((Nat × Nat) × Int64) := lng_0
def lng (o i : Nat) : Option Int64 := lngT.lookup (o, i)
def cst_0 : List ((Nat × Nat) × Int32) := [((16, 264), (65536)), ((16, 265), (1431655765)), ((16, 266), (858993459)), ((16, 267), (252645135))]
def cstT : List ((Nat × Nat) × Int32) := cst_0
def cst (o i : Nat) : Option Int32 := cstT.lookup (o, i)
def str__0 : List ((Nat × Nat) × Nat) := [((7, 54), 1), ((7, 123), 2), ((7, 73), 3), ((7, 75), 4), ((7, 97), 5), ((7, 99), 6), ((7, 105), 7), ((7, 81), 8), ((7, 83), 9), ((7, 85), 10)]
def str_T : List ((Nat × Nat) × Nat) := str__0
def str_ (o i : Nat) : Option Nat := str_T.lookup (o, i)
def stc_0 : List ((Nat × Nat) × Value) := [((13, 38), (.int 1)), ((13, 1053), (.retAddr 1))]
def stcT : List ((Nat × Nat) × Value) := stc_0
def stc (o i : Nat) : Option Value := stcT.lookup (o, i)
def FT (c j : Nat) : FieldType := match c with
  | 0 => tyX0 j
  | 1 => tyX1 j
  | 2 => tyX2 j
  | 3 => tyX3 j
  | 4 => tyX4 j
  | 5 => tyX5 j
  | 6 => tyX6 j
  | 7 => tyX7 j
  | 8 => tyX8 j
  | 9 => tyX9 j
  | 10 => tyX10 j
  | 11 => tyX11 j
  | 13 => if j = 0 then .array .byte else .byte
  | _ => .int
def FF (c j : Nat) : Bool := match c with
  | 0 => (TX0 j).2.2.2
  | 1 => (TX1 j).2.2.2
  | 2 => (TX2 j).2.2.2
  | 3 => (TX3 j).2.2.2
  | 4 => (TX4 j).2.2.2
  | 5 => (TX5 j).2.2.2
  | 6 => (TX6 j).2.2.2
  | 7 => (TX7 j).2.2.2
  | 8 => (TX8 j).2.2.2
  | 9 => (TX9 j).2.2.2
  | 10 => (TX10 j).2.2.2
  | 11 => (TX11 j).2.2.2
  | _ => true
def NF (c : Nat) : Nat := match c with
  | 0 => 5
  | 1 => 3
  | 2 => 5
  | 3 => 10
  | 4 => 3
  | 5 => 5
  | 6 => 3
  | 7 => 7
  | 8 => 2
  | 9 => 7
  | 10 => 12
  | 11 => 34
  | _ => 0
abbrev inb (i : Int32) (n : Nat) : Prop := ¬ (i < 0 ∨ n ≤ i.toNatClampNeg)
/-! ===== one instruction ===== -/
abbrev CF : Type := Nat × List Value × List Value × MM
abbrev RS : Type := Option (CF ⊕ ((Nat × List Value × Nat × List Value × List Value × MM) ⊕ (Option Value × MM)))
def nx (pc : Nat) (ls st : List Value) (M : MM) : RS := some (.inl (pc, ls, st, M))
def cl1 (ls : List Value) (i : Nat) : List Value := match i with
  | 0 => ls
  | j + 1 => match ls[j]? with
    | some v => if v.category = 2 then ls.set j dm else ls
    | none => ls
def st1 (ls : List Value) (i : Nat) (v : Value) : List Value := (cl1 ls i).set i v
def st2 (ls : List Value) (i : Nat) (v : Value) : List Value := ((cl1 ls i).set i v).set (i + 1) dm
def catS : List Value → Nat
  | [] => 0
  | v :: r => v.category + catS r
def ea : List Value → List Value
  | [] => []
  | v :: r => if v.category = 2 then v :: dm :: ea r else v :: ea r
def ent (k : Nat) (as : List Value) : List Value := ea as ++ List.replicate (mlo k - (ea as).length) dm
def jmp (pc : Nat) (off : Int) : Nat := ((pc : Int) + off).toNat
def icc (c : ClassFile.Cond) (x y : Int32) (a b : Nat) : Nat := match c with
  | .eq => if x = y then a else b
  | .ne => if x = y then b else a
  | .lt => if x < y then a else b
  | .ge => if x < y then b else a
  | .gt => if y < x then a else b
  | .le => if y < x then b else a
def swT (pc : Nat) (d : Int) : Int → List Int → Int32 → Nat
  | _, [], _ => jmp pc d
  | lo, o :: os, x => if x = Int32.ofInt lo then jmp pc o else swT pc d (lo + 1) os x
def lkT (pc : Nat) (d : Int) : List (Int × Int) → Int32 → Nat
  | [], _ => jmp pc d
  | (a, o) :: os, x => if x = Int32.ofInt a then jmp pc o else lkT pc d os x
def gv (ty : FieldType) (M : MM) (a j : Nat) : Value := match ty with
  | .long => .long (mL M a j)
  | .object _ => rf (mR M a j)
  | .array _ => rf (mR M a j)
  | _ => .int (mI M a j)
def pv (ty : FieldType) (M : MM) (a j : Nat) (v : Value) : Option MM := match ty, v with
  | .long, .long x => some (sL M a j x)
  | .int, .int x => some (sI M a j x)
  | .boolean, .int x => if x = 0 ∨ x = 1 then some (sI M a j x) else none
  | .object _, .ref q => some (sR M a j (some q))
  | .object _, .null => some (sR M a j none)
  | .array _, .ref q => some (sR M a j (some q))
  | .array _, .null => some (sR M a j none)
  | _, _ => none
def isB (t : Nat) : Bool := t == 22 || t == 23 || t == 31
def isArr (t : Nat) : Bool := (20 ≤ t && t ≤ 25) || t == 31
def slen (M : MM) : Nat := (mI M 1 0).toNatClampNeg
def nbv (t : Nat) (x : Int32) : Int32 := if t = 22 then x.toInt8.toInt32 else x &&& 1
def ldI (pc j : Nat) (ls st : List Value) (M : MM) : RS := match ls[j]? with
  | some (.int x) => nx pc ls (.int x :: st) M
  | _ => none
def ldL (pc j : Nat) (ls st : List Value) (M : MM) : RS := match ls[j]? with
  | some (.long x) => nx pc ls (.long x :: st) M
  | _ => none
def ldA (pc j : Nat) (ls st : List Value) (M : MM) : RS := match ls[j]? with
  | some (.ref a) => nx pc ls (.ref a :: st) M
  | some .null => nx pc ls (.null :: st) M
  | some (.retAddr 2) => nx pc ls (.retAddr 2 :: st) M
  | _ => none
def stI (pc j : Nat) (ls st : List Value) (M : MM) : RS := match st with
  | .int x :: r => if j < ls.length then nx pc (st1 ls j (.int x)) r M else none
  | _ => none
def stL (pc j : Nat) (ls st : List Value) (M : MM) : RS := match st with
  | .long x :: r => if j + 1 < ls.length then nx pc (st2 ls j (.long x)) r M else none
  | _ => none
def stA (pc j : Nat) (ls st : List Value) (M : MM) : RS := match st with
  | .ref a :: r => if j < ls.length then nx pc (st1 ls j (.ref a)) r M else none
  | .null :: r => if j < ls.length then nx pc (st1 ls j .null) r M else none
  | _ => none
def b2I (f : Int32 → Int32 → Int32) (pc : Nat) (ls st : List Value) (M : MM) : RS := match st with
  | .int y :: .int x :: r => nx (pc + 1) ls (.int (f x y) :: r) M
  | _ => none
def b2D (f : Int32 → Int32 → Int32) (pc : Nat) (ls st : List Value) (M : MM) : RS := match st with
  | .int y :: .int x :: r => if y = 0 then none else nx (pc + 1) ls (.int (f x y) :: r) M
  | _ => none
def b2L (f : Int64 → Int64 → Int64) (pc : Nat) (ls st : List Value) (M : MM) : RS := match st with
  | .long y :: .long x :: r => nx (pc + 1) ls (.long (f x y) :: r) M
  | _ => none
def b2E (f : Int64 → Int64 → Int64) (pc : Nat) (ls st : List Value) (M : MM) : RS := match st with
  | .long y :: .long x :: r => if y = 0 then none else nx (pc + 1) ls (.long (f x y) :: r) M
  | _ => none
def b2S (f : Int64 → Int32 → Int64) (pc : Nat) (ls st : List Value) (M : MM) : RS := match st with
  | .int y :: .long x :: r => nx (pc + 1) ls (.long (f x y) :: r) M
  | _ => none
def u1I (f : Int32 → Int32) (pc : Nat) (ls st : List Value) (M : MM) : RS := match st with
  | .int x :: r => nx (pc + 1) ls (.int (f x) :: r) M
  | _ => none
def iRem (x y : Int32) : Int32 := x - x / y * y
def lRem (x y : Int64) : Int64 := x - x / y * y
def iShl (x y : Int32) : Int32 := x <<< (y &&& 31)
def iShr (x y : Int32) : Int32 := x >>> (y &&& 31)
def iUshr (x y : Int32) : Int32 := (x.toUInt32 >>> (y.toUInt32 &&& Int32.toUInt32 31)).toInt32
def lShl (x : Int64) (y : Int32) : Int64 := x <<< (y.toInt64 &&& 63)
def lShr (x : Int64) (y : Int32) : Int64 := x >>> (y.toInt64 &&& 63)
def lUshr (x : Int64) (y : Int32) : Int64 := (x.toUInt64 >>> (y.toInt64.toUInt64 &&& Int64.toUInt64 63)).toInt64
def tagA (t : ArrayType) : Nat := match t with
  | .int => 20
  | .long => 21
  | .byte => 22
  | .boolean => 23
  | _ => 97
def tagO (c : Nat) : Nat := match c with
  | 9 => 24
  | 6 => 25
  | _ => 97
def cmpO (t : Nat) : Nat := match t with
  | 24 => 9
  | 25 => 6
  | _ => 96
def narOK (ty : Option FieldType) (x : Int32) : Prop := ∃ t, ty = some t ∧ narrow t (.int x) = .int x
def narB (ty : Option FieldType) (x : Int32) : Bool := match ty with
  | some .int => true
  | some .boolean => x &&& 1 == x
  | some .char => x.toUInt32.toUInt16.toUInt32.toInt32 == x
  | some .byte => x.toInt8.toInt32 == x
  | some .short => x.toInt16.toInt32 == x
  | _ => false
def isRT (ty : Option FieldType) : Bool := match ty with
  | some (.object _) => true
  | some (.array _) => true
  | _ => false
def rcvB (as : List Value) (c : Nat) : Bool := match as with
  | .ref a :: _ => (TY a).1 == c
  | _ => false
def argB : Value → Bool
  | .int _ => true
  | .long _ => true
  | .ref _ => true
  | .null => true
  | .retAddr n => n == 1
  | _ => false
def acpy (pc : Nat) (ls st : List Value) (M : MM) : RS := match st with
  | .int n :: .int dp :: .ref b :: .int sp :: .ref a :: r =>
    if (¬ sp < 0 ∧ ¬ dp < 0 ∧ ¬ n < 0) ∧ sp.toNatClampNeg + n.toNatClampNeg ≤ (TY a).2 ∧ dp.toNatClampNeg + n.toNatClampNeg ≤ (TY b).2 ∧ catS r ≤ 8 then
      (if (TY a).1 = 20 ∧ (TY b).1 = 20 then nx (pc + 3) ls r (cI M a sp.toNatClampNeg b dp.toNatClampNeg n.toNatClampNeg)
      else if (TY a).1 = 21 ∧ (TY b).1 = 21 then nx (pc + 3) ls r (cL M a sp.toNatClampNeg b dp.toNatClampNeg n.toNatClampNeg) else none)
    else none
  | _ => none
def ivk (kind k idx pc : Nat) (ls st : List Value) (M : MM) : RS := match mth (own_ k) idx with
  | none => none
  | some k' =>
    if k' = 1000 then (match st with
      | .ref _ :: r => if kind = 2 ∧ catS r ≤ 8 then nx (pc + 3) ls r M else none
      | _ => none)
    else if k' = 1001 then (if kind = 1 then acpy pc ls st M else none)
    else if k' = 1002 then (match st with
      | .int x :: r => if kind = 1 ∧ catS r ≤ 8 then nx (pc + 3) ls (.int (if 0 ≤ x then x else 0 - x) :: r) M else none
      | _ => none)
    else if k' = 1003 then (match st with
      | .int y :: .int x :: r => if kind = 1 ∧ catS r ≤ 8 then nx (pc + 3) ls (.int (if x < y then y else x) :: r) M else none
      | _ => none)
    else if k' = 1004 then (match st with
      | .int y :: .int x :: r => if kind = 1 ∧ catS r ≤ 8 then nx (pc + 3) ls (.int (if y < x then y else x) :: r) M else none
      | _ => none)
    else if (kind == 1) = sta k' ∧ ((kind == 2) = ((nam k').name == "<init>")) ∧ ((st.take (nar k')).reverse).length = nar k' ∧ (st.take (nar k')).all argB = true ∧ catS (st.drop (nar k')) ≤ 8 ∧ (ea (st.take (nar k')).reverse).length ≤ mlo k' then
      (if kind = 1 ∨ rcvB (st.take (nar k')).reverse (own_ k') = true then some (.inr (.inl (k', (st.take (nar k')).reverse, pc + 3, ls, st.drop (nar k'), M))) else none)
    else none
def opI (k : Nat) (i : Instr) (len pc : Nat) (ls st : List Value) (M : MM) : RS := match i with
  | .aload_n j => ldA (pc + 1) j.val ls st M
  | .aload j => ldA (pc + 2) j ls st M
  | .iload_n j => ldI (pc + 1) j.val ls st M
  | .iload j => ldI (pc + 2) j ls st M
  | .lload_n j => ldL (pc + 1) j.val ls st M
  | .lload j => ldL (pc + 2) j ls st M
  | .astore_n j => stA (pc + 1) j.val ls st M
  | .astore j => stA (pc + 2) j ls st M
  | .istore_n j => stI (pc + 1) j.val ls st M
  | .istore j => stI (pc + 2) j ls st M
  | .lstore_n j => stL (pc + 1) j.val ls st M
  | .lstore j => stL (pc + 2) j ls st M
  | .iinc j n => (match ls[j]? with
    | some (.int x) => nx (pc + 3) (st1 ls j (.int (x + Int32.ofInt n))) st M
    | _ => none)
  | .iconst n => nx (pc + 1) ls (.int (Int32.ofInt n) :: st) M
  | .lconst n => nx (pc + 1) ls (.long (Int64.ofNat n.val) :: st) M
  | .bipush n => nx (pc + 2) ls (.int (Int8.ofInt n).toInt32 :: st) M
  | .sipush n => nx (pc + 3) ls (.int (Int16.ofInt n).toInt32 :: st) M
  | .aconst_null => nx (pc + 1) ls (.null :: st) M
  | .ldc x => (match str_ (own_ k) x with
    | some a => nx (pc + 2) ls (.ref a :: st) M
    | none => none)
  | .ldc_w x => (match cst (own_ k) x with
    | some v => nx (pc + 3) ls (.int v :: st) M
    | none => none)
  | .ldc2_w x => (match lng (own_ k) x with
    | some v => nx (pc + 3) ls (.long v :: st) M
    | none => none)
  | .getstatic x => (match stc (own_ k) x with
    | some v => nx (pc + 3) ls (v :: st) M
    | none => none)
  | .getfield x => (match fld (own_ k) x with
    | some q => (match st with
      | .ref a :: r => if (TY a).1 = q.1 then nx (pc + 3) ls (gv (FT q.1 q.2) M a q.2 :: r) M else none
      | _ => none)
    | none => none)
  | .putfield x => (match fld (own_ k) x with
    | some q => (match st with
      | v :: .ref a :: r => if (TY a).1 = q.1 ∧ q.1 < 12 ∧ (FF q.1 q.2 = true → (nam k).name = "<init>" ∧ own_ k = q.1) then (match pv (FT q.1 q.2) M a q.2 v with
        | some M' => nx (pc + 3) ls r M'
        | none => none) else none
      | _ => none)
    | none => none)
  | .new x => (match cls (own_ k) x with
    | some c => if c < 12 ∧ TY (mN M) = (c, 0) then nx (pc + 3) ls (.ref (mN M) :: st) (nw M) else none
    | none => none)
  | .newarray t => (match st with
    | .int n :: r => if ¬ n < 0 ∧ TY (mN M) = (tagA t, n.toNatClampNeg) then nx (pc + 2) ls (.ref (mN M) :: r) (nw M) else none
    | _ => none)
  | .anewarray x => (match cls (own_ k) x with
    | some c => (match st with
      | .int n :: r => if ¬ n < 0 ∧ TY (mN M) = (tagO c, n.toNatClampNeg) then nx (pc + 3) ls (.ref (mN M) :: r) (nw M) else none
      | _ => none)
    | none => none)
  | .arraylength => (match st with
    | .ref a :: r => if isArr (TY a).1 = true then nx (pc + 1) ls (.int (Int32.ofNat (TY a).2) :: r) M else none
    | .retAddr 2 :: r => nx (pc + 1) ls (.int (mI M 1 0) :: r) M
    | _ => none)
  | .iaload => (match st with
    | .int i :: .ref a :: r => if (TY a).1 = 20 ∧ inb i (TY a).2 then nx (pc + 1) ls (.int (mI M a i.toNatClampNeg) :: r) M else none
    | .int i :: .retAddr 2 :: r => if inb i (slen M) then nx (pc + 1) ls (.int (mI M 0 i.toNatClampNeg) :: r) M else none
    | _ => none)
  | .baload => (match st with
    | .int i :: .ref a :: r => if isB (TY a).1 = true ∧ inb i (TY a).2 then nx (pc + 1) ls (.int (mI M a i.toNatClampNeg) :: r) M else none
    | _ => none)
  | .laload => (match st with
    | .int i :: .ref a :: r => if (TY a).1 = 21 ∧ inb i (TY a).2 then nx (pc + 1) ls (.long (mL M a i.toNatClampNeg) :: r) M else none
    | _ => none)
  | .aaload => (match st with
    | .int i :: .ref a :: r => if ((TY a).1 = 24 ∨ (TY a).1 = 25) ∧ inb i (TY a).2 then nx (pc + 1) ls (rf (mR M a i.toNatClampNeg) :: r) M else none
    | _ => none)
  | .iastore => (match st with
    | .int x :: .int i :: .ref a :: r => if (TY a).1 = 20 ∧ inb i (TY a).2 then nx (pc + 1) ls r (sI M a i.toNatClampNeg x) else none
    | _ => none)
  | .bastore => (match st with
    | .int x :: .int i :: .ref a :: r => if ((TY a).1 = 22 ∨ (TY a).1 = 23) ∧ inb i (TY a).2 then nx (pc + 1) ls r (sI M a i.toNatClampNeg (nbv (TY a).1 x)) else none
    | _ => none)
  | .lastore => (match st with
    | .long x :: .int i :: .ref a :: r => if (TY a).1 = 21 ∧ inb i (TY a).2 then nx (pc + 1) ls r (sL M a i.toNatClampNeg x) else none
    | _ => none)
  | .aastore => (match st with
    | .ref q :: .int i :: .ref a :: r => if ((TY a).1 = 24 ∨ (TY a).1 = 25) ∧ (TY q).1 = cmpO (TY a).1 ∧ inb i (TY a).2 then nx (pc + 1) ls r (sR M a i.toNatClampNeg (some q)) else none
    | _ => none)
  | .iadd => b2I (fun x y => x + y) pc ls st M
  | .isub => b2I (fun x y => x - y) pc ls st M
  | .imul => b2I (fun x y => x * y) pc ls st M
  | .iand => b2I (fun x y => x &&& y) pc ls st M
  | .ior => b2I (fun x y => x ||| y) pc ls st M
  | .ixor => b2I (fun x y => x ^^^ y) pc ls st M
  | .ishl => b2I iShl pc ls st M
  | .ishr => b2I iShr pc ls st M
  | .iushr => b2I iUshr pc ls st M
  | .idiv => b2D (fun x y => x / y) pc ls st M
  | .irem => b2D iRem pc ls st M
  | .ineg => u1I (fun x => -x) pc ls st M
  | .i2b => u1I (fun x => x.toInt8.toInt32) pc ls st M
  | .i2s => u1I (fun x => x.toInt16.toInt32) pc ls st M
  | .i2c => u1I (fun x => (x.toUInt32 % 65536).toInt32) pc ls st M
  | .i2l => (match st with
    | .int x :: r => nx (pc + 1) ls (.long x.toInt64 :: r) M
    | _ => none)
  | .l2i => (match st with
    | .long x :: r => nx (pc + 1) ls (.int x.toInt32 :: r) M
    | _ => none)
  | .ladd => b2L (fun x y => x + y) pc ls st M
  | .lsub => b2L (fun x y => x - y) pc ls st M
  | .lmul => b2L (fun x y => x * y) pc ls st M
  | .land => b2L (fun x y => x &&& y) pc ls st M
  | .lor => b2L (fun x y => x ||| y) pc ls st M
  | .lxor => b2L (fun x y => x ^^^ y) pc ls st M
  | .ldiv => b2E (fun x y => x / y) pc ls st M
  | .lrem => b2E lRem pc ls st M
  | .lshl => b2S lShl pc ls st M
  | .lshr => b2S lShr pc ls st M
  | .lushr => b2S lUshr pc ls st M
  | .lcmp => (match st with
    | .long y :: .long x :: r => nx (pc + 1) ls (.int (lg_cmp x y) :: r) M
    | _ => none)
  | .dup => (match st with
    | v :: r => if v.category = 1 then nx (pc + 1) ls (v :: v :: r) M else none
    | _ => none)
  | .dup2 => (match st with
    | v :: w :: r => if v.category = 1 ∧ w.category = 1 then nx (pc + 1) ls (v :: w :: v :: w :: r) M else none
    | _ => none)
  | .pop => (match st with
    | v :: r => if v.category = 1 then nx (pc + 1) ls r M else none
    | _ => none)
  | .goto off => if 0 ≤ (pc : Int) + off then nx (jmp pc off) ls st M else none
  | .ifCond c off => (match st with
    | .int x :: r => if 0 ≤ (pc : Int) + off then nx (icc c x 0 (jmp pc off) (pc + 3)) ls r M else none
    | _ => none)
  | .if_icmp c off => (match st with
    | .int y :: .int x :: r => if 0 ≤ (pc : Int) + off then nx (icc c x y (jmp pc off) (pc + 3)) ls r M else none
    | _ => none)
  | .ifnull off => (match st with
    | .null :: r => if 0 ≤ (pc : Int) + off then nx (jmp pc off) ls r M else none
    | .ref _ :: r => if 0 ≤ (pc : Int) + off then nx (pc + 3) ls r M else none
    | _ => none)
  | .ifnonnull off => (match st with
    | .null :: r => if 0 ≤ (pc : Int) + off then nx (pc + 3) ls r M else none
    | .ref _ :: r => if 0 ≤ (pc : Int) + off then nx (jmp pc off) ls r M else none
    | _ => none)
  | .tableswitch d lo hi offs => (match st with
    | .int x :: r => if (0 ≤ (pc : Int) + d ∧ offs.toList.all (fun o => decide (0 ≤ (pc : Int) + o)) = true) ∧ (-2147483648 ≤ lo ∧ hi < 2147483648 ∧ hi + 1 - lo = (offs.toList.length : Int)) then nx (swT pc d lo offs.toList x) ls r M else none
    | _ => none)
  | .lookupswitch d ps => (match st with
    | .int x :: r => if (0 ≤ (pc : Int) + d ∧ ps.toList.all (fun o => decide (0 ≤ (pc : Int) + o.2) && decide ((Int32.ofInt o.1).toInt = o.1)) = true) ∧ (ps.toList.zip (ps.toList.drop 1)).all (fun (a, next) => a.1 < next.1) = true then nx (lkT pc d ps.toList x) ls r M else none
    | _ => none)
  | .invokevirtual x => ivk 0 k x pc ls st M
  | .invokestatic x => ivk 1 k x pc ls st M
  | .invokespecial x => ivk 2 k x pc ls st M
  | .ireturn => (match st with
    | [.int x] => if narB (ret_ k) x = true then some (.inr (.inr (some (.int x), M))) else none
    | _ => none)
  | .lreturn => (match st with
    | [.long x] => if ret_ k = some .long then some (.inr (.inr (some (.long x), M))) else none
    | _ => none)
  | .areturn => (match st with
    | [.ref a] => if isRT (ret_ k) = true then some (.inr (.inr (some (.ref a), M))) else none
    | [.null] => if isRT (ret_ k) = true then some (.inr (.inr (some .null, M))) else none
    | _ => none)
  | .return_ => (match st with
    | [] => if ret_ k = none then some (.inr (.inr (none, M))) else none
    | _ => none)
  | _ => none
def lenB (i : Instr) (len : Nat) : Bool := match i with
  | .aload _ | .iload _ | .lload _ | .astore _ | .istore _ | .lstore _ | .bipush _ | .ldc _ | .newarray _ => len == 2
  | .iinc _ _ | .sipush _ | .ldc_w _ | .ldc2_w _ | .getstatic _ | .getfield _ | .putfield _ | .new _ | .anewarray _ | .goto _ | .ifCond _ _ | .if_icmp _ _ | .ifnull _ | .ifnonnull _ | .invokevirtual _ | .invokestatic _ | .invokespecial _ => len == 3
  | .tableswitch _ _ _ _ | .lookupswitch _ _ => true
  | _ => len == 1
def opS (k : Nat) (i : Instr) (len pc : Nat) (ls st : List Value) (M : MM) : RS := if lenB i len = true then opI k i len pc ls st M else none
def stp (k : Nat) (cf : CF) : RS := match decode (cod k) cf.1 with
  | .ok q => opS k q.1 q.2 cf.1 cf.2.1 cf.2.2.1 cf.2.2.2
  | .error _ => none
def run : Nat → Nat → Nat → CF → Option (Option Value × MM)
  | 0, _, _, _ => none
  | n + 1, d, k, cf => match stp k cf with
    | none => none
    | some (.inl c') => run n d k c'
    | some (.inr (.inl (k', as, pc', ls, r, M))) => (match d with
      | 0 => none
      | d' + 1 => (match run n d' k' (0, ent k' as, [], M) with
        | none => none
        | some (v, M') => run n (d' + 1) k (pc', ls, v.toList ++ r, M')))
    | some (.inr (.inr (v, M))) => some (v, M)
def WP (d k : Nat) (cf : CF) (Q : Option Value → MM → Prop) : Prop := ∃ (n : Nat) (r : Option Value) (M' : MM), run n d k cf = some (r, M') ∧ Q r M'
def CL (d k : Nat) (as : List Value) (M : MM) (Q : Option Value → MM → Prop) : Prop := WP d k (0, ent k as, [], M) Q
theorem run_succ : ∀ (n d k : Nat) (cf : CF) (x : Option Value × MM), run n d k cf = some x → run (n + 1) d k cf = some x := by
  intro n
  induction n with
  | zero => intro d k cf x h; cases h
  | succ n ih =>
    intro d k cf x h
    rw [run] at h ⊢
    cases hs : stp k cf with
    | none => rw [hs] at h; cases h
    | some q =>
      rw [hs] at h
      match q, h with
      | .inl c', h => exact ih _ _ _ _ h
      | .inr (.inr (v, M)), h => exact h
      | .inr (.inl (k', as, pc', ls, r, M)), h =>
        cases d with
        | zero => cases h
        | succ d' =>
          dsimp only at h ⊢
          cases hc : run n d' k' (0, ent k' as, [], M) with
          | none => rw [hc] at h; cases h
          | some y =>
            rw [hc] at h
            rw [ih _ _ _ _ hc]
            exact ih _ _ _ _ h
theorem run_le {n m d k : Nat} {cf : CF} {x : Option Value × MM} (hnm : n ≤ m) (h : run n d k cf = some x) : run m d k cf = some x := by
  induction hnm with
  | refl => exact h
  | step _ ih => exact run_succ _ _ _ _ _ ih
theorem wp_nx {d k : Nat} {cf c' : CF} {Q : Option Value → MM → Prop} (h : stp k cf = some (.inl c')) : WP d k cf Q = WP d k c' Q := by
  apply propext
  constructor
  · rintro ⟨n, r, M', hr, hq⟩
    cases n with
    | zero => cases hr
    | succ n => rw [run, h] at hr; exact ⟨n, r, M', hr, hq⟩
  · rintro ⟨n, r, M', hr, hq⟩
    exact ⟨n + 1, r, M', by rw [run, h]; exact hr, hq⟩
theorem wp_no {d k : Nat} {cf : CF} {Q : Option Value → MM → Prop} (h : stp k cf = none) : WP d k cf Q = False := by
  apply propext
  constructor
  · rintro ⟨n, r, M', hr, hq⟩
    cases n with
    | zero => cases hr
    | succ n => rw [run, h] at hr; cases hr
  · exact False.elim
theorem wp_ret {d k : Nat} {cf : CF} {v : Option Value} {M : MM} {Q : Option Value → MM → Prop} (h : stp k cf = some (.inr (.inr (v, M)))) : WP d k cf Q = Q v M := by
  apply propext
  constructor
  · rintro ⟨n, r, M', hr, hq⟩
    cases n with
    | zero => cases hr
    | succ n => rw [run, h] at hr; cases hr; exact hq
  · intro hq
    exact ⟨1, v, M, by rw [run, h], hq⟩
theorem wp_call {d k k' pc' : Nat} {cf : CF} {as ls r : List Value} {M : MM} {Q : Option Value → MM → Prop} (h : stp k cf = some (.inr (.inl (k', as, pc', ls, r, M)))) :
    WP (d + 1) k cf Q = CL d k' as M (fun v M' => WP (d + 1) k (pc', ls, v.toList ++ r, M') Q) := by
  apply propext
  constructor
  · rintro ⟨n, w, M', hr, hq⟩
    cases n with
    | zero => cases hr
    | succ n =>
      rw [run, h] at hr
      dsimp only at hr
      cases hc : run n d k' (0, ent k' as, [], M) with
      | none => rw [hc] at hr; cases hr
      | some y =>
        rw [hc] at hr
        exact ⟨n, y.1, y.2, hc, n, w, M', hr, hq⟩
  · rintro ⟨n1, v, M1, h1, n2, w, M', h2, hq⟩
    refine ⟨max n1 n2 + 1, w, M', ?_, hq⟩
    rw [run, h]
    dsimp only
    rw [run_le (Nat.le_max_left n1 n2) h1]
    exact run_le (Nat.le_max_right n1 n2) h2
theorem WP.mono {d k : Nat} {cf : CF} {Q Q' : Option Value → MM → Prop} (h : WP d k cf Q) (hq : ∀ r M, Q r M → Q' r M) : WP d k cf Q' := by
  obtain ⟨n, r, M', hr, h1⟩ := h
  exact ⟨n, r, M', hr, hq _ _ h1⟩
theorem CL.mono {d k : Nat} {as : List Value} {M : MM} {Q Q' : Option Value → MM → Prop} (h : CL d k as M Q) (hq : ∀ r M, Q r M → Q' r M) : CL d k as M Q' := WP.mono h hq
/-! ===== an instruction, as a law of WP: its decode row, what it does, what is behind it ===== -/
theorem stp_of {k pc len : Nat} {cc : ByteArray} {i : Instr} {ls st : List Value} {M : MM} {r : RS} (hc : cod k = cc) (hd : decode cc pc = .ok (i, len)) (ho : opS k i len pc ls st M = r) : stp k (pc, ls, st, M) = r := by
  unfold stp
  dsimp only
  rw [hc, hd]
  exact ho
theorem wn {d k pc len : Nat} {cc : ByteArray} {i : Instr} {ls st : List Value} {M : MM} {c' : CF} {Q : Option Value → MM → Prop} {P : Prop} (hc : cod k = cc) (hd : decode cc pc = .ok (i, len)) (ho : opS k i len pc ls st M = some (.inl c')) (h : WP d k c' Q = P) : WP d k (pc, ls, st, M) Q = P := (wp_nx (stp_of hc hd ho)).trans h
theorem wnc {d k pc len : Nat} {cc : ByteArray} {i : Instr} {ls st : List Value} {M : MM} {c' : CF} {Q : Option Value → MM → Prop} {P C : Prop} {inst : Decidable C} (hc : cod k = cc) (hd : decode cc pc = .ok (i, len)) (ho : opS k i len pc ls st M = @ite _ C inst (some (.inl c')) none) (h : C → WP d k c' Q = P) : WP d k (pc, ls, st, M) Q = (C ∧ P) := by
  by_cases hC : C
  · rw [if_pos hC] at ho
    rw [wp_nx (stp_of hc hd ho), h hC]
    exact propext ⟨fun p => ⟨hC, p⟩, fun p => p.2⟩
  · rw [if_neg hC] at ho
    rw [wp_no (stp_of hc hd ho)]
    exact propext ⟨fun p => p.elim, fun p => hC p.1⟩
theorem wit {d k a b : Nat} {ls st : List Value} {M : MM} {Q : Option Value → MM → Prop} {P1 P2 C : Prop} {inst : Decidable C} (h1 : WP d k (a, ls, st, M) Q = P1) (h2 : WP d k (b, ls, st, M) Q = P2) : WP d k (@ite _ C inst a b, ls, st, M) Q = @ite _ C inst P1 P2 := by
  by_cases hC : C
  · rw [if_pos hC, if_pos hC]; exact h1
  · rw [if_neg hC, if_neg hC]; exact h2
theorem wcl {d k pc len k' pc' : Nat} {cc : ByteArray} {i : Instr} {ls st as r : List Value} {M : MM} {Q : Option Value → MM → Prop} (hc : cod k = cc) (hd : decode cc pc = .ok (i, len)) (ho : opS k i len pc ls st M = some (.inr (.inl (k', as, pc', ls, r, M)))) : WP (d + 1) k (pc, ls, st, M) Q = CL d k' as M (fun v M' => WP (d + 1) k (pc', ls, v.toList ++ r, M') Q) := wp_call (stp_of hc hd ho)
theorem wclc {d k pc len k' pc' : Nat} {cc : ByteArray} {i : Instr} {ls st as r : List Value} {M : MM} {Q : Option Value → MM → Prop} {C : Prop} {inst : Decidable C} (hc : cod k = cc) (hd : decode cc pc = .ok (i, len)) (ho : opS k i len pc ls st M = @ite _ C inst (some (.inr (.inl (k', as, pc', ls, r, M)))) none) : WP (d + 1) k (pc, ls, st, M) Q = (C ∧ CL d k' as M (fun v M' => WP (d + 1) k (pc', ls, v.toList ++ r, M') Q)) := by
  by_cases hC : C
  · rw [if_pos hC] at ho
    rw [wp_call (stp_of hc hd ho)]
    exact propext ⟨fun p => ⟨hC, p⟩, fun p => p.2⟩
  · rw [if_neg hC] at ho
    rw [wp_no (stp_of hc hd ho)]
    exact propext ⟨fun p => p.elim, fun p => hC p.1⟩
theorem wrt {d k pc len : Nat} {cc : ByteArray} {i : Instr} {ls st : List Value} {M : MM} {v : Option Value} {Q : Option Value → MM → Prop} (hc : cod k = cc) (hd : decode cc pc = .ok (i, len)) (ho : opS k i len pc ls st M = some (.inr (.inr (v, M)))) : WP d k (pc, ls, st, M) Q = Q v M := wp_ret (stp_of hc hd ho)
theorem wrtc {d k pc len : Nat} {cc : ByteArray} {i : Instr} {ls st : List Value} {M : MM} {v : Option Value} {Q : Option Value → MM → Prop} {C : Prop} {inst : Decidable C} (hc : cod k = cc) (hd : decode cc pc = .ok (i, len)) (ho : opS k i len pc ls st M = @ite _ C inst (some (.inr (.inr (v, M)))) none) : WP d k (pc, ls, st, M) Q = (C ∧ Q v M) := by
  by_cases hC : C
  · rw [if_pos hC] at ho
    rw [wp_ret (stp_of hc hd ho)]
    exact propext ⟨fun p => ⟨hC, p⟩, fun p => p.2⟩
  · rw [if_neg hC] at ho
    rw [wp_no (stp_of hc hd ho)]
    exact propext ⟨fun p => p.elim, fun p => hC p.1⟩
/-- a reference that is used: it isn't null -/
theorem wrf {o : Option Nat} {F : Value → Prop} {P : Nat → Prop} (hn : F .null = False) (hs : ∀ q, F (.ref q) = P q) : F (rf o) = ∃ q, o = some q ∧ P q := by
  cases o with
  | none => rw [show rf none = Value.null from rfl, hn]; exact propext ⟨fun h => h.elim, fun ⟨q, h, _⟩ => by cases h⟩
  | some a => rw [show rf (some a) = Value.ref a from rfl, hs]; exact propext ⟨fun h => ⟨a, rfl, h⟩, fun ⟨q, h, p⟩ => by cases h; exact p⟩
theorem wro {o : Option Nat} {F : Value → Prop} {P1 : Prop} {P : Nat → Prop} (hn : F .null = P1) (hs : ∀ q, F (.ref q) = P q) : F (rf o) = o.elim P1 P := by
  cases o with
  | none => exact hn
  | some a => exact hs a
end
section
theorem lookMem {α : Type} {l : List ((Nat × Nat) × α)} {o i : Nat} {v : α} (h : l.lookup (o, i) = some v) : ((o, i), v) ∈ l := by
  induction l with
  | nil => cases h
  | cons q l ih =>
    obtain ⟨k, w⟩ := q
    rw [List.lookup_cons] at h
    by_cases hk : ((o, i) == k) = true
    · simp only [hk] at h
      cases h
      rw [← (beq_iff_eq.mp hk)]
      exact List.mem_cons_self
    · have hk' : ((o, i) == k) = false := by simpa using hk
      simp only [hk'] at h
      exact List.mem_cons_of_mem _ (ih h)
theorem lookZip {α β : Type} {A : List α} {B : List β} (hl : A.length = B.length) {a : α} (h : a ∈ A) : ∃ b, (a, b) ∈ A.zip B := by
  induction A generalizing B with
  | nil => cases h
  | cons x A ih =>
    cases B with
    | nil => simp at hl
    | cons y B =>
      rcases List.mem_cons.mp h with rfl | h
      · exact ⟨y, List.mem_cons_self⟩
      · obtain ⟨b, hb⟩ := ih (by simpa using hl) h
        exact ⟨b, List.mem_cons_of_mem _ hb⟩
theorem zipAll {ws : List Cond} {is : List Nat} (h : (ws.zip is).all (fun q => decide (lw_tbl[q.2]? = some q.1) && goodWord q.1) = true) (hl : ws.length = is.length) : ∀ w ∈ ws, w ∈ lw_tbl.filter goodWord := by
  intro w hw
  obtain ⟨b, hb⟩ := lookZip hl hw
  have h1 := List.all_eq_true.mp h _ hb
  simp only [Bool.and_eq_true, decide_eq_true_eq] at h1
  exact List.mem_filter.mpr ⟨List.mem_of_getElem? h1.1, h1.2⟩
/-! ===== the tables of the small machine and the words of the claim ===== -/
def oN (o : Nat) : String := match o with
  | 0 => RX0
  | 1 => RX1
  | 2 => RX2
  | 3 => RX3
  | 4 => RX4
  | 5 => RX5
  | 6 => RX6
  | 7 => RX7
  | 8 => RX8
  | 9 => RX9
  | 10 => RX10
  | 11 => RX11
  | 12 => RL
  | 13 => "java/lang/String"
  | 14 => "java/lang/StringLatin1"
  | 15 => "jdk/internal/util/Preconditions"
  | 16 => "java/lang/Integer"
  | 17 => "java/lang/Long"
  | 18 => "java/lang/Math"
  | 19 => "java/util/Arrays"
  | _ => ""
def CT (c : Nat) : u_T := match c with
  | 0 => TX0
  | 1 => TX1
  | 2 => TX2
  | 3 => TX3
  | 4 => TX4
  | 5 => TX5
  | 6 => TX6
  | 7 => TX7
  | 8 => TX8
  | 9 => TX9
  | 10 => TX10
  | 11 => TX11
  | _ => TX0
def CTy (c : Nat) : Nat → FieldType := match c with
  | 0 => tyX0
  | 1 => tyX1
  | 2 => tyX2
  | 3 => tyX3
  | 4 => tyX4
  | 5 => tyX5
  | 6 => tyX6
  | 7 => tyX7
  | 8 => tyX8
  | 9 => tyX9
  | 10 => tyX10
  | 11 => tyX11
  | _ => tyX0
def wsG : List Cond := lw_tbl.filter goodWord
theorem wsG_of {w : Cond} (i : Nat) (h : lw_tbl[i]? = some w) (g : goodWord w = true) : w ∈ wsG := List.mem_filter.mpr ⟨List.mem_of_getElem? h, g⟩
theorem wsG_ok : GoodIn wsG wsG := fun w h => ⟨h, good_of_word (List.mem_filter.mp h).2⟩
theorem vw_at {c : Nat} (h : c < 12) : vwCl[c]? = some (oN c, CT c, NF c) := by
  match c, h with
  | 0, _ => rfl
  | 1, _ => rfl
  | 2, _ => rfl
  | 3, _ => rfl
  | 4, _ => rfl
  | 5, _ => rfl
  | 6, _ => rfl
  | 7, _ => rfl
  | 8, _ => rfl
  | 9, _ => rfl
  | 10, _ => rfl
  | 11, _ => rfl
theorem ty_at {c : Nat} (h : c < 12) (j : Nat) : CTy c j = FT c j := by
  match c, h with
  | 0, _ => rfl
  | 1, _ => rfl
  | 2, _ => rfl
  | 3, _ => rfl
  | 4, _ => rfl
  | 5, _ => rfl
  | 6, _ => rfl
  | 7, _ => rfl
  | 8, _ => rfl
  | 9, _ => rfl
  | 10, _ => rfl
  | 11, _ => rfl
theorem ff_at {c : Nat} (h : c < 12) (j : Nat) : (CT c j).2.2.2 = FF c j := by
  match c, h with
  | 0, _ => rfl
  | 1, _ => rfl
  | 2, _ => rfl
  | 3, _ => rfl
  | 4, _ => rfl
  | 5, _ => rfl
  | 6, _ => rfl
  | 7, _ => rfl
  | 8, _ => rfl
  | 9, _ => rfl
  | 10, _ => rfl
  | 11, _ => rfl
theorem tyok_at {c : Nat} (h : c < 12) : ∀ k, k < NF c → parseFieldDescriptor (CT c k).2.2.1 = some (FT c k) := by
  match c, h with
  | 0, _ => exact tyX0_ok
  | 1, _ => exact tyX1_ok
  | 2, _ => exact tyX2_ok
  | 3, _ => exact tyX3_ok
  | 4, _ => exact tyX4_ok
  | 5, _ => exact tyX5_ok
  | 6, _ => exact tyX6_ok
  | 7, _ => exact tyX7_ok
  | 8, _ => exact tyX8_ok
  | 9, _ => exact tyX9_ok
  | 10, _ => exact tyX10_ok
  | 11, _ => exact tyX11_ok
theorem nm_at {c : Nat} (h : c < 12) : ∀ a, a < NF c → ∀ b, b < NF c → a ≠ b → (CT c a).2.1 ≠ (CT c b).2.1 := by
  match c, h with
  | 0, _ => exact nmX0
  | 1, _ => exact nmX1
  | 2, _ => exact nmX2
  | 3, _ => exact nmX3
  | 4, _ => exact nmX4
  | 5, _ => exact nmX5
  | 6, _ => exact nmX6
  | 7, _ => exact nmX7
  | 8, _ => exact nmX8
  | 9, _ => exact nmX9
  | 10, _ => exact nmX10
  | 11, _ => exact nmX11
theorem in_0 : ∀ w ∈ u_ws RX0 TX0 5, w ∈ wsG := by
  have h : ((u_ws RX0 TX0 5).zip [190, 192, 194, 196, 198]).all (fun q => decide (lw_tbl[q.2]? = some q.1) && goodWord q.1) = true := by decide +kernel
  exact zipAll h (by decide +kernel)
theorem in_1 : ∀ w ∈ u_ws RX1 TX1 3, w ∈ wsG := by
  have h : ((u_ws RX1 TX1 3).zip [335, 337, 339]).all (fun q => decide (lw_tbl[q.2]? = some q.1) && goodWord q.1) = true := by decide +kernel
  exact zipAll h (by decide +kernel)
theorem in_2 : ∀ w ∈ u_ws RX2 TX2 5, w ∈ wsG := by
  have h : ((u_ws RX2 TX2 5).zip [312, 314, 316, 318, 320]).all (fun q => decide (lw_tbl[q.2]? = some q.1) && goodWord q.1) = true := by decide +kernel
  exact zipAll h (by decide +kernel)
theorem in_3 : ∀ w ∈ u_ws RX3 TX3 10, w ∈ wsG := by
  have h : ((u_ws RX3 TX3 10).zip [235, 237, 239, 241, 243, 245, 247, 249, 251, 253]).all (fun q => decide (lw_tbl[q.2]? = some q.1) && goodWord q.1) = true := by decide +kernel
  exact zipAll h (by decide +kernel)
theorem in_4 : ∀ w ∈ u_ws RX4 TX4 3, w ∈ wsG := by
  have h : ((u_ws RX4 TX4 3).zip [353, 355, 357]).all (fun q => decide (lw_tbl[q.2]? = some q.1) && goodWord q.1) = true := by decide +kernel
  exact zipAll h (by decide +kernel)
theorem in_5 : ∀ w ∈ u_ws RX5 TX5 5, w ∈ wsG := by
  have h : ((u_ws RX5 TX5 5).zip [288, 290, 292, 294, 296]).all (fun q => decide (lw_tbl[q.2]? = some q.1) && goodWord q.1) = true := by decide +kernel
  exact zipAll h (by decide +kernel)
theorem in_6 : ∀ w ∈ u_ws RX6 TX6 3, w ∈ wsG := by
  have h : ((u_ws RX6 TX6 3).zip [370, 372, 374]).all (fun q => decide (lw_tbl[q.2]? = some q.1) && goodWord q.1) = true := by decide +kernel
  exact zipAll h (by decide +kernel)
theorem in_7 : ∀ w ∈ u_ws RX7 TX7 7, w ∈ wsG := by
  have h : ((u_ws RX7 TX7 7).zip [108, 110, 112, 114, 116, 118, 120]).all (fun q => decide (lw_tbl[q.2]? = some q.1) && goodWord q.1) = true := by decide +kernel
  exact zipAll h (by decide +kernel)
theorem in_8 : ∀ w ∈ u_ws RX8 TX8 2, w ∈ wsG := by
  have h : ((u_ws RX8 TX8 2).zip [273, 275]).all (fun q => decide (lw_tbl[q.2]? = some q.1) && goodWord q.1) = true := by decide +kernel
  exact zipAll h (by decide +kernel)
theorem in_9 : ∀ w ∈ u_ws RX9 TX9 7, w ∈ wsG := by
  have h : ((u_ws RX9 TX9 7).zip [159, 161, 163, 165, 167, 169, 171]).all (fun q => decide (lw_tbl[q.2]? = some q.1) && goodWord q.1) = true := by decide +kernel
  exact zipAll h (by decide +kernel)
theorem in_10 : ∀ w ∈ u_ws RX10 TX10 12, w ∈ wsG := by
  have h : ((u_ws RX10 TX10 12).zip [389, 391, 393, 395, 397, 399, 401, 403, 405, 407, 409, 411]).all (fun q => decide (lw_tbl[q.2]? = some q.1) && goodWord q.1) = true := by decide +kernel
  exact zipAll h (by decide +kernel)
theorem in_11 : ∀ w ∈ u_ws RX11 TX11 34, w ∈ wsG := by
  have h : ((u_ws RX11 TX11 34).zip [1020, 1022, 1024, 1026, 1028, 1030, 1032, 1034, 1036, 1038, 1040, 1042, 1044, 1046, 1048, 1050, 1052, 1054, 1056, 1058, 1060, 1062, 1064, 1066, 1068, 1070, 1072, 1074, 1076, 1078, 1080, 1082, 1084, 1086]).all (fun q => decide (lw_tbl[q.2]? = some q.1) && goodWord q.1) = true := by decide +kernel
  exact zipAll h (by decide +kernel)
theorem in_at {c : Nat} (h : c < 12) : ∀ w ∈ u_ws (oN c) (CT c) (NF c), w ∈ wsG := by
  match c, h with
  | 0, _ => exact in_0
  | 1, _ => exact in_1
  | 2, _ => exact in_2
  | 3, _ => exact in_3
  | 4, _ => exact in_4
  | 5, _ => exact in_5
  | 6, _ => exact in_6
  | 7, _ => exact in_7
  | 8, _ => exact in_8
  | 9, _ => exact in_9
  | 10, _ => exact in_10
  | 11, _ => exact in_11
def fldI : List Nat := [99, 100, 101, 102, 103, 104, 105, 106, 107, 131, 132, 133, 134, 135, 136, 137, 138, 139, 140, 141, 142, 143, 144, 145, 146, 147, 148, 149, 150, 151, 152, 153, 154, 155, 156, 157, 158, 180, 181, 182, 183, 184, 185, 186, 187, 188, 189, 221, 222, 223, 224, 225, 226, 227, 228, 229, 230, 231, 232, 233, 234, 270, 271, 272, 279, 280, 281, 282, 283, 284, 285, 286, 287, 305, 306, 307, 308, 309, 310, 311, 331, 332, 333, 334, 350, 351, 352, 365, 366, 367, 368, 369, 377, 378, 379, 380, 381, 382, 383, 384, 385, 386, 387, 388, 986, 987, 988, 989, 990, 991, 992, 993, 994, 995, 996, 997, 998, 999, 1000, 1001, 1002, 1003, 1004, 1005, 1006, 1007, 1008, 1009, 1010, 1011, 1012, 1013, 1014, 1015, 1016, 1017, 1018, 1019, 1407, 1408]
def clsI : List Nat := [85, 93, 125, 174, 202, 204, 256, 262, 264, 299, 323, 329, 342, 348, 547, 980]
def lngI : List Nat := [210, 211, 218, 219, 220, 523, 524, 641, 667, 755, 764, 857, 1148, 1149, 1295, 1332, 1406]
def cstI : List Nat := [775, 849, 850, 851]
def mthI : List (Nat × String) := [(87, ""), (90, ""), (95, "TwoOnOneBack"), (98, ""), (127, "TwoOnOneBack"), (130, ""), (176, "TwoOnOneBack"), (179, ""), (206, ""), (209, ""), (212, "TwoOnOneBack"), (215, "TwoOnOneBack"), (258, ""), (261, ""), (266, "TwoOnOneBack"), (269, ""), (278, "TwoOnOneBack"), (301, ""), (304, ""), (325, ""), (328, ""), (330, ""), (344, ""), (347, ""), (349, ""), (361, "TwoOnOneBack"), (364, ""), (414, ""), (418, ""), (422, ""), (426, ""), (430, ""), (433, ""), (437, ""), (442, ""), (446, ""), (450, ""), (456, ""), (460, ""), (464, ""), (467, ""), (472, ""), (494, ""), (499, ""), (503, ""), (506, ""), (511, ""), (515, ""), (519, ""), (527, ""), (532, ""), (535, ""), (538, ""), (541, ""), (548, ""), (549, ""), (553, ""), (557, ""), (560, ""), (564, ""), (567, ""), (571, ""), (574, ""), (577, ""), (580, ""), (584, ""), (588, ""), (592, ""), (596, ""), (597, ""), (601, ""), (605, ""), (608, ""), (612, ""), (616, ""), (620, ""), (624, ""), (625, ""), (629, ""), (633, ""), (637, ""), (642, ""), (646, ""), (650, ""), (654, "TwoOnOneBack"), (655, ""), (659, ""), (663, ""), (668, "TwoOnOneBack"), (669, ""), (673, ""), (676, ""), (680, ""), (681, ""), (684, ""), (685, ""), (688, ""), (692, ""), (696, ""), (699, ""), (703, ""), (707, ""), (708, ""), (709, ""), (712, ""), (716, ""), (720, "TwoOnOneBack"), (721, ""), (725, ""), (729, ""), (733, ""), (734, ""), (735, "TwoOnOneBack"), (736, "TwoOnOneBack"), (737, "TwoOnOneBack"), (738, ""), (739, ""), (743, ""), (744, ""), (745, ""), (749, ""), (750, ""), (751, ""), (756, ""), (760, ""), (765, ""), (769, ""), (772, ""), (776, ""), (780, ""), (784, ""), (788, ""), (792, ""), (796, ""), (800, ""), (804, ""), (808, ""), (812, ""), (816, ""), (820, ""), (824, ""), (828, ""), (832, ""), (833, ""), (834, ""), (837, ""), (841, ""), (845, ""), (846, ""), (852, ""), (853, "TwoOnOneBack"), (854, "TwoOnOneBack"), (855, "TwoOnOneBack"), (856, ""), (858, ""), (862, ""), (865, ""), (869, ""), (873, ""), (877, ""), (881, ""), (885, ""), (889, ""), (893, ""), (897, ""), (900, ""), (901, ""), (905, ""), (909, ""), (913, ""), (917, ""), (918, ""), (922, ""), (923, ""), (927, ""), (928, ""), (932, ""), (936, ""), (939, ""), (942, ""), (946, ""), (950, ""), (954, ""), (955, ""), (959, ""), (963, ""), (967, ""), (971, ""), (975, ""), (979, ""), (982, ""), (985, ""), (1090, ""), (1094, ""), (1098, ""), (1102, ""), (1106, ""), (1110, ""), (1114, ""), (1118, ""), (1122, ""), (1126, ""), (1130, ""), (1134, ""), (1138, ""), (1142, ""), (1145, ""), (1150, ""), (1153, ""), (1157, ""), (1161, ""), (1165, ""), (1169, ""), (1172, ""), (1175, ""), (1179, ""), (1183, ""), (1187, ""), (1191, ""), (1195, ""), (1199, ""), (1203, ""), (1207, ""), (1211, ""), (1215, ""), (1219, ""), (1223, ""), (1227, ""), (1230, ""), (1234, ""), (1238, ""), (1242, ""), (1246, ""), (1250, ""), (1254, ""), (1258, ""), (1261, ""), (1265, ""), (1269, ""), (1272, ""), (1275, ""), (1279, ""), (1283, ""), (1287, ""), (1291, ""), (1296, ""), (1300, ""), (1304, ""), (1308, ""), (1312, ""), (1316, ""), (1320, ""), (1324, ""), (1328, ""), (1333, ""), (1336, ""), (1340, ""), (1344, ""), (1348, ""), (1352, ""), (1356, ""), (1359, ""), (1362, ""), (1366, ""), (1370, ""), (1374, ""), (1378, ""), (1382, ""), (1386, ""), (1390, ""), (1394, ""), (1398, ""), (1402, "")]
def fW (o i c j : Nat) : Cond := if c = 13 then .fieldLink (oN o) i "java/lang/String" (if j = 0 then "value" else "coder") (if j = 0 then "[B" else "B") else .fieldLink (oN o) i (oN c) (CT c j).2.1 (CT c j).2.2.1
theorem fld_all : ((fldT.zip fldI).all fun q => decide (lw_tbl[q.2]? = some (fW q.1.1.1 q.1.1.2 q.1.2.1 q.1.2.2)) && (goodWord (fW q.1.1.1 q.1.1.2 q.1.2.1 q.1.2.2) && (decide (q.1.2.1 = 13) || (decide (q.1.2.1 < 12) && decide (q.1.2.2 < NF q.1.2.1) && decide ((CT q.1.2.1 q.1.2.2).1 = oN q.1.2.1))))) = true := by decide +kernel
theorem fld_ok {o i c j : Nat} (h : fld o i = some (c, j)) : fW o i c j ∈ wsG ∧ (c = 13 ∨ (c < 12 ∧ j < NF c ∧ (CT c j).1 = oN c)) := by
  obtain ⟨b, hb⟩ := lookZip (B := fldI) (by decide +kernel) (lookMem h)
  have h1 := List.all_eq_true.mp fld_all _ hb
  simp only [Bool.and_eq_true, Bool.or_eq_true, decide_eq_true_eq] at h1
  exact ⟨wsG_of _ h1.1 h1.2.1, h1.2.2.imp id (fun z => ⟨z.1.1, z.1.2, z.2⟩)⟩
def yOf (k : Nat) : MethodName := if k = 1000 then objectInit else if k = 1001 then arraycopyName else if k = 1002 then Lib.Math.abs.name else if k = 1003 then Lib.Math.max.name else if k = 1004 then Lib.Math.min.name else nam k
def mW (o i k : Nat) (host : String) : Cond := if host = "" then .methodLink (oN o) i (yOf k) else .methodLinkNest (oN o) i (yOf k) host
def nestW : List Cond := (((mthT.zip mthI).filter (fun q => decide (¬ q.2.2 = ""))).map (fun q => mW q.1.1.1 q.1.1.2 q.1.2 q.2.2))
theorem mth_all : ((mthT.zip mthI).all fun q => decide (lw_tbl[q.2.1]? = some (mW q.1.1.1 q.1.1.2 q.1.2 q.2.2)) && (decide (¬ q.2.2 = "") || goodWord (mW q.1.1.1 q.1.1.2 q.1.2 q.2.2)) && (decide (q.1.2 < 221) || (decide (1000 ≤ q.1.2) && decide (q.2.2 = "")))) = true := by decide +kernel
theorem mth_ok {o i k : Nat} (h : mth o i = some k) : (Cond.methodLink (oN o) i (yOf k) ∈ wsG ∨ (∃ host, Cond.methodLinkNest (oN o) i (yOf k) host ∈ nestW ∧ k < 221)) ∧ (k < 221 ∨ 1000 ≤ k) := by
  obtain ⟨b, hb⟩ := lookZip (B := mthI) (by decide +kernel) (lookMem h)
  have h1 := List.all_eq_true.mp mth_all _ hb
  simp only [Bool.and_eq_true, Bool.or_eq_true, decide_eq_true_eq] at h1
  obtain ⟨⟨h2, h3⟩, h4⟩ := h1
  by_cases hh : b.2 = ""
  · refine ⟨Or.inl ?_, h4.imp id (fun z => z.1)⟩
    have e : mW o i k b.2 = .methodLink (oN o) i (yOf k) := by unfold mW; rw [if_pos hh]
    have h3' := h3.resolve_left (fun z => z hh)
    rw [e] at h2 h3'
    exact wsG_of _ h2 h3'
  · have e : mW o i k b.2 = .methodLinkNest (oN o) i (yOf k) b.2 := by unfold mW; rw [if_neg hh]
    refine ⟨Or.inr ⟨b.2, ?_, h4.resolve_right (fun z => hh z.2)⟩, h4.imp id (fun z => z.1)⟩
    exact List.mem_map.mpr ⟨_, List.mem_filter.mpr ⟨hb, decide_eq_true hh⟩, e⟩
theorem nestW_in : ∀ w ∈ nestW, w ∈ lw_tbl ∧ w.onTables = true := by
  intro w hw
  obtain ⟨q, hq, rfl⟩ := List.mem_map.mp hw
  obtain ⟨hq1, hq2⟩ := List.mem_filter.mp hq
  have h1 := List.all_eq_true.mp mth_all _ hq1
  simp only [Bool.and_eq_true, decide_eq_true_eq] at h1
  refine ⟨List.mem_of_getElem? h1.1.1, ?_⟩
  have hh : ¬ q.2.2 = "" := of_decide_eq_true hq2
  unfold mW
  rw [if_neg hh]
  rfl
theorem cls_all : ((clsT.zip clsI).all fun q => decide (lw_tbl[q.2]? = some (.classLink (oN q.1.1.1) q.1.1.2 (oN q.1.2))) && goodWord (.classLink (oN q.1.1.1) q.1.1.2 (oN q.1.2))) = true := by decide +kernel
theorem cls_ok {o i c : Nat} (h : cls o i = some c) : Cond.classLink (oN o) i (oN c) ∈ wsG := by
  obtain ⟨b, hb⟩ := lookZip (B := clsI) (by decide +kernel) (lookMem h)
  have h1 := List.all_eq_true.mp cls_all _ hb
  simp only [Bool.and_eq_true, decide_eq_true_eq] at h1
  exact wsG_of _ h1.1 h1.2
theorem lng_all : ((lngT.zip lngI).all fun q => decide (lw_tbl[q.2]? = some (.constantLong (oN q.1.1.1) q.1.1.2 q.1.2)) && goodWord (.constantLong (oN q.1.1.1) q.1.1.2 q.1.2)) = true := by decide +kernel
theorem lng_ok {o i : Nat} {v : Int64} (h : lng o i = some v) : Cond.constantLong (oN o) i v ∈ wsG := by
  obtain ⟨b, hb⟩ := lookZip (B := lngI) (by decide +kernel) (lookMem h)
  have h1 := List.all_eq_true.mp lng_all _ hb
  simp only [Bool.and_eq_true, decide_eq_true_eq] at h1
  exact wsG_of _ h1.1 h1.2
theorem cst_all : ((cstT.zip cstI).all fun q => decide (lw_tbl[q.2]? = some (.constant (oN q.1.1.1) q.1.1.2 q.1.2)) && goodWord (.constant (oN q.1.1.1) q.1.1.2 q.1.2)) = true := by decide +kernel
theorem cst_ok {o i : Nat} {v : Int32} (h : cst o i = some v) : Cond.constant (oN o) i v ∈ wsG := by
  obtain ⟨b, hb⟩ := lookZip (B := cstI) (by decide +kernel) (lookMem h)
  have h1 := List.all_eq_true.mp cst_all _ hb
  simp only [Bool.and_eq_true, decide_eq_true_eq] at h1
  exact wsG_of _ h1.1 h1.2
theorem wm_abs : Cond.static Lib.Math.abs.name ∈ wsG ∧ Cond.code Lib.Math.abs.name Lib.Math.abs.code 1 (some .int) ∈ wsG := ⟨wsG_of 539 (by decide +kernel) (by decide +kernel), wsG_of 540 (by decide +kernel) (by decide +kernel)⟩
theorem wm_max : Cond.static Lib.Math.max.name ∈ wsG ∧ Cond.code Lib.Math.max.name Lib.Math.max.code 2 (some .int) ∈ wsG := ⟨wsG_of 507 (by decide +kernel) (by decide +kernel), wsG_of 508 (by decide +kernel) (by decide +kernel)⟩
theorem wm_min : Cond.static Lib.Math.min.name ∈ wsG ∧ Cond.code Lib.Math.min.name Lib.Math.min.code 2 (some .int) ∈ wsG := ⟨wsG_of 504 (by decide +kernel) (by decide +kernel), wsG_of 505 (by decide +kernel) (by decide +kernel)⟩
theorem wm_ini : Cond.initialized "java/lang/Math" ∈ wsG := wsG_of 80 (by decide +kernel) (by decide +kernel)
theorem wm_cpy : Cond.native arraycopyName ∈ wsG ∧ Cond.static arraycopyName ∈ wsG ∧ Cond.initialized "java/lang/System" ∈ wsG := ⟨wsG_of 899 (by decide +kernel) (by decide +kernel), wsG_of 898 (by decide +kernel) (by decide +kernel), wsG_of 84 (by decide +kernel) (by decide +kernel)⟩
theorem wm_obj : Cond.instanceMethod objectInit ∈ wsG ∧ Cond.code objectInit ⟨#[0xb1]⟩ 1 none ∈ wsG := ⟨wsG_of 91 (by decide +kernel) (by decide +kernel), wsG_of 92 (by decide +kernel) (by decide +kernel)⟩
theorem wm_aint : Cond.arrayClass .int ∈ wsG := wsG_of 201 (by decide +kernel) (by decide +kernel)
theorem wm_along : Cond.arrayClass .long ∈ wsG := wsG_of 124 (by decide +kernel) (by decide +kernel)
theorem wm_abyte : Cond.arrayClass .byte ∈ wsG := wsG_of 123 (by decide +kernel) (by decide +kernel)
theorem wm_aboolean : Cond.arrayClass .boolean ∈ wsG := wsG_of 1089 (by decide +kernel) (by decide +kernel)
def newI : List (Nat × Nat) := [(175, 66), (324, 71), (300, 70), (205, 67), (343, 72), (257, 68), (360, 73), (94, 64), (265, 69), (126, 65), (86, 63), (981, 74)]
theorem new_all : ((List.range 12).zip newI).all (fun q => decide (lw_tbl[q.2.1]? = some (.instantiable (oN q.1) (NF q.1))) && decide (lw_tbl[q.2.2]? = some (.initialized (oN q.1))) && goodWord (.instantiable (oN q.1) (NF q.1)) && goodWord (.initialized (oN q.1))) = true := by decide +kernel
theorem new_ok {c : Nat} (h : c < 12) : Cond.instantiable (oN c) (NF c) ∈ wsG ∧ Cond.initialized (oN c) ∈ wsG := by
  obtain ⟨b, hb⟩ := lookZip (B := newI) (A := List.range 12) (by decide +kernel) (List.mem_range.mpr h)
  have h1 := List.all_eq_true.mp new_all _ hb
  simp only [Bool.and_eq_true, decide_eq_true_eq] at h1
  exact ⟨wsG_of _ h1.1.1.1 h1.1.2, wsG_of _ h1.1.1.2 h1.2⟩
def strQ : List (String × Nat × String) := [("TwoOnOneBack$Text", 54, "n "), ("TwoOnOneBack$Text", 123, "0123456789"), ("TwoOnOneBack$Text", 73, "ack "), ("TwoOnOneBack$Text", 75, "all "), ("TwoOnOneBack$Text", 97, ")"), ("TwoOnOneBack$Text", 99, "rcsdi"), ("TwoOnOneBack$Text", 105, "<=>"), ("TwoOnOneBack$Text", 81, "edge "), ("TwoOnOneBack$Text", 83, "oor "), ("TwoOnOneBack$Text", 85, "stair ")]
def strL : List Nat := [2, 10, 4, 4, 1, 5, 3, 5, 4, 6]
def strB : List (List Int32) := [[110, 32], [48, 49, 50, 51, 52, 53, 54, 55, 56, 57], [97, 99, 107, 32], [97, 108, 108, 32], [41], [114, 99, 115, 100, 105], [60, 61, 62], [101, 100, 103, 101, 32], [111, 111, 114, 32], [115, 116, 97, 105, 114, 32]]
theorem str_all : (str_T.all fun q => decide (1 ≤ q.2) && decide (q.2 - 1 < 10) && decide (oN q.1.1 = (strQ.getD (q.2 - 1) ("", 0, "")).1) && decide (q.1.2 = (strQ.getD (q.2 - 1) ("", 0, "")).2.1)) = true := by decide +kernel
theorem str_ok {o i a : Nat} (h : str_ o i = some a) : ∃ j, j < 10 ∧ a = j + 1 ∧ oN o = (strQ.getD j ("", 0, "")).1 ∧ i = (strQ.getD j ("", 0, "")).2.1 := by
  have h1 := List.all_eq_true.mp str_all _ (lookMem h)
  simp only [Bool.and_eq_true, decide_eq_true_eq] at h1
  exact ⟨a - 1, h1.1.1.2, by omega, h1.1.2, h1.2⟩
-- statics: [(454, 'java/lang/String', 38, 'java/lang/String', 'COMPACT_STRINGS', 'Z'), (470, 'java/lang/String', 1053, 'jdk/internal/util/Preconditions', 'SIOOBE_FORMATTER', 'Ljava/util/function/BiFunction;')]
theorem stc_ok {o i : Nat} {v : Value} (h : stc o i = some v) : (v = .int 1 ∧ Cond.fieldLink (oN o) i "java/lang/String" "COMPACT_STRINGS" "Z" ∈ wsG) ∨ (v = .retAddr 1 ∧ Cond.fieldLink (oN o) i "jdk/internal/util/Preconditions" "SIOOBE_FORMATTER" "Ljava/util/function/BiFunction;" ∈ wsG) := by
  have h1 := lookMem h
  simp only [stcT, stc_0, List.mem_cons, List.not_mem_nil, or_false, Prod.mk.injEq] at h1
  rcases h1 with h1 | h1
  · obtain ⟨⟨rfl, rfl⟩, rfl⟩ := h1
    exact Or.inl ⟨rfl, wsG_of 454 (by decide +kernel) (by decide +kernel)⟩
  · obtain ⟨⟨rfl, rfl⟩, rfl⟩ := h1
    exact Or.inr ⟨rfl, wsG_of 470 (by decide +kernel) (by decide +kernel)⟩
end
section
def MO (k : Nat) : Prop := Cond.code (nam k) (cod k) (mlo k) (ret_ k) ∈ wsG ∧ Cond.initialized (nam k).cls ∈ wsG ∧ (sta k = true → Cond.static (nam k) ∈ wsG) ∧ (sta k = false → Cond.instanceMethod (nam k) ∈ wsG ∧ ((nam k).name = "<init>" → ret_ k = none) ∧ (¬ (nam k).name = "<init>" → Cond.selects (nam k).cls (nam k) (nam k) ∈ wsG)) ∧ (((nam k).cls = oN (own_ k) ∧ ¬ (nam k).cls = "java/lang/invoke/MethodHandle" ∧ ¬ (nam k).cls = "java/lang/invoke/VarHandle") ∧ (parseMethodDescriptor (nam k).desc).map (fun d => d.parameters.length) = some (if sta k = true then nar k else nar k - 1) ∧ plainName (nam k).cls = true ∧ mlo k ≤ 40 ∧ (sta k = false → 1 ≤ nar k))
set_option maxRecDepth 100000 in
theorem mw_J0_coder_7d493 : MO 0 := ⟨wsG_of 453 rfl (by decide +kernel), wsG_of 76 (by decide +kernel) (by decide +kernel), (fun h => absurd h (by decide +kernel)), (fun _ => ⟨wsG_of 451 (by decide +kernel) (by decide +kernel), (fun h => absurd h (by decide +kernel)), (fun _ => wsG_of 452 (by decide +kernel) (by decide +kernel))⟩), ⟨by decide +kernel, by decide +kernel, by decide +kernel, by decide +kernel, by decide +kernel⟩⟩
set_option maxRecDepth 100000 in
theorem mw_J0_length_8abf5 : MO 1 := ⟨wsG_of 449 rfl (by decide +kernel), wsG_of 76 (by decide +kernel) (by decide +kernel), (fun h => absurd h (by decide +kernel)), (fun _ => ⟨wsG_of 447 (by decide +kernel) (by decide +kernel), (fun h => absurd h (by decide +kernel)), (fun _ => wsG_of 448 (by decide +kernel) (by decide +kernel))⟩), ⟨by decide +kernel, by decide +kernel, by decide +kernel, by decide +kernel, by decide +kernel⟩⟩
set_option maxRecDepth 100000 in
theorem mw_J0_isLatin1_aae02 : MO 2 := ⟨wsG_of 463 rfl (by decide +kernel), wsG_of 76 (by decide +kernel) (by decide +kernel), (fun h => absurd h (by decide +kernel)), (fun _ => ⟨wsG_of 461 (by decide +kernel) (by decide +kernel), (fun h => absurd h (by decide +kernel)), (fun _ => wsG_of 462 (by decide +kernel) (by decide +kernel))⟩), ⟨by decide +kernel, by decide +kernel, by decide +kernel, by decide +kernel, by decide +kernel⟩⟩
set_option maxRecDepth 100000 in
theorem mw_J0_checkIndex_df160 : MO 3 := ⟨wsG_of 469 rfl (by decide +kernel), wsG_of 76 (by decide +kernel) (by decide +kernel), (fun _ => wsG_of 468 (by decide +kernel) (by decide +kernel)), (fun h => absurd h (by decide +kernel)), ⟨by decide +kernel, by decide +kernel, by decide +kernel, by decide +kernel, by decide +kernel⟩⟩
set_option maxRecDepth 100000 in
theorem mw_J0_charAt_5068e : MO 4 := ⟨wsG_of 459 rfl (by decide +kernel), wsG_of 76 (by decide +kernel) (by decide +kernel), (fun h => absurd h (by decide +kernel)), (fun _ => ⟨wsG_of 457 (by decide +kernel) (by decide +kernel), (fun h => absurd h (by decide +kernel)), (fun _ => wsG_of 458 (by decide +kernel) (by decide +kernel))⟩), ⟨by decide +kernel, by decide +kernel, by decide +kernel, by decide +kernel, by decide +kernel⟩⟩
set_option maxRecDepth 100000 in
theorem mw_J1_charAt_3b067 : MO 5 := ⟨wsG_of 466 rfl (by decide +kernel), wsG_of 77 (by decide +kernel) (by decide +kernel), (fun _ => wsG_of 465 (by decide +kernel) (by decide +kernel)), (fun h => absurd h (by decide +kernel)), ⟨by decide +kernel, by decide +kernel, by decide +kernel, by decide +kernel, by decide +kernel⟩⟩
set_option maxRecDepth 100000 in
theorem mw_J3_checkIndex_8e157 : MO 6 := ⟨wsG_of 474 rfl (by decide +kernel), wsG_of 78 (by decide +kernel) (by decide +kernel), (fun _ => wsG_of 473 (by decide +kernel) (by decide +kernel)), (fun h => absurd h (by decide +kernel)), ⟨by decide +kernel, by decide +kernel, by decide +kernel, by decide +kernel, by decide +kernel⟩⟩
set_option maxRecDepth 100000 in
theorem mw_J6_bitCount_0f7a4 : MO 7 := ⟨wsG_of 848 rfl (by decide +kernel), wsG_of 82 (by decide +kernel) (by decide +kernel), (fun _ => wsG_of 847 (by decide +kernel) (by decide +kernel)), (fun h => absurd h (by decide +kernel)), ⟨by decide +kernel, by decide +kernel, by decide +kernel, by decide +kernel, by decide +kernel⟩⟩
set_option maxRecDepth 100000 in
theorem mw_J6_compare_7cf53 : MO 8 := ⟨wsG_of 543 rfl (by decide +kernel), wsG_of 82 (by decide +kernel) (by decide +kernel), (fun _ => wsG_of 542 (by decide +kernel) (by decide +kernel)), (fun h => absurd h (by decide +kernel)), ⟨by decide +kernel, by decide +kernel, by decide +kernel, by decide +kernel, by decide +kernel⟩⟩
set_option maxRecDepth 100000 in
theorem mw_J6_numberOfTrailingZeros_0f7a4 : MO 9 := ⟨wsG_of 774 rfl (by decide +kernel), wsG_of 82 (by decide +kernel) (by decide +kernel), (fun _ => wsG_of 773 (by decide +kernel) (by decide +kernel)), (fun h => absurd h (by decide +kernel)), ⟨by decide +kernel, by decide +kernel, by decide +kernel, by decide +kernel, by decide +kernel⟩⟩
set_option maxRecDepth 100000 in
theorem mw_J7_fill_d0a16 : MO 10 := ⟨wsG_of 432 rfl (by decide +kernel), wsG_of 75 (by decide +kernel) (by decide +kernel), (fun _ => wsG_of 431 (by decide +kernel) (by decide +kernel)), (fun h => absurd h (by decide +kernel)), ⟨by decide +kernel, by decide +kernel, by decide +kernel, by decide +kernel, by decide +kernel⟩⟩
set_option maxRecDepth 100000 in
theorem mw_J13_numberOfTrailingZeros_95d88 : MO 11 := ⟨wsG_of 771 rfl (by decide +kernel), wsG_of 83 (by decide +kernel) (by decide +kernel), (fun _ => wsG_of 770 (by decide +kernel) (by decide +kernel)), (fun h => absurd h (by decide +kernel)), ⟨by decide +kernel, by decide +kernel, by decide +kernel, by decide +kernel, by decide +kernel⟩⟩
set_option maxRecDepth 100000 in
theorem mw_X0_init : MO 12 := ⟨wsG_of 178 rfl (by decide +kernel), wsG_of 66 (by decide +kernel) (by decide +kernel), (fun h => absurd h (by decide +kernel)), (fun _ => ⟨wsG_of 177 (by decide +kernel) (by decide +kernel), (fun _ => by decide +kernel), (fun h => absurd (by decide +kernel) h)⟩), ⟨by decide +kernel, by decide +kernel, by decide +kernel, by decide +kernel, by decide +kernel⟩⟩
set_option maxRecDepth 100000 in
theorem mw_X0_begins : MO 13 := ⟨wsG_of 916 rfl (by decide +kernel), wsG_of 66 (by decide +kernel) (by decide +kernel), (fun h => absurd h (by decide +kernel)), (fun _ => ⟨wsG_of 915 (by decide +kernel) (by decide +kernel), (fun h => absurd h (by decide +kernel)), (fun _ => wsG_of 23 (by decide +kernel) (by decide +kernel))⟩), ⟨by decide +kernel, by decide +kernel, by decide +kernel, by decide +kernel, by decide +kernel⟩⟩
set_option maxRecDepth 100000 in
theorem mw_X0_steps : MO 14 := ⟨wsG_of 912 rfl (by decide +kernel), wsG_of 66 (by decide +kernel) (by decide +kernel), (fun h => absurd h (by decide +kernel)), (fun _ => ⟨wsG_of 910 (by decide +kernel) (by decide +kernel), (fun h => absurd h (by decide +kernel)), (fun _ => wsG_of 911 (by decide +kernel) (by decide +kernel))⟩), ⟨by decide +kernel, by decide +kernel, by decide +kernel, by decide +kernel, by decide +kernel⟩⟩
set_option maxRecDepth 100000 in
theorem mw_X0_turns : MO 15 := ⟨wsG_of 921 rfl (by decide +kernel), wsG_of 66 (by decide +kernel) (by decide +kernel), (fun h => absurd h (by decide +kernel)), (fun _ => ⟨wsG_of 919 (by decide +kernel) (by decide +kernel), (fun h => absurd h (by decide +kernel)), (fun _ => wsG_of 920 (by decide +kernel) (by decide +kernel))⟩), ⟨by decide +kernel, by decide +kernel, by decide +kernel, by decide +kernel, by decide +kernel⟩⟩
set_option maxRecDepth 100000 in
theorem mw_X0_tells : MO 16 := ⟨wsG_of 926 rfl (by decide +kernel), wsG_of 66 (by decide +kernel) (by decide +kernel), (fun h => absurd h (by decide +kernel)), (fun _ => ⟨wsG_of 924 (by decide +kernel) (by decide +kernel), (fun h => absurd h (by decide +kernel)), (fun _ => wsG_of 925 (by decide +kernel) (by decide +kernel))⟩), ⟨by decide +kernel, by decide +kernel, by decide +kernel, by decide +kernel, by decide +kernel⟩⟩
set_option maxRecDepth 100000 in
theorem mw_X1_init : MO 17 := ⟨wsG_of 327 rfl (by decide +kernel), wsG_of 71 (by decide +kernel) (by decide +kernel), (fun h => absurd h (by decide +kernel)), (fun _ => ⟨wsG_of 326 (by decide +kernel) (by decide +kernel), (fun _ => by decide +kernel), (fun h => absurd (by decide +kernel) h)⟩), ⟨by decide +kernel, by decide +kernel, by decide +kernel, by decide +kernel, by decide +kernel⟩⟩
set_option maxRecDepth 100000 in
theorem mw_X1_join : MO 18 := ⟨wsG_of 711 rfl (by decide +kernel), wsG_of 71 (by decide +kernel) (by decide +kernel), (fun _ => wsG_of 710 (by decide +kernel) (by decide +kernel)), (fun h => absurd h (by decide +kernel)), ⟨by decide +kernel, by decide +kernel, by decide +kernel, by decide +kernel, by decide +kernel⟩⟩
set_option maxRecDepth 100000 in
theorem mw_X1_alone_ : MO 19 := ⟨wsG_of 706 rfl (by decide +kernel), wsG_of 71 (by decide +kernel) (by decide +kernel), (fun h => absurd h (by decide +kernel)), (fun _ => ⟨wsG_of 704 (by decide +kernel) (by decide +kernel), (fun h => absurd h (by decide +kernel)), (fun _ => wsG_of 705 (by decide +kernel) (by decide +kernel))⟩), ⟨by decide +kernel, by decide +kernel, by decide +kernel, by decide +kernel, by decide +kernel⟩⟩
set_option maxRecDepth 100000 in
theorem mw_X1_alone : MO 20 := ⟨wsG_of 702 rfl (by decide +kernel), wsG_of 71 (by decide +kernel) (by decide +kernel), (fun h => absurd h (by decide +kernel)), (fun _ => ⟨wsG_of 700 (by decide +kernel) (by decide +kernel), (fun h => absurd h (by decide +kernel)), (fun _ => wsG_of 701 (by decide +kernel) (by decide +kernel))⟩), ⟨by decide +kernel, by decide +kernel, by decide +kernel, by decide +kernel, by decide +kernel⟩⟩
set_option maxRecDepth 100000 in
theorem mw_X1_around : MO 21 := ⟨wsG_of 819 rfl (by decide +kernel), wsG_of 71 (by decide +kernel) (by decide +kernel), (fun h => absurd h (by decide +kernel)), (fun _ => ⟨wsG_of 817 (by decide +kernel) (by decide +kernel), (fun h => absurd h (by decide +kernel)), (fun _ => wsG_of 818 (by decide +kernel) (by decide +kernel))⟩), ⟨by decide +kernel, by decide +kernel, by decide +kernel, by decide +kernel, by decide +kernel⟩⟩
set_option maxRecDepth 100000 in
theorem mw_X1_among : MO 22 := ⟨wsG_of 732 rfl (by decide +kernel), wsG_of 71 (by decide +kernel) (by decide +kernel), (fun h => absurd h (by decide +kernel)), (fun _ => ⟨wsG_of 731 (by decide +kernel) (by decide +kernel), (fun h => absurd h (by decide +kernel)), (fun _ => wsG_of 17 (by decide +kernel) (by decide +kernel))⟩), ⟨by decide +kernel, by decide +kernel, by decide +kernel, by decide +kernel, by decide +kernel⟩⟩
set_option maxRecDepth 100000 in
theorem mw_X1_spread : MO 23 := ⟨wsG_of 728 rfl (by decide +kernel), wsG_of 71 (by decide +kernel) (by decide +kernel), (fun h => absurd h (by decide +kernel)), (fun _ => ⟨wsG_of 727 (by decide +kernel) (by decide +kernel), (fun h => absurd h (by decide +kernel)), (fun _ => wsG_of 16 (by decide +kernel) (by decide +kernel))⟩), ⟨by decide +kernel, by decide +kernel, by decide +kernel, by decide +kernel, by decide +kernel⟩⟩
set_option maxRecDepth 100000 in
theorem mw_X1_advance : MO 24 := ⟨wsG_of 724 rfl (by decide +kernel), wsG_of 71 (by decide +kernel) (by decide +kernel), (fun h => absurd h (by decide +kernel)), (fun _ => ⟨wsG_of 722 (by decide +kernel) (by decide +kernel), (fun h => absurd h (by decide +kernel)), (fun _ => wsG_of 723 (by decide +kernel) (by decide +kernel))⟩), ⟨by decide +kernel, by decide +kernel, by decide +kernel, by decide +kernel, by decide +kernel⟩⟩
set_option maxRecDepth 100000 in
theorem mw_X1_keep : MO 25 := ⟨wsG_of 823 rfl (by decide +kernel), wsG_of 71 (by decide +kernel) (by decide +kernel), (fun h => absurd h (by decide +kernel)), (fun _ => ⟨wsG_of 821 (by decide +kernel) (by decide +kernel), (fun h => absurd h (by decide +kernel)), (fun _ => wsG_of 822 (by decide +kernel) (by decide +kernel))⟩), ⟨by decide +kernel, by decide +kernel, by decide +kernel, by decide +kernel, by decide +kernel⟩⟩
set_option maxRecDepth 100000 in
theorem mw_X1_cells : MO 26 := ⟨wsG_of 719 rfl (by decide +kernel), wsG_of 71 (by decide +kernel) (by decide +kernel), (fun h => absurd h (by decide +kernel)), (fun _ => ⟨wsG_of 717 (by decide +kernel) (by decide +kernel), (fun h => absurd h (by decide +kernel)), (fun _ => wsG_of 718 (by decide +kernel) (by decide +kernel))⟩), ⟨by decide +kernel, by decide +kernel, by decide +kernel, by decide +kernel, by decide +kernel⟩⟩
set_option maxRecDepth 100000 in
theorem mw_X1_facing : MO 27 := ⟨wsG_of 783 rfl (by decide +kernel), wsG_of 71 (by decide +kernel) (by decide +kernel), (fun h => absurd h (by decide +kernel)), (fun _ => ⟨wsG_of 781 (by decide +kernel) (by decide +kernel), (fun h => absurd h (by decide +kernel)), (fun _ => wsG_of 782 (by decide +kernel) (by decide +kernel))⟩), ⟨by decide +kernel, by decide +kernel, by decide +kernel, by decide +kernel, by decide +kernel⟩⟩
set_option maxRecDepth 100000 in
theorem mw_X1_beatsTo : MO 28 := ⟨wsG_of 715 rfl (by decide +kernel), wsG_of 71 (by decide +kernel) (by decide +kernel), (fun h => absurd h (by decide +kernel)), (fun _ => ⟨wsG_of 713 (by decide +kernel) (by decide +kernel), (fun h => absurd h (by decide +kernel)), (fun _ => wsG_of 714 (by decide +kernel) (by decide +kernel))⟩), ⟨by decide +kernel, by decide +kernel, by decide +kernel, by decide +kernel, by decide +kernel⟩⟩
set_option maxRecDepth 100000 in
theorem mw_X2_init : MO 29 := ⟨wsG_of 303 rfl (by decide +kernel), wsG_of 70 (by decide +kernel) (by decide +kernel), (fun h => absurd h (by decide +kernel)), (fun _ => ⟨wsG_of 302 (by decide +kernel) (by decide +kernel), (fun _ => by decide +kernel), (fun h => absurd (by decide +kernel) h)⟩), ⟨by decide +kernel, by decide +kernel, by decide +kernel, by decide +kernel, by decide +kernel⟩⟩
set_option maxRecDepth 100000 in
theorem mw_X2_become : MO 30 := ⟨wsG_of 623 rfl (by decide +kernel), wsG_of 70 (by decide +kernel) (by decide +kernel), (fun h => absurd h (by decide +kernel)), (fun _ => ⟨wsG_of 621 (by decide +kernel) (by decide +kernel), (fun h => absurd h (by decide +kernel)), (fun _ => wsG_of 622 (by decide +kernel) (by decide +kernel))⟩), ⟨by decide +kernel, by decide +kernel, by decide +kernel, by decide +kernel, by decide +kernel⟩⟩
set_option maxRecDepth 100000 in
theorem mw_X2_isOn : MO 31 := ⟨wsG_of 640 rfl (by decide +kernel), wsG_of 70 (by decide +kernel) (by decide +kernel), (fun h => absurd h (by decide +kernel)), (fun _ => ⟨wsG_of 639 (by decide +kernel) (by decide +kernel), (fun h => absurd h (by decide +kernel)), (fun _ => wsG_of 11 (by decide +kernel) (by decide +kernel))⟩), ⟨by decide +kernel, by decide +kernel, by decide +kernel, by decide +kernel, by decide +kernel⟩⟩
set_option maxRecDepth 100000 in
theorem mw_X2_rests : MO 32 := ⟨wsG_of 636 rfl (by decide +kernel), wsG_of 70 (by decide +kernel) (by decide +kernel), (fun h => absurd h (by decide +kernel)), (fun _ => ⟨wsG_of 635 (by decide +kernel) (by decide +kernel), (fun h => absurd h (by decide +kernel)), (fun _ => wsG_of 10 (by decide +kernel) (by decide +kernel))⟩), ⟨by decide +kernel, by decide +kernel, by decide +kernel, by decide +kernel, by decide +kernel⟩⟩
set_option maxRecDepth 100000 in
theorem mw_X2_isRound : MO 33 := ⟨wsG_of 653 rfl (by decide +kernel), wsG_of 70 (by decide +kernel) (by decide +kernel), (fun h => absurd h (by decide +kernel)), (fun _ => ⟨wsG_of 652 (by decide +kernel) (by decide +kernel), (fun h => absurd h (by decide +kernel)), (fun _ => wsG_of 13 (by decide +kernel) (by decide +kernel))⟩), ⟨by decide +kernel, by decide +kernel, by decide +kernel, by decide +kernel, by decide +kernel⟩⟩
set_option maxRecDepth 100000 in
theorem mw_X2_way : MO 34 := ⟨wsG_of 649 rfl (by decide +kernel), wsG_of 70 (by decide +kernel) (by decide +kernel), (fun h => absurd h (by decide +kernel)), (fun _ => ⟨wsG_of 647 (by decide +kernel) (by decide +kernel), (fun h => absurd h (by decide +kernel)), (fun _ => wsG_of 648 (by decide +kernel) (by decide +kernel))⟩), ⟨by decide +kernel, by decide +kernel, by decide +kernel, by decide +kernel, by decide +kernel⟩⟩
set_option maxRecDepth 100000 in
theorem mw_X2_ons : MO 35 := ⟨wsG_of 662 rfl (by decide +kernel), wsG_of 70 (by decide +kernel) (by decide +kernel), (fun h => absurd h (by decide +kernel)), (fun _ => ⟨wsG_of 661 (by decide +kernel) (by decide +kernel), (fun h => absurd h (by decide +kernel)), (fun _ => wsG_of 14 (by decide +kernel) (by decide +kernel))⟩), ⟨by decide +kernel, by decide +kernel, by decide +kernel, by decide +kernel, by decide +kernel⟩⟩
set_option maxRecDepth 100000 in
theorem mw_X2_leaves : MO 36 := ⟨wsG_of 645 rfl (by decide +kernel), wsG_of 70 (by decide +kernel) (by decide +kernel), (fun h => absurd h (by decide +kernel)), (fun _ => ⟨wsG_of 644 (by decide +kernel) (by decide +kernel), (fun h => absurd h (by decide +kernel)), (fun _ => wsG_of 12 (by decide +kernel) (by decide +kernel))⟩), ⟨by decide +kernel, by decide +kernel, by decide +kernel, by decide +kernel, by decide +kernel⟩⟩
set_option maxRecDepth 100000 in
theorem mw_X2_starts : MO 37 := ⟨wsG_of 632 rfl (by decide +kernel), wsG_of 70 (by decide +kernel) (by decide +kernel), (fun h => absurd h (by decide +kernel)), (fun _ => ⟨wsG_of 630 (by decide +kernel) (by decide +kernel), (fun h => absurd h (by decide +kernel)), (fun _ => wsG_of 631 (by decide +kernel) (by decide +kernel))⟩), ⟨by decide +kernel, by decide +kernel, by decide +kernel, by decide +kernel, by decide +kernel⟩⟩
set_option maxRecDepth 100000 in
theorem mw_X2_tick : MO 38 := ⟨wsG_of 691 rfl (by decide +kernel), wsG_of 70 (by decide +kernel) (by decide +kernel), (fun h => absurd h (by decide +kernel)), (fun _ => ⟨wsG_of 689 (by decide +kernel) (by decide +kernel), (fun h => absurd h (by decide +kernel)), (fun _ => wsG_of 690 (by decide +kernel) (by decide +kernel))⟩), ⟨by decide +kernel, by decide +kernel, by decide +kernel, by decide +kernel, by decide +kernel⟩⟩
set_option maxRecDepth 100000 in
theorem mw_X2_steps : MO 39 := ⟨wsG_of 628 rfl (by decide +kernel), wsG_of 70 (by decide +kernel) (by decide +kernel), (fun h => absurd h (by decide +kernel)), (fun _ => ⟨wsG_of 626 (by decide +kernel) (by decide +kernel), (fun h => absurd h (by decide +kernel)), (fun _ => wsG_of 627 (by decide +kernel) (by decide +kernel))⟩), ⟨by decide +kernel, by decide +kernel, by decide +kernel, by decide +kernel, by decide +kernel⟩⟩
set_option maxRecDepth 100000 in
theorem mw_X3_rhythm : MO 40 := ⟨wsG_of 604 rfl (by decide +kernel), wsG_of 67 (by decide +kernel) (by decide +kernel), (fun h => absurd h (by decide +kernel)), (fun _ => ⟨wsG_of 602 (by decide +kernel) (by decide +kernel), (fun h => absurd h (by decide +kernel)), (fun _ => wsG_of 603 (by decide +kernel) (by decide +kernel))⟩), ⟨by decide +kernel, by decide +kernel, by decide +kernel, by decide +kernel, by decide +kernel⟩⟩
set_option maxRecDepth 100000 in
theorem mw_X3_beat : MO 41 := ⟨wsG_of 600 rfl (by decide +kernel), wsG_of 67 (by decide +kernel) (by decide +kernel), (fun h => absurd h (by decide +kernel)), (fun _ => ⟨wsG_of 598 (by decide +kernel) (by decide +kernel), (fun h => absurd h (by decide +kernel)), (fun _ => wsG_of 599 (by decide +kernel) (by decide +kernel))⟩), ⟨by decide +kernel, by decide +kernel, by decide +kernel, by decide +kernel, by decide +kernel⟩⟩
set_option maxRecDepth 100000 in
theorem mw_X3_backward : MO 42 := ⟨wsG_of 658 rfl (by decide +kernel), wsG_of 67 (by decide +kernel) (by decide +kernel), (fun h => absurd h (by decide +kernel)), (fun _ => ⟨wsG_of 656 (by decide +kernel) (by decide +kernel), (fun h => absurd h (by decide +kernel)), (fun _ => wsG_of 657 (by decide +kernel) (by decide +kernel))⟩), ⟨by decide +kernel, by decide +kernel, by decide +kernel, by decide +kernel, by decide +kernel⟩⟩
set_option maxRecDepth 100000 in
theorem mw_X3_onward : MO 43 := ⟨wsG_of 666 rfl (by decide +kernel), wsG_of 67 (by decide +kernel) (by decide +kernel), (fun h => absurd h (by decide +kernel)), (fun _ => ⟨wsG_of 664 (by decide +kernel) (by decide +kernel), (fun h => absurd h (by decide +kernel)), (fun _ => wsG_of 665 (by decide +kernel) (by decide +kernel))⟩), ⟨by decide +kernel, by decide +kernel, by decide +kernel, by decide +kernel, by decide +kernel⟩⟩
set_option maxRecDepth 100000 in
theorem mw_X3_init : MO 44 := ⟨wsG_of 208 rfl (by decide +kernel), wsG_of 67 (by decide +kernel) (by decide +kernel), (fun h => absurd h (by decide +kernel)), (fun _ => ⟨wsG_of 207 (by decide +kernel) (by decide +kernel), (fun _ => by decide +kernel), (fun h => absurd (by decide +kernel) h)⟩), ⟨by decide +kernel, by decide +kernel, by decide +kernel, by decide +kernel, by decide +kernel⟩⟩
set_option maxRecDepth 100000 in
theorem mw_X3_marked : MO 45 := ⟨wsG_of 563 rfl (by decide +kernel), wsG_of 67 (by decide +kernel) (by decide +kernel), (fun h => absurd h (by decide +kernel)), (fun _ => ⟨wsG_of 561 (by decide +kernel) (by decide +kernel), (fun h => absurd h (by decide +kernel)), (fun _ => wsG_of 562 (by decide +kernel) (by decide +kernel))⟩), ⟨by decide +kernel, by decide +kernel, by decide +kernel, by decide +kernel, by decide +kernel⟩⟩
set_option maxRecDepth 100000 in
theorem mw_X4_init : MO 46 := ⟨wsG_of 346 rfl (by decide +kernel), wsG_of 72 (by decide +kernel) (by decide +kernel), (fun h => absurd h (by decide +kernel)), (fun _ => ⟨wsG_of 345 (by decide +kernel) (by decide +kernel), (fun _ => by decide +kernel), (fun h => absurd (by decide +kernel) h)⟩), ⟨by decide +kernel, by decide +kernel, by decide +kernel, by decide +kernel, by decide +kernel⟩⟩
set_option maxRecDepth 100000 in
theorem mw_X4_join : MO 47 := ⟨wsG_of 836 rfl (by decide +kernel), wsG_of 72 (by decide +kernel) (by decide +kernel), (fun _ => wsG_of 835 (by decide +kernel) (by decide +kernel)), (fun h => absurd h (by decide +kernel)), ⟨by decide +kernel, by decide +kernel, by decide +kernel, by decide +kernel, by decide +kernel⟩⟩
set_option maxRecDepth 100000 in
theorem mw_X4_alone : MO 48 := ⟨wsG_of 831 rfl (by decide +kernel), wsG_of 72 (by decide +kernel) (by decide +kernel), (fun h => absurd h (by decide +kernel)), (fun _ => ⟨wsG_of 829 (by decide +kernel) (by decide +kernel), (fun h => absurd h (by decide +kernel)), (fun _ => wsG_of 830 (by decide +kernel) (by decide +kernel))⟩), ⟨by decide +kernel, by decide +kernel, by decide +kernel, by decide +kernel, by decide +kernel⟩⟩
set_option maxRecDepth 100000 in
theorem mw_X4_part : MO 49 := ⟨wsG_of 844 rfl (by decide +kernel), wsG_of 72 (by decide +kernel) (by decide +kernel), (fun h => absurd h (by decide +kernel)), (fun _ => ⟨wsG_of 843 (by decide +kernel) (by decide +kernel), (fun h => absurd h (by decide +kernel)), (fun _ => wsG_of 21 (by decide +kernel) (by decide +kernel))⟩), ⟨by decide +kernel, by decide +kernel, by decide +kernel, by decide +kernel, by decide +kernel⟩⟩
set_option maxRecDepth 100000 in
theorem mw_X4_advance : MO 50 := ⟨wsG_of 840 rfl (by decide +kernel), wsG_of 72 (by decide +kernel) (by decide +kernel), (fun h => absurd h (by decide +kernel)), (fun _ => ⟨wsG_of 838 (by decide +kernel) (by decide +kernel), (fun h => absurd h (by decide +kernel)), (fun _ => wsG_of 839 (by decide +kernel) (by decide +kernel))⟩), ⟨by decide +kernel, by decide +kernel, by decide +kernel, by decide +kernel, by decide +kernel⟩⟩
set_option maxRecDepth 100000 in
theorem mw_X4_shares : MO 51 := ⟨wsG_of 861 rfl (by decide +kernel), wsG_of 72 (by decide +kernel) (by decide +kernel), (fun h => absurd h (by decide +kernel)), (fun _ => ⟨wsG_of 859 (by decide +kernel) (by decide +kernel), (fun h => absurd h (by decide +kernel)), (fun _ => wsG_of 860 (by decide +kernel) (by decide +kernel))⟩), ⟨by decide +kernel, by decide +kernel, by decide +kernel, by decide +kernel, by decide +kernel⟩⟩
set_option maxRecDepth 100000 in
theorem mw_X5_init : MO 52 := ⟨wsG_of 260 rfl (by decide +kernel), wsG_of 68 (by decide +kernel) (by decide +kernel), (fun h => absurd h (by decide +kernel)), (fun _ => ⟨wsG_of 259 (by decide +kernel) (by decide +kernel), (fun _ => by decide +kernel), (fun h => absurd (by decide +kernel) h)⟩), ⟨by decide +kernel, by decide +kernel, by decide +kernel, by decide +kernel, by decide +kernel⟩⟩
set_option maxRecDepth 100000 in
theorem mw_X5_who : MO 53 := ⟨wsG_of 587 rfl (by decide +kernel), wsG_of 68 (by decide +kernel) (by decide +kernel), (fun h => absurd h (by decide +kernel)), (fun _ => ⟨wsG_of 585 (by decide +kernel) (by decide +kernel), (fun h => absurd h (by decide +kernel)), (fun _ => wsG_of 586 (by decide +kernel) (by decide +kernel))⟩), ⟨by decide +kernel, by decide +kernel, by decide +kernel, by decide +kernel, by decide +kernel⟩⟩
set_option maxRecDepth 100000 in
theorem mw_X5_added : MO 54 := ⟨wsG_of 583 rfl (by decide +kernel), wsG_of 68 (by decide +kernel) (by decide +kernel), (fun h => absurd h (by decide +kernel)), (fun _ => ⟨wsG_of 581 (by decide +kernel) (by decide +kernel), (fun h => absurd h (by decide +kernel)), (fun _ => wsG_of 582 (by decide +kernel) (by decide +kernel))⟩), ⟨by decide +kernel, by decide +kernel, by decide +kernel, by decide +kernel, by decide +kernel⟩⟩
set_option maxRecDepth 100000 in
theorem mw_X5_become : MO 55 := ⟨wsG_of 892 rfl (by decide +kernel), wsG_of 68 (by decide +kernel) (by decide +kernel), (fun h => absurd h (by decide +kernel)), (fun _ => ⟨wsG_of 890 (by decide +kernel) (by decide +kernel), (fun h => absurd h (by decide +kernel)), (fun _ => wsG_of 891 (by decide +kernel) (by decide +kernel))⟩), ⟨by decide +kernel, by decide +kernel, by decide +kernel, by decide +kernel, by decide +kernel⟩⟩
set_option maxRecDepth 100000 in
theorem mw_X6_init : MO 56 := ⟨wsG_of 363 rfl (by decide +kernel), wsG_of 73 (by decide +kernel) (by decide +kernel), (fun h => absurd h (by decide +kernel)), (fun _ => ⟨wsG_of 362 (by decide +kernel) (by decide +kernel), (fun _ => by decide +kernel), (fun h => absurd (by decide +kernel) h)⟩), ⟨by decide +kernel, by decide +kernel, by decide +kernel, by decide +kernel, by decide +kernel⟩⟩
set_option maxRecDepth 100000 in
theorem mw_X6_become : MO 57 := ⟨wsG_of 953 rfl (by decide +kernel), wsG_of 73 (by decide +kernel) (by decide +kernel), (fun h => absurd h (by decide +kernel)), (fun _ => ⟨wsG_of 951 (by decide +kernel) (by decide +kernel), (fun h => absurd h (by decide +kernel)), (fun _ => wsG_of 952 (by decide +kernel) (by decide +kernel))⟩), ⟨by decide +kernel, by decide +kernel, by decide +kernel, by decide +kernel, by decide +kernel⟩⟩
set_option maxRecDepth 100000 in
theorem mw_X6_has : MO 58 := ⟨wsG_of 880 rfl (by decide +kernel), wsG_of 73 (by decide +kernel) (by decide +kernel), (fun h => absurd h (by decide +kernel)), (fun _ => ⟨wsG_of 878 (by decide +kernel) (by decide +kernel), (fun h => absurd h (by decide +kernel)), (fun _ => wsG_of 879 (by decide +kernel) (by decide +kernel))⟩), ⟨by decide +kernel, by decide +kernel, by decide +kernel, by decide +kernel, by decide +kernel⟩⟩
set_option maxRecDepth 100000 in
theorem mw_X6_reaches : MO 59 := ⟨wsG_of 978 rfl (by decide +kernel), wsG_of 73 (by decide +kernel) (by decide +kernel), (fun h => absurd h (by decide +kernel)), (fun _ => ⟨wsG_of 976 (by decide +kernel) (by decide +kernel), (fun h => absurd h (by decide +kernel)), (fun _ => wsG_of 977 (by decide +kernel) (by decide +kernel))⟩), ⟨by decide +kernel, by decide +kernel, by decide +kernel, by decide +kernel, by decide +kernel⟩⟩
set_option maxRecDepth 100000 in
theorem mw_X6_value : MO 60 := ⟨wsG_of 884 rfl (by decide +kernel), wsG_of 73 (by decide +kernel) (by decide +kernel), (fun h => absurd h (by decide +kernel)), (fun _ => ⟨wsG_of 882 (by decide +kernel) (by decide +kernel), (fun h => absurd h (by decide +kernel)), (fun _ => wsG_of 883 (by decide +kernel) (by decide +kernel))⟩), ⟨by decide +kernel, by decide +kernel, by decide +kernel, by decide +kernel, by decide +kernel⟩⟩
set_option maxRecDepth 100000 in
theorem mw_X6_cut : MO 61 := ⟨wsG_of 966 rfl (by decide +kernel), wsG_of 73 (by decide +kernel) (by decide +kernel), (fun h => absurd h (by decide +kernel)), (fun _ => ⟨wsG_of 965 (by decide +kernel) (by decide +kernel), (fun h => absurd h (by decide +kernel)), (fun _ => wsG_of 24 (by decide +kernel) (by decide +kernel))⟩), ⟨by decide +kernel, by decide +kernel, by decide +kernel, by decide +kernel, by decide +kernel⟩⟩
set_option maxRecDepth 100000 in
theorem mw_X6_write : MO 62 := ⟨wsG_of 962 rfl (by decide +kernel), wsG_of 73 (by decide +kernel) (by decide +kernel), (fun h => absurd h (by decide +kernel)), (fun _ => ⟨wsG_of 960 (by decide +kernel) (by decide +kernel), (fun h => absurd h (by decide +kernel)), (fun _ => wsG_of 961 (by decide +kernel) (by decide +kernel))⟩), ⟨by decide +kernel, by decide +kernel, by decide +kernel, by decide +kernel, by decide +kernel⟩⟩
set_option maxRecDepth 100000 in
theorem mw_X7_init : MO 63 := ⟨wsG_of 97 rfl (by decide +kernel), wsG_of 64 (by decide +kernel) (by decide +kernel), (fun h => absurd h (by decide +kernel)), (fun _ => ⟨wsG_of 96 (by decide +kernel) (by decide +kernel), (fun _ => by decide +kernel), (fun h => absurd (by decide +kernel) h)⟩), ⟨by decide +kernel, by decide +kernel, by decide +kernel, by decide +kernel, by decide +kernel⟩⟩
set_option maxRecDepth 100000 in
theorem mw_X7_add : MO 64 := ⟨wsG_of 421 rfl (by decide +kernel), wsG_of 64 (by decide +kernel) (by decide +kernel), (fun h => absurd h (by decide +kernel)), (fun _ => ⟨wsG_of 419 (by decide +kernel) (by decide +kernel), (fun h => absurd h (by decide +kernel)), (fun _ => wsG_of 420 (by decide +kernel) (by decide +kernel))⟩), ⟨by decide +kernel, by decide +kernel, by decide +kernel, by decide +kernel, by decide +kernel⟩⟩
set_option maxRecDepth 100000 in
theorem mw_X7_takes : MO 65 := ⟨wsG_of 440 rfl (by decide +kernel), wsG_of 64 (by decide +kernel) (by decide +kernel), (fun h => absurd h (by decide +kernel)), (fun _ => ⟨wsG_of 439 (by decide +kernel) (by decide +kernel), (fun h => absurd h (by decide +kernel)), (fun _ => wsG_of 1 (by decide +kernel) (by decide +kernel))⟩), ⟨by decide +kernel, by decide +kernel, by decide +kernel, by decide +kernel, by decide +kernel⟩⟩
set_option maxRecDepth 100000 in
theorem mw_X7_needs : MO 66 := ⟨wsG_of 445 rfl (by decide +kernel), wsG_of 64 (by decide +kernel) (by decide +kernel), (fun h => absurd h (by decide +kernel)), (fun _ => ⟨wsG_of 444 (by decide +kernel) (by decide +kernel), (fun h => absurd h (by decide +kernel)), (fun _ => wsG_of 2 (by decide +kernel) (by decide +kernel))⟩), ⟨by decide +kernel, by decide +kernel, by decide +kernel, by decide +kernel, by decide +kernel⟩⟩
set_option maxRecDepth 100000 in
theorem mw_X7_oneIf : MO 67 := ⟨wsG_of 502 rfl (by decide +kernel), wsG_of 64 (by decide +kernel) (by decide +kernel), (fun h => absurd h (by decide +kernel)), (fun _ => ⟨wsG_of 501 (by decide +kernel) (by decide +kernel), (fun h => absurd h (by decide +kernel)), (fun _ => wsG_of 4 (by decide +kernel) (by decide +kernel))⟩), ⟨by decide +kernel, by decide +kernel, by decide +kernel, by decide +kernel, by decide +kernel⟩⟩
set_option maxRecDepth 100000 in
theorem mw_X7_number : MO 68 := ⟨wsG_of 497 rfl (by decide +kernel), wsG_of 64 (by decide +kernel) (by decide +kernel), (fun h => absurd h (by decide +kernel)), (fun _ => ⟨wsG_of 496 (by decide +kernel) (by decide +kernel), (fun h => absurd h (by decide +kernel)), (fun _ => wsG_of 3 (by decide +kernel) (by decide +kernel))⟩), ⟨by decide +kernel, by decide +kernel, by decide +kernel, by decide +kernel, by decide +kernel⟩⟩
set_option maxRecDepth 100000 in
theorem mw_X7_oneOf : MO 69 := ⟨wsG_of 530 rfl (by decide +kernel), wsG_of 64 (by decide +kernel) (by decide +kernel), (fun h => absurd h (by decide +kernel)), (fun _ => ⟨wsG_of 529 (by decide +kernel) (by decide +kernel), (fun h => absurd h (by decide +kernel)), (fun _ => wsG_of 8 (by decide +kernel) (by decide +kernel))⟩), ⟨by decide +kernel, by decide +kernel, by decide +kernel, by decide +kernel, by decide +kernel⟩⟩
set_option maxRecDepth 100000 in
theorem mw_X7_measure : MO 70 := ⟨wsG_of 537 rfl (by decide +kernel), wsG_of 64 (by decide +kernel) (by decide +kernel), (fun _ => wsG_of 536 (by decide +kernel) (by decide +kernel)), (fun h => absurd h (by decide +kernel)), ⟨by decide +kernel, by decide +kernel, by decide +kernel, by decide +kernel, by decide +kernel⟩⟩
set_option maxRecDepth 100000 in
theorem mw_X7_tested : MO 71 := ⟨wsG_of 534 rfl (by decide +kernel), wsG_of 64 (by decide +kernel) (by decide +kernel), (fun _ => wsG_of 533 (by decide +kernel) (by decide +kernel)), (fun h => absurd h (by decide +kernel)), ⟨by decide +kernel, by decide +kernel, by decide +kernel, by decide +kernel, by decide +kernel⟩⟩
set_option maxRecDepth 100000 in
theorem mw_X7_both : MO 72 := ⟨wsG_of 518 rfl (by decide +kernel), wsG_of 64 (by decide +kernel) (by decide +kernel), (fun h => absurd h (by decide +kernel)), (fun _ => ⟨wsG_of 517 (by decide +kernel) (by decide +kernel), (fun h => absurd h (by decide +kernel)), (fun _ => wsG_of 6 (by decide +kernel) (by decide +kernel))⟩), ⟨by decide +kernel, by decide +kernel, by decide +kernel, by decide +kernel, by decide +kernel⟩⟩
set_option maxRecDepth 100000 in
theorem mw_X7_either : MO 73 := ⟨wsG_of 514 rfl (by decide +kernel), wsG_of 64 (by decide +kernel) (by decide +kernel), (fun h => absurd h (by decide +kernel)), (fun _ => ⟨wsG_of 513 (by decide +kernel) (by decide +kernel), (fun h => absurd h (by decide +kernel)), (fun _ => wsG_of 5 (by decide +kernel) (by decide +kernel))⟩), ⟨by decide +kernel, by decide +kernel, by decide +kernel, by decide +kernel, by decide +kernel⟩⟩
set_option maxRecDepth 100000 in
theorem mw_X7_single : MO 74 := ⟨wsG_of 522 rfl (by decide +kernel), wsG_of 64 (by decide +kernel) (by decide +kernel), (fun h => absurd h (by decide +kernel)), (fun _ => ⟨wsG_of 521 (by decide +kernel) (by decide +kernel), (fun h => absurd h (by decide +kernel)), (fun _ => wsG_of 7 (by decide +kernel) (by decide +kernel))⟩), ⟨by decide +kernel, by decide +kernel, by decide +kernel, by decide +kernel, by decide +kernel⟩⟩
set_option maxRecDepth 100000 in
theorem mw_X7_clause : MO 75 := ⟨wsG_of 436 rfl (by decide +kernel), wsG_of 64 (by decide +kernel) (by decide +kernel), (fun h => absurd h (by decide +kernel)), (fun _ => ⟨wsG_of 435 (by decide +kernel) (by decide +kernel), (fun h => absurd h (by decide +kernel)), (fun _ => wsG_of 0 (by decide +kernel) (by decide +kernel))⟩), ⟨by decide +kernel, by decide +kernel, by decide +kernel, by decide +kernel, by decide +kernel⟩⟩
set_option maxRecDepth 100000 in
theorem mw_X7_parsed : MO 76 := ⟨wsG_of 429 rfl (by decide +kernel), wsG_of 64 (by decide +kernel) (by decide +kernel), (fun h => absurd h (by decide +kernel)), (fun _ => ⟨wsG_of 427 (by decide +kernel) (by decide +kernel), (fun h => absurd h (by decide +kernel)), (fun _ => wsG_of 428 (by decide +kernel) (by decide +kernel))⟩), ⟨by decide +kernel, by decide +kernel, by decide +kernel, by decide +kernel, by decide +kernel⟩⟩
set_option maxRecDepth 100000 in
theorem mw_X8_init : MO 77 := ⟨wsG_of 268 rfl (by decide +kernel), wsG_of 69 (by decide +kernel) (by decide +kernel), (fun h => absurd h (by decide +kernel)), (fun _ => ⟨wsG_of 267 (by decide +kernel) (by decide +kernel), (fun _ => by decide +kernel), (fun h => absurd (by decide +kernel) h)⟩), ⟨by decide +kernel, by decide +kernel, by decide +kernel, by decide +kernel, by decide +kernel⟩⟩
set_option maxRecDepth 100000 in
theorem mw_X8_become : MO 78 := ⟨wsG_of 896 rfl (by decide +kernel), wsG_of 69 (by decide +kernel) (by decide +kernel), (fun h => absurd h (by decide +kernel)), (fun _ => ⟨wsG_of 894 (by decide +kernel) (by decide +kernel), (fun h => absurd h (by decide +kernel)), (fun _ => wsG_of 895 (by decide +kernel) (by decide +kernel))⟩), ⟨by decide +kernel, by decide +kernel, by decide +kernel, by decide +kernel, by decide +kernel⟩⟩
set_option maxRecDepth 100000 in
theorem mw_X8_at : MO 79 := ⟨wsG_of 803 rfl (by decide +kernel), wsG_of 69 (by decide +kernel) (by decide +kernel), (fun h => absurd h (by decide +kernel)), (fun _ => ⟨wsG_of 801 (by decide +kernel) (by decide +kernel), (fun h => absurd h (by decide +kernel)), (fun _ => wsG_of 802 (by decide +kernel) (by decide +kernel))⟩), ⟨by decide +kernel, by decide +kernel, by decide +kernel, by decide +kernel, by decide +kernel⟩⟩
set_option maxRecDepth 100000 in
theorem mw_X8_tell : MO 80 := ⟨wsG_of 791 rfl (by decide +kernel), wsG_of 69 (by decide +kernel) (by decide +kernel), (fun h => absurd h (by decide +kernel)), (fun _ => ⟨wsG_of 789 (by decide +kernel) (by decide +kernel), (fun h => absurd h (by decide +kernel)), (fun _ => wsG_of 790 (by decide +kernel) (by decide +kernel))⟩), ⟨by decide +kernel, by decide +kernel, by decide +kernel, by decide +kernel, by decide +kernel⟩⟩
set_option maxRecDepth 100000 in
theorem mw_X9_init : MO 81 := ⟨wsG_of 129 rfl (by decide +kernel), wsG_of 65 (by decide +kernel) (by decide +kernel), (fun h => absurd h (by decide +kernel)), (fun _ => ⟨wsG_of 128 (by decide +kernel) (by decide +kernel), (fun _ => by decide +kernel), (fun h => absurd (by decide +kernel) h)⟩), ⟨by decide +kernel, by decide +kernel, by decide +kernel, by decide +kernel, by decide +kernel⟩⟩
set_option maxRecDepth 100000 in
theorem mw_X9_become : MO 82 := ⟨wsG_of 799 rfl (by decide +kernel), wsG_of 65 (by decide +kernel) (by decide +kernel), (fun h => absurd h (by decide +kernel)), (fun _ => ⟨wsG_of 797 (by decide +kernel) (by decide +kernel), (fun h => absurd h (by decide +kernel)), (fun _ => wsG_of 798 (by decide +kernel) (by decide +kernel))⟩), ⟨by decide +kernel, by decide +kernel, by decide +kernel, by decide +kernel, by decide +kernel⟩⟩
set_option maxRecDepth 100000 in
theorem mw_X9_stands : MO 83 := ⟨wsG_of 591 rfl (by decide +kernel), wsG_of 65 (by decide +kernel) (by decide +kernel), (fun h => absurd h (by decide +kernel)), (fun _ => ⟨wsG_of 589 (by decide +kernel) (by decide +kernel), (fun h => absurd h (by decide +kernel)), (fun _ => wsG_of 590 (by decide +kernel) (by decide +kernel))⟩), ⟨by decide +kernel, by decide +kernel, by decide +kernel, by decide +kernel, by decide +kernel⟩⟩
set_option maxRecDepth 100000 in
theorem mw_X10_across : MO 84 := ⟨wsG_of 214 rfl (by decide +kernel), wsG_of 63 (by decide +kernel) (by decide +kernel), (fun _ => wsG_of 213 (by decide +kernel) (by decide +kernel)), (fun h => absurd h (by decide +kernel)), ⟨by decide +kernel, by decide +kernel, by decide +kernel, by decide +kernel, by decide +kernel⟩⟩
set_option maxRecDepth 100000 in
theorem mw_X10_facingBy : MO 85 := ⟨wsG_of 687 rfl (by decide +kernel), wsG_of 63 (by decide +kernel) (by decide +kernel), (fun _ => wsG_of 686 (by decide +kernel) (by decide +kernel)), (fun h => absurd h (by decide +kernel)), ⟨by decide +kernel, by decide +kernel, by decide +kernel, by decide +kernel, by decide +kernel⟩⟩
set_option maxRecDepth 100000 in
theorem mw_X10_cameBy : MO 86 := ⟨wsG_of 683 rfl (by decide +kernel), wsG_of 63 (by decide +kernel) (by decide +kernel), (fun _ => wsG_of 682 (by decide +kernel) (by decide +kernel)), (fun h => absurd h (by decide +kernel)), ⟨by decide +kernel, by decide +kernel, by decide +kernel, by decide +kernel, by decide +kernel⟩⟩
set_option maxRecDepth 100000 in
theorem mw_X10_moved : MO 87 := ⟨wsG_of 217 rfl (by decide +kernel), wsG_of 63 (by decide +kernel) (by decide +kernel), (fun _ => wsG_of 216 (by decide +kernel) (by decide +kernel)), (fun h => absurd h (by decide +kernel)), ⟨by decide +kernel, by decide +kernel, by decide +kernel, by decide +kernel, by decide +kernel⟩⟩
set_option maxRecDepth 100000 in
theorem mw_X10_holds : MO 88 := ⟨wsG_of 566 rfl (by decide +kernel), wsG_of 63 (by decide +kernel) (by decide +kernel), (fun _ => wsG_of 565 (by decide +kernel) (by decide +kernel)), (fun h => absurd h (by decide +kernel)), ⟨by decide +kernel, by decide +kernel, by decide +kernel, by decide +kernel, by decide +kernel⟩⟩
set_option maxRecDepth 100000 in
theorem mw_X10_next : MO 89 := ⟨wsG_of 607 rfl (by decide +kernel), wsG_of 63 (by decide +kernel) (by decide +kernel), (fun _ => wsG_of 606 (by decide +kernel) (by decide +kernel)), (fun h => absurd h (by decide +kernel)), ⟨by decide +kernel, by decide +kernel, by decide +kernel, by decide +kernel, by decide +kernel⟩⟩
set_option maxRecDepth 100000 in
theorem mw_X10_init : MO 90 := ⟨wsG_of 89 rfl (by decide +kernel), wsG_of 63 (by decide +kernel) (by decide +kernel), (fun h => absurd h (by decide +kernel)), (fun _ => ⟨wsG_of 88 (by decide +kernel) (by decide +kernel), (fun _ => by decide +kernel), (fun h => absurd (by decide +kernel) h)⟩), ⟨by decide +kernel, by decide +kernel, by decide +kernel, by decide +kernel, by decide +kernel⟩⟩
set_option maxRecDepth 100000 in
theorem mw_X10_feed : MO 91 := ⟨wsG_of 417 rfl (by decide +kernel), wsG_of 63 (by decide +kernel) (by decide +kernel), (fun h => absurd h (by decide +kernel)), (fun _ => ⟨wsG_of 415 (by decide +kernel) (by decide +kernel), (fun h => absurd h (by decide +kernel)), (fun _ => wsG_of 416 (by decide +kernel) (by decide +kernel))⟩), ⟨by decide +kernel, by decide +kernel, by decide +kernel, by decide +kernel, by decide +kernel⟩⟩
set_option maxRecDepth 100000 in
theorem mw_X10_land : MO 92 := ⟨wsG_of 425 rfl (by decide +kernel), wsG_of 63 (by decide +kernel) (by decide +kernel), (fun h => absurd h (by decide +kernel)), (fun _ => ⟨wsG_of 423 (by decide +kernel) (by decide +kernel), (fun h => absurd h (by decide +kernel)), (fun _ => wsG_of 424 (by decide +kernel) (by decide +kernel))⟩), ⟨by decide +kernel, by decide +kernel, by decide +kernel, by decide +kernel, by decide +kernel⟩⟩
set_option maxRecDepth 100000 in
theorem mw_X10_told : MO 93 := ⟨wsG_of 552 rfl (by decide +kernel), wsG_of 63 (by decide +kernel) (by decide +kernel), (fun h => absurd h (by decide +kernel)), (fun _ => ⟨wsG_of 550 (by decide +kernel) (by decide +kernel), (fun h => absurd h (by decide +kernel)), (fun _ => wsG_of 551 (by decide +kernel) (by decide +kernel))⟩), ⟨by decide +kernel, by decide +kernel, by decide +kernel, by decide +kernel, by decide +kernel⟩⟩
set_option maxRecDepth 100000 in
theorem mw_X10_isCell : MO 94 := ⟨wsG_of 559 rfl (by decide +kernel), wsG_of 63 (by decide +kernel) (by decide +kernel), (fun _ => wsG_of 558 (by decide +kernel) (by decide +kernel)), (fun h => absurd h (by decide +kernel)), ⟨by decide +kernel, by decide +kernel, by decide +kernel, by decide +kernel, by decide +kernel⟩⟩
set_option maxRecDepth 100000 in
theorem mw_X10_ground : MO 95 := ⟨wsG_of 556 rfl (by decide +kernel), wsG_of 63 (by decide +kernel) (by decide +kernel), (fun h => absurd h (by decide +kernel)), (fun _ => ⟨wsG_of 554 (by decide +kernel) (by decide +kernel), (fun h => absurd h (by decide +kernel)), (fun _ => wsG_of 555 (by decide +kernel) (by decide +kernel))⟩), ⟨by decide +kernel, by decide +kernel, by decide +kernel, by decide +kernel, by decide +kernel⟩⟩
set_option maxRecDepth 100000 in
theorem mw_X10_isKind : MO 96 := ⟨wsG_of 573 rfl (by decide +kernel), wsG_of 63 (by decide +kernel) (by decide +kernel), (fun _ => wsG_of 572 (by decide +kernel) (by decide +kernel)), (fun h => absurd h (by decide +kernel)), ⟨by decide +kernel, by decide +kernel, by decide +kernel, by decide +kernel, by decide +kernel⟩⟩
set_option maxRecDepth 100000 in
theorem mw_X10_isWay : MO 97 := ⟨wsG_of 576 rfl (by decide +kernel), wsG_of 63 (by decide +kernel) (by decide +kernel), (fun _ => wsG_of 575 (by decide +kernel) (by decide +kernel)), (fun h => absurd h (by decide +kernel)), ⟨by decide +kernel, by decide +kernel, by decide +kernel, by decide +kernel, by decide +kernel⟩⟩
set_option maxRecDepth 100000 in
theorem mw_X10_isNumber : MO 98 := ⟨wsG_of 579 rfl (by decide +kernel), wsG_of 63 (by decide +kernel) (by decide +kernel), (fun _ => wsG_of 578 (by decide +kernel) (by decide +kernel)), (fun h => absurd h (by decide +kernel)), ⟨by decide +kernel, by decide +kernel, by decide +kernel, by decide +kernel, by decide +kernel⟩⟩
set_option maxRecDepth 100000 in
theorem mw_X10_walker : MO 99 := ⟨wsG_of 570 rfl (by decide +kernel), wsG_of 63 (by decide +kernel) (by decide +kernel), (fun h => absurd h (by decide +kernel)), (fun _ => ⟨wsG_of 568 (by decide +kernel) (by decide +kernel), (fun h => absurd h (by decide +kernel)), (fun _ => wsG_of 569 (by decide +kernel) (by decide +kernel))⟩), ⟨by decide +kernel, by decide +kernel, by decide +kernel, by decide +kernel, by decide +kernel⟩⟩
set_option maxRecDepth 100000 in
theorem mw_X10_of : MO 100 := ⟨wsG_of 595 rfl (by decide +kernel), wsG_of 63 (by decide +kernel) (by decide +kernel), (fun h => absurd h (by decide +kernel)), (fun _ => ⟨wsG_of 593 (by decide +kernel) (by decide +kernel), (fun h => absurd h (by decide +kernel)), (fun _ => wsG_of 594 (by decide +kernel) (by decide +kernel))⟩), ⟨by decide +kernel, by decide +kernel, by decide +kernel, by decide +kernel, by decide +kernel⟩⟩
set_option maxRecDepth 100000 in
theorem mw_X10_put : MO 101 := ⟨wsG_of 611 rfl (by decide +kernel), wsG_of 63 (by decide +kernel) (by decide +kernel), (fun h => absurd h (by decide +kernel)), (fun _ => ⟨wsG_of 609 (by decide +kernel) (by decide +kernel), (fun h => absurd h (by decide +kernel)), (fun _ => wsG_of 610 (by decide +kernel) (by decide +kernel))⟩), ⟨by decide +kernel, by decide +kernel, by decide +kernel, by decide +kernel, by decide +kernel⟩⟩
set_option maxRecDepth 100000 in
theorem mw_X10_allowed : MO 102 := ⟨wsG_of 619 rfl (by decide +kernel), wsG_of 63 (by decide +kernel) (by decide +kernel), (fun h => absurd h (by decide +kernel)), (fun _ => ⟨wsG_of 618 (by decide +kernel) (by decide +kernel), (fun h => absurd h (by decide +kernel)), (fun _ => wsG_of 9 (by decide +kernel) (by decide +kernel))⟩), ⟨by decide +kernel, by decide +kernel, by decide +kernel, by decide +kernel, by decide +kernel⟩⟩
set_option maxRecDepth 100000 in
theorem mw_X10_may : MO 103 := ⟨wsG_of 615 rfl (by decide +kernel), wsG_of 63 (by decide +kernel) (by decide +kernel), (fun h => absurd h (by decide +kernel)), (fun _ => ⟨wsG_of 613 (by decide +kernel) (by decide +kernel), (fun h => absurd h (by decide +kernel)), (fun _ => wsG_of 614 (by decide +kernel) (by decide +kernel))⟩), ⟨by decide +kernel, by decide +kernel, by decide +kernel, by decide +kernel, by decide +kernel⟩⟩
set_option maxRecDepth 100000 in
theorem mw_X10_isStep : MO 104 := ⟨wsG_of 675 rfl (by decide +kernel), wsG_of 63 (by decide +kernel) (by decide +kernel), (fun _ => wsG_of 674 (by decide +kernel) (by decide +kernel)), (fun h => absurd h (by decide +kernel)), ⟨by decide +kernel, by decide +kernel, by decide +kernel, by decide +kernel, by decide +kernel⟩⟩
set_option maxRecDepth 100000 in
theorem mw_X10_goes : MO 105 := ⟨wsG_of 679 rfl (by decide +kernel), wsG_of 63 (by decide +kernel) (by decide +kernel), (fun h => absurd h (by decide +kernel)), (fun _ => ⟨wsG_of 678 (by decide +kernel) (by decide +kernel), (fun h => absurd h (by decide +kernel)), (fun _ => wsG_of 15 (by decide +kernel) (by decide +kernel))⟩), ⟨by decide +kernel, by decide +kernel, by decide +kernel, by decide +kernel, by decide +kernel⟩⟩
set_option maxRecDepth 100000 in
theorem mw_X10_step : MO 106 := ⟨wsG_of 672 rfl (by decide +kernel), wsG_of 63 (by decide +kernel) (by decide +kernel), (fun h => absurd h (by decide +kernel)), (fun _ => ⟨wsG_of 670 (by decide +kernel) (by decide +kernel), (fun h => absurd h (by decide +kernel)), (fun _ => wsG_of 671 (by decide +kernel) (by decide +kernel))⟩), ⟨by decide +kernel, by decide +kernel, by decide +kernel, by decide +kernel, by decide +kernel⟩⟩
set_option maxRecDepth 100000 in
theorem mw_X10_isPart : MO 107 := ⟨wsG_of 698 rfl (by decide +kernel), wsG_of 63 (by decide +kernel) (by decide +kernel), (fun _ => wsG_of 697 (by decide +kernel) (by decide +kernel)), (fun h => absurd h (by decide +kernel)), ⟨by decide +kernel, by decide +kernel, by decide +kernel, by decide +kernel, by decide +kernel⟩⟩
set_option maxRecDepth 100000 in
theorem mw_X10_firstStep : MO 108 := ⟨wsG_of 742 rfl (by decide +kernel), wsG_of 63 (by decide +kernel) (by decide +kernel), (fun h => absurd h (by decide +kernel)), (fun _ => ⟨wsG_of 741 (by decide +kernel) (by decide +kernel), (fun h => absurd h (by decide +kernel)), (fun _ => wsG_of 18 (by decide +kernel) (by decide +kernel))⟩), ⟨by decide +kernel, by decide +kernel, by decide +kernel, by decide +kernel, by decide +kernel⟩⟩
set_option maxRecDepth 100000 in
theorem mw_X10_soonest : MO 109 := ⟨wsG_of 695 rfl (by decide +kernel), wsG_of 63 (by decide +kernel) (by decide +kernel), (fun h => absurd h (by decide +kernel)), (fun _ => ⟨wsG_of 693 (by decide +kernel) (by decide +kernel), (fun h => absurd h (by decide +kernel)), (fun _ => wsG_of 694 (by decide +kernel) (by decide +kernel))⟩), ⟨by decide +kernel, by decide +kernel, by decide +kernel, by decide +kernel, by decide +kernel⟩⟩
set_option maxRecDepth 100000 in
theorem mw_X10_begin : MO 110 := ⟨wsG_of 748 rfl (by decide +kernel), wsG_of 63 (by decide +kernel) (by decide +kernel), (fun h => absurd h (by decide +kernel)), (fun _ => ⟨wsG_of 746 (by decide +kernel) (by decide +kernel), (fun h => absurd h (by decide +kernel)), (fun _ => wsG_of 747 (by decide +kernel) (by decide +kernel))⟩), ⟨by decide +kernel, by decide +kernel, by decide +kernel, by decide +kernel, by decide +kernel⟩⟩
set_option maxRecDepth 100000 in
theorem mw_X10_within : MO 111 := ⟨wsG_of 759 rfl (by decide +kernel), wsG_of 63 (by decide +kernel) (by decide +kernel), (fun h => absurd h (by decide +kernel)), (fun _ => ⟨wsG_of 758 (by decide +kernel) (by decide +kernel), (fun h => absurd h (by decide +kernel)), (fun _ => wsG_of 19 (by decide +kernel) (by decide +kernel))⟩), ⟨by decide +kernel, by decide +kernel, by decide +kernel, by decide +kernel, by decide +kernel⟩⟩
set_option maxRecDepth 100000 in
theorem mw_X10_reached : MO 112 := ⟨wsG_of 754 rfl (by decide +kernel), wsG_of 63 (by decide +kernel) (by decide +kernel), (fun h => absurd h (by decide +kernel)), (fun _ => ⟨wsG_of 752 (by decide +kernel) (by decide +kernel), (fun h => absurd h (by decide +kernel)), (fun _ => wsG_of 753 (by decide +kernel) (by decide +kernel))⟩), ⟨by decide +kernel, by decide +kernel, by decide +kernel, by decide +kernel, by decide +kernel⟩⟩
set_option maxRecDepth 100000 in
theorem mw_X10_never : MO 113 := ⟨wsG_of 763 rfl (by decide +kernel), wsG_of 63 (by decide +kernel) (by decide +kernel), (fun h => absurd h (by decide +kernel)), (fun _ => ⟨wsG_of 761 (by decide +kernel) (by decide +kernel), (fun h => absurd h (by decide +kernel)), (fun _ => wsG_of 762 (by decide +kernel) (by decide +kernel))⟩), ⟨by decide +kernel, by decide +kernel, by decide +kernel, by decide +kernel, by decide +kernel⟩⟩
set_option maxRecDepth 100000 in
theorem mw_X10_meet : MO 114 := ⟨wsG_of 768 rfl (by decide +kernel), wsG_of 63 (by decide +kernel) (by decide +kernel), (fun h => absurd h (by decide +kernel)), (fun _ => ⟨wsG_of 766 (by decide +kernel) (by decide +kernel), (fun h => absurd h (by decide +kernel)), (fun _ => wsG_of 767 (by decide +kernel) (by decide +kernel))⟩), ⟨by decide +kernel, by decide +kernel, by decide +kernel, by decide +kernel, by decide +kernel⟩⟩
set_option maxRecDepth 100000 in
theorem mw_X10_home : MO 115 := ⟨wsG_of 779 rfl (by decide +kernel), wsG_of 63 (by decide +kernel) (by decide +kernel), (fun h => absurd h (by decide +kernel)), (fun _ => ⟨wsG_of 777 (by decide +kernel) (by decide +kernel), (fun h => absurd h (by decide +kernel)), (fun _ => wsG_of 778 (by decide +kernel) (by decide +kernel))⟩), ⟨by decide +kernel, by decide +kernel, by decide +kernel, by decide +kernel, by decide +kernel⟩⟩
set_option maxRecDepth 100000 in
theorem mw_X10_row : MO 116 := ⟨wsG_of 787 rfl (by decide +kernel), wsG_of 63 (by decide +kernel) (by decide +kernel), (fun h => absurd h (by decide +kernel)), (fun _ => ⟨wsG_of 785 (by decide +kernel) (by decide +kernel), (fun h => absurd h (by decide +kernel)), (fun _ => wsG_of 786 (by decide +kernel) (by decide +kernel))⟩), ⟨by decide +kernel, by decide +kernel, by decide +kernel, by decide +kernel, by decide +kernel⟩⟩
set_option maxRecDepth 100000 in
theorem mw_X10_hand : MO 117 := ⟨wsG_of 795 rfl (by decide +kernel), wsG_of 63 (by decide +kernel) (by decide +kernel), (fun h => absurd h (by decide +kernel)), (fun _ => ⟨wsG_of 793 (by decide +kernel) (by decide +kernel), (fun h => absurd h (by decide +kernel)), (fun _ => wsG_of 794 (by decide +kernel) (by decide +kernel))⟩), ⟨by decide +kernel, by decide +kernel, by decide +kernel, by decide +kernel, by decide +kernel⟩⟩
set_option maxRecDepth 100000 in
theorem mw_X10_track : MO 118 := ⟨wsG_of 807 rfl (by decide +kernel), wsG_of 63 (by decide +kernel) (by decide +kernel), (fun h => absurd h (by decide +kernel)), (fun _ => ⟨wsG_of 805 (by decide +kernel) (by decide +kernel), (fun h => absurd h (by decide +kernel)), (fun _ => wsG_of 806 (by decide +kernel) (by decide +kernel))⟩), ⟨by decide +kernel, by decide +kernel, by decide +kernel, by decide +kernel, by decide +kernel⟩⟩
set_option maxRecDepth 100000 in
theorem mw_X10_left : MO 119 := ⟨wsG_of 815 rfl (by decide +kernel), wsG_of 63 (by decide +kernel) (by decide +kernel), (fun h => absurd h (by decide +kernel)), (fun _ => ⟨wsG_of 814 (by decide +kernel) (by decide +kernel), (fun h => absurd h (by decide +kernel)), (fun _ => wsG_of 20 (by decide +kernel) (by decide +kernel))⟩), ⟨by decide +kernel, by decide +kernel, by decide +kernel, by decide +kernel, by decide +kernel⟩⟩
set_option maxRecDepth 100000 in
theorem mw_X10_tracks : MO 120 := ⟨wsG_of 811 rfl (by decide +kernel), wsG_of 63 (by decide +kernel) (by decide +kernel), (fun h => absurd h (by decide +kernel)), (fun _ => ⟨wsG_of 809 (by decide +kernel) (by decide +kernel), (fun h => absurd h (by decide +kernel)), (fun _ => wsG_of 810 (by decide +kernel) (by decide +kernel))⟩), ⟨by decide +kernel, by decide +kernel, by decide +kernel, by decide +kernel, by decide +kernel⟩⟩
set_option maxRecDepth 100000 in
theorem mw_X10_common : MO 121 := ⟨wsG_of 864 rfl (by decide +kernel), wsG_of 63 (by decide +kernel) (by decide +kernel), (fun _ => wsG_of 863 (by decide +kernel) (by decide +kernel)), (fun h => absurd h (by decide +kernel)), ⟨by decide +kernel, by decide +kernel, by decide +kernel, by decide +kernel, by decide +kernel⟩⟩
set_option maxRecDepth 100000 in
theorem mw_X10_lot : MO 122 := ⟨wsG_of 827 rfl (by decide +kernel), wsG_of 63 (by decide +kernel) (by decide +kernel), (fun h => absurd h (by decide +kernel)), (fun _ => ⟨wsG_of 825 (by decide +kernel) (by decide +kernel), (fun h => absurd h (by decide +kernel)), (fun _ => wsG_of 826 (by decide +kernel) (by decide +kernel))⟩), ⟨by decide +kernel, by decide +kernel, by decide +kernel, by decide +kernel, by decide +kernel⟩⟩
set_option maxRecDepth 100000 in
theorem mw_X10_slower : MO 123 := ⟨wsG_of 868 rfl (by decide +kernel), wsG_of 63 (by decide +kernel) (by decide +kernel), (fun h => absurd h (by decide +kernel)), (fun _ => ⟨wsG_of 866 (by decide +kernel) (by decide +kernel), (fun h => absurd h (by decide +kernel)), (fun _ => wsG_of 867 (by decide +kernel) (by decide +kernel))⟩), ⟨by decide +kernel, by decide +kernel, by decide +kernel, by decide +kernel, by decide +kernel⟩⟩
set_option maxRecDepth 100000 in
theorem mw_X10_tapeAt : MO 124 := ⟨wsG_of 876 rfl (by decide +kernel), wsG_of 63 (by decide +kernel) (by decide +kernel), (fun h => absurd h (by decide +kernel)), (fun _ => ⟨wsG_of 875 (by decide +kernel) (by decide +kernel), (fun h => absurd h (by decide +kernel)), (fun _ => wsG_of 22 (by decide +kernel) (by decide +kernel))⟩), ⟨by decide +kernel, by decide +kernel, by decide +kernel, by decide +kernel, by decide +kernel⟩⟩
set_option maxRecDepth 100000 in
theorem mw_X10_judge : MO 125 := ⟨wsG_of 872 rfl (by decide +kernel), wsG_of 63 (by decide +kernel) (by decide +kernel), (fun h => absurd h (by decide +kernel)), (fun _ => ⟨wsG_of 870 (by decide +kernel) (by decide +kernel), (fun h => absurd h (by decide +kernel)), (fun _ => wsG_of 871 (by decide +kernel) (by decide +kernel))⟩), ⟨by decide +kernel, by decide +kernel, by decide +kernel, by decide +kernel, by decide +kernel⟩⟩
set_option maxRecDepth 100000 in
theorem mw_X10_image : MO 126 := ⟨wsG_of 888 rfl (by decide +kernel), wsG_of 63 (by decide +kernel) (by decide +kernel), (fun h => absurd h (by decide +kernel)), (fun _ => ⟨wsG_of 886 (by decide +kernel) (by decide +kernel), (fun h => absurd h (by decide +kernel)), (fun _ => wsG_of 887 (by decide +kernel) (by decide +kernel))⟩), ⟨by decide +kernel, by decide +kernel, by decide +kernel, by decide +kernel, by decide +kernel⟩⟩
set_option maxRecDepth 100000 in
theorem mw_X10_undo : MO 127 := ⟨wsG_of 904 rfl (by decide +kernel), wsG_of 63 (by decide +kernel) (by decide +kernel), (fun h => absurd h (by decide +kernel)), (fun _ => ⟨wsG_of 902 (by decide +kernel) (by decide +kernel), (fun h => absurd h (by decide +kernel)), (fun _ => wsG_of 903 (by decide +kernel) (by decide +kernel))⟩), ⟨by decide +kernel, by decide +kernel, by decide +kernel, by decide +kernel, by decide +kernel⟩⟩
set_option maxRecDepth 100000 in
theorem mw_X10_act : MO 128 := ⟨wsG_of 908 rfl (by decide +kernel), wsG_of 63 (by decide +kernel) (by decide +kernel), (fun h => absurd h (by decide +kernel)), (fun _ => ⟨wsG_of 906 (by decide +kernel) (by decide +kernel), (fun h => absurd h (by decide +kernel)), (fun _ => wsG_of 907 (by decide +kernel) (by decide +kernel))⟩), ⟨by decide +kernel, by decide +kernel, by decide +kernel, by decide +kernel, by decide +kernel⟩⟩
set_option maxRecDepth 100000 in
theorem mw_X10_trace : MO 129 := ⟨wsG_of 931 rfl (by decide +kernel), wsG_of 63 (by decide +kernel) (by decide +kernel), (fun h => absurd h (by decide +kernel)), (fun _ => ⟨wsG_of 929 (by decide +kernel) (by decide +kernel), (fun h => absurd h (by decide +kernel)), (fun _ => wsG_of 930 (by decide +kernel) (by decide +kernel))⟩), ⟨by decide +kernel, by decide +kernel, by decide +kernel, by decide +kernel, by decide +kernel⟩⟩
set_option maxRecDepth 100000 in
theorem mw_X10_above : MO 130 := ⟨wsG_of 941 rfl (by decide +kernel), wsG_of 63 (by decide +kernel) (by decide +kernel), (fun _ => wsG_of 940 (by decide +kernel) (by decide +kernel)), (fun h => absurd h (by decide +kernel)), ⟨by decide +kernel, by decide +kernel, by decide +kernel, by decide +kernel, by decide +kernel⟩⟩
set_option maxRecDepth 100000 in
theorem mw_X10_isUnder : MO 131 := ⟨wsG_of 938 rfl (by decide +kernel), wsG_of 63 (by decide +kernel) (by decide +kernel), (fun _ => wsG_of 937 (by decide +kernel) (by decide +kernel)), (fun h => absurd h (by decide +kernel)), ⟨by decide +kernel, by decide +kernel, by decide +kernel, by decide +kernel, by decide +kernel⟩⟩
set_option maxRecDepth 100000 in
theorem mw_X10_taken : MO 132 := ⟨wsG_of 935 rfl (by decide +kernel), wsG_of 63 (by decide +kernel) (by decide +kernel), (fun h => absurd h (by decide +kernel)), (fun _ => ⟨wsG_of 933 (by decide +kernel) (by decide +kernel), (fun h => absurd h (by decide +kernel)), (fun _ => wsG_of 934 (by decide +kernel) (by decide +kernel))⟩), ⟨by decide +kernel, by decide +kernel, by decide +kernel, by decide +kernel, by decide +kernel⟩⟩
set_option maxRecDepth 100000 in
theorem mw_X10_count : MO 133 := ⟨wsG_of 945 rfl (by decide +kernel), wsG_of 63 (by decide +kernel) (by decide +kernel), (fun h => absurd h (by decide +kernel)), (fun _ => ⟨wsG_of 943 (by decide +kernel) (by decide +kernel), (fun h => absurd h (by decide +kernel)), (fun _ => wsG_of 944 (by decide +kernel) (by decide +kernel))⟩), ⟨by decide +kernel, by decide +kernel, by decide +kernel, by decide +kernel, by decide +kernel⟩⟩
set_option maxRecDepth 100000 in
theorem mw_X10_tape : MO 134 := ⟨wsG_of 949 rfl (by decide +kernel), wsG_of 63 (by decide +kernel) (by decide +kernel), (fun h => absurd h (by decide +kernel)), (fun _ => ⟨wsG_of 947 (by decide +kernel) (by decide +kernel), (fun h => absurd h (by decide +kernel)), (fun _ => wsG_of 948 (by decide +kernel) (by decide +kernel))⟩), ⟨by decide +kernel, by decide +kernel, by decide +kernel, by decide +kernel, by decide +kernel⟩⟩
set_option maxRecDepth 100000 in
theorem mw_X10_item : MO 135 := ⟨wsG_of 958 rfl (by decide +kernel), wsG_of 63 (by decide +kernel) (by decide +kernel), (fun h => absurd h (by decide +kernel)), (fun _ => ⟨wsG_of 956 (by decide +kernel) (by decide +kernel), (fun h => absurd h (by decide +kernel)), (fun _ => wsG_of 957 (by decide +kernel) (by decide +kernel))⟩), ⟨by decide +kernel, by decide +kernel, by decide +kernel, by decide +kernel, by decide +kernel⟩⟩
set_option maxRecDepth 100000 in
theorem mw_X10_read : MO 136 := ⟨wsG_of 970 rfl (by decide +kernel), wsG_of 63 (by decide +kernel) (by decide +kernel), (fun h => absurd h (by decide +kernel)), (fun _ => ⟨wsG_of 968 (by decide +kernel) (by decide +kernel), (fun h => absurd h (by decide +kernel)), (fun _ => wsG_of 969 (by decide +kernel) (by decide +kernel))⟩), ⟨by decide +kernel, by decide +kernel, by decide +kernel, by decide +kernel, by decide +kernel⟩⟩
set_option maxRecDepth 100000 in
theorem mw_X10_shift : MO 137 := ⟨wsG_of 974 rfl (by decide +kernel), wsG_of 63 (by decide +kernel) (by decide +kernel), (fun h => absurd h (by decide +kernel)), (fun _ => ⟨wsG_of 972 (by decide +kernel) (by decide +kernel), (fun h => absurd h (by decide +kernel)), (fun _ => wsG_of 973 (by decide +kernel) (by decide +kernel))⟩), ⟨by decide +kernel, by decide +kernel, by decide +kernel, by decide +kernel, by decide +kernel⟩⟩
set_option maxRecDepth 100000 in
theorem mw_X11_init : MO 138 := ⟨wsG_of 984 rfl (by decide +kernel), wsG_of 74 (by decide +kernel) (by decide +kernel), (fun h => absurd h (by decide +kernel)), (fun _ => ⟨wsG_of 983 (by decide +kernel) (by decide +kernel), (fun _ => by decide +kernel), (fun h => absurd (by decide +kernel) h)⟩), ⟨by decide +kernel, by decide +kernel, by decide +kernel, by decide +kernel, by decide +kernel⟩⟩
set_option maxRecDepth 100000 in
theorem mw_X11_isIn : MO 139 := ⟨wsG_of 1174 rfl (by decide +kernel), wsG_of 74 (by decide +kernel) (by decide +kernel), (fun _ => wsG_of 1173 (by decide +kernel) (by decide +kernel)), (fun h => absurd h (by decide +kernel)), ⟨by decide +kernel, by decide +kernel, by decide +kernel, by decide +kernel, by decide +kernel⟩⟩
set_option maxRecDepth 100000 in
theorem mw_X11_isWalker : MO 140 := ⟨wsG_of 1194 rfl (by decide +kernel), wsG_of 74 (by decide +kernel) (by decide +kernel), (fun h => absurd h (by decide +kernel)), (fun _ => ⟨wsG_of 1193 (by decide +kernel) (by decide +kernel), (fun h => absurd h (by decide +kernel)), (fun _ => wsG_of 40 (by decide +kernel) (by decide +kernel))⟩), ⟨by decide +kernel, by decide +kernel, by decide +kernel, by decide +kernel, by decide +kernel⟩⟩
set_option maxRecDepth 100000 in
theorem mw_X11_isCell : MO 141 := ⟨wsG_of 1171 rfl (by decide +kernel), wsG_of 74 (by decide +kernel) (by decide +kernel), (fun _ => wsG_of 1170 (by decide +kernel) (by decide +kernel)), (fun h => absurd h (by decide +kernel)), ⟨by decide +kernel, by decide +kernel, by decide +kernel, by decide +kernel, by decide +kernel⟩⟩
set_option maxRecDepth 100000 in
theorem mw_X11_get : MO 142 := ⟨wsG_of 1202 rfl (by decide +kernel), wsG_of 74 (by decide +kernel) (by decide +kernel), (fun h => absurd h (by decide +kernel)), (fun _ => ⟨wsG_of 1201 (by decide +kernel) (by decide +kernel), (fun h => absurd h (by decide +kernel)), (fun _ => wsG_of 42 (by decide +kernel) (by decide +kernel))⟩), ⟨by decide +kernel, by decide +kernel, by decide +kernel, by decide +kernel, by decide +kernel⟩⟩
set_option maxRecDepth 100000 in
theorem mw_X11_puts : MO 143 := ⟨wsG_of 1186 rfl (by decide +kernel), wsG_of 74 (by decide +kernel) (by decide +kernel), (fun h => absurd h (by decide +kernel)), (fun _ => ⟨wsG_of 1185 (by decide +kernel) (by decide +kernel), (fun h => absurd h (by decide +kernel)), (fun _ => wsG_of 39 (by decide +kernel) (by decide +kernel))⟩), ⟨by decide +kernel, by decide +kernel, by decide +kernel, by decide +kernel, by decide +kernel⟩⟩
set_option maxRecDepth 100000 in
theorem mw_X11_feed : MO 144 := ⟨wsG_of 1093 rfl (by decide +kernel), wsG_of 74 (by decide +kernel) (by decide +kernel), (fun h => absurd h (by decide +kernel)), (fun _ => ⟨wsG_of 1091 (by decide +kernel) (by decide +kernel), (fun h => absurd h (by decide +kernel)), (fun _ => wsG_of 1092 (by decide +kernel) (by decide +kernel))⟩), ⟨by decide +kernel, by decide +kernel, by decide +kernel, by decide +kernel, by decide +kernel⟩⟩
set_option maxRecDepth 100000 in
theorem mw_X11_here : MO 145 := ⟨wsG_of 1109 rfl (by decide +kernel), wsG_of 74 (by decide +kernel) (by decide +kernel), (fun h => absurd h (by decide +kernel)), (fun _ => ⟨wsG_of 1108 (by decide +kernel) (by decide +kernel), (fun h => absurd h (by decide +kernel)), (fun _ => wsG_of 27 (by decide +kernel) (by decide +kernel))⟩), ⟨by decide +kernel, by decide +kernel, by decide +kernel, by decide +kernel, by decide +kernel⟩⟩
set_option maxRecDepth 100000 in
theorem mw_X11_takes : MO 146 := ⟨wsG_of 1117 rfl (by decide +kernel), wsG_of 74 (by decide +kernel) (by decide +kernel), (fun h => absurd h (by decide +kernel)), (fun _ => ⟨wsG_of 1116 (by decide +kernel) (by decide +kernel), (fun h => absurd h (by decide +kernel)), (fun _ => wsG_of 29 (by decide +kernel) (by decide +kernel))⟩), ⟨by decide +kernel, by decide +kernel, by decide +kernel, by decide +kernel, by decide +kernel⟩⟩
set_option maxRecDepth 100000 in
theorem mw_X11_number : MO 147 := ⟨wsG_of 1121 rfl (by decide +kernel), wsG_of 74 (by decide +kernel) (by decide +kernel), (fun h => absurd h (by decide +kernel)), (fun _ => ⟨wsG_of 1120 (by decide +kernel) (by decide +kernel), (fun h => absurd h (by decide +kernel)), (fun _ => wsG_of 30 (by decide +kernel) (by decide +kernel))⟩), ⟨by decide +kernel, by decide +kernel, by decide +kernel, by decide +kernel, by decide +kernel⟩⟩
set_option maxRecDepth 100000 in
theorem mw_X11_amount : MO 148 := ⟨wsG_of 1147 rfl (by decide +kernel), wsG_of 74 (by decide +kernel) (by decide +kernel), (fun _ => wsG_of 1146 (by decide +kernel) (by decide +kernel)), (fun h => absurd h (by decide +kernel)), ⟨by decide +kernel, by decide +kernel, by decide +kernel, by decide +kernel, by decide +kernel⟩⟩
set_option maxRecDepth 100000 in
theorem mw_X11_valueOf : MO 149 := ⟨wsG_of 1144 rfl (by decide +kernel), wsG_of 74 (by decide +kernel) (by decide +kernel), (fun _ => wsG_of 1143 (by decide +kernel) (by decide +kernel)), (fun h => absurd h (by decide +kernel)), ⟨by decide +kernel, by decide +kernel, by decide +kernel, by decide +kernel, by decide +kernel⟩⟩
set_option maxRecDepth 100000 in
theorem mw_X11_test : MO 150 := ⟨wsG_of 1141 rfl (by decide +kernel), wsG_of 74 (by decide +kernel) (by decide +kernel), (fun h => absurd h (by decide +kernel)), (fun _ => ⟨wsG_of 1140 (by decide +kernel) (by decide +kernel), (fun h => absurd h (by decide +kernel)), (fun _ => wsG_of 35 (by decide +kernel) (by decide +kernel))⟩), ⟨by decide +kernel, by decide +kernel, by decide +kernel, by decide +kernel, by decide +kernel⟩⟩
set_option maxRecDepth 100000 in
theorem mw_X11_either : MO 151 := ⟨wsG_of 1129 rfl (by decide +kernel), wsG_of 74 (by decide +kernel) (by decide +kernel), (fun h => absurd h (by decide +kernel)), (fun _ => ⟨wsG_of 1128 (by decide +kernel) (by decide +kernel), (fun h => absurd h (by decide +kernel)), (fun _ => wsG_of 32 (by decide +kernel) (by decide +kernel))⟩), ⟨by decide +kernel, by decide +kernel, by decide +kernel, by decide +kernel, by decide +kernel⟩⟩
set_option maxRecDepth 100000 in
theorem mw_X11_factor : MO 152 := ⟨wsG_of 1137 rfl (by decide +kernel), wsG_of 74 (by decide +kernel) (by decide +kernel), (fun h => absurd h (by decide +kernel)), (fun _ => ⟨wsG_of 1136 (by decide +kernel) (by decide +kernel), (fun h => absurd h (by decide +kernel)), (fun _ => wsG_of 34 (by decide +kernel) (by decide +kernel))⟩), ⟨by decide +kernel, by decide +kernel, by decide +kernel, by decide +kernel, by decide +kernel⟩⟩
set_option maxRecDepth 100000 in
theorem mw_X11_term : MO 153 := ⟨wsG_of 1133 rfl (by decide +kernel), wsG_of 74 (by decide +kernel) (by decide +kernel), (fun h => absurd h (by decide +kernel)), (fun _ => ⟨wsG_of 1132 (by decide +kernel) (by decide +kernel), (fun h => absurd h (by decide +kernel)), (fun _ => wsG_of 33 (by decide +kernel) (by decide +kernel))⟩), ⟨by decide +kernel, by decide +kernel, by decide +kernel, by decide +kernel, by decide +kernel⟩⟩
set_option maxRecDepth 100000 in
theorem mw_X11_word : MO 154 := ⟨wsG_of 1113 rfl (by decide +kernel), wsG_of 74 (by decide +kernel) (by decide +kernel), (fun h => absurd h (by decide +kernel)), (fun _ => ⟨wsG_of 1112 (by decide +kernel) (by decide +kernel), (fun h => absurd h (by decide +kernel)), (fun _ => wsG_of 28 (by decide +kernel) (by decide +kernel))⟩), ⟨by decide +kernel, by decide +kernel, by decide +kernel, by decide +kernel, by decide +kernel⟩⟩
set_option maxRecDepth 100000 in
theorem mw_X11_marksBy : MO 155 := ⟨wsG_of 1125 rfl (by decide +kernel), wsG_of 74 (by decide +kernel) (by decide +kernel), (fun h => absurd h (by decide +kernel)), (fun _ => ⟨wsG_of 1124 (by decide +kernel) (by decide +kernel), (fun h => absurd h (by decide +kernel)), (fun _ => wsG_of 31 (by decide +kernel) (by decide +kernel))⟩), ⟨by decide +kernel, by decide +kernel, by decide +kernel, by decide +kernel, by decide +kernel⟩⟩
set_option maxRecDepth 100000 in
theorem mw_X11_clause : MO 156 := ⟨wsG_of 1105 rfl (by decide +kernel), wsG_of 74 (by decide +kernel) (by decide +kernel), (fun h => absurd h (by decide +kernel)), (fun _ => ⟨wsG_of 1104 (by decide +kernel) (by decide +kernel), (fun h => absurd h (by decide +kernel)), (fun _ => wsG_of 26 (by decide +kernel) (by decide +kernel))⟩), ⟨by decide +kernel, by decide +kernel, by decide +kernel, by decide +kernel, by decide +kernel⟩⟩
set_option maxRecDepth 100000 in
theorem mw_X11_held : MO 157 := ⟨wsG_of 1152 rfl (by decide +kernel), wsG_of 74 (by decide +kernel) (by decide +kernel), (fun _ => wsG_of 1151 (by decide +kernel) (by decide +kernel)), (fun h => absurd h (by decide +kernel)), ⟨by decide +kernel, by decide +kernel, by decide +kernel, by decide +kernel, by decide +kernel⟩⟩
set_option maxRecDepth 100000 in
theorem mw_X11_reads : MO 158 := ⟨wsG_of 1101 rfl (by decide +kernel), wsG_of 74 (by decide +kernel) (by decide +kernel), (fun h => absurd h (by decide +kernel)), (fun _ => ⟨wsG_of 1100 (by decide +kernel) (by decide +kernel), (fun h => absurd h (by decide +kernel)), (fun _ => wsG_of 25 (by decide +kernel) (by decide +kernel))⟩), ⟨by decide +kernel, by decide +kernel, by decide +kernel, by decide +kernel, by decide +kernel⟩⟩
set_option maxRecDepth 100000 in
theorem mw_X11_land : MO 159 := ⟨wsG_of 1097 rfl (by decide +kernel), wsG_of 74 (by decide +kernel) (by decide +kernel), (fun h => absurd h (by decide +kernel)), (fun _ => ⟨wsG_of 1095 (by decide +kernel) (by decide +kernel), (fun h => absurd h (by decide +kernel)), (fun _ => wsG_of 1096 (by decide +kernel) (by decide +kernel))⟩), ⟨by decide +kernel, by decide +kernel, by decide +kernel, by decide +kernel, by decide +kernel⟩⟩
set_option maxRecDepth 100000 in
theorem mw_X11_onBeats : MO 160 := ⟨wsG_of 1160 rfl (by decide +kernel), wsG_of 74 (by decide +kernel) (by decide +kernel), (fun h => absurd h (by decide +kernel)), (fun _ => ⟨wsG_of 1159 (by decide +kernel) (by decide +kernel), (fun h => absurd h (by decide +kernel)), (fun _ => wsG_of 36 (by decide +kernel) (by decide +kernel))⟩), ⟨by decide +kernel, by decide +kernel, by decide +kernel, by decide +kernel, by decide +kernel⟩⟩
set_option maxRecDepth 100000 in
theorem mw_X11_beats : MO 161 := ⟨wsG_of 1164 rfl (by decide +kernel), wsG_of 74 (by decide +kernel) (by decide +kernel), (fun h => absurd h (by decide +kernel)), (fun _ => ⟨wsG_of 1163 (by decide +kernel) (by decide +kernel), (fun h => absurd h (by decide +kernel)), (fun _ => wsG_of 37 (by decide +kernel) (by decide +kernel))⟩), ⟨by decide +kernel, by decide +kernel, by decide +kernel, by decide +kernel, by decide +kernel⟩⟩
set_option maxRecDepth 100000 in
theorem mw_X11_told : MO 162 := ⟨wsG_of 1156 rfl (by decide +kernel), wsG_of 74 (by decide +kernel) (by decide +kernel), (fun h => absurd h (by decide +kernel)), (fun _ => ⟨wsG_of 1154 (by decide +kernel) (by decide +kernel), (fun h => absurd h (by decide +kernel)), (fun _ => wsG_of 1155 (by decide +kernel) (by decide +kernel))⟩), ⟨by decide +kernel, by decide +kernel, by decide +kernel, by decide +kernel, by decide +kernel⟩⟩
set_option maxRecDepth 100000 in
theorem mw_X11_isMarked : MO 163 := ⟨wsG_of 1178 rfl (by decide +kernel), wsG_of 74 (by decide +kernel) (by decide +kernel), (fun h => absurd h (by decide +kernel)), (fun _ => ⟨wsG_of 1177 (by decide +kernel) (by decide +kernel), (fun h => absurd h (by decide +kernel)), (fun _ => wsG_of 38 (by decide +kernel) (by decide +kernel))⟩), ⟨by decide +kernel, by decide +kernel, by decide +kernel, by decide +kernel, by decide +kernel⟩⟩
set_option maxRecDepth 100000 in
theorem mw_X11_ground : MO 164 := ⟨wsG_of 1168 rfl (by decide +kernel), wsG_of 74 (by decide +kernel) (by decide +kernel), (fun h => absurd h (by decide +kernel)), (fun _ => ⟨wsG_of 1166 (by decide +kernel) (by decide +kernel), (fun h => absurd h (by decide +kernel)), (fun _ => wsG_of 1167 (by decide +kernel) (by decide +kernel))⟩), ⟨by decide +kernel, by decide +kernel, by decide +kernel, by decide +kernel, by decide +kernel⟩⟩
set_option maxRecDepth 100000 in
theorem mw_X11_walker : MO 165 := ⟨wsG_of 1182 rfl (by decide +kernel), wsG_of 74 (by decide +kernel) (by decide +kernel), (fun h => absurd h (by decide +kernel)), (fun _ => ⟨wsG_of 1180 (by decide +kernel) (by decide +kernel), (fun h => absurd h (by decide +kernel)), (fun _ => wsG_of 1181 (by decide +kernel) (by decide +kernel))⟩), ⟨by decide +kernel, by decide +kernel, by decide +kernel, by decide +kernel, by decide +kernel⟩⟩
set_option maxRecDepth 100000 in
theorem mw_X11_beatOf : MO 166 := ⟨wsG_of 1198 rfl (by decide +kernel), wsG_of 74 (by decide +kernel) (by decide +kernel), (fun h => absurd h (by decide +kernel)), (fun _ => ⟨wsG_of 1197 (by decide +kernel) (by decide +kernel), (fun h => absurd h (by decide +kernel)), (fun _ => wsG_of 41 (by decide +kernel) (by decide +kernel))⟩), ⟨by decide +kernel, by decide +kernel, by decide +kernel, by decide +kernel, by decide +kernel⟩⟩
set_option maxRecDepth 100000 in
theorem mw_X11_of : MO 167 := ⟨wsG_of 1190 rfl (by decide +kernel), wsG_of 74 (by decide +kernel) (by decide +kernel), (fun h => absurd h (by decide +kernel)), (fun _ => ⟨wsG_of 1188 (by decide +kernel) (by decide +kernel), (fun h => absurd h (by decide +kernel)), (fun _ => wsG_of 1189 (by decide +kernel) (by decide +kernel))⟩), ⟨by decide +kernel, by decide +kernel, by decide +kernel, by decide +kernel, by decide +kernel⟩⟩
set_option maxRecDepth 100000 in
theorem mw_X11_put : MO 168 := ⟨wsG_of 1206 rfl (by decide +kernel), wsG_of 74 (by decide +kernel) (by decide +kernel), (fun h => absurd h (by decide +kernel)), (fun _ => ⟨wsG_of 1204 (by decide +kernel) (by decide +kernel), (fun h => absurd h (by decide +kernel)), (fun _ => wsG_of 1205 (by decide +kernel) (by decide +kernel))⟩), ⟨by decide +kernel, by decide +kernel, by decide +kernel, by decide +kernel, by decide +kernel⟩⟩
set_option maxRecDepth 100000 in
theorem mw_X11_beside : MO 169 := ⟨wsG_of 1229 rfl (by decide +kernel), wsG_of 74 (by decide +kernel) (by decide +kernel), (fun _ => wsG_of 1228 (by decide +kernel) (by decide +kernel)), (fun h => absurd h (by decide +kernel)), ⟨by decide +kernel, by decide +kernel, by decide +kernel, by decide +kernel, by decide +kernel⟩⟩
set_option maxRecDepth 100000 in
theorem mw_X11_goesOn : MO 170 := ⟨wsG_of 1226 rfl (by decide +kernel), wsG_of 74 (by decide +kernel) (by decide +kernel), (fun h => absurd h (by decide +kernel)), (fun _ => ⟨wsG_of 1225 (by decide +kernel) (by decide +kernel), (fun h => absurd h (by decide +kernel)), (fun _ => wsG_of 46 (by decide +kernel) (by decide +kernel))⟩), ⟨by decide +kernel, by decide +kernel, by decide +kernel, by decide +kernel, by decide +kernel⟩⟩
set_option maxRecDepth 100000 in
theorem mw_X11_backTo : MO 171 := ⟨wsG_of 1237 rfl (by decide +kernel), wsG_of 74 (by decide +kernel) (by decide +kernel), (fun h => absurd h (by decide +kernel)), (fun _ => ⟨wsG_of 1236 (by decide +kernel) (by decide +kernel), (fun h => absurd h (by decide +kernel)), (fun _ => wsG_of 48 (by decide +kernel) (by decide +kernel))⟩), ⟨by decide +kernel, by decide +kernel, by decide +kernel, by decide +kernel, by decide +kernel⟩⟩
set_option maxRecDepth 100000 in
theorem mw_X11_goesBack : MO 172 := ⟨wsG_of 1233 rfl (by decide +kernel), wsG_of 74 (by decide +kernel) (by decide +kernel), (fun h => absurd h (by decide +kernel)), (fun _ => ⟨wsG_of 1232 (by decide +kernel) (by decide +kernel), (fun h => absurd h (by decide +kernel)), (fun _ => wsG_of 47 (by decide +kernel) (by decide +kernel))⟩), ⟨by decide +kernel, by decide +kernel, by decide +kernel, by decide +kernel, by decide +kernel⟩⟩
set_option maxRecDepth 100000 in
theorem mw_X11_mayOn : MO 173 := ⟨wsG_of 1222 rfl (by decide +kernel), wsG_of 74 (by decide +kernel) (by decide +kernel), (fun h => absurd h (by decide +kernel)), (fun _ => ⟨wsG_of 1221 (by decide +kernel) (by decide +kernel), (fun h => absurd h (by decide +kernel)), (fun _ => wsG_of 45 (by decide +kernel) (by decide +kernel))⟩), ⟨by decide +kernel, by decide +kernel, by decide +kernel, by decide +kernel, by decide +kernel⟩⟩
set_option maxRecDepth 100000 in
theorem mw_X11_mayBy : MO 174 := ⟨wsG_of 1218 rfl (by decide +kernel), wsG_of 74 (by decide +kernel) (by decide +kernel), (fun h => absurd h (by decide +kernel)), (fun _ => ⟨wsG_of 1217 (by decide +kernel) (by decide +kernel), (fun h => absurd h (by decide +kernel)), (fun _ => wsG_of 44 (by decide +kernel) (by decide +kernel))⟩), ⟨by decide +kernel, by decide +kernel, by decide +kernel, by decide +kernel, by decide +kernel⟩⟩
set_option maxRecDepth 100000 in
theorem mw_X11_mayNow : MO 175 := ⟨wsG_of 1214 rfl (by decide +kernel), wsG_of 74 (by decide +kernel) (by decide +kernel), (fun h => absurd h (by decide +kernel)), (fun _ => ⟨wsG_of 1213 (by decide +kernel) (by decide +kernel), (fun h => absurd h (by decide +kernel)), (fun _ => wsG_of 43 (by decide +kernel) (by decide +kernel))⟩), ⟨by decide +kernel, by decide +kernel, by decide +kernel, by decide +kernel, by decide +kernel⟩⟩
set_option maxRecDepth 100000 in
theorem mw_X11_may : MO 176 := ⟨wsG_of 1210 rfl (by decide +kernel), wsG_of 74 (by decide +kernel) (by decide +kernel), (fun h => absurd h (by decide +kernel)), (fun _ => ⟨wsG_of 1208 (by decide +kernel) (by decide +kernel), (fun h => absurd h (by decide +kernel)), (fun _ => wsG_of 1209 (by decide +kernel) (by decide +kernel))⟩), ⟨by decide +kernel, by decide +kernel, by decide +kernel, by decide +kernel, by decide +kernel⟩⟩
set_option maxRecDepth 100000 in
theorem mw_X11_steps : MO 177 := ⟨wsG_of 1245 rfl (by decide +kernel), wsG_of 74 (by decide +kernel) (by decide +kernel), (fun h => absurd h (by decide +kernel)), (fun _ => ⟨wsG_of 1244 (by decide +kernel) (by decide +kernel), (fun h => absurd h (by decide +kernel)), (fun _ => wsG_of 49 (by decide +kernel) (by decide +kernel))⟩), ⟨by decide +kernel, by decide +kernel, by decide +kernel, by decide +kernel, by decide +kernel⟩⟩
set_option maxRecDepth 100000 in
theorem mw_X11_step : MO 178 := ⟨wsG_of 1241 rfl (by decide +kernel), wsG_of 74 (by decide +kernel) (by decide +kernel), (fun h => absurd h (by decide +kernel)), (fun _ => ⟨wsG_of 1239 (by decide +kernel) (by decide +kernel), (fun h => absurd h (by decide +kernel)), (fun _ => wsG_of 1240 (by decide +kernel) (by decide +kernel))⟩), ⟨by decide +kernel, by decide +kernel, by decide +kernel, by decide +kernel, by decide +kernel⟩⟩
set_option maxRecDepth 100000 in
theorem mw_X11_stateOf : MO 179 := ⟨wsG_of 1260 rfl (by decide +kernel), wsG_of 74 (by decide +kernel) (by decide +kernel), (fun _ => wsG_of 1259 (by decide +kernel) (by decide +kernel)), (fun h => absurd h (by decide +kernel)), ⟨by decide +kernel, by decide +kernel, by decide +kernel, by decide +kernel, by decide +kernel⟩⟩
set_option maxRecDepth 100000 in
theorem mw_X11_comesTo : MO 180 := ⟨wsG_of 1271 rfl (by decide +kernel), wsG_of 74 (by decide +kernel) (by decide +kernel), (fun _ => wsG_of 1270 (by decide +kernel) (by decide +kernel)), (fun h => absurd h (by decide +kernel)), ⟨by decide +kernel, by decide +kernel, by decide +kernel, by decide +kernel, by decide +kernel⟩⟩
set_option maxRecDepth 100000 in
theorem mw_X11_begins : MO 181 := ⟨wsG_of 1257 rfl (by decide +kernel), wsG_of 74 (by decide +kernel) (by decide +kernel), (fun h => absurd h (by decide +kernel)), (fun _ => ⟨wsG_of 1256 (by decide +kernel) (by decide +kernel), (fun h => absurd h (by decide +kernel)), (fun _ => wsG_of 51 (by decide +kernel) (by decide +kernel))⟩), ⟨by decide +kernel, by decide +kernel, by decide +kernel, by decide +kernel, by decide +kernel⟩⟩
set_option maxRecDepth 100000 in
theorem mw_X11_beginsAs : MO 182 := ⟨wsG_of 1253 rfl (by decide +kernel), wsG_of 74 (by decide +kernel) (by decide +kernel), (fun h => absurd h (by decide +kernel)), (fun _ => ⟨wsG_of 1252 (by decide +kernel) (by decide +kernel), (fun h => absurd h (by decide +kernel)), (fun _ => wsG_of 50 (by decide +kernel) (by decide +kernel))⟩), ⟨by decide +kernel, by decide +kernel, by decide +kernel, by decide +kernel, by decide +kernel⟩⟩
set_option maxRecDepth 100000 in
theorem mw_X11_bits : MO 183 := ⟨wsG_of 1274 rfl (by decide +kernel), wsG_of 74 (by decide +kernel) (by decide +kernel), (fun _ => wsG_of 1273 (by decide +kernel) (by decide +kernel)), (fun h => absurd h (by decide +kernel)), ⟨by decide +kernel, by decide +kernel, by decide +kernel, by decide +kernel, by decide +kernel⟩⟩
set_option maxRecDepth 100000 in
theorem mw_X11_goesBeat : MO 184 := ⟨wsG_of 1268 rfl (by decide +kernel), wsG_of 74 (by decide +kernel) (by decide +kernel), (fun h => absurd h (by decide +kernel)), (fun _ => ⟨wsG_of 1267 (by decide +kernel) (by decide +kernel), (fun h => absurd h (by decide +kernel)), (fun _ => wsG_of 53 (by decide +kernel) (by decide +kernel))⟩), ⟨by decide +kernel, by decide +kernel, by decide +kernel, by decide +kernel, by decide +kernel⟩⟩
set_option maxRecDepth 100000 in
theorem mw_X11_cellsNow : MO 185 := ⟨wsG_of 1294 rfl (by decide +kernel), wsG_of 74 (by decide +kernel) (by decide +kernel), (fun h => absurd h (by decide +kernel)), (fun _ => ⟨wsG_of 1293 (by decide +kernel) (by decide +kernel), (fun h => absurd h (by decide +kernel)), (fun _ => wsG_of 56 (by decide +kernel) (by decide +kernel))⟩), ⟨by decide +kernel, by decide +kernel, by decide +kernel, by decide +kernel, by decide +kernel⟩⟩
set_option maxRecDepth 100000 in
theorem mw_X11_firstTo : MO 186 := ⟨wsG_of 1278 rfl (by decide +kernel), wsG_of 74 (by decide +kernel) (by decide +kernel), (fun h => absurd h (by decide +kernel)), (fun _ => ⟨wsG_of 1277 (by decide +kernel) (by decide +kernel), (fun h => absurd h (by decide +kernel)), (fun _ => wsG_of 54 (by decide +kernel) (by decide +kernel))⟩), ⟨by decide +kernel, by decide +kernel, by decide +kernel, by decide +kernel, by decide +kernel⟩⟩
set_option maxRecDepth 100000 in
theorem mw_X11_soonestTo : MO 187 := ⟨wsG_of 1264 rfl (by decide +kernel), wsG_of 74 (by decide +kernel) (by decide +kernel), (fun h => absurd h (by decide +kernel)), (fun _ => ⟨wsG_of 1263 (by decide +kernel) (by decide +kernel), (fun h => absurd h (by decide +kernel)), (fun _ => wsG_of 52 (by decide +kernel) (by decide +kernel))⟩), ⟨by decide +kernel, by decide +kernel, by decide +kernel, by decide +kernel, by decide +kernel⟩⟩
set_option maxRecDepth 100000 in
theorem mw_X11_soonest : MO 188 := ⟨wsG_of 1249 rfl (by decide +kernel), wsG_of 74 (by decide +kernel) (by decide +kernel), (fun h => absurd h (by decide +kernel)), (fun _ => ⟨wsG_of 1247 (by decide +kernel) (by decide +kernel), (fun h => absurd h (by decide +kernel)), (fun _ => wsG_of 1248 (by decide +kernel) (by decide +kernel))⟩), ⟨by decide +kernel, by decide +kernel, by decide +kernel, by decide +kernel, by decide +kernel⟩⟩
set_option maxRecDepth 100000 in
theorem mw_X11_begin : MO 189 := ⟨wsG_of 1282 rfl (by decide +kernel), wsG_of 74 (by decide +kernel) (by decide +kernel), (fun h => absurd h (by decide +kernel)), (fun _ => ⟨wsG_of 1280 (by decide +kernel) (by decide +kernel), (fun h => absurd h (by decide +kernel)), (fun _ => wsG_of 1281 (by decide +kernel) (by decide +kernel))⟩), ⟨by decide +kernel, by decide +kernel, by decide +kernel, by decide +kernel, by decide +kernel⟩⟩
set_option maxRecDepth 100000 in
theorem mw_X11_within : MO 190 := ⟨wsG_of 1290 rfl (by decide +kernel), wsG_of 74 (by decide +kernel) (by decide +kernel), (fun h => absurd h (by decide +kernel)), (fun _ => ⟨wsG_of 1289 (by decide +kernel) (by decide +kernel), (fun h => absurd h (by decide +kernel)), (fun _ => wsG_of 55 (by decide +kernel) (by decide +kernel))⟩), ⟨by decide +kernel, by decide +kernel, by decide +kernel, by decide +kernel, by decide +kernel⟩⟩
set_option maxRecDepth 100000 in
theorem mw_X11_reached : MO 191 := ⟨wsG_of 1286 rfl (by decide +kernel), wsG_of 74 (by decide +kernel) (by decide +kernel), (fun h => absurd h (by decide +kernel)), (fun _ => ⟨wsG_of 1284 (by decide +kernel) (by decide +kernel), (fun h => absurd h (by decide +kernel)), (fun _ => wsG_of 1285 (by decide +kernel) (by decide +kernel))⟩), ⟨by decide +kernel, by decide +kernel, by decide +kernel, by decide +kernel, by decide +kernel⟩⟩
set_option maxRecDepth 100000 in
theorem mw_X11_never : MO 192 := ⟨wsG_of 1299 rfl (by decide +kernel), wsG_of 74 (by decide +kernel) (by decide +kernel), (fun h => absurd h (by decide +kernel)), (fun _ => ⟨wsG_of 1297 (by decide +kernel) (by decide +kernel), (fun h => absurd h (by decide +kernel)), (fun _ => wsG_of 1298 (by decide +kernel) (by decide +kernel))⟩), ⟨by decide +kernel, by decide +kernel, by decide +kernel, by decide +kernel, by decide +kernel⟩⟩
set_option maxRecDepth 100000 in
theorem mw_X11_meet : MO 193 := ⟨wsG_of 1303 rfl (by decide +kernel), wsG_of 74 (by decide +kernel) (by decide +kernel), (fun h => absurd h (by decide +kernel)), (fun _ => ⟨wsG_of 1301 (by decide +kernel) (by decide +kernel), (fun h => absurd h (by decide +kernel)), (fun _ => wsG_of 1302 (by decide +kernel) (by decide +kernel))⟩), ⟨by decide +kernel, by decide +kernel, by decide +kernel, by decide +kernel, by decide +kernel⟩⟩
set_option maxRecDepth 100000 in
theorem mw_X11_home : MO 194 := ⟨wsG_of 1307 rfl (by decide +kernel), wsG_of 74 (by decide +kernel) (by decide +kernel), (fun h => absurd h (by decide +kernel)), (fun _ => ⟨wsG_of 1305 (by decide +kernel) (by decide +kernel), (fun h => absurd h (by decide +kernel)), (fun _ => wsG_of 1306 (by decide +kernel) (by decide +kernel))⟩), ⟨by decide +kernel, by decide +kernel, by decide +kernel, by decide +kernel, by decide +kernel⟩⟩
set_option maxRecDepth 100000 in
theorem mw_X11_row : MO 195 := ⟨wsG_of 1311 rfl (by decide +kernel), wsG_of 74 (by decide +kernel) (by decide +kernel), (fun h => absurd h (by decide +kernel)), (fun _ => ⟨wsG_of 1309 (by decide +kernel) (by decide +kernel), (fun h => absurd h (by decide +kernel)), (fun _ => wsG_of 1310 (by decide +kernel) (by decide +kernel))⟩), ⟨by decide +kernel, by decide +kernel, by decide +kernel, by decide +kernel, by decide +kernel⟩⟩
set_option maxRecDepth 100000 in
theorem mw_X11_hand : MO 196 := ⟨wsG_of 1315 rfl (by decide +kernel), wsG_of 74 (by decide +kernel) (by decide +kernel), (fun h => absurd h (by decide +kernel)), (fun _ => ⟨wsG_of 1313 (by decide +kernel) (by decide +kernel), (fun h => absurd h (by decide +kernel)), (fun _ => wsG_of 1314 (by decide +kernel) (by decide +kernel))⟩), ⟨by decide +kernel, by decide +kernel, by decide +kernel, by decide +kernel, by decide +kernel⟩⟩
set_option maxRecDepth 100000 in
theorem mw_X11_track : MO 197 := ⟨wsG_of 1319 rfl (by decide +kernel), wsG_of 74 (by decide +kernel) (by decide +kernel), (fun h => absurd h (by decide +kernel)), (fun _ => ⟨wsG_of 1317 (by decide +kernel) (by decide +kernel), (fun h => absurd h (by decide +kernel)), (fun _ => wsG_of 1318 (by decide +kernel) (by decide +kernel))⟩), ⟨by decide +kernel, by decide +kernel, by decide +kernel, by decide +kernel, by decide +kernel⟩⟩
set_option maxRecDepth 100000 in
theorem mw_X11_mightHave : MO 198 := ⟨wsG_of 1327 rfl (by decide +kernel), wsG_of 74 (by decide +kernel) (by decide +kernel), (fun h => absurd h (by decide +kernel)), (fun _ => ⟨wsG_of 1326 (by decide +kernel) (by decide +kernel), (fun h => absurd h (by decide +kernel)), (fun _ => wsG_of 57 (by decide +kernel) (by decide +kernel))⟩), ⟨by decide +kernel, by decide +kernel, by decide +kernel, by decide +kernel, by decide +kernel⟩⟩
set_option maxRecDepth 100000 in
theorem mw_X11_tracks : MO 199 := ⟨wsG_of 1323 rfl (by decide +kernel), wsG_of 74 (by decide +kernel) (by decide +kernel), (fun h => absurd h (by decide +kernel)), (fun _ => ⟨wsG_of 1321 (by decide +kernel) (by decide +kernel), (fun h => absurd h (by decide +kernel)), (fun _ => wsG_of 1322 (by decide +kernel) (by decide +kernel))⟩), ⟨by decide +kernel, by decide +kernel, by decide +kernel, by decide +kernel, by decide +kernel⟩⟩
set_option maxRecDepth 100000 in
theorem mw_X11_common : MO 200 := ⟨wsG_of 1335 rfl (by decide +kernel), wsG_of 74 (by decide +kernel) (by decide +kernel), (fun _ => wsG_of 1334 (by decide +kernel) (by decide +kernel)), (fun h => absurd h (by decide +kernel)), ⟨by decide +kernel, by decide +kernel, by decide +kernel, by decide +kernel, by decide +kernel⟩⟩
set_option maxRecDepth 100000 in
theorem mw_X11_lot : MO 201 := ⟨wsG_of 1331 rfl (by decide +kernel), wsG_of 74 (by decide +kernel) (by decide +kernel), (fun h => absurd h (by decide +kernel)), (fun _ => ⟨wsG_of 1329 (by decide +kernel) (by decide +kernel), (fun h => absurd h (by decide +kernel)), (fun _ => wsG_of 1330 (by decide +kernel) (by decide +kernel))⟩), ⟨by decide +kernel, by decide +kernel, by decide +kernel, by decide +kernel, by decide +kernel⟩⟩
set_option maxRecDepth 100000 in
theorem mw_X11_soonestBy : MO 202 := ⟨wsG_of 1343 rfl (by decide +kernel), wsG_of 74 (by decide +kernel) (by decide +kernel), (fun h => absurd h (by decide +kernel)), (fun _ => ⟨wsG_of 1342 (by decide +kernel) (by decide +kernel), (fun h => absurd h (by decide +kernel)), (fun _ => wsG_of 58 (by decide +kernel) (by decide +kernel))⟩), ⟨by decide +kernel, by decide +kernel, by decide +kernel, by decide +kernel, by decide +kernel⟩⟩
set_option maxRecDepth 100000 in
theorem mw_X11_slower : MO 203 := ⟨wsG_of 1339 rfl (by decide +kernel), wsG_of 74 (by decide +kernel) (by decide +kernel), (fun h => absurd h (by decide +kernel)), (fun _ => ⟨wsG_of 1337 (by decide +kernel) (by decide +kernel), (fun h => absurd h (by decide +kernel)), (fun _ => wsG_of 1338 (by decide +kernel) (by decide +kernel))⟩), ⟨by decide +kernel, by decide +kernel, by decide +kernel, by decide +kernel, by decide +kernel⟩⟩
set_option maxRecDepth 100000 in
theorem mw_X11_above : MO 204 := ⟨wsG_of 1361 rfl (by decide +kernel), wsG_of 74 (by decide +kernel) (by decide +kernel), (fun _ => wsG_of 1360 (by decide +kernel) (by decide +kernel)), (fun h => absurd h (by decide +kernel)), ⟨by decide +kernel, by decide +kernel, by decide +kernel, by decide +kernel, by decide +kernel⟩⟩
set_option maxRecDepth 100000 in
theorem mw_X11_runs : MO 205 := ⟨wsG_of 1365 rfl (by decide +kernel), wsG_of 74 (by decide +kernel) (by decide +kernel), (fun h => absurd h (by decide +kernel)), (fun _ => ⟨wsG_of 1364 (by decide +kernel) (by decide +kernel), (fun h => absurd h (by decide +kernel)), (fun _ => wsG_of 61 (by decide +kernel) (by decide +kernel))⟩), ⟨by decide +kernel, by decide +kernel, by decide +kernel, by decide +kernel, by decide +kernel⟩⟩
set_option maxRecDepth 100000 in
theorem mw_X11_hasBody : MO 206 := ⟨wsG_of 1358 rfl (by decide +kernel), wsG_of 74 (by decide +kernel) (by decide +kernel), (fun _ => wsG_of 1357 (by decide +kernel) (by decide +kernel)), (fun h => absurd h (by decide +kernel)), ⟨by decide +kernel, by decide +kernel, by decide +kernel, by decide +kernel, by decide +kernel⟩⟩
set_option maxRecDepth 100000 in
theorem mw_X11_acts : MO 207 := ⟨wsG_of 1351 rfl (by decide +kernel), wsG_of 74 (by decide +kernel) (by decide +kernel), (fun h => absurd h (by decide +kernel)), (fun _ => ⟨wsG_of 1350 (by decide +kernel) (by decide +kernel), (fun h => absurd h (by decide +kernel)), (fun _ => wsG_of 59 (by decide +kernel) (by decide +kernel))⟩), ⟨by decide +kernel, by decide +kernel, by decide +kernel, by decide +kernel, by decide +kernel⟩⟩
set_option maxRecDepth 100000 in
theorem mw_X11_bodyOf : MO 208 := ⟨wsG_of 1355 rfl (by decide +kernel), wsG_of 74 (by decide +kernel) (by decide +kernel), (fun h => absurd h (by decide +kernel)), (fun _ => ⟨wsG_of 1354 (by decide +kernel) (by decide +kernel), (fun h => absurd h (by decide +kernel)), (fun _ => wsG_of 60 (by decide +kernel) (by decide +kernel))⟩), ⟨by decide +kernel, by decide +kernel, by decide +kernel, by decide +kernel, by decide +kernel⟩⟩
set_option maxRecDepth 100000 in
theorem mw_X11_act : MO 209 := ⟨wsG_of 1347 rfl (by decide +kernel), wsG_of 74 (by decide +kernel) (by decide +kernel), (fun h => absurd h (by decide +kernel)), (fun _ => ⟨wsG_of 1345 (by decide +kernel) (by decide +kernel), (fun h => absurd h (by decide +kernel)), (fun _ => wsG_of 1346 (by decide +kernel) (by decide +kernel))⟩), ⟨by decide +kernel, by decide +kernel, by decide +kernel, by decide +kernel, by decide +kernel⟩⟩
set_option maxRecDepth 100000 in
theorem mw_X11_trace : MO 210 := ⟨wsG_of 1369 rfl (by decide +kernel), wsG_of 74 (by decide +kernel) (by decide +kernel), (fun h => absurd h (by decide +kernel)), (fun _ => ⟨wsG_of 1367 (by decide +kernel) (by decide +kernel), (fun h => absurd h (by decide +kernel)), (fun _ => wsG_of 1368 (by decide +kernel) (by decide +kernel))⟩), ⟨by decide +kernel, by decide +kernel, by decide +kernel, by decide +kernel, by decide +kernel⟩⟩
set_option maxRecDepth 100000 in
theorem mw_X11_taken : MO 211 := ⟨wsG_of 1373 rfl (by decide +kernel), wsG_of 74 (by decide +kernel) (by decide +kernel), (fun h => absurd h (by decide +kernel)), (fun _ => ⟨wsG_of 1371 (by decide +kernel) (by decide +kernel), (fun h => absurd h (by decide +kernel)), (fun _ => wsG_of 1372 (by decide +kernel) (by decide +kernel))⟩), ⟨by decide +kernel, by decide +kernel, by decide +kernel, by decide +kernel, by decide +kernel⟩⟩
set_option maxRecDepth 100000 in
theorem mw_X11_judge : MO 212 := ⟨wsG_of 1377 rfl (by decide +kernel), wsG_of 74 (by decide +kernel) (by decide +kernel), (fun h => absurd h (by decide +kernel)), (fun _ => ⟨wsG_of 1375 (by decide +kernel) (by decide +kernel), (fun h => absurd h (by decide +kernel)), (fun _ => wsG_of 1376 (by decide +kernel) (by decide +kernel))⟩), ⟨by decide +kernel, by decide +kernel, by decide +kernel, by decide +kernel, by decide +kernel⟩⟩
set_option maxRecDepth 100000 in
theorem mw_X11_image : MO 213 := ⟨wsG_of 1381 rfl (by decide +kernel), wsG_of 74 (by decide +kernel) (by decide +kernel), (fun h => absurd h (by decide +kernel)), (fun _ => ⟨wsG_of 1379 (by decide +kernel) (by decide +kernel), (fun h => absurd h (by decide +kernel)), (fun _ => wsG_of 1380 (by decide +kernel) (by decide +kernel))⟩), ⟨by decide +kernel, by decide +kernel, by decide +kernel, by decide +kernel, by decide +kernel⟩⟩
set_option maxRecDepth 100000 in
theorem mw_X11_undo : MO 214 := ⟨wsG_of 1385 rfl (by decide +kernel), wsG_of 74 (by decide +kernel) (by decide +kernel), (fun h => absurd h (by decide +kernel)), (fun _ => ⟨wsG_of 1383 (by decide +kernel) (by decide +kernel), (fun h => absurd h (by decide +kernel)), (fun _ => wsG_of 1384 (by decide +kernel) (by decide +kernel))⟩), ⟨by decide +kernel, by decide +kernel, by decide +kernel, by decide +kernel, by decide +kernel⟩⟩
set_option maxRecDepth 100000 in
theorem mw_X11_count : MO 215 := ⟨wsG_of 1389 rfl (by decide +kernel), wsG_of 74 (by decide +kernel) (by decide +kernel), (fun h => absurd h (by decide +kernel)), (fun _ => ⟨wsG_of 1387 (by decide +kernel) (by decide +kernel), (fun h => absurd h (by decide +kernel)), (fun _ => wsG_of 1388 (by decide +kernel) (by decide +kernel))⟩), ⟨by decide +kernel, by decide +kernel, by decide +kernel, by decide +kernel, by decide +kernel⟩⟩
set_option maxRecDepth 100000 in
theorem mw_X11_tape : MO 216 := ⟨wsG_of 1393 rfl (by decide +kernel), wsG_of 74 (by decide +kernel) (by decide +kernel), (fun h => absurd h (by decide +kernel)), (fun _ => ⟨wsG_of 1391 (by decide +kernel) (by decide +kernel), (fun h => absurd h (by decide +kernel)), (fun _ => wsG_of 1392 (by decide +kernel) (by decide +kernel))⟩), ⟨by decide +kernel, by decide +kernel, by decide +kernel, by decide +kernel, by decide +kernel⟩⟩
set_option maxRecDepth 100000 in
theorem mw_X11_item : MO 217 := ⟨wsG_of 1397 rfl (by decide +kernel), wsG_of 74 (by decide +kernel) (by decide +kernel), (fun h => absurd h (by decide +kernel)), (fun _ => ⟨wsG_of 1395 (by decide +kernel) (by decide +kernel), (fun h => absurd h (by decide +kernel)), (fun _ => wsG_of 1396 (by decide +kernel) (by decide +kernel))⟩), ⟨by decide +kernel, by decide +kernel, by decide +kernel, by decide +kernel, by decide +kernel⟩⟩
set_option maxRecDepth 100000 in
theorem mw_X11_read : MO 218 := ⟨wsG_of 1401 rfl (by decide +kernel), wsG_of 74 (by decide +kernel) (by decide +kernel), (fun h => absurd h (by decide +kernel)), (fun _ => ⟨wsG_of 1399 (by decide +kernel) (by decide +kernel), (fun h => absurd h (by decide +kernel)), (fun _ => wsG_of 1400 (by decide +kernel) (by decide +kernel))⟩), ⟨by decide +kernel, by decide +kernel, by decide +kernel, by decide +kernel, by decide +kernel⟩⟩
set_option maxRecDepth 100000 in
theorem mw_X11_shift : MO 219 := ⟨wsG_of 1405 rfl (by decide +kernel), wsG_of 74 (by decide +kernel) (by decide +kernel), (fun h => absurd h (by decide +kernel)), (fun _ => ⟨wsG_of 1403 (by decide +kernel) (by decide +kernel), (fun h => absurd h (by decide +kernel)), (fun _ => wsG_of 1404 (by decide +kernel) (by decide +kernel))⟩), ⟨by decide +kernel, by decide +kernel, by decide +kernel, by decide +kernel, by decide +kernel⟩⟩
theorem mo_1 : ∀ a, a < 1 → MO a := lt_s lt_0 mw_J0_coder_7d493
theorem mo_2 : ∀ a, a < 2 → MO a := lt_s mo_1 mw_J0_length_8abf5
theorem mo_3 : ∀ a, a < 3 → MO a := lt_s mo_2 mw_J0_isLatin1_aae02
theorem mo_4 : ∀ a, a < 4 → MO a := lt_s mo_3 mw_J0_checkIndex_df160
theorem mo_5 : ∀ a, a < 5 → MO a := lt_s mo_4 mw_J0_charAt_5068e
theorem mo_6 : ∀ a, a < 6 → MO a := lt_s mo_5 mw_J1_charAt_3b067
theorem mo_7 : ∀ a, a < 7 → MO a := lt_s mo_6 mw_J3_checkIndex_8e157
theorem mo_8 : ∀ a, a < 8 → MO a := lt_s mo_7 mw_J6_bitCount_0f7a4
theorem mo_9 : ∀ a, a < 9 → MO a := lt_s mo_8 mw_J6_compare_7cf53
theorem mo_10 : ∀ a, a < 10 → MO a := lt_s mo_9 mw_J6_numberOfTrailingZeros_0f7a4
theorem mo_11 : ∀ a, a < 11 → MO a := lt_s mo_10 mw_J7_fill_d0a16
theorem mo_12 : ∀ a, a < 12 → MO a := lt_s mo_11 mw_J13_numberOfTrailingZeros_95d88
theorem mo_13 : ∀ a, a < 13 → MO a := lt_s mo_12 mw_X0_init
theorem mo_14 : ∀ a, a < 14 → MO a := lt_s mo_13 mw_X0_begins
theorem mo_15 : ∀ a, a < 15 → MO a := lt_s mo_14 mw_X0_steps
theorem mo_16 : ∀ a, a < 16 → MO a := lt_s mo_15 mw_X0_turns
theorem mo_17 : ∀ a, a < 17 → MO a := lt_s mo_16 mw_X0_tells
theorem mo_18 : ∀ a, a < 18 → MO a := lt_s mo_17 mw_X1_init
theorem mo_19 : ∀ a, a < 19 → MO a := lt_s mo_18 mw_X1_join
theorem mo_20 : ∀ a, a < 20 → MO a := lt_s mo_19 mw_X1_alone_
theorem mo_21 : ∀ a, a < 21 → MO a := lt_s mo_20 mw_X1_alone
theorem mo_22 : ∀ a, a < 22 → MO a := lt_s mo_21 mw_X1_around
theorem mo_23 : ∀ a, a < 23 → MO a := lt_s mo_22 mw_X1_among
theorem mo_24 : ∀ a, a < 24 → MO a := lt_s mo_23 mw_X1_spread
theorem mo_25 : ∀ a, a < 25 → MO a := lt_s mo_24 mw_X1_advance
theorem mo_26 : ∀ a, a < 26 → MO a := lt_s mo_25 mw_X1_keep
theorem mo_27 : ∀ a, a < 27 → MO a := lt_s mo_26 mw_X1_cells
theorem mo_28 : ∀ a, a < 28 → MO a := lt_s mo_27 mw_X1_facing
theorem mo_29 : ∀ a, a < 29 → MO a := lt_s mo_28 mw_X1_beatsTo
theorem mo_30 : ∀ a, a < 30 → MO a := lt_s mo_29 mw_X2_init
theorem mo_31 : ∀ a, a < 31 → MO a := lt_s mo_30 mw_X2_become
theorem mo_32 : ∀ a, a < 32 → MO a := lt_s mo_31 mw_X2_isOn
theorem mo_33 : ∀ a, a < 33 → MO a := lt_s mo_32 mw_X2_rests
theorem mo_34 : ∀ a, a < 34 → MO a := lt_s mo_33 mw_X2_isRound
theorem mo_35 : ∀ a, a < 35 → MO a := lt_s mo_34 mw_X2_way
theorem mo_36 : ∀ a, a < 36 → MO a := lt_s mo_35 mw_X2_ons
theorem mo_37 : ∀ a, a < 37 → MO a := lt_s mo_36 mw_X2_leaves
theorem mo_38 : ∀ a, a < 38 → MO a := lt_s mo_37 mw_X2_starts
theorem mo_39 : ∀ a, a < 39 → MO a := lt_s mo_38 mw_X2_tick
theorem mo_40 : ∀ a, a < 40 → MO a := lt_s mo_39 mw_X2_steps
theorem mo_41 : ∀ a, a < 41 → MO a := lt_s mo_40 mw_X3_rhythm
theorem mo_42 : ∀ a, a < 42 → MO a := lt_s mo_41 mw_X3_beat
theorem mo_43 : ∀ a, a < 43 → MO a := lt_s mo_42 mw_X3_backward
theorem mo_44 : ∀ a, a < 44 → MO a := lt_s mo_43 mw_X3_onward
theorem mo_45 : ∀ a, a < 45 → MO a := lt_s mo_44 mw_X3_init
theorem mo_46 : ∀ a, a < 46 → MO a := lt_s mo_45 mw_X3_marked
theorem mo_47 : ∀ a, a < 47 → MO a := lt_s mo_46 mw_X4_init
theorem mo_48 : ∀ a, a < 48 → MO a := lt_s mo_47 mw_X4_join
theorem mo_49 : ∀ a, a < 49 → MO a := lt_s mo_48 mw_X4_alone
theorem mo_50 : ∀ a, a < 50 → MO a := lt_s mo_49 mw_X4_part
theorem mo_51 : ∀ a, a < 51 → MO a := lt_s mo_50 mw_X4_advance
theorem mo_52 : ∀ a, a < 52 → MO a := lt_s mo_51 mw_X4_shares
theorem mo_53 : ∀ a, a < 53 → MO a := lt_s mo_52 mw_X5_init
theorem mo_54 : ∀ a, a < 54 → MO a := lt_s mo_53 mw_X5_who
theorem mo_55 : ∀ a, a < 55 → MO a := lt_s mo_54 mw_X5_added
theorem mo_56 : ∀ a, a < 56 → MO a := lt_s mo_55 mw_X5_become
theorem mo_57 : ∀ a, a < 57 → MO a := lt_s mo_56 mw_X6_init
theorem mo_58 : ∀ a, a < 58 → MO a := lt_s mo_57 mw_X6_become
theorem mo_59 : ∀ a, a < 59 → MO a := lt_s mo_58 mw_X6_has
theorem mo_60 : ∀ a, a < 60 → MO a := lt_s mo_59 mw_X6_reaches
theorem mo_61 : ∀ a, a < 61 → MO a := lt_s mo_60 mw_X6_value
theorem mo_62 : ∀ a, a < 62 → MO a := lt_s mo_61 mw_X6_cut
theorem mo_63 : ∀ a, a < 63 → MO a := lt_s mo_62 mw_X6_write
theorem mo_64 : ∀ a, a < 64 → MO a := lt_s mo_63 mw_X7_init
theorem mo_65 : ∀ a, a < 65 → MO a := lt_s mo_64 mw_X7_add
theorem mo_66 : ∀ a, a < 66 → MO a := lt_s mo_65 mw_X7_takes
theorem mo_67 : ∀ a, a < 67 → MO a := lt_s mo_66 mw_X7_needs
theorem mo_68 : ∀ a, a < 68 → MO a := lt_s mo_67 mw_X7_oneIf
theorem mo_69 : ∀ a, a < 69 → MO a := lt_s mo_68 mw_X7_number
theorem mo_70 : ∀ a, a < 70 → MO a := lt_s mo_69 mw_X7_oneOf
theorem mo_71 : ∀ a, a < 71 → MO a := lt_s mo_70 mw_X7_measure
theorem mo_72 : ∀ a, a < 72 → MO a := lt_s mo_71 mw_X7_tested
theorem mo_73 : ∀ a, a < 73 → MO a := lt_s mo_72 mw_X7_both
theorem mo_74 : ∀ a, a < 74 → MO a := lt_s mo_73 mw_X7_either
theorem mo_75 : ∀ a, a < 75 → MO a := lt_s mo_74 mw_X7_single
theorem mo_76 : ∀ a, a < 76 → MO a := lt_s mo_75 mw_X7_clause
theorem mo_77 : ∀ a, a < 77 → MO a := lt_s mo_76 mw_X7_parsed
theorem mo_78 : ∀ a, a < 78 → MO a := lt_s mo_77 mw_X8_init
theorem mo_79 : ∀ a, a < 79 → MO a := lt_s mo_78 mw_X8_become
theorem mo_80 : ∀ a, a < 80 → MO a := lt_s mo_79 mw_X8_at
theorem mo_81 : ∀ a, a < 81 → MO a := lt_s mo_80 mw_X8_tell
theorem mo_82 : ∀ a, a < 82 → MO a := lt_s mo_81 mw_X9_init
theorem mo_83 : ∀ a, a < 83 → MO a := lt_s mo_82 mw_X9_become
theorem mo_84 : ∀ a, a < 84 → MO a := lt_s mo_83 mw_X9_stands
theorem mo_85 : ∀ a, a < 85 → MO a := lt_s mo_84 mw_X10_across
theorem mo_86 : ∀ a, a < 86 → MO a := lt_s mo_85 mw_X10_facingBy
theorem mo_87 : ∀ a, a < 87 → MO a := lt_s mo_86 mw_X10_cameBy
theorem mo_88 : ∀ a, a < 88 → MO a := lt_s mo_87 mw_X10_moved
theorem mo_89 : ∀ a, a < 89 → MO a := lt_s mo_88 mw_X10_holds
theorem mo_90 : ∀ a, a < 90 → MO a := lt_s mo_89 mw_X10_next
theorem mo_91 : ∀ a, a < 91 → MO a := lt_s mo_90 mw_X10_init
theorem mo_92 : ∀ a, a < 92 → MO a := lt_s mo_91 mw_X10_feed
theorem mo_93 : ∀ a, a < 93 → MO a := lt_s mo_92 mw_X10_land
theorem mo_94 : ∀ a, a < 94 → MO a := lt_s mo_93 mw_X10_told
theorem mo_95 : ∀ a, a < 95 → MO a := lt_s mo_94 mw_X10_isCell
theorem mo_96 : ∀ a, a < 96 → MO a := lt_s mo_95 mw_X10_ground
theorem mo_97 : ∀ a, a < 97 → MO a := lt_s mo_96 mw_X10_isKind
theorem mo_98 : ∀ a, a < 98 → MO a := lt_s mo_97 mw_X10_isWay
theorem mo_99 : ∀ a, a < 99 → MO a := lt_s mo_98 mw_X10_isNumber
theorem mo_100 : ∀ a, a < 100 → MO a := lt_s mo_99 mw_X10_walker
theorem mo_101 : ∀ a, a < 101 → MO a := lt_s mo_100 mw_X10_of
theorem mo_102 : ∀ a, a < 102 → MO a := lt_s mo_101 mw_X10_put
theorem mo_103 : ∀ a, a < 103 → MO a := lt_s mo_102 mw_X10_allowed
theorem mo_104 : ∀ a, a < 104 → MO a := lt_s mo_103 mw_X10_may
theorem mo_105 : ∀ a, a < 105 → MO a := lt_s mo_104 mw_X10_isStep
theorem mo_106 : ∀ a, a < 106 → MO a := lt_s mo_105 mw_X10_goes
theorem mo_107 : ∀ a, a < 107 → MO a := lt_s mo_106 mw_X10_step
theorem mo_108 : ∀ a, a < 108 → MO a := lt_s mo_107 mw_X10_isPart
theorem mo_109 : ∀ a, a < 109 → MO a := lt_s mo_108 mw_X10_firstStep
theorem mo_110 : ∀ a, a < 110 → MO a := lt_s mo_109 mw_X10_soonest
theorem mo_111 : ∀ a, a < 111 → MO a := lt_s mo_110 mw_X10_begin
theorem mo_112 : ∀ a, a < 112 → MO a := lt_s mo_111 mw_X10_within
theorem mo_113 : ∀ a, a < 113 → MO a := lt_s mo_112 mw_X10_reached
theorem mo_114 : ∀ a, a < 114 → MO a := lt_s mo_113 mw_X10_never
theorem mo_115 : ∀ a, a < 115 → MO a := lt_s mo_114 mw_X10_meet
theorem mo_116 : ∀ a, a < 116 → MO a := lt_s mo_115 mw_X10_home
theorem mo_117 : ∀ a, a < 117 → MO a := lt_s mo_116 mw_X10_row
theorem mo_118 : ∀ a, a < 118 → MO a := lt_s mo_117 mw_X10_hand
theorem mo_119 : ∀ a, a < 119 → MO a := lt_s mo_118 mw_X10_track
theorem mo_120 : ∀ a, a < 120 → MO a := lt_s mo_119 mw_X10_left
theorem mo_121 : ∀ a, a < 121 → MO a := lt_s mo_120 mw_X10_tracks
theorem mo_122 : ∀ a, a < 122 → MO a := lt_s mo_121 mw_X10_common
theorem mo_123 : ∀ a, a < 123 → MO a := lt_s mo_122 mw_X10_lot
theorem mo_124 : ∀ a, a < 124 → MO a := lt_s mo_123 mw_X10_slower
theorem mo_125 : ∀ a, a < 125 → MO a := lt_s mo_124 mw_X10_tapeAt
theorem mo_126 : ∀ a, a < 126 → MO a := lt_s mo_125 mw_X10_judge
theorem mo_127 : ∀ a, a < 127 → MO a := lt_s mo_126 mw_X10_image
theorem mo_128 : ∀ a, a < 128 → MO a := lt_s mo_127 mw_X10_undo
theorem mo_129 : ∀ a, a < 129 → MO a := lt_s mo_128 mw_X10_act
theorem mo_130 : ∀ a, a < 130 → MO a := lt_s mo_129 mw_X10_trace
theorem mo_131 : ∀ a, a < 131 → MO a := lt_s mo_130 mw_X10_above
theorem mo_132 : ∀ a, a < 132 → MO a := lt_s mo_131 mw_X10_isUnder
theorem mo_133 : ∀ a, a < 133 → MO a := lt_s mo_132 mw_X10_taken
theorem mo_134 : ∀ a, a < 134 → MO a := lt_s mo_133 mw_X10_count
theorem mo_135 : ∀ a, a < 135 → MO a := lt_s mo_134 mw_X10_tape
theorem mo_136 : ∀ a, a < 136 → MO a := lt_s mo_135 mw_X10_item
theorem mo_137 : ∀ a, a < 137 → MO a := lt_s mo_136 mw_X10_read
theorem mo_138 : ∀ a, a < 138 → MO a := lt_s mo_137 mw_X10_shift
theorem mo_139 : ∀ a, a < 139 → MO a := lt_s mo_138 mw_X11_init
theorem mo_140 : ∀ a, a < 140 → MO a := lt_s mo_139 mw_X11_isIn
theorem mo_141 : ∀ a, a < 141 → MO a := lt_s mo_140 mw_X11_isWalker
theorem mo_142 : ∀ a, a < 142 → MO a := lt_s mo_141 mw_X11_isCell
theorem mo_143 : ∀ a, a < 143 → MO a := lt_s mo_142 mw_X11_get
theorem mo_144 : ∀ a, a < 144 → MO a := lt_s mo_143 mw_X11_puts
theorem mo_145 : ∀ a, a < 145 → MO a := lt_s mo_144 mw_X11_feed
theorem mo_146 : ∀ a, a < 146 → MO a := lt_s mo_145 mw_X11_here
theorem mo_147 : ∀ a, a < 147 → MO a := lt_s mo_146 mw_X11_takes
theorem mo_148 : ∀ a, a < 148 → MO a := lt_s mo_147 mw_X11_number
theorem mo_149 : ∀ a, a < 149 → MO a := lt_s mo_148 mw_X11_amount
theorem mo_150 : ∀ a, a < 150 → MO a := lt_s mo_149 mw_X11_valueOf
theorem mo_151 : ∀ a, a < 151 → MO a := lt_s mo_150 mw_X11_test
theorem mo_152 : ∀ a, a < 152 → MO a := lt_s mo_151 mw_X11_either
theorem mo_153 : ∀ a, a < 153 → MO a := lt_s mo_152 mw_X11_factor
theorem mo_154 : ∀ a, a < 154 → MO a := lt_s mo_153 mw_X11_term
theorem mo_155 : ∀ a, a < 155 → MO a := lt_s mo_154 mw_X11_word
theorem mo_156 : ∀ a, a < 156 → MO a := lt_s mo_155 mw_X11_marksBy
theorem mo_157 : ∀ a, a < 157 → MO a := lt_s mo_156 mw_X11_clause
theorem mo_158 : ∀ a, a < 158 → MO a := lt_s mo_157 mw_X11_held
theorem mo_159 : ∀ a, a < 159 → MO a := lt_s mo_158 mw_X11_reads
theorem mo_160 : ∀ a, a < 160 → MO a := lt_s mo_159 mw_X11_land
theorem mo_161 : ∀ a, a < 161 → MO a := lt_s mo_160 mw_X11_onBeats
theorem mo_162 : ∀ a, a < 162 → MO a := lt_s mo_161 mw_X11_beats
theorem mo_163 : ∀ a, a < 163 → MO a := lt_s mo_162 mw_X11_told
theorem mo_164 : ∀ a, a < 164 → MO a := lt_s mo_163 mw_X11_isMarked
theorem mo_165 : ∀ a, a < 165 → MO a := lt_s mo_164 mw_X11_ground
theorem mo_166 : ∀ a, a < 166 → MO a := lt_s mo_165 mw_X11_walker
theorem mo_167 : ∀ a, a < 167 → MO a := lt_s mo_166 mw_X11_beatOf
theorem mo_168 : ∀ a, a < 168 → MO a := lt_s mo_167 mw_X11_of
theorem mo_169 : ∀ a, a < 169 → MO a := lt_s mo_168 mw_X11_put
theorem mo_170 : ∀ a, a < 170 → MO a := lt_s mo_169 mw_X11_beside
theorem mo_171 : ∀ a, a < 171 → MO a := lt_s mo_170 mw_X11_goesOn
theorem mo_172 : ∀ a, a < 172 → MO a := lt_s mo_171 mw_X11_backTo
theorem mo_173 : ∀ a, a < 173 → MO a := lt_s mo_172 mw_X11_goesBack
theorem mo_174 : ∀ a, a < 174 → MO a := lt_s mo_173 mw_X11_mayOn
theorem mo_175 : ∀ a, a < 175 → MO a := lt_s mo_174 mw_X11_mayBy
theorem mo_176 : ∀ a, a < 176 → MO a := lt_s mo_175 mw_X11_mayNow
theorem mo_177 : ∀ a, a < 177 → MO a := lt_s mo_176 mw_X11_may
theorem mo_178 : ∀ a, a < 178 → MO a := lt_s mo_177 mw_X11_steps
theorem mo_179 : ∀ a, a < 179 → MO a := lt_s mo_178 mw_X11_step
theorem mo_180 : ∀ a, a < 180 → MO a := lt_s mo_179 mw_X11_stateOf
theorem mo_181 : ∀ a, a < 181 → MO a := lt_s mo_180 mw_X11_comesTo
theorem mo_182 : ∀ a, a < 182 → MO a := lt_s mo_181 mw_X11_begins
theorem mo_183 : ∀ a, a < 183 → MO a := lt_s mo_182 mw_X11_beginsAs
theorem mo_184 : ∀ a, a < 184 → MO a := lt_s mo_183 mw_X11_bits
theorem mo_185 : ∀ a, a < 185 → MO a := lt_s mo_184 mw_X11_goesBeat
theorem mo_186 : ∀ a, a < 186 → MO a := lt_s mo_185 mw_X11_cellsNow
theorem mo_187 : ∀ a, a < 187 → MO a := lt_s mo_186 mw_X11_firstTo
theorem mo_188 : ∀ a, a < 188 → MO a := lt_s mo_187 mw_X11_soonestTo
theorem mo_189 : ∀ a, a < 189 → MO a := lt_s mo_188 mw_X11_soonest
theorem mo_190 : ∀ a, a < 190 → MO a := lt_s mo_189 mw_X11_begin
theorem mo_191 : ∀ a, a < 191 → MO a := lt_s mo_190 mw_X11_within
theorem mo_192 : ∀ a, a < 192 → MO a := lt_s mo_191 mw_X11_reached
theorem mo_193 : ∀ a, a < 193 → MO a := lt_s mo_192 mw_X11_never
theorem mo_194 : ∀ a, a < 194 → MO a := lt_s mo_193 mw_X11_meet
theorem mo_195 : ∀ a, a < 195 → MO a := lt_s mo_194 mw_X11_home
theorem mo_196 : ∀ a, a < 196 → MO a := lt_s mo_195 mw_X11_row
theorem mo_197 : ∀ a, a < 197 → MO a := lt_s mo_196 mw_X11_hand
theorem mo_198 : ∀ a, a < 198 → MO a := lt_s mo_197 mw_X11_track
theorem mo_199 : ∀ a, a < 199 → MO a := lt_s mo_198 mw_X11_mightHave
theorem mo_200 : ∀ a, a < 200 → MO a := lt_s mo_199 mw_X11_tracks
theorem mo_201 : ∀ a, a < 201 → MO a := lt_s mo_200 mw_X11_common
theorem mo_202 : ∀ a, a < 202 → MO a := lt_s mo_201 mw_X11_lot
theorem mo_203 : ∀ a, a < 203 → MO a := lt_s mo_202 mw_X11_soonestBy
theorem mo_204 : ∀ a, a < 204 → MO a := lt_s mo_203 mw_X11_slower
theorem mo_205 : ∀ a, a < 205 → MO a := lt_s mo_204 mw_X11_above
theorem mo_206 : ∀ a, a < 206 → MO a := lt_s mo_205 mw_X11_runs
theorem mo_207 : ∀ a, a < 207 → MO a := lt_s mo_206 mw_X11_hasBody
theorem mo_208 : ∀ a, a < 208 → MO a := lt_s mo_207 mw_X11_acts
theorem mo_209 : ∀ a, a < 209 → MO a := lt_s mo_208 mw_X11_bodyOf
theorem mo_210 : ∀ a, a < 210 → MO a := lt_s mo_209 mw_X11_act
theorem mo_211 : ∀ a, a < 211 → MO a := lt_s mo_210 mw_X11_trace
theorem mo_212 : ∀ a, a < 212 → MO a := lt_s mo_211 mw_X11_taken
theorem mo_213 : ∀ a, a < 213 → MO a := lt_s mo_212 mw_X11_judge
theorem mo_214 : ∀ a, a < 214 → MO a := lt_s mo_213 mw_X11_image
theorem mo_215 : ∀ a, a < 215 → MO a := lt_s mo_214 mw_X11_undo
theorem mo_216 : ∀ a, a < 216 → MO a := lt_s mo_215 mw_X11_count
theorem mo_217 : ∀ a, a < 217 → MO a := lt_s mo_216 mw_X11_tape
theorem mo_218 : ∀ a, a < 218 → MO a := lt_s mo_217 mw_X11_item
theorem mo_219 : ∀ a, a < 219 → MO a := lt_s mo_218 mw_X11_read
theorem mo_220 : ∀ a, a < 220 → MO a := lt_s mo_219 mw_X11_shift
theorem met_ok {k : Nat} (h : k < 220) : MO k := mo_220 k h
end
