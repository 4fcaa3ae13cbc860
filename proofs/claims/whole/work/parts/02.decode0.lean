theorem dX0_init_0 : decode cX0_init 0 = .ok (.aload_n 0, 1) := by decide +kernel
theorem dX0_init_1 : decode cX0_init 1 = .ok (.invokespecial 3, 3) := by decide +kernel
theorem dX0_init_4 : decode cX0_init 4 = .ok (.aload_n 0, 1) := by decide +kernel
theorem dX0_init_5 : decode cX0_init 5 = .ok (.bipush 20, 2) := by decide +kernel
theorem dX0_init_7 : decode cX0_init 7 = .ok (.newarray .int, 2) := by decide +kernel
theorem dX0_init_9 : decode cX0_init 9 = .ok (.putfield 9, 3) := by decide +kernel
theorem dX0_init_12 : decode cX0_init 12 = .ok (.return_, 1) := by decide +kernel
theorem dX0_become_0 : decode cX0_become 0 = .ok (.aload_n 0, 1) := by decide +kernel
theorem dX0_become_1 : decode cX0_become 1 = .ok (.iload_n 1, 1) := by decide +kernel
theorem dX0_become_2 : decode cX0_become 2 = .ok (.putfield 15, 3) := by decide +kernel
theorem dX0_become_5 : decode cX0_become 5 = .ok (.aload_n 0, 1) := by decide +kernel
theorem dX0_become_6 : decode cX0_become 6 = .ok (.iload_n 2, 1) := by decide +kernel
theorem dX0_become_7 : decode cX0_become 7 = .ok (.putfield 19, 3) := by decide +kernel
theorem dX0_become_10 : decode cX0_become 10 = .ok (.aload_n 0, 1) := by decide +kernel
theorem dX0_become_11 : decode cX0_become 11 = .ok (.iload_n 3, 1) := by decide +kernel
theorem dX0_become_12 : decode cX0_become 12 = .ok (.putfield 22, 3) := by decide +kernel
theorem dX0_become_15 : decode cX0_become 15 = .ok (.return_, 1) := by decide +kernel
theorem dX0_steps_0 : decode cX0_steps 0 = .ok (.aload_n 0, 1) := by decide +kernel
theorem dX0_steps_1 : decode cX0_steps 1 = .ok (.getfield 15, 3) := by decide +kernel
theorem dX0_steps_4 : decode cX0_steps 4 = .ok (.tableswitch 80 2 6 #[36, 80, 50, 36, 63], 36) := by decide +kernel
theorem dX0_steps_40 : decode cX0_steps 40 = .ok (.aload_n 0, 1) := by decide +kernel
theorem dX0_steps_41 : decode cX0_steps 41 = .ok (.bipush 30, 2) := by decide +kernel
theorem dX0_steps_43 : decode cX0_steps 43 = .ok (.invokevirtual 25, 3) := by decide +kernel
theorem dX0_steps_46 : decode cX0_steps 46 = .ok (.aload_n 0, 1) := by decide +kernel
theorem dX0_steps_47 : decode cX0_steps 47 = .ok (.iload_n 1, 1) := by decide +kernel
theorem dX0_steps_48 : decode cX0_steps 48 = .ok (.iconst 3, 1) := by decide +kernel
theorem dX0_steps_49 : decode cX0_steps 49 = .ok (.imul, 1) := by decide +kernel
theorem dX0_steps_50 : decode cX0_steps 50 = .ok (.invokevirtual 29, 3) := by decide +kernel
theorem dX0_steps_53 : decode cX0_steps 53 = .ok (.ireturn, 1) := by decide +kernel
theorem dX0_steps_54 : decode cX0_steps 54 = .ok (.aload_n 0, 1) := by decide +kernel
theorem dX0_steps_55 : decode cX0_steps 55 = .ok (.bipush 50, 2) := by decide +kernel
theorem dX0_steps_57 : decode cX0_steps 57 = .ok (.invokevirtual 25, 3) := by decide +kernel
theorem dX0_steps_60 : decode cX0_steps 60 = .ok (.aload_n 0, 1) := by decide +kernel
theorem dX0_steps_61 : decode cX0_steps 61 = .ok (.iload_n 1, 1) := by decide +kernel
theorem dX0_steps_62 : decode cX0_steps 62 = .ok (.invokevirtual 29, 3) := by decide +kernel
theorem dX0_steps_65 : decode cX0_steps 65 = .ok (.ineg, 1) := by decide +kernel
theorem dX0_steps_66 : decode cX0_steps 66 = .ok (.ireturn, 1) := by decide +kernel
theorem dX0_steps_67 : decode cX0_steps 67 = .ok (.aload_n 0, 1) := by decide +kernel
theorem dX0_steps_68 : decode cX0_steps 68 = .ok (.bipush 71, 2) := by decide +kernel
theorem dX0_steps_70 : decode cX0_steps 70 = .ok (.invokevirtual 25, 3) := by decide +kernel
theorem dX0_steps_73 : decode cX0_steps 73 = .ok (.aload_n 0, 1) := by decide +kernel
theorem dX0_steps_74 : decode cX0_steps 74 = .ok (.iload_n 1, 1) := by decide +kernel
theorem dX0_steps_75 : decode cX0_steps 75 = .ok (.invokevirtual 29, 3) := by decide +kernel
theorem dX0_steps_78 : decode cX0_steps 78 = .ok (.aload_n 0, 1) := by decide +kernel
theorem dX0_steps_79 : decode cX0_steps 79 = .ok (.getfield 19, 3) := by decide +kernel
theorem dX0_steps_82 : decode cX0_steps 82 = .ok (.ixor, 1) := by decide +kernel
theorem dX0_steps_83 : decode cX0_steps 83 = .ok (.ireturn, 1) := by decide +kernel
theorem dX0_steps_84 : decode cX0_steps 84 = .ok (.aload_n 0, 1) := by decide +kernel
theorem dX0_steps_85 : decode cX0_steps 85 = .ok (.iload_n 1, 1) := by decide +kernel
theorem dX0_steps_86 : decode cX0_steps 86 = .ok (.invokevirtual 29, 3) := by decide +kernel
theorem dX0_steps_89 : decode cX0_steps 89 = .ok (.ireturn, 1) := by decide +kernel
theorem dX0_turns_0 : decode cX0_turns 0 = .ok (.aload_n 0, 1) := by decide +kernel
theorem dX0_turns_1 : decode cX0_turns 1 = .ok (.getfield 15, 3) := by decide +kernel
theorem dX0_turns_4 : decode cX0_turns 4 = .ok (.lookupswitch 94 #[(1, 36), (4, 51), (6, 74)], 36) := by decide +kernel
theorem dX0_turns_40 : decode cX0_turns 40 = .ok (.aload_n 0, 1) := by decide +kernel
theorem dX0_turns_41 : decode cX0_turns 41 = .ok (.bipush 20, 2) := by decide +kernel
theorem dX0_turns_43 : decode cX0_turns 43 = .ok (.invokevirtual 25, 3) := by decide +kernel
theorem dX0_turns_46 : decode cX0_turns 46 = .ok (.aload_n 0, 1) := by decide +kernel
theorem dX0_turns_47 : decode cX0_turns 47 = .ok (.iload_n 1, 1) := by decide +kernel
theorem dX0_turns_48 : decode cX0_turns 48 = .ok (.invokevirtual 33, 3) := by decide +kernel
theorem dX0_turns_51 : decode cX0_turns 51 = .ok (.bipush 6, 2) := by decide +kernel
theorem dX0_turns_53 : decode cX0_turns 53 = .ok (.ixor, 1) := by decide +kernel
theorem dX0_turns_54 : decode cX0_turns 54 = .ok (.ireturn, 1) := by decide +kernel
theorem dX0_turns_55 : decode cX0_turns 55 = .ok (.aload_n 0, 1) := by decide +kernel
theorem dX0_turns_56 : decode cX0_turns 56 = .ok (.bipush 51, 2) := by decide +kernel
theorem dX0_turns_58 : decode cX0_turns 58 = .ok (.invokevirtual 25, 3) := by decide +kernel
theorem dX0_turns_61 : decode cX0_turns 61 = .ok (.aload_n 0, 1) := by decide +kernel
theorem dX0_turns_62 : decode cX0_turns 62 = .ok (.bipush 20, 2) := by decide +kernel
theorem dX0_turns_64 : decode cX0_turns 64 = .ok (.invokevirtual 25, 3) := by decide +kernel
theorem dX0_turns_67 : decode cX0_turns 67 = .ok (.aload_n 0, 1) := by decide +kernel
theorem dX0_turns_68 : decode cX0_turns 68 = .ok (.iload_n 1, 1) := by decide +kernel
theorem dX0_turns_69 : decode cX0_turns 69 = .ok (.iconst 1, 1) := by decide +kernel
theorem dX0_turns_70 : decode cX0_turns 70 = .ok (.iadd, 1) := by decide +kernel
theorem dX0_turns_71 : decode cX0_turns 71 = .ok (.invokevirtual 33, 3) := by decide +kernel
theorem dX0_turns_74 : decode cX0_turns 74 = .ok (.bipush 6, 2) := by decide +kernel
theorem dX0_turns_76 : decode cX0_turns 76 = .ok (.ixor, 1) := by decide +kernel
theorem dX0_turns_77 : decode cX0_turns 77 = .ok (.ireturn, 1) := by decide +kernel
theorem dX0_turns_78 : decode cX0_turns 78 = .ok (.aload_n 0, 1) := by decide +kernel
theorem dX0_turns_79 : decode cX0_turns 79 = .ok (.bipush 70, 2) := by decide +kernel
theorem dX0_turns_81 : decode cX0_turns 81 = .ok (.invokevirtual 25, 3) := by decide +kernel
theorem dX0_turns_84 : decode cX0_turns 84 = .ok (.aload_n 0, 1) := by decide +kernel
theorem dX0_turns_85 : decode cX0_turns 85 = .ok (.iload_n 1, 1) := by decide +kernel
theorem dX0_turns_86 : decode cX0_turns 86 = .ok (.invokevirtual 33, 3) := by decide +kernel
theorem dX0_turns_89 : decode cX0_turns 89 = .ok (.istore_n 2, 1) := by decide +kernel
theorem dX0_turns_90 : decode cX0_turns 90 = .ok (.iload_n 2, 1) := by decide +kernel
theorem dX0_turns_91 : decode cX0_turns 91 = .ok (.aload_n 0, 1) := by decide +kernel
theorem dX0_turns_92 : decode cX0_turns 92 = .ok (.iconst 2, 1) := by decide +kernel
theorem dX0_turns_93 : decode cX0_turns 93 = .ok (.invokevirtual 29, 3) := by decide +kernel
theorem dX0_turns_96 : decode cX0_turns 96 = .ok (.iadd, 1) := by decide +kernel
theorem dX0_turns_97 : decode cX0_turns 97 = .ok (.ireturn, 1) := by decide +kernel
theorem dX0_turns_98 : decode cX0_turns 98 = .ok (.aload_n 0, 1) := by decide +kernel
theorem dX0_turns_99 : decode cX0_turns 99 = .ok (.iload_n 1, 1) := by decide +kernel
theorem dX0_turns_100 : decode cX0_turns 100 = .ok (.invokevirtual 33, 3) := by decide +kernel
theorem dX0_turns_103 : decode cX0_turns 103 = .ok (.ireturn, 1) := by decide +kernel
theorem dX0_tells_0 : decode cX0_tells 0 = .ok (.aload_n 0, 1) := by decide +kernel
theorem dX0_tells_1 : decode cX0_tells 1 = .ok (.getfield 15, 3) := by decide +kernel
theorem dX0_tells_4 : decode cX0_tells 4 = .ok (.tableswitch 69 3 6 #[32, 69, 52, 32], 32) := by decide +kernel
theorem dX0_tells_36 : decode cX0_tells 36 = .ok (.aload_n 0, 1) := by decide +kernel
theorem dX0_tells_37 : decode cX0_tells 37 = .ok (.bipush 40, 2) := by decide +kernel
theorem dX0_tells_39 : decode cX0_tells 39 = .ok (.invokevirtual 25, 3) := by decide +kernel
theorem dX0_tells_42 : decode cX0_tells 42 = .ok (.aload_n 0, 1) := by decide +kernel
theorem dX0_tells_43 : decode cX0_tells 43 = .ok (.iload_n 1, 1) := by decide +kernel
theorem dX0_tells_44 : decode cX0_tells 44 = .ok (.invokevirtual 36, 3) := by decide +kernel
theorem dX0_tells_47 : decode cX0_tells 47 = .ok (.istore_n 2, 1) := by decide +kernel
theorem dX0_tells_48 : decode cX0_tells 48 = .ok (.iload_n 2, 1) := by decide +kernel
theorem dX0_tells_49 : decode cX0_tells 49 = .ok (.aload_n 0, 1) := by decide +kernel
theorem dX0_tells_50 : decode cX0_tells 50 = .ok (.iconst 1, 1) := by decide +kernel
theorem dX0_tells_51 : decode cX0_tells 51 = .ok (.invokevirtual 39, 3) := by decide +kernel
theorem dX0_tells_54 : decode cX0_tells 54 = .ok (.iadd, 1) := by decide +kernel
theorem dX0_tells_55 : decode cX0_tells 55 = .ok (.ireturn, 1) := by decide +kernel
theorem dX0_tells_56 : decode cX0_tells 56 = .ok (.aload_n 0, 1) := by decide +kernel
theorem dX0_tells_57 : decode cX0_tells 57 = .ok (.bipush 60, 2) := by decide +kernel
theorem dX0_tells_59 : decode cX0_tells 59 = .ok (.invokevirtual 25, 3) := by decide +kernel
theorem dX0_tells_62 : decode cX0_tells 62 = .ok (.aload_n 0, 1) := by decide +kernel
theorem dX0_tells_63 : decode cX0_tells 63 = .ok (.iload_n 1, 1) := by decide +kernel
theorem dX0_tells_64 : decode cX0_tells 64 = .ok (.aload_n 0, 1) := by decide +kernel
theorem dX0_tells_65 : decode cX0_tells 65 = .ok (.getfield 22, 3) := by decide +kernel
theorem dX0_tells_68 : decode cX0_tells 68 = .ok (.isub, 1) := by decide +kernel
theorem dX0_tells_69 : decode cX0_tells 69 = .ok (.invokevirtual 36, 3) := by decide +kernel
theorem dX0_tells_72 : decode cX0_tells 72 = .ok (.ireturn, 1) := by decide +kernel
theorem dX0_tells_73 : decode cX0_tells 73 = .ok (.aload_n 0, 1) := by decide +kernel
theorem dX0_tells_74 : decode cX0_tells 74 = .ok (.iload_n 1, 1) := by decide +kernel
theorem dX0_tells_75 : decode cX0_tells 75 = .ok (.invokevirtual 36, 3) := by decide +kernel
theorem dX0_tells_78 : decode cX0_tells 78 = .ok (.ireturn, 1) := by decide +kernel
theorem dX0_plainSteps_0 : decode cX0_plainSteps 0 = .ok (.aload_n 0, 1) := by decide +kernel
theorem dX0_plainSteps_1 : decode cX0_plainSteps 1 = .ok (.bipush 10, 2) := by decide +kernel
theorem dX0_plainSteps_3 : decode cX0_plainSteps 3 = .ok (.invokevirtual 25, 3) := by decide +kernel
theorem dX0_plainSteps_6 : decode cX0_plainSteps 6 = .ok (.iload_n 1, 1) := by decide +kernel
theorem dX0_plainSteps_7 : decode cX0_plainSteps 7 = .ok (.aload_n 0, 1) := by decide +kernel
theorem dX0_plainSteps_8 : decode cX0_plainSteps 8 = .ok (.getfield 22, 3) := by decide +kernel
theorem dX0_plainSteps_11 : decode cX0_plainSteps 11 = .ok (.iadd, 1) := by decide +kernel
theorem dX0_plainSteps_12 : decode cX0_plainSteps 12 = .ok (.ireturn, 1) := by decide +kernel
theorem dX0_plainTurns_0 : decode cX0_plainTurns 0 = .ok (.aload_n 0, 1) := by decide +kernel
theorem dX0_plainTurns_1 : decode cX0_plainTurns 1 = .ok (.bipush 11, 2) := by decide +kernel
theorem dX0_plainTurns_3 : decode cX0_plainTurns 3 = .ok (.invokevirtual 25, 3) := by decide +kernel
theorem dX0_plainTurns_6 : decode cX0_plainTurns 6 = .ok (.aload_n 0, 1) := by decide +kernel
theorem dX0_plainTurns_7 : decode cX0_plainTurns 7 = .ok (.iload_n 1, 1) := by decide +kernel
theorem dX0_plainTurns_8 : decode cX0_plainTurns 8 = .ok (.invokevirtual 42, 3) := by decide +kernel
theorem dX0_plainTurns_11 : decode cX0_plainTurns 11 = .ok (.aload_n 0, 1) := by decide +kernel
theorem dX0_plainTurns_12 : decode cX0_plainTurns 12 = .ok (.getfield 19, 3) := by decide +kernel
theorem dX0_plainTurns_15 : decode cX0_plainTurns 15 = .ok (.isub, 1) := by decide +kernel
theorem dX0_plainTurns_16 : decode cX0_plainTurns 16 = .ok (.ireturn, 1) := by decide +kernel
theorem dX0_plainTells_0 : decode cX0_plainTells 0 = .ok (.aload_n 0, 1) := by decide +kernel
theorem dX0_plainTells_1 : decode cX0_plainTells 1 = .ok (.bipush 12, 2) := by decide +kernel
theorem dX0_plainTells_3 : decode cX0_plainTells 3 = .ok (.invokevirtual 25, 3) := by decide +kernel
theorem dX0_plainTells_6 : decode cX0_plainTells 6 = .ok (.aload_n 0, 1) := by decide +kernel
theorem dX0_plainTells_7 : decode cX0_plainTells 7 = .ok (.iload_n 1, 1) := by decide +kernel
theorem dX0_plainTells_8 : decode cX0_plainTells 8 = .ok (.invokevirtual 39, 3) := by decide +kernel
theorem dX0_plainTells_11 : decode cX0_plainTells 11 = .ok (.iconst 2, 1) := by decide +kernel
theorem dX0_plainTells_12 : decode cX0_plainTells 12 = .ok (.imul, 1) := by decide +kernel
theorem dX0_plainTells_13 : decode cX0_plainTells 13 = .ok (.ireturn, 1) := by decide +kernel
theorem dX0_begins_0 : decode cX0_begins 0 = .ok (.aload_n 0, 1) := by decide +kernel
theorem dX0_begins_1 : decode cX0_begins 1 = .ok (.getfield 45, 3) := by decide +kernel
theorem dX0_begins_4 : decode cX0_begins 4 = .ok (.ifCond .lt 22, 3) := by decide +kernel
theorem dX0_begins_7 : decode cX0_begins 7 = .ok (.aload_n 0, 1) := by decide +kernel
theorem dX0_begins_8 : decode cX0_begins 8 = .ok (.getfield 45, 3) := by decide +kernel
theorem dX0_begins_11 : decode cX0_begins 11 = .ok (.bipush 20, 2) := by decide +kernel
theorem dX0_begins_13 : decode cX0_begins 13 = .ok (.if_icmp .ge 13, 3) := by decide +kernel
theorem dX0_begins_16 : decode cX0_begins 16 = .ok (.aload_n 0, 1) := by decide +kernel
theorem dX0_begins_17 : decode cX0_begins 17 = .ok (.getfield 9, 3) := by decide +kernel
theorem dX0_begins_20 : decode cX0_begins 20 = .ok (.aload_n 0, 1) := by decide +kernel
theorem dX0_begins_21 : decode cX0_begins 21 = .ok (.getfield 45, 3) := by decide +kernel
theorem dX0_begins_24 : decode cX0_begins 24 = .ok (.iload_n 1, 1) := by decide +kernel
theorem dX0_begins_25 : decode cX0_begins 25 = .ok (.iastore, 1) := by decide +kernel
theorem dX0_begins_26 : decode cX0_begins 26 = .ok (.aload_n 0, 1) := by decide +kernel
theorem dX0_begins_27 : decode cX0_begins 27 = .ok (.dup, 1) := by decide +kernel
theorem dX0_begins_28 : decode cX0_begins 28 = .ok (.getfield 45, 3) := by decide +kernel
theorem dX0_begins_31 : decode cX0_begins 31 = .ok (.iconst 1, 1) := by decide +kernel
theorem dX0_begins_32 : decode cX0_begins 32 = .ok (.iadd, 1) := by decide +kernel
theorem dX0_begins_33 : decode cX0_begins 33 = .ok (.putfield 45, 3) := by decide +kernel
theorem dX0_begins_36 : decode cX0_begins 36 = .ok (.return_, 1) := by decide +kernel
theorem dX1_init_0 : decode cX1_init 0 = .ok (.aload_n 0, 1) := by decide +kernel
theorem dX1_init_1 : decode cX1_init 1 = .ok (.invokespecial 3, 3) := by decide +kernel
theorem dX1_init_4 : decode cX1_init 4 = .ok (.aload_n 0, 1) := by decide +kernel
theorem dX1_init_5 : decode cX1_init 5 = .ok (.bipush 20, 2) := by decide +kernel
theorem dX1_init_7 : decode cX1_init 7 = .ok (.newarray .long, 2) := by decide +kernel
theorem dX1_init_9 : decode cX1_init 9 = .ok (.putfield 9, 3) := by decide +kernel
theorem dX1_init_12 : decode cX1_init 12 = .ok (.aload_n 0, 1) := by decide +kernel
theorem dX1_init_13 : decode cX1_init 13 = .ok (.bipush 20, 2) := by decide +kernel
theorem dX1_init_15 : decode cX1_init 15 = .ok (.newarray .long, 2) := by decide +kernel
theorem dX1_init_17 : decode cX1_init 17 = .ok (.putfield 15, 3) := by decide +kernel
theorem dX1_init_20 : decode cX1_init 20 = .ok (.aload_n 0, 1) := by decide +kernel
theorem dX1_init_21 : decode cX1_init 21 = .ok (.new 18, 3) := by decide +kernel
theorem dX1_init_24 : decode cX1_init 24 = .ok (.dup, 1) := by decide +kernel
theorem dX1_init_25 : decode cX1_init 25 = .ok (.aload_n 1, 1) := by decide +kernel
theorem dX1_init_26 : decode cX1_init 26 = .ok (.invokespecial 20, 3) := by decide +kernel
theorem dX1_init_29 : decode cX1_init 29 = .ok (.putfield 23, 3) := by decide +kernel
theorem dX1_init_32 : decode cX1_init 32 = .ok (.return_, 1) := by decide +kernel
theorem dX1_alone_0 : decode cX1_alone 0 = .ok (.aload_n 0, 1) := by decide +kernel
theorem dX1_alone_1 : decode cX1_alone 1 = .ok (.aload_n 1, 1) := by decide +kernel
theorem dX1_alone_2 : decode cX1_alone 2 = .ok (.aload_n 2, 1) := by decide +kernel
theorem dX1_alone_3 : decode cX1_alone 3 = .ok (.aload_n 2, 1) := by decide +kernel
theorem dX1_alone_4 : decode cX1_alone 4 = .ok (.getfield 27, 3) := by decide +kernel
theorem dX1_alone_7 : decode cX1_alone 7 = .ok (.aload_n 2, 1) := by decide +kernel
theorem dX1_alone_8 : decode cX1_alone 8 = .ok (.getfield 33, 3) := by decide +kernel
theorem dX1_alone_11 : decode cX1_alone 11 = .ok (.aload_n 2, 1) := by decide +kernel
theorem dX1_alone_12 : decode cX1_alone 12 = .ok (.getfield 36, 3) := by decide +kernel
theorem dX1_alone_15 : decode cX1_alone 15 = .ok (.invokevirtual 39, 3) := by decide +kernel
theorem dX1_alone_18 : decode cX1_alone 18 = .ok (.return_, 1) := by decide +kernel
theorem dX1_alone__0 : decode cX1_alone_ 0 = .ok (.aload_n 0, 1) := by decide +kernel
theorem dX1_alone__1 : decode cX1_alone_ 1 = .ok (.getfield 23, 3) := by decide +kernel
theorem dX1_alone__4 : decode cX1_alone_ 4 = .ok (.aload_n 1, 1) := by decide +kernel
theorem dX1_alone__5 : decode cX1_alone_ 5 = .ok (.iload_n 3, 1) := by decide +kernel
theorem dX1_alone__6 : decode cX1_alone_ 6 = .ok (.iload 4, 2) := by decide +kernel
theorem dX1_alone__8 : decode cX1_alone_ 8 = .ok (.iload 5, 2) := by decide +kernel
theorem dX1_alone__10 : decode cX1_alone_ 10 = .ok (.aload_n 2, 1) := by decide +kernel
theorem dX1_alone__11 : decode cX1_alone_ 11 = .ok (.getfield 43, 3) := by decide +kernel
theorem dX1_alone__14 : decode cX1_alone_ 14 = .ok (.invokevirtual 46, 3) := by decide +kernel
theorem dX1_alone__17 : decode cX1_alone_ 17 = .ok (.aload_n 0, 1) := by decide +kernel
theorem dX1_alone__18 : decode cX1_alone_ 18 = .ok (.getfield 9, 3) := by decide +kernel
theorem dX1_alone__21 : decode cX1_alone_ 21 = .ok (.lconst 0, 1) := by decide +kernel
theorem dX1_alone__22 : decode cX1_alone_ 22 = .ok (.invokestatic 50, 3) := by decide +kernel
theorem dX1_alone__25 : decode cX1_alone_ 25 = .ok (.aload_n 0, 1) := by decide +kernel
theorem dX1_alone__26 : decode cX1_alone_ 26 = .ok (.getfield 9, 3) := by decide +kernel
theorem dX1_alone__29 : decode cX1_alone_ 29 = .ok (.aload_n 2, 1) := by decide +kernel
theorem dX1_alone__30 : decode cX1_alone_ 30 = .ok (.getfield 56, 3) := by decide +kernel
theorem dX1_alone__33 : decode cX1_alone_ 33 = .ok (.aload_n 2, 1) := by decide +kernel
theorem dX1_alone__34 : decode cX1_alone_ 34 = .ok (.getfield 59, 3) := by decide +kernel
theorem dX1_alone__37 : decode cX1_alone_ 37 = .ok (.lconst 1, 1) := by decide +kernel
theorem dX1_alone__38 : decode cX1_alone_ 38 = .ok (.aload_n 2, 1) := by decide +kernel
theorem dX1_alone__39 : decode cX1_alone_ 39 = .ok (.getfield 62, 3) := by decide +kernel
theorem dX1_alone__42 : decode cX1_alone_ 42 = .ok (.lshl, 1) := by decide +kernel
theorem dX1_alone__43 : decode cX1_alone_ 43 = .ok (.invokestatic 65, 3) := by decide +kernel
theorem dX1_alone__46 : decode cX1_alone_ 46 = .ok (.return_, 1) := by decide +kernel
theorem dX1_around_0 : decode cX1_around 0 = .ok (.aload_n 0, 1) := by decide +kernel
theorem dX1_around_1 : decode cX1_around 1 = .ok (.getfield 23, 3) := by decide +kernel
theorem dX1_around_4 : decode cX1_around 4 = .ok (.aload_n 1, 1) := by decide +kernel
theorem dX1_around_5 : decode cX1_around 5 = .ok (.iload_n 3, 1) := by decide +kernel
theorem dX1_around_6 : decode cX1_around 6 = .ok (.iload 4, 2) := by decide +kernel
theorem dX1_around_8 : decode cX1_around 8 = .ok (.iload 5, 2) := by decide +kernel
theorem dX1_around_10 : decode cX1_around 10 = .ok (.iconst 0, 1) := by decide +kernel
theorem dX1_around_11 : decode cX1_around 11 = .ok (.invokevirtual 46, 3) := by decide +kernel
theorem dX1_around_14 : decode cX1_around 14 = .ok (.aload_n 0, 1) := by decide +kernel
theorem dX1_around_15 : decode cX1_around 15 = .ok (.getfield 9, 3) := by decide +kernel
theorem dX1_around_18 : decode cX1_around 18 = .ok (.lconst 0, 1) := by decide +kernel
theorem dX1_around_19 : decode cX1_around 19 = .ok (.invokestatic 50, 3) := by decide +kernel
theorem dX1_around_22 : decode cX1_around 22 = .ok (.iconst 0, 1) := by decide +kernel
theorem dX1_around_23 : decode cX1_around 23 = .ok (.istore 6, 2) := by decide +kernel
theorem dX1_around_25 : decode cX1_around 25 = .ok (.iload 6, 2) := by decide +kernel
theorem dX1_around_27 : decode cX1_around 27 = .ok (.iconst 4, 1) := by decide +kernel
theorem dX1_around_28 : decode cX1_around 28 = .ok (.if_icmp .ge 22, 3) := by decide +kernel
theorem dX1_around_31 : decode cX1_around 31 = .ok (.aload_n 0, 1) := by decide +kernel
theorem dX1_around_32 : decode cX1_around 32 = .ok (.getfield 9, 3) := by decide +kernel
theorem dX1_around_35 : decode cX1_around 35 = .ok (.iload 6, 2) := by decide +kernel
theorem dX1_around_37 : decode cX1_around 37 = .ok (.iconst 4, 1) := by decide +kernel
theorem dX1_around_38 : decode cX1_around 38 = .ok (.lconst 1, 1) := by decide +kernel
theorem dX1_around_39 : decode cX1_around 39 = .ok (.iload_n 2, 1) := by decide +kernel
theorem dX1_around_40 : decode cX1_around 40 = .ok (.lshl, 1) := by decide +kernel
theorem dX1_around_41 : decode cX1_around 41 = .ok (.invokestatic 65, 3) := by decide +kernel
theorem dX1_around_44 : decode cX1_around 44 = .ok (.iinc 6 1, 3) := by decide +kernel
theorem dX1_around_47 : decode cX1_around 47 = .ok (.goto (-22), 3) := by decide +kernel
theorem dX1_around_50 : decode cX1_around 50 = .ok (.return_, 1) := by decide +kernel
theorem dX1_advance_0 : decode cX1_advance 0 = .ok (.aload_n 0, 1) := by decide +kernel
theorem dX1_advance_1 : decode cX1_advance 1 = .ok (.getfield 15, 3) := by decide +kernel
theorem dX1_advance_4 : decode cX1_advance 4 = .ok (.lconst 0, 1) := by decide +kernel
theorem dX1_advance_5 : decode cX1_advance 5 = .ok (.invokestatic 50, 3) := by decide +kernel
theorem dX1_advance_8 : decode cX1_advance 8 = .ok (.iconst 0, 1) := by decide +kernel
theorem dX1_advance_9 : decode cX1_advance 9 = .ok (.istore_n 2, 1) := by decide +kernel
theorem dX1_advance_10 : decode cX1_advance 10 = .ok (.iload_n 2, 1) := by decide +kernel
theorem dX1_advance_11 : decode cX1_advance 11 = .ok (.iconst 4, 1) := by decide +kernel
theorem dX1_advance_12 : decode cX1_advance 12 = .ok (.if_icmp .ge 44, 3) := by decide +kernel
theorem dX1_advance_15 : decode cX1_advance 15 = .ok (.iconst 0, 1) := by decide +kernel
theorem dX1_advance_16 : decode cX1_advance 16 = .ok (.istore_n 3, 1) := by decide +kernel
theorem dX1_advance_17 : decode cX1_advance 17 = .ok (.iload_n 3, 1) := by decide +kernel
theorem dX1_advance_18 : decode cX1_advance 18 = .ok (.iconst 5, 1) := by decide +kernel
theorem dX1_advance_19 : decode cX1_advance 19 = .ok (.if_icmp .ge 31, 3) := by decide +kernel
theorem dX1_advance_22 : decode cX1_advance 22 = .ok (.aload_n 0, 1) := by decide +kernel
theorem dX1_advance_23 : decode cX1_advance 23 = .ok (.getfield 9, 3) := by decide +kernel
theorem dX1_advance_26 : decode cX1_advance 26 = .ok (.iload_n 2, 1) := by decide +kernel
theorem dX1_advance_27 : decode cX1_advance 27 = .ok (.iconst 5, 1) := by decide +kernel
theorem dX1_advance_28 : decode cX1_advance 28 = .ok (.imul, 1) := by decide +kernel
theorem dX1_advance_29 : decode cX1_advance 29 = .ok (.iload_n 3, 1) := by decide +kernel
theorem dX1_advance_30 : decode cX1_advance 30 = .ok (.iadd, 1) := by decide +kernel
theorem dX1_advance_31 : decode cX1_advance 31 = .ok (.laload, 1) := by decide +kernel
theorem dX1_advance_32 : decode cX1_advance 32 = .ok (.lconst 0, 1) := by decide +kernel
theorem dX1_advance_33 : decode cX1_advance 33 = .ok (.lcmp, 1) := by decide +kernel
theorem dX1_advance_34 : decode cX1_advance 34 = .ok (.ifCond .eq 10, 3) := by decide +kernel
theorem dX1_advance_37 : decode cX1_advance 37 = .ok (.aload_n 0, 1) := by decide +kernel
theorem dX1_advance_38 : decode cX1_advance 38 = .ok (.iload_n 1, 1) := by decide +kernel
theorem dX1_advance_39 : decode cX1_advance 39 = .ok (.iload_n 2, 1) := by decide +kernel
theorem dX1_advance_40 : decode cX1_advance 40 = .ok (.iload_n 3, 1) := by decide +kernel
theorem dX1_advance_41 : decode cX1_advance 41 = .ok (.invokevirtual 69, 3) := by decide +kernel
theorem dX1_advance_44 : decode cX1_advance 44 = .ok (.iinc 3 1, 3) := by decide +kernel
theorem dX1_advance_47 : decode cX1_advance 47 = .ok (.goto (-30), 3) := by decide +kernel
theorem dX1_advance_50 : decode cX1_advance 50 = .ok (.iinc 2 1, 3) := by decide +kernel
theorem dX1_advance_53 : decode cX1_advance 53 = .ok (.goto (-43), 3) := by decide +kernel
theorem dX1_advance_56 : decode cX1_advance 56 = .ok (.aload_n 0, 1) := by decide +kernel
theorem dX1_advance_57 : decode cX1_advance 57 = .ok (.getfield 9, 3) := by decide +kernel
theorem dX1_advance_60 : decode cX1_advance 60 = .ok (.astore_n 2, 1) := by decide +kernel
theorem dX1_advance_61 : decode cX1_advance 61 = .ok (.aload_n 0, 1) := by decide +kernel
theorem dX1_advance_62 : decode cX1_advance 62 = .ok (.aload_n 0, 1) := by decide +kernel
theorem dX1_advance_63 : decode cX1_advance 63 = .ok (.getfield 15, 3) := by decide +kernel
theorem dX1_advance_66 : decode cX1_advance 66 = .ok (.putfield 9, 3) := by decide +kernel
theorem dX1_advance_69 : decode cX1_advance 69 = .ok (.aload_n 0, 1) := by decide +kernel
theorem dX1_advance_70 : decode cX1_advance 70 = .ok (.aload_n 2, 1) := by decide +kernel
theorem dX1_advance_71 : decode cX1_advance 71 = .ok (.putfield 15, 3) := by decide +kernel
theorem dX1_advance_74 : decode cX1_advance 74 = .ok (.aload_n 0, 1) := by decide +kernel
theorem dX1_advance_75 : decode cX1_advance 75 = .ok (.getfield 23, 3) := by decide +kernel
theorem dX1_advance_78 : decode cX1_advance 78 = .ok (.invokevirtual 73, 3) := by decide +kernel
theorem dX1_advance_81 : decode cX1_advance 81 = .ok (.return_, 1) := by decide +kernel
theorem dX1_spread_0 : decode cX1_spread 0 = .ok (.aload_n 0, 1) := by decide +kernel
theorem dX1_spread_1 : decode cX1_spread 1 = .ok (.iload_n 2, 1) := by decide +kernel
theorem dX1_spread_2 : decode cX1_spread 2 = .ok (.iload_n 3, 1) := by decide +kernel
theorem dX1_spread_3 : decode cX1_spread 3 = .ok (.invokevirtual 76, 3) := by decide +kernel
theorem dX1_spread_6 : decode cX1_spread 6 = .ok (.lstore 4, 2) := by decide +kernel
theorem dX1_spread_8 : decode cX1_spread 8 = .ok (.iconst 0, 1) := by decide +kernel
theorem dX1_spread_9 : decode cX1_spread 9 = .ok (.istore 6, 2) := by decide +kernel
theorem dX1_spread_11 : decode cX1_spread 11 = .ok (.iload 6, 2) := by decide +kernel
theorem dX1_spread_13 : decode cX1_spread 13 = .ok (.bipush 6, 2) := by decide +kernel
theorem dX1_spread_15 : decode cX1_spread 15 = .ok (.if_icmp .ge 86, 3) := by decide +kernel
theorem dX1_spread_18 : decode cX1_spread 18 = .ok (.iload_n 1, 1) := by decide +kernel
theorem dX1_spread_19 : decode cX1_spread 19 = .ok (.iload 6, 2) := by decide +kernel
theorem dX1_spread_21 : decode cX1_spread 21 = .ok (.ishr, 1) := by decide +kernel
theorem dX1_spread_22 : decode cX1_spread 22 = .ok (.iconst 1, 1) := by decide +kernel
theorem dX1_spread_23 : decode cX1_spread 23 = .ok (.iand, 1) := by decide +kernel
theorem dX1_spread_24 : decode cX1_spread 24 = .ok (.ifCond .ne 7, 3) := by decide +kernel
theorem dX1_spread_27 : decode cX1_spread 27 = .ok (.lconst 0, 1) := by decide +kernel
theorem dX1_spread_28 : decode cX1_spread 28 = .ok (.goto 17, 3) := by decide +kernel
theorem dX1_spread_31 : decode cX1_spread 31 = .ok (.lload 4, 2) := by decide +kernel
theorem dX1_spread_33 : decode cX1_spread 33 = .ok (.aload_n 0, 1) := by decide +kernel
theorem dX1_spread_34 : decode cX1_spread 34 = .ok (.getfield 23, 3) := by decide +kernel
theorem dX1_spread_37 : decode cX1_spread 37 = .ok (.iload 6, 2) := by decide +kernel
theorem dX1_spread_39 : decode cX1_spread 39 = .ok (.iload_n 2, 1) := by decide +kernel
theorem dX1_spread_40 : decode cX1_spread 40 = .ok (.iload_n 3, 1) := by decide +kernel
theorem dX1_spread_41 : decode cX1_spread 41 = .ok (.invokevirtual 80, 3) := by decide +kernel
theorem dX1_spread_44 : decode cX1_spread 44 = .ok (.land, 1) := by decide +kernel
theorem dX1_spread_45 : decode cX1_spread 45 = .ok (.lstore 7, 2) := by decide +kernel
theorem dX1_spread_47 : decode cX1_spread 47 = .ok (.lload 7, 2) := by decide +kernel
theorem dX1_spread_49 : decode cX1_spread 49 = .ok (.lconst 0, 1) := by decide +kernel
theorem dX1_spread_50 : decode cX1_spread 50 = .ok (.lcmp, 1) := by decide +kernel
theorem dX1_spread_51 : decode cX1_spread 51 = .ok (.ifCond .eq 44, 3) := by decide +kernel
theorem dX1_spread_54 : decode cX1_spread 54 = .ok (.aload_n 0, 1) := by decide +kernel
theorem dX1_spread_55 : decode cX1_spread 55 = .ok (.getfield 23, 3) := by decide +kernel
theorem dX1_spread_58 : decode cX1_spread 58 = .ok (.iload 6, 2) := by decide +kernel
theorem dX1_spread_60 : decode cX1_spread 60 = .ok (.iload_n 2, 1) := by decide +kernel
theorem dX1_spread_61 : decode cX1_spread 61 = .ok (.iload_n 3, 1) := by decide +kernel
theorem dX1_spread_62 : decode cX1_spread 62 = .ok (.invokevirtual 84, 3) := by decide +kernel
theorem dX1_spread_65 : decode cX1_spread 65 = .ok (.istore 9, 2) := by decide +kernel
theorem dX1_spread_67 : decode cX1_spread 67 = .ok (.aload_n 0, 1) := by decide +kernel
theorem dX1_spread_68 : decode cX1_spread 68 = .ok (.getfield 15, 3) := by decide +kernel
theorem dX1_spread_71 : decode cX1_spread 71 = .ok (.iload 6, 2) := by decide +kernel
theorem dX1_spread_73 : decode cX1_spread 73 = .ok (.iload_n 2, 1) := by decide +kernel
theorem dX1_spread_74 : decode cX1_spread 74 = .ok (.invokestatic 88, 3) := by decide +kernel
theorem dX1_spread_77 : decode cX1_spread 77 = .ok (.iload 6, 2) := by decide +kernel
theorem dX1_spread_79 : decode cX1_spread 79 = .ok (.iload 9, 2) := by decide +kernel
theorem dX1_spread_81 : decode cX1_spread 81 = .ok (.iload_n 3, 1) := by decide +kernel
theorem dX1_spread_82 : decode cX1_spread 82 = .ok (.invokestatic 92, 3) := by decide +kernel
theorem dX1_spread_85 : decode cX1_spread 85 = .ok (.lload 7, 2) := by decide +kernel
theorem dX1_spread_87 : decode cX1_spread 87 = .ok (.iload 9, 2) := by decide +kernel
theorem dX1_spread_89 : decode cX1_spread 89 = .ok (.invokestatic 95, 3) := by decide +kernel
theorem dX1_spread_92 : decode cX1_spread 92 = .ok (.invokestatic 65, 3) := by decide +kernel
theorem dX1_spread_95 : decode cX1_spread 95 = .ok (.iinc 6 1, 3) := by decide +kernel
theorem dX1_spread_98 : decode cX1_spread 98 = .ok (.goto (-87), 3) := by decide +kernel
theorem dX1_spread_101 : decode cX1_spread 101 = .ok (.return_, 1) := by decide +kernel
theorem dX1_join_0 : decode cX1_join 0 = .ok (.iload_n 1, 1) := by decide +kernel
theorem dX1_join_1 : decode cX1_join 1 = .ok (.iconst 5, 1) := by decide +kernel
theorem dX1_join_2 : decode cX1_join 2 = .ok (.imul, 1) := by decide +kernel
theorem dX1_join_3 : decode cX1_join 3 = .ok (.iload_n 2, 1) := by decide +kernel
theorem dX1_join_4 : decode cX1_join 4 = .ok (.iadd, 1) := by decide +kernel
theorem dX1_join_5 : decode cX1_join 5 = .ok (.istore 5, 2) := by decide +kernel
theorem dX1_join_7 : decode cX1_join 7 = .ok (.iload 5, 2) := by decide +kernel
theorem dX1_join_9 : decode cX1_join 9 = .ok (.ifCond .lt 18, 3) := by decide +kernel
theorem dX1_join_12 : decode cX1_join 12 = .ok (.iload 5, 2) := by decide +kernel
theorem dX1_join_14 : decode cX1_join 14 = .ok (.aload_n 0, 1) := by decide +kernel
theorem dX1_join_15 : decode cX1_join 15 = .ok (.arraylength, 1) := by decide +kernel
theorem dX1_join_16 : decode cX1_join 16 = .ok (.if_icmp .ge 11, 3) := by decide +kernel
theorem dX1_join_19 : decode cX1_join 19 = .ok (.aload_n 0, 1) := by decide +kernel
theorem dX1_join_20 : decode cX1_join 20 = .ok (.iload 5, 2) := by decide +kernel
theorem dX1_join_22 : decode cX1_join 22 = .ok (.dup2, 1) := by decide +kernel
theorem dX1_join_23 : decode cX1_join 23 = .ok (.laload, 1) := by decide +kernel
theorem dX1_join_24 : decode cX1_join 24 = .ok (.lload_n 3, 1) := by decide +kernel
theorem dX1_join_25 : decode cX1_join 25 = .ok (.lor, 1) := by decide +kernel
theorem dX1_join_26 : decode cX1_join 26 = .ok (.lastore, 1) := by decide +kernel
theorem dX1_join_27 : decode cX1_join 27 = .ok (.return_, 1) := by decide +kernel
theorem dX1_among_0 : decode cX1_among 0 = .ok (.iload_n 1, 1) := by decide +kernel
theorem dX1_among_1 : decode cX1_among 1 = .ok (.iconst 5, 1) := by decide +kernel
theorem dX1_among_2 : decode cX1_among 2 = .ok (.imul, 1) := by decide +kernel
theorem dX1_among_3 : decode cX1_among 3 = .ok (.iload_n 2, 1) := by decide +kernel
theorem dX1_among_4 : decode cX1_among 4 = .ok (.iadd, 1) := by decide +kernel
theorem dX1_among_5 : decode cX1_among 5 = .ok (.istore_n 3, 1) := by decide +kernel
theorem dX1_among_6 : decode cX1_among 6 = .ok (.iload_n 3, 1) := by decide +kernel
theorem dX1_among_7 : decode cX1_among 7 = .ok (.ifCond .lt 21, 3) := by decide +kernel
theorem dX1_among_10 : decode cX1_among 10 = .ok (.iload_n 3, 1) := by decide +kernel
theorem dX1_among_11 : decode cX1_among 11 = .ok (.aload_n 0, 1) := by decide +kernel
theorem dX1_among_12 : decode cX1_among 12 = .ok (.getfield 9, 3) := by decide +kernel
theorem dX1_among_15 : decode cX1_among 15 = .ok (.arraylength, 1) := by decide +kernel
theorem dX1_among_16 : decode cX1_among 16 = .ok (.if_icmp .ge 12, 3) := by decide +kernel
theorem dX1_among_19 : decode cX1_among 19 = .ok (.aload_n 0, 1) := by decide +kernel
theorem dX1_among_20 : decode cX1_among 20 = .ok (.getfield 9, 3) := by decide +kernel
theorem dX1_among_23 : decode cX1_among 23 = .ok (.iload_n 3, 1) := by decide +kernel
theorem dX1_among_24 : decode cX1_among 24 = .ok (.laload, 1) := by decide +kernel
theorem dX1_among_25 : decode cX1_among 25 = .ok (.goto 4, 3) := by decide +kernel
theorem dX1_among_28 : decode cX1_among 28 = .ok (.lconst 0, 1) := by decide +kernel
theorem dX1_among_29 : decode cX1_among 29 = .ok (.lreturn, 1) := by decide +kernel
theorem dX1_keep_0 : decode cX1_keep 0 = .ok (.iconst 0, 1) := by decide +kernel
theorem dX1_keep_1 : decode cX1_keep 1 = .ok (.istore_n 2, 1) := by decide +kernel
theorem dX1_keep_2 : decode cX1_keep 2 = .ok (.iload_n 2, 1) := by decide +kernel
theorem dX1_keep_3 : decode cX1_keep 3 = .ok (.aload_n 0, 1) := by decide +kernel
theorem dX1_keep_4 : decode cX1_keep 4 = .ok (.getfield 9, 3) := by decide +kernel
theorem dX1_keep_7 : decode cX1_keep 7 = .ok (.arraylength, 1) := by decide +kernel
theorem dX1_keep_8 : decode cX1_keep 8 = .ok (.if_icmp .ge 21, 3) := by decide +kernel
theorem dX1_keep_11 : decode cX1_keep 11 = .ok (.aload_n 0, 1) := by decide +kernel
theorem dX1_keep_12 : decode cX1_keep 12 = .ok (.getfield 9, 3) := by decide +kernel
theorem dX1_keep_15 : decode cX1_keep 15 = .ok (.iload_n 2, 1) := by decide +kernel
theorem dX1_keep_16 : decode cX1_keep 16 = .ok (.dup2, 1) := by decide +kernel
theorem dX1_keep_17 : decode cX1_keep 17 = .ok (.laload, 1) := by decide +kernel
theorem dX1_keep_18 : decode cX1_keep 18 = .ok (.lconst 1, 1) := by decide +kernel
theorem dX1_keep_19 : decode cX1_keep 19 = .ok (.iload_n 1, 1) := by decide +kernel
theorem dX1_keep_20 : decode cX1_keep 20 = .ok (.lshl, 1) := by decide +kernel
theorem dX1_keep_21 : decode cX1_keep 21 = .ok (.land, 1) := by decide +kernel
theorem dX1_keep_22 : decode cX1_keep 22 = .ok (.lastore, 1) := by decide +kernel
theorem dX1_keep_23 : decode cX1_keep 23 = .ok (.iinc 2 1, 3) := by decide +kernel
theorem dX1_keep_26 : decode cX1_keep 26 = .ok (.goto (-24), 3) := by decide +kernel
theorem dX1_keep_29 : decode cX1_keep 29 = .ok (.return_, 1) := by decide +kernel
theorem dX1_cells_0 : decode cX1_cells 0 = .ok (.lconst 0, 1) := by decide +kernel
theorem dX1_cells_1 : decode cX1_cells 1 = .ok (.lstore_n 1, 1) := by decide +kernel
theorem dX1_cells_2 : decode cX1_cells 2 = .ok (.iconst 0, 1) := by decide +kernel
theorem dX1_cells_3 : decode cX1_cells 3 = .ok (.istore_n 3, 1) := by decide +kernel
theorem dX1_cells_4 : decode cX1_cells 4 = .ok (.iload_n 3, 1) := by decide +kernel
theorem dX1_cells_5 : decode cX1_cells 5 = .ok (.aload_n 0, 1) := by decide +kernel
theorem dX1_cells_6 : decode cX1_cells 6 = .ok (.getfield 9, 3) := by decide +kernel
theorem dX1_cells_9 : decode cX1_cells 9 = .ok (.arraylength, 1) := by decide +kernel
theorem dX1_cells_10 : decode cX1_cells 10 = .ok (.if_icmp .ge 18, 3) := by decide +kernel
theorem dX1_cells_13 : decode cX1_cells 13 = .ok (.lload_n 1, 1) := by decide +kernel
theorem dX1_cells_14 : decode cX1_cells 14 = .ok (.aload_n 0, 1) := by decide +kernel
theorem dX1_cells_15 : decode cX1_cells 15 = .ok (.getfield 9, 3) := by decide +kernel
theorem dX1_cells_18 : decode cX1_cells 18 = .ok (.iload_n 3, 1) := by decide +kernel
theorem dX1_cells_19 : decode cX1_cells 19 = .ok (.laload, 1) := by decide +kernel
theorem dX1_cells_20 : decode cX1_cells 20 = .ok (.lor, 1) := by decide +kernel
theorem dX1_cells_21 : decode cX1_cells 21 = .ok (.lstore_n 1, 1) := by decide +kernel
theorem dX1_cells_22 : decode cX1_cells 22 = .ok (.iinc 3 1, 3) := by decide +kernel
theorem dX1_cells_25 : decode cX1_cells 25 = .ok (.goto (-21), 3) := by decide +kernel
theorem dX1_cells_28 : decode cX1_cells 28 = .ok (.lload_n 1, 1) := by decide +kernel
theorem dX1_cells_29 : decode cX1_cells 29 = .ok (.lreturn, 1) := by decide +kernel
theorem dX1_facing_0 : decode cX1_facing 0 = .ok (.lconst 0, 1) := by decide +kernel
theorem dX1_facing_1 : decode cX1_facing 1 = .ok (.lstore_n 2, 1) := by decide +kernel
theorem dX1_facing_2 : decode cX1_facing 2 = .ok (.iconst 0, 1) := by decide +kernel
theorem dX1_facing_3 : decode cX1_facing 3 = .ok (.istore 4, 2) := by decide +kernel
theorem dX1_facing_5 : decode cX1_facing 5 = .ok (.iload 4, 2) := by decide +kernel
theorem dX1_facing_7 : decode cX1_facing 7 = .ok (.iconst 5, 1) := by decide +kernel
theorem dX1_facing_8 : decode cX1_facing 8 = .ok (.if_icmp .ge 19, 3) := by decide +kernel
theorem dX1_facing_11 : decode cX1_facing 11 = .ok (.lload_n 2, 1) := by decide +kernel
theorem dX1_facing_12 : decode cX1_facing 12 = .ok (.aload_n 0, 1) := by decide +kernel
theorem dX1_facing_13 : decode cX1_facing 13 = .ok (.iload_n 1, 1) := by decide +kernel
theorem dX1_facing_14 : decode cX1_facing 14 = .ok (.iload 4, 2) := by decide +kernel
theorem dX1_facing_16 : decode cX1_facing 16 = .ok (.invokevirtual 76, 3) := by decide +kernel
theorem dX1_facing_19 : decode cX1_facing 19 = .ok (.lor, 1) := by decide +kernel
theorem dX1_facing_20 : decode cX1_facing 20 = .ok (.lstore_n 2, 1) := by decide +kernel
theorem dX1_facing_21 : decode cX1_facing 21 = .ok (.iinc 4 1, 3) := by decide +kernel
theorem dX1_facing_24 : decode cX1_facing 24 = .ok (.goto (-19), 3) := by decide +kernel
theorem dX1_facing_27 : decode cX1_facing 27 = .ok (.lload_n 2, 1) := by decide +kernel
theorem dX1_facing_28 : decode cX1_facing 28 = .ok (.lreturn, 1) := by decide +kernel
theorem dX1_beatsTo_0 : decode cX1_beatsTo 0 = .ok (.iconst 0, 1) := by decide +kernel
theorem dX1_beatsTo_1 : decode cX1_beatsTo 1 = .ok (.istore_n 2, 1) := by decide +kernel
theorem dX1_beatsTo_2 : decode cX1_beatsTo 2 = .ok (.iload_n 2, 1) := by decide +kernel
theorem dX1_beatsTo_3 : decode cX1_beatsTo 3 = .ok (.bipush 60, 2) := by decide +kernel
theorem dX1_beatsTo_5 : decode cX1_beatsTo 5 = .ok (.if_icmp .gt 28, 3) := by decide +kernel
theorem dX1_beatsTo_8 : decode cX1_beatsTo 8 = .ok (.aload_n 0, 1) := by decide +kernel
theorem dX1_beatsTo_9 : decode cX1_beatsTo 9 = .ok (.invokevirtual 99, 3) := by decide +kernel
theorem dX1_beatsTo_12 : decode cX1_beatsTo 12 = .ok (.iload_n 1, 1) := by decide +kernel
theorem dX1_beatsTo_13 : decode cX1_beatsTo 13 = .ok (.invokestatic 103, 3) := by decide +kernel
theorem dX1_beatsTo_16 : decode cX1_beatsTo 16 = .ok (.ifCond .eq 5, 3) := by decide +kernel
theorem dX1_beatsTo_19 : decode cX1_beatsTo 19 = .ok (.iload_n 2, 1) := by decide +kernel
theorem dX1_beatsTo_20 : decode cX1_beatsTo 20 = .ok (.ireturn, 1) := by decide +kernel
theorem dX1_beatsTo_21 : decode cX1_beatsTo 21 = .ok (.aload_n 0, 1) := by decide +kernel
theorem dX1_beatsTo_22 : decode cX1_beatsTo 22 = .ok (.bipush 63, 2) := by decide +kernel
theorem dX1_beatsTo_24 : decode cX1_beatsTo 24 = .ok (.invokevirtual 107, 3) := by decide +kernel
theorem dX1_beatsTo_27 : decode cX1_beatsTo 27 = .ok (.iinc 2 1, 3) := by decide +kernel
theorem dX1_beatsTo_30 : decode cX1_beatsTo 30 = .ok (.goto (-28), 3) := by decide +kernel
theorem dX1_beatsTo_33 : decode cX1_beatsTo 33 = .ok (.bipush (-5), 2) := by decide +kernel
theorem dX1_beatsTo_35 : decode cX1_beatsTo 35 = .ok (.ireturn, 1) := by decide +kernel
theorem dX2_init_0 : decode cX2_init 0 = .ok (.aload_n 0, 1) := by decide +kernel
theorem dX2_init_1 : decode cX2_init 1 = .ok (.invokespecial 3, 3) := by decide +kernel
theorem dX2_init_4 : decode cX2_init 4 = .ok (.aload_n 0, 1) := by decide +kernel
theorem dX2_init_5 : decode cX2_init 5 = .ok (.aload_n 1, 1) := by decide +kernel
theorem dX2_init_6 : decode cX2_init 6 = .ok (.putfield 9, 3) := by decide +kernel
theorem dX2_init_9 : decode cX2_init 9 = .ok (.return_, 1) := by decide +kernel
theorem dX2_become_0 : decode cX2_become 0 = .ok (.aload_n 0, 1) := by decide +kernel
theorem dX2_become_1 : decode cX2_become 1 = .ok (.aload_n 1, 1) := by decide +kernel
theorem dX2_become_2 : decode cX2_become 2 = .ok (.putfield 9, 3) := by decide +kernel
theorem dX2_become_5 : decode cX2_become 5 = .ok (.aload_n 0, 1) := by decide +kernel
theorem dX2_become_6 : decode cX2_become 6 = .ok (.iload_n 2, 1) := by decide +kernel
theorem dX2_become_7 : decode cX2_become 7 = .ok (.putfield 15, 3) := by decide +kernel
theorem dX2_become_10 : decode cX2_become 10 = .ok (.aload_n 0, 1) := by decide +kernel
theorem dX2_become_11 : decode cX2_become 11 = .ok (.iload_n 3, 1) := by decide +kernel
theorem dX2_become_12 : decode cX2_become 12 = .ok (.putfield 19, 3) := by decide +kernel
theorem dX2_become_15 : decode cX2_become 15 = .ok (.aload_n 0, 1) := by decide +kernel
theorem dX2_become_16 : decode cX2_become 16 = .ok (.aload_n 1, 1) := by decide +kernel
theorem dX2_become_17 : decode cX2_become 17 = .ok (.iload 4, 2) := by decide +kernel
theorem dX2_become_19 : decode cX2_become 19 = .ok (.invokevirtual 22, 3) := by decide +kernel
theorem dX2_become_22 : decode cX2_become 22 = .ok (.putfield 28, 3) := by decide +kernel
theorem dX2_become_25 : decode cX2_become 25 = .ok (.aload_n 0, 1) := by decide +kernel
theorem dX2_become_26 : decode cX2_become 26 = .ok (.iload 5, 2) := by decide +kernel
theorem dX2_become_28 : decode cX2_become 28 = .ok (.putfield 30, 3) := by decide +kernel
theorem dX2_become_31 : decode cX2_become 31 = .ok (.return_, 1) := by decide +kernel
theorem dX2_tick_0 : decode cX2_tick 0 = .ok (.aload_n 0, 1) := by decide +kernel
theorem dX2_tick_1 : decode cX2_tick 1 = .ok (.aload_n 0, 1) := by decide +kernel
theorem dX2_tick_2 : decode cX2_tick 2 = .ok (.getfield 9, 3) := by decide +kernel
theorem dX2_tick_5 : decode cX2_tick 5 = .ok (.aload_n 0, 1) := by decide +kernel
theorem dX2_tick_6 : decode cX2_tick 6 = .ok (.getfield 28, 3) := by decide +kernel
theorem dX2_tick_9 : decode cX2_tick 9 = .ok (.iconst 1, 1) := by decide +kernel
theorem dX2_tick_10 : decode cX2_tick 10 = .ok (.iadd, 1) := by decide +kernel
theorem dX2_tick_11 : decode cX2_tick 11 = .ok (.invokevirtual 22, 3) := by decide +kernel
theorem dX2_tick_14 : decode cX2_tick 14 = .ok (.putfield 28, 3) := by decide +kernel
theorem dX2_tick_17 : decode cX2_tick 17 = .ok (.aload_n 0, 1) := by decide +kernel
theorem dX2_tick_18 : decode cX2_tick 18 = .ok (.dup, 1) := by decide +kernel
theorem dX2_tick_19 : decode cX2_tick 19 = .ok (.getfield 30, 3) := by decide +kernel
theorem dX2_tick_22 : decode cX2_tick 22 = .ok (.iconst 1, 1) := by decide +kernel
theorem dX2_tick_23 : decode cX2_tick 23 = .ok (.iadd, 1) := by decide +kernel
theorem dX2_tick_24 : decode cX2_tick 24 = .ok (.putfield 30, 3) := by decide +kernel
theorem dX2_tick_27 : decode cX2_tick 27 = .ok (.return_, 1) := by decide +kernel
theorem dX2_steps_0 : decode cX2_steps 0 = .ok (.iconst 0, 1) := by decide +kernel
theorem dX2_steps_1 : decode cX2_steps 1 = .ok (.istore 4, 2) := by decide +kernel
theorem dX2_steps_3 : decode cX2_steps 3 = .ok (.iconst 0, 1) := by decide +kernel
theorem dX2_steps_4 : decode cX2_steps 4 = .ok (.istore 5, 2) := by decide +kernel
theorem dX2_steps_6 : decode cX2_steps 6 = .ok (.iload 5, 2) := by decide +kernel
theorem dX2_steps_8 : decode cX2_steps 8 = .ok (.bipush 6, 2) := by decide +kernel
theorem dX2_steps_10 : decode cX2_steps 10 = .ok (.if_icmp .ge 33, 3) := by decide +kernel
theorem dX2_steps_13 : decode cX2_steps 13 = .ok (.aload_n 0, 1) := by decide +kernel
theorem dX2_steps_14 : decode cX2_steps 14 = .ok (.iload 5, 2) := by decide +kernel
theorem dX2_steps_16 : decode cX2_steps 16 = .ok (.iload_n 2, 1) := by decide +kernel
theorem dX2_steps_17 : decode cX2_steps 17 = .ok (.iload_n 3, 1) := by decide +kernel
theorem dX2_steps_18 : decode cX2_steps 18 = .ok (.invokevirtual 33, 3) := by decide +kernel
theorem dX2_steps_21 : decode cX2_steps 21 = .ok (.iload_n 1, 1) := by decide +kernel
theorem dX2_steps_22 : decode cX2_steps 22 = .ok (.invokestatic 37, 3) := by decide +kernel
theorem dX2_steps_25 : decode cX2_steps 25 = .ok (.ifCond .eq 12, 3) := by decide +kernel
theorem dX2_steps_28 : decode cX2_steps 28 = .ok (.iload 4, 2) := by decide +kernel
theorem dX2_steps_30 : decode cX2_steps 30 = .ok (.iconst 1, 1) := by decide +kernel
theorem dX2_steps_31 : decode cX2_steps 31 = .ok (.iload 5, 2) := by decide +kernel
theorem dX2_steps_33 : decode cX2_steps 33 = .ok (.ishl, 1) := by decide +kernel
theorem dX2_steps_34 : decode cX2_steps 34 = .ok (.ior, 1) := by decide +kernel
theorem dX2_steps_35 : decode cX2_steps 35 = .ok (.istore 4, 2) := by decide +kernel
theorem dX2_steps_37 : decode cX2_steps 37 = .ok (.iinc 5 1, 3) := by decide +kernel
theorem dX2_steps_40 : decode cX2_steps 40 = .ok (.goto (-34), 3) := by decide +kernel
theorem dX2_steps_43 : decode cX2_steps 43 = .ok (.iload 4, 2) := by decide +kernel
theorem dX2_steps_45 : decode cX2_steps 45 = .ok (.ireturn, 1) := by decide +kernel
theorem dX2_starts_0 : decode cX2_starts 0 = .ok (.iload_n 1, 1) := by decide +kernel
theorem dX2_starts_1 : decode cX2_starts 1 = .ok (.iconst 5, 1) := by decide +kernel
theorem dX2_starts_2 : decode cX2_starts 2 = .ok (.if_icmp .ne 31, 3) := by decide +kernel
theorem dX2_starts_5 : decode cX2_starts 5 = .ok (.aload_n 0, 1) := by decide +kernel
theorem dX2_starts_6 : decode cX2_starts 6 = .ok (.invokevirtual 41, 3) := by decide +kernel
theorem dX2_starts_9 : decode cX2_starts 9 = .ok (.ifCond .eq 9, 3) := by decide +kernel
theorem dX2_starts_12 : decode cX2_starts 12 = .ok (.ldc2_w 45, 3) := by decide +kernel
theorem dX2_starts_15 : decode cX2_starts 15 = .ok (.goto 17, 3) := by decide +kernel
theorem dX2_starts_18 : decode cX2_starts 18 = .ok (.ldc2_w 45, 3) := by decide +kernel
theorem dX2_starts_21 : decode cX2_starts 21 = .ok (.aload_n 0, 1) := by decide +kernel
theorem dX2_starts_22 : decode cX2_starts 22 = .ok (.iload_n 2, 1) := by decide +kernel
theorem dX2_starts_23 : decode cX2_starts 23 = .ok (.iload_n 3, 1) := by decide +kernel
theorem dX2_starts_24 : decode cX2_starts 24 = .ok (.invokevirtual 47, 3) := by decide +kernel
theorem dX2_starts_27 : decode cX2_starts 27 = .ok (.ldc2_w 51, 3) := by decide +kernel
theorem dX2_starts_30 : decode cX2_starts 30 = .ok (.lxor, 1) := by decide +kernel
theorem dX2_starts_31 : decode cX2_starts 31 = .ok (.land, 1) := by decide +kernel
theorem dX2_starts_32 : decode cX2_starts 32 = .ok (.lreturn, 1) := by decide +kernel
theorem dX2_starts_33 : decode cX2_starts 33 = .ok (.iload_n 1, 1) := by decide +kernel
theorem dX2_starts_34 : decode cX2_starts 34 = .ok (.iconst 4, 1) := by decide +kernel
theorem dX2_starts_35 : decode cX2_starts 35 = .ok (.if_icmp .ne 29, 3) := by decide +kernel
theorem dX2_starts_38 : decode cX2_starts 38 = .ok (.aload_n 0, 1) := by decide +kernel
theorem dX2_starts_39 : decode cX2_starts 39 = .ok (.invokevirtual 53, 3) := by decide +kernel
theorem dX2_starts_42 : decode cX2_starts 42 = .ok (.ifCond .eq 7, 3) := by decide +kernel
theorem dX2_starts_45 : decode cX2_starts 45 = .ok (.lconst 0, 1) := by decide +kernel
theorem dX2_starts_46 : decode cX2_starts 46 = .ok (.goto 17, 3) := by decide +kernel
theorem dX2_starts_49 : decode cX2_starts 49 = .ok (.aload_n 0, 1) := by decide +kernel
theorem dX2_starts_50 : decode cX2_starts 50 = .ok (.getfield 9, 3) := by decide +kernel
theorem dX2_starts_53 : decode cX2_starts 53 = .ok (.aload_n 0, 1) := by decide +kernel
theorem dX2_starts_54 : decode cX2_starts 54 = .ok (.iconst 4, 1) := by decide +kernel
theorem dX2_starts_55 : decode cX2_starts 55 = .ok (.iload_n 2, 1) := by decide +kernel
theorem dX2_starts_56 : decode cX2_starts 56 = .ok (.iload_n 3, 1) := by decide +kernel
theorem dX2_starts_57 : decode cX2_starts 57 = .ok (.invokevirtual 56, 3) := by decide +kernel
theorem dX2_starts_60 : decode cX2_starts 60 = .ok (.invokevirtual 60, 3) := by decide +kernel
theorem dX2_starts_63 : decode cX2_starts 63 = .ok (.lreturn, 1) := by decide +kernel
theorem dX2_starts_64 : decode cX2_starts 64 = .ok (.aload_n 0, 1) := by decide +kernel
theorem dX2_starts_65 : decode cX2_starts 65 = .ok (.invokevirtual 53, 3) := by decide +kernel
theorem dX2_starts_68 : decode cX2_starts 68 = .ok (.ifCond .eq 12, 3) := by decide +kernel
theorem dX2_starts_71 : decode cX2_starts 71 = .ok (.aload_n 0, 1) := by decide +kernel
theorem dX2_starts_72 : decode cX2_starts 72 = .ok (.iload_n 1, 1) := by decide +kernel
theorem dX2_starts_73 : decode cX2_starts 73 = .ok (.iload_n 2, 1) := by decide +kernel
theorem dX2_starts_74 : decode cX2_starts 74 = .ok (.invokevirtual 64, 3) := by decide +kernel
theorem dX2_starts_77 : decode cX2_starts 77 = .ok (.goto 4, 3) := by decide +kernel
theorem dX2_starts_80 : decode cX2_starts 80 = .ok (.lconst 0, 1) := by decide +kernel
theorem dX2_starts_81 : decode cX2_starts 81 = .ok (.lreturn, 1) := by decide +kernel
theorem dX2_way_0 : decode cX2_way 0 = .ok (.iload_n 1, 1) := by decide +kernel
theorem dX2_way_1 : decode cX2_way 1 = .ok (.lookupswitch 45 #[(4, 29), (5, 27)], 27) := by decide +kernel
theorem dX2_way_28 : decode cX2_way 28 = .ok (.iconst 4, 1) := by decide +kernel
theorem dX2_way_29 : decode cX2_way 29 = .ok (.ireturn, 1) := by decide +kernel
theorem dX2_way_30 : decode cX2_way 30 = .ok (.aload_n 0, 1) := by decide +kernel
theorem dX2_way_31 : decode cX2_way 31 = .ok (.invokevirtual 67, 3) := by decide +kernel
theorem dX2_way_34 : decode cX2_way 34 = .ok (.ifCond .eq 7, 3) := by decide +kernel
theorem dX2_way_37 : decode cX2_way 37 = .ok (.iload_n 3, 1) := by decide +kernel
theorem dX2_way_38 : decode cX2_way 38 = .ok (.goto 7, 3) := by decide +kernel
theorem dX2_way_41 : decode cX2_way 41 = .ok (.iload_n 2, 1) := by decide +kernel
theorem dX2_way_42 : decode cX2_way 42 = .ok (.invokestatic 70, 3) := by decide +kernel
theorem dX2_way_45 : decode cX2_way 45 = .ok (.ireturn, 1) := by decide +kernel
theorem dX2_way_46 : decode cX2_way 46 = .ok (.iload_n 1, 1) := by decide +kernel
theorem dX2_way_47 : decode cX2_way 47 = .ok (.ireturn, 1) := by decide +kernel
theorem dX2_isOn_0 : decode cX2_isOn 0 = .ok (.aload_n 0, 1) := by decide +kernel
theorem dX2_isOn_1 : decode cX2_isOn 1 = .ok (.getfield 28, 3) := by decide +kernel
theorem dX2_isOn_4 : decode cX2_isOn 4 = .ok (.aload_n 0, 1) := by decide +kernel
theorem dX2_isOn_5 : decode cX2_isOn 5 = .ok (.getfield 9, 3) := by decide +kernel
theorem dX2_isOn_8 : decode cX2_isOn 8 = .ok (.getfield 73, 3) := by decide +kernel
theorem dX2_isOn_11 : decode cX2_isOn 11 = .ok (.if_icmp .ge 7, 3) := by decide +kernel
theorem dX2_isOn_14 : decode cX2_isOn 14 = .ok (.iconst 1, 1) := by decide +kernel
theorem dX2_isOn_15 : decode cX2_isOn 15 = .ok (.goto 4, 3) := by decide +kernel
theorem dX2_isOn_18 : decode cX2_isOn 18 = .ok (.iconst 0, 1) := by decide +kernel
theorem dX2_isOn_19 : decode cX2_isOn 19 = .ok (.ireturn, 1) := by decide +kernel
theorem dX2_isRound_0 : decode cX2_isRound 0 = .ok (.aload_n 0, 1) := by decide +kernel
theorem dX2_isRound_1 : decode cX2_isRound 1 = .ok (.getfield 15, 3) := by decide +kernel
theorem dX2_isRound_4 : decode cX2_isRound 4 = .ok (.iconst 2, 1) := by decide +kernel
theorem dX2_isRound_5 : decode cX2_isRound 5 = .ok (.if_icmp .eq 11, 3) := by decide +kernel
theorem dX2_isRound_8 : decode cX2_isRound 8 = .ok (.aload_n 0, 1) := by decide +kernel
theorem dX2_isRound_9 : decode cX2_isRound 9 = .ok (.getfield 15, 3) := by decide +kernel
theorem dX2_isRound_12 : decode cX2_isRound 12 = .ok (.iconst 5, 1) := by decide +kernel
theorem dX2_isRound_13 : decode cX2_isRound 13 = .ok (.if_icmp .ne 7, 3) := by decide +kernel
theorem dX2_isRound_16 : decode cX2_isRound 16 = .ok (.iconst 1, 1) := by decide +kernel
theorem dX2_isRound_17 : decode cX2_isRound 17 = .ok (.goto 4, 3) := by decide +kernel
theorem dX2_isRound_20 : decode cX2_isRound 20 = .ok (.iconst 0, 1) := by decide +kernel
theorem dX2_isRound_21 : decode cX2_isRound 21 = .ok (.ireturn, 1) := by decide +kernel
theorem dX2_rests_0 : decode cX2_rests 0 = .ok (.aload_n 0, 1) := by decide +kernel
theorem dX2_rests_1 : decode cX2_rests 1 = .ok (.getfield 15, 3) := by decide +kernel
theorem dX2_rests_4 : decode cX2_rests 4 = .ok (.bipush 6, 2) := by decide +kernel
theorem dX2_rests_6 : decode cX2_rests 6 = .ok (.if_icmp .ne 33, 3) := by decide +kernel
theorem dX2_rests_9 : decode cX2_rests 9 = .ok (.aload_n 0, 1) := by decide +kernel
theorem dX2_rests_10 : decode cX2_rests 10 = .ok (.invokevirtual 53, 3) := by decide +kernel
theorem dX2_rests_13 : decode cX2_rests 13 = .ok (.ifCond .eq 26, 3) := by decide +kernel
theorem dX2_rests_16 : decode cX2_rests 16 = .ok (.aload_n 0, 1) := by decide +kernel
theorem dX2_rests_17 : decode cX2_rests 17 = .ok (.getfield 19, 3) := by decide +kernel
theorem dX2_rests_20 : decode cX2_rests 20 = .ok (.ifCond .le 19, 3) := by decide +kernel
theorem dX2_rests_23 : decode cX2_rests 23 = .ok (.aload_n 0, 1) := by decide +kernel
theorem dX2_rests_24 : decode cX2_rests 24 = .ok (.getfield 30, 3) := by decide +kernel
theorem dX2_rests_27 : decode cX2_rests 27 = .ok (.aload_n 0, 1) := by decide +kernel
theorem dX2_rests_28 : decode cX2_rests 28 = .ok (.getfield 19, 3) := by decide +kernel
theorem dX2_rests_31 : decode cX2_rests 31 = .ok (.irem, 1) := by decide +kernel
theorem dX2_rests_32 : decode cX2_rests 32 = .ok (.ifCond .ne 7, 3) := by decide +kernel
theorem dX2_rests_35 : decode cX2_rests 35 = .ok (.iconst 1, 1) := by decide +kernel
theorem dX2_rests_36 : decode cX2_rests 36 = .ok (.goto 4, 3) := by decide +kernel
theorem dX2_rests_39 : decode cX2_rests 39 = .ok (.iconst 0, 1) := by decide +kernel
theorem dX2_rests_40 : decode cX2_rests 40 = .ok (.ireturn, 1) := by decide +kernel
theorem dX2_leaves_0 : decode cX2_leaves 0 = .ok (.aload_n 0, 1) := by decide +kernel
theorem dX2_leaves_1 : decode cX2_leaves 1 = .ok (.invokevirtual 53, 3) := by decide +kernel
theorem dX2_leaves_4 : decode cX2_leaves 4 = .ok (.ifCond .ne 18, 3) := by decide +kernel
theorem dX2_leaves_7 : decode cX2_leaves 7 = .ok (.aload_n 0, 1) := by decide +kernel
theorem dX2_leaves_8 : decode cX2_leaves 8 = .ok (.getfield 9, 3) := by decide +kernel
theorem dX2_leaves_11 : decode cX2_leaves 11 = .ok (.aload_n 0, 1) := by decide +kernel
theorem dX2_leaves_12 : decode cX2_leaves 12 = .ok (.iconst 4, 1) := by decide +kernel
theorem dX2_leaves_13 : decode cX2_leaves 13 = .ok (.iload_n 1, 1) := by decide +kernel
theorem dX2_leaves_14 : decode cX2_leaves 14 = .ok (.iload_n 2, 1) := by decide +kernel
theorem dX2_leaves_15 : decode cX2_leaves 15 = .ok (.invokevirtual 56, 3) := by decide +kernel
theorem dX2_leaves_18 : decode cX2_leaves 18 = .ok (.invokevirtual 60, 3) := by decide +kernel
theorem dX2_leaves_21 : decode cX2_leaves 21 = .ok (.lreturn, 1) := by decide +kernel
theorem dX2_leaves_22 : decode cX2_leaves 22 = .ok (.aload_n 0, 1) := by decide +kernel
theorem dX2_leaves_23 : decode cX2_leaves 23 = .ok (.iconst 0, 1) := by decide +kernel
theorem dX2_leaves_24 : decode cX2_leaves 24 = .ok (.iload_n 1, 1) := by decide +kernel
theorem dX2_leaves_25 : decode cX2_leaves 25 = .ok (.invokevirtual 64, 3) := by decide +kernel
theorem dX2_leaves_28 : decode cX2_leaves 28 = .ok (.aload_n 0, 1) := by decide +kernel
theorem dX2_leaves_29 : decode cX2_leaves 29 = .ok (.iconst 1, 1) := by decide +kernel
theorem dX2_leaves_30 : decode cX2_leaves 30 = .ok (.iload_n 1, 1) := by decide +kernel
theorem dX2_leaves_31 : decode cX2_leaves 31 = .ok (.invokevirtual 64, 3) := by decide +kernel
theorem dX2_leaves_34 : decode cX2_leaves 34 = .ok (.lor, 1) := by decide +kernel
theorem dX2_leaves_35 : decode cX2_leaves 35 = .ok (.aload_n 0, 1) := by decide +kernel
theorem dX2_leaves_36 : decode cX2_leaves 36 = .ok (.iconst 2, 1) := by decide +kernel
theorem dX2_leaves_37 : decode cX2_leaves 37 = .ok (.iload_n 1, 1) := by decide +kernel
theorem dX2_leaves_38 : decode cX2_leaves 38 = .ok (.invokevirtual 64, 3) := by decide +kernel
theorem dX2_leaves_41 : decode cX2_leaves 41 = .ok (.lor, 1) := by decide +kernel
theorem dX2_leaves_42 : decode cX2_leaves 42 = .ok (.aload_n 0, 1) := by decide +kernel
theorem dX2_leaves_43 : decode cX2_leaves 43 = .ok (.iconst 3, 1) := by decide +kernel
theorem dX2_leaves_44 : decode cX2_leaves 44 = .ok (.iload_n 1, 1) := by decide +kernel
theorem dX2_leaves_45 : decode cX2_leaves 45 = .ok (.invokevirtual 64, 3) := by decide +kernel
theorem dX2_leaves_48 : decode cX2_leaves 48 = .ok (.lor, 1) := by decide +kernel
theorem dX2_leaves_49 : decode cX2_leaves 49 = .ok (.lreturn, 1) := by decide +kernel
theorem dX2_ons_0 : decode cX2_ons 0 = .ok (.aload_n 0, 1) := by decide +kernel
theorem dX2_ons_1 : decode cX2_ons 1 = .ok (.getfield 9, 3) := by decide +kernel
theorem dX2_ons_4 : decode cX2_ons 4 = .ok (.iload_n 1, 1) := by decide +kernel
theorem dX2_ons_5 : decode cX2_ons 5 = .ok (.iload_n 2, 1) := by decide +kernel
theorem dX2_ons_6 : decode cX2_ons 6 = .ok (.invokevirtual 76, 3) := by decide +kernel
theorem dX2_ons_9 : decode cX2_ons 9 = .ok (.lstore_n 3, 1) := by decide +kernel
theorem dX2_ons_10 : decode cX2_ons 10 = .ok (.aload_n 0, 1) := by decide +kernel
theorem dX2_ons_11 : decode cX2_ons 11 = .ok (.getfield 15, 3) := by decide +kernel
theorem dX2_ons_14 : decode cX2_ons 14 = .ok (.iconst 1, 1) := by decide +kernel
theorem dX2_ons_15 : decode cX2_ons 15 = .ok (.if_icmp .ne 5, 3) := by decide +kernel
theorem dX2_ons_18 : decode cX2_ons 18 = .ok (.lload_n 3, 1) := by decide +kernel
theorem dX2_ons_19 : decode cX2_ons 19 = .ok (.lreturn, 1) := by decide +kernel
theorem dX2_ons_20 : decode cX2_ons 20 = .ok (.aload_n 0, 1) := by decide +kernel
theorem dX2_ons_21 : decode cX2_ons 21 = .ok (.getfield 15, 3) := by decide +kernel
theorem dX2_ons_24 : decode cX2_ons 24 = .ok (.iconst 4, 1) := by decide +kernel
theorem dX2_ons_25 : decode cX2_ons 25 = .ok (.if_icmp .ne 19, 3) := by decide +kernel
theorem dX2_ons_28 : decode cX2_ons 28 = .ok (.iload_n 1, 1) := by decide +kernel
theorem dX2_ons_29 : decode cX2_ons 29 = .ok (.aload_n 0, 1) := by decide +kernel
theorem dX2_ons_30 : decode cX2_ons 30 = .ok (.getfield 19, 3) := by decide +kernel
theorem dX2_ons_33 : decode cX2_ons 33 = .ok (.iconst 4, 1) := by decide +kernel
theorem dX2_ons_34 : decode cX2_ons 34 = .ok (.irem, 1) := by decide +kernel
theorem dX2_ons_35 : decode cX2_ons 35 = .ok (.if_icmp .ne 7, 3) := by decide +kernel
theorem dX2_ons_38 : decode cX2_ons 38 = .ok (.lconst 0, 1) := by decide +kernel
theorem dX2_ons_39 : decode cX2_ons 39 = .ok (.goto 4, 3) := by decide +kernel
theorem dX2_ons_42 : decode cX2_ons 42 = .ok (.lload_n 3, 1) := by decide +kernel
theorem dX2_ons_43 : decode cX2_ons 43 = .ok (.lreturn, 1) := by decide +kernel
theorem dX2_ons_44 : decode cX2_ons 44 = .ok (.iload_n 1, 1) := by decide +kernel
theorem dX2_ons_45 : decode cX2_ons 45 = .ok (.iload_n 2, 1) := by decide +kernel
theorem dX2_ons_46 : decode cX2_ons 46 = .ok (.if_icmp .ne 5, 3) := by decide +kernel
theorem dX2_ons_49 : decode cX2_ons 49 = .ok (.lload_n 3, 1) := by decide +kernel
theorem dX2_ons_50 : decode cX2_ons 50 = .ok (.lreturn, 1) := by decide +kernel
theorem dX2_ons_51 : decode cX2_ons 51 = .ok (.iload_n 1, 1) := by decide +kernel
theorem dX2_ons_52 : decode cX2_ons 52 = .ok (.iload_n 2, 1) := by decide +kernel
theorem dX2_ons_53 : decode cX2_ons 53 = .ok (.invokestatic 70, 3) := by decide +kernel
theorem dX2_ons_56 : decode cX2_ons 56 = .ok (.if_icmp .ne 5, 3) := by decide +kernel
theorem dX2_ons_59 : decode cX2_ons 59 = .ok (.lconst 0, 1) := by decide +kernel
theorem dX2_ons_60 : decode cX2_ons 60 = .ok (.lreturn, 1) := by decide +kernel
theorem dX2_ons_61 : decode cX2_ons 61 = .ok (.aload_n 0, 1) := by decide +kernel
theorem dX2_ons_62 : decode cX2_ons 62 = .ok (.getfield 15, 3) := by decide +kernel
theorem dX2_ons_65 : decode cX2_ons 65 = .ok (.tableswitch 67 3 6 #[31, 67, 51, 31], 31) := by decide +kernel
theorem dX2_ons_96 : decode cX2_ons 96 = .ok (.aload_n 0, 1) := by decide +kernel
theorem dX2_ons_97 : decode cX2_ons 97 = .ok (.getfield 30, 3) := by decide +kernel
theorem dX2_ons_100 : decode cX2_ons 100 = .ok (.aload_n 0, 1) := by decide +kernel
theorem dX2_ons_101 : decode cX2_ons 101 = .ok (.getfield 19, 3) := by decide +kernel
theorem dX2_ons_104 : decode cX2_ons 104 = .ok (.iadd, 1) := by decide +kernel
theorem dX2_ons_105 : decode cX2_ons 105 = .ok (.iconst 2, 1) := by decide +kernel
theorem dX2_ons_106 : decode cX2_ons 106 = .ok (.irem, 1) := by decide +kernel
theorem dX2_ons_107 : decode cX2_ons 107 = .ok (.ifCond .ne 7, 3) := by decide +kernel
theorem dX2_ons_110 : decode cX2_ons 110 = .ok (.lload_n 3, 1) := by decide +kernel
theorem dX2_ons_111 : decode cX2_ons 111 = .ok (.goto 4, 3) := by decide +kernel
theorem dX2_ons_114 : decode cX2_ons 114 = .ok (.lconst 0, 1) := by decide +kernel
theorem dX2_ons_115 : decode cX2_ons 115 = .ok (.lreturn, 1) := by decide +kernel
theorem dX2_ons_116 : decode cX2_ons 116 = .ok (.lload_n 3, 1) := by decide +kernel
theorem dX2_ons_117 : decode cX2_ons 117 = .ok (.aload_n 0, 1) := by decide +kernel
theorem dX2_ons_118 : decode cX2_ons 118 = .ok (.getfield 9, 3) := by decide +kernel
theorem dX2_ons_121 : decode cX2_ons 121 = .ok (.iload_n 2, 1) := by decide +kernel
theorem dX2_ons_122 : decode cX2_ons 122 = .ok (.iload_n 2, 1) := by decide +kernel
theorem dX2_ons_123 : decode cX2_ons 123 = .ok (.invokevirtual 76, 3) := by decide +kernel
theorem dX2_ons_126 : decode cX2_ons 126 = .ok (.ldc2_w 51, 3) := by decide +kernel
theorem dX2_ons_129 : decode cX2_ons 129 = .ok (.lxor, 1) := by decide +kernel
theorem dX2_ons_130 : decode cX2_ons 130 = .ok (.land, 1) := by decide +kernel
theorem dX2_ons_131 : decode cX2_ons 131 = .ok (.lreturn, 1) := by decide +kernel
theorem dX2_ons_132 : decode cX2_ons 132 = .ok (.lload_n 3, 1) := by decide +kernel
theorem dX2_ons_133 : decode cX2_ons 133 = .ok (.lreturn, 1) := by decide +kernel
theorem dX3_init_0 : decode cX3_init 0 = .ok (.aload_n 0, 1) := by decide +kernel
theorem dX3_init_1 : decode cX3_init 1 = .ok (.invokespecial 3, 3) := by decide +kernel
theorem dX3_init_4 : decode cX3_init 4 = .ok (.aload_n 0, 1) := by decide +kernel
theorem dX3_init_5 : decode cX3_init 5 = .ok (.iconst 4, 1) := by decide +kernel
theorem dX3_init_6 : decode cX3_init 6 = .ok (.newarray .long, 2) := by decide +kernel
theorem dX3_init_8 : decode cX3_init 8 = .ok (.putfield 9, 3) := by decide +kernel
theorem dX3_init_11 : decode cX3_init 11 = .ok (.aload_n 0, 1) := by decide +kernel
theorem dX3_init_12 : decode cX3_init 12 = .ok (.iconst 4, 1) := by decide +kernel
theorem dX3_init_13 : decode cX3_init 13 = .ok (.newarray .long, 2) := by decide +kernel
theorem dX3_init_15 : decode cX3_init 15 = .ok (.putfield 15, 3) := by decide +kernel
theorem dX3_init_18 : decode cX3_init 18 = .ok (.aload_n 0, 1) := by decide +kernel
theorem dX3_init_19 : decode cX3_init 19 = .ok (.iload_n 1, 1) := by decide +kernel
theorem dX3_init_20 : decode cX3_init 20 = .ok (.putfield 18, 3) := by decide +kernel
theorem dX3_init_23 : decode cX3_init 23 = .ok (.aload_n 0, 1) := by decide +kernel
theorem dX3_init_24 : decode cX3_init 24 = .ok (.iload_n 2, 1) := by decide +kernel
theorem dX3_init_25 : decode cX3_init 25 = .ok (.putfield 22, 3) := by decide +kernel
theorem dX3_init_28 : decode cX3_init 28 = .ok (.aload_n 3, 1) := by decide +kernel
theorem dX3_init_29 : decode cX3_init 29 = .ok (.ifnull 13, 3) := by decide +kernel
theorem dX3_init_32 : decode cX3_init 32 = .ok (.aload_n 3, 1) := by decide +kernel
theorem dX3_init_33 : decode cX3_init 33 = .ok (.arraylength, 1) := by decide +kernel
theorem dX3_init_34 : decode cX3_init 34 = .ok (.iconst 4, 1) := by decide +kernel
theorem dX3_init_35 : decode cX3_init 35 = .ok (.if_icmp .ne 7, 3) := by decide +kernel
theorem dX3_init_38 : decode cX3_init 38 = .ok (.iconst 1, 1) := by decide +kernel
theorem dX3_init_39 : decode cX3_init 39 = .ok (.goto 4, 3) := by decide +kernel
theorem dX3_init_42 : decode cX3_init 42 = .ok (.iconst 0, 1) := by decide +kernel
theorem dX3_init_43 : decode cX3_init 43 = .ok (.istore 4, 2) := by decide +kernel
theorem dX3_init_45 : decode cX3_init 45 = .ok (.aload_n 0, 1) := by decide +kernel
theorem dX3_init_46 : decode cX3_init 46 = .ok (.iload 4, 2) := by decide +kernel
theorem dX3_init_48 : decode cX3_init 48 = .ok (.ifCond .eq 9, 3) := by decide +kernel
theorem dX3_init_51 : decode cX3_init 51 = .ok (.aload_n 3, 1) := by decide +kernel
theorem dX3_init_52 : decode cX3_init 52 = .ok (.iconst 0, 1) := by decide +kernel
theorem dX3_init_53 : decode cX3_init 53 = .ok (.laload, 1) := by decide +kernel
theorem dX3_init_54 : decode cX3_init 54 = .ok (.goto 4, 3) := by decide +kernel
theorem dX3_init_57 : decode cX3_init 57 = .ok (.lconst 0, 1) := by decide +kernel
theorem dX3_init_58 : decode cX3_init 58 = .ok (.putfield 25, 3) := by decide +kernel
theorem dX3_init_61 : decode cX3_init 61 = .ok (.aload_n 0, 1) := by decide +kernel
theorem dX3_init_62 : decode cX3_init 62 = .ok (.iload 4, 2) := by decide +kernel
theorem dX3_init_64 : decode cX3_init 64 = .ok (.ifCond .eq 9, 3) := by decide +kernel
theorem dX3_init_67 : decode cX3_init 67 = .ok (.aload_n 3, 1) := by decide +kernel
theorem dX3_init_68 : decode cX3_init 68 = .ok (.iconst 1, 1) := by decide +kernel
theorem dX3_init_69 : decode cX3_init 69 = .ok (.laload, 1) := by decide +kernel
theorem dX3_init_70 : decode cX3_init 70 = .ok (.goto 4, 3) := by decide +kernel
theorem dX3_init_73 : decode cX3_init 73 = .ok (.lconst 0, 1) := by decide +kernel
theorem dX3_init_74 : decode cX3_init 74 = .ok (.putfield 29, 3) := by decide +kernel
theorem dX3_init_77 : decode cX3_init 77 = .ok (.aload_n 0, 1) := by decide +kernel
theorem dX3_init_78 : decode cX3_init 78 = .ok (.iload 4, 2) := by decide +kernel
theorem dX3_init_80 : decode cX3_init 80 = .ok (.ifCond .eq 9, 3) := by decide +kernel
theorem dX3_init_83 : decode cX3_init 83 = .ok (.aload_n 3, 1) := by decide +kernel
theorem dX3_init_84 : decode cX3_init 84 = .ok (.iconst 2, 1) := by decide +kernel
theorem dX3_init_85 : decode cX3_init 85 = .ok (.laload, 1) := by decide +kernel
theorem dX3_init_86 : decode cX3_init 86 = .ok (.goto 4, 3) := by decide +kernel
theorem dX3_init_89 : decode cX3_init 89 = .ok (.lconst 0, 1) := by decide +kernel
theorem dX3_init_90 : decode cX3_init 90 = .ok (.putfield 32, 3) := by decide +kernel
theorem dX3_init_93 : decode cX3_init 93 = .ok (.aload_n 0, 1) := by decide +kernel
theorem dX3_init_94 : decode cX3_init 94 = .ok (.iload 4, 2) := by decide +kernel
theorem dX3_init_96 : decode cX3_init 96 = .ok (.ifCond .eq 9, 3) := by decide +kernel
theorem dX3_init_99 : decode cX3_init 99 = .ok (.aload_n 3, 1) := by decide +kernel
theorem dX3_init_100 : decode cX3_init 100 = .ok (.iconst 3, 1) := by decide +kernel
theorem dX3_init_101 : decode cX3_init 101 = .ok (.laload, 1) := by decide +kernel
theorem dX3_init_102 : decode cX3_init 102 = .ok (.goto 4, 3) := by decide +kernel
theorem dX3_init_105 : decode cX3_init 105 = .ok (.lconst 0, 1) := by decide +kernel
theorem dX3_init_106 : decode cX3_init 106 = .ok (.putfield 35, 3) := by decide +kernel
theorem dX3_init_109 : decode cX3_init 109 = .ok (.aload_n 0, 1) := by decide +kernel
theorem dX3_init_110 : decode cX3_init 110 = .ok (.ldc2_w 38, 3) := by decide +kernel
theorem dX3_init_113 : decode cX3_init 113 = .ok (.aload_n 0, 1) := by decide +kernel
theorem dX3_init_114 : decode cX3_init 114 = .ok (.getfield 32, 3) := by decide +kernel
theorem dX3_init_117 : decode cX3_init 117 = .ok (.ldc2_w 40, 3) := by decide +kernel
theorem dX3_init_120 : decode cX3_init 120 = .ok (.lxor, 1) := by decide +kernel
theorem dX3_init_121 : decode cX3_init 121 = .ok (.land, 1) := by decide +kernel
theorem dX3_init_122 : decode cX3_init 122 = .ok (.aload_n 0, 1) := by decide +kernel
theorem dX3_init_123 : decode cX3_init 123 = .ok (.getfield 35, 3) := by decide +kernel
theorem dX3_init_126 : decode cX3_init 126 = .ok (.ldc2_w 40, 3) := by decide +kernel
theorem dX3_init_129 : decode cX3_init 129 = .ok (.lxor, 1) := by decide +kernel
theorem dX3_init_130 : decode cX3_init 130 = .ok (.land, 1) := by decide +kernel
theorem dX3_init_131 : decode cX3_init 131 = .ok (.putfield 42, 3) := by decide +kernel
theorem dX3_init_134 : decode cX3_init 134 = .ok (.aload_n 0, 1) := by decide +kernel
theorem dX3_init_135 : decode cX3_init 135 = .ok (.aload_n 0, 1) := by decide +kernel
theorem dX3_init_136 : decode cX3_init 136 = .ok (.getfield 42, 3) := by decide +kernel
theorem dX3_init_139 : decode cX3_init 139 = .ok (.aload_n 0, 1) := by decide +kernel
theorem dX3_init_140 : decode cX3_init 140 = .ok (.getfield 25, 3) := by decide +kernel
theorem dX3_init_143 : decode cX3_init 143 = .ok (.ldc2_w 40, 3) := by decide +kernel
theorem dX3_init_146 : decode cX3_init 146 = .ok (.lxor, 1) := by decide +kernel
theorem dX3_init_147 : decode cX3_init 147 = .ok (.land, 1) := by decide +kernel
theorem dX3_init_148 : decode cX3_init 148 = .ok (.aload_n 0, 1) := by decide +kernel
theorem dX3_init_149 : decode cX3_init 149 = .ok (.getfield 29, 3) := by decide +kernel
theorem dX3_init_152 : decode cX3_init 152 = .ok (.ldc2_w 40, 3) := by decide +kernel
theorem dX3_init_155 : decode cX3_init 155 = .ok (.lxor, 1) := by decide +kernel
theorem dX3_init_156 : decode cX3_init 156 = .ok (.land, 1) := by decide +kernel
theorem dX3_init_157 : decode cX3_init 157 = .ok (.putfield 45, 3) := by decide +kernel
theorem dX3_init_160 : decode cX3_init 160 = .ok (.iconst 0, 1) := by decide +kernel
theorem dX3_init_161 : decode cX3_init 161 = .ok (.istore 5, 2) := by decide +kernel
theorem dX3_init_163 : decode cX3_init 163 = .ok (.iload 5, 2) := by decide +kernel
theorem dX3_init_165 : decode cX3_init 165 = .ok (.iconst 4, 1) := by decide +kernel
theorem dX3_init_166 : decode cX3_init 166 = .ok (.if_icmp .ge 72, 3) := by decide +kernel
theorem dX3_init_169 : decode cX3_init 169 = .ok (.aload_n 0, 1) := by decide +kernel
theorem dX3_init_170 : decode cX3_init 170 = .ok (.getfield 9, 3) := by decide +kernel
theorem dX3_init_173 : decode cX3_init 173 = .ok (.iload 5, 2) := by decide +kernel
theorem dX3_init_175 : decode cX3_init 175 = .ok (.ldc2_w 38, 3) := by decide +kernel
theorem dX3_init_178 : decode cX3_init 178 = .ok (.aload_n 0, 1) := by decide +kernel
theorem dX3_init_179 : decode cX3_init 179 = .ok (.getfield 25, 3) := by decide +kernel
theorem dX3_init_182 : decode cX3_init 182 = .ok (.ldc2_w 40, 3) := by decide +kernel
theorem dX3_init_185 : decode cX3_init 185 = .ok (.lxor, 1) := by decide +kernel
theorem dX3_init_186 : decode cX3_init 186 = .ok (.land, 1) := by decide +kernel
theorem dX3_init_187 : decode cX3_init 187 = .ok (.iload 5, 2) := by decide +kernel
theorem dX3_init_189 : decode cX3_init 189 = .ok (.invokestatic 48, 3) := by decide +kernel
theorem dX3_init_192 : decode cX3_init 192 = .ok (.invokestatic 52, 3) := by decide +kernel
theorem dX3_init_195 : decode cX3_init 195 = .ok (.lastore, 1) := by decide +kernel
theorem dX3_init_196 : decode cX3_init 196 = .ok (.aload_n 0, 1) := by decide +kernel
theorem dX3_init_197 : decode cX3_init 197 = .ok (.getfield 15, 3) := by decide +kernel
theorem dX3_init_200 : decode cX3_init 200 = .ok (.iload 5, 2) := by decide +kernel
theorem dX3_init_202 : decode cX3_init 202 = .ok (.ldc2_w 38, 3) := by decide +kernel
theorem dX3_init_205 : decode cX3_init 205 = .ok (.aload_n 0, 1) := by decide +kernel
theorem dX3_init_206 : decode cX3_init 206 = .ok (.getfield 25, 3) := by decide +kernel
theorem dX3_init_209 : decode cX3_init 209 = .ok (.ldc2_w 40, 3) := by decide +kernel
theorem dX3_init_212 : decode cX3_init 212 = .ok (.lxor, 1) := by decide +kernel
theorem dX3_init_213 : decode cX3_init 213 = .ok (.land, 1) := by decide +kernel
theorem dX3_init_214 : decode cX3_init 214 = .ok (.aload_n 0, 1) := by decide +kernel
theorem dX3_init_215 : decode cX3_init 215 = .ok (.getfield 29, 3) := by decide +kernel
theorem dX3_init_218 : decode cX3_init 218 = .ok (.ldc2_w 40, 3) := by decide +kernel
theorem dX3_init_221 : decode cX3_init 221 = .ok (.lxor, 1) := by decide +kernel
theorem dX3_init_222 : decode cX3_init 222 = .ok (.land, 1) := by decide +kernel
theorem dX3_init_223 : decode cX3_init 223 = .ok (.iload 5, 2) := by decide +kernel
theorem dX3_init_225 : decode cX3_init 225 = .ok (.invokestatic 48, 3) := by decide +kernel
theorem dX3_init_228 : decode cX3_init 228 = .ok (.invokestatic 52, 3) := by decide +kernel
theorem dX3_init_231 : decode cX3_init 231 = .ok (.lastore, 1) := by decide +kernel
theorem dX3_init_232 : decode cX3_init 232 = .ok (.iinc 5 1, 3) := by decide +kernel
theorem dX3_init_235 : decode cX3_init 235 = .ok (.goto (-72), 3) := by decide +kernel
theorem dX3_init_238 : decode cX3_init 238 = .ok (.return_, 1) := by decide +kernel
theorem dX3_rhythm_0 : decode cX3_rhythm 0 = .ok (.aload_n 0, 1) := by decide +kernel
theorem dX3_rhythm_1 : decode cX3_rhythm 1 = .ok (.getfield 18, 3) := by decide +kernel
theorem dX3_rhythm_4 : decode cX3_rhythm 4 = .ok (.aload_n 0, 1) := by decide +kernel
theorem dX3_rhythm_5 : decode cX3_rhythm 5 = .ok (.getfield 22, 3) := by decide +kernel
theorem dX3_rhythm_8 : decode cX3_rhythm 8 = .ok (.iadd, 1) := by decide +kernel
theorem dX3_rhythm_9 : decode cX3_rhythm 9 = .ok (.ireturn, 1) := by decide +kernel
theorem dX3_beat_0 : decode cX3_beat 0 = .ok (.aload_n 0, 1) := by decide +kernel
theorem dX3_beat_1 : decode cX3_beat 1 = .ok (.invokevirtual 56, 3) := by decide +kernel
theorem dX3_beat_4 : decode cX3_beat 4 = .ok (.istore_n 2, 1) := by decide +kernel
theorem dX3_beat_5 : decode cX3_beat 5 = .ok (.iload_n 2, 1) := by decide +kernel
theorem dX3_beat_6 : decode cX3_beat 6 = .ok (.ifCond .le 9, 3) := by decide +kernel
theorem dX3_beat_9 : decode cX3_beat 9 = .ok (.iload_n 1, 1) := by decide +kernel
theorem dX3_beat_10 : decode cX3_beat 10 = .ok (.iload_n 2, 1) := by decide +kernel
theorem dX3_beat_11 : decode cX3_beat 11 = .ok (.irem, 1) := by decide +kernel
theorem dX3_beat_12 : decode cX3_beat 12 = .ok (.goto 4, 3) := by decide +kernel
theorem dX3_beat_15 : decode cX3_beat 15 = .ok (.iconst 0, 1) := by decide +kernel
theorem dX3_beat_16 : decode cX3_beat 16 = .ok (.ireturn, 1) := by decide +kernel
theorem dX3_marked_0 : decode cX3_marked 0 = .ok (.iload_n 1, 1) := by decide +kernel
theorem dX3_marked_1 : decode cX3_marked 1 = .ok (.tableswitch 42 0 2 #[27, 32, 37], 27) := by decide +kernel
theorem dX3_marked_28 : decode cX3_marked 28 = .ok (.aload_n 0, 1) := by decide +kernel
theorem dX3_marked_29 : decode cX3_marked 29 = .ok (.getfield 25, 3) := by decide +kernel
theorem dX3_marked_32 : decode cX3_marked 32 = .ok (.lreturn, 1) := by decide +kernel
theorem dX3_marked_33 : decode cX3_marked 33 = .ok (.aload_n 0, 1) := by decide +kernel
theorem dX3_marked_34 : decode cX3_marked 34 = .ok (.getfield 29, 3) := by decide +kernel
theorem dX3_marked_37 : decode cX3_marked 37 = .ok (.lreturn, 1) := by decide +kernel
theorem dX3_marked_38 : decode cX3_marked 38 = .ok (.aload_n 0, 1) := by decide +kernel
theorem dX3_marked_39 : decode cX3_marked 39 = .ok (.getfield 32, 3) := by decide +kernel
theorem dX3_marked_42 : decode cX3_marked 42 = .ok (.lreturn, 1) := by decide +kernel
theorem dX3_marked_43 : decode cX3_marked 43 = .ok (.aload_n 0, 1) := by decide +kernel
theorem dX3_marked_44 : decode cX3_marked 44 = .ok (.getfield 35, 3) := by decide +kernel
theorem dX3_marked_47 : decode cX3_marked 47 = .ok (.lreturn, 1) := by decide +kernel
theorem dX3_onward_0 : decode cX3_onward 0 = .ok (.iload_n 1, 1) := by decide +kernel
theorem dX3_onward_1 : decode cX3_onward 1 = .ok (.iload_n 2, 1) := by decide +kernel
theorem dX3_onward_2 : decode cX3_onward 2 = .ok (.if_icmp .ne 14, 3) := by decide +kernel
theorem dX3_onward_5 : decode cX3_onward 5 = .ok (.aload_n 0, 1) := by decide +kernel
theorem dX3_onward_6 : decode cX3_onward 6 = .ok (.getfield 9, 3) := by decide +kernel
theorem dX3_onward_9 : decode cX3_onward 9 = .ok (.iload_n 1, 1) := by decide +kernel
theorem dX3_onward_10 : decode cX3_onward 10 = .ok (.iconst 3, 1) := by decide +kernel
theorem dX3_onward_11 : decode cX3_onward 11 = .ok (.iand, 1) := by decide +kernel
theorem dX3_onward_12 : decode cX3_onward 12 = .ok (.laload, 1) := by decide +kernel
theorem dX3_onward_13 : decode cX3_onward 13 = .ok (.goto 11, 3) := by decide +kernel
theorem dX3_onward_16 : decode cX3_onward 16 = .ok (.aload_n 0, 1) := by decide +kernel
theorem dX3_onward_17 : decode cX3_onward 17 = .ok (.getfield 15, 3) := by decide +kernel
theorem dX3_onward_20 : decode cX3_onward 20 = .ok (.iload_n 1, 1) := by decide +kernel
theorem dX3_onward_21 : decode cX3_onward 21 = .ok (.iconst 3, 1) := by decide +kernel
theorem dX3_onward_22 : decode cX3_onward 22 = .ok (.iand, 1) := by decide +kernel
theorem dX3_onward_23 : decode cX3_onward 23 = .ok (.laload, 1) := by decide +kernel
theorem dX3_onward_24 : decode cX3_onward 24 = .ok (.lreturn, 1) := by decide +kernel
theorem dX3_backward_0 : decode cX3_backward 0 = .ok (.iload_n 1, 1) := by decide +kernel
theorem dX3_backward_1 : decode cX3_backward 1 = .ok (.iconst 4, 1) := by decide +kernel
theorem dX3_backward_2 : decode cX3_backward 2 = .ok (.if_icmp .ne 10, 3) := by decide +kernel
theorem dX3_backward_5 : decode cX3_backward 5 = .ok (.aload_n 0, 1) := by decide +kernel
theorem dX3_backward_6 : decode cX3_backward 6 = .ok (.getfield 45, 3) := by decide +kernel
theorem dX3_backward_9 : decode cX3_backward 9 = .ok (.goto 16, 3) := by decide +kernel
theorem dX3_backward_12 : decode cX3_backward 12 = .ok (.aload_n 0, 1) := by decide +kernel
theorem dX3_backward_13 : decode cX3_backward 13 = .ok (.getfield 15, 3) := by decide +kernel
theorem dX3_backward_16 : decode cX3_backward 16 = .ok (.iload_n 1, 1) := by decide +kernel
theorem dX3_backward_17 : decode cX3_backward 17 = .ok (.iconst 3, 1) := by decide +kernel
theorem dX3_backward_18 : decode cX3_backward 18 = .ok (.iand, 1) := by decide +kernel
theorem dX3_backward_19 : decode cX3_backward 19 = .ok (.laload, 1) := by decide +kernel
theorem dX3_backward_20 : decode cX3_backward 20 = .ok (.aload_n 0, 1) := by decide +kernel
theorem dX3_backward_21 : decode cX3_backward 21 = .ok (.getfield 42, 3) := by decide +kernel
theorem dX3_backward_24 : decode cX3_backward 24 = .ok (.land, 1) := by decide +kernel
theorem dX3_backward_25 : decode cX3_backward 25 = .ok (.lreturn, 1) := by decide +kernel
theorem dX4_init_0 : decode cX4_init 0 = .ok (.aload_n 0, 1) := by decide +kernel
theorem dX4_init_1 : decode cX4_init 1 = .ok (.invokespecial 3, 3) := by decide +kernel
theorem dX4_init_4 : decode cX4_init 4 = .ok (.aload_n 0, 1) := by decide +kernel
theorem dX4_init_5 : decode cX4_init 5 = .ok (.sipush 720, 3) := by decide +kernel
theorem dX4_init_8 : decode cX4_init 8 = .ok (.newarray .long, 2) := by decide +kernel
theorem dX4_init_10 : decode cX4_init 10 = .ok (.putfield 11, 3) := by decide +kernel
theorem dX4_init_13 : decode cX4_init 13 = .ok (.aload_n 0, 1) := by decide +kernel
theorem dX4_init_14 : decode cX4_init 14 = .ok (.sipush 720, 3) := by decide +kernel
theorem dX4_init_17 : decode cX4_init 17 = .ok (.newarray .long, 2) := by decide +kernel
theorem dX4_init_19 : decode cX4_init 19 = .ok (.putfield 15, 3) := by decide +kernel
theorem dX4_init_22 : decode cX4_init 22 = .ok (.aload_n 0, 1) := by decide +kernel
theorem dX4_init_23 : decode cX4_init 23 = .ok (.new 18, 3) := by decide +kernel
theorem dX4_init_26 : decode cX4_init 26 = .ok (.dup, 1) := by decide +kernel
theorem dX4_init_27 : decode cX4_init 27 = .ok (.aload_n 1, 1) := by decide +kernel
theorem dX4_init_28 : decode cX4_init 28 = .ok (.invokespecial 20, 3) := by decide +kernel
theorem dX4_init_31 : decode cX4_init 31 = .ok (.putfield 23, 3) := by decide +kernel
theorem dX4_init_34 : decode cX4_init 34 = .ok (.return_, 1) := by decide +kernel
theorem dX4_alone_0 : decode cX4_alone 0 = .ok (.aload_n 0, 1) := by decide +kernel
theorem dX4_alone_1 : decode cX4_alone 1 = .ok (.getfield 23, 3) := by decide +kernel
theorem dX4_alone_4 : decode cX4_alone 4 = .ok (.aload_n 1, 1) := by decide +kernel
theorem dX4_alone_5 : decode cX4_alone 5 = .ok (.aload_n 2, 1) := by decide +kernel
theorem dX4_alone_6 : decode cX4_alone 6 = .ok (.getfield 27, 3) := by decide +kernel
theorem dX4_alone_9 : decode cX4_alone 9 = .ok (.aload_n 2, 1) := by decide +kernel
theorem dX4_alone_10 : decode cX4_alone 10 = .ok (.getfield 33, 3) := by decide +kernel
theorem dX4_alone_13 : decode cX4_alone 13 = .ok (.aload_n 2, 1) := by decide +kernel
theorem dX4_alone_14 : decode cX4_alone 14 = .ok (.getfield 36, 3) := by decide +kernel
theorem dX4_alone_17 : decode cX4_alone 17 = .ok (.aload_n 2, 1) := by decide +kernel
theorem dX4_alone_18 : decode cX4_alone 18 = .ok (.getfield 39, 3) := by decide +kernel
theorem dX4_alone_21 : decode cX4_alone 21 = .ok (.invokevirtual 42, 3) := by decide +kernel
theorem dX4_alone_24 : decode cX4_alone 24 = .ok (.aload_n 0, 1) := by decide +kernel
theorem dX4_alone_25 : decode cX4_alone 25 = .ok (.getfield 11, 3) := by decide +kernel
theorem dX4_alone_28 : decode cX4_alone 28 = .ok (.lconst 0, 1) := by decide +kernel
theorem dX4_alone_29 : decode cX4_alone 29 = .ok (.invokestatic 46, 3) := by decide +kernel
theorem dX4_alone_32 : decode cX4_alone 32 = .ok (.aload_n 0, 1) := by decide +kernel
theorem dX4_alone_33 : decode cX4_alone 33 = .ok (.getfield 11, 3) := by decide +kernel
theorem dX4_alone_36 : decode cX4_alone 36 = .ok (.aload_n 2, 1) := by decide +kernel
theorem dX4_alone_37 : decode cX4_alone 37 = .ok (.getfield 52, 3) := by decide +kernel
theorem dX4_alone_40 : decode cX4_alone 40 = .ok (.aload_n 2, 1) := by decide +kernel
theorem dX4_alone_41 : decode cX4_alone 41 = .ok (.getfield 55, 3) := by decide +kernel
theorem dX4_alone_44 : decode cX4_alone 44 = .ok (.aload_n 2, 1) := by decide +kernel
theorem dX4_alone_45 : decode cX4_alone 45 = .ok (.getfield 58, 3) := by decide +kernel
theorem dX4_alone_48 : decode cX4_alone 48 = .ok (.lconst 1, 1) := by decide +kernel
theorem dX4_alone_49 : decode cX4_alone 49 = .ok (.invokestatic 61, 3) := by decide +kernel
theorem dX4_alone_52 : decode cX4_alone 52 = .ok (.return_, 1) := by decide +kernel
theorem dX4_advance_0 : decode cX4_advance 0 = .ok (.aload_n 0, 1) := by decide +kernel
theorem dX4_advance_1 : decode cX4_advance 1 = .ok (.getfield 15, 3) := by decide +kernel
theorem dX4_advance_4 : decode cX4_advance 4 = .ok (.lconst 0, 1) := by decide +kernel
theorem dX4_advance_5 : decode cX4_advance 5 = .ok (.invokestatic 46, 3) := by decide +kernel
theorem dX4_advance_8 : decode cX4_advance 8 = .ok (.iconst 0, 1) := by decide +kernel
theorem dX4_advance_9 : decode cX4_advance 9 = .ok (.istore_n 1, 1) := by decide +kernel
theorem dX4_advance_10 : decode cX4_advance 10 = .ok (.iload_n 1, 1) := by decide +kernel
theorem dX4_advance_11 : decode cX4_advance 11 = .ok (.sipush 720, 3) := by decide +kernel
theorem dX4_advance_14 : decode cX4_advance 14 = .ok (.if_icmp .ge 42, 3) := by decide +kernel
theorem dX4_advance_17 : decode cX4_advance 17 = .ok (.aload_n 0, 1) := by decide +kernel
theorem dX4_advance_18 : decode cX4_advance 18 = .ok (.getfield 11, 3) := by decide +kernel
theorem dX4_advance_21 : decode cX4_advance 21 = .ok (.iload_n 1, 1) := by decide +kernel
theorem dX4_advance_22 : decode cX4_advance 22 = .ok (.laload, 1) := by decide +kernel
theorem dX4_advance_23 : decode cX4_advance 23 = .ok (.lconst 0, 1) := by decide +kernel
theorem dX4_advance_24 : decode cX4_advance 24 = .ok (.lcmp, 1) := by decide +kernel
theorem dX4_advance_25 : decode cX4_advance 25 = .ok (.ifCond .eq 25, 3) := by decide +kernel
theorem dX4_advance_28 : decode cX4_advance 28 = .ok (.aload_n 0, 1) := by decide +kernel
theorem dX4_advance_29 : decode cX4_advance 29 = .ok (.aload_n 0, 1) := by decide +kernel
theorem dX4_advance_30 : decode cX4_advance 30 = .ok (.getfield 11, 3) := by decide +kernel
theorem dX4_advance_33 : decode cX4_advance 33 = .ok (.iload_n 1, 1) := by decide +kernel
theorem dX4_advance_34 : decode cX4_advance 34 = .ok (.laload, 1) := by decide +kernel
theorem dX4_advance_35 : decode cX4_advance 35 = .ok (.iload_n 1, 1) := by decide +kernel
theorem dX4_advance_36 : decode cX4_advance 36 = .ok (.bipush 20, 2) := by decide +kernel
theorem dX4_advance_38 : decode cX4_advance 38 = .ok (.idiv, 1) := by decide +kernel
theorem dX4_advance_39 : decode cX4_advance 39 = .ok (.iload_n 1, 1) := by decide +kernel
theorem dX4_advance_40 : decode cX4_advance 40 = .ok (.iconst 5, 1) := by decide +kernel
theorem dX4_advance_41 : decode cX4_advance 41 = .ok (.idiv, 1) := by decide +kernel
theorem dX4_advance_42 : decode cX4_advance 42 = .ok (.iconst 4, 1) := by decide +kernel
theorem dX4_advance_43 : decode cX4_advance 43 = .ok (.irem, 1) := by decide +kernel
theorem dX4_advance_44 : decode cX4_advance 44 = .ok (.iload_n 1, 1) := by decide +kernel
theorem dX4_advance_45 : decode cX4_advance 45 = .ok (.iconst 5, 1) := by decide +kernel
theorem dX4_advance_46 : decode cX4_advance 46 = .ok (.irem, 1) := by decide +kernel
theorem dX4_advance_47 : decode cX4_advance 47 = .ok (.invokevirtual 65, 3) := by decide +kernel
theorem dX4_advance_50 : decode cX4_advance 50 = .ok (.iinc 1 1, 3) := by decide +kernel
theorem dX4_advance_53 : decode cX4_advance 53 = .ok (.goto (-43), 3) := by decide +kernel
theorem dX4_advance_56 : decode cX4_advance 56 = .ok (.aload_n 0, 1) := by decide +kernel
theorem dX4_advance_57 : decode cX4_advance 57 = .ok (.getfield 11, 3) := by decide +kernel
theorem dX4_advance_60 : decode cX4_advance 60 = .ok (.astore_n 1, 1) := by decide +kernel
theorem dX4_advance_61 : decode cX4_advance 61 = .ok (.aload_n 0, 1) := by decide +kernel
theorem dX4_advance_62 : decode cX4_advance 62 = .ok (.aload_n 0, 1) := by decide +kernel
theorem dX4_advance_63 : decode cX4_advance 63 = .ok (.getfield 15, 3) := by decide +kernel
theorem dX4_advance_66 : decode cX4_advance 66 = .ok (.putfield 11, 3) := by decide +kernel
theorem dX4_advance_69 : decode cX4_advance 69 = .ok (.aload_n 0, 1) := by decide +kernel
theorem dX4_advance_70 : decode cX4_advance 70 = .ok (.aload_n 1, 1) := by decide +kernel
theorem dX4_advance_71 : decode cX4_advance 71 = .ok (.putfield 15, 3) := by decide +kernel
theorem dX4_advance_74 : decode cX4_advance 74 = .ok (.aload_n 0, 1) := by decide +kernel
theorem dX4_advance_75 : decode cX4_advance 75 = .ok (.getfield 23, 3) := by decide +kernel
theorem dX4_advance_78 : decode cX4_advance 78 = .ok (.invokevirtual 69, 3) := by decide +kernel
theorem dX4_advance_81 : decode cX4_advance 81 = .ok (.return_, 1) := by decide +kernel
theorem dX4_part_0 : decode cX4_part 0 = .ok (.aload_n 0, 1) := by decide +kernel
theorem dX4_part_1 : decode cX4_part 1 = .ok (.getfield 23, 3) := by decide +kernel
theorem dX4_part_4 : decode cX4_part 4 = .ok (.iload_n 3, 1) := by decide +kernel
theorem dX4_part_5 : decode cX4_part 5 = .ok (.iload 4, 2) := by decide +kernel
theorem dX4_part_7 : decode cX4_part 7 = .ok (.iload 5, 2) := by decide +kernel
theorem dX4_part_9 : decode cX4_part 9 = .ok (.invokevirtual 72, 3) := by decide +kernel
theorem dX4_part_12 : decode cX4_part 12 = .ok (.istore 6, 2) := by decide +kernel
theorem dX4_part_14 : decode cX4_part 14 = .ok (.iload 6, 2) := by decide +kernel
theorem dX4_part_16 : decode cX4_part 16 = .ok (.invokestatic 76, 3) := by decide +kernel
theorem dX4_part_19 : decode cX4_part 19 = .ok (.istore 7, 2) := by decide +kernel
theorem dX4_part_21 : decode cX4_part 21 = .ok (.iload 7, 2) := by decide +kernel
theorem dX4_part_23 : decode cX4_part 23 = .ok (.ifCond .le 14, 3) := by decide +kernel
theorem dX4_part_26 : decode cX4_part 26 = .ok (.lload_n 1, 1) := by decide +kernel
theorem dX4_part_27 : decode cX4_part 27 = .ok (.bipush 12, 2) := by decide +kernel
theorem dX4_part_29 : decode cX4_part 29 = .ok (.iload 7, 2) := by decide +kernel
theorem dX4_part_31 : decode cX4_part 31 = .ok (.idiv, 1) := by decide +kernel
theorem dX4_part_32 : decode cX4_part 32 = .ok (.i2l, 1) := by decide +kernel
theorem dX4_part_33 : decode cX4_part 33 = .ok (.lmul, 1) := by decide +kernel
theorem dX4_part_34 : decode cX4_part 34 = .ok (.goto 4, 3) := by decide +kernel
theorem dX4_part_37 : decode cX4_part 37 = .ok (.lconst 0, 1) := by decide +kernel
theorem dX4_part_38 : decode cX4_part 38 = .ok (.lstore 8, 2) := by decide +kernel
theorem dX4_part_40 : decode cX4_part 40 = .ok (.iconst 0, 1) := by decide +kernel
theorem dX4_part_41 : decode cX4_part 41 = .ok (.istore 10, 2) := by decide +kernel
theorem dX4_part_43 : decode cX4_part 43 = .ok (.iload 10, 2) := by decide +kernel
theorem dX4_part_45 : decode cX4_part 45 = .ok (.bipush 6, 2) := by decide +kernel
theorem dX4_part_47 : decode cX4_part 47 = .ok (.if_icmp .ge 65, 3) := by decide +kernel
theorem dX4_part_50 : decode cX4_part 50 = .ok (.iload 6, 2) := by decide +kernel
theorem dX4_part_52 : decode cX4_part 52 = .ok (.iload 10, 2) := by decide +kernel
theorem dX4_part_54 : decode cX4_part 54 = .ok (.ishr, 1) := by decide +kernel
theorem dX4_part_55 : decode cX4_part 55 = .ok (.iconst 1, 1) := by decide +kernel
theorem dX4_part_56 : decode cX4_part 56 = .ok (.iand, 1) := by decide +kernel
theorem dX4_part_57 : decode cX4_part 57 = .ok (.ifCond .eq 49, 3) := by decide +kernel
theorem dX4_part_60 : decode cX4_part 60 = .ok (.aload_n 0, 1) := by decide +kernel
theorem dX4_part_61 : decode cX4_part 61 = .ok (.getfield 23, 3) := by decide +kernel
theorem dX4_part_64 : decode cX4_part 64 = .ok (.iload 10, 2) := by decide +kernel
theorem dX4_part_66 : decode cX4_part 66 = .ok (.iload 4, 2) := by decide +kernel
theorem dX4_part_68 : decode cX4_part 68 = .ok (.iload 5, 2) := by decide +kernel
theorem dX4_part_70 : decode cX4_part 70 = .ok (.invokevirtual 82, 3) := by decide +kernel
theorem dX4_part_73 : decode cX4_part 73 = .ok (.istore 11, 2) := by decide +kernel
theorem dX4_part_75 : decode cX4_part 75 = .ok (.aload_n 0, 1) := by decide +kernel
theorem dX4_part_76 : decode cX4_part 76 = .ok (.getfield 15, 3) := by decide +kernel
theorem dX4_part_79 : decode cX4_part 79 = .ok (.iload_n 3, 1) := by decide +kernel
theorem dX4_part_80 : decode cX4_part 80 = .ok (.iload 11, 2) := by decide +kernel
theorem dX4_part_82 : decode cX4_part 82 = .ok (.invokestatic 85, 3) := by decide +kernel
theorem dX4_part_85 : decode cX4_part 85 = .ok (.iload 10, 2) := by decide +kernel
theorem dX4_part_87 : decode cX4_part 87 = .ok (.iload 4, 2) := by decide +kernel
theorem dX4_part_89 : decode cX4_part 89 = .ok (.invokestatic 89, 3) := by decide +kernel
theorem dX4_part_92 : decode cX4_part 92 = .ok (.iload 10, 2) := by decide +kernel
theorem dX4_part_94 : decode cX4_part 94 = .ok (.iload 11, 2) := by decide +kernel
theorem dX4_part_96 : decode cX4_part 96 = .ok (.iload 5, 2) := by decide +kernel
theorem dX4_part_98 : decode cX4_part 98 = .ok (.invokestatic 92, 3) := by decide +kernel
theorem dX4_part_101 : decode cX4_part 101 = .ok (.lload 8, 2) := by decide +kernel
theorem dX4_part_103 : decode cX4_part 103 = .ok (.invokestatic 61, 3) := by decide +kernel
theorem dX4_part_106 : decode cX4_part 106 = .ok (.iinc 10 1, 3) := by decide +kernel
theorem dX4_part_109 : decode cX4_part 109 = .ok (.goto (-66), 3) := by decide +kernel
theorem dX4_part_112 : decode cX4_part 112 = .ok (.return_, 1) := by decide +kernel
theorem dX4_join_0 : decode cX4_join 0 = .ok (.iload_n 1, 1) := by decide +kernel
theorem dX4_join_1 : decode cX4_join 1 = .ok (.iconst 4, 1) := by decide +kernel
theorem dX4_join_2 : decode cX4_join 2 = .ok (.imul, 1) := by decide +kernel
theorem dX4_join_3 : decode cX4_join 3 = .ok (.iload_n 2, 1) := by decide +kernel
theorem dX4_join_4 : decode cX4_join 4 = .ok (.iadd, 1) := by decide +kernel
theorem dX4_join_5 : decode cX4_join 5 = .ok (.iconst 5, 1) := by decide +kernel
theorem dX4_join_6 : decode cX4_join 6 = .ok (.imul, 1) := by decide +kernel
theorem dX4_join_7 : decode cX4_join 7 = .ok (.iload_n 3, 1) := by decide +kernel
theorem dX4_join_8 : decode cX4_join 8 = .ok (.iadd, 1) := by decide +kernel
theorem dX4_join_9 : decode cX4_join 9 = .ok (.istore 6, 2) := by decide +kernel
theorem dX4_join_11 : decode cX4_join 11 = .ok (.iload 6, 2) := by decide +kernel
theorem dX4_join_13 : decode cX4_join 13 = .ok (.ifCond .lt 19, 3) := by decide +kernel
theorem dX4_join_16 : decode cX4_join 16 = .ok (.iload 6, 2) := by decide +kernel
theorem dX4_join_18 : decode cX4_join 18 = .ok (.aload_n 0, 1) := by decide +kernel
theorem dX4_join_19 : decode cX4_join 19 = .ok (.arraylength, 1) := by decide +kernel
theorem dX4_join_20 : decode cX4_join 20 = .ok (.if_icmp .ge 12, 3) := by decide +kernel
theorem dX4_join_23 : decode cX4_join 23 = .ok (.aload_n 0, 1) := by decide +kernel
theorem dX4_join_24 : decode cX4_join 24 = .ok (.iload 6, 2) := by decide +kernel
theorem dX4_join_26 : decode cX4_join 26 = .ok (.dup2, 1) := by decide +kernel
theorem dX4_join_27 : decode cX4_join 27 = .ok (.laload, 1) := by decide +kernel
theorem dX4_join_28 : decode cX4_join 28 = .ok (.lload 4, 2) := by decide +kernel
theorem dX4_join_30 : decode cX4_join 30 = .ok (.ladd, 1) := by decide +kernel
theorem dX4_join_31 : decode cX4_join 31 = .ok (.lastore, 1) := by decide +kernel
theorem dX4_join_32 : decode cX4_join 32 = .ok (.return_, 1) := by decide +kernel
theorem dX4_shares_0 : decode cX4_shares 0 = .ok (.lconst 0, 1) := by decide +kernel
theorem dX4_shares_1 : decode cX4_shares 1 = .ok (.lstore_n 2, 1) := by decide +kernel
theorem dX4_shares_2 : decode cX4_shares 2 = .ok (.iconst 0, 1) := by decide +kernel
theorem dX4_shares_3 : decode cX4_shares 3 = .ok (.istore 4, 2) := by decide +kernel
theorem dX4_shares_5 : decode cX4_shares 5 = .ok (.iload 4, 2) := by decide +kernel
theorem dX4_shares_7 : decode cX4_shares 7 = .ok (.sipush 720, 3) := by decide +kernel
theorem dX4_shares_10 : decode cX4_shares 10 = .ok (.if_icmp .ge 32, 3) := by decide +kernel
theorem dX4_shares_13 : decode cX4_shares 13 = .ok (.lload_n 2, 1) := by decide +kernel
theorem dX4_shares_14 : decode cX4_shares 14 = .ok (.iload 4, 2) := by decide +kernel
theorem dX4_shares_16 : decode cX4_shares 16 = .ok (.bipush 20, 2) := by decide +kernel
theorem dX4_shares_18 : decode cX4_shares 18 = .ok (.idiv, 1) := by decide +kernel
theorem dX4_shares_19 : decode cX4_shares 19 = .ok (.iload_n 1, 1) := by decide +kernel
theorem dX4_shares_20 : decode cX4_shares 20 = .ok (.if_icmp .ne 13, 3) := by decide +kernel
theorem dX4_shares_23 : decode cX4_shares 23 = .ok (.aload_n 0, 1) := by decide +kernel
theorem dX4_shares_24 : decode cX4_shares 24 = .ok (.getfield 11, 3) := by decide +kernel
theorem dX4_shares_27 : decode cX4_shares 27 = .ok (.iload 4, 2) := by decide +kernel
theorem dX4_shares_29 : decode cX4_shares 29 = .ok (.laload, 1) := by decide +kernel
theorem dX4_shares_30 : decode cX4_shares 30 = .ok (.goto 4, 3) := by decide +kernel
theorem dX4_shares_33 : decode cX4_shares 33 = .ok (.lconst 0, 1) := by decide +kernel
theorem dX4_shares_34 : decode cX4_shares 34 = .ok (.ladd, 1) := by decide +kernel
theorem dX4_shares_35 : decode cX4_shares 35 = .ok (.lstore_n 2, 1) := by decide +kernel
theorem dX4_shares_36 : decode cX4_shares 36 = .ok (.iinc 4 1, 3) := by decide +kernel
theorem dX4_shares_39 : decode cX4_shares 39 = .ok (.goto (-34), 3) := by decide +kernel
theorem dX4_shares_42 : decode cX4_shares 42 = .ok (.lload_n 2, 1) := by decide +kernel
theorem dX4_shares_43 : decode cX4_shares 43 = .ok (.lreturn, 1) := by decide +kernel
theorem dX5_init_0 : decode cX5_init 0 = .ok (.aload_n 0, 1) := by decide +kernel
theorem dX5_init_1 : decode cX5_init 1 = .ok (.invokespecial 3, 3) := by decide +kernel
theorem dX5_init_4 : decode cX5_init 4 = .ok (.aload_n 0, 1) := by decide +kernel
theorem dX5_init_5 : decode cX5_init 5 = .ok (.bipush 6, 2) := by decide +kernel
theorem dX5_init_7 : decode cX5_init 7 = .ok (.anewarray 9, 3) := by decide +kernel
theorem dX5_init_10 : decode cX5_init 10 = .ok (.putfield 11, 3) := by decide +kernel
theorem dX5_init_13 : decode cX5_init 13 = .ok (.aload_n 0, 1) := by decide +kernel
theorem dX5_init_14 : decode cX5_init 14 = .ok (.new 17, 3) := by decide +kernel
theorem dX5_init_17 : decode cX5_init 17 = .ok (.dup, 1) := by decide +kernel
theorem dX5_init_18 : decode cX5_init 18 = .ok (.invokespecial 19, 3) := by decide +kernel
theorem dX5_init_21 : decode cX5_init 21 = .ok (.putfield 20, 3) := by decide +kernel
theorem dX5_init_24 : decode cX5_init 24 = .ok (.aload_n 0, 1) := by decide +kernel
theorem dX5_init_25 : decode cX5_init 25 = .ok (.new 17, 3) := by decide +kernel
theorem dX5_init_28 : decode cX5_init 28 = .ok (.dup, 1) := by decide +kernel
theorem dX5_init_29 : decode cX5_init 29 = .ok (.invokespecial 19, 3) := by decide +kernel
theorem dX5_init_32 : decode cX5_init 32 = .ok (.putfield 24, 3) := by decide +kernel
theorem dX5_init_35 : decode cX5_init 35 = .ok (.aload_n 0, 1) := by decide +kernel
theorem dX5_init_36 : decode cX5_init 36 = .ok (.aload_n 1, 1) := by decide +kernel
theorem dX5_init_37 : decode cX5_init 37 = .ok (.putfield 27, 3) := by decide +kernel
theorem dX5_init_40 : decode cX5_init 40 = .ok (.iconst 0, 1) := by decide +kernel
theorem dX5_init_41 : decode cX5_init 41 = .ok (.istore_n 2, 1) := by decide +kernel
theorem dX5_init_42 : decode cX5_init 42 = .ok (.iload_n 2, 1) := by decide +kernel
theorem dX5_init_43 : decode cX5_init 43 = .ok (.bipush 6, 2) := by decide +kernel
theorem dX5_init_45 : decode cX5_init 45 = .ok (.if_icmp .ge 22, 3) := by decide +kernel
theorem dX5_init_48 : decode cX5_init 48 = .ok (.aload_n 0, 1) := by decide +kernel
theorem dX5_init_49 : decode cX5_init 49 = .ok (.getfield 11, 3) := by decide +kernel
theorem dX5_init_52 : decode cX5_init 52 = .ok (.iload_n 2, 1) := by decide +kernel
theorem dX5_init_53 : decode cX5_init 53 = .ok (.new 9, 3) := by decide +kernel
theorem dX5_init_56 : decode cX5_init 56 = .ok (.dup, 1) := by decide +kernel
theorem dX5_init_57 : decode cX5_init 57 = .ok (.invokespecial 31, 3) := by decide +kernel
theorem dX5_init_60 : decode cX5_init 60 = .ok (.aastore, 1) := by decide +kernel
theorem dX5_init_61 : decode cX5_init 61 = .ok (.iinc 2 1, 3) := by decide +kernel
theorem dX5_init_64 : decode cX5_init 64 = .ok (.goto (-22), 3) := by decide +kernel
theorem dX5_init_67 : decode cX5_init 67 = .ok (.return_, 1) := by decide +kernel
theorem dX5_who_0 : decode cX5_who 0 = .ok (.iload_n 1, 1) := by decide +kernel
theorem dX5_who_1 : decode cX5_who 1 = .ok (.ifCond .lt 26, 3) := by decide +kernel
theorem dX5_who_4 : decode cX5_who 4 = .ok (.iload_n 1, 1) := by decide +kernel
theorem dX5_who_5 : decode cX5_who 5 = .ok (.aload_n 0, 1) := by decide +kernel
theorem dX5_who_6 : decode cX5_who 6 = .ok (.getfield 32, 3) := by decide +kernel
theorem dX5_who_9 : decode cX5_who 9 = .ok (.if_icmp .ge 18, 3) := by decide +kernel
theorem dX5_who_12 : decode cX5_who 12 = .ok (.iload_n 1, 1) := by decide +kernel
theorem dX5_who_13 : decode cX5_who 13 = .ok (.bipush 6, 2) := by decide +kernel
theorem dX5_who_15 : decode cX5_who 15 = .ok (.if_icmp .ge 12, 3) := by decide +kernel
theorem dX5_who_18 : decode cX5_who 18 = .ok (.aload_n 0, 1) := by decide +kernel
theorem dX5_who_19 : decode cX5_who 19 = .ok (.getfield 11, 3) := by decide +kernel
theorem dX5_who_22 : decode cX5_who 22 = .ok (.iload_n 1, 1) := by decide +kernel
theorem dX5_who_23 : decode cX5_who 23 = .ok (.aaload, 1) := by decide +kernel
theorem dX5_who_24 : decode cX5_who 24 = .ok (.goto 4, 3) := by decide +kernel
theorem dX5_who_27 : decode cX5_who 27 = .ok (.aconst_null, 1) := by decide +kernel
theorem dX5_who_28 : decode cX5_who 28 = .ok (.areturn, 1) := by decide +kernel
theorem dX5_added_0 : decode cX5_added 0 = .ok (.aload_n 0, 1) := by decide +kernel
theorem dX5_added_1 : decode cX5_added 1 = .ok (.getfield 32, 3) := by decide +kernel
theorem dX5_added_4 : decode cX5_added 4 = .ok (.bipush 6, 2) := by decide +kernel
theorem dX5_added_6 : decode cX5_added 6 = .ok (.if_icmp .ge 24, 3) := by decide +kernel
theorem dX5_added_9 : decode cX5_added 9 = .ok (.aload_n 0, 1) := by decide +kernel
theorem dX5_added_10 : decode cX5_added 10 = .ok (.dup, 1) := by decide +kernel
theorem dX5_added_11 : decode cX5_added 11 = .ok (.getfield 32, 3) := by decide +kernel
theorem dX5_added_14 : decode cX5_added 14 = .ok (.iconst 1, 1) := by decide +kernel
theorem dX5_added_15 : decode cX5_added 15 = .ok (.iadd, 1) := by decide +kernel
theorem dX5_added_16 : decode cX5_added 16 = .ok (.putfield 32, 3) := by decide +kernel
theorem dX5_added_19 : decode cX5_added 19 = .ok (.aload_n 0, 1) := by decide +kernel
theorem dX5_added_20 : decode cX5_added 20 = .ok (.aload_n 0, 1) := by decide +kernel
theorem dX5_added_21 : decode cX5_added 21 = .ok (.getfield 32, 3) := by decide +kernel
theorem dX5_added_24 : decode cX5_added 24 = .ok (.iconst 1, 1) := by decide +kernel
theorem dX5_added_25 : decode cX5_added 25 = .ok (.isub, 1) := by decide +kernel
theorem dX5_added_26 : decode cX5_added 26 = .ok (.invokevirtual 36, 3) := by decide +kernel
theorem dX5_added_29 : decode cX5_added 29 = .ok (.areturn, 1) := by decide +kernel
theorem dX5_added_30 : decode cX5_added 30 = .ok (.aconst_null, 1) := by decide +kernel
theorem dX5_added_31 : decode cX5_added 31 = .ok (.areturn, 1) := by decide +kernel
theorem dX5_become_0 : decode cX5_become 0 = .ok (.aload_n 0, 1) := by decide +kernel
theorem dX5_become_1 : decode cX5_become 1 = .ok (.aload_n 1, 1) := by decide +kernel
theorem dX5_become_2 : decode cX5_become 2 = .ok (.getfield 32, 3) := by decide +kernel
theorem dX5_become_5 : decode cX5_become 5 = .ok (.putfield 32, 3) := by decide +kernel
theorem dX5_become_8 : decode cX5_become 8 = .ok (.aload_n 0, 1) := by decide +kernel
theorem dX5_become_9 : decode cX5_become 9 = .ok (.aload_n 1, 1) := by decide +kernel
theorem dX5_become_10 : decode cX5_become 10 = .ok (.getfield 27, 3) := by decide +kernel
theorem dX5_become_13 : decode cX5_become 13 = .ok (.putfield 27, 3) := by decide +kernel
theorem dX5_become_16 : decode cX5_become 16 = .ok (.aload_n 0, 1) := by decide +kernel
theorem dX5_become_17 : decode cX5_become 17 = .ok (.getfield 20, 3) := by decide +kernel
theorem dX5_become_20 : decode cX5_become 20 = .ok (.aload_n 1, 1) := by decide +kernel
theorem dX5_become_21 : decode cX5_become 21 = .ok (.getfield 20, 3) := by decide +kernel
theorem dX5_become_24 : decode cX5_become 24 = .ok (.invokevirtual 40, 3) := by decide +kernel
theorem dX5_become_27 : decode cX5_become 27 = .ok (.aload_n 0, 1) := by decide +kernel
theorem dX5_become_28 : decode cX5_become 28 = .ok (.getfield 24, 3) := by decide +kernel
theorem dX5_become_31 : decode cX5_become 31 = .ok (.aload_n 1, 1) := by decide +kernel
theorem dX5_become_32 : decode cX5_become 32 = .ok (.getfield 24, 3) := by decide +kernel
theorem dX5_become_35 : decode cX5_become 35 = .ok (.invokevirtual 40, 3) := by decide +kernel
theorem dX5_become_38 : decode cX5_become 38 = .ok (.iconst 0, 1) := by decide +kernel
theorem dX5_become_39 : decode cX5_become 39 = .ok (.istore_n 2, 1) := by decide +kernel
theorem dX5_become_40 : decode cX5_become 40 = .ok (.iload_n 2, 1) := by decide +kernel
theorem dX5_become_41 : decode cX5_become 41 = .ok (.bipush 6, 2) := by decide +kernel
theorem dX5_become_43 : decode cX5_become 43 = .ok (.if_icmp .ge 24, 3) := by decide +kernel
theorem dX5_become_46 : decode cX5_become 46 = .ok (.aload_n 0, 1) := by decide +kernel
theorem dX5_become_47 : decode cX5_become 47 = .ok (.getfield 11, 3) := by decide +kernel
theorem dX5_become_50 : decode cX5_become 50 = .ok (.iload_n 2, 1) := by decide +kernel
theorem dX5_become_51 : decode cX5_become 51 = .ok (.aaload, 1) := by decide +kernel
theorem dX5_become_52 : decode cX5_become 52 = .ok (.aload_n 1, 1) := by decide +kernel
theorem dX5_become_53 : decode cX5_become 53 = .ok (.getfield 11, 3) := by decide +kernel
theorem dX5_become_56 : decode cX5_become 56 = .ok (.iload_n 2, 1) := by decide +kernel
theorem dX5_become_57 : decode cX5_become 57 = .ok (.aaload, 1) := by decide +kernel
theorem dX5_become_58 : decode cX5_become 58 = .ok (.invokevirtual 44, 3) := by decide +kernel
theorem dX5_become_61 : decode cX5_become 61 = .ok (.iinc 2 1, 3) := by decide +kernel
theorem dX5_become_64 : decode cX5_become 64 = .ok (.goto (-24), 3) := by decide +kernel
theorem dX5_become_67 : decode cX5_become 67 = .ok (.return_, 1) := by decide +kernel
theorem dX6_init_0 : decode cX6_init 0 = .ok (.aload_n 0, 1) := by decide +kernel
theorem dX6_init_1 : decode cX6_init 1 = .ok (.invokespecial 3, 3) := by decide +kernel
theorem dX6_init_4 : decode cX6_init 4 = .ok (.aload_n 0, 1) := by decide +kernel
theorem dX6_init_5 : decode cX6_init 5 = .ok (.bipush 60, 2) := by decide +kernel
theorem dX6_init_7 : decode cX6_init 7 = .ok (.newarray .long, 2) := by decide +kernel
theorem dX6_init_9 : decode cX6_init 9 = .ok (.putfield 9, 3) := by decide +kernel
theorem dX6_init_12 : decode cX6_init 12 = .ok (.aload_n 0, 1) := by decide +kernel
theorem dX6_init_13 : decode cX6_init 13 = .ok (.iconst (-1), 1) := by decide +kernel
theorem dX6_init_14 : decode cX6_init 14 = .ok (.putfield 15, 3) := by decide +kernel
theorem dX6_init_17 : decode cX6_init 17 = .ok (.return_, 1) := by decide +kernel
theorem dX6_become_0 : decode cX6_become 0 = .ok (.aload_n 0, 1) := by decide +kernel
theorem dX6_become_1 : decode cX6_become 1 = .ok (.iload_n 1, 1) := by decide +kernel
theorem dX6_become_2 : decode cX6_become 2 = .ok (.putfield 15, 3) := by decide +kernel
theorem dX6_become_5 : decode cX6_become 5 = .ok (.aload_n 0, 1) := by decide +kernel
theorem dX6_become_6 : decode cX6_become 6 = .ok (.iload_n 2, 1) := by decide +kernel
theorem dX6_become_7 : decode cX6_become 7 = .ok (.putfield 19, 3) := by decide +kernel
theorem dX6_become_10 : decode cX6_become 10 = .ok (.aload_n 0, 1) := by decide +kernel
theorem dX6_become_11 : decode cX6_become 11 = .ok (.getfield 9, 3) := by decide +kernel
theorem dX6_become_14 : decode cX6_become 14 = .ok (.lconst 0, 1) := by decide +kernel
theorem dX6_become_15 : decode cX6_become 15 = .ok (.invokestatic 22, 3) := by decide +kernel
theorem dX6_become_18 : decode cX6_become 18 = .ok (.return_, 1) := by decide +kernel
theorem dX6_has_0 : decode cX6_has 0 = .ok (.lload_n 1, 1) := by decide +kernel
theorem dX6_has_1 : decode cX6_has 1 = .ok (.lconst 0, 1) := by decide +kernel
theorem dX6_has_2 : decode cX6_has 2 = .ok (.lcmp, 1) := by decide +kernel
theorem dX6_has_3 : decode cX6_has 3 = .ok (.ifCond .lt 17, 3) := by decide +kernel
theorem dX6_has_6 : decode cX6_has 6 = .ok (.lload_n 1, 1) := by decide +kernel
theorem dX6_has_7 : decode cX6_has 7 = .ok (.aload_n 0, 1) := by decide +kernel
theorem dX6_has_8 : decode cX6_has 8 = .ok (.getfield 19, 3) := by decide +kernel
theorem dX6_has_11 : decode cX6_has 11 = .ok (.i2l, 1) := by decide +kernel
theorem dX6_has_12 : decode cX6_has 12 = .ok (.lcmp, 1) := by decide +kernel
theorem dX6_has_13 : decode cX6_has 13 = .ok (.ifCond .ge 7, 3) := by decide +kernel
theorem dX6_has_16 : decode cX6_has 16 = .ok (.iconst 1, 1) := by decide +kernel
theorem dX6_has_17 : decode cX6_has 17 = .ok (.goto 4, 3) := by decide +kernel
theorem dX6_has_20 : decode cX6_has 20 = .ok (.iconst 0, 1) := by decide +kernel
theorem dX6_has_21 : decode cX6_has 21 = .ok (.ireturn, 1) := by decide +kernel
theorem dX6_reaches_0 : decode cX6_reaches 0 = .ok (.iload_n 1, 1) := by decide +kernel
theorem dX6_reaches_1 : decode cX6_reaches 1 = .ok (.ifCond .lt 25, 3) := by decide +kernel
theorem dX6_reaches_4 : decode cX6_reaches 4 = .ok (.iload_n 2, 1) := by decide +kernel
theorem dX6_reaches_5 : decode cX6_reaches 5 = .ok (.ifCond .lt 21, 3) := by decide +kernel
theorem dX6_reaches_8 : decode cX6_reaches 8 = .ok (.iload_n 1, 1) := by decide +kernel
theorem dX6_reaches_9 : decode cX6_reaches 9 = .ok (.i2l, 1) := by decide +kernel
theorem dX6_reaches_10 : decode cX6_reaches 10 = .ok (.iload_n 2, 1) := by decide +kernel
theorem dX6_reaches_11 : decode cX6_reaches 11 = .ok (.i2l, 1) := by decide +kernel
theorem dX6_reaches_12 : decode cX6_reaches 12 = .ok (.ladd, 1) := by decide +kernel
theorem dX6_reaches_13 : decode cX6_reaches 13 = .ok (.aload_n 0, 1) := by decide +kernel
theorem dX6_reaches_14 : decode cX6_reaches 14 = .ok (.getfield 19, 3) := by decide +kernel
theorem dX6_reaches_17 : decode cX6_reaches 17 = .ok (.i2l, 1) := by decide +kernel
theorem dX6_reaches_18 : decode cX6_reaches 18 = .ok (.lcmp, 1) := by decide +kernel
theorem dX6_reaches_19 : decode cX6_reaches 19 = .ok (.ifCond .gt 7, 3) := by decide +kernel
theorem dX6_reaches_22 : decode cX6_reaches 22 = .ok (.iconst 1, 1) := by decide +kernel
theorem dX6_reaches_23 : decode cX6_reaches 23 = .ok (.goto 4, 3) := by decide +kernel
theorem dX6_reaches_26 : decode cX6_reaches 26 = .ok (.iconst 0, 1) := by decide +kernel
theorem dX6_reaches_27 : decode cX6_reaches 27 = .ok (.ireturn, 1) := by decide +kernel
theorem dX6_value_0 : decode cX6_value 0 = .ok (.iload_n 1, 1) := by decide +kernel
theorem dX6_value_1 : decode cX6_value 1 = .ok (.ifCond .lt 18, 3) := by decide +kernel
theorem dX6_value_4 : decode cX6_value 4 = .ok (.iload_n 1, 1) := by decide +kernel
theorem dX6_value_5 : decode cX6_value 5 = .ok (.bipush 60, 2) := by decide +kernel
theorem dX6_value_7 : decode cX6_value 7 = .ok (.if_icmp .ge 12, 3) := by decide +kernel
theorem dX6_value_10 : decode cX6_value 10 = .ok (.aload_n 0, 1) := by decide +kernel
theorem dX6_value_11 : decode cX6_value 11 = .ok (.getfield 9, 3) := by decide +kernel
theorem dX6_value_14 : decode cX6_value 14 = .ok (.iload_n 1, 1) := by decide +kernel
theorem dX6_value_15 : decode cX6_value 15 = .ok (.laload, 1) := by decide +kernel
theorem dX6_value_16 : decode cX6_value 16 = .ok (.goto 4, 3) := by decide +kernel
theorem dX6_value_19 : decode cX6_value 19 = .ok (.lconst 0, 1) := by decide +kernel
theorem dX6_value_20 : decode cX6_value 20 = .ok (.lreturn, 1) := by decide +kernel
theorem dX6_write_0 : decode cX6_write 0 = .ok (.iload_n 1, 1) := by decide +kernel
theorem dX6_write_1 : decode cX6_write 1 = .ok (.ifCond .lt 20, 3) := by decide +kernel
theorem dX6_write_4 : decode cX6_write 4 = .ok (.iload_n 1, 1) := by decide +kernel
theorem dX6_write_5 : decode cX6_write 5 = .ok (.bipush 60, 2) := by decide +kernel
theorem dX6_write_7 : decode cX6_write 7 = .ok (.if_icmp .ge 14, 3) := by decide +kernel
theorem dX6_write_10 : decode cX6_write 10 = .ok (.aload_n 0, 1) := by decide +kernel
theorem dX6_write_11 : decode cX6_write 11 = .ok (.getfield 9, 3) := by decide +kernel
theorem dX6_write_14 : decode cX6_write 14 = .ok (.iload_n 1, 1) := by decide +kernel
theorem dX6_write_15 : decode cX6_write 15 = .ok (.aload_n 0, 1) := by decide +kernel
theorem dX6_write_16 : decode cX6_write 16 = .ok (.lload_n 2, 1) := by decide +kernel
theorem dX6_write_17 : decode cX6_write 17 = .ok (.invokevirtual 28, 3) := by decide +kernel
theorem dX6_write_20 : decode cX6_write 20 = .ok (.lastore, 1) := by decide +kernel
theorem dX6_write_21 : decode cX6_write 21 = .ok (.return_, 1) := by decide +kernel
theorem dX6_cut_0 : decode cX6_cut 0 = .ok (.aload_n 0, 1) := by decide +kernel
theorem dX6_cut_1 : decode cX6_cut 1 = .ok (.getfield 15, 3) := by decide +kernel
theorem dX6_cut_4 : decode cX6_cut 4 = .ok (.tableswitch 62 0 4 #[36, 41, 46, 62, 50], 36) := by decide +kernel
theorem dX6_cut_40 : decode cX6_cut 40 = .ok (.lload_n 1, 1) := by decide +kernel
theorem dX6_cut_41 : decode cX6_cut 41 = .ok (.l2i, 1) := by decide +kernel
theorem dX6_cut_42 : decode cX6_cut 42 = .ok (.i2b, 1) := by decide +kernel
theorem dX6_cut_43 : decode cX6_cut 43 = .ok (.i2l, 1) := by decide +kernel
theorem dX6_cut_44 : decode cX6_cut 44 = .ok (.lreturn, 1) := by decide +kernel
theorem dX6_cut_45 : decode cX6_cut 45 = .ok (.lload_n 1, 1) := by decide +kernel
theorem dX6_cut_46 : decode cX6_cut 46 = .ok (.l2i, 1) := by decide +kernel
theorem dX6_cut_47 : decode cX6_cut 47 = .ok (.i2s, 1) := by decide +kernel
theorem dX6_cut_48 : decode cX6_cut 48 = .ok (.i2l, 1) := by decide +kernel
theorem dX6_cut_49 : decode cX6_cut 49 = .ok (.lreturn, 1) := by decide +kernel
theorem dX6_cut_50 : decode cX6_cut 50 = .ok (.lload_n 1, 1) := by decide +kernel
theorem dX6_cut_51 : decode cX6_cut 51 = .ok (.l2i, 1) := by decide +kernel
theorem dX6_cut_52 : decode cX6_cut 52 = .ok (.i2l, 1) := by decide +kernel
theorem dX6_cut_53 : decode cX6_cut 53 = .ok (.lreturn, 1) := by decide +kernel
theorem dX6_cut_54 : decode cX6_cut 54 = .ok (.lload_n 1, 1) := by decide +kernel
theorem dX6_cut_55 : decode cX6_cut 55 = .ok (.lconst 0, 1) := by decide +kernel
theorem dX6_cut_56 : decode cX6_cut 56 = .ok (.lcmp, 1) := by decide +kernel
theorem dX6_cut_57 : decode cX6_cut 57 = .ok (.ifCond .eq 7, 3) := by decide +kernel
theorem dX6_cut_60 : decode cX6_cut 60 = .ok (.lconst 1, 1) := by decide +kernel
theorem dX6_cut_61 : decode cX6_cut 61 = .ok (.goto 4, 3) := by decide +kernel
theorem dX6_cut_64 : decode cX6_cut 64 = .ok (.lconst 0, 1) := by decide +kernel
theorem dX6_cut_65 : decode cX6_cut 65 = .ok (.lreturn, 1) := by decide +kernel
theorem dX6_cut_66 : decode cX6_cut 66 = .ok (.lload_n 1, 1) := by decide +kernel
theorem dX6_cut_67 : decode cX6_cut 67 = .ok (.lreturn, 1) := by decide +kernel
theorem dX7_init_0 : decode cX7_init 0 = .ok (.aload_n 0, 1) := by decide +kernel
theorem dX7_init_1 : decode cX7_init 1 = .ok (.invokespecial 3, 3) := by decide +kernel
theorem dX7_init_4 : decode cX7_init 4 = .ok (.aload_n 0, 1) := by decide +kernel
theorem dX7_init_5 : decode cX7_init 5 = .ok (.bipush 100, 2) := by decide +kernel
theorem dX7_init_7 : decode cX7_init 7 = .ok (.newarray .byte, 2) := by decide +kernel
theorem dX7_init_9 : decode cX7_init 9 = .ok (.putfield 9, 3) := by decide +kernel
theorem dX7_init_12 : decode cX7_init 12 = .ok (.aload_n 0, 1) := by decide +kernel
theorem dX7_init_13 : decode cX7_init 13 = .ok (.iconst 4, 1) := by decide +kernel
theorem dX7_init_14 : decode cX7_init 14 = .ok (.newarray .long, 2) := by decide +kernel
theorem dX7_init_16 : decode cX7_init 16 = .ok (.putfield 15, 3) := by decide +kernel
theorem dX7_init_19 : decode cX7_init 19 = .ok (.return_, 1) := by decide +kernel
theorem dX7_add_0 : decode cX7_add 0 = .ok (.aload_n 0, 1) := by decide +kernel
