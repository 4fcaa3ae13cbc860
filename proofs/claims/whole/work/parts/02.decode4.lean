theorem dX11_begin_23 : decode cX11_begin 23 = .ok (.iconst (-1), 1) := by decide +kernel
theorem dX11_begin_24 : decode cX11_begin 24 = .ok (.ireturn, 1) := by decide +kernel
theorem dX11_begin_25 : decode cX11_begin 25 = .ok (.bipush (-5), 2) := by decide +kernel
theorem dX11_begin_27 : decode cX11_begin 27 = .ok (.istore 4, 2) := by decide +kernel
theorem dX11_begin_29 : decode cX11_begin 29 = .ok (.bipush (-5), 2) := by decide +kernel
theorem dX11_begin_31 : decode cX11_begin 31 = .ok (.istore 5, 2) := by decide +kernel
theorem dX11_begin_33 : decode cX11_begin 33 = .ok (.iconst 0, 1) := by decide +kernel
theorem dX11_begin_34 : decode cX11_begin 34 = .ok (.istore 6, 2) := by decide +kernel
theorem dX11_begin_36 : decode cX11_begin 36 = .ok (.iload 6, 2) := by decide +kernel
theorem dX11_begin_38 : decode cX11_begin 38 = .ok (.aload_n 0, 1) := by decide +kernel
theorem dX11_begin_39 : decode cX11_begin 39 = .ok (.invokevirtual 148, 3) := by decide +kernel
theorem dX11_begin_42 : decode cX11_begin 42 = .ok (.if_icmp .ge 51, 3) := by decide +kernel
theorem dX11_begin_45 : decode cX11_begin 45 = .ok (.aload_n 0, 1) := by decide +kernel
theorem dX11_begin_46 : decode cX11_begin 46 = .ok (.iload_n 1, 1) := by decide +kernel
theorem dX11_begin_47 : decode cX11_begin 47 = .ok (.iload 6, 2) := by decide +kernel
theorem dX11_begin_49 : decode cX11_begin 49 = .ok (.invokevirtual 238, 3) := by decide +kernel
theorem dX11_begin_52 : decode cX11_begin 52 = .ok (.aload_n 0, 1) := by decide +kernel
theorem dX11_begin_53 : decode cX11_begin 53 = .ok (.iload_n 2, 1) := by decide +kernel
theorem dX11_begin_54 : decode cX11_begin 54 = .ok (.invokevirtual 241, 3) := by decide +kernel
theorem dX11_begin_57 : decode cX11_begin 57 = .ok (.istore 7, 2) := by decide +kernel
theorem dX11_begin_59 : decode cX11_begin 59 = .ok (.iload 7, 2) := by decide +kernel
theorem dX11_begin_61 : decode cX11_begin 61 = .ok (.ifCond .lt 26, 3) := by decide +kernel
theorem dX11_begin_64 : decode cX11_begin 64 = .ok (.iload 4, 2) := by decide +kernel
theorem dX11_begin_66 : decode cX11_begin 66 = .ok (.ifCond .lt 13, 3) := by decide +kernel
theorem dX11_begin_69 : decode cX11_begin 69 = .ok (.iload 7, 2) := by decide +kernel
theorem dX11_begin_71 : decode cX11_begin 71 = .ok (.iload 5, 2) := by decide +kernel
theorem dX11_begin_73 : decode cX11_begin 73 = .ok (.if_icmp .lt 6, 3) := by decide +kernel
theorem dX11_begin_76 : decode cX11_begin 76 = .ok (.goto 11, 3) := by decide +kernel
theorem dX11_begin_79 : decode cX11_begin 79 = .ok (.iload 6, 2) := by decide +kernel
theorem dX11_begin_81 : decode cX11_begin 81 = .ok (.istore 4, 2) := by decide +kernel
theorem dX11_begin_83 : decode cX11_begin 83 = .ok (.iload 7, 2) := by decide +kernel
theorem dX11_begin_85 : decode cX11_begin 85 = .ok (.istore 5, 2) := by decide +kernel
theorem dX11_begin_87 : decode cX11_begin 87 = .ok (.iinc 6 1, 3) := by decide +kernel
theorem dX11_begin_90 : decode cX11_begin 90 = .ok (.goto (-54), 3) := by decide +kernel
theorem dX11_begin_93 : decode cX11_begin 93 = .ok (.iload_n 3, 1) := by decide +kernel
theorem dX11_begin_94 : decode cX11_begin 94 = .ok (.ifCond .ne 8, 3) := by decide +kernel
theorem dX11_begin_97 : decode cX11_begin 97 = .ok (.iload 4, 2) := by decide +kernel
theorem dX11_begin_99 : decode cX11_begin 99 = .ok (.goto 5, 3) := by decide +kernel
theorem dX11_begin_102 : decode cX11_begin 102 = .ok (.iload 5, 2) := by decide +kernel
theorem dX11_begin_104 : decode cX11_begin 104 = .ok (.ireturn, 1) := by decide +kernel
theorem dX11_within_0 : decode cX11_within 0 = .ok (.aload_n 0, 1) := by decide +kernel
theorem dX11_within_1 : decode cX11_within 1 = .ok (.iload_n 1, 1) := by decide +kernel
theorem dX11_within_2 : decode cX11_within 2 = .ok (.aload_n 0, 1) := by decide +kernel
theorem dX11_within_3 : decode cX11_within 3 = .ok (.iload_n 1, 1) := by decide +kernel
theorem dX11_within_4 : decode cX11_within 4 = .ok (.invokevirtual 168, 3) := by decide +kernel
theorem dX11_within_7 : decode cX11_within 7 = .ok (.invokevirtual 238, 3) := by decide +kernel
theorem dX11_within_10 : decode cX11_within 10 = .ok (.aload_n 0, 1) := by decide +kernel
theorem dX11_within_11 : decode cX11_within 11 = .ok (.invokevirtual 244, 3) := by decide +kernel
theorem dX11_within_14 : decode cX11_within 14 = .ok (.lstore_n 3, 1) := by decide +kernel
theorem dX11_within_15 : decode cX11_within 15 = .ok (.iconst 0, 1) := by decide +kernel
theorem dX11_within_16 : decode cX11_within 16 = .ok (.istore 5, 2) := by decide +kernel
theorem dX11_within_18 : decode cX11_within 18 = .ok (.iload 5, 2) := by decide +kernel
theorem dX11_within_20 : decode cX11_within 20 = .ok (.iload_n 2, 1) := by decide +kernel
theorem dX11_within_21 : decode cX11_within 21 = .ok (.if_icmp .ge 20, 3) := by decide +kernel
theorem dX11_within_24 : decode cX11_within 24 = .ok (.aload_n 0, 1) := by decide +kernel
theorem dX11_within_25 : decode cX11_within 25 = .ok (.invokevirtual 229, 3) := by decide +kernel
theorem dX11_within_28 : decode cX11_within 28 = .ok (.lload_n 3, 1) := by decide +kernel
theorem dX11_within_29 : decode cX11_within 29 = .ok (.aload_n 0, 1) := by decide +kernel
theorem dX11_within_30 : decode cX11_within 30 = .ok (.invokevirtual 244, 3) := by decide +kernel
theorem dX11_within_33 : decode cX11_within 33 = .ok (.lor, 1) := by decide +kernel
theorem dX11_within_34 : decode cX11_within 34 = .ok (.lstore_n 3, 1) := by decide +kernel
theorem dX11_within_35 : decode cX11_within 35 = .ok (.iinc 5 1, 3) := by decide +kernel
theorem dX11_within_38 : decode cX11_within 38 = .ok (.goto (-20), 3) := by decide +kernel
theorem dX11_within_41 : decode cX11_within 41 = .ok (.lload_n 3, 1) := by decide +kernel
theorem dX11_within_42 : decode cX11_within 42 = .ok (.lreturn, 1) := by decide +kernel
theorem dX11_reached_0 : decode cX11_reached 0 = .ok (.aload_n 0, 1) := by decide +kernel
theorem dX11_reached_1 : decode cX11_reached 1 = .ok (.iload_n 1, 1) := by decide +kernel
theorem dX11_reached_2 : decode cX11_reached 2 = .ok (.invokevirtual 165, 3) := by decide +kernel
theorem dX11_reached_5 : decode cX11_reached 5 = .ok (.ifCond .eq 21, 3) := by decide +kernel
theorem dX11_reached_8 : decode cX11_reached 8 = .ok (.iload_n 2, 1) := by decide +kernel
theorem dX11_reached_9 : decode cX11_reached 9 = .ok (.bipush 61, 2) := by decide +kernel
theorem dX11_reached_11 : decode cX11_reached 11 = .ok (.invokestatic 66, 3) := by decide +kernel
theorem dX11_reached_14 : decode cX11_reached 14 = .ok (.ifCond .eq 12, 3) := by decide +kernel
theorem dX11_reached_17 : decode cX11_reached 17 = .ok (.aload_n 0, 1) := by decide +kernel
theorem dX11_reached_18 : decode cX11_reached 18 = .ok (.iload_n 1, 1) := by decide +kernel
theorem dX11_reached_19 : decode cX11_reached 19 = .ok (.iload_n 2, 1) := by decide +kernel
theorem dX11_reached_20 : decode cX11_reached 20 = .ok (.invokevirtual 247, 3) := by decide +kernel
theorem dX11_reached_23 : decode cX11_reached 23 = .ok (.goto 6, 3) := by decide +kernel
theorem dX11_reached_26 : decode cX11_reached 26 = .ok (.ldc2_w 251, 3) := by decide +kernel
theorem dX11_reached_29 : decode cX11_reached 29 = .ok (.lreturn, 1) := by decide +kernel
theorem dX11_never_0 : decode cX11_never 0 = .ok (.aload_n 0, 1) := by decide +kernel
theorem dX11_never_1 : decode cX11_never 1 = .ok (.iload_n 1, 1) := by decide +kernel
theorem dX11_never_2 : decode cX11_never 2 = .ok (.invokevirtual 165, 3) := by decide +kernel
theorem dX11_never_5 : decode cX11_never 5 = .ok (.ifCond .ne 7, 3) := by decide +kernel
theorem dX11_never_8 : decode cX11_never 8 = .ok (.ldc2_w 251, 3) := by decide +kernel
theorem dX11_never_11 : decode cX11_never 11 = .ok (.lreturn, 1) := by decide +kernel
theorem dX11_never_12 : decode cX11_never 12 = .ok (.ldc2_w 103, 3) := by decide +kernel
theorem dX11_never_15 : decode cX11_never 15 = .ok (.aload_n 0, 1) := by decide +kernel
theorem dX11_never_16 : decode cX11_never 16 = .ok (.iload_n 1, 1) := by decide +kernel
theorem dX11_never_17 : decode cX11_never 17 = .ok (.bipush 60, 2) := by decide +kernel
theorem dX11_never_19 : decode cX11_never 19 = .ok (.invokevirtual 247, 3) := by decide +kernel
theorem dX11_never_22 : decode cX11_never 22 = .ok (.ldc2_w 108, 3) := by decide +kernel
theorem dX11_never_25 : decode cX11_never 25 = .ok (.lxor, 1) := by decide +kernel
theorem dX11_never_26 : decode cX11_never 26 = .ok (.land, 1) := by decide +kernel
theorem dX11_never_27 : decode cX11_never 27 = .ok (.lstore_n 2, 1) := by decide +kernel
theorem dX11_never_28 : decode cX11_never 28 = .ok (.iconst 0, 1) := by decide +kernel
theorem dX11_never_29 : decode cX11_never 29 = .ok (.istore 4, 2) := by decide +kernel
theorem dX11_never_31 : decode cX11_never 31 = .ok (.iload 4, 2) := by decide +kernel
theorem dX11_never_33 : decode cX11_never 33 = .ok (.bipush 36, 2) := by decide +kernel
theorem dX11_never_35 : decode cX11_never 35 = .ok (.if_icmp .ge 30, 3) := by decide +kernel
theorem dX11_never_38 : decode cX11_never 38 = .ok (.aload_n 0, 1) := by decide +kernel
theorem dX11_never_39 : decode cX11_never 39 = .ok (.iload 4, 2) := by decide +kernel
theorem dX11_never_41 : decode cX11_never 41 = .ok (.iconst 0, 1) := by decide +kernel
theorem dX11_never_42 : decode cX11_never 42 = .ok (.invokevirtual 155, 3) := by decide +kernel
theorem dX11_never_45 : decode cX11_never 45 = .ok (.ifCond .eq 14, 3) := by decide +kernel
theorem dX11_never_48 : decode cX11_never 48 = .ok (.lload_n 2, 1) := by decide +kernel
theorem dX11_never_49 : decode cX11_never 49 = .ok (.lconst 1, 1) := by decide +kernel
theorem dX11_never_50 : decode cX11_never 50 = .ok (.iload 4, 2) := by decide +kernel
theorem dX11_never_52 : decode cX11_never 52 = .ok (.lshl, 1) := by decide +kernel
theorem dX11_never_53 : decode cX11_never 53 = .ok (.ldc2_w 108, 3) := by decide +kernel
theorem dX11_never_56 : decode cX11_never 56 = .ok (.lxor, 1) := by decide +kernel
theorem dX11_never_57 : decode cX11_never 57 = .ok (.land, 1) := by decide +kernel
theorem dX11_never_58 : decode cX11_never 58 = .ok (.lstore_n 2, 1) := by decide +kernel
theorem dX11_never_59 : decode cX11_never 59 = .ok (.iinc 4 1, 3) := by decide +kernel
theorem dX11_never_62 : decode cX11_never 62 = .ok (.goto (-31), 3) := by decide +kernel
theorem dX11_never_65 : decode cX11_never 65 = .ok (.lload_n 2, 1) := by decide +kernel
theorem dX11_never_66 : decode cX11_never 66 = .ok (.lreturn, 1) := by decide +kernel
theorem dX11_meet_0 : decode cX11_meet 0 = .ok (.aload_n 0, 1) := by decide +kernel
theorem dX11_meet_1 : decode cX11_meet 1 = .ok (.iload_n 1, 1) := by decide +kernel
theorem dX11_meet_2 : decode cX11_meet 2 = .ok (.invokevirtual 165, 3) := by decide +kernel
theorem dX11_meet_5 : decode cX11_meet 5 = .ok (.ifCond .eq 19, 3) := by decide +kernel
theorem dX11_meet_8 : decode cX11_meet 8 = .ok (.aload_n 0, 1) := by decide +kernel
theorem dX11_meet_9 : decode cX11_meet 9 = .ok (.iload_n 2, 1) := by decide +kernel
theorem dX11_meet_10 : decode cX11_meet 10 = .ok (.invokevirtual 165, 3) := by decide +kernel
theorem dX11_meet_13 : decode cX11_meet 13 = .ok (.ifCond .eq 11, 3) := by decide +kernel
theorem dX11_meet_16 : decode cX11_meet 16 = .ok (.iload_n 3, 1) := by decide +kernel
theorem dX11_meet_17 : decode cX11_meet 17 = .ok (.iconst 2, 1) := by decide +kernel
theorem dX11_meet_18 : decode cX11_meet 18 = .ok (.invokestatic 66, 3) := by decide +kernel
theorem dX11_meet_21 : decode cX11_meet 21 = .ok (.ifCond .ne 5, 3) := by decide +kernel
theorem dX11_meet_24 : decode cX11_meet 24 = .ok (.iconst (-1), 1) := by decide +kernel
theorem dX11_meet_25 : decode cX11_meet 25 = .ok (.ireturn, 1) := by decide +kernel
theorem dX11_meet_26 : decode cX11_meet 26 = .ok (.iload_n 1, 1) := by decide +kernel
theorem dX11_meet_27 : decode cX11_meet 27 = .ok (.iload_n 2, 1) := by decide +kernel
theorem dX11_meet_28 : decode cX11_meet 28 = .ok (.if_icmp .ne 6, 3) := by decide +kernel
theorem dX11_meet_31 : decode cX11_meet 31 = .ok (.bipush (-2), 2) := by decide +kernel
theorem dX11_meet_33 : decode cX11_meet 33 = .ok (.ireturn, 1) := by decide +kernel
theorem dX11_meet_34 : decode cX11_meet 34 = .ok (.aload_n 0, 1) := by decide +kernel
theorem dX11_meet_35 : decode cX11_meet 35 = .ok (.iload_n 1, 1) := by decide +kernel
theorem dX11_meet_36 : decode cX11_meet 36 = .ok (.aload_n 0, 1) := by decide +kernel
theorem dX11_meet_37 : decode cX11_meet 37 = .ok (.iload_n 1, 1) := by decide +kernel
theorem dX11_meet_38 : decode cX11_meet 38 = .ok (.invokevirtual 168, 3) := by decide +kernel
theorem dX11_meet_41 : decode cX11_meet 41 = .ok (.invokevirtual 238, 3) := by decide +kernel
theorem dX11_meet_44 : decode cX11_meet 44 = .ok (.iconst 0, 1) := by decide +kernel
theorem dX11_meet_45 : decode cX11_meet 45 = .ok (.istore 4, 2) := by decide +kernel
theorem dX11_meet_47 : decode cX11_meet 47 = .ok (.iload 4, 2) := by decide +kernel
theorem dX11_meet_49 : decode cX11_meet 49 = .ok (.bipush 40, 2) := by decide +kernel
theorem dX11_meet_51 : decode cX11_meet 51 = .ok (.if_icmp .gt 29, 3) := by decide +kernel
theorem dX11_meet_54 : decode cX11_meet 54 = .ok (.iload 4, 2) := by decide +kernel
theorem dX11_meet_56 : decode cX11_meet 56 = .ok (.ifCond .le 7, 3) := by decide +kernel
theorem dX11_meet_59 : decode cX11_meet 59 = .ok (.aload_n 0, 1) := by decide +kernel
theorem dX11_meet_60 : decode cX11_meet 60 = .ok (.invokevirtual 229, 3) := by decide +kernel
theorem dX11_meet_63 : decode cX11_meet 63 = .ok (.aload_n 0, 1) := by decide +kernel
theorem dX11_meet_64 : decode cX11_meet 64 = .ok (.getfield 44, 3) := by decide +kernel
theorem dX11_meet_67 : decode cX11_meet 67 = .ok (.iload 4, 2) := by decide +kernel
theorem dX11_meet_69 : decode cX11_meet 69 = .ok (.aload_n 0, 1) := by decide +kernel
theorem dX11_meet_70 : decode cX11_meet 70 = .ok (.invokevirtual 244, 3) := by decide +kernel
theorem dX11_meet_73 : decode cX11_meet 73 = .ok (.lastore, 1) := by decide +kernel
theorem dX11_meet_74 : decode cX11_meet 74 = .ok (.iinc 4 1, 3) := by decide +kernel
theorem dX11_meet_77 : decode cX11_meet 77 = .ok (.goto (-30), 3) := by decide +kernel
theorem dX11_meet_80 : decode cX11_meet 80 = .ok (.aload_n 0, 1) := by decide +kernel
theorem dX11_meet_81 : decode cX11_meet 81 = .ok (.iload_n 2, 1) := by decide +kernel
theorem dX11_meet_82 : decode cX11_meet 82 = .ok (.aload_n 0, 1) := by decide +kernel
theorem dX11_meet_83 : decode cX11_meet 83 = .ok (.iload_n 2, 1) := by decide +kernel
theorem dX11_meet_84 : decode cX11_meet 84 = .ok (.invokevirtual 168, 3) := by decide +kernel
theorem dX11_meet_87 : decode cX11_meet 87 = .ok (.invokevirtual 238, 3) := by decide +kernel
theorem dX11_meet_90 : decode cX11_meet 90 = .ok (.iconst 0, 1) := by decide +kernel
theorem dX11_meet_91 : decode cX11_meet 91 = .ok (.istore 4, 2) := by decide +kernel
theorem dX11_meet_93 : decode cX11_meet 93 = .ok (.iload 4, 2) := by decide +kernel
theorem dX11_meet_95 : decode cX11_meet 95 = .ok (.bipush 40, 2) := by decide +kernel
theorem dX11_meet_97 : decode cX11_meet 97 = .ok (.if_icmp .gt 73, 3) := by decide +kernel
theorem dX11_meet_100 : decode cX11_meet 100 = .ok (.iload 4, 2) := by decide +kernel
theorem dX11_meet_102 : decode cX11_meet 102 = .ok (.ifCond .le 7, 3) := by decide +kernel
theorem dX11_meet_105 : decode cX11_meet 105 = .ok (.aload_n 0, 1) := by decide +kernel
theorem dX11_meet_106 : decode cX11_meet 106 = .ok (.invokevirtual 229, 3) := by decide +kernel
theorem dX11_meet_109 : decode cX11_meet 109 = .ok (.aload_n 0, 1) := by decide +kernel
theorem dX11_meet_110 : decode cX11_meet 110 = .ok (.getfield 44, 3) := by decide +kernel
theorem dX11_meet_113 : decode cX11_meet 113 = .ok (.iload 4, 2) := by decide +kernel
theorem dX11_meet_115 : decode cX11_meet 115 = .ok (.laload, 1) := by decide +kernel
theorem dX11_meet_116 : decode cX11_meet 116 = .ok (.aload_n 0, 1) := by decide +kernel
theorem dX11_meet_117 : decode cX11_meet 117 = .ok (.invokevirtual 244, 3) := by decide +kernel
theorem dX11_meet_120 : decode cX11_meet 120 = .ok (.land, 1) := by decide +kernel
theorem dX11_meet_121 : decode cX11_meet 121 = .ok (.lstore 5, 2) := by decide +kernel
theorem dX11_meet_123 : decode cX11_meet 123 = .ok (.lload 5, 2) := by decide +kernel
theorem dX11_meet_125 : decode cX11_meet 125 = .ok (.lconst 0, 1) := by decide +kernel
theorem dX11_meet_126 : decode cX11_meet 126 = .ok (.lcmp, 1) := by decide +kernel
theorem dX11_meet_127 : decode cX11_meet 127 = .ok (.ifCond .ne 6, 3) := by decide +kernel
theorem dX11_meet_130 : decode cX11_meet 130 = .ok (.goto 34, 3) := by decide +kernel
theorem dX11_meet_133 : decode cX11_meet 133 = .ok (.iload_n 3, 1) := by decide +kernel
theorem dX11_meet_134 : decode cX11_meet 134 = .ok (.ifCond .ne 6, 3) := by decide +kernel
theorem dX11_meet_137 : decode cX11_meet 137 = .ok (.iload 4, 2) := by decide +kernel
theorem dX11_meet_139 : decode cX11_meet 139 = .ok (.ireturn, 1) := by decide +kernel
theorem dX11_meet_140 : decode cX11_meet 140 = .ok (.iconst 0, 1) := by decide +kernel
theorem dX11_meet_141 : decode cX11_meet 141 = .ok (.istore 7, 2) := by decide +kernel
theorem dX11_meet_143 : decode cX11_meet 143 = .ok (.lload 5, 2) := by decide +kernel
theorem dX11_meet_145 : decode cX11_meet 145 = .ok (.iload 7, 2) := by decide +kernel
theorem dX11_meet_147 : decode cX11_meet 147 = .ok (.lshr, 1) := by decide +kernel
theorem dX11_meet_148 : decode cX11_meet 148 = .ok (.lconst 1, 1) := by decide +kernel
theorem dX11_meet_149 : decode cX11_meet 149 = .ok (.land, 1) := by decide +kernel
theorem dX11_meet_150 : decode cX11_meet 150 = .ok (.lconst 0, 1) := by decide +kernel
theorem dX11_meet_151 : decode cX11_meet 151 = .ok (.lcmp, 1) := by decide +kernel
theorem dX11_meet_152 : decode cX11_meet 152 = .ok (.ifCond .ne 9, 3) := by decide +kernel
theorem dX11_meet_155 : decode cX11_meet 155 = .ok (.iinc 7 1, 3) := by decide +kernel
theorem dX11_meet_158 : decode cX11_meet 158 = .ok (.goto (-15), 3) := by decide +kernel
theorem dX11_meet_161 : decode cX11_meet 161 = .ok (.iload 7, 2) := by decide +kernel
theorem dX11_meet_163 : decode cX11_meet 163 = .ok (.ireturn, 1) := by decide +kernel
theorem dX11_meet_164 : decode cX11_meet 164 = .ok (.iinc 4 1, 3) := by decide +kernel
theorem dX11_meet_167 : decode cX11_meet 167 = .ok (.goto (-74), 3) := by decide +kernel
theorem dX11_meet_170 : decode cX11_meet 170 = .ok (.bipush (-5), 2) := by decide +kernel
theorem dX11_meet_172 : decode cX11_meet 172 = .ok (.ireturn, 1) := by decide +kernel
theorem dX11_home_0 : decode cX11_home 0 = .ok (.aload_n 0, 1) := by decide +kernel
theorem dX11_home_1 : decode cX11_home 1 = .ok (.iload_n 1, 1) := by decide +kernel
theorem dX11_home_2 : decode cX11_home 2 = .ok (.invokevirtual 165, 3) := by decide +kernel
theorem dX11_home_5 : decode cX11_home 5 = .ok (.ifCond .ne 5, 3) := by decide +kernel
theorem dX11_home_8 : decode cX11_home 8 = .ok (.iconst (-1), 1) := by decide +kernel
theorem dX11_home_9 : decode cX11_home 9 = .ok (.ireturn, 1) := by decide +kernel
theorem dX11_home_10 : decode cX11_home 10 = .ok (.aload_n 0, 1) := by decide +kernel
theorem dX11_home_11 : decode cX11_home 11 = .ok (.iload_n 1, 1) := by decide +kernel
theorem dX11_home_12 : decode cX11_home 12 = .ok (.aload_n 0, 1) := by decide +kernel
theorem dX11_home_13 : decode cX11_home 13 = .ok (.iload_n 1, 1) := by decide +kernel
theorem dX11_home_14 : decode cX11_home 14 = .ok (.invokevirtual 168, 3) := by decide +kernel
theorem dX11_home_17 : decode cX11_home 17 = .ok (.invokevirtual 238, 3) := by decide +kernel
theorem dX11_home_20 : decode cX11_home 20 = .ok (.iconst 1, 1) := by decide +kernel
theorem dX11_home_21 : decode cX11_home 21 = .ok (.istore_n 2, 1) := by decide +kernel
theorem dX11_home_22 : decode cX11_home 22 = .ok (.iload_n 2, 1) := by decide +kernel
theorem dX11_home_23 : decode cX11_home 23 = .ok (.bipush 60, 2) := by decide +kernel
theorem dX11_home_25 : decode cX11_home 25 = .ok (.if_icmp .gt 65, 3) := by decide +kernel
theorem dX11_home_28 : decode cX11_home 28 = .ok (.aload_n 0, 1) := by decide +kernel
theorem dX11_home_29 : decode cX11_home 29 = .ok (.invokevirtual 229, 3) := by decide +kernel
theorem dX11_home_32 : decode cX11_home 32 = .ok (.iload_n 2, 1) := by decide +kernel
theorem dX11_home_33 : decode cX11_home 33 = .ok (.aload_n 0, 1) := by decide +kernel
theorem dX11_home_34 : decode cX11_home 34 = .ok (.invokevirtual 148, 3) := by decide +kernel
theorem dX11_home_37 : decode cX11_home 37 = .ok (.irem, 1) := by decide +kernel
theorem dX11_home_38 : decode cX11_home 38 = .ok (.ifCond .eq 6, 3) := by decide +kernel
theorem dX11_home_41 : decode cX11_home 41 = .ok (.goto 43, 3) := by decide +kernel
theorem dX11_home_44 : decode cX11_home 44 = .ok (.iconst 0, 1) := by decide +kernel
theorem dX11_home_45 : decode cX11_home 45 = .ok (.istore_n 3, 1) := by decide +kernel
theorem dX11_home_46 : decode cX11_home 46 = .ok (.iload_n 3, 1) := by decide +kernel
theorem dX11_home_47 : decode cX11_home 47 = .ok (.bipush 36, 2) := by decide +kernel
theorem dX11_home_49 : decode cX11_home 49 = .ok (.if_icmp .ge 35, 3) := by decide +kernel
theorem dX11_home_52 : decode cX11_home 52 = .ok (.aload_n 0, 1) := by decide +kernel
theorem dX11_home_53 : decode cX11_home 53 = .ok (.getfield 31, 3) := by decide +kernel
theorem dX11_home_56 : decode cX11_home 56 = .ok (.aload_n 0, 1) := by decide +kernel
theorem dX11_home_57 : decode cX11_home 57 = .ok (.iload_n 1, 1) := by decide +kernel
theorem dX11_home_58 : decode cX11_home 58 = .ok (.iconst 2, 1) := by decide +kernel
theorem dX11_home_59 : decode cX11_home 59 = .ok (.invokevirtual 162, 3) := by decide +kernel
theorem dX11_home_62 : decode cX11_home 62 = .ok (.aload_n 0, 1) := by decide +kernel
theorem dX11_home_63 : decode cX11_home 63 = .ok (.iload_n 1, 1) := by decide +kernel
theorem dX11_home_64 : decode cX11_home 64 = .ok (.iconst 3, 1) := by decide +kernel
theorem dX11_home_65 : decode cX11_home 65 = .ok (.invokevirtual 162, 3) := by decide +kernel
theorem dX11_home_68 : decode cX11_home 68 = .ok (.iload_n 3, 1) := by decide +kernel
theorem dX11_home_69 : decode cX11_home 69 = .ok (.invokestatic 201, 3) := by decide +kernel
theorem dX11_home_72 : decode cX11_home 72 = .ok (.iaload, 1) := by decide +kernel
theorem dX11_home_73 : decode cX11_home 73 = .ok (.ifCond .eq 5, 3) := by decide +kernel
theorem dX11_home_76 : decode cX11_home 76 = .ok (.iload_n 2, 1) := by decide +kernel
theorem dX11_home_77 : decode cX11_home 77 = .ok (.ireturn, 1) := by decide +kernel
theorem dX11_home_78 : decode cX11_home 78 = .ok (.iinc 3 1, 3) := by decide +kernel
theorem dX11_home_81 : decode cX11_home 81 = .ok (.goto (-35), 3) := by decide +kernel
theorem dX11_home_84 : decode cX11_home 84 = .ok (.iinc 2 1, 3) := by decide +kernel
theorem dX11_home_87 : decode cX11_home 87 = .ok (.goto (-65), 3) := by decide +kernel
theorem dX11_home_90 : decode cX11_home 90 = .ok (.bipush (-5), 2) := by decide +kernel
theorem dX11_home_92 : decode cX11_home 92 = .ok (.ireturn, 1) := by decide +kernel
theorem dX11_row_0 : decode cX11_row 0 = .ok (.iload_n 1, 1) := by decide +kernel
theorem dX11_row_1 : decode cX11_row 1 = .ok (.iconst (-1), 1) := by decide +kernel
theorem dX11_row_2 : decode cX11_row 2 = .ok (.if_icmp .ne 12, 3) := by decide +kernel
theorem dX11_row_5 : decode cX11_row 5 = .ok (.aload_n 0, 1) := by decide +kernel
theorem dX11_row_6 : decode cX11_row 6 = .ok (.getfield 9, 3) := by decide +kernel
theorem dX11_row_9 : decode cX11_row 9 = .ok (.iconst 2, 1) := by decide +kernel
theorem dX11_row_10 : decode cX11_row 10 = .ok (.iconst 0, 1) := by decide +kernel
theorem dX11_row_11 : decode cX11_row 11 = .ok (.iastore, 1) := by decide +kernel
theorem dX11_row_12 : decode cX11_row 12 = .ok (.iconst 0, 1) := by decide +kernel
theorem dX11_row_13 : decode cX11_row 13 = .ok (.ireturn, 1) := by decide +kernel
theorem dX11_row_14 : decode cX11_row 14 = .ok (.iload_n 1, 1) := by decide +kernel
theorem dX11_row_15 : decode cX11_row 15 = .ok (.bipush 6, 2) := by decide +kernel
theorem dX11_row_17 : decode cX11_row 17 = .ok (.invokestatic 66, 3) := by decide +kernel
theorem dX11_row_20 : decode cX11_row 20 = .ok (.ifCond .ne 5, 3) := by decide +kernel
theorem dX11_row_23 : decode cX11_row 23 = .ok (.iconst (-1), 1) := by decide +kernel
theorem dX11_row_24 : decode cX11_row 24 = .ok (.ireturn, 1) := by decide +kernel
theorem dX11_row_25 : decode cX11_row 25 = .ok (.aload_n 0, 1) := by decide +kernel
theorem dX11_row_26 : decode cX11_row 26 = .ok (.getfield 9, 3) := by decide +kernel
theorem dX11_row_29 : decode cX11_row 29 = .ok (.iconst 2, 1) := by decide +kernel
theorem dX11_row_30 : decode cX11_row 30 = .ok (.iaload, 1) := by decide +kernel
theorem dX11_row_31 : decode cX11_row 31 = .ok (.bipush 12, 2) := by decide +kernel
theorem dX11_row_33 : decode cX11_row 33 = .ok (.if_icmp .ne 6, 3) := by decide +kernel
theorem dX11_row_36 : decode cX11_row 36 = .ok (.bipush (-4), 2) := by decide +kernel
theorem dX11_row_38 : decode cX11_row 38 = .ok (.ireturn, 1) := by decide +kernel
theorem dX11_row_39 : decode cX11_row 39 = .ok (.aload_n 0, 1) := by decide +kernel
theorem dX11_row_40 : decode cX11_row 40 = .ok (.getfield 9, 3) := by decide +kernel
theorem dX11_row_43 : decode cX11_row 43 = .ok (.bipush 46, 2) := by decide +kernel
theorem dX11_row_45 : decode cX11_row 45 = .ok (.aload_n 0, 1) := by decide +kernel
theorem dX11_row_46 : decode cX11_row 46 = .ok (.getfield 9, 3) := by decide +kernel
theorem dX11_row_49 : decode cX11_row 49 = .ok (.iconst 2, 1) := by decide +kernel
theorem dX11_row_50 : decode cX11_row 50 = .ok (.iaload, 1) := by decide +kernel
theorem dX11_row_51 : decode cX11_row 51 = .ok (.iadd, 1) := by decide +kernel
theorem dX11_row_52 : decode cX11_row 52 = .ok (.iload_n 1, 1) := by decide +kernel
theorem dX11_row_53 : decode cX11_row 53 = .ok (.iastore, 1) := by decide +kernel
theorem dX11_row_54 : decode cX11_row 54 = .ok (.aload_n 0, 1) := by decide +kernel
theorem dX11_row_55 : decode cX11_row 55 = .ok (.getfield 9, 3) := by decide +kernel
theorem dX11_row_58 : decode cX11_row 58 = .ok (.iconst 2, 1) := by decide +kernel
theorem dX11_row_59 : decode cX11_row 59 = .ok (.dup2, 1) := by decide +kernel
theorem dX11_row_60 : decode cX11_row 60 = .ok (.iaload, 1) := by decide +kernel
theorem dX11_row_61 : decode cX11_row 61 = .ok (.iconst 1, 1) := by decide +kernel
theorem dX11_row_62 : decode cX11_row 62 = .ok (.iadd, 1) := by decide +kernel
theorem dX11_row_63 : decode cX11_row 63 = .ok (.iastore, 1) := by decide +kernel
theorem dX11_row_64 : decode cX11_row 64 = .ok (.aload_n 0, 1) := by decide +kernel
theorem dX11_row_65 : decode cX11_row 65 = .ok (.getfield 9, 3) := by decide +kernel
theorem dX11_row_68 : decode cX11_row 68 = .ok (.iconst 2, 1) := by decide +kernel
theorem dX11_row_69 : decode cX11_row 69 = .ok (.iaload, 1) := by decide +kernel
theorem dX11_row_70 : decode cX11_row 70 = .ok (.ireturn, 1) := by decide +kernel
theorem dX11_hand_0 : decode cX11_hand 0 = .ok (.aload_n 0, 1) := by decide +kernel
theorem dX11_hand_1 : decode cX11_hand 1 = .ok (.iload_n 1, 1) := by decide +kernel
theorem dX11_hand_2 : decode cX11_hand 2 = .ok (.invokevirtual 165, 3) := by decide +kernel
theorem dX11_hand_5 : decode cX11_hand 5 = .ok (.ifCond .eq 11, 3) := by decide +kernel
theorem dX11_hand_8 : decode cX11_hand 8 = .ok (.iload_n 2, 1) := by decide +kernel
theorem dX11_hand_9 : decode cX11_hand 9 = .ok (.iconst 3, 1) := by decide +kernel
theorem dX11_hand_10 : decode cX11_hand 10 = .ok (.invokestatic 66, 3) := by decide +kernel
theorem dX11_hand_13 : decode cX11_hand 13 = .ok (.ifCond .ne 5, 3) := by decide +kernel
theorem dX11_hand_16 : decode cX11_hand 16 = .ok (.iconst (-1), 1) := by decide +kernel
theorem dX11_hand_17 : decode cX11_hand 17 = .ok (.ireturn, 1) := by decide +kernel
theorem dX11_hand_18 : decode cX11_hand 18 = .ok (.iconst 0, 1) := by decide +kernel
theorem dX11_hand_19 : decode cX11_hand 19 = .ok (.istore_n 3, 1) := by decide +kernel
theorem dX11_hand_20 : decode cX11_hand 20 = .ok (.iload_n 3, 1) := by decide +kernel
theorem dX11_hand_21 : decode cX11_hand 21 = .ok (.bipush 7, 2) := by decide +kernel
theorem dX11_hand_23 : decode cX11_hand 23 = .ok (.if_icmp .ge 21, 3) := by decide +kernel
theorem dX11_hand_26 : decode cX11_hand 26 = .ok (.aload_n 0, 1) := by decide +kernel
theorem dX11_hand_27 : decode cX11_hand 27 = .ok (.getfield 47, 3) := by decide +kernel
theorem dX11_hand_30 : decode cX11_hand 30 = .ok (.iload_n 3, 1) := by decide +kernel
theorem dX11_hand_31 : decode cX11_hand 31 = .ok (.aload_n 0, 1) := by decide +kernel
theorem dX11_hand_32 : decode cX11_hand 32 = .ok (.iload_n 1, 1) := by decide +kernel
theorem dX11_hand_33 : decode cX11_hand 33 = .ok (.iload_n 3, 1) := by decide +kernel
theorem dX11_hand_34 : decode cX11_hand 34 = .ok (.invokevirtual 162, 3) := by decide +kernel
theorem dX11_hand_37 : decode cX11_hand 37 = .ok (.iastore, 1) := by decide +kernel
theorem dX11_hand_38 : decode cX11_hand 38 = .ok (.iinc 3 1, 3) := by decide +kernel
theorem dX11_hand_41 : decode cX11_hand 41 = .ok (.goto (-21), 3) := by decide +kernel
theorem dX11_hand_44 : decode cX11_hand 44 = .ok (.iconst 0, 1) := by decide +kernel
theorem dX11_hand_45 : decode cX11_hand 45 = .ok (.istore_n 3, 1) := by decide +kernel
theorem dX11_hand_46 : decode cX11_hand 46 = .ok (.iload_n 3, 1) := by decide +kernel
theorem dX11_hand_47 : decode cX11_hand 47 = .ok (.aload_n 0, 1) := by decide +kernel
theorem dX11_hand_48 : decode cX11_hand 48 = .ok (.getfield 9, 3) := by decide +kernel
theorem dX11_hand_51 : decode cX11_hand 51 = .ok (.iconst 2, 1) := by decide +kernel
theorem dX11_hand_52 : decode cX11_hand 52 = .ok (.iaload, 1) := by decide +kernel
theorem dX11_hand_53 : decode cX11_hand 53 = .ok (.if_icmp .ge 44, 3) := by decide +kernel
theorem dX11_hand_56 : decode cX11_hand 56 = .ok (.aload_n 0, 1) := by decide +kernel
theorem dX11_hand_57 : decode cX11_hand 57 = .ok (.iload_n 1, 1) := by decide +kernel
theorem dX11_hand_58 : decode cX11_hand 58 = .ok (.invokevirtual 194, 3) := by decide +kernel
theorem dX11_hand_61 : decode cX11_hand 61 = .ok (.aload_n 0, 1) := by decide +kernel
theorem dX11_hand_62 : decode cX11_hand 62 = .ok (.getfield 9, 3) := by decide +kernel
theorem dX11_hand_65 : decode cX11_hand 65 = .ok (.bipush 46, 2) := by decide +kernel
theorem dX11_hand_67 : decode cX11_hand 67 = .ok (.iload_n 3, 1) := by decide +kernel
theorem dX11_hand_68 : decode cX11_hand 68 = .ok (.iadd, 1) := by decide +kernel
theorem dX11_hand_69 : decode cX11_hand 69 = .ok (.iaload, 1) := by decide +kernel
theorem dX11_hand_70 : decode cX11_hand 70 = .ok (.ishr, 1) := by decide +kernel
theorem dX11_hand_71 : decode cX11_hand 71 = .ok (.iconst 1, 1) := by decide +kernel
theorem dX11_hand_72 : decode cX11_hand 72 = .ok (.iand, 1) := by decide +kernel
theorem dX11_hand_73 : decode cX11_hand 73 = .ok (.iconst 1, 1) := by decide +kernel
theorem dX11_hand_74 : decode cX11_hand 74 = .ok (.if_icmp .ne 23, 3) := by decide +kernel
theorem dX11_hand_77 : decode cX11_hand 77 = .ok (.aload_n 0, 1) := by decide +kernel
theorem dX11_hand_78 : decode cX11_hand 78 = .ok (.iload_n 1, 1) := by decide +kernel
theorem dX11_hand_79 : decode cX11_hand 79 = .ok (.aload_n 0, 1) := by decide +kernel
theorem dX11_hand_80 : decode cX11_hand 80 = .ok (.getfield 9, 3) := by decide +kernel
theorem dX11_hand_83 : decode cX11_hand 83 = .ok (.bipush 46, 2) := by decide +kernel
theorem dX11_hand_85 : decode cX11_hand 85 = .ok (.iload_n 3, 1) := by decide +kernel
theorem dX11_hand_86 : decode cX11_hand 86 = .ok (.iadd, 1) := by decide +kernel
theorem dX11_hand_87 : decode cX11_hand 87 = .ok (.iaload, 1) := by decide +kernel
theorem dX11_hand_88 : decode cX11_hand 88 = .ok (.invokevirtual 197, 3) := by decide +kernel
theorem dX11_hand_91 : decode cX11_hand 91 = .ok (.iinc 3 1, 3) := by decide +kernel
theorem dX11_hand_94 : decode cX11_hand 94 = .ok (.goto (-48), 3) := by decide +kernel
theorem dX11_hand_97 : decode cX11_hand 97 = .ok (.iload_n 2, 1) := by decide +kernel
theorem dX11_hand_98 : decode cX11_hand 98 = .ok (.ifCond .ne 7, 3) := by decide +kernel
theorem dX11_hand_101 : decode cX11_hand 101 = .ok (.iload_n 3, 1) := by decide +kernel
theorem dX11_hand_102 : decode cX11_hand 102 = .ok (.goto 23, 3) := by decide +kernel
theorem dX11_hand_105 : decode cX11_hand 105 = .ok (.iload_n 2, 1) := by decide +kernel
theorem dX11_hand_106 : decode cX11_hand 106 = .ok (.iconst 1, 1) := by decide +kernel
theorem dX11_hand_107 : decode cX11_hand 107 = .ok (.if_icmp .ne 12, 3) := by decide +kernel
theorem dX11_hand_110 : decode cX11_hand 110 = .ok (.aload_n 0, 1) := by decide +kernel
theorem dX11_hand_111 : decode cX11_hand 111 = .ok (.iload_n 1, 1) := by decide +kernel
theorem dX11_hand_112 : decode cX11_hand 112 = .ok (.iconst 2, 1) := by decide +kernel
theorem dX11_hand_113 : decode cX11_hand 113 = .ok (.invokevirtual 162, 3) := by decide +kernel
theorem dX11_hand_116 : decode cX11_hand 116 = .ok (.goto 9, 3) := by decide +kernel
theorem dX11_hand_119 : decode cX11_hand 119 = .ok (.aload_n 0, 1) := by decide +kernel
theorem dX11_hand_120 : decode cX11_hand 120 = .ok (.iload_n 1, 1) := by decide +kernel
theorem dX11_hand_121 : decode cX11_hand 121 = .ok (.iconst 3, 1) := by decide +kernel
theorem dX11_hand_122 : decode cX11_hand 122 = .ok (.invokevirtual 162, 3) := by decide +kernel
theorem dX11_hand_125 : decode cX11_hand 125 = .ok (.istore 4, 2) := by decide +kernel
theorem dX11_hand_127 : decode cX11_hand 127 = .ok (.iconst 0, 1) := by decide +kernel
theorem dX11_hand_128 : decode cX11_hand 128 = .ok (.istore 5, 2) := by decide +kernel
theorem dX11_hand_130 : decode cX11_hand 130 = .ok (.iload 5, 2) := by decide +kernel
theorem dX11_hand_132 : decode cX11_hand 132 = .ok (.bipush 7, 2) := by decide +kernel
theorem dX11_hand_134 : decode cX11_hand 134 = .ok (.if_icmp .ge 23, 3) := by decide +kernel
theorem dX11_hand_137 : decode cX11_hand 137 = .ok (.aload_n 0, 1) := by decide +kernel
theorem dX11_hand_138 : decode cX11_hand 138 = .ok (.iload_n 1, 1) := by decide +kernel
theorem dX11_hand_139 : decode cX11_hand 139 = .ok (.iload 5, 2) := by decide +kernel
theorem dX11_hand_141 : decode cX11_hand 141 = .ok (.aload_n 0, 1) := by decide +kernel
theorem dX11_hand_142 : decode cX11_hand 142 = .ok (.getfield 47, 3) := by decide +kernel
theorem dX11_hand_145 : decode cX11_hand 145 = .ok (.iload 5, 2) := by decide +kernel
theorem dX11_hand_147 : decode cX11_hand 147 = .ok (.iaload, 1) := by decide +kernel
theorem dX11_hand_148 : decode cX11_hand 148 = .ok (.invokevirtual 158, 3) := by decide +kernel
theorem dX11_hand_151 : decode cX11_hand 151 = .ok (.iinc 5 1, 3) := by decide +kernel
theorem dX11_hand_154 : decode cX11_hand 154 = .ok (.goto (-24), 3) := by decide +kernel
theorem dX11_hand_157 : decode cX11_hand 157 = .ok (.iload 4, 2) := by decide +kernel
theorem dX11_hand_159 : decode cX11_hand 159 = .ok (.ireturn, 1) := by decide +kernel
theorem dX11_track_0 : decode cX11_track 0 = .ok (.iload_n 1, 1) := by decide +kernel
theorem dX11_track_1 : decode cX11_track 1 = .ok (.iconst (-1), 1) := by decide +kernel
theorem dX11_track_2 : decode cX11_track 2 = .ok (.if_icmp .ne 12, 3) := by decide +kernel
theorem dX11_track_5 : decode cX11_track 5 = .ok (.aload_n 0, 1) := by decide +kernel
theorem dX11_track_6 : decode cX11_track 6 = .ok (.getfield 9, 3) := by decide +kernel
theorem dX11_track_9 : decode cX11_track 9 = .ok (.iconst 3, 1) := by decide +kernel
theorem dX11_track_10 : decode cX11_track 10 = .ok (.iconst 0, 1) := by decide +kernel
theorem dX11_track_11 : decode cX11_track 11 = .ok (.iastore, 1) := by decide +kernel
theorem dX11_track_12 : decode cX11_track 12 = .ok (.iconst 0, 1) := by decide +kernel
theorem dX11_track_13 : decode cX11_track 13 = .ok (.ireturn, 1) := by decide +kernel
theorem dX11_track_14 : decode cX11_track 14 = .ok (.iload_n 1, 1) := by decide +kernel
theorem dX11_track_15 : decode cX11_track 15 = .ok (.invokestatic 151, 3) := by decide +kernel
theorem dX11_track_18 : decode cX11_track 18 = .ok (.ifCond .ne 5, 3) := by decide +kernel
theorem dX11_track_21 : decode cX11_track 21 = .ok (.iconst (-1), 1) := by decide +kernel
theorem dX11_track_22 : decode cX11_track 22 = .ok (.ireturn, 1) := by decide +kernel
theorem dX11_track_23 : decode cX11_track 23 = .ok (.aload_n 0, 1) := by decide +kernel
theorem dX11_track_24 : decode cX11_track 24 = .ok (.getfield 9, 3) := by decide +kernel
theorem dX11_track_27 : decode cX11_track 27 = .ok (.iconst 3, 1) := by decide +kernel
theorem dX11_track_28 : decode cX11_track 28 = .ok (.iaload, 1) := by decide +kernel
theorem dX11_track_29 : decode cX11_track 29 = .ok (.bipush 12, 2) := by decide +kernel
theorem dX11_track_31 : decode cX11_track 31 = .ok (.if_icmp .ne 6, 3) := by decide +kernel
theorem dX11_track_34 : decode cX11_track 34 = .ok (.bipush (-4), 2) := by decide +kernel
theorem dX11_track_36 : decode cX11_track 36 = .ok (.ireturn, 1) := by decide +kernel
theorem dX11_track_37 : decode cX11_track 37 = .ok (.aload_n 0, 1) := by decide +kernel
theorem dX11_track_38 : decode cX11_track 38 = .ok (.getfield 9, 3) := by decide +kernel
theorem dX11_track_41 : decode cX11_track 41 = .ok (.bipush 58, 2) := by decide +kernel
theorem dX11_track_43 : decode cX11_track 43 = .ok (.aload_n 0, 1) := by decide +kernel
theorem dX11_track_44 : decode cX11_track 44 = .ok (.getfield 9, 3) := by decide +kernel
theorem dX11_track_47 : decode cX11_track 47 = .ok (.iconst 3, 1) := by decide +kernel
theorem dX11_track_48 : decode cX11_track 48 = .ok (.iaload, 1) := by decide +kernel
theorem dX11_track_49 : decode cX11_track 49 = .ok (.iadd, 1) := by decide +kernel
theorem dX11_track_50 : decode cX11_track 50 = .ok (.iload_n 1, 1) := by decide +kernel
theorem dX11_track_51 : decode cX11_track 51 = .ok (.iastore, 1) := by decide +kernel
theorem dX11_track_52 : decode cX11_track 52 = .ok (.aload_n 0, 1) := by decide +kernel
theorem dX11_track_53 : decode cX11_track 53 = .ok (.getfield 9, 3) := by decide +kernel
theorem dX11_track_56 : decode cX11_track 56 = .ok (.iconst 3, 1) := by decide +kernel
theorem dX11_track_57 : decode cX11_track 57 = .ok (.dup2, 1) := by decide +kernel
theorem dX11_track_58 : decode cX11_track 58 = .ok (.iaload, 1) := by decide +kernel
theorem dX11_track_59 : decode cX11_track 59 = .ok (.iconst 1, 1) := by decide +kernel
theorem dX11_track_60 : decode cX11_track 60 = .ok (.iadd, 1) := by decide +kernel
theorem dX11_track_61 : decode cX11_track 61 = .ok (.iastore, 1) := by decide +kernel
theorem dX11_track_62 : decode cX11_track 62 = .ok (.aload_n 0, 1) := by decide +kernel
theorem dX11_track_63 : decode cX11_track 63 = .ok (.getfield 9, 3) := by decide +kernel
theorem dX11_track_66 : decode cX11_track 66 = .ok (.iconst 3, 1) := by decide +kernel
theorem dX11_track_67 : decode cX11_track 67 = .ok (.iaload, 1) := by decide +kernel
theorem dX11_track_68 : decode cX11_track 68 = .ok (.ireturn, 1) := by decide +kernel
theorem dX11_mightHave_0 : decode cX11_mightHave 0 = .ok (.aload_n 0, 1) := by decide +kernel
theorem dX11_mightHave_1 : decode cX11_mightHave 1 = .ok (.getfield 9, 3) := by decide +kernel
theorem dX11_mightHave_4 : decode cX11_mightHave 4 = .ok (.bipush 58, 2) := by decide +kernel
theorem dX11_mightHave_6 : decode cX11_mightHave 6 = .ok (.iaload, 1) := by decide +kernel
theorem dX11_mightHave_7 : decode cX11_mightHave 7 = .ok (.istore 5, 2) := by decide +kernel
theorem dX11_mightHave_9 : decode cX11_mightHave 9 = .ok (.aload_n 0, 1) := by decide +kernel
theorem dX11_mightHave_10 : decode cX11_mightHave 10 = .ok (.iload_n 1, 1) := by decide +kernel
theorem dX11_mightHave_11 : decode cX11_mightHave 11 = .ok (.iload_n 2, 1) := by decide +kernel
theorem dX11_mightHave_12 : decode cX11_mightHave 12 = .ok (.iload 5, 2) := by decide +kernel
theorem dX11_mightHave_14 : decode cX11_mightHave 14 = .ok (.iload_n 3, 1) := by decide +kernel
theorem dX11_mightHave_15 : decode cX11_mightHave 15 = .ok (.iload 5, 2) := by decide +kernel
theorem dX11_mightHave_17 : decode cX11_mightHave 17 = .ok (.iload 4, 2) := by decide +kernel
theorem dX11_mightHave_19 : decode cX11_mightHave 19 = .ok (.iconst 0, 1) := by decide +kernel
theorem dX11_mightHave_20 : decode cX11_mightHave 20 = .ok (.invokevirtual 219, 3) := by decide +kernel
theorem dX11_mightHave_23 : decode cX11_mightHave 23 = .ok (.iconst 1, 1) := by decide +kernel
theorem dX11_mightHave_24 : decode cX11_mightHave 24 = .ok (.istore 6, 2) := by decide +kernel
theorem dX11_mightHave_26 : decode cX11_mightHave 26 = .ok (.iload 6, 2) := by decide +kernel
theorem dX11_mightHave_28 : decode cX11_mightHave 28 = .ok (.aload_n 0, 1) := by decide +kernel
theorem dX11_mightHave_29 : decode cX11_mightHave 29 = .ok (.getfield 9, 3) := by decide +kernel
theorem dX11_mightHave_32 : decode cX11_mightHave 32 = .ok (.iconst 3, 1) := by decide +kernel
theorem dX11_mightHave_33 : decode cX11_mightHave 33 = .ok (.iaload, 1) := by decide +kernel
theorem dX11_mightHave_34 : decode cX11_mightHave 34 = .ok (.if_icmp .ge 90, 3) := by decide +kernel
theorem dX11_mightHave_37 : decode cX11_mightHave 37 = .ok (.aload_n 0, 1) := by decide +kernel
theorem dX11_mightHave_38 : decode cX11_mightHave 38 = .ok (.invokevirtual 229, 3) := by decide +kernel
theorem dX11_mightHave_41 : decode cX11_mightHave 41 = .ok (.iconst 0, 1) := by decide +kernel
theorem dX11_mightHave_42 : decode cX11_mightHave 42 = .ok (.istore 7, 2) := by decide +kernel
theorem dX11_mightHave_44 : decode cX11_mightHave 44 = .ok (.iconst 0, 1) := by decide +kernel
theorem dX11_mightHave_45 : decode cX11_mightHave 45 = .ok (.istore 8, 2) := by decide +kernel
theorem dX11_mightHave_47 : decode cX11_mightHave 47 = .ok (.iload 8, 2) := by decide +kernel
theorem dX11_mightHave_49 : decode cX11_mightHave 49 = .ok (.sipush 5184, 3) := by decide +kernel
theorem dX11_mightHave_52 : decode cX11_mightHave 52 = .ok (.if_icmp .ge 59, 3) := by decide +kernel
theorem dX11_mightHave_55 : decode cX11_mightHave 55 = .ok (.iload 8, 2) := by decide +kernel
theorem dX11_mightHave_57 : decode cX11_mightHave 57 = .ok (.bipush 36, 2) := by decide +kernel
theorem dX11_mightHave_59 : decode cX11_mightHave 59 = .ok (.idiv, 1) := by decide +kernel
theorem dX11_mightHave_60 : decode cX11_mightHave 60 = .ok (.iconst 4, 1) := by decide +kernel
theorem dX11_mightHave_61 : decode cX11_mightHave 61 = .ok (.idiv, 1) := by decide +kernel
theorem dX11_mightHave_62 : decode cX11_mightHave 62 = .ok (.aload_n 0, 1) := by decide +kernel
theorem dX11_mightHave_63 : decode cX11_mightHave 63 = .ok (.getfield 9, 3) := by decide +kernel
theorem dX11_mightHave_66 : decode cX11_mightHave 66 = .ok (.bipush 58, 2) := by decide +kernel
theorem dX11_mightHave_68 : decode cX11_mightHave 68 = .ok (.iload 6, 2) := by decide +kernel
theorem dX11_mightHave_70 : decode cX11_mightHave 70 = .ok (.iadd, 1) := by decide +kernel
theorem dX11_mightHave_71 : decode cX11_mightHave 71 = .ok (.iaload, 1) := by decide +kernel
theorem dX11_mightHave_72 : decode cX11_mightHave 72 = .ok (.if_icmp .eq 11, 3) := by decide +kernel
theorem dX11_mightHave_75 : decode cX11_mightHave 75 = .ok (.aload_n 0, 1) := by decide +kernel
theorem dX11_mightHave_76 : decode cX11_mightHave 76 = .ok (.getfield 31, 3) := by decide +kernel
theorem dX11_mightHave_79 : decode cX11_mightHave 79 = .ok (.iload 8, 2) := by decide +kernel
theorem dX11_mightHave_81 : decode cX11_mightHave 81 = .ok (.iconst 0, 1) := by decide +kernel
theorem dX11_mightHave_82 : decode cX11_mightHave 82 = .ok (.iastore, 1) := by decide +kernel
theorem dX11_mightHave_83 : decode cX11_mightHave 83 = .ok (.iload 7, 2) := by decide +kernel
theorem dX11_mightHave_85 : decode cX11_mightHave 85 = .ok (.ifCond .ne 13, 3) := by decide +kernel
theorem dX11_mightHave_88 : decode cX11_mightHave 88 = .ok (.aload_n 0, 1) := by decide +kernel
theorem dX11_mightHave_89 : decode cX11_mightHave 89 = .ok (.getfield 31, 3) := by decide +kernel
theorem dX11_mightHave_92 : decode cX11_mightHave 92 = .ok (.iload 8, 2) := by decide +kernel
theorem dX11_mightHave_94 : decode cX11_mightHave 94 = .ok (.iaload, 1) := by decide +kernel
theorem dX11_mightHave_95 : decode cX11_mightHave 95 = .ok (.ifCond .eq 7, 3) := by decide +kernel
theorem dX11_mightHave_98 : decode cX11_mightHave 98 = .ok (.iconst 1, 1) := by decide +kernel
theorem dX11_mightHave_99 : decode cX11_mightHave 99 = .ok (.goto 4, 3) := by decide +kernel
theorem dX11_mightHave_102 : decode cX11_mightHave 102 = .ok (.iconst 0, 1) := by decide +kernel
theorem dX11_mightHave_103 : decode cX11_mightHave 103 = .ok (.istore 7, 2) := by decide +kernel
theorem dX11_mightHave_105 : decode cX11_mightHave 105 = .ok (.iinc 8 1, 3) := by decide +kernel
theorem dX11_mightHave_108 : decode cX11_mightHave 108 = .ok (.goto (-61), 3) := by decide +kernel
theorem dX11_mightHave_111 : decode cX11_mightHave 111 = .ok (.iload 7, 2) := by decide +kernel
theorem dX11_mightHave_113 : decode cX11_mightHave 113 = .ok (.ifCond .ne 5, 3) := by decide +kernel
theorem dX11_mightHave_116 : decode cX11_mightHave 116 = .ok (.iconst 0, 1) := by decide +kernel
theorem dX11_mightHave_117 : decode cX11_mightHave 117 = .ok (.ireturn, 1) := by decide +kernel
theorem dX11_mightHave_118 : decode cX11_mightHave 118 = .ok (.iinc 6 1, 3) := by decide +kernel
theorem dX11_mightHave_121 : decode cX11_mightHave 121 = .ok (.goto (-95), 3) := by decide +kernel
theorem dX11_mightHave_124 : decode cX11_mightHave 124 = .ok (.iconst 1, 1) := by decide +kernel
theorem dX11_mightHave_125 : decode cX11_mightHave 125 = .ok (.ireturn, 1) := by decide +kernel
theorem dX11_tracks_0 : decode cX11_tracks 0 = .ok (.iload_n 1, 1) := by decide +kernel
theorem dX11_tracks_1 : decode cX11_tracks 1 = .ok (.bipush 7, 2) := by decide +kernel
theorem dX11_tracks_3 : decode cX11_tracks 3 = .ok (.invokestatic 66, 3) := by decide +kernel
theorem dX11_tracks_6 : decode cX11_tracks 6 = .ok (.ifCond .ne 5, 3) := by decide +kernel
theorem dX11_tracks_9 : decode cX11_tracks 9 = .ok (.iconst (-1), 1) := by decide +kernel
theorem dX11_tracks_10 : decode cX11_tracks 10 = .ok (.ireturn, 1) := by decide +kernel
theorem dX11_tracks_11 : decode cX11_tracks 11 = .ok (.iload_n 2, 1) := by decide +kernel
theorem dX11_tracks_12 : decode cX11_tracks 12 = .ok (.bipush 10, 2) := by decide +kernel
theorem dX11_tracks_14 : decode cX11_tracks 14 = .ok (.invokestatic 66, 3) := by decide +kernel
theorem dX11_tracks_17 : decode cX11_tracks 17 = .ok (.ifCond .ne 6, 3) := by decide +kernel
theorem dX11_tracks_20 : decode cX11_tracks 20 = .ok (.bipush (-2), 2) := by decide +kernel
theorem dX11_tracks_22 : decode cX11_tracks 22 = .ok (.ireturn, 1) := by decide +kernel
theorem dX11_tracks_23 : decode cX11_tracks 23 = .ok (.iconst 0, 1) := by decide +kernel
theorem dX11_tracks_24 : decode cX11_tracks 24 = .ok (.istore_n 3, 1) := by decide +kernel
theorem dX11_tracks_25 : decode cX11_tracks 25 = .ok (.iconst 0, 1) := by decide +kernel
theorem dX11_tracks_26 : decode cX11_tracks 26 = .ok (.istore 4, 2) := by decide +kernel
theorem dX11_tracks_28 : decode cX11_tracks 28 = .ok (.iload 4, 2) := by decide +kernel
theorem dX11_tracks_30 : decode cX11_tracks 30 = .ok (.aload_n 0, 1) := by decide +kernel
theorem dX11_tracks_31 : decode cX11_tracks 31 = .ok (.invokevirtual 148, 3) := by decide +kernel
theorem dX11_tracks_34 : decode cX11_tracks 34 = .ok (.if_icmp .ge 73, 3) := by decide +kernel
theorem dX11_tracks_37 : decode cX11_tracks 37 = .ok (.aload_n 0, 1) := by decide +kernel
theorem dX11_tracks_38 : decode cX11_tracks 38 = .ok (.getfield 9, 3) := by decide +kernel
theorem dX11_tracks_41 : decode cX11_tracks 41 = .ok (.iconst 3, 1) := by decide +kernel
theorem dX11_tracks_42 : decode cX11_tracks 42 = .ok (.iaload, 1) := by decide +kernel
theorem dX11_tracks_43 : decode cX11_tracks 43 = .ok (.ifCond .ne 7, 3) := by decide +kernel
theorem dX11_tracks_46 : decode cX11_tracks 46 = .ok (.iconst 1, 1) := by decide +kernel
theorem dX11_tracks_47 : decode cX11_tracks 47 = .ok (.goto 4, 3) := by decide +kernel
theorem dX11_tracks_50 : decode cX11_tracks 50 = .ok (.iconst 0, 1) := by decide +kernel
theorem dX11_tracks_51 : decode cX11_tracks 51 = .ok (.istore 5, 2) := by decide +kernel
theorem dX11_tracks_53 : decode cX11_tracks 53 = .ok (.iconst 0, 1) := by decide +kernel
theorem dX11_tracks_54 : decode cX11_tracks 54 = .ok (.istore 6, 2) := by decide +kernel
theorem dX11_tracks_56 : decode cX11_tracks 56 = .ok (.iload 6, 2) := by decide +kernel
theorem dX11_tracks_58 : decode cX11_tracks 58 = .ok (.iconst 4, 1) := by decide +kernel
theorem dX11_tracks_59 : decode cX11_tracks 59 = .ok (.if_icmp .ge 26, 3) := by decide +kernel
theorem dX11_tracks_62 : decode cX11_tracks 62 = .ok (.iload 5, 2) := by decide +kernel
theorem dX11_tracks_64 : decode cX11_tracks 64 = .ok (.ifCond .ne 21, 3) := by decide +kernel
theorem dX11_tracks_67 : decode cX11_tracks 67 = .ok (.aload_n 0, 1) := by decide +kernel
theorem dX11_tracks_68 : decode cX11_tracks 68 = .ok (.iload_n 1, 1) := by decide +kernel
theorem dX11_tracks_69 : decode cX11_tracks 69 = .ok (.iload_n 2, 1) := by decide +kernel
theorem dX11_tracks_70 : decode cX11_tracks 70 = .ok (.iload 6, 2) := by decide +kernel
theorem dX11_tracks_72 : decode cX11_tracks 72 = .ok (.iload 4, 2) := by decide +kernel
theorem dX11_tracks_74 : decode cX11_tracks 74 = .ok (.invokevirtual 253, 3) := by decide +kernel
theorem dX11_tracks_77 : decode cX11_tracks 77 = .ok (.istore 5, 2) := by decide +kernel
theorem dX11_tracks_79 : decode cX11_tracks 79 = .ok (.iinc 6 1, 3) := by decide +kernel
theorem dX11_tracks_82 : decode cX11_tracks 82 = .ok (.goto (-26), 3) := by decide +kernel
theorem dX11_tracks_85 : decode cX11_tracks 85 = .ok (.iload_n 3, 1) := by decide +kernel
theorem dX11_tracks_86 : decode cX11_tracks 86 = .ok (.iload 5, 2) := by decide +kernel
theorem dX11_tracks_88 : decode cX11_tracks 88 = .ok (.ifCond .eq 10, 3) := by decide +kernel
theorem dX11_tracks_91 : decode cX11_tracks 91 = .ok (.iconst 1, 1) := by decide +kernel
theorem dX11_tracks_92 : decode cX11_tracks 92 = .ok (.iload 4, 2) := by decide +kernel
theorem dX11_tracks_94 : decode cX11_tracks 94 = .ok (.ishl, 1) := by decide +kernel
theorem dX11_tracks_95 : decode cX11_tracks 95 = .ok (.goto 4, 3) := by decide +kernel
theorem dX11_tracks_98 : decode cX11_tracks 98 = .ok (.iconst 0, 1) := by decide +kernel
theorem dX11_tracks_99 : decode cX11_tracks 99 = .ok (.ior, 1) := by decide +kernel
theorem dX11_tracks_100 : decode cX11_tracks 100 = .ok (.istore_n 3, 1) := by decide +kernel
theorem dX11_tracks_101 : decode cX11_tracks 101 = .ok (.iinc 4 1, 3) := by decide +kernel
theorem dX11_tracks_104 : decode cX11_tracks 104 = .ok (.goto (-76), 3) := by decide +kernel
theorem dX11_tracks_107 : decode cX11_tracks 107 = .ok (.iload_n 3, 1) := by decide +kernel
theorem dX11_tracks_108 : decode cX11_tracks 108 = .ok (.ireturn, 1) := by decide +kernel
theorem dX11_common_0 : decode cX11_common 0 = .ok (.lload_n 2, 1) := by decide +kernel
theorem dX11_common_1 : decode cX11_common 1 = .ok (.lconst 0, 1) := by decide +kernel
theorem dX11_common_2 : decode cX11_common 2 = .ok (.lcmp, 1) := by decide +kernel
theorem dX11_common_3 : decode cX11_common 3 = .ok (.ifCond .ne 7, 3) := by decide +kernel
theorem dX11_common_6 : decode cX11_common 6 = .ok (.lload_n 0, 1) := by decide +kernel
theorem dX11_common_7 : decode cX11_common 7 = .ok (.goto 10, 3) := by decide +kernel
theorem dX11_common_10 : decode cX11_common 10 = .ok (.lload_n 2, 1) := by decide +kernel
theorem dX11_common_11 : decode cX11_common 11 = .ok (.lload_n 0, 1) := by decide +kernel
theorem dX11_common_12 : decode cX11_common 12 = .ok (.lload_n 2, 1) := by decide +kernel
theorem dX11_common_13 : decode cX11_common 13 = .ok (.lrem, 1) := by decide +kernel
theorem dX11_common_14 : decode cX11_common 14 = .ok (.invokestatic 256, 3) := by decide +kernel
theorem dX11_common_17 : decode cX11_common 17 = .ok (.lreturn, 1) := by decide +kernel
theorem dX11_lot_0 : decode cX11_lot 0 = .ok (.aload_n 0, 1) := by decide +kernel
theorem dX11_lot_1 : decode cX11_lot 1 = .ok (.iload_n 1, 1) := by decide +kernel
theorem dX11_lot_2 : decode cX11_lot 2 = .ok (.invokevirtual 165, 3) := by decide +kernel
theorem dX11_lot_5 : decode cX11_lot 5 = .ok (.ifCond .eq 28, 3) := by decide +kernel
theorem dX11_lot_8 : decode cX11_lot 8 = .ok (.iload_n 2, 1) := by decide +kernel
theorem dX11_lot_9 : decode cX11_lot 9 = .ok (.invokestatic 151, 3) := by decide +kernel
theorem dX11_lot_12 : decode cX11_lot 12 = .ok (.ifCond .eq 21, 3) := by decide +kernel
theorem dX11_lot_15 : decode cX11_lot 15 = .ok (.iload_n 3, 1) := by decide +kernel
theorem dX11_lot_16 : decode cX11_lot 16 = .ok (.bipush 7, 2) := by decide +kernel
theorem dX11_lot_18 : decode cX11_lot 18 = .ok (.invokestatic 66, 3) := by decide +kernel
theorem dX11_lot_21 : decode cX11_lot 21 = .ok (.ifCond .eq 12, 3) := by decide +kernel
theorem dX11_lot_24 : decode cX11_lot 24 = .ok (.iload 4, 2) := by decide +kernel
theorem dX11_lot_26 : decode cX11_lot 26 = .ok (.iconst 2, 1) := by decide +kernel
theorem dX11_lot_27 : decode cX11_lot 27 = .ok (.invokestatic 66, 3) := by decide +kernel
theorem dX11_lot_30 : decode cX11_lot 30 = .ok (.ifCond .ne 7, 3) := by decide +kernel
theorem dX11_lot_33 : decode cX11_lot 33 = .ok (.ldc2_w 251, 3) := by decide +kernel
theorem dX11_lot_36 : decode cX11_lot 36 = .ok (.lreturn, 1) := by decide +kernel
theorem dX11_lot_37 : decode cX11_lot 37 = .ok (.aload_n 0, 1) := by decide +kernel
theorem dX11_lot_38 : decode cX11_lot 38 = .ok (.iload_n 1, 1) := by decide +kernel
theorem dX11_lot_39 : decode cX11_lot 39 = .ok (.aload_n 0, 1) := by decide +kernel
theorem dX11_lot_40 : decode cX11_lot 40 = .ok (.iload_n 1, 1) := by decide +kernel
theorem dX11_lot_41 : decode cX11_lot 41 = .ok (.invokevirtual 168, 3) := by decide +kernel
theorem dX11_lot_44 : decode cX11_lot 44 = .ok (.invokevirtual 238, 3) := by decide +kernel
theorem dX11_lot_47 : decode cX11_lot 47 = .ok (.lconst 1, 1) := by decide +kernel
theorem dX11_lot_48 : decode cX11_lot 48 = .ok (.lstore 5, 2) := by decide +kernel
theorem dX11_lot_50 : decode cX11_lot 50 = .ok (.iconst 0, 1) := by decide +kernel
theorem dX11_lot_51 : decode cX11_lot 51 = .ok (.istore 7, 2) := by decide +kernel
theorem dX11_lot_53 : decode cX11_lot 53 = .ok (.iload 7, 2) := by decide +kernel
theorem dX11_lot_55 : decode cX11_lot 55 = .ok (.iload_n 3, 1) := by decide +kernel
theorem dX11_lot_56 : decode cX11_lot 56 = .ok (.if_icmp .ge 21, 3) := by decide +kernel
theorem dX11_lot_59 : decode cX11_lot 59 = .ok (.aload_n 0, 1) := by decide +kernel
theorem dX11_lot_60 : decode cX11_lot 60 = .ok (.invokevirtual 229, 3) := by decide +kernel
theorem dX11_lot_63 : decode cX11_lot 63 = .ok (.lload 5, 2) := by decide +kernel
theorem dX11_lot_65 : decode cX11_lot 65 = .ok (.ldc2_w 260, 3) := by decide +kernel
theorem dX11_lot_68 : decode cX11_lot 68 = .ok (.lmul, 1) := by decide +kernel
theorem dX11_lot_69 : decode cX11_lot 69 = .ok (.lstore 5, 2) := by decide +kernel
theorem dX11_lot_71 : decode cX11_lot 71 = .ok (.iinc 7 1, 3) := by decide +kernel
theorem dX11_lot_74 : decode cX11_lot 74 = .ok (.goto (-21), 3) := by decide +kernel
theorem dX11_lot_77 : decode cX11_lot 77 = .ok (.lconst 0, 1) := by decide +kernel
theorem dX11_lot_78 : decode cX11_lot 78 = .ok (.lstore 7, 2) := by decide +kernel
theorem dX11_lot_80 : decode cX11_lot 80 = .ok (.iconst 0, 1) := by decide +kernel
theorem dX11_lot_81 : decode cX11_lot 81 = .ok (.istore 9, 2) := by decide +kernel
theorem dX11_lot_83 : decode cX11_lot 83 = .ok (.iload 9, 2) := by decide +kernel
theorem dX11_lot_85 : decode cX11_lot 85 = .ok (.sipush 144, 3) := by decide +kernel
theorem dX11_lot_88 : decode cX11_lot 88 = .ok (.if_icmp .ge 27, 3) := by decide +kernel
theorem dX11_lot_91 : decode cX11_lot 91 = .ok (.lload 7, 2) := by decide +kernel
theorem dX11_lot_93 : decode cX11_lot 93 = .ok (.aload_n 0, 1) := by decide +kernel
theorem dX11_lot_94 : decode cX11_lot 94 = .ok (.getfield 37, 3) := by decide +kernel
theorem dX11_lot_97 : decode cX11_lot 97 = .ok (.sipush 144, 3) := by decide +kernel
theorem dX11_lot_100 : decode cX11_lot 100 = .ok (.iload_n 2, 1) := by decide +kernel
theorem dX11_lot_101 : decode cX11_lot 101 = .ok (.imul, 1) := by decide +kernel
theorem dX11_lot_102 : decode cX11_lot 102 = .ok (.iload 9, 2) := by decide +kernel
theorem dX11_lot_104 : decode cX11_lot 104 = .ok (.iadd, 1) := by decide +kernel
theorem dX11_lot_105 : decode cX11_lot 105 = .ok (.laload, 1) := by decide +kernel
theorem dX11_lot_106 : decode cX11_lot 106 = .ok (.ladd, 1) := by decide +kernel
theorem dX11_lot_107 : decode cX11_lot 107 = .ok (.lstore 7, 2) := by decide +kernel
theorem dX11_lot_109 : decode cX11_lot 109 = .ok (.iinc 9 1, 3) := by decide +kernel
theorem dX11_lot_112 : decode cX11_lot 112 = .ok (.goto (-29), 3) := by decide +kernel
theorem dX11_lot_115 : decode cX11_lot 115 = .ok (.lload 5, 2) := by decide +kernel
theorem dX11_lot_117 : decode cX11_lot 117 = .ok (.lload 7, 2) := by decide +kernel
theorem dX11_lot_119 : decode cX11_lot 119 = .ok (.invokestatic 256, 3) := by decide +kernel
theorem dX11_lot_122 : decode cX11_lot 122 = .ok (.lstore 9, 2) := by decide +kernel
theorem dX11_lot_124 : decode cX11_lot 124 = .ok (.iload 4, 2) := by decide +kernel
theorem dX11_lot_126 : decode cX11_lot 126 = .ok (.ifCond .ne 11, 3) := by decide +kernel
theorem dX11_lot_129 : decode cX11_lot 129 = .ok (.lload 7, 2) := by decide +kernel
theorem dX11_lot_131 : decode cX11_lot 131 = .ok (.lload 9, 2) := by decide +kernel
theorem dX11_lot_133 : decode cX11_lot 133 = .ok (.ldiv, 1) := by decide +kernel
theorem dX11_lot_134 : decode cX11_lot 134 = .ok (.goto 8, 3) := by decide +kernel
theorem dX11_lot_137 : decode cX11_lot 137 = .ok (.lload 5, 2) := by decide +kernel
theorem dX11_lot_139 : decode cX11_lot 139 = .ok (.lload 9, 2) := by decide +kernel
theorem dX11_lot_141 : decode cX11_lot 141 = .ok (.ldiv, 1) := by decide +kernel
theorem dX11_lot_142 : decode cX11_lot 142 = .ok (.lreturn, 1) := by decide +kernel
theorem dX11_soonestBy_0 : decode cX11_soonestBy 0 = .ok (.aload_n 0, 1) := by decide +kernel
theorem dX11_soonestBy_1 : decode cX11_soonestBy 1 = .ok (.iload_n 3, 1) := by decide +kernel
theorem dX11_soonestBy_2 : decode cX11_soonestBy 2 = .ok (.iconst 0, 1) := by decide +kernel
theorem dX11_soonestBy_3 : decode cX11_soonestBy 3 = .ok (.aload_n 0, 1) := by decide +kernel
theorem dX11_soonestBy_4 : decode cX11_soonestBy 4 = .ok (.iload_n 1, 1) := by decide +kernel
theorem dX11_soonestBy_5 : decode cX11_soonestBy 5 = .ok (.iconst 2, 1) := by decide +kernel
theorem dX11_soonestBy_6 : decode cX11_soonestBy 6 = .ok (.invokevirtual 162, 3) := by decide +kernel
theorem dX11_soonestBy_9 : decode cX11_soonestBy 9 = .ok (.aload_n 0, 1) := by decide +kernel
theorem dX11_soonestBy_10 : decode cX11_soonestBy 10 = .ok (.iload_n 1, 1) := by decide +kernel
theorem dX11_soonestBy_11 : decode cX11_soonestBy 11 = .ok (.iconst 3, 1) := by decide +kernel
theorem dX11_soonestBy_12 : decode cX11_soonestBy 12 = .ok (.invokevirtual 162, 3) := by decide +kernel
theorem dX11_soonestBy_15 : decode cX11_soonestBy 15 = .ok (.aload_n 0, 1) := by decide +kernel
theorem dX11_soonestBy_16 : decode cX11_soonestBy 16 = .ok (.iload_n 1, 1) := by decide +kernel
theorem dX11_soonestBy_17 : decode cX11_soonestBy 17 = .ok (.iconst 5, 1) := by decide +kernel
theorem dX11_soonestBy_18 : decode cX11_soonestBy 18 = .ok (.invokevirtual 162, 3) := by decide +kernel
theorem dX11_soonestBy_21 : decode cX11_soonestBy 21 = .ok (.aload_n 0, 1) := by decide +kernel
theorem dX11_soonestBy_22 : decode cX11_soonestBy 22 = .ok (.iload_n 1, 1) := by decide +kernel
theorem dX11_soonestBy_23 : decode cX11_soonestBy 23 = .ok (.invokevirtual 168, 3) := by decide +kernel
theorem dX11_soonestBy_26 : decode cX11_soonestBy 26 = .ok (.aload_n 0, 1) := by decide +kernel
theorem dX11_soonestBy_27 : decode cX11_soonestBy 27 = .ok (.iload_n 1, 1) := by decide +kernel
theorem dX11_soonestBy_28 : decode cX11_soonestBy 28 = .ok (.bipush 6, 2) := by decide +kernel
theorem dX11_soonestBy_30 : decode cX11_soonestBy 30 = .ok (.invokevirtual 162, 3) := by decide +kernel
theorem dX11_soonestBy_33 : decode cX11_soonestBy 33 = .ok (.invokevirtual 219, 3) := by decide +kernel
theorem dX11_soonestBy_36 : decode cX11_soonestBy 36 = .ok (.aload_n 0, 1) := by decide +kernel
theorem dX11_soonestBy_37 : decode cX11_soonestBy 37 = .ok (.iload_n 2, 1) := by decide +kernel
theorem dX11_soonestBy_38 : decode cX11_soonestBy 38 = .ok (.invokevirtual 241, 3) := by decide +kernel
theorem dX11_soonestBy_41 : decode cX11_soonestBy 41 = .ok (.ireturn, 1) := by decide +kernel
theorem dX11_slower_0 : decode cX11_slower 0 = .ok (.aload_n 0, 1) := by decide +kernel
theorem dX11_slower_1 : decode cX11_slower 1 = .ok (.iload_n 1, 1) := by decide +kernel
theorem dX11_slower_2 : decode cX11_slower 2 = .ok (.invokevirtual 165, 3) := by decide +kernel
theorem dX11_slower_5 : decode cX11_slower 5 = .ok (.ifCond .eq 29, 3) := by decide +kernel
theorem dX11_slower_8 : decode cX11_slower 8 = .ok (.iload_n 2, 1) := by decide +kernel
theorem dX11_slower_9 : decode cX11_slower 9 = .ok (.invokestatic 151, 3) := by decide +kernel
theorem dX11_slower_12 : decode cX11_slower 12 = .ok (.ifCond .eq 22, 3) := by decide +kernel
theorem dX11_slower_15 : decode cX11_slower 15 = .ok (.iload_n 3, 1) := by decide +kernel
theorem dX11_slower_16 : decode cX11_slower 16 = .ok (.bipush 7, 2) := by decide +kernel
theorem dX11_slower_18 : decode cX11_slower 18 = .ok (.invokestatic 66, 3) := by decide +kernel
theorem dX11_slower_21 : decode cX11_slower 21 = .ok (.ifCond .eq 13, 3) := by decide +kernel
theorem dX11_slower_24 : decode cX11_slower 24 = .ok (.iload 4, 2) := by decide +kernel
theorem dX11_slower_26 : decode cX11_slower 26 = .ok (.bipush 7, 2) := by decide +kernel
theorem dX11_slower_28 : decode cX11_slower 28 = .ok (.invokestatic 66, 3) := by decide +kernel
theorem dX11_slower_31 : decode cX11_slower 31 = .ok (.ifCond .ne 7, 3) := by decide +kernel
theorem dX11_slower_34 : decode cX11_slower 34 = .ok (.sipush (-1001), 3) := by decide +kernel
theorem dX11_slower_37 : decode cX11_slower 37 = .ok (.ireturn, 1) := by decide +kernel
theorem dX11_slower_38 : decode cX11_slower 38 = .ok (.aload_n 0, 1) := by decide +kernel
theorem dX11_slower_39 : decode cX11_slower 39 = .ok (.iload_n 1, 1) := by decide +kernel
theorem dX11_slower_40 : decode cX11_slower 40 = .ok (.iload_n 2, 1) := by decide +kernel
theorem dX11_slower_41 : decode cX11_slower 41 = .ok (.iload_n 3, 1) := by decide +kernel
theorem dX11_slower_42 : decode cX11_slower 42 = .ok (.invokevirtual 262, 3) := by decide +kernel
theorem dX11_slower_45 : decode cX11_slower 45 = .ok (.istore 5, 2) := by decide +kernel
theorem dX11_slower_47 : decode cX11_slower 47 = .ok (.aload_n 0, 1) := by decide +kernel
theorem dX11_slower_48 : decode cX11_slower 48 = .ok (.iload_n 1, 1) := by decide +kernel
theorem dX11_slower_49 : decode cX11_slower 49 = .ok (.iload_n 2, 1) := by decide +kernel
theorem dX11_slower_50 : decode cX11_slower 50 = .ok (.iload 4, 2) := by decide +kernel
theorem dX11_slower_52 : decode cX11_slower 52 = .ok (.invokevirtual 262, 3) := by decide +kernel
theorem dX11_slower_55 : decode cX11_slower 55 = .ok (.istore 6, 2) := by decide +kernel
theorem dX11_slower_57 : decode cX11_slower 57 = .ok (.iload 5, 2) := by decide +kernel
theorem dX11_slower_59 : decode cX11_slower 59 = .ok (.ifCond .lt 8, 3) := by decide +kernel
theorem dX11_slower_62 : decode cX11_slower 62 = .ok (.iload 6, 2) := by decide +kernel
theorem dX11_slower_64 : decode cX11_slower 64 = .ok (.ifCond .ge 9, 3) := by decide +kernel
theorem dX11_slower_67 : decode cX11_slower 67 = .ok (.sipush (-1000), 3) := by decide +kernel
theorem dX11_slower_70 : decode cX11_slower 70 = .ok (.goto 8, 3) := by decide +kernel
theorem dX11_slower_73 : decode cX11_slower 73 = .ok (.iload 5, 2) := by decide +kernel
theorem dX11_slower_75 : decode cX11_slower 75 = .ok (.iload 6, 2) := by decide +kernel
theorem dX11_slower_77 : decode cX11_slower 77 = .ok (.isub, 1) := by decide +kernel
theorem dX11_slower_78 : decode cX11_slower 78 = .ok (.ireturn, 1) := by decide +kernel
theorem dX11_above_0 : decode cX11_above 0 = .ok (.iload_n 0, 1) := by decide +kernel
theorem dX11_above_1 : decode cX11_above 1 = .ok (.iconst 4, 1) := by decide +kernel
theorem dX11_above_2 : decode cX11_above 2 = .ok (.if_icmp .ne 7, 3) := by decide +kernel
theorem dX11_above_5 : decode cX11_above 5 = .ok (.iconst 1, 1) := by decide +kernel
theorem dX11_above_6 : decode cX11_above 6 = .ok (.goto 31, 3) := by decide +kernel
theorem dX11_above_9 : decode cX11_above 9 = .ok (.iload_n 0, 1) := by decide +kernel
theorem dX11_above_10 : decode cX11_above 10 = .ok (.iconst 5, 1) := by decide +kernel
theorem dX11_above_11 : decode cX11_above 11 = .ok (.if_icmp .ne 7, 3) := by decide +kernel
theorem dX11_above_14 : decode cX11_above 14 = .ok (.iconst 2, 1) := by decide +kernel
theorem dX11_above_15 : decode cX11_above 15 = .ok (.goto 22, 3) := by decide +kernel
theorem dX11_above_18 : decode cX11_above 18 = .ok (.iload_n 0, 1) := by decide +kernel
theorem dX11_above_19 : decode cX11_above 19 = .ok (.bipush 6, 2) := by decide +kernel
theorem dX11_above_21 : decode cX11_above 21 = .ok (.if_icmp .ne 7, 3) := by decide +kernel
theorem dX11_above_24 : decode cX11_above 24 = .ok (.iconst 3, 1) := by decide +kernel
theorem dX11_above_25 : decode cX11_above 25 = .ok (.goto 12, 3) := by decide +kernel
theorem dX11_above_28 : decode cX11_above 28 = .ok (.iload_n 0, 1) := by decide +kernel
theorem dX11_above_29 : decode cX11_above 29 = .ok (.ifCond .ne 7, 3) := by decide +kernel
theorem dX11_above_32 : decode cX11_above 32 = .ok (.iconst (-1), 1) := by decide +kernel
theorem dX11_above_33 : decode cX11_above 33 = .ok (.goto 4, 3) := by decide +kernel
theorem dX11_above_36 : decode cX11_above 36 = .ok (.iconst 0, 1) := by decide +kernel
theorem dX11_above_37 : decode cX11_above 37 = .ok (.ireturn, 1) := by decide +kernel
theorem dX11_runs_0 : decode cX11_runs 0 = .ok (.aload_n 0, 1) := by decide +kernel
theorem dX11_runs_1 : decode cX11_runs 1 = .ok (.getfield 265, 3) := by decide +kernel
theorem dX11_runs_4 : decode cX11_runs 4 = .ok (.bipush 20, 2) := by decide +kernel
theorem dX11_runs_6 : decode cX11_runs 6 = .ok (.if_icmp .ge 13, 3) := by decide +kernel
theorem dX11_runs_9 : decode cX11_runs 9 = .ok (.aload_n 0, 1) := by decide +kernel
theorem dX11_runs_10 : decode cX11_runs 10 = .ok (.getfield 50, 3) := by decide +kernel
theorem dX11_runs_13 : decode cX11_runs 13 = .ok (.aload_n 0, 1) := by decide +kernel
theorem dX11_runs_14 : decode cX11_runs 14 = .ok (.getfield 265, 3) := by decide +kernel
theorem dX11_runs_17 : decode cX11_runs 17 = .ok (.iload_n 1, 1) := by decide +kernel
theorem dX11_runs_18 : decode cX11_runs 18 = .ok (.iastore, 1) := by decide +kernel
theorem dX11_runs_19 : decode cX11_runs 19 = .ok (.aload_n 0, 1) := by decide +kernel
theorem dX11_runs_20 : decode cX11_runs 20 = .ok (.dup, 1) := by decide +kernel
theorem dX11_runs_21 : decode cX11_runs 21 = .ok (.getfield 265, 3) := by decide +kernel
theorem dX11_runs_24 : decode cX11_runs 24 = .ok (.iconst 1, 1) := by decide +kernel
theorem dX11_runs_25 : decode cX11_runs 25 = .ok (.iadd, 1) := by decide +kernel
theorem dX11_runs_26 : decode cX11_runs 26 = .ok (.putfield 265, 3) := by decide +kernel
theorem dX11_runs_29 : decode cX11_runs 29 = .ok (.return_, 1) := by decide +kernel
theorem dX11_bodyOf_0 : decode cX11_bodyOf 0 = .ok (.iload_n 2, 1) := by decide +kernel
theorem dX11_bodyOf_1 : decode cX11_bodyOf 1 = .ok (.istore 4, 2) := by decide +kernel
theorem dX11_bodyOf_3 : decode cX11_bodyOf 3 = .ok (.iload_n 1, 1) := by decide +kernel
theorem dX11_bodyOf_4 : decode cX11_bodyOf 4 = .ok (.iload 4, 2) := by decide +kernel
theorem dX11_bodyOf_6 : decode cX11_bodyOf 6 = .ok (.invokestatic 268, 3) := by decide +kernel
theorem dX11_bodyOf_9 : decode cX11_bodyOf 9 = .ok (.ifCond .ne 13, 3) := by decide +kernel
theorem dX11_bodyOf_12 : decode cX11_bodyOf 12 = .ok (.iload 4, 2) := by decide +kernel
theorem dX11_bodyOf_14 : decode cX11_bodyOf 14 = .ok (.invokestatic 271, 3) := by decide +kernel
theorem dX11_bodyOf_17 : decode cX11_bodyOf 17 = .ok (.istore 4, 2) := by decide +kernel
theorem dX11_bodyOf_19 : decode cX11_bodyOf 19 = .ok (.goto (-16), 3) := by decide +kernel
theorem dX11_bodyOf_22 : decode cX11_bodyOf 22 = .ok (.aload_n 0, 1) := by decide +kernel
theorem dX11_bodyOf_23 : decode cX11_bodyOf 23 = .ok (.aload_n 0, 1) := by decide +kernel
theorem dX11_bodyOf_24 : decode cX11_bodyOf 24 = .ok (.getfield 274, 3) := by decide +kernel
theorem dX11_bodyOf_27 : decode cX11_bodyOf 27 = .ok (.iconst 1, 1) := by decide +kernel
theorem dX11_bodyOf_28 : decode cX11_bodyOf 28 = .ok (.invokevirtual 162, 3) := by decide +kernel
theorem dX11_bodyOf_31 : decode cX11_bodyOf 31 = .ok (.istore 5, 2) := by decide +kernel
theorem dX11_bodyOf_33 : decode cX11_bodyOf 33 = .ok (.iload 4, 2) := by decide +kernel
theorem dX11_bodyOf_35 : decode cX11_bodyOf 35 = .ok (.invokestatic 271, 3) := by decide +kernel
theorem dX11_bodyOf_38 : decode cX11_bodyOf 38 = .ok (.istore 6, 2) := by decide +kernel
theorem dX11_bodyOf_40 : decode cX11_bodyOf 40 = .ok (.iload_n 1, 1) := by decide +kernel
theorem dX11_bodyOf_41 : decode cX11_bodyOf 41 = .ok (.ifCond .ne 103, 3) := by decide +kernel
theorem dX11_bodyOf_44 : decode cX11_bodyOf 44 = .ok (.iload 4, 2) := by decide +kernel
theorem dX11_bodyOf_46 : decode cX11_bodyOf 46 = .ok (.tableswitch 85 2 6 #[34, 85, 51, 85, 67], 34) := by decide +kernel
theorem dX11_bodyOf_80 : decode cX11_bodyOf 80 = .ok (.aload_n 0, 1) := by decide +kernel
theorem dX11_bodyOf_81 : decode cX11_bodyOf 81 = .ok (.bipush 30, 2) := by decide +kernel
theorem dX11_bodyOf_83 : decode cX11_bodyOf 83 = .ok (.invokevirtual 277, 3) := by decide +kernel
theorem dX11_bodyOf_86 : decode cX11_bodyOf 86 = .ok (.aload_n 0, 1) := by decide +kernel
theorem dX11_bodyOf_87 : decode cX11_bodyOf 87 = .ok (.iconst 0, 1) := by decide +kernel
theorem dX11_bodyOf_88 : decode cX11_bodyOf 88 = .ok (.iload 6, 2) := by decide +kernel
theorem dX11_bodyOf_90 : decode cX11_bodyOf 90 = .ok (.iload_n 3, 1) := by decide +kernel
theorem dX11_bodyOf_91 : decode cX11_bodyOf 91 = .ok (.iconst 3, 1) := by decide +kernel
theorem dX11_bodyOf_92 : decode cX11_bodyOf 92 = .ok (.imul, 1) := by decide +kernel
theorem dX11_bodyOf_93 : decode cX11_bodyOf 93 = .ok (.invokevirtual 280, 3) := by decide +kernel
theorem dX11_bodyOf_96 : decode cX11_bodyOf 96 = .ok (.ireturn, 1) := by decide +kernel
theorem dX11_bodyOf_97 : decode cX11_bodyOf 97 = .ok (.aload_n 0, 1) := by decide +kernel
theorem dX11_bodyOf_98 : decode cX11_bodyOf 98 = .ok (.bipush 50, 2) := by decide +kernel
theorem dX11_bodyOf_100 : decode cX11_bodyOf 100 = .ok (.invokevirtual 277, 3) := by decide +kernel
theorem dX11_bodyOf_103 : decode cX11_bodyOf 103 = .ok (.aload_n 0, 1) := by decide +kernel
theorem dX11_bodyOf_104 : decode cX11_bodyOf 104 = .ok (.iconst 0, 1) := by decide +kernel
theorem dX11_bodyOf_105 : decode cX11_bodyOf 105 = .ok (.iload 6, 2) := by decide +kernel
theorem dX11_bodyOf_107 : decode cX11_bodyOf 107 = .ok (.iload_n 3, 1) := by decide +kernel
theorem dX11_bodyOf_108 : decode cX11_bodyOf 108 = .ok (.invokevirtual 280, 3) := by decide +kernel
theorem dX11_bodyOf_111 : decode cX11_bodyOf 111 = .ok (.ineg, 1) := by decide +kernel
theorem dX11_bodyOf_112 : decode cX11_bodyOf 112 = .ok (.ireturn, 1) := by decide +kernel
theorem dX11_bodyOf_113 : decode cX11_bodyOf 113 = .ok (.aload_n 0, 1) := by decide +kernel
theorem dX11_bodyOf_114 : decode cX11_bodyOf 114 = .ok (.bipush 71, 2) := by decide +kernel
theorem dX11_bodyOf_116 : decode cX11_bodyOf 116 = .ok (.invokevirtual 277, 3) := by decide +kernel
theorem dX11_bodyOf_119 : decode cX11_bodyOf 119 = .ok (.aload_n 0, 1) := by decide +kernel
theorem dX11_bodyOf_120 : decode cX11_bodyOf 120 = .ok (.iconst 0, 1) := by decide +kernel
theorem dX11_bodyOf_121 : decode cX11_bodyOf 121 = .ok (.iload 6, 2) := by decide +kernel
theorem dX11_bodyOf_123 : decode cX11_bodyOf 123 = .ok (.iload_n 3, 1) := by decide +kernel
theorem dX11_bodyOf_124 : decode cX11_bodyOf 124 = .ok (.invokevirtual 280, 3) := by decide +kernel
theorem dX11_bodyOf_127 : decode cX11_bodyOf 127 = .ok (.iload 5, 2) := by decide +kernel
theorem dX11_bodyOf_129 : decode cX11_bodyOf 129 = .ok (.ixor, 1) := by decide +kernel
theorem dX11_bodyOf_130 : decode cX11_bodyOf 130 = .ok (.ireturn, 1) := by decide +kernel
theorem dX11_bodyOf_131 : decode cX11_bodyOf 131 = .ok (.aload_n 0, 1) := by decide +kernel
theorem dX11_bodyOf_132 : decode cX11_bodyOf 132 = .ok (.bipush 10, 2) := by decide +kernel
theorem dX11_bodyOf_134 : decode cX11_bodyOf 134 = .ok (.invokevirtual 277, 3) := by decide +kernel
theorem dX11_bodyOf_137 : decode cX11_bodyOf 137 = .ok (.iload_n 3, 1) := by decide +kernel
theorem dX11_bodyOf_138 : decode cX11_bodyOf 138 = .ok (.aload_n 0, 1) := by decide +kernel
theorem dX11_bodyOf_139 : decode cX11_bodyOf 139 = .ok (.getfield 274, 3) := by decide +kernel
theorem dX11_bodyOf_142 : decode cX11_bodyOf 142 = .ok (.iadd, 1) := by decide +kernel
theorem dX11_bodyOf_143 : decode cX11_bodyOf 143 = .ok (.ireturn, 1) := by decide +kernel
theorem dX11_bodyOf_144 : decode cX11_bodyOf 144 = .ok (.iload_n 1, 1) := by decide +kernel
theorem dX11_bodyOf_145 : decode cX11_bodyOf 145 = .ok (.iconst 1, 1) := by decide +kernel
theorem dX11_bodyOf_146 : decode cX11_bodyOf 146 = .ok (.if_icmp .ne 117, 3) := by decide +kernel
theorem dX11_bodyOf_149 : decode cX11_bodyOf 149 = .ok (.iload 4, 2) := by decide +kernel
theorem dX11_bodyOf_151 : decode cX11_bodyOf 151 = .ok (.lookupswitch 96 #[(1, 33), (4, 51), (6, 68)], 33) := by decide +kernel
theorem dX11_bodyOf_184 : decode cX11_bodyOf 184 = .ok (.aload_n 0, 1) := by decide +kernel
theorem dX11_bodyOf_185 : decode cX11_bodyOf 185 = .ok (.bipush 20, 2) := by decide +kernel
theorem dX11_bodyOf_187 : decode cX11_bodyOf 187 = .ok (.invokevirtual 277, 3) := by decide +kernel
theorem dX11_bodyOf_190 : decode cX11_bodyOf 190 = .ok (.aload_n 0, 1) := by decide +kernel
theorem dX11_bodyOf_191 : decode cX11_bodyOf 191 = .ok (.iconst 1, 1) := by decide +kernel
theorem dX11_bodyOf_192 : decode cX11_bodyOf 192 = .ok (.iload 6, 2) := by decide +kernel
theorem dX11_bodyOf_194 : decode cX11_bodyOf 194 = .ok (.iload_n 3, 1) := by decide +kernel
theorem dX11_bodyOf_195 : decode cX11_bodyOf 195 = .ok (.invokevirtual 280, 3) := by decide +kernel
theorem dX11_bodyOf_198 : decode cX11_bodyOf 198 = .ok (.bipush 6, 2) := by decide +kernel
theorem dX11_bodyOf_200 : decode cX11_bodyOf 200 = .ok (.ixor, 1) := by decide +kernel
theorem dX11_bodyOf_201 : decode cX11_bodyOf 201 = .ok (.ireturn, 1) := by decide +kernel
theorem dX11_bodyOf_202 : decode cX11_bodyOf 202 = .ok (.aload_n 0, 1) := by decide +kernel
theorem dX11_bodyOf_203 : decode cX11_bodyOf 203 = .ok (.bipush 51, 2) := by decide +kernel
theorem dX11_bodyOf_205 : decode cX11_bodyOf 205 = .ok (.invokevirtual 277, 3) := by decide +kernel
theorem dX11_bodyOf_208 : decode cX11_bodyOf 208 = .ok (.aload_n 0, 1) := by decide +kernel
theorem dX11_bodyOf_209 : decode cX11_bodyOf 209 = .ok (.iconst 1, 1) := by decide +kernel
theorem dX11_bodyOf_210 : decode cX11_bodyOf 210 = .ok (.iload 6, 2) := by decide +kernel
theorem dX11_bodyOf_212 : decode cX11_bodyOf 212 = .ok (.iload_n 3, 1) := by decide +kernel
theorem dX11_bodyOf_213 : decode cX11_bodyOf 213 = .ok (.iconst 1, 1) := by decide +kernel
theorem dX11_bodyOf_214 : decode cX11_bodyOf 214 = .ok (.iadd, 1) := by decide +kernel
theorem dX11_bodyOf_215 : decode cX11_bodyOf 215 = .ok (.invokevirtual 280, 3) := by decide +kernel
theorem dX11_bodyOf_218 : decode cX11_bodyOf 218 = .ok (.ireturn, 1) := by decide +kernel
theorem dX11_bodyOf_219 : decode cX11_bodyOf 219 = .ok (.aload_n 0, 1) := by decide +kernel
theorem dX11_bodyOf_220 : decode cX11_bodyOf 220 = .ok (.bipush 70, 2) := by decide +kernel
theorem dX11_bodyOf_222 : decode cX11_bodyOf 222 = .ok (.invokevirtual 277, 3) := by decide +kernel
theorem dX11_bodyOf_225 : decode cX11_bodyOf 225 = .ok (.aload_n 0, 1) := by decide +kernel
theorem dX11_bodyOf_226 : decode cX11_bodyOf 226 = .ok (.iconst 1, 1) := by decide +kernel
theorem dX11_bodyOf_227 : decode cX11_bodyOf 227 = .ok (.iload 6, 2) := by decide +kernel
theorem dX11_bodyOf_229 : decode cX11_bodyOf 229 = .ok (.iload_n 3, 1) := by decide +kernel
theorem dX11_bodyOf_230 : decode cX11_bodyOf 230 = .ok (.invokevirtual 280, 3) := by decide +kernel
theorem dX11_bodyOf_233 : decode cX11_bodyOf 233 = .ok (.istore 7, 2) := by decide +kernel
theorem dX11_bodyOf_235 : decode cX11_bodyOf 235 = .ok (.iload 7, 2) := by decide +kernel
theorem dX11_bodyOf_237 : decode cX11_bodyOf 237 = .ok (.aload_n 0, 1) := by decide +kernel
theorem dX11_bodyOf_238 : decode cX11_bodyOf 238 = .ok (.iconst 0, 1) := by decide +kernel
theorem dX11_bodyOf_239 : decode cX11_bodyOf 239 = .ok (.iload 6, 2) := by decide +kernel
theorem dX11_bodyOf_241 : decode cX11_bodyOf 241 = .ok (.iconst 2, 1) := by decide +kernel
theorem dX11_bodyOf_242 : decode cX11_bodyOf 242 = .ok (.invokevirtual 280, 3) := by decide +kernel
theorem dX11_bodyOf_245 : decode cX11_bodyOf 245 = .ok (.iadd, 1) := by decide +kernel
theorem dX11_bodyOf_246 : decode cX11_bodyOf 246 = .ok (.ireturn, 1) := by decide +kernel
theorem dX11_bodyOf_247 : decode cX11_bodyOf 247 = .ok (.aload_n 0, 1) := by decide +kernel
theorem dX11_bodyOf_248 : decode cX11_bodyOf 248 = .ok (.bipush 11, 2) := by decide +kernel
theorem dX11_bodyOf_250 : decode cX11_bodyOf 250 = .ok (.invokevirtual 277, 3) := by decide +kernel
theorem dX11_bodyOf_253 : decode cX11_bodyOf 253 = .ok (.aload_n 0, 1) := by decide +kernel
theorem dX11_bodyOf_254 : decode cX11_bodyOf 254 = .ok (.iconst 0, 1) := by decide +kernel
theorem dX11_bodyOf_255 : decode cX11_bodyOf 255 = .ok (.iload_n 3, 1) := by decide +kernel
theorem dX11_bodyOf_256 : decode cX11_bodyOf 256 = .ok (.invokevirtual 283, 3) := by decide +kernel
theorem dX11_bodyOf_259 : decode cX11_bodyOf 259 = .ok (.iload 5, 2) := by decide +kernel
theorem dX11_bodyOf_261 : decode cX11_bodyOf 261 = .ok (.isub, 1) := by decide +kernel
theorem dX11_bodyOf_262 : decode cX11_bodyOf 262 = .ok (.ireturn, 1) := by decide +kernel
theorem dX11_bodyOf_263 : decode cX11_bodyOf 263 = .ok (.iload 4, 2) := by decide +kernel
theorem dX11_bodyOf_265 : decode cX11_bodyOf 265 = .ok (.lookupswitch 73 #[(3, 27), (5, 53)], 27) := by decide +kernel
theorem dX11_bodyOf_292 : decode cX11_bodyOf 292 = .ok (.aload_n 0, 1) := by decide +kernel
theorem dX11_bodyOf_293 : decode cX11_bodyOf 293 = .ok (.bipush 40, 2) := by decide +kernel
theorem dX11_bodyOf_295 : decode cX11_bodyOf 295 = .ok (.invokevirtual 277, 3) := by decide +kernel
theorem dX11_bodyOf_298 : decode cX11_bodyOf 298 = .ok (.aload_n 0, 1) := by decide +kernel
theorem dX11_bodyOf_299 : decode cX11_bodyOf 299 = .ok (.iconst 2, 1) := by decide +kernel
theorem dX11_bodyOf_300 : decode cX11_bodyOf 300 = .ok (.iload 6, 2) := by decide +kernel
theorem dX11_bodyOf_302 : decode cX11_bodyOf 302 = .ok (.iload_n 3, 1) := by decide +kernel
theorem dX11_bodyOf_303 : decode cX11_bodyOf 303 = .ok (.invokevirtual 280, 3) := by decide +kernel
theorem dX11_bodyOf_306 : decode cX11_bodyOf 306 = .ok (.istore 7, 2) := by decide +kernel
theorem dX11_bodyOf_308 : decode cX11_bodyOf 308 = .ok (.iload 7, 2) := by decide +kernel
theorem dX11_bodyOf_310 : decode cX11_bodyOf 310 = .ok (.aload_n 0, 1) := by decide +kernel
theorem dX11_bodyOf_311 : decode cX11_bodyOf 311 = .ok (.iconst 1, 1) := by decide +kernel
theorem dX11_bodyOf_312 : decode cX11_bodyOf 312 = .ok (.iconst 1, 1) := by decide +kernel
theorem dX11_bodyOf_313 : decode cX11_bodyOf 313 = .ok (.invokevirtual 283, 3) := by decide +kernel
theorem dX11_bodyOf_316 : decode cX11_bodyOf 316 = .ok (.iadd, 1) := by decide +kernel
theorem dX11_bodyOf_317 : decode cX11_bodyOf 317 = .ok (.ireturn, 1) := by decide +kernel
theorem dX11_bodyOf_318 : decode cX11_bodyOf 318 = .ok (.aload_n 0, 1) := by decide +kernel
theorem dX11_bodyOf_319 : decode cX11_bodyOf 319 = .ok (.bipush 60, 2) := by decide +kernel
theorem dX11_bodyOf_321 : decode cX11_bodyOf 321 = .ok (.invokevirtual 277, 3) := by decide +kernel
theorem dX11_bodyOf_324 : decode cX11_bodyOf 324 = .ok (.aload_n 0, 1) := by decide +kernel
theorem dX11_bodyOf_325 : decode cX11_bodyOf 325 = .ok (.iconst 2, 1) := by decide +kernel
theorem dX11_bodyOf_326 : decode cX11_bodyOf 326 = .ok (.iload 6, 2) := by decide +kernel
theorem dX11_bodyOf_328 : decode cX11_bodyOf 328 = .ok (.iload_n 3, 1) := by decide +kernel
theorem dX11_bodyOf_329 : decode cX11_bodyOf 329 = .ok (.aload_n 0, 1) := by decide +kernel
theorem dX11_bodyOf_330 : decode cX11_bodyOf 330 = .ok (.getfield 274, 3) := by decide +kernel
theorem dX11_bodyOf_333 : decode cX11_bodyOf 333 = .ok (.isub, 1) := by decide +kernel
theorem dX11_bodyOf_334 : decode cX11_bodyOf 334 = .ok (.invokevirtual 280, 3) := by decide +kernel
theorem dX11_bodyOf_337 : decode cX11_bodyOf 337 = .ok (.ireturn, 1) := by decide +kernel
theorem dX11_bodyOf_338 : decode cX11_bodyOf 338 = .ok (.aload_n 0, 1) := by decide +kernel
theorem dX11_bodyOf_339 : decode cX11_bodyOf 339 = .ok (.bipush 12, 2) := by decide +kernel
theorem dX11_bodyOf_341 : decode cX11_bodyOf 341 = .ok (.invokevirtual 277, 3) := by decide +kernel
theorem dX11_bodyOf_344 : decode cX11_bodyOf 344 = .ok (.aload_n 0, 1) := by decide +kernel
theorem dX11_bodyOf_345 : decode cX11_bodyOf 345 = .ok (.iconst 1, 1) := by decide +kernel
theorem dX11_bodyOf_346 : decode cX11_bodyOf 346 = .ok (.iload_n 3, 1) := by decide +kernel
theorem dX11_bodyOf_347 : decode cX11_bodyOf 347 = .ok (.invokevirtual 283, 3) := by decide +kernel
theorem dX11_bodyOf_350 : decode cX11_bodyOf 350 = .ok (.iconst 2, 1) := by decide +kernel
theorem dX11_bodyOf_351 : decode cX11_bodyOf 351 = .ok (.imul, 1) := by decide +kernel
theorem dX11_bodyOf_352 : decode cX11_bodyOf 352 = .ok (.ireturn, 1) := by decide +kernel
theorem dX11_hasBody_0 : decode cX11_hasBody 0 = .ok (.iload_n 1, 1) := by decide +kernel
theorem dX11_hasBody_1 : decode cX11_hasBody 1 = .ok (.ifCond .ne 5, 3) := by decide +kernel
theorem dX11_hasBody_4 : decode cX11_hasBody 4 = .ok (.iconst 1, 1) := by decide +kernel
theorem dX11_hasBody_5 : decode cX11_hasBody 5 = .ok (.ireturn, 1) := by decide +kernel
theorem dX11_hasBody_6 : decode cX11_hasBody 6 = .ok (.iload_n 0, 1) := by decide +kernel
theorem dX11_hasBody_7 : decode cX11_hasBody 7 = .ok (.ifCond .ne 27, 3) := by decide +kernel
theorem dX11_hasBody_10 : decode cX11_hasBody 10 = .ok (.iload_n 1, 1) := by decide +kernel
theorem dX11_hasBody_11 : decode cX11_hasBody 11 = .ok (.iconst 2, 1) := by decide +kernel
theorem dX11_hasBody_12 : decode cX11_hasBody 12 = .ok (.if_icmp .eq 14, 3) := by decide +kernel
theorem dX11_hasBody_15 : decode cX11_hasBody 15 = .ok (.iload_n 1, 1) := by decide +kernel
theorem dX11_hasBody_16 : decode cX11_hasBody 16 = .ok (.iconst 4, 1) := by decide +kernel
theorem dX11_hasBody_17 : decode cX11_hasBody 17 = .ok (.if_icmp .eq 9, 3) := by decide +kernel
theorem dX11_hasBody_20 : decode cX11_hasBody 20 = .ok (.iload_n 1, 1) := by decide +kernel
theorem dX11_hasBody_21 : decode cX11_hasBody 21 = .ok (.bipush 6, 2) := by decide +kernel
theorem dX11_hasBody_23 : decode cX11_hasBody 23 = .ok (.if_icmp .ne 7, 3) := by decide +kernel
theorem dX11_hasBody_26 : decode cX11_hasBody 26 = .ok (.iconst 1, 1) := by decide +kernel
theorem dX11_hasBody_27 : decode cX11_hasBody 27 = .ok (.goto 51, 3) := by decide +kernel
theorem dX11_hasBody_30 : decode cX11_hasBody 30 = .ok (.iconst 0, 1) := by decide +kernel
theorem dX11_hasBody_31 : decode cX11_hasBody 31 = .ok (.goto 47, 3) := by decide +kernel
theorem dX11_hasBody_34 : decode cX11_hasBody 34 = .ok (.iload_n 0, 1) := by decide +kernel
theorem dX11_hasBody_35 : decode cX11_hasBody 35 = .ok (.iconst 1, 1) := by decide +kernel
theorem dX11_hasBody_36 : decode cX11_hasBody 36 = .ok (.if_icmp .ne 27, 3) := by decide +kernel
theorem dX11_hasBody_39 : decode cX11_hasBody 39 = .ok (.iload_n 1, 1) := by decide +kernel
theorem dX11_hasBody_40 : decode cX11_hasBody 40 = .ok (.iconst 1, 1) := by decide +kernel
theorem dX11_hasBody_41 : decode cX11_hasBody 41 = .ok (.if_icmp .eq 14, 3) := by decide +kernel
theorem dX11_hasBody_44 : decode cX11_hasBody 44 = .ok (.iload_n 1, 1) := by decide +kernel
theorem dX11_hasBody_45 : decode cX11_hasBody 45 = .ok (.iconst 4, 1) := by decide +kernel
theorem dX11_hasBody_46 : decode cX11_hasBody 46 = .ok (.if_icmp .eq 9, 3) := by decide +kernel
theorem dX11_hasBody_49 : decode cX11_hasBody 49 = .ok (.iload_n 1, 1) := by decide +kernel
theorem dX11_hasBody_50 : decode cX11_hasBody 50 = .ok (.bipush 6, 2) := by decide +kernel
theorem dX11_hasBody_52 : decode cX11_hasBody 52 = .ok (.if_icmp .ne 7, 3) := by decide +kernel
theorem dX11_hasBody_55 : decode cX11_hasBody 55 = .ok (.iconst 1, 1) := by decide +kernel
theorem dX11_hasBody_56 : decode cX11_hasBody 56 = .ok (.goto 22, 3) := by decide +kernel
theorem dX11_hasBody_59 : decode cX11_hasBody 59 = .ok (.iconst 0, 1) := by decide +kernel
theorem dX11_hasBody_60 : decode cX11_hasBody 60 = .ok (.goto 18, 3) := by decide +kernel
theorem dX11_hasBody_63 : decode cX11_hasBody 63 = .ok (.iload_n 1, 1) := by decide +kernel
theorem dX11_hasBody_64 : decode cX11_hasBody 64 = .ok (.iconst 3, 1) := by decide +kernel
theorem dX11_hasBody_65 : decode cX11_hasBody 65 = .ok (.if_icmp .eq 8, 3) := by decide +kernel
theorem dX11_hasBody_68 : decode cX11_hasBody 68 = .ok (.iload_n 1, 1) := by decide +kernel
theorem dX11_hasBody_69 : decode cX11_hasBody 69 = .ok (.iconst 5, 1) := by decide +kernel
theorem dX11_hasBody_70 : decode cX11_hasBody 70 = .ok (.if_icmp .ne 7, 3) := by decide +kernel
theorem dX11_hasBody_73 : decode cX11_hasBody 73 = .ok (.iconst 1, 1) := by decide +kernel
theorem dX11_hasBody_74 : decode cX11_hasBody 74 = .ok (.goto 4, 3) := by decide +kernel
theorem dX11_hasBody_77 : decode cX11_hasBody 77 = .ok (.iconst 0, 1) := by decide +kernel
theorem dX11_hasBody_78 : decode cX11_hasBody 78 = .ok (.ireturn, 1) := by decide +kernel
theorem dX11_acts_0 : decode cX11_acts 0 = .ok (.aload_n 0, 1) := by decide +kernel
theorem dX11_acts_1 : decode cX11_acts 1 = .ok (.iload_n 1, 1) := by decide +kernel
theorem dX11_acts_2 : decode cX11_acts 2 = .ok (.aload_n 0, 1) := by decide +kernel
theorem dX11_acts_3 : decode cX11_acts 3 = .ok (.aload_n 0, 1) := by decide +kernel
theorem dX11_acts_4 : decode cX11_acts 4 = .ok (.getfield 274, 3) := by decide +kernel
theorem dX11_acts_7 : decode cX11_acts 7 = .ok (.iconst 0, 1) := by decide +kernel
theorem dX11_acts_8 : decode cX11_acts 8 = .ok (.invokevirtual 162, 3) := by decide +kernel
theorem dX11_acts_11 : decode cX11_acts 11 = .ok (.iload_n 2, 1) := by decide +kernel
theorem dX11_acts_12 : decode cX11_acts 12 = .ok (.invokevirtual 280, 3) := by decide +kernel
theorem dX11_acts_15 : decode cX11_acts 15 = .ok (.ireturn, 1) := by decide +kernel
theorem dX11_act_0 : decode cX11_act 0 = .ok (.aload_n 0, 1) := by decide +kernel
theorem dX11_act_1 : decode cX11_act 1 = .ok (.iconst 0, 1) := by decide +kernel
theorem dX11_act_2 : decode cX11_act 2 = .ok (.putfield 265, 3) := by decide +kernel
theorem dX11_act_5 : decode cX11_act 5 = .ok (.aload_n 0, 1) := by decide +kernel
theorem dX11_act_6 : decode cX11_act 6 = .ok (.iload_n 1, 1) := by decide +kernel
theorem dX11_act_7 : decode cX11_act 7 = .ok (.invokevirtual 165, 3) := by decide +kernel
theorem dX11_act_10 : decode cX11_act 10 = .ok (.ifCond .eq 11, 3) := by decide +kernel
theorem dX11_act_13 : decode cX11_act 13 = .ok (.iload_n 2, 1) := by decide +kernel
theorem dX11_act_14 : decode cX11_act 14 = .ok (.iconst 3, 1) := by decide +kernel
theorem dX11_act_15 : decode cX11_act 15 = .ok (.invokestatic 66, 3) := by decide +kernel
theorem dX11_act_18 : decode cX11_act 18 = .ok (.ifCond .ne 5, 3) := by decide +kernel
theorem dX11_act_21 : decode cX11_act 21 = .ok (.iconst 0, 1) := by decide +kernel
theorem dX11_act_22 : decode cX11_act 22 = .ok (.ireturn, 1) := by decide +kernel
theorem dX11_act_23 : decode cX11_act 23 = .ok (.aload_n 0, 1) := by decide +kernel
theorem dX11_act_24 : decode cX11_act 24 = .ok (.iload_n 1, 1) := by decide +kernel
theorem dX11_act_25 : decode cX11_act 25 = .ok (.putfield 274, 3) := by decide +kernel
theorem dX11_act_28 : decode cX11_act 28 = .ok (.aload_n 0, 1) := by decide +kernel
theorem dX11_act_29 : decode cX11_act 29 = .ok (.iload_n 2, 1) := by decide +kernel
theorem dX11_act_30 : decode cX11_act 30 = .ok (.iload_n 3, 1) := by decide +kernel
theorem dX11_act_31 : decode cX11_act 31 = .ok (.invokevirtual 283, 3) := by decide +kernel
theorem dX11_act_34 : decode cX11_act 34 = .ok (.ireturn, 1) := by decide +kernel
theorem dX11_trace_0 : decode cX11_trace 0 = .ok (.iload_n 1, 1) := by decide +kernel
theorem dX11_trace_1 : decode cX11_trace 1 = .ok (.ifCond .lt 26, 3) := by decide +kernel
theorem dX11_trace_4 : decode cX11_trace 4 = .ok (.iload_n 1, 1) := by decide +kernel
theorem dX11_trace_5 : decode cX11_trace 5 = .ok (.aload_n 0, 1) := by decide +kernel
theorem dX11_trace_6 : decode cX11_trace 6 = .ok (.getfield 265, 3) := by decide +kernel
theorem dX11_trace_9 : decode cX11_trace 9 = .ok (.if_icmp .ge 18, 3) := by decide +kernel
theorem dX11_trace_12 : decode cX11_trace 12 = .ok (.iload_n 1, 1) := by decide +kernel
theorem dX11_trace_13 : decode cX11_trace 13 = .ok (.bipush 20, 2) := by decide +kernel
theorem dX11_trace_15 : decode cX11_trace 15 = .ok (.if_icmp .ge 12, 3) := by decide +kernel
theorem dX11_trace_18 : decode cX11_trace 18 = .ok (.aload_n 0, 1) := by decide +kernel
theorem dX11_trace_19 : decode cX11_trace 19 = .ok (.getfield 50, 3) := by decide +kernel
theorem dX11_trace_22 : decode cX11_trace 22 = .ok (.iload_n 1, 1) := by decide +kernel
theorem dX11_trace_23 : decode cX11_trace 23 = .ok (.iaload, 1) := by decide +kernel
theorem dX11_trace_24 : decode cX11_trace 24 = .ok (.goto 4, 3) := by decide +kernel
theorem dX11_trace_27 : decode cX11_trace 27 = .ok (.iconst (-1), 1) := by decide +kernel
theorem dX11_trace_28 : decode cX11_trace 28 = .ok (.ireturn, 1) := by decide +kernel
theorem dX11_taken_0 : decode cX11_taken 0 = .ok (.iload_n 2, 1) := by decide +kernel
theorem dX11_taken_1 : decode cX11_taken 1 = .ok (.bipush 7, 2) := by decide +kernel
theorem dX11_taken_3 : decode cX11_taken 3 = .ok (.invokestatic 66, 3) := by decide +kernel
theorem dX11_taken_6 : decode cX11_taken 6 = .ok (.ifCond .ne 6, 3) := by decide +kernel
theorem dX11_taken_9 : decode cX11_taken 9 = .ok (.bipush (-2), 2) := by decide +kernel
theorem dX11_taken_11 : decode cX11_taken 11 = .ok (.ireturn, 1) := by decide +kernel
theorem dX11_taken_12 : decode cX11_taken 12 = .ok (.aload_n 0, 1) := by decide +kernel
theorem dX11_taken_13 : decode cX11_taken 13 = .ok (.iload_n 1, 1) := by decide +kernel
theorem dX11_taken_14 : decode cX11_taken 14 = .ok (.invokevirtual 165, 3) := by decide +kernel
theorem dX11_taken_17 : decode cX11_taken 17 = .ok (.ifCond .ne 6, 3) := by decide +kernel
theorem dX11_taken_20 : decode cX11_taken 20 = .ok (.bipush (-11), 2) := by decide +kernel
theorem dX11_taken_22 : decode cX11_taken 22 = .ok (.ireturn, 1) := by decide +kernel
theorem dX11_taken_23 : decode cX11_taken 23 = .ok (.aload_n 0, 1) := by decide +kernel
theorem dX11_taken_24 : decode cX11_taken 24 = .ok (.iload_n 1, 1) := by decide +kernel
theorem dX11_taken_25 : decode cX11_taken 25 = .ok (.iconst 0, 1) := by decide +kernel
theorem dX11_taken_26 : decode cX11_taken 26 = .ok (.invokevirtual 162, 3) := by decide +kernel
theorem dX11_taken_29 : decode cX11_taken 29 = .ok (.istore_n 3, 1) := by decide +kernel
theorem dX11_taken_30 : decode cX11_taken 30 = .ok (.iload_n 3, 1) := by decide +kernel
theorem dX11_taken_31 : decode cX11_taken 31 = .ok (.istore 4, 2) := by decide +kernel
theorem dX11_taken_33 : decode cX11_taken 33 = .ok (.iload 4, 2) := by decide +kernel
theorem dX11_taken_35 : decode cX11_taken 35 = .ok (.ifCond .lt 21, 3) := by decide +kernel
theorem dX11_taken_38 : decode cX11_taken 38 = .ok (.iload 4, 2) := by decide +kernel
theorem dX11_taken_40 : decode cX11_taken 40 = .ok (.iload_n 2, 1) := by decide +kernel
theorem dX11_taken_41 : decode cX11_taken 41 = .ok (.if_icmp .ne 5, 3) := by decide +kernel
theorem dX11_taken_44 : decode cX11_taken 44 = .ok (.iload_n 3, 1) := by decide +kernel
theorem dX11_taken_45 : decode cX11_taken 45 = .ok (.ireturn, 1) := by decide +kernel
theorem dX11_taken_46 : decode cX11_taken 46 = .ok (.iload 4, 2) := by decide +kernel
theorem dX11_taken_48 : decode cX11_taken 48 = .ok (.invokestatic 271, 3) := by decide +kernel
theorem dX11_taken_51 : decode cX11_taken 51 = .ok (.istore 4, 2) := by decide +kernel
theorem dX11_taken_53 : decode cX11_taken 53 = .ok (.goto (-20), 3) := by decide +kernel
theorem dX11_taken_56 : decode cX11_taken 56 = .ok (.bipush (-12), 2) := by decide +kernel
theorem dX11_taken_58 : decode cX11_taken 58 = .ok (.ireturn, 1) := by decide +kernel
theorem dX11_judge_0 : decode cX11_judge 0 = .ok (.iload_n 1, 1) := by decide +kernel
theorem dX11_judge_1 : decode cX11_judge 1 = .ok (.bipush 6, 2) := by decide +kernel
theorem dX11_judge_3 : decode cX11_judge 3 = .ok (.invokestatic 66, 3) := by decide +kernel
theorem dX11_judge_6 : decode cX11_judge 6 = .ok (.ifCond .ne 5, 3) := by decide +kernel
theorem dX11_judge_9 : decode cX11_judge 9 = .ok (.iconst (-1), 1) := by decide +kernel
theorem dX11_judge_10 : decode cX11_judge 10 = .ok (.ireturn, 1) := by decide +kernel
theorem dX11_judge_11 : decode cX11_judge 11 = .ok (.aload_n 0, 1) := by decide +kernel
theorem dX11_judge_12 : decode cX11_judge 12 = .ok (.getfield 59, 3) := by decide +kernel
theorem dX11_judge_15 : decode cX11_judge 15 = .ok (.iload_n 1, 1) := by decide +kernel
theorem dX11_judge_16 : decode cX11_judge 16 = .ok (.baload, 1) := by decide +kernel
theorem dX11_judge_17 : decode cX11_judge 17 = .ok (.ifCond .eq 16, 3) := by decide +kernel
theorem dX11_judge_20 : decode cX11_judge 20 = .ok (.aload_n 0, 1) := by decide +kernel
theorem dX11_judge_21 : decode cX11_judge 21 = .ok (.getfield 53, 3) := by decide +kernel
theorem dX11_judge_24 : decode cX11_judge 24 = .ok (.iload_n 1, 1) := by decide +kernel
theorem dX11_judge_25 : decode cX11_judge 25 = .ok (.iaload, 1) := by decide +kernel
theorem dX11_judge_26 : decode cX11_judge 26 = .ok (.iconst 3, 1) := by decide +kernel
theorem dX11_judge_27 : decode cX11_judge 27 = .ok (.if_icmp .eq 6, 3) := by decide +kernel
theorem dX11_judge_30 : decode cX11_judge 30 = .ok (.bipush (-12), 2) := by decide +kernel
theorem dX11_judge_32 : decode cX11_judge 32 = .ok (.ireturn, 1) := by decide +kernel
theorem dX11_judge_33 : decode cX11_judge 33 = .ok (.aload_n 0, 1) := by decide +kernel
theorem dX11_judge_34 : decode cX11_judge 34 = .ok (.getfield 9, 3) := by decide +kernel
theorem dX11_judge_37 : decode cX11_judge 37 = .ok (.iconst 0, 1) := by decide +kernel
theorem dX11_judge_38 : decode cX11_judge 38 = .ok (.iaload, 1) := by decide +kernel
theorem dX11_judge_39 : decode cX11_judge 39 = .ok (.ifCond .ne 6, 3) := by decide +kernel
theorem dX11_judge_42 : decode cX11_judge 42 = .ok (.bipush (-5), 2) := by decide +kernel
theorem dX11_judge_44 : decode cX11_judge 44 = .ok (.ireturn, 1) := by decide +kernel
theorem dX11_judge_45 : decode cX11_judge 45 = .ok (.aload_n 0, 1) := by decide +kernel
theorem dX11_judge_46 : decode cX11_judge 46 = .ok (.getfield 59, 3) := by decide +kernel
theorem dX11_judge_49 : decode cX11_judge 49 = .ok (.iload_n 1, 1) := by decide +kernel
theorem dX11_judge_50 : decode cX11_judge 50 = .ok (.baload, 1) := by decide +kernel
theorem dX11_judge_51 : decode cX11_judge 51 = .ok (.ifCond .eq 7, 3) := by decide +kernel
theorem dX11_judge_54 : decode cX11_judge 54 = .ok (.iload_n 2, 1) := by decide +kernel
theorem dX11_judge_55 : decode cX11_judge 55 = .ok (.ifCond .ge 6, 3) := by decide +kernel
theorem dX11_judge_58 : decode cX11_judge 58 = .ok (.bipush 100, 2) := by decide +kernel
theorem dX11_judge_60 : decode cX11_judge 60 = .ok (.ireturn, 1) := by decide +kernel
theorem dX11_judge_61 : decode cX11_judge 61 = .ok (.iconst 0, 1) := by decide +kernel
theorem dX11_judge_62 : decode cX11_judge 62 = .ok (.istore_n 3, 1) := by decide +kernel
theorem dX11_judge_63 : decode cX11_judge 63 = .ok (.iload_n 3, 1) := by decide +kernel
theorem dX11_judge_64 : decode cX11_judge 64 = .ok (.aload_n 0, 1) := by decide +kernel
theorem dX11_judge_65 : decode cX11_judge 65 = .ok (.getfield 9, 3) := by decide +kernel
theorem dX11_judge_68 : decode cX11_judge 68 = .ok (.iconst 0, 1) := by decide +kernel
theorem dX11_judge_69 : decode cX11_judge 69 = .ok (.iaload, 1) := by decide +kernel
theorem dX11_judge_70 : decode cX11_judge 70 = .ok (.if_icmp .ge 54, 3) := by decide +kernel
theorem dX11_judge_73 : decode cX11_judge 73 = .ok (.iload_n 2, 1) := by decide +kernel
theorem dX11_judge_74 : decode cX11_judge 74 = .ok (.aload_n 0, 1) := by decide +kernel
theorem dX11_judge_75 : decode cX11_judge 75 = .ok (.getfield 56, 3) := by decide +kernel
theorem dX11_judge_78 : decode cX11_judge 78 = .ok (.iload_n 1, 1) := by decide +kernel
theorem dX11_judge_79 : decode cX11_judge 79 = .ok (.iaload, 1) := by decide +kernel
theorem dX11_judge_80 : decode cX11_judge 80 = .ok (.iconst 1, 1) := by decide +kernel
theorem dX11_judge_81 : decode cX11_judge 81 = .ok (.isub, 1) := by decide +kernel
theorem dX11_judge_82 : decode cX11_judge 82 = .ok (.iload_n 3, 1) := by decide +kernel
theorem dX11_judge_83 : decode cX11_judge 83 = .ok (.isub, 1) := by decide +kernel
theorem dX11_judge_84 : decode cX11_judge 84 = .ok (.if_icmp .le 8, 3) := by decide +kernel
theorem dX11_judge_87 : decode cX11_judge 87 = .ok (.bipush 100, 2) := by decide +kernel
theorem dX11_judge_89 : decode cX11_judge 89 = .ok (.iload_n 3, 1) := by decide +kernel
theorem dX11_judge_90 : decode cX11_judge 90 = .ok (.iadd, 1) := by decide +kernel
theorem dX11_judge_91 : decode cX11_judge 91 = .ok (.ireturn, 1) := by decide +kernel
theorem dX11_judge_92 : decode cX11_judge 92 = .ok (.aload_n 0, 1) := by decide +kernel
theorem dX11_judge_93 : decode cX11_judge 93 = .ok (.getfield 63, 3) := by decide +kernel
theorem dX11_judge_96 : decode cX11_judge 96 = .ok (.bipush 60, 2) := by decide +kernel
theorem dX11_judge_98 : decode cX11_judge 98 = .ok (.iload_n 1, 1) := by decide +kernel
theorem dX11_judge_99 : decode cX11_judge 99 = .ok (.imul, 1) := by decide +kernel
theorem dX11_judge_100 : decode cX11_judge 100 = .ok (.iload_n 2, 1) := by decide +kernel
theorem dX11_judge_101 : decode cX11_judge 101 = .ok (.iadd, 1) := by decide +kernel
theorem dX11_judge_102 : decode cX11_judge 102 = .ok (.iload_n 3, 1) := by decide +kernel
theorem dX11_judge_103 : decode cX11_judge 103 = .ok (.iadd, 1) := by decide +kernel
theorem dX11_judge_104 : decode cX11_judge 104 = .ok (.laload, 1) := by decide +kernel
theorem dX11_judge_105 : decode cX11_judge 105 = .ok (.aload_n 0, 1) := by decide +kernel
theorem dX11_judge_106 : decode cX11_judge 106 = .ok (.iload_n 3, 1) := by decide +kernel
theorem dX11_judge_107 : decode cX11_judge 107 = .ok (.iconst 2, 1) := by decide +kernel
theorem dX11_judge_108 : decode cX11_judge 108 = .ok (.invokevirtual 162, 3) := by decide +kernel
theorem dX11_judge_111 : decode cX11_judge 111 = .ok (.i2l, 1) := by decide +kernel
theorem dX11_judge_112 : decode cX11_judge 112 = .ok (.lcmp, 1) := by decide +kernel
theorem dX11_judge_113 : decode cX11_judge 113 = .ok (.ifCond .eq 5, 3) := by decide +kernel
theorem dX11_judge_116 : decode cX11_judge 116 = .ok (.iload_n 3, 1) := by decide +kernel
theorem dX11_judge_117 : decode cX11_judge 117 = .ok (.ireturn, 1) := by decide +kernel
theorem dX11_judge_118 : decode cX11_judge 118 = .ok (.iinc 3 1, 3) := by decide +kernel
theorem dX11_judge_121 : decode cX11_judge 121 = .ok (.goto (-58), 3) := by decide +kernel
theorem dX11_judge_124 : decode cX11_judge 124 = .ok (.bipush (-5), 2) := by decide +kernel
theorem dX11_judge_126 : decode cX11_judge 126 = .ok (.ireturn, 1) := by decide +kernel
theorem dX11_image_0 : decode cX11_image 0 = .ok (.iconst 0, 1) := by decide +kernel
theorem dX11_image_1 : decode cX11_image 1 = .ok (.istore_n 1, 1) := by decide +kernel
theorem dX11_image_2 : decode cX11_image 2 = .ok (.iload_n 1, 1) := by decide +kernel
theorem dX11_image_3 : decode cX11_image 3 = .ok (.bipush 70, 2) := by decide +kernel
theorem dX11_image_5 : decode cX11_image 5 = .ok (.if_icmp .ge 21, 3) := by decide +kernel
theorem dX11_image_8 : decode cX11_image 8 = .ok (.aload_n 0, 1) := by decide +kernel
theorem dX11_image_9 : decode cX11_image 9 = .ok (.getfield 13, 3) := by decide +kernel
theorem dX11_image_12 : decode cX11_image 12 = .ok (.iload_n 1, 1) := by decide +kernel
theorem dX11_image_13 : decode cX11_image 13 = .ok (.aload_n 0, 1) := by decide +kernel
theorem dX11_image_14 : decode cX11_image 14 = .ok (.getfield 9, 3) := by decide +kernel
theorem dX11_image_17 : decode cX11_image 17 = .ok (.iload_n 1, 1) := by decide +kernel
theorem dX11_image_18 : decode cX11_image 18 = .ok (.iaload, 1) := by decide +kernel
theorem dX11_image_19 : decode cX11_image 19 = .ok (.iastore, 1) := by decide +kernel
theorem dX11_image_20 : decode cX11_image 20 = .ok (.iinc 1 1, 3) := by decide +kernel
theorem dX11_image_23 : decode cX11_image 23 = .ok (.goto (-21), 3) := by decide +kernel
theorem dX11_image_26 : decode cX11_image 26 = .ok (.aload_n 0, 1) := by decide +kernel
theorem dX11_image_27 : decode cX11_image 27 = .ok (.iconst 1, 1) := by decide +kernel
theorem dX11_image_28 : decode cX11_image 28 = .ok (.putfield 286, 3) := by decide +kernel
theorem dX11_image_31 : decode cX11_image 31 = .ok (.aload_n 0, 1) := by decide +kernel
theorem dX11_image_32 : decode cX11_image 32 = .ok (.getfield 9, 3) := by decide +kernel
theorem dX11_image_35 : decode cX11_image 35 = .ok (.iconst 0, 1) := by decide +kernel
theorem dX11_image_36 : decode cX11_image 36 = .ok (.iaload, 1) := by decide +kernel
theorem dX11_image_37 : decode cX11_image 37 = .ok (.ireturn, 1) := by decide +kernel
theorem dX11_undo_0 : decode cX11_undo 0 = .ok (.aload_n 0, 1) := by decide +kernel
theorem dX11_undo_1 : decode cX11_undo 1 = .ok (.getfield 286, 3) := by decide +kernel
theorem dX11_undo_4 : decode cX11_undo 4 = .ok (.ifCond .ne 6, 3) := by decide +kernel
theorem dX11_undo_7 : decode cX11_undo 7 = .ok (.bipush (-3), 2) := by decide +kernel
theorem dX11_undo_9 : decode cX11_undo 9 = .ok (.ireturn, 1) := by decide +kernel
theorem dX11_undo_10 : decode cX11_undo 10 = .ok (.iconst 0, 1) := by decide +kernel
theorem dX11_undo_11 : decode cX11_undo 11 = .ok (.istore_n 1, 1) := by decide +kernel
theorem dX11_undo_12 : decode cX11_undo 12 = .ok (.iload_n 1, 1) := by decide +kernel
theorem dX11_undo_13 : decode cX11_undo 13 = .ok (.bipush 70, 2) := by decide +kernel
theorem dX11_undo_15 : decode cX11_undo 15 = .ok (.if_icmp .ge 21, 3) := by decide +kernel
theorem dX11_undo_18 : decode cX11_undo 18 = .ok (.aload_n 0, 1) := by decide +kernel
theorem dX11_undo_19 : decode cX11_undo 19 = .ok (.getfield 9, 3) := by decide +kernel
theorem dX11_undo_22 : decode cX11_undo 22 = .ok (.iload_n 1, 1) := by decide +kernel
theorem dX11_undo_23 : decode cX11_undo 23 = .ok (.aload_n 0, 1) := by decide +kernel
theorem dX11_undo_24 : decode cX11_undo 24 = .ok (.getfield 13, 3) := by decide +kernel
theorem dX11_undo_27 : decode cX11_undo 27 = .ok (.iload_n 1, 1) := by decide +kernel
theorem dX11_undo_28 : decode cX11_undo 28 = .ok (.iaload, 1) := by decide +kernel
theorem dX11_undo_29 : decode cX11_undo 29 = .ok (.iastore, 1) := by decide +kernel
theorem dX11_undo_30 : decode cX11_undo 30 = .ok (.iinc 1 1, 3) := by decide +kernel
theorem dX11_undo_33 : decode cX11_undo 33 = .ok (.goto (-21), 3) := by decide +kernel
theorem dX11_undo_36 : decode cX11_undo 36 = .ok (.aload_n 0, 1) := by decide +kernel
theorem dX11_undo_37 : decode cX11_undo 37 = .ok (.getfield 9, 3) := by decide +kernel
theorem dX11_undo_40 : decode cX11_undo 40 = .ok (.iconst 0, 1) := by decide +kernel
theorem dX11_undo_41 : decode cX11_undo 41 = .ok (.iaload, 1) := by decide +kernel
theorem dX11_undo_42 : decode cX11_undo 42 = .ok (.ireturn, 1) := by decide +kernel
theorem dX11_count_0 : decode cX11_count 0 = .ok (.iload_n 1, 1) := by decide +kernel
theorem dX11_count_1 : decode cX11_count 1 = .ok (.tableswitch 75 0 5 #[39, 46, 51, 58, 65, 70], 39) := by decide +kernel
theorem dX11_count_40 : decode cX11_count 40 = .ok (.aload_n 0, 1) := by decide +kernel
theorem dX11_count_41 : decode cX11_count 41 = .ok (.getfield 9, 3) := by decide +kernel
theorem dX11_count_44 : decode cX11_count 44 = .ok (.iconst 0, 1) := by decide +kernel
theorem dX11_count_45 : decode cX11_count 45 = .ok (.iaload, 1) := by decide +kernel
theorem dX11_count_46 : decode cX11_count 46 = .ok (.ireturn, 1) := by decide +kernel
theorem dX11_count_47 : decode cX11_count 47 = .ok (.aload_n 0, 1) := by decide +kernel
theorem dX11_count_48 : decode cX11_count 48 = .ok (.getfield 136, 3) := by decide +kernel
theorem dX11_count_51 : decode cX11_count 51 = .ok (.ireturn, 1) := by decide +kernel
theorem dX11_count_52 : decode cX11_count 52 = .ok (.aload_n 0, 1) := by decide +kernel
theorem dX11_count_53 : decode cX11_count 53 = .ok (.getfield 9, 3) := by decide +kernel
theorem dX11_count_56 : decode cX11_count 56 = .ok (.iconst 2, 1) := by decide +kernel
theorem dX11_count_57 : decode cX11_count 57 = .ok (.iaload, 1) := by decide +kernel
theorem dX11_count_58 : decode cX11_count 58 = .ok (.ireturn, 1) := by decide +kernel
theorem dX11_count_59 : decode cX11_count 59 = .ok (.aload_n 0, 1) := by decide +kernel
theorem dX11_count_60 : decode cX11_count 60 = .ok (.getfield 9, 3) := by decide +kernel
theorem dX11_count_63 : decode cX11_count 63 = .ok (.iconst 3, 1) := by decide +kernel
theorem dX11_count_64 : decode cX11_count 64 = .ok (.iaload, 1) := by decide +kernel
theorem dX11_count_65 : decode cX11_count 65 = .ok (.ireturn, 1) := by decide +kernel
theorem dX11_count_66 : decode cX11_count 66 = .ok (.aload_n 0, 1) := by decide +kernel
theorem dX11_count_67 : decode cX11_count 67 = .ok (.getfield 70, 3) := by decide +kernel
theorem dX11_count_70 : decode cX11_count 70 = .ok (.ireturn, 1) := by decide +kernel
theorem dX11_count_71 : decode cX11_count 71 = .ok (.aload_n 0, 1) := by decide +kernel
theorem dX11_count_72 : decode cX11_count 72 = .ok (.getfield 265, 3) := by decide +kernel
theorem dX11_count_75 : decode cX11_count 75 = .ok (.ireturn, 1) := by decide +kernel
theorem dX11_count_76 : decode cX11_count 76 = .ok (.bipush (-2), 2) := by decide +kernel
theorem dX11_count_78 : decode cX11_count 78 = .ok (.ireturn, 1) := by decide +kernel
theorem dX11_tape_0 : decode cX11_tape 0 = .ok (.iload_n 1, 1) := by decide +kernel
theorem dX11_tape_1 : decode cX11_tape 1 = .ok (.bipush 6, 2) := by decide +kernel
theorem dX11_tape_3 : decode cX11_tape 3 = .ok (.invokestatic 66, 3) := by decide +kernel
theorem dX11_tape_6 : decode cX11_tape 6 = .ok (.ifCond .ne 5, 3) := by decide +kernel
theorem dX11_tape_9 : decode cX11_tape 9 = .ok (.iconst (-1), 1) := by decide +kernel
theorem dX11_tape_10 : decode cX11_tape 10 = .ok (.ireturn, 1) := by decide +kernel
theorem dX11_tape_11 : decode cX11_tape 11 = .ok (.iload_n 2, 1) := by decide +kernel
theorem dX11_tape_12 : decode cX11_tape 12 = .ok (.iconst (-1), 1) := by decide +kernel
theorem dX11_tape_13 : decode cX11_tape 13 = .ok (.if_icmp .lt 18, 3) := by decide +kernel
theorem dX11_tape_16 : decode cX11_tape 16 = .ok (.iload_n 2, 1) := by decide +kernel
theorem dX11_tape_17 : decode cX11_tape 17 = .ok (.iconst 4, 1) := by decide +kernel
theorem dX11_tape_18 : decode cX11_tape 18 = .ok (.if_icmp .gt 13, 3) := by decide +kernel
theorem dX11_tape_21 : decode cX11_tape 21 = .ok (.iload_n 2, 1) := by decide +kernel
theorem dX11_tape_22 : decode cX11_tape 22 = .ok (.ifCond .lt 12, 3) := by decide +kernel
theorem dX11_tape_25 : decode cX11_tape 25 = .ok (.iload_n 3, 1) := by decide +kernel
theorem dX11_tape_26 : decode cX11_tape 26 = .ok (.bipush 60, 2) := by decide +kernel
theorem dX11_tape_28 : decode cX11_tape 28 = .ok (.if_icmp .le 6, 3) := by decide +kernel
theorem dX11_tape_31 : decode cX11_tape 31 = .ok (.bipush (-2), 2) := by decide +kernel
theorem dX11_tape_33 : decode cX11_tape 33 = .ok (.ireturn, 1) := by decide +kernel
theorem dX11_tape_34 : decode cX11_tape 34 = .ok (.iload_n 2, 1) := by decide +kernel
theorem dX11_tape_35 : decode cX11_tape 35 = .ok (.ifCond .lt 10, 3) := by decide +kernel
theorem dX11_tape_38 : decode cX11_tape 38 = .ok (.iload_n 3, 1) := by decide +kernel
theorem dX11_tape_39 : decode cX11_tape 39 = .ok (.ifCond .ge 6, 3) := by decide +kernel
theorem dX11_tape_42 : decode cX11_tape 42 = .ok (.bipush (-14), 2) := by decide +kernel
theorem dX11_tape_44 : decode cX11_tape 44 = .ok (.ireturn, 1) := by decide +kernel
theorem dX11_tape_45 : decode cX11_tape 45 = .ok (.aload_n 0, 1) := by decide +kernel
theorem dX11_tape_46 : decode cX11_tape 46 = .ok (.getfield 59, 3) := by decide +kernel
theorem dX11_tape_49 : decode cX11_tape 49 = .ok (.iload_n 1, 1) := by decide +kernel
theorem dX11_tape_50 : decode cX11_tape 50 = .ok (.iload_n 2, 1) := by decide +kernel
theorem dX11_tape_51 : decode cX11_tape 51 = .ok (.ifCond .lt 7, 3) := by decide +kernel
theorem dX11_tape_54 : decode cX11_tape 54 = .ok (.iconst 1, 1) := by decide +kernel
theorem dX11_tape_55 : decode cX11_tape 55 = .ok (.goto 4, 3) := by decide +kernel
theorem dX11_tape_58 : decode cX11_tape 58 = .ok (.iconst 0, 1) := by decide +kernel
theorem dX11_tape_59 : decode cX11_tape 59 = .ok (.bastore, 1) := by decide +kernel
theorem dX11_tape_60 : decode cX11_tape 60 = .ok (.aload_n 0, 1) := by decide +kernel
theorem dX11_tape_61 : decode cX11_tape 61 = .ok (.getfield 53, 3) := by decide +kernel
theorem dX11_tape_64 : decode cX11_tape 64 = .ok (.iload_n 1, 1) := by decide +kernel
theorem dX11_tape_65 : decode cX11_tape 65 = .ok (.iload_n 2, 1) := by decide +kernel
theorem dX11_tape_66 : decode cX11_tape 66 = .ok (.iastore, 1) := by decide +kernel
theorem dX11_tape_67 : decode cX11_tape 67 = .ok (.aload_n 0, 1) := by decide +kernel
theorem dX11_tape_68 : decode cX11_tape 68 = .ok (.getfield 56, 3) := by decide +kernel
theorem dX11_tape_71 : decode cX11_tape 71 = .ok (.iload_n 1, 1) := by decide +kernel
theorem dX11_tape_72 : decode cX11_tape 72 = .ok (.iload_n 2, 1) := by decide +kernel
theorem dX11_tape_73 : decode cX11_tape 73 = .ok (.ifCond .ge 7, 3) := by decide +kernel
theorem dX11_tape_76 : decode cX11_tape 76 = .ok (.iconst 0, 1) := by decide +kernel
theorem dX11_tape_77 : decode cX11_tape 77 = .ok (.goto 4, 3) := by decide +kernel
theorem dX11_tape_80 : decode cX11_tape 80 = .ok (.iload_n 3, 1) := by decide +kernel
theorem dX11_tape_81 : decode cX11_tape 81 = .ok (.iastore, 1) := by decide +kernel
theorem dX11_tape_82 : decode cX11_tape 82 = .ok (.iconst 0, 1) := by decide +kernel
theorem dX11_tape_83 : decode cX11_tape 83 = .ok (.istore 4, 2) := by decide +kernel
theorem dX11_tape_85 : decode cX11_tape 85 = .ok (.iload 4, 2) := by decide +kernel
theorem dX11_tape_87 : decode cX11_tape 87 = .ok (.bipush 60, 2) := by decide +kernel
theorem dX11_tape_89 : decode cX11_tape 89 = .ok (.if_icmp .ge 22, 3) := by decide +kernel
theorem dX11_tape_92 : decode cX11_tape 92 = .ok (.aload_n 0, 1) := by decide +kernel
theorem dX11_tape_93 : decode cX11_tape 93 = .ok (.getfield 63, 3) := by decide +kernel
theorem dX11_tape_96 : decode cX11_tape 96 = .ok (.bipush 60, 2) := by decide +kernel
theorem dX11_tape_98 : decode cX11_tape 98 = .ok (.iload_n 1, 1) := by decide +kernel
theorem dX11_tape_99 : decode cX11_tape 99 = .ok (.imul, 1) := by decide +kernel
theorem dX11_tape_100 : decode cX11_tape 100 = .ok (.iload 4, 2) := by decide +kernel
theorem dX11_tape_102 : decode cX11_tape 102 = .ok (.iadd, 1) := by decide +kernel
theorem dX11_tape_103 : decode cX11_tape 103 = .ok (.lconst 0, 1) := by decide +kernel
theorem dX11_tape_104 : decode cX11_tape 104 = .ok (.lastore, 1) := by decide +kernel
theorem dX11_tape_105 : decode cX11_tape 105 = .ok (.iinc 4 1, 3) := by decide +kernel
theorem dX11_tape_108 : decode cX11_tape 108 = .ok (.goto (-23), 3) := by decide +kernel
theorem dX11_tape_111 : decode cX11_tape 111 = .ok (.iconst 1, 1) := by decide +kernel
theorem dX11_tape_112 : decode cX11_tape 112 = .ok (.ireturn, 1) := by decide +kernel
theorem dX11_item_0 : decode cX11_item 0 = .ok (.iload_n 1, 1) := by decide +kernel
theorem dX11_item_1 : decode cX11_item 1 = .ok (.bipush 6, 2) := by decide +kernel
theorem dX11_item_3 : decode cX11_item 3 = .ok (.invokestatic 66, 3) := by decide +kernel
theorem dX11_item_6 : decode cX11_item 6 = .ok (.ifCond .ne 5, 3) := by decide +kernel
theorem dX11_item_9 : decode cX11_item 9 = .ok (.iconst (-1), 1) := by decide +kernel
theorem dX11_item_10 : decode cX11_item 10 = .ok (.ireturn, 1) := by decide +kernel
theorem dX11_item_11 : decode cX11_item 11 = .ok (.aload_n 0, 1) := by decide +kernel
theorem dX11_item_12 : decode cX11_item 12 = .ok (.getfield 59, 3) := by decide +kernel
theorem dX11_item_15 : decode cX11_item 15 = .ok (.iload_n 1, 1) := by decide +kernel
theorem dX11_item_16 : decode cX11_item 16 = .ok (.baload, 1) := by decide +kernel
theorem dX11_item_17 : decode cX11_item 17 = .ok (.ifCond .ne 6, 3) := by decide +kernel
theorem dX11_item_20 : decode cX11_item 20 = .ok (.bipush (-11), 2) := by decide +kernel
theorem dX11_item_22 : decode cX11_item 22 = .ok (.ireturn, 1) := by decide +kernel
theorem dX11_item_23 : decode cX11_item 23 = .ok (.iload_n 2, 1) := by decide +kernel
theorem dX11_item_24 : decode cX11_item 24 = .ok (.aload_n 0, 1) := by decide +kernel
theorem dX11_item_25 : decode cX11_item 25 = .ok (.getfield 56, 3) := by decide +kernel
theorem dX11_item_28 : decode cX11_item 28 = .ok (.iload_n 1, 1) := by decide +kernel
theorem dX11_item_29 : decode cX11_item 29 = .ok (.iaload, 1) := by decide +kernel
theorem dX11_item_30 : decode cX11_item 30 = .ok (.invokestatic 66, 3) := by decide +kernel
theorem dX11_item_33 : decode cX11_item 33 = .ok (.ifCond .ne 6, 3) := by decide +kernel
theorem dX11_item_36 : decode cX11_item 36 = .ok (.bipush (-13), 2) := by decide +kernel
theorem dX11_item_38 : decode cX11_item 38 = .ok (.ireturn, 1) := by decide +kernel
theorem dX11_item_39 : decode cX11_item 39 = .ok (.aload_n 0, 1) := by decide +kernel
theorem dX11_item_40 : decode cX11_item 40 = .ok (.getfield 63, 3) := by decide +kernel
theorem dX11_item_43 : decode cX11_item 43 = .ok (.bipush 60, 2) := by decide +kernel
theorem dX11_item_45 : decode cX11_item 45 = .ok (.iload_n 1, 1) := by decide +kernel
theorem dX11_item_46 : decode cX11_item 46 = .ok (.imul, 1) := by decide +kernel
theorem dX11_item_47 : decode cX11_item 47 = .ok (.iload_n 2, 1) := by decide +kernel
theorem dX11_item_48 : decode cX11_item 48 = .ok (.iadd, 1) := by decide +kernel
theorem dX11_item_49 : decode cX11_item 49 = .ok (.aload_n 0, 1) := by decide +kernel
theorem dX11_item_50 : decode cX11_item 50 = .ok (.getfield 53, 3) := by decide +kernel
theorem dX11_item_53 : decode cX11_item 53 = .ok (.iload_n 1, 1) := by decide +kernel
theorem dX11_item_54 : decode cX11_item 54 = .ok (.iaload, 1) := by decide +kernel
theorem dX11_item_55 : decode cX11_item 55 = .ok (.ifCond .ne 10, 3) := by decide +kernel
theorem dX11_item_58 : decode cX11_item 58 = .ok (.lload_n 3, 1) := by decide +kernel
theorem dX11_item_59 : decode cX11_item 59 = .ok (.l2i, 1) := by decide +kernel
theorem dX11_item_60 : decode cX11_item 60 = .ok (.i2b, 1) := by decide +kernel
theorem dX11_item_61 : decode cX11_item 61 = .ok (.i2l, 1) := by decide +kernel
theorem dX11_item_62 : decode cX11_item 62 = .ok (.goto 61, 3) := by decide +kernel
theorem dX11_item_65 : decode cX11_item 65 = .ok (.aload_n 0, 1) := by decide +kernel
theorem dX11_item_66 : decode cX11_item 66 = .ok (.getfield 53, 3) := by decide +kernel
theorem dX11_item_69 : decode cX11_item 69 = .ok (.iload_n 1, 1) := by decide +kernel
theorem dX11_item_70 : decode cX11_item 70 = .ok (.iaload, 1) := by decide +kernel
theorem dX11_item_71 : decode cX11_item 71 = .ok (.iconst 1, 1) := by decide +kernel
theorem dX11_item_72 : decode cX11_item 72 = .ok (.if_icmp .ne 10, 3) := by decide +kernel
theorem dX11_item_75 : decode cX11_item 75 = .ok (.lload_n 3, 1) := by decide +kernel
theorem dX11_item_76 : decode cX11_item 76 = .ok (.l2i, 1) := by decide +kernel
theorem dX11_item_77 : decode cX11_item 77 = .ok (.i2s, 1) := by decide +kernel
theorem dX11_item_78 : decode cX11_item 78 = .ok (.i2l, 1) := by decide +kernel
theorem dX11_item_79 : decode cX11_item 79 = .ok (.goto 44, 3) := by decide +kernel
theorem dX11_item_82 : decode cX11_item 82 = .ok (.aload_n 0, 1) := by decide +kernel
theorem dX11_item_83 : decode cX11_item 83 = .ok (.getfield 53, 3) := by decide +kernel
theorem dX11_item_86 : decode cX11_item 86 = .ok (.iload_n 1, 1) := by decide +kernel
theorem dX11_item_87 : decode cX11_item 87 = .ok (.iaload, 1) := by decide +kernel
theorem dX11_item_88 : decode cX11_item 88 = .ok (.iconst 2, 1) := by decide +kernel
theorem dX11_item_89 : decode cX11_item 89 = .ok (.if_icmp .ne 9, 3) := by decide +kernel
theorem dX11_item_92 : decode cX11_item 92 = .ok (.lload_n 3, 1) := by decide +kernel
theorem dX11_item_93 : decode cX11_item 93 = .ok (.l2i, 1) := by decide +kernel
theorem dX11_item_94 : decode cX11_item 94 = .ok (.i2l, 1) := by decide +kernel
theorem dX11_item_95 : decode cX11_item 95 = .ok (.goto 28, 3) := by decide +kernel
theorem dX11_item_98 : decode cX11_item 98 = .ok (.aload_n 0, 1) := by decide +kernel
theorem dX11_item_99 : decode cX11_item 99 = .ok (.getfield 53, 3) := by decide +kernel
theorem dX11_item_102 : decode cX11_item 102 = .ok (.iload_n 1, 1) := by decide +kernel
theorem dX11_item_103 : decode cX11_item 103 = .ok (.iaload, 1) := by decide +kernel
theorem dX11_item_104 : decode cX11_item 104 = .ok (.iconst 3, 1) := by decide +kernel
theorem dX11_item_105 : decode cX11_item 105 = .ok (.if_icmp .ne 7, 3) := by decide +kernel
theorem dX11_item_108 : decode cX11_item 108 = .ok (.lload_n 3, 1) := by decide +kernel
theorem dX11_item_109 : decode cX11_item 109 = .ok (.goto 14, 3) := by decide +kernel
theorem dX11_item_112 : decode cX11_item 112 = .ok (.lload_n 3, 1) := by decide +kernel
theorem dX11_item_113 : decode cX11_item 113 = .ok (.lconst 0, 1) := by decide +kernel
theorem dX11_item_114 : decode cX11_item 114 = .ok (.lcmp, 1) := by decide +kernel
theorem dX11_item_115 : decode cX11_item 115 = .ok (.ifCond .eq 7, 3) := by decide +kernel
theorem dX11_item_118 : decode cX11_item 118 = .ok (.lconst 1, 1) := by decide +kernel
theorem dX11_item_119 : decode cX11_item 119 = .ok (.goto 4, 3) := by decide +kernel
theorem dX11_item_122 : decode cX11_item 122 = .ok (.lconst 0, 1) := by decide +kernel
theorem dX11_item_123 : decode cX11_item 123 = .ok (.lastore, 1) := by decide +kernel
theorem dX11_item_124 : decode cX11_item 124 = .ok (.iconst 1, 1) := by decide +kernel
theorem dX11_item_125 : decode cX11_item 125 = .ok (.ireturn, 1) := by decide +kernel
