theorem dX7_add_1 : decode cX7_add 1 = .ok (.getfield 19, 3) := by decide +kernel
theorem dX7_add_4 : decode cX7_add 4 = .ok (.ifCond .lt 12, 3) := by decide +kernel
theorem dX7_add_7 : decode cX7_add 7 = .ok (.aload_n 0, 1) := by decide +kernel
theorem dX7_add_8 : decode cX7_add 8 = .ok (.getfield 19, 3) := by decide +kernel
theorem dX7_add_11 : decode cX7_add 11 = .ok (.bipush 100, 2) := by decide +kernel
theorem dX7_add_13 : decode cX7_add 13 = .ok (.if_icmp .lt 5, 3) := by decide +kernel
theorem dX7_add_16 : decode cX7_add 16 = .ok (.iconst 0, 1) := by decide +kernel
theorem dX7_add_17 : decode cX7_add 17 = .ok (.ireturn, 1) := by decide +kernel
theorem dX7_add_18 : decode cX7_add 18 = .ok (.aload_n 0, 1) := by decide +kernel
theorem dX7_add_19 : decode cX7_add 19 = .ok (.getfield 9, 3) := by decide +kernel
theorem dX7_add_22 : decode cX7_add 22 = .ok (.aload_n 0, 1) := by decide +kernel
theorem dX7_add_23 : decode cX7_add 23 = .ok (.getfield 19, 3) := by decide +kernel
theorem dX7_add_26 : decode cX7_add 26 = .ok (.iload_n 1, 1) := by decide +kernel
theorem dX7_add_27 : decode cX7_add 27 = .ok (.i2b, 1) := by decide +kernel
theorem dX7_add_28 : decode cX7_add 28 = .ok (.bastore, 1) := by decide +kernel
theorem dX7_add_29 : decode cX7_add 29 = .ok (.aload_n 0, 1) := by decide +kernel
theorem dX7_add_30 : decode cX7_add 30 = .ok (.dup, 1) := by decide +kernel
theorem dX7_add_31 : decode cX7_add 31 = .ok (.getfield 19, 3) := by decide +kernel
theorem dX7_add_34 : decode cX7_add 34 = .ok (.iconst 1, 1) := by decide +kernel
theorem dX7_add_35 : decode cX7_add 35 = .ok (.iadd, 1) := by decide +kernel
theorem dX7_add_36 : decode cX7_add 36 = .ok (.putfield 19, 3) := by decide +kernel
theorem dX7_add_39 : decode cX7_add 39 = .ok (.iconst 1, 1) := by decide +kernel
theorem dX7_add_40 : decode cX7_add 40 = .ok (.ireturn, 1) := by decide +kernel
theorem dX7_parsed_0 : decode cX7_parsed 0 = .ok (.aload_n 0, 1) := by decide +kernel
theorem dX7_parsed_1 : decode cX7_parsed 1 = .ok (.iconst 0, 1) := by decide +kernel
theorem dX7_parsed_2 : decode cX7_parsed 2 = .ok (.putfield 23, 3) := by decide +kernel
theorem dX7_parsed_5 : decode cX7_parsed 5 = .ok (.aload_n 0, 1) := by decide +kernel
theorem dX7_parsed_6 : decode cX7_parsed 6 = .ok (.iconst 0, 1) := by decide +kernel
theorem dX7_parsed_7 : decode cX7_parsed 7 = .ok (.putfield 26, 3) := by decide +kernel
theorem dX7_parsed_10 : decode cX7_parsed 10 = .ok (.aload_n 0, 1) := by decide +kernel
theorem dX7_parsed_11 : decode cX7_parsed 11 = .ok (.iconst 2, 1) := by decide +kernel
theorem dX7_parsed_12 : decode cX7_parsed 12 = .ok (.putfield 30, 3) := by decide +kernel
theorem dX7_parsed_15 : decode cX7_parsed 15 = .ok (.aload_n 0, 1) := by decide +kernel
theorem dX7_parsed_16 : decode cX7_parsed 16 = .ok (.iconst 1, 1) := by decide +kernel
theorem dX7_parsed_17 : decode cX7_parsed 17 = .ok (.putfield 33, 3) := by decide +kernel
theorem dX7_parsed_20 : decode cX7_parsed 20 = .ok (.aload_n 0, 1) := by decide +kernel
theorem dX7_parsed_21 : decode cX7_parsed 21 = .ok (.getfield 15, 3) := by decide +kernel
theorem dX7_parsed_24 : decode cX7_parsed 24 = .ok (.lconst 0, 1) := by decide +kernel
theorem dX7_parsed_25 : decode cX7_parsed 25 = .ok (.invokestatic 36, 3) := by decide +kernel
theorem dX7_parsed_28 : decode cX7_parsed 28 = .ok (.aload_n 0, 1) := by decide +kernel
theorem dX7_parsed_29 : decode cX7_parsed 29 = .ok (.invokevirtual 42, 3) := by decide +kernel
theorem dX7_parsed_32 : decode cX7_parsed 32 = .ok (.iconst 1, 1) := by decide +kernel
theorem dX7_parsed_33 : decode cX7_parsed 33 = .ok (.istore_n 1, 1) := by decide +kernel
theorem dX7_parsed_34 : decode cX7_parsed 34 = .ok (.iload_n 1, 1) := by decide +kernel
theorem dX7_parsed_35 : decode cX7_parsed 35 = .ok (.bipush 10, 2) := by decide +kernel
theorem dX7_parsed_37 : decode cX7_parsed 37 = .ok (.if_icmp .ge 22, 3) := by decide +kernel
theorem dX7_parsed_40 : decode cX7_parsed 40 = .ok (.aload_n 0, 1) := by decide +kernel
theorem dX7_parsed_41 : decode cX7_parsed 41 = .ok (.bipush 59, 2) := by decide +kernel
theorem dX7_parsed_43 : decode cX7_parsed 43 = .ok (.invokevirtual 45, 3) := by decide +kernel
theorem dX7_parsed_46 : decode cX7_parsed 46 = .ok (.ifCond .eq 13, 3) := by decide +kernel
theorem dX7_parsed_49 : decode cX7_parsed 49 = .ok (.aload_n 0, 1) := by decide +kernel
theorem dX7_parsed_50 : decode cX7_parsed 50 = .ok (.invokevirtual 42, 3) := by decide +kernel
theorem dX7_parsed_53 : decode cX7_parsed 53 = .ok (.iinc 1 1, 3) := by decide +kernel
theorem dX7_parsed_56 : decode cX7_parsed 56 = .ok (.goto (-22), 3) := by decide +kernel
theorem dX7_parsed_59 : decode cX7_parsed 59 = .ok (.aload_n 0, 1) := by decide +kernel
theorem dX7_parsed_60 : decode cX7_parsed 60 = .ok (.getfield 26, 3) := by decide +kernel
theorem dX7_parsed_63 : decode cX7_parsed 63 = .ok (.ifCond .ne 14, 3) := by decide +kernel
theorem dX7_parsed_66 : decode cX7_parsed 66 = .ok (.aload_n 0, 1) := by decide +kernel
theorem dX7_parsed_67 : decode cX7_parsed 67 = .ok (.getfield 23, 3) := by decide +kernel
theorem dX7_parsed_70 : decode cX7_parsed 70 = .ok (.aload_n 0, 1) := by decide +kernel
theorem dX7_parsed_71 : decode cX7_parsed 71 = .ok (.getfield 19, 3) := by decide +kernel
theorem dX7_parsed_74 : decode cX7_parsed 74 = .ok (.if_icmp .ge 7, 3) := by decide +kernel
theorem dX7_parsed_77 : decode cX7_parsed 77 = .ok (.aconst_null, 1) := by decide +kernel
theorem dX7_parsed_78 : decode cX7_parsed 78 = .ok (.goto 22, 3) := by decide +kernel
theorem dX7_parsed_81 : decode cX7_parsed 81 = .ok (.new 49, 3) := by decide +kernel
theorem dX7_parsed_84 : decode cX7_parsed 84 = .ok (.dup, 1) := by decide +kernel
theorem dX7_parsed_85 : decode cX7_parsed 85 = .ok (.aload_n 0, 1) := by decide +kernel
theorem dX7_parsed_86 : decode cX7_parsed 86 = .ok (.getfield 30, 3) := by decide +kernel
theorem dX7_parsed_89 : decode cX7_parsed 89 = .ok (.aload_n 0, 1) := by decide +kernel
theorem dX7_parsed_90 : decode cX7_parsed 90 = .ok (.getfield 33, 3) := by decide +kernel
theorem dX7_parsed_93 : decode cX7_parsed 93 = .ok (.aload_n 0, 1) := by decide +kernel
theorem dX7_parsed_94 : decode cX7_parsed 94 = .ok (.getfield 15, 3) := by decide +kernel
theorem dX7_parsed_97 : decode cX7_parsed 97 = .ok (.invokespecial 51, 3) := by decide +kernel
theorem dX7_parsed_100 : decode cX7_parsed 100 = .ok (.areturn, 1) := by decide +kernel
theorem dX7_clause_0 : decode cX7_clause 0 = .ok (.aload_n 0, 1) := by decide +kernel
theorem dX7_clause_1 : decode cX7_clause 1 = .ok (.bipush 111, 2) := by decide +kernel
theorem dX7_clause_3 : decode cX7_clause 3 = .ok (.invokevirtual 45, 3) := by decide +kernel
theorem dX7_clause_6 : decode cX7_clause 6 = .ok (.ifCond .eq 28, 3) := by decide +kernel
theorem dX7_clause_9 : decode cX7_clause 9 = .ok (.aload_n 0, 1) := by decide +kernel
theorem dX7_clause_10 : decode cX7_clause 10 = .ok (.ldc 54, 2) := by decide +kernel
theorem dX7_clause_12 : decode cX7_clause 12 = .ok (.invokevirtual 56, 3) := by decide +kernel
theorem dX7_clause_15 : decode cX7_clause 15 = .ok (.aload_n 0, 1) := by decide +kernel
theorem dX7_clause_16 : decode cX7_clause 16 = .ok (.iconst 1, 1) := by decide +kernel
theorem dX7_clause_17 : decode cX7_clause 17 = .ok (.iconst 4, 1) := by decide +kernel
theorem dX7_clause_18 : decode cX7_clause 18 = .ok (.aload_n 0, 1) := by decide +kernel
theorem dX7_clause_19 : decode cX7_clause 19 = .ok (.invokevirtual 60, 3) := by decide +kernel
theorem dX7_clause_22 : decode cX7_clause 22 = .ok (.invokestatic 64, 3) := by decide +kernel
theorem dX7_clause_25 : decode cX7_clause 25 = .ok (.invokestatic 70, 3) := by decide +kernel
theorem dX7_clause_28 : decode cX7_clause 28 = .ok (.putfield 30, 3) := by decide +kernel
theorem dX7_clause_31 : decode cX7_clause 31 = .ok (.goto 153, 3) := by decide +kernel
theorem dX7_clause_34 : decode cX7_clause 34 = .ok (.aload_n 0, 1) := by decide +kernel
theorem dX7_clause_35 : decode cX7_clause 35 = .ok (.bipush 98, 2) := by decide +kernel
theorem dX7_clause_37 : decode cX7_clause 37 = .ok (.invokevirtual 45, 3) := by decide +kernel
theorem dX7_clause_40 : decode cX7_clause 40 = .ok (.ifCond .eq 28, 3) := by decide +kernel
theorem dX7_clause_43 : decode cX7_clause 43 = .ok (.aload_n 0, 1) := by decide +kernel
theorem dX7_clause_44 : decode cX7_clause 44 = .ok (.ldc 73, 2) := by decide +kernel
theorem dX7_clause_46 : decode cX7_clause 46 = .ok (.invokevirtual 56, 3) := by decide +kernel
theorem dX7_clause_49 : decode cX7_clause 49 = .ok (.aload_n 0, 1) := by decide +kernel
theorem dX7_clause_50 : decode cX7_clause 50 = .ok (.iconst 1, 1) := by decide +kernel
theorem dX7_clause_51 : decode cX7_clause 51 = .ok (.iconst 4, 1) := by decide +kernel
theorem dX7_clause_52 : decode cX7_clause 52 = .ok (.aload_n 0, 1) := by decide +kernel
theorem dX7_clause_53 : decode cX7_clause 53 = .ok (.invokevirtual 60, 3) := by decide +kernel
theorem dX7_clause_56 : decode cX7_clause 56 = .ok (.invokestatic 64, 3) := by decide +kernel
theorem dX7_clause_59 : decode cX7_clause 59 = .ok (.invokestatic 70, 3) := by decide +kernel
theorem dX7_clause_62 : decode cX7_clause 62 = .ok (.putfield 33, 3) := by decide +kernel
theorem dX7_clause_65 : decode cX7_clause 65 = .ok (.goto 119, 3) := by decide +kernel
theorem dX7_clause_68 : decode cX7_clause 68 = .ok (.aload_n 0, 1) := by decide +kernel
theorem dX7_clause_69 : decode cX7_clause 69 = .ok (.bipush 119, 2) := by decide +kernel
theorem dX7_clause_71 : decode cX7_clause 71 = .ok (.invokevirtual 45, 3) := by decide +kernel
theorem dX7_clause_74 : decode cX7_clause 74 = .ok (.ifCond .eq 26, 3) := by decide +kernel
theorem dX7_clause_77 : decode cX7_clause 77 = .ok (.aload_n 0, 1) := by decide +kernel
theorem dX7_clause_78 : decode cX7_clause 78 = .ok (.ldc 75, 2) := by decide +kernel
theorem dX7_clause_80 : decode cX7_clause 80 = .ok (.invokevirtual 56, 3) := by decide +kernel
theorem dX7_clause_83 : decode cX7_clause 83 = .ok (.aload_n 0, 1) := by decide +kernel
theorem dX7_clause_84 : decode cX7_clause 84 = .ok (.getfield 15, 3) := by decide +kernel
theorem dX7_clause_87 : decode cX7_clause 87 = .ok (.iconst 0, 1) := by decide +kernel
theorem dX7_clause_88 : decode cX7_clause 88 = .ok (.dup2, 1) := by decide +kernel
theorem dX7_clause_89 : decode cX7_clause 89 = .ok (.laload, 1) := by decide +kernel
theorem dX7_clause_90 : decode cX7_clause 90 = .ok (.aload_n 0, 1) := by decide +kernel
theorem dX7_clause_91 : decode cX7_clause 91 = .ok (.iconst 0, 1) := by decide +kernel
theorem dX7_clause_92 : decode cX7_clause 92 = .ok (.invokevirtual 77, 3) := by decide +kernel
theorem dX7_clause_95 : decode cX7_clause 95 = .ok (.lor, 1) := by decide +kernel
theorem dX7_clause_96 : decode cX7_clause 96 = .ok (.lastore, 1) := by decide +kernel
theorem dX7_clause_97 : decode cX7_clause 97 = .ok (.goto 87, 3) := by decide +kernel
theorem dX7_clause_100 : decode cX7_clause 100 = .ok (.aload_n 0, 1) := by decide +kernel
theorem dX7_clause_101 : decode cX7_clause 101 = .ok (.bipush 108, 2) := by decide +kernel
theorem dX7_clause_103 : decode cX7_clause 103 = .ok (.invokevirtual 45, 3) := by decide +kernel
theorem dX7_clause_106 : decode cX7_clause 106 = .ok (.ifCond .eq 26, 3) := by decide +kernel
theorem dX7_clause_109 : decode cX7_clause 109 = .ok (.aload_n 0, 1) := by decide +kernel
theorem dX7_clause_110 : decode cX7_clause 110 = .ok (.ldc 81, 2) := by decide +kernel
theorem dX7_clause_112 : decode cX7_clause 112 = .ok (.invokevirtual 56, 3) := by decide +kernel
theorem dX7_clause_115 : decode cX7_clause 115 = .ok (.aload_n 0, 1) := by decide +kernel
theorem dX7_clause_116 : decode cX7_clause 116 = .ok (.getfield 15, 3) := by decide +kernel
theorem dX7_clause_119 : decode cX7_clause 119 = .ok (.iconst 1, 1) := by decide +kernel
theorem dX7_clause_120 : decode cX7_clause 120 = .ok (.dup2, 1) := by decide +kernel
theorem dX7_clause_121 : decode cX7_clause 121 = .ok (.laload, 1) := by decide +kernel
theorem dX7_clause_122 : decode cX7_clause 122 = .ok (.aload_n 0, 1) := by decide +kernel
theorem dX7_clause_123 : decode cX7_clause 123 = .ok (.iconst 0, 1) := by decide +kernel
theorem dX7_clause_124 : decode cX7_clause 124 = .ok (.invokevirtual 77, 3) := by decide +kernel
theorem dX7_clause_127 : decode cX7_clause 127 = .ok (.lor, 1) := by decide +kernel
theorem dX7_clause_128 : decode cX7_clause 128 = .ok (.lastore, 1) := by decide +kernel
theorem dX7_clause_129 : decode cX7_clause 129 = .ok (.goto 55, 3) := by decide +kernel
theorem dX7_clause_132 : decode cX7_clause 132 = .ok (.aload_n 0, 1) := by decide +kernel
theorem dX7_clause_133 : decode cX7_clause 133 = .ok (.bipush 100, 2) := by decide +kernel
theorem dX7_clause_135 : decode cX7_clause 135 = .ok (.invokevirtual 45, 3) := by decide +kernel
theorem dX7_clause_138 : decode cX7_clause 138 = .ok (.ifCond .eq 26, 3) := by decide +kernel
theorem dX7_clause_141 : decode cX7_clause 141 = .ok (.aload_n 0, 1) := by decide +kernel
theorem dX7_clause_142 : decode cX7_clause 142 = .ok (.ldc 83, 2) := by decide +kernel
theorem dX7_clause_144 : decode cX7_clause 144 = .ok (.invokevirtual 56, 3) := by decide +kernel
theorem dX7_clause_147 : decode cX7_clause 147 = .ok (.aload_n 0, 1) := by decide +kernel
theorem dX7_clause_148 : decode cX7_clause 148 = .ok (.getfield 15, 3) := by decide +kernel
theorem dX7_clause_151 : decode cX7_clause 151 = .ok (.iconst 2, 1) := by decide +kernel
theorem dX7_clause_152 : decode cX7_clause 152 = .ok (.dup2, 1) := by decide +kernel
theorem dX7_clause_153 : decode cX7_clause 153 = .ok (.laload, 1) := by decide +kernel
theorem dX7_clause_154 : decode cX7_clause 154 = .ok (.aload_n 0, 1) := by decide +kernel
theorem dX7_clause_155 : decode cX7_clause 155 = .ok (.iconst 0, 1) := by decide +kernel
theorem dX7_clause_156 : decode cX7_clause 156 = .ok (.invokevirtual 77, 3) := by decide +kernel
theorem dX7_clause_159 : decode cX7_clause 159 = .ok (.lor, 1) := by decide +kernel
theorem dX7_clause_160 : decode cX7_clause 160 = .ok (.lastore, 1) := by decide +kernel
theorem dX7_clause_161 : decode cX7_clause 161 = .ok (.goto 23, 3) := by decide +kernel
theorem dX7_clause_164 : decode cX7_clause 164 = .ok (.aload_n 0, 1) := by decide +kernel
theorem dX7_clause_165 : decode cX7_clause 165 = .ok (.ldc 85, 2) := by decide +kernel
theorem dX7_clause_167 : decode cX7_clause 167 = .ok (.invokevirtual 56, 3) := by decide +kernel
theorem dX7_clause_170 : decode cX7_clause 170 = .ok (.aload_n 0, 1) := by decide +kernel
theorem dX7_clause_171 : decode cX7_clause 171 = .ok (.getfield 15, 3) := by decide +kernel
theorem dX7_clause_174 : decode cX7_clause 174 = .ok (.iconst 3, 1) := by decide +kernel
theorem dX7_clause_175 : decode cX7_clause 175 = .ok (.dup2, 1) := by decide +kernel
theorem dX7_clause_176 : decode cX7_clause 176 = .ok (.laload, 1) := by decide +kernel
theorem dX7_clause_177 : decode cX7_clause 177 = .ok (.aload_n 0, 1) := by decide +kernel
theorem dX7_clause_178 : decode cX7_clause 178 = .ok (.iconst 0, 1) := by decide +kernel
theorem dX7_clause_179 : decode cX7_clause 179 = .ok (.invokevirtual 77, 3) := by decide +kernel
theorem dX7_clause_182 : decode cX7_clause 182 = .ok (.lor, 1) := by decide +kernel
theorem dX7_clause_183 : decode cX7_clause 183 = .ok (.lastore, 1) := by decide +kernel
theorem dX7_clause_184 : decode cX7_clause 184 = .ok (.return_, 1) := by decide +kernel
theorem dX7_either_0 : decode cX7_either 0 = .ok (.aload_n 0, 1) := by decide +kernel
theorem dX7_either_1 : decode cX7_either 1 = .ok (.iload_n 1, 1) := by decide +kernel
theorem dX7_either_2 : decode cX7_either 2 = .ok (.invokevirtual 87, 3) := by decide +kernel
theorem dX7_either_5 : decode cX7_either 5 = .ok (.lstore_n 2, 1) := by decide +kernel
theorem dX7_either_6 : decode cX7_either 6 = .ok (.iconst 0, 1) := by decide +kernel
theorem dX7_either_7 : decode cX7_either 7 = .ok (.istore 4, 2) := by decide +kernel
theorem dX7_either_9 : decode cX7_either 9 = .ok (.iload 4, 2) := by decide +kernel
theorem dX7_either_11 : decode cX7_either 11 = .ok (.bipush 100, 2) := by decide +kernel
theorem dX7_either_13 : decode cX7_either 13 = .ok (.if_icmp .ge 26, 3) := by decide +kernel
theorem dX7_either_16 : decode cX7_either 16 = .ok (.aload_n 0, 1) := by decide +kernel
theorem dX7_either_17 : decode cX7_either 17 = .ok (.bipush 124, 2) := by decide +kernel
theorem dX7_either_19 : decode cX7_either 19 = .ok (.invokevirtual 45, 3) := by decide +kernel
theorem dX7_either_22 : decode cX7_either 22 = .ok (.ifCond .eq 17, 3) := by decide +kernel
theorem dX7_either_25 : decode cX7_either 25 = .ok (.lload_n 2, 1) := by decide +kernel
theorem dX7_either_26 : decode cX7_either 26 = .ok (.aload_n 0, 1) := by decide +kernel
theorem dX7_either_27 : decode cX7_either 27 = .ok (.iload_n 1, 1) := by decide +kernel
theorem dX7_either_28 : decode cX7_either 28 = .ok (.invokevirtual 87, 3) := by decide +kernel
theorem dX7_either_31 : decode cX7_either 31 = .ok (.lor, 1) := by decide +kernel
theorem dX7_either_32 : decode cX7_either 32 = .ok (.lstore_n 2, 1) := by decide +kernel
theorem dX7_either_33 : decode cX7_either 33 = .ok (.iinc 4 1, 3) := by decide +kernel
theorem dX7_either_36 : decode cX7_either 36 = .ok (.goto (-27), 3) := by decide +kernel
theorem dX7_either_39 : decode cX7_either 39 = .ok (.lload_n 2, 1) := by decide +kernel
theorem dX7_either_40 : decode cX7_either 40 = .ok (.lreturn, 1) := by decide +kernel
theorem dX7_both_0 : decode cX7_both 0 = .ok (.aload_n 0, 1) := by decide +kernel
theorem dX7_both_1 : decode cX7_both 1 = .ok (.iload_n 1, 1) := by decide +kernel
theorem dX7_both_2 : decode cX7_both 2 = .ok (.invokevirtual 90, 3) := by decide +kernel
theorem dX7_both_5 : decode cX7_both 5 = .ok (.lstore_n 2, 1) := by decide +kernel
theorem dX7_both_6 : decode cX7_both 6 = .ok (.iconst 0, 1) := by decide +kernel
theorem dX7_both_7 : decode cX7_both 7 = .ok (.istore 4, 2) := by decide +kernel
theorem dX7_both_9 : decode cX7_both 9 = .ok (.iload 4, 2) := by decide +kernel
theorem dX7_both_11 : decode cX7_both 11 = .ok (.bipush 100, 2) := by decide +kernel
theorem dX7_both_13 : decode cX7_both 13 = .ok (.if_icmp .ge 26, 3) := by decide +kernel
theorem dX7_both_16 : decode cX7_both 16 = .ok (.aload_n 0, 1) := by decide +kernel
theorem dX7_both_17 : decode cX7_both 17 = .ok (.bipush 38, 2) := by decide +kernel
theorem dX7_both_19 : decode cX7_both 19 = .ok (.invokevirtual 45, 3) := by decide +kernel
theorem dX7_both_22 : decode cX7_both 22 = .ok (.ifCond .eq 17, 3) := by decide +kernel
theorem dX7_both_25 : decode cX7_both 25 = .ok (.lload_n 2, 1) := by decide +kernel
theorem dX7_both_26 : decode cX7_both 26 = .ok (.aload_n 0, 1) := by decide +kernel
theorem dX7_both_27 : decode cX7_both 27 = .ok (.iload_n 1, 1) := by decide +kernel
theorem dX7_both_28 : decode cX7_both 28 = .ok (.invokevirtual 90, 3) := by decide +kernel
theorem dX7_both_31 : decode cX7_both 31 = .ok (.land, 1) := by decide +kernel
theorem dX7_both_32 : decode cX7_both 32 = .ok (.lstore_n 2, 1) := by decide +kernel
theorem dX7_both_33 : decode cX7_both 33 = .ok (.iinc 4 1, 3) := by decide +kernel
theorem dX7_both_36 : decode cX7_both 36 = .ok (.goto (-27), 3) := by decide +kernel
theorem dX7_both_39 : decode cX7_both 39 = .ok (.lload_n 2, 1) := by decide +kernel
theorem dX7_both_40 : decode cX7_both 40 = .ok (.lreturn, 1) := by decide +kernel
theorem dX7_single_0 : decode cX7_single 0 = .ok (.iload_n 1, 1) := by decide +kernel
theorem dX7_single_1 : decode cX7_single 1 = .ok (.iconst 4, 1) := by decide +kernel
theorem dX7_single_2 : decode cX7_single 2 = .ok (.if_icmp .ge 28, 3) := by decide +kernel
theorem dX7_single_5 : decode cX7_single 5 = .ok (.aload_n 0, 1) := by decide +kernel
theorem dX7_single_6 : decode cX7_single 6 = .ok (.bipush 33, 2) := by decide +kernel
theorem dX7_single_8 : decode cX7_single 8 = .ok (.invokevirtual 45, 3) := by decide +kernel
theorem dX7_single_11 : decode cX7_single 11 = .ok (.ifCond .eq 19, 3) := by decide +kernel
theorem dX7_single_14 : decode cX7_single 14 = .ok (.ldc2_w 93, 3) := by decide +kernel
theorem dX7_single_17 : decode cX7_single 17 = .ok (.aload_n 0, 1) := by decide +kernel
theorem dX7_single_18 : decode cX7_single 18 = .ok (.iload_n 1, 1) := by decide +kernel
theorem dX7_single_19 : decode cX7_single 19 = .ok (.iconst 1, 1) := by decide +kernel
theorem dX7_single_20 : decode cX7_single 20 = .ok (.iadd, 1) := by decide +kernel
theorem dX7_single_21 : decode cX7_single 21 = .ok (.invokevirtual 90, 3) := by decide +kernel
theorem dX7_single_24 : decode cX7_single 24 = .ok (.ldc2_w 95, 3) := by decide +kernel
theorem dX7_single_27 : decode cX7_single 27 = .ok (.lxor, 1) := by decide +kernel
theorem dX7_single_28 : decode cX7_single 28 = .ok (.land, 1) := by decide +kernel
theorem dX7_single_29 : decode cX7_single 29 = .ok (.lreturn, 1) := by decide +kernel
theorem dX7_single_30 : decode cX7_single 30 = .ok (.iload_n 1, 1) := by decide +kernel
theorem dX7_single_31 : decode cX7_single 31 = .ok (.iconst 4, 1) := by decide +kernel
theorem dX7_single_32 : decode cX7_single 32 = .ok (.if_icmp .ge 28, 3) := by decide +kernel
theorem dX7_single_35 : decode cX7_single 35 = .ok (.aload_n 0, 1) := by decide +kernel
theorem dX7_single_36 : decode cX7_single 36 = .ok (.bipush 40, 2) := by decide +kernel
theorem dX7_single_38 : decode cX7_single 38 = .ok (.invokevirtual 45, 3) := by decide +kernel
theorem dX7_single_41 : decode cX7_single 41 = .ok (.ifCond .eq 19, 3) := by decide +kernel
theorem dX7_single_44 : decode cX7_single 44 = .ok (.aload_n 0, 1) := by decide +kernel
theorem dX7_single_45 : decode cX7_single 45 = .ok (.iload_n 1, 1) := by decide +kernel
theorem dX7_single_46 : decode cX7_single 46 = .ok (.iconst 1, 1) := by decide +kernel
theorem dX7_single_47 : decode cX7_single 47 = .ok (.iadd, 1) := by decide +kernel
theorem dX7_single_48 : decode cX7_single 48 = .ok (.invokevirtual 77, 3) := by decide +kernel
theorem dX7_single_51 : decode cX7_single 51 = .ok (.lstore_n 2, 1) := by decide +kernel
theorem dX7_single_52 : decode cX7_single 52 = .ok (.aload_n 0, 1) := by decide +kernel
theorem dX7_single_53 : decode cX7_single 53 = .ok (.ldc 97, 2) := by decide +kernel
theorem dX7_single_55 : decode cX7_single 55 = .ok (.invokevirtual 56, 3) := by decide +kernel
theorem dX7_single_58 : decode cX7_single 58 = .ok (.lload_n 2, 1) := by decide +kernel
theorem dX7_single_59 : decode cX7_single 59 = .ok (.lreturn, 1) := by decide +kernel
theorem dX7_single_60 : decode cX7_single 60 = .ok (.aload_n 0, 1) := by decide +kernel
theorem dX7_single_61 : decode cX7_single 61 = .ok (.ldc 99, 2) := by decide +kernel
theorem dX7_single_63 : decode cX7_single 63 = .ok (.invokevirtual 101, 3) := by decide +kernel
theorem dX7_single_66 : decode cX7_single 66 = .ok (.istore_n 2, 1) := by decide +kernel
theorem dX7_single_67 : decode cX7_single 67 = .ok (.aload_n 0, 1) := by decide +kernel
theorem dX7_single_68 : decode cX7_single 68 = .ok (.ldc 105, 2) := by decide +kernel
theorem dX7_single_70 : decode cX7_single 70 = .ok (.invokevirtual 101, 3) := by decide +kernel
theorem dX7_single_73 : decode cX7_single 73 = .ok (.istore_n 3, 1) := by decide +kernel
theorem dX7_single_74 : decode cX7_single 74 = .ok (.iload_n 2, 1) := by decide +kernel
theorem dX7_single_75 : decode cX7_single 75 = .ok (.iload_n 3, 1) := by decide +kernel
theorem dX7_single_76 : decode cX7_single 76 = .ok (.aload_n 0, 1) := by decide +kernel
theorem dX7_single_77 : decode cX7_single 77 = .ok (.invokevirtual 60, 3) := by decide +kernel
theorem dX7_single_80 : decode cX7_single 80 = .ok (.invokestatic 107, 3) := by decide +kernel
theorem dX7_single_83 : decode cX7_single 83 = .ok (.lreturn, 1) := by decide +kernel
theorem dX7_tested_0 : decode cX7_tested 0 = .ok (.lconst 0, 1) := by decide +kernel
theorem dX7_tested_1 : decode cX7_tested 1 = .ok (.lstore_n 3, 1) := by decide +kernel
theorem dX7_tested_2 : decode cX7_tested 2 = .ok (.iconst 0, 1) := by decide +kernel
theorem dX7_tested_3 : decode cX7_tested 3 = .ok (.istore 5, 2) := by decide +kernel
theorem dX7_tested_5 : decode cX7_tested 5 = .ok (.iload 5, 2) := by decide +kernel
theorem dX7_tested_7 : decode cX7_tested 7 = .ok (.bipush 36, 2) := by decide +kernel
theorem dX7_tested_9 : decode cX7_tested 9 = .ok (.if_icmp .ge 32, 3) := by decide +kernel
theorem dX7_tested_12 : decode cX7_tested 12 = .ok (.iload_n 0, 1) := by decide +kernel
theorem dX7_tested_13 : decode cX7_tested 13 = .ok (.iload 5, 2) := by decide +kernel
theorem dX7_tested_15 : decode cX7_tested 15 = .ok (.invokestatic 111, 3) := by decide +kernel
theorem dX7_tested_18 : decode cX7_tested 18 = .ok (.iload_n 2, 1) := by decide +kernel
theorem dX7_tested_19 : decode cX7_tested 19 = .ok (.invokestatic 114, 3) := by decide +kernel
theorem dX7_tested_22 : decode cX7_tested 22 = .ok (.iload_n 1, 1) := by decide +kernel
theorem dX7_tested_23 : decode cX7_tested 23 = .ok (.iconst 1, 1) := by decide +kernel
theorem dX7_tested_24 : decode cX7_tested 24 = .ok (.isub, 1) := by decide +kernel
theorem dX7_tested_25 : decode cX7_tested 25 = .ok (.if_icmp .ne 10, 3) := by decide +kernel
theorem dX7_tested_28 : decode cX7_tested 28 = .ok (.lload_n 3, 1) := by decide +kernel
theorem dX7_tested_29 : decode cX7_tested 29 = .ok (.lconst 1, 1) := by decide +kernel
theorem dX7_tested_30 : decode cX7_tested 30 = .ok (.iload 5, 2) := by decide +kernel
theorem dX7_tested_32 : decode cX7_tested 32 = .ok (.lshl, 1) := by decide +kernel
theorem dX7_tested_33 : decode cX7_tested 33 = .ok (.lor, 1) := by decide +kernel
theorem dX7_tested_34 : decode cX7_tested 34 = .ok (.lstore_n 3, 1) := by decide +kernel
theorem dX7_tested_35 : decode cX7_tested 35 = .ok (.iinc 5 1, 3) := by decide +kernel
theorem dX7_tested_38 : decode cX7_tested 38 = .ok (.goto (-33), 3) := by decide +kernel
theorem dX7_tested_41 : decode cX7_tested 41 = .ok (.lload_n 3, 1) := by decide +kernel
theorem dX7_tested_42 : decode cX7_tested 42 = .ok (.lreturn, 1) := by decide +kernel
theorem dX7_measure_0 : decode cX7_measure 0 = .ok (.iload_n 1, 1) := by decide +kernel
theorem dX7_measure_1 : decode cX7_measure 1 = .ok (.bipush 6, 2) := by decide +kernel
theorem dX7_measure_3 : decode cX7_measure 3 = .ok (.idiv, 1) := by decide +kernel
theorem dX7_measure_4 : decode cX7_measure 4 = .ok (.istore_n 2, 1) := by decide +kernel
theorem dX7_measure_5 : decode cX7_measure 5 = .ok (.iload_n 1, 1) := by decide +kernel
theorem dX7_measure_6 : decode cX7_measure 6 = .ok (.bipush 6, 2) := by decide +kernel
theorem dX7_measure_8 : decode cX7_measure 8 = .ok (.irem, 1) := by decide +kernel
theorem dX7_measure_9 : decode cX7_measure 9 = .ok (.istore_n 3, 1) := by decide +kernel
theorem dX7_measure_10 : decode cX7_measure 10 = .ok (.iload_n 0, 1) := by decide +kernel
theorem dX7_measure_11 : decode cX7_measure 11 = .ok (.tableswitch 44 0 3 #[29, 31, 33, 37], 29) := by decide +kernel
theorem dX7_measure_40 : decode cX7_measure 40 = .ok (.iload_n 2, 1) := by decide +kernel
theorem dX7_measure_41 : decode cX7_measure 41 = .ok (.ireturn, 1) := by decide +kernel
theorem dX7_measure_42 : decode cX7_measure 42 = .ok (.iload_n 3, 1) := by decide +kernel
theorem dX7_measure_43 : decode cX7_measure 43 = .ok (.ireturn, 1) := by decide +kernel
theorem dX7_measure_44 : decode cX7_measure 44 = .ok (.iload_n 2, 1) := by decide +kernel
theorem dX7_measure_45 : decode cX7_measure 45 = .ok (.iload_n 3, 1) := by decide +kernel
theorem dX7_measure_46 : decode cX7_measure 46 = .ok (.iadd, 1) := by decide +kernel
theorem dX7_measure_47 : decode cX7_measure 47 = .ok (.ireturn, 1) := by decide +kernel
theorem dX7_measure_48 : decode cX7_measure 48 = .ok (.iload_n 2, 1) := by decide +kernel
theorem dX7_measure_49 : decode cX7_measure 49 = .ok (.iload_n 3, 1) := by decide +kernel
theorem dX7_measure_50 : decode cX7_measure 50 = .ok (.isub, 1) := by decide +kernel
theorem dX7_measure_51 : decode cX7_measure 51 = .ok (.invokestatic 119, 3) := by decide +kernel
theorem dX7_measure_54 : decode cX7_measure 54 = .ok (.ireturn, 1) := by decide +kernel
theorem dX7_measure_55 : decode cX7_measure 55 = .ok (.iload_n 1, 1) := by decide +kernel
theorem dX7_measure_56 : decode cX7_measure 56 = .ok (.ireturn, 1) := by decide +kernel
theorem dX7_number_0 : decode cX7_number 0 = .ok (.aload_n 0, 1) := by decide +kernel
theorem dX7_number_1 : decode cX7_number 1 = .ok (.ldc 123, 2) := by decide +kernel
theorem dX7_number_3 : decode cX7_number 3 = .ok (.invokevirtual 125, 3) := by decide +kernel
theorem dX7_number_6 : decode cX7_number 6 = .ok (.istore_n 1, 1) := by decide +kernel
theorem dX7_number_7 : decode cX7_number 7 = .ok (.iload_n 1, 1) := by decide +kernel
theorem dX7_number_8 : decode cX7_number 8 = .ok (.ifCond .ge 10, 3) := by decide +kernel
theorem dX7_number_11 : decode cX7_number 11 = .ok (.aload_n 0, 1) := by decide +kernel
theorem dX7_number_12 : decode cX7_number 12 = .ok (.iconst 1, 1) := by decide +kernel
theorem dX7_number_13 : decode cX7_number 13 = .ok (.putfield 26, 3) := by decide +kernel
theorem dX7_number_16 : decode cX7_number 16 = .ok (.iconst 0, 1) := by decide +kernel
theorem dX7_number_17 : decode cX7_number 17 = .ok (.ireturn, 1) := by decide +kernel
theorem dX7_number_18 : decode cX7_number 18 = .ok (.aload_n 0, 1) := by decide +kernel
theorem dX7_number_19 : decode cX7_number 19 = .ok (.ldc 123, 2) := by decide +kernel
theorem dX7_number_21 : decode cX7_number 21 = .ok (.invokevirtual 125, 3) := by decide +kernel
theorem dX7_number_24 : decode cX7_number 24 = .ok (.istore_n 2, 1) := by decide +kernel
theorem dX7_number_25 : decode cX7_number 25 = .ok (.iload_n 2, 1) := by decide +kernel
theorem dX7_number_26 : decode cX7_number 26 = .ok (.ifCond .ge 7, 3) := by decide +kernel
theorem dX7_number_29 : decode cX7_number 29 = .ok (.iload_n 1, 1) := by decide +kernel
theorem dX7_number_30 : decode cX7_number 30 = .ok (.goto 9, 3) := by decide +kernel
theorem dX7_number_33 : decode cX7_number 33 = .ok (.bipush 10, 2) := by decide +kernel
theorem dX7_number_35 : decode cX7_number 35 = .ok (.iload_n 1, 1) := by decide +kernel
theorem dX7_number_36 : decode cX7_number 36 = .ok (.imul, 1) := by decide +kernel
theorem dX7_number_37 : decode cX7_number 37 = .ok (.iload_n 2, 1) := by decide +kernel
theorem dX7_number_38 : decode cX7_number 38 = .ok (.iadd, 1) := by decide +kernel
theorem dX7_number_39 : decode cX7_number 39 = .ok (.ireturn, 1) := by decide +kernel
theorem dX7_oneOf_0 : decode cX7_oneOf 0 = .ok (.aload_n 0, 1) := by decide +kernel
theorem dX7_oneOf_1 : decode cX7_oneOf 1 = .ok (.aload_n 1, 1) := by decide +kernel
theorem dX7_oneOf_2 : decode cX7_oneOf 2 = .ok (.invokevirtual 125, 3) := by decide +kernel
theorem dX7_oneOf_5 : decode cX7_oneOf 5 = .ok (.istore_n 2, 1) := by decide +kernel
theorem dX7_oneOf_6 : decode cX7_oneOf 6 = .ok (.aload_n 0, 1) := by decide +kernel
theorem dX7_oneOf_7 : decode cX7_oneOf 7 = .ok (.aload_n 0, 1) := by decide +kernel
theorem dX7_oneOf_8 : decode cX7_oneOf 8 = .ok (.getfield 26, 3) := by decide +kernel
theorem dX7_oneOf_11 : decode cX7_oneOf 11 = .ok (.ifCond .ne 7, 3) := by decide +kernel
theorem dX7_oneOf_14 : decode cX7_oneOf 14 = .ok (.iload_n 2, 1) := by decide +kernel
theorem dX7_oneOf_15 : decode cX7_oneOf 15 = .ok (.ifCond .ge 7, 3) := by decide +kernel
theorem dX7_oneOf_18 : decode cX7_oneOf 18 = .ok (.iconst 1, 1) := by decide +kernel
theorem dX7_oneOf_19 : decode cX7_oneOf 19 = .ok (.goto 4, 3) := by decide +kernel
theorem dX7_oneOf_22 : decode cX7_oneOf 22 = .ok (.iconst 0, 1) := by decide +kernel
theorem dX7_oneOf_23 : decode cX7_oneOf 23 = .ok (.putfield 26, 3) := by decide +kernel
theorem dX7_oneOf_26 : decode cX7_oneOf 26 = .ok (.iload_n 2, 1) := by decide +kernel
theorem dX7_oneOf_27 : decode cX7_oneOf 27 = .ok (.ireturn, 1) := by decide +kernel
theorem dX7_oneIf_0 : decode cX7_oneIf 0 = .ok (.aload_n 0, 1) := by decide +kernel
theorem dX7_oneIf_1 : decode cX7_oneIf 1 = .ok (.getfield 26, 3) := by decide +kernel
theorem dX7_oneIf_4 : decode cX7_oneIf 4 = .ok (.ifCond .ne 30, 3) := by decide +kernel
theorem dX7_oneIf_7 : decode cX7_oneIf 7 = .ok (.aload_n 0, 1) := by decide +kernel
theorem dX7_oneIf_8 : decode cX7_oneIf 8 = .ok (.getfield 23, 3) := by decide +kernel
theorem dX7_oneIf_11 : decode cX7_oneIf 11 = .ok (.ifCond .lt 23, 3) := by decide +kernel
theorem dX7_oneIf_14 : decode cX7_oneIf 14 = .ok (.aload_n 0, 1) := by decide +kernel
theorem dX7_oneIf_15 : decode cX7_oneIf 15 = .ok (.getfield 23, 3) := by decide +kernel
theorem dX7_oneIf_18 : decode cX7_oneIf 18 = .ok (.aload_n 0, 1) := by decide +kernel
theorem dX7_oneIf_19 : decode cX7_oneIf 19 = .ok (.getfield 19, 3) := by decide +kernel
theorem dX7_oneIf_22 : decode cX7_oneIf 22 = .ok (.if_icmp .ge 12, 3) := by decide +kernel
theorem dX7_oneIf_25 : decode cX7_oneIf 25 = .ok (.aload_n 0, 1) := by decide +kernel
theorem dX7_oneIf_26 : decode cX7_oneIf 26 = .ok (.getfield 23, 3) := by decide +kernel
theorem dX7_oneIf_29 : decode cX7_oneIf 29 = .ok (.bipush 100, 2) := by decide +kernel
theorem dX7_oneIf_31 : decode cX7_oneIf 31 = .ok (.if_icmp .lt 5, 3) := by decide +kernel
theorem dX7_oneIf_34 : decode cX7_oneIf 34 = .ok (.iconst (-1), 1) := by decide +kernel
theorem dX7_oneIf_35 : decode cX7_oneIf 35 = .ok (.ireturn, 1) := by decide +kernel
theorem dX7_oneIf_36 : decode cX7_oneIf 36 = .ok (.iconst 0, 1) := by decide +kernel
theorem dX7_oneIf_37 : decode cX7_oneIf 37 = .ok (.istore_n 2, 1) := by decide +kernel
theorem dX7_oneIf_38 : decode cX7_oneIf 38 = .ok (.iload_n 2, 1) := by decide +kernel
theorem dX7_oneIf_39 : decode cX7_oneIf 39 = .ok (.aload_n 1, 1) := by decide +kernel
theorem dX7_oneIf_40 : decode cX7_oneIf 40 = .ok (.invokevirtual 128, 3) := by decide +kernel
theorem dX7_oneIf_43 : decode cX7_oneIf 43 = .ok (.if_icmp .ge 38, 3) := by decide +kernel
theorem dX7_oneIf_46 : decode cX7_oneIf 46 = .ok (.aload_n 0, 1) := by decide +kernel
theorem dX7_oneIf_47 : decode cX7_oneIf 47 = .ok (.getfield 9, 3) := by decide +kernel
theorem dX7_oneIf_50 : decode cX7_oneIf 50 = .ok (.aload_n 0, 1) := by decide +kernel
theorem dX7_oneIf_51 : decode cX7_oneIf 51 = .ok (.getfield 23, 3) := by decide +kernel
theorem dX7_oneIf_54 : decode cX7_oneIf 54 = .ok (.baload, 1) := by decide +kernel
theorem dX7_oneIf_55 : decode cX7_oneIf 55 = .ok (.aload_n 1, 1) := by decide +kernel
theorem dX7_oneIf_56 : decode cX7_oneIf 56 = .ok (.iload_n 2, 1) := by decide +kernel
theorem dX7_oneIf_57 : decode cX7_oneIf 57 = .ok (.invokevirtual 132, 3) := by decide +kernel
theorem dX7_oneIf_60 : decode cX7_oneIf 60 = .ok (.if_icmp .ne 15, 3) := by decide +kernel
theorem dX7_oneIf_63 : decode cX7_oneIf 63 = .ok (.aload_n 0, 1) := by decide +kernel
theorem dX7_oneIf_64 : decode cX7_oneIf 64 = .ok (.dup, 1) := by decide +kernel
theorem dX7_oneIf_65 : decode cX7_oneIf 65 = .ok (.getfield 23, 3) := by decide +kernel
theorem dX7_oneIf_68 : decode cX7_oneIf 68 = .ok (.iconst 1, 1) := by decide +kernel
theorem dX7_oneIf_69 : decode cX7_oneIf 69 = .ok (.iadd, 1) := by decide +kernel
theorem dX7_oneIf_70 : decode cX7_oneIf 70 = .ok (.putfield 23, 3) := by decide +kernel
theorem dX7_oneIf_73 : decode cX7_oneIf 73 = .ok (.iload_n 2, 1) := by decide +kernel
theorem dX7_oneIf_74 : decode cX7_oneIf 74 = .ok (.ireturn, 1) := by decide +kernel
theorem dX7_oneIf_75 : decode cX7_oneIf 75 = .ok (.iinc 2 1, 3) := by decide +kernel
theorem dX7_oneIf_78 : decode cX7_oneIf 78 = .ok (.goto (-40), 3) := by decide +kernel
theorem dX7_oneIf_81 : decode cX7_oneIf 81 = .ok (.iconst (-1), 1) := by decide +kernel
theorem dX7_oneIf_82 : decode cX7_oneIf 82 = .ok (.ireturn, 1) := by decide +kernel
theorem dX7_needs_0 : decode cX7_needs 0 = .ok (.iconst 0, 1) := by decide +kernel
theorem dX7_needs_1 : decode cX7_needs 1 = .ok (.istore_n 2, 1) := by decide +kernel
theorem dX7_needs_2 : decode cX7_needs 2 = .ok (.iload_n 2, 1) := by decide +kernel
theorem dX7_needs_3 : decode cX7_needs 3 = .ok (.aload_n 1, 1) := by decide +kernel
theorem dX7_needs_4 : decode cX7_needs 4 = .ok (.invokevirtual 128, 3) := by decide +kernel
theorem dX7_needs_7 : decode cX7_needs 7 = .ok (.if_icmp .ge 37, 3) := by decide +kernel
theorem dX7_needs_10 : decode cX7_needs 10 = .ok (.aload_n 0, 1) := by decide +kernel
theorem dX7_needs_11 : decode cX7_needs 11 = .ok (.aload_n 0, 1) := by decide +kernel
theorem dX7_needs_12 : decode cX7_needs 12 = .ok (.aload_n 1, 1) := by decide +kernel
theorem dX7_needs_13 : decode cX7_needs 13 = .ok (.iload_n 2, 1) := by decide +kernel
theorem dX7_needs_14 : decode cX7_needs 14 = .ok (.invokevirtual 132, 3) := by decide +kernel
theorem dX7_needs_17 : decode cX7_needs 17 = .ok (.invokevirtual 45, 3) := by decide +kernel
theorem dX7_needs_20 : decode cX7_needs 20 = .ok (.ifCond .eq 10, 3) := by decide +kernel
theorem dX7_needs_23 : decode cX7_needs 23 = .ok (.aload_n 0, 1) := by decide +kernel
theorem dX7_needs_24 : decode cX7_needs 24 = .ok (.getfield 26, 3) := by decide +kernel
theorem dX7_needs_27 : decode cX7_needs 27 = .ok (.ifCond .eq 7, 3) := by decide +kernel
theorem dX7_needs_30 : decode cX7_needs 30 = .ok (.iconst 1, 1) := by decide +kernel
theorem dX7_needs_31 : decode cX7_needs 31 = .ok (.goto 4, 3) := by decide +kernel
theorem dX7_needs_34 : decode cX7_needs 34 = .ok (.iconst 0, 1) := by decide +kernel
theorem dX7_needs_35 : decode cX7_needs 35 = .ok (.putfield 26, 3) := by decide +kernel
theorem dX7_needs_38 : decode cX7_needs 38 = .ok (.iinc 2 1, 3) := by decide +kernel
theorem dX7_needs_41 : decode cX7_needs 41 = .ok (.goto (-39), 3) := by decide +kernel
theorem dX7_needs_44 : decode cX7_needs 44 = .ok (.return_, 1) := by decide +kernel
theorem dX7_takes_0 : decode cX7_takes 0 = .ok (.aload_n 0, 1) := by decide +kernel
theorem dX7_takes_1 : decode cX7_takes 1 = .ok (.getfield 26, 3) := by decide +kernel
theorem dX7_takes_4 : decode cX7_takes 4 = .ok (.ifCond .ne 43, 3) := by decide +kernel
theorem dX7_takes_7 : decode cX7_takes 7 = .ok (.aload_n 0, 1) := by decide +kernel
theorem dX7_takes_8 : decode cX7_takes 8 = .ok (.getfield 23, 3) := by decide +kernel
theorem dX7_takes_11 : decode cX7_takes 11 = .ok (.ifCond .lt 36, 3) := by decide +kernel
theorem dX7_takes_14 : decode cX7_takes 14 = .ok (.aload_n 0, 1) := by decide +kernel
theorem dX7_takes_15 : decode cX7_takes 15 = .ok (.getfield 23, 3) := by decide +kernel
theorem dX7_takes_18 : decode cX7_takes 18 = .ok (.aload_n 0, 1) := by decide +kernel
theorem dX7_takes_19 : decode cX7_takes 19 = .ok (.getfield 19, 3) := by decide +kernel
theorem dX7_takes_22 : decode cX7_takes 22 = .ok (.if_icmp .ge 25, 3) := by decide +kernel
theorem dX7_takes_25 : decode cX7_takes 25 = .ok (.aload_n 0, 1) := by decide +kernel
theorem dX7_takes_26 : decode cX7_takes 26 = .ok (.getfield 23, 3) := by decide +kernel
theorem dX7_takes_29 : decode cX7_takes 29 = .ok (.bipush 100, 2) := by decide +kernel
theorem dX7_takes_31 : decode cX7_takes 31 = .ok (.if_icmp .ge 16, 3) := by decide +kernel
theorem dX7_takes_34 : decode cX7_takes 34 = .ok (.aload_n 0, 1) := by decide +kernel
theorem dX7_takes_35 : decode cX7_takes 35 = .ok (.getfield 9, 3) := by decide +kernel
theorem dX7_takes_38 : decode cX7_takes 38 = .ok (.aload_n 0, 1) := by decide +kernel
theorem dX7_takes_39 : decode cX7_takes 39 = .ok (.getfield 23, 3) := by decide +kernel
theorem dX7_takes_42 : decode cX7_takes 42 = .ok (.baload, 1) := by decide +kernel
theorem dX7_takes_43 : decode cX7_takes 43 = .ok (.iload_n 1, 1) := by decide +kernel
theorem dX7_takes_44 : decode cX7_takes 44 = .ok (.if_icmp .eq 5, 3) := by decide +kernel
theorem dX7_takes_47 : decode cX7_takes 47 = .ok (.iconst 0, 1) := by decide +kernel
theorem dX7_takes_48 : decode cX7_takes 48 = .ok (.ireturn, 1) := by decide +kernel
theorem dX7_takes_49 : decode cX7_takes 49 = .ok (.aload_n 0, 1) := by decide +kernel
theorem dX7_takes_50 : decode cX7_takes 50 = .ok (.dup, 1) := by decide +kernel
theorem dX7_takes_51 : decode cX7_takes 51 = .ok (.getfield 23, 3) := by decide +kernel
theorem dX7_takes_54 : decode cX7_takes 54 = .ok (.iconst 1, 1) := by decide +kernel
theorem dX7_takes_55 : decode cX7_takes 55 = .ok (.iadd, 1) := by decide +kernel
theorem dX7_takes_56 : decode cX7_takes 56 = .ok (.putfield 23, 3) := by decide +kernel
theorem dX7_takes_59 : decode cX7_takes 59 = .ok (.iconst 1, 1) := by decide +kernel
theorem dX7_takes_60 : decode cX7_takes 60 = .ok (.ireturn, 1) := by decide +kernel
theorem dX8_init_0 : decode cX8_init 0 = .ok (.aload_n 0, 1) := by decide +kernel
theorem dX8_init_1 : decode cX8_init 1 = .ok (.invokespecial 3, 3) := by decide +kernel
theorem dX8_init_4 : decode cX8_init 4 = .ok (.aload_n 0, 1) := by decide +kernel
theorem dX8_init_5 : decode cX8_init 5 = .ok (.bipush 12, 2) := by decide +kernel
theorem dX8_init_7 : decode cX8_init 7 = .ok (.newarray .int, 2) := by decide +kernel
theorem dX8_init_9 : decode cX8_init 9 = .ok (.putfield 9, 3) := by decide +kernel
theorem dX8_init_12 : decode cX8_init 12 = .ok (.return_, 1) := by decide +kernel
theorem dX8_at_0 : decode cX8_at 0 = .ok (.iload_n 1, 1) := by decide +kernel
theorem dX8_at_1 : decode cX8_at 1 = .ok (.ifCond .lt 18, 3) := by decide +kernel
theorem dX8_at_4 : decode cX8_at 4 = .ok (.iload_n 1, 1) := by decide +kernel
theorem dX8_at_5 : decode cX8_at 5 = .ok (.bipush 12, 2) := by decide +kernel
theorem dX8_at_7 : decode cX8_at 7 = .ok (.if_icmp .ge 12, 3) := by decide +kernel
theorem dX8_at_10 : decode cX8_at 10 = .ok (.aload_n 0, 1) := by decide +kernel
theorem dX8_at_11 : decode cX8_at 11 = .ok (.getfield 9, 3) := by decide +kernel
theorem dX8_at_14 : decode cX8_at 14 = .ok (.iload_n 1, 1) := by decide +kernel
theorem dX8_at_15 : decode cX8_at 15 = .ok (.iaload, 1) := by decide +kernel
theorem dX8_at_16 : decode cX8_at 16 = .ok (.goto 4, 3) := by decide +kernel
theorem dX8_at_19 : decode cX8_at 19 = .ok (.iconst 0, 1) := by decide +kernel
theorem dX8_at_20 : decode cX8_at 20 = .ok (.ireturn, 1) := by decide +kernel
theorem dX8_tell_0 : decode cX8_tell 0 = .ok (.iload_n 1, 1) := by decide +kernel
theorem dX8_tell_1 : decode cX8_tell 1 = .ok (.ifCond .ge 10, 3) := by decide +kernel
theorem dX8_tell_4 : decode cX8_tell 4 = .ok (.aload_n 0, 1) := by decide +kernel
theorem dX8_tell_5 : decode cX8_tell 5 = .ok (.iconst 0, 1) := by decide +kernel
theorem dX8_tell_6 : decode cX8_tell 6 = .ok (.putfield 15, 3) := by decide +kernel
theorem dX8_tell_9 : decode cX8_tell 9 = .ok (.iconst 0, 1) := by decide +kernel
theorem dX8_tell_10 : decode cX8_tell 10 = .ok (.ireturn, 1) := by decide +kernel
theorem dX8_tell_11 : decode cX8_tell 11 = .ok (.aload_n 0, 1) := by decide +kernel
theorem dX8_tell_12 : decode cX8_tell 12 = .ok (.getfield 15, 3) := by decide +kernel
theorem dX8_tell_15 : decode cX8_tell 15 = .ok (.ifCond .lt 12, 3) := by decide +kernel
theorem dX8_tell_18 : decode cX8_tell 18 = .ok (.aload_n 0, 1) := by decide +kernel
theorem dX8_tell_19 : decode cX8_tell 19 = .ok (.getfield 15, 3) := by decide +kernel
theorem dX8_tell_22 : decode cX8_tell 22 = .ok (.bipush 12, 2) := by decide +kernel
theorem dX8_tell_24 : decode cX8_tell 24 = .ok (.if_icmp .lt 6, 3) := by decide +kernel
theorem dX8_tell_27 : decode cX8_tell 27 = .ok (.bipush (-4), 2) := by decide +kernel
theorem dX8_tell_29 : decode cX8_tell 29 = .ok (.ireturn, 1) := by decide +kernel
theorem dX8_tell_30 : decode cX8_tell 30 = .ok (.aload_n 0, 1) := by decide +kernel
theorem dX8_tell_31 : decode cX8_tell 31 = .ok (.getfield 9, 3) := by decide +kernel
theorem dX8_tell_34 : decode cX8_tell 34 = .ok (.aload_n 0, 1) := by decide +kernel
theorem dX8_tell_35 : decode cX8_tell 35 = .ok (.getfield 15, 3) := by decide +kernel
theorem dX8_tell_38 : decode cX8_tell 38 = .ok (.iload_n 1, 1) := by decide +kernel
theorem dX8_tell_39 : decode cX8_tell 39 = .ok (.iastore, 1) := by decide +kernel
theorem dX8_tell_40 : decode cX8_tell 40 = .ok (.aload_n 0, 1) := by decide +kernel
theorem dX8_tell_41 : decode cX8_tell 41 = .ok (.dup, 1) := by decide +kernel
theorem dX8_tell_42 : decode cX8_tell 42 = .ok (.getfield 15, 3) := by decide +kernel
theorem dX8_tell_45 : decode cX8_tell 45 = .ok (.iconst 1, 1) := by decide +kernel
theorem dX8_tell_46 : decode cX8_tell 46 = .ok (.iadd, 1) := by decide +kernel
theorem dX8_tell_47 : decode cX8_tell 47 = .ok (.putfield 15, 3) := by decide +kernel
theorem dX8_tell_50 : decode cX8_tell 50 = .ok (.aload_n 0, 1) := by decide +kernel
theorem dX8_tell_51 : decode cX8_tell 51 = .ok (.getfield 15, 3) := by decide +kernel
theorem dX8_tell_54 : decode cX8_tell 54 = .ok (.ireturn, 1) := by decide +kernel
theorem dX8_become_0 : decode cX8_become 0 = .ok (.aload_n 1, 1) := by decide +kernel
theorem dX8_become_1 : decode cX8_become 1 = .ok (.getfield 9, 3) := by decide +kernel
theorem dX8_become_4 : decode cX8_become 4 = .ok (.iconst 0, 1) := by decide +kernel
theorem dX8_become_5 : decode cX8_become 5 = .ok (.aload_n 0, 1) := by decide +kernel
theorem dX8_become_6 : decode cX8_become 6 = .ok (.getfield 9, 3) := by decide +kernel
theorem dX8_become_9 : decode cX8_become 9 = .ok (.iconst 0, 1) := by decide +kernel
theorem dX8_become_10 : decode cX8_become 10 = .ok (.bipush 12, 2) := by decide +kernel
theorem dX8_become_12 : decode cX8_become 12 = .ok (.invokestatic 19, 3) := by decide +kernel
theorem dX8_become_15 : decode cX8_become 15 = .ok (.aload_n 0, 1) := by decide +kernel
theorem dX8_become_16 : decode cX8_become 16 = .ok (.aload_n 1, 1) := by decide +kernel
theorem dX8_become_17 : decode cX8_become 17 = .ok (.getfield 15, 3) := by decide +kernel
theorem dX8_become_20 : decode cX8_become 20 = .ok (.putfield 15, 3) := by decide +kernel
theorem dX8_become_23 : decode cX8_become 23 = .ok (.return_, 1) := by decide +kernel
theorem dX9_init_0 : decode cX9_init 0 = .ok (.aload_n 0, 1) := by decide +kernel
theorem dX9_init_1 : decode cX9_init 1 = .ok (.invokespecial 3, 3) := by decide +kernel
theorem dX9_init_4 : decode cX9_init 4 = .ok (.aload_n 0, 1) := by decide +kernel
theorem dX9_init_5 : decode cX9_init 5 = .ok (.iconst 4, 1) := by decide +kernel
theorem dX9_init_6 : decode cX9_init 6 = .ok (.putfield 9, 3) := by decide +kernel
theorem dX9_init_9 : decode cX9_init 9 = .ok (.return_, 1) := by decide +kernel
theorem dX9_stands_0 : decode cX9_stands 0 = .ok (.aload_n 0, 1) := by decide +kernel
theorem dX9_stands_1 : decode cX9_stands 1 = .ok (.iload_n 1, 1) := by decide +kernel
theorem dX9_stands_2 : decode cX9_stands 2 = .ok (.putfield 15, 3) := by decide +kernel
theorem dX9_stands_5 : decode cX9_stands 5 = .ok (.aload_n 0, 1) := by decide +kernel
theorem dX9_stands_6 : decode cX9_stands 6 = .ok (.iload_n 2, 1) := by decide +kernel
theorem dX9_stands_7 : decode cX9_stands 7 = .ok (.putfield 18, 3) := by decide +kernel
theorem dX9_stands_10 : decode cX9_stands 10 = .ok (.aload_n 0, 1) := by decide +kernel
theorem dX9_stands_11 : decode cX9_stands 11 = .ok (.iload_n 3, 1) := by decide +kernel
theorem dX9_stands_12 : decode cX9_stands 12 = .ok (.putfield 21, 3) := by decide +kernel
theorem dX9_stands_15 : decode cX9_stands 15 = .ok (.aload_n 0, 1) := by decide +kernel
theorem dX9_stands_16 : decode cX9_stands 16 = .ok (.iconst 4, 1) := by decide +kernel
theorem dX9_stands_17 : decode cX9_stands 17 = .ok (.putfield 9, 3) := by decide +kernel
theorem dX9_stands_20 : decode cX9_stands 20 = .ok (.return_, 1) := by decide +kernel
theorem dX9_become_0 : decode cX9_become 0 = .ok (.aload_n 0, 1) := by decide +kernel
theorem dX9_become_1 : decode cX9_become 1 = .ok (.aload_n 1, 1) := by decide +kernel
theorem dX9_become_2 : decode cX9_become 2 = .ok (.getfield 24, 3) := by decide +kernel
theorem dX9_become_5 : decode cX9_become 5 = .ok (.putfield 24, 3) := by decide +kernel
theorem dX9_become_8 : decode cX9_become 8 = .ok (.aload_n 0, 1) := by decide +kernel
theorem dX9_become_9 : decode cX9_become 9 = .ok (.aload_n 1, 1) := by decide +kernel
theorem dX9_become_10 : decode cX9_become 10 = .ok (.getfield 27, 3) := by decide +kernel
theorem dX9_become_13 : decode cX9_become 13 = .ok (.putfield 27, 3) := by decide +kernel
theorem dX9_become_16 : decode cX9_become 16 = .ok (.aload_n 0, 1) := by decide +kernel
theorem dX9_become_17 : decode cX9_become 17 = .ok (.aload_n 1, 1) := by decide +kernel
theorem dX9_become_18 : decode cX9_become 18 = .ok (.getfield 15, 3) := by decide +kernel
theorem dX9_become_21 : decode cX9_become 21 = .ok (.putfield 15, 3) := by decide +kernel
theorem dX9_become_24 : decode cX9_become 24 = .ok (.aload_n 0, 1) := by decide +kernel
theorem dX9_become_25 : decode cX9_become 25 = .ok (.aload_n 1, 1) := by decide +kernel
theorem dX9_become_26 : decode cX9_become 26 = .ok (.getfield 18, 3) := by decide +kernel
theorem dX9_become_29 : decode cX9_become 29 = .ok (.putfield 18, 3) := by decide +kernel
theorem dX9_become_32 : decode cX9_become 32 = .ok (.aload_n 0, 1) := by decide +kernel
theorem dX9_become_33 : decode cX9_become 33 = .ok (.aload_n 1, 1) := by decide +kernel
theorem dX9_become_34 : decode cX9_become 34 = .ok (.getfield 21, 3) := by decide +kernel
theorem dX9_become_37 : decode cX9_become 37 = .ok (.putfield 21, 3) := by decide +kernel
theorem dX9_become_40 : decode cX9_become 40 = .ok (.aload_n 0, 1) := by decide +kernel
theorem dX9_become_41 : decode cX9_become 41 = .ok (.aload_n 1, 1) := by decide +kernel
theorem dX9_become_42 : decode cX9_become 42 = .ok (.getfield 30, 3) := by decide +kernel
theorem dX9_become_45 : decode cX9_become 45 = .ok (.putfield 30, 3) := by decide +kernel
theorem dX9_become_48 : decode cX9_become 48 = .ok (.aload_n 0, 1) := by decide +kernel
theorem dX9_become_49 : decode cX9_become 49 = .ok (.aload_n 1, 1) := by decide +kernel
theorem dX9_become_50 : decode cX9_become 50 = .ok (.getfield 9, 3) := by decide +kernel
theorem dX9_become_53 : decode cX9_become 53 = .ok (.putfield 9, 3) := by decide +kernel
theorem dX9_become_56 : decode cX9_become 56 = .ok (.return_, 1) := by decide +kernel
theorem dX10_init_0 : decode cX10_init 0 = .ok (.aload_n 0, 1) := by decide +kernel
theorem dX10_init_1 : decode cX10_init 1 = .ok (.invokespecial 5, 3) := by decide +kernel
theorem dX10_init_4 : decode cX10_init 4 = .ok (.aload_n 0, 1) := by decide +kernel
theorem dX10_init_5 : decode cX10_init 5 = .ok (.new 11, 3) := by decide +kernel
theorem dX10_init_8 : decode cX10_init 8 = .ok (.dup, 1) := by decide +kernel
theorem dX10_init_9 : decode cX10_init 9 = .ok (.invokespecial 13, 3) := by decide +kernel
theorem dX10_init_12 : decode cX10_init 12 = .ok (.putfield 14, 3) := by decide +kernel
theorem dX10_init_15 : decode cX10_init 15 = .ok (.aload_n 0, 1) := by decide +kernel
theorem dX10_init_16 : decode cX10_init 16 = .ok (.new 18, 3) := by decide +kernel
theorem dX10_init_19 : decode cX10_init 19 = .ok (.dup, 1) := by decide +kernel
theorem dX10_init_20 : decode cX10_init 20 = .ok (.invokespecial 20, 3) := by decide +kernel
theorem dX10_init_23 : decode cX10_init 23 = .ok (.putfield 21, 3) := by decide +kernel
theorem dX10_init_26 : decode cX10_init 26 = .ok (.aload_n 0, 1) := by decide +kernel
theorem dX10_init_27 : decode cX10_init 27 = .ok (.new 25, 3) := by decide +kernel
theorem dX10_init_30 : decode cX10_init 30 = .ok (.dup, 1) := by decide +kernel
theorem dX10_init_31 : decode cX10_init 31 = .ok (.invokespecial 27, 3) := by decide +kernel
theorem dX10_init_34 : decode cX10_init 34 = .ok (.putfield 28, 3) := by decide +kernel
theorem dX10_init_37 : decode cX10_init 37 = .ok (.aload_n 0, 1) := by decide +kernel
theorem dX10_init_38 : decode cX10_init 38 = .ok (.bipush 6, 2) := by decide +kernel
theorem dX10_init_40 : decode cX10_init 40 = .ok (.anewarray 32, 3) := by decide +kernel
theorem dX10_init_43 : decode cX10_init 43 = .ok (.putfield 34, 3) := by decide +kernel
theorem dX10_init_46 : decode cX10_init 46 = .ok (.new 38, 3) := by decide +kernel
theorem dX10_init_49 : decode cX10_init 49 = .ok (.dup, 1) := by decide +kernel
theorem dX10_init_50 : decode cX10_init 50 = .ok (.iconst 2, 1) := by decide +kernel
theorem dX10_init_51 : decode cX10_init 51 = .ok (.iconst 1, 1) := by decide +kernel
theorem dX10_init_52 : decode cX10_init 52 = .ok (.iconst 4, 1) := by decide +kernel
theorem dX10_init_53 : decode cX10_init 53 = .ok (.newarray .long, 2) := by decide +kernel
theorem dX10_init_55 : decode cX10_init 55 = .ok (.invokespecial 40, 3) := by decide +kernel
theorem dX10_init_58 : decode cX10_init 58 = .ok (.astore_n 1, 1) := by decide +kernel
theorem dX10_init_59 : decode cX10_init 59 = .ok (.aload_n 0, 1) := by decide +kernel
theorem dX10_init_60 : decode cX10_init 60 = .ok (.new 43, 3) := by decide +kernel
theorem dX10_init_63 : decode cX10_init 63 = .ok (.dup, 1) := by decide +kernel
theorem dX10_init_64 : decode cX10_init 64 = .ok (.aload_n 1, 1) := by decide +kernel
theorem dX10_init_65 : decode cX10_init 65 = .ok (.invokespecial 45, 3) := by decide +kernel
theorem dX10_init_68 : decode cX10_init 68 = .ok (.putfield 48, 3) := by decide +kernel
theorem dX10_init_71 : decode cX10_init 71 = .ok (.aload_n 0, 1) := by decide +kernel
theorem dX10_init_72 : decode cX10_init 72 = .ok (.new 43, 3) := by decide +kernel
theorem dX10_init_75 : decode cX10_init 75 = .ok (.dup, 1) := by decide +kernel
theorem dX10_init_76 : decode cX10_init 76 = .ok (.aload_n 1, 1) := by decide +kernel
theorem dX10_init_77 : decode cX10_init 77 = .ok (.invokespecial 45, 3) := by decide +kernel
theorem dX10_init_80 : decode cX10_init 80 = .ok (.putfield 52, 3) := by decide +kernel
theorem dX10_init_83 : decode cX10_init 83 = .ok (.aload_n 0, 1) := by decide +kernel
theorem dX10_init_84 : decode cX10_init 84 = .ok (.new 55, 3) := by decide +kernel
theorem dX10_init_87 : decode cX10_init 87 = .ok (.dup, 1) := by decide +kernel
theorem dX10_init_88 : decode cX10_init 88 = .ok (.aload_n 1, 1) := by decide +kernel
theorem dX10_init_89 : decode cX10_init 89 = .ok (.invokespecial 57, 3) := by decide +kernel
theorem dX10_init_92 : decode cX10_init 92 = .ok (.putfield 58, 3) := by decide +kernel
theorem dX10_init_95 : decode cX10_init 95 = .ok (.aload_n 0, 1) := by decide +kernel
theorem dX10_init_96 : decode cX10_init 96 = .ok (.new 62, 3) := by decide +kernel
theorem dX10_init_99 : decode cX10_init 99 = .ok (.dup, 1) := by decide +kernel
theorem dX10_init_100 : decode cX10_init 100 = .ok (.aload_n 1, 1) := by decide +kernel
theorem dX10_init_101 : decode cX10_init 101 = .ok (.invokespecial 64, 3) := by decide +kernel
theorem dX10_init_104 : decode cX10_init 104 = .ok (.putfield 65, 3) := by decide +kernel
theorem dX10_init_107 : decode cX10_init 107 = .ok (.aload_n 0, 1) := by decide +kernel
theorem dX10_init_108 : decode cX10_init 108 = .ok (.new 62, 3) := by decide +kernel
theorem dX10_init_111 : decode cX10_init 111 = .ok (.dup, 1) := by decide +kernel
theorem dX10_init_112 : decode cX10_init 112 = .ok (.aload_n 1, 1) := by decide +kernel
theorem dX10_init_113 : decode cX10_init 113 = .ok (.invokespecial 64, 3) := by decide +kernel
theorem dX10_init_116 : decode cX10_init 116 = .ok (.putfield 69, 3) := by decide +kernel
theorem dX10_init_119 : decode cX10_init 119 = .ok (.aload_n 0, 1) := by decide +kernel
theorem dX10_init_120 : decode cX10_init 120 = .ok (.new 72, 3) := by decide +kernel
theorem dX10_init_123 : decode cX10_init 123 = .ok (.dup, 1) := by decide +kernel
theorem dX10_init_124 : decode cX10_init 124 = .ok (.aload_n 1, 1) := by decide +kernel
theorem dX10_init_125 : decode cX10_init 125 = .ok (.invokespecial 74, 3) := by decide +kernel
theorem dX10_init_128 : decode cX10_init 128 = .ok (.putfield 75, 3) := by decide +kernel
theorem dX10_init_131 : decode cX10_init 131 = .ok (.iconst 0, 1) := by decide +kernel
theorem dX10_init_132 : decode cX10_init 132 = .ok (.istore_n 2, 1) := by decide +kernel
theorem dX10_init_133 : decode cX10_init 133 = .ok (.iload_n 2, 1) := by decide +kernel
theorem dX10_init_134 : decode cX10_init 134 = .ok (.bipush 6, 2) := by decide +kernel
theorem dX10_init_136 : decode cX10_init 136 = .ok (.if_icmp .ge 22, 3) := by decide +kernel
theorem dX10_init_139 : decode cX10_init 139 = .ok (.aload_n 0, 1) := by decide +kernel
theorem dX10_init_140 : decode cX10_init 140 = .ok (.getfield 34, 3) := by decide +kernel
theorem dX10_init_143 : decode cX10_init 143 = .ok (.iload_n 2, 1) := by decide +kernel
theorem dX10_init_144 : decode cX10_init 144 = .ok (.new 32, 3) := by decide +kernel
theorem dX10_init_147 : decode cX10_init 147 = .ok (.dup, 1) := by decide +kernel
theorem dX10_init_148 : decode cX10_init 148 = .ok (.invokespecial 79, 3) := by decide +kernel
theorem dX10_init_151 : decode cX10_init 151 = .ok (.aastore, 1) := by decide +kernel
theorem dX10_init_152 : decode cX10_init 152 = .ok (.iinc 2 1, 3) := by decide +kernel
theorem dX10_init_155 : decode cX10_init 155 = .ok (.goto (-22), 3) := by decide +kernel
theorem dX10_init_158 : decode cX10_init 158 = .ok (.return_, 1) := by decide +kernel
theorem dX10_feed_0 : decode cX10_feed 0 = .ok (.iload_n 1, 1) := by decide +kernel
theorem dX10_feed_1 : decode cX10_feed 1 = .ok (.ifCond .lt 9, 3) := by decide +kernel
theorem dX10_feed_4 : decode cX10_feed 4 = .ok (.iload_n 1, 1) := by decide +kernel
theorem dX10_feed_5 : decode cX10_feed 5 = .ok (.bipush 127, 2) := by decide +kernel
theorem dX10_feed_7 : decode cX10_feed 7 = .ok (.if_icmp .le 6, 3) := by decide +kernel
theorem dX10_feed_10 : decode cX10_feed 10 = .ok (.bipush (-2), 2) := by decide +kernel
theorem dX10_feed_12 : decode cX10_feed 12 = .ok (.ireturn, 1) := by decide +kernel
theorem dX10_feed_13 : decode cX10_feed 13 = .ok (.aload_n 0, 1) := by decide +kernel
theorem dX10_feed_14 : decode cX10_feed 14 = .ok (.getfield 14, 3) := by decide +kernel
theorem dX10_feed_17 : decode cX10_feed 17 = .ok (.iload_n 1, 1) := by decide +kernel
theorem dX10_feed_18 : decode cX10_feed 18 = .ok (.invokevirtual 80, 3) := by decide +kernel
theorem dX10_feed_21 : decode cX10_feed 21 = .ok (.ifCond .eq 13, 3) := by decide +kernel
theorem dX10_feed_24 : decode cX10_feed 24 = .ok (.aload_n 0, 1) := by decide +kernel
theorem dX10_feed_25 : decode cX10_feed 25 = .ok (.getfield 14, 3) := by decide +kernel
theorem dX10_feed_28 : decode cX10_feed 28 = .ok (.getfield 84, 3) := by decide +kernel
theorem dX10_feed_31 : decode cX10_feed 31 = .ok (.goto 5, 3) := by decide +kernel
theorem dX10_feed_34 : decode cX10_feed 34 = .ok (.bipush (-4), 2) := by decide +kernel
theorem dX10_feed_36 : decode cX10_feed 36 = .ok (.ireturn, 1) := by decide +kernel
theorem dX10_land_0 : decode cX10_land 0 = .ok (.aload_n 0, 1) := by decide +kernel
theorem dX10_land_1 : decode cX10_land 1 = .ok (.getfield 88, 3) := by decide +kernel
theorem dX10_land_4 : decode cX10_land 4 = .ok (.bipush 6, 2) := by decide +kernel
theorem dX10_land_6 : decode cX10_land 6 = .ok (.if_icmp .lt 6, 3) := by decide +kernel
theorem dX10_land_9 : decode cX10_land 9 = .ok (.bipush (-4), 2) := by decide +kernel
theorem dX10_land_11 : decode cX10_land 11 = .ok (.ireturn, 1) := by decide +kernel
theorem dX10_land_12 : decode cX10_land 12 = .ok (.aload_n 0, 1) := by decide +kernel
theorem dX10_land_13 : decode cX10_land 13 = .ok (.getfield 14, 3) := by decide +kernel
theorem dX10_land_16 : decode cX10_land 16 = .ok (.invokevirtual 91, 3) := by decide +kernel
theorem dX10_land_19 : decode cX10_land 19 = .ok (.astore_n 1, 1) := by decide +kernel
theorem dX10_land_20 : decode cX10_land 20 = .ok (.aload_n 0, 1) := by decide +kernel
theorem dX10_land_21 : decode cX10_land 21 = .ok (.getfield 14, 3) := by decide +kernel
theorem dX10_land_24 : decode cX10_land 24 = .ok (.iconst 0, 1) := by decide +kernel
theorem dX10_land_25 : decode cX10_land 25 = .ok (.putfield 84, 3) := by decide +kernel
theorem dX10_land_28 : decode cX10_land 28 = .ok (.aload_n 1, 1) := by decide +kernel
theorem dX10_land_29 : decode cX10_land 29 = .ok (.ifnonnull 14, 3) := by decide +kernel
theorem dX10_land_32 : decode cX10_land 32 = .ok (.bipush (-10), 2) := by decide +kernel
theorem dX10_land_34 : decode cX10_land 34 = .ok (.aload_n 0, 1) := by decide +kernel
theorem dX10_land_35 : decode cX10_land 35 = .ok (.getfield 14, 3) := by decide +kernel
theorem dX10_land_38 : decode cX10_land 38 = .ok (.getfield 95, 3) := by decide +kernel
theorem dX10_land_41 : decode cX10_land 41 = .ok (.isub, 1) := by decide +kernel
theorem dX10_land_42 : decode cX10_land 42 = .ok (.ireturn, 1) := by decide +kernel
theorem dX10_land_43 : decode cX10_land 43 = .ok (.aload_n 0, 1) := by decide +kernel
theorem dX10_land_44 : decode cX10_land 44 = .ok (.getfield 48, 3) := by decide +kernel
theorem dX10_land_47 : decode cX10_land 47 = .ok (.aload_n 1, 1) := by decide +kernel
theorem dX10_land_48 : decode cX10_land 48 = .ok (.putfield 98, 3) := by decide +kernel
theorem dX10_land_51 : decode cX10_land 51 = .ok (.aload_n 0, 1) := by decide +kernel
theorem dX10_land_52 : decode cX10_land 52 = .ok (.dup, 1) := by decide +kernel
theorem dX10_land_53 : decode cX10_land 53 = .ok (.getfield 88, 3) := by decide +kernel
theorem dX10_land_56 : decode cX10_land 56 = .ok (.iconst 1, 1) := by decide +kernel
theorem dX10_land_57 : decode cX10_land 57 = .ok (.iadd, 1) := by decide +kernel
theorem dX10_land_58 : decode cX10_land 58 = .ok (.putfield 88, 3) := by decide +kernel
theorem dX10_land_61 : decode cX10_land 61 = .ok (.aload_n 0, 1) := by decide +kernel
theorem dX10_land_62 : decode cX10_land 62 = .ok (.getfield 88, 3) := by decide +kernel
theorem dX10_land_65 : decode cX10_land 65 = .ok (.iconst 1, 1) := by decide +kernel
theorem dX10_land_66 : decode cX10_land 66 = .ok (.isub, 1) := by decide +kernel
theorem dX10_land_67 : decode cX10_land 67 = .ok (.ireturn, 1) := by decide +kernel
theorem dX10_told_0 : decode cX10_told 0 = .ok (.iload_n 1, 1) := by decide +kernel
theorem dX10_told_1 : decode cX10_told 1 = .ok (.lookupswitch 49 #[(0, 27), (1, 38)], 27) := by decide +kernel
theorem dX10_told_28 : decode cX10_told 28 = .ok (.aload_n 0, 1) := by decide +kernel
theorem dX10_told_29 : decode cX10_told 29 = .ok (.getfield 48, 3) := by decide +kernel
theorem dX10_told_32 : decode cX10_told 32 = .ok (.getfield 98, 3) := by decide +kernel
theorem dX10_told_35 : decode cX10_told 35 = .ok (.getfield 102, 3) := by decide +kernel
theorem dX10_told_38 : decode cX10_told 38 = .ok (.ireturn, 1) := by decide +kernel
theorem dX10_told_39 : decode cX10_told 39 = .ok (.aload_n 0, 1) := by decide +kernel
theorem dX10_told_40 : decode cX10_told 40 = .ok (.getfield 48, 3) := by decide +kernel
theorem dX10_told_43 : decode cX10_told 43 = .ok (.getfield 98, 3) := by decide +kernel
theorem dX10_told_46 : decode cX10_told 46 = .ok (.getfield 105, 3) := by decide +kernel
theorem dX10_told_49 : decode cX10_told 49 = .ok (.ireturn, 1) := by decide +kernel
theorem dX10_told_50 : decode cX10_told 50 = .ok (.iconst (-1), 1) := by decide +kernel
theorem dX10_told_51 : decode cX10_told 51 = .ok (.ireturn, 1) := by decide +kernel
theorem dX10_ground_0 : decode cX10_ground 0 = .ok (.iload_n 1, 1) := by decide +kernel
theorem dX10_ground_1 : decode cX10_ground 1 = .ok (.invokestatic 108, 3) := by decide +kernel
theorem dX10_ground_4 : decode cX10_ground 4 = .ok (.ifCond .eq 12, 3) := by decide +kernel
theorem dX10_ground_7 : decode cX10_ground 7 = .ok (.iload_n 2, 1) := by decide +kernel
theorem dX10_ground_8 : decode cX10_ground 8 = .ok (.ifCond .lt 8, 3) := by decide +kernel
theorem dX10_ground_11 : decode cX10_ground 11 = .ok (.iload_n 2, 1) := by decide +kernel
theorem dX10_ground_12 : decode cX10_ground 12 = .ok (.iconst 3, 1) := by decide +kernel
theorem dX10_ground_13 : decode cX10_ground 13 = .ok (.if_icmp .le 5, 3) := by decide +kernel
theorem dX10_ground_16 : decode cX10_ground 16 = .ok (.iconst (-1), 1) := by decide +kernel
theorem dX10_ground_17 : decode cX10_ground 17 = .ok (.ireturn, 1) := by decide +kernel
theorem dX10_ground_18 : decode cX10_ground 18 = .ok (.aload_n 0, 1) := by decide +kernel
theorem dX10_ground_19 : decode cX10_ground 19 = .ok (.getfield 48, 3) := by decide +kernel
theorem dX10_ground_22 : decode cX10_ground 22 = .ok (.getfield 98, 3) := by decide +kernel
theorem dX10_ground_25 : decode cX10_ground 25 = .ok (.iload_n 2, 1) := by decide +kernel
theorem dX10_ground_26 : decode cX10_ground 26 = .ok (.invokevirtual 111, 3) := by decide +kernel
theorem dX10_ground_29 : decode cX10_ground 29 = .ok (.iload_n 1, 1) := by decide +kernel
theorem dX10_ground_30 : decode cX10_ground 30 = .ok (.invokestatic 115, 3) := by decide +kernel
theorem dX10_ground_33 : decode cX10_ground 33 = .ok (.ifCond .eq 7, 3) := by decide +kernel
theorem dX10_ground_36 : decode cX10_ground 36 = .ok (.iconst 1, 1) := by decide +kernel
theorem dX10_ground_37 : decode cX10_ground 37 = .ok (.goto 4, 3) := by decide +kernel
theorem dX10_ground_40 : decode cX10_ground 40 = .ok (.iconst 0, 1) := by decide +kernel
theorem dX10_ground_41 : decode cX10_ground 41 = .ok (.ireturn, 1) := by decide +kernel
theorem dX10_walker_0 : decode cX10_walker 0 = .ok (.iload_n 1, 1) := by decide +kernel
theorem dX10_walker_1 : decode cX10_walker 1 = .ok (.invokestatic 119, 3) := by decide +kernel
theorem dX10_walker_4 : decode cX10_walker 4 = .ok (.ifCond .eq 18, 3) := by decide +kernel
theorem dX10_walker_7 : decode cX10_walker 7 = .ok (.iload_n 3, 1) := by decide +kernel
theorem dX10_walker_8 : decode cX10_walker 8 = .ok (.invokestatic 108, 3) := by decide +kernel
theorem dX10_walker_11 : decode cX10_walker 11 = .ok (.ifCond .eq 11, 3) := by decide +kernel
theorem dX10_walker_14 : decode cX10_walker 14 = .ok (.iload 4, 2) := by decide +kernel
theorem dX10_walker_16 : decode cX10_walker 16 = .ok (.invokestatic 122, 3) := by decide +kernel
theorem dX10_walker_19 : decode cX10_walker 19 = .ok (.ifCond .ne 5, 3) := by decide +kernel
theorem dX10_walker_22 : decode cX10_walker 22 = .ok (.iconst (-1), 1) := by decide +kernel
theorem dX10_walker_23 : decode cX10_walker 23 = .ok (.ireturn, 1) := by decide +kernel
theorem dX10_walker_24 : decode cX10_walker 24 = .ok (.iload_n 2, 1) := by decide +kernel
theorem dX10_walker_25 : decode cX10_walker 25 = .ok (.invokestatic 125, 3) := by decide +kernel
theorem dX10_walker_28 : decode cX10_walker 28 = .ok (.ifCond .ne 6, 3) := by decide +kernel
theorem dX10_walker_31 : decode cX10_walker 31 = .ok (.bipush (-2), 2) := by decide +kernel
theorem dX10_walker_33 : decode cX10_walker 33 = .ok (.ireturn, 1) := by decide +kernel
theorem dX10_walker_34 : decode cX10_walker 34 = .ok (.aload_n 0, 1) := by decide +kernel
theorem dX10_walker_35 : decode cX10_walker 35 = .ok (.getfield 48, 3) := by decide +kernel
theorem dX10_walker_38 : decode cX10_walker 38 = .ok (.getfield 98, 3) := by decide +kernel
theorem dX10_walker_41 : decode cX10_walker 41 = .ok (.getfield 128, 3) := by decide +kernel
theorem dX10_walker_44 : decode cX10_walker 44 = .ok (.iload_n 3, 1) := by decide +kernel
theorem dX10_walker_45 : decode cX10_walker 45 = .ok (.invokestatic 115, 3) := by decide +kernel
theorem dX10_walker_48 : decode cX10_walker 48 = .ok (.ifCond .eq 6, 3) := by decide +kernel
theorem dX10_walker_51 : decode cX10_walker 51 = .ok (.bipush (-3), 2) := by decide +kernel
theorem dX10_walker_53 : decode cX10_walker 53 = .ok (.ireturn, 1) := by decide +kernel
theorem dX10_walker_54 : decode cX10_walker 54 = .ok (.aload_n 0, 1) := by decide +kernel
theorem dX10_walker_55 : decode cX10_walker 55 = .ok (.getfield 48, 3) := by decide +kernel
theorem dX10_walker_58 : decode cX10_walker 58 = .ok (.invokevirtual 132, 3) := by decide +kernel
theorem dX10_walker_61 : decode cX10_walker 61 = .ok (.astore 5, 2) := by decide +kernel
theorem dX10_walker_63 : decode cX10_walker 63 = .ok (.aload 5, 2) := by decide +kernel
theorem dX10_walker_65 : decode cX10_walker 65 = .ok (.ifnonnull 6, 3) := by decide +kernel
theorem dX10_walker_68 : decode cX10_walker 68 = .ok (.bipush (-4), 2) := by decide +kernel
theorem dX10_walker_70 : decode cX10_walker 70 = .ok (.ireturn, 1) := by decide +kernel
theorem dX10_walker_71 : decode cX10_walker 71 = .ok (.aload 5, 2) := by decide +kernel
theorem dX10_walker_73 : decode cX10_walker 73 = .ok (.iload_n 1, 1) := by decide +kernel
theorem dX10_walker_74 : decode cX10_walker 74 = .ok (.putfield 136, 3) := by decide +kernel
theorem dX10_walker_77 : decode cX10_walker 77 = .ok (.aload 5, 2) := by decide +kernel
theorem dX10_walker_79 : decode cX10_walker 79 = .ok (.iload_n 2, 1) := by decide +kernel
theorem dX10_walker_80 : decode cX10_walker 80 = .ok (.putfield 139, 3) := by decide +kernel
theorem dX10_walker_83 : decode cX10_walker 83 = .ok (.aload 5, 2) := by decide +kernel
theorem dX10_walker_85 : decode cX10_walker 85 = .ok (.iconst 0, 1) := by decide +kernel
theorem dX10_walker_86 : decode cX10_walker 86 = .ok (.putfield 142, 3) := by decide +kernel
theorem dX10_walker_89 : decode cX10_walker 89 = .ok (.aload 5, 2) := by decide +kernel
theorem dX10_walker_91 : decode cX10_walker 91 = .ok (.iload_n 3, 1) := by decide +kernel
theorem dX10_walker_92 : decode cX10_walker 92 = .ok (.iload 4, 2) := by decide +kernel
theorem dX10_walker_94 : decode cX10_walker 94 = .ok (.iconst 0, 1) := by decide +kernel
theorem dX10_walker_95 : decode cX10_walker 95 = .ok (.invokevirtual 145, 3) := by decide +kernel
theorem dX10_walker_98 : decode cX10_walker 98 = .ok (.aload_n 0, 1) := by decide +kernel
theorem dX10_walker_99 : decode cX10_walker 99 = .ok (.getfield 48, 3) := by decide +kernel
theorem dX10_walker_102 : decode cX10_walker 102 = .ok (.getfield 149, 3) := by decide +kernel
theorem dX10_walker_105 : decode cX10_walker 105 = .ok (.iconst 1, 1) := by decide +kernel
theorem dX10_walker_106 : decode cX10_walker 106 = .ok (.isub, 1) := by decide +kernel
theorem dX10_walker_107 : decode cX10_walker 107 = .ok (.ireturn, 1) := by decide +kernel
theorem dX10_of_0 : decode cX10_of 0 = .ok (.aload_n 0, 1) := by decide +kernel
theorem dX10_of_1 : decode cX10_of 1 = .ok (.getfield 48, 3) := by decide +kernel
theorem dX10_of_4 : decode cX10_of 4 = .ok (.iload_n 1, 1) := by decide +kernel
theorem dX10_of_5 : decode cX10_of 5 = .ok (.invokevirtual 152, 3) := by decide +kernel
theorem dX10_of_8 : decode cX10_of 8 = .ok (.astore_n 3, 1) := by decide +kernel
theorem dX10_of_9 : decode cX10_of 9 = .ok (.aload_n 3, 1) := by decide +kernel
theorem dX10_of_10 : decode cX10_of 10 = .ok (.ifnonnull 5, 3) := by decide +kernel
theorem dX10_of_13 : decode cX10_of 13 = .ok (.iconst (-1), 1) := by decide +kernel
theorem dX10_of_14 : decode cX10_of 14 = .ok (.ireturn, 1) := by decide +kernel
theorem dX10_of_15 : decode cX10_of 15 = .ok (.iload_n 2, 1) := by decide +kernel
theorem dX10_of_16 : decode cX10_of 16 = .ok (.tableswitch 96 0 6 #[44, 49, 54, 59, 64, 79, 91], 44) := by decide +kernel
theorem dX10_of_60 : decode cX10_of 60 = .ok (.aload_n 3, 1) := by decide +kernel
theorem dX10_of_61 : decode cX10_of 61 = .ok (.getfield 136, 3) := by decide +kernel
theorem dX10_of_64 : decode cX10_of 64 = .ok (.ireturn, 1) := by decide +kernel
theorem dX10_of_65 : decode cX10_of 65 = .ok (.aload_n 3, 1) := by decide +kernel
theorem dX10_of_66 : decode cX10_of 66 = .ok (.getfield 139, 3) := by decide +kernel
theorem dX10_of_69 : decode cX10_of 69 = .ok (.ireturn, 1) := by decide +kernel
theorem dX10_of_70 : decode cX10_of 70 = .ok (.aload_n 3, 1) := by decide +kernel
theorem dX10_of_71 : decode cX10_of 71 = .ok (.getfield 156, 3) := by decide +kernel
theorem dX10_of_74 : decode cX10_of 74 = .ok (.ireturn, 1) := by decide +kernel
theorem dX10_of_75 : decode cX10_of 75 = .ok (.aload_n 3, 1) := by decide +kernel
theorem dX10_of_76 : decode cX10_of 76 = .ok (.getfield 159, 3) := by decide +kernel
theorem dX10_of_79 : decode cX10_of 79 = .ok (.ireturn, 1) := by decide +kernel
theorem dX10_of_80 : decode cX10_of 80 = .ok (.aload_n 0, 1) := by decide +kernel
theorem dX10_of_81 : decode cX10_of 81 = .ok (.getfield 48, 3) := by decide +kernel
theorem dX10_of_84 : decode cX10_of 84 = .ok (.getfield 98, 3) := by decide +kernel
theorem dX10_of_87 : decode cX10_of 87 = .ok (.aload_n 3, 1) := by decide +kernel
theorem dX10_of_88 : decode cX10_of 88 = .ok (.getfield 162, 3) := by decide +kernel
theorem dX10_of_91 : decode cX10_of 91 = .ok (.invokevirtual 165, 3) := by decide +kernel
theorem dX10_of_94 : decode cX10_of 94 = .ok (.ireturn, 1) := by decide +kernel
theorem dX10_of_95 : decode cX10_of 95 = .ok (.aload_n 3, 1) := by decide +kernel
theorem dX10_of_96 : decode cX10_of 96 = .ok (.getfield 156, 3) := by decide +kernel
theorem dX10_of_99 : decode cX10_of 99 = .ok (.aload_n 3, 1) := by decide +kernel
theorem dX10_of_100 : decode cX10_of 100 = .ok (.getfield 168, 3) := by decide +kernel
theorem dX10_of_103 : decode cX10_of 103 = .ok (.invokestatic 171, 3) := by decide +kernel
theorem dX10_of_106 : decode cX10_of 106 = .ok (.ireturn, 1) := by decide +kernel
theorem dX10_of_107 : decode cX10_of 107 = .ok (.aload_n 3, 1) := by decide +kernel
theorem dX10_of_108 : decode cX10_of 108 = .ok (.getfield 142, 3) := by decide +kernel
theorem dX10_of_111 : decode cX10_of 111 = .ok (.ireturn, 1) := by decide +kernel
theorem dX10_of_112 : decode cX10_of 112 = .ok (.iconst (-1), 1) := by decide +kernel
theorem dX10_of_113 : decode cX10_of 113 = .ok (.ireturn, 1) := by decide +kernel
theorem dX10_put_0 : decode cX10_put 0 = .ok (.aload_n 0, 1) := by decide +kernel
theorem dX10_put_1 : decode cX10_put 1 = .ok (.getfield 48, 3) := by decide +kernel
theorem dX10_put_4 : decode cX10_put 4 = .ok (.iload_n 1, 1) := by decide +kernel
theorem dX10_put_5 : decode cX10_put 5 = .ok (.invokevirtual 152, 3) := by decide +kernel
theorem dX10_put_8 : decode cX10_put 8 = .ok (.astore 5, 2) := by decide +kernel
theorem dX10_put_10 : decode cX10_put 10 = .ok (.aload 5, 2) := by decide +kernel
theorem dX10_put_12 : decode cX10_put 12 = .ok (.ifnull 17, 3) := by decide +kernel
theorem dX10_put_15 : decode cX10_put 15 = .ok (.iload_n 2, 1) := by decide +kernel
theorem dX10_put_16 : decode cX10_put 16 = .ok (.invokestatic 108, 3) := by decide +kernel
theorem dX10_put_19 : decode cX10_put 19 = .ok (.ifCond .eq 10, 3) := by decide +kernel
theorem dX10_put_22 : decode cX10_put 22 = .ok (.iload_n 3, 1) := by decide +kernel
theorem dX10_put_23 : decode cX10_put 23 = .ok (.invokestatic 122, 3) := by decide +kernel
theorem dX10_put_26 : decode cX10_put 26 = .ok (.ifCond .ne 5, 3) := by decide +kernel
theorem dX10_put_29 : decode cX10_put 29 = .ok (.iconst (-1), 1) := by decide +kernel
theorem dX10_put_30 : decode cX10_put 30 = .ok (.ireturn, 1) := by decide +kernel
theorem dX10_put_31 : decode cX10_put 31 = .ok (.iload 4, 2) := by decide +kernel
theorem dX10_put_33 : decode cX10_put 33 = .ok (.ifCond .lt 10, 3) := by decide +kernel
theorem dX10_put_36 : decode cX10_put 36 = .ok (.iload 4, 2) := by decide +kernel
theorem dX10_put_38 : decode cX10_put 38 = .ok (.bipush 8, 2) := by decide +kernel
theorem dX10_put_40 : decode cX10_put 40 = .ok (.if_icmp .lt 6, 3) := by decide +kernel
theorem dX10_put_43 : decode cX10_put 43 = .ok (.bipush (-2), 2) := by decide +kernel
theorem dX10_put_45 : decode cX10_put 45 = .ok (.ireturn, 1) := by decide +kernel
theorem dX10_put_46 : decode cX10_put 46 = .ok (.aload_n 0, 1) := by decide +kernel
theorem dX10_put_47 : decode cX10_put 47 = .ok (.getfield 48, 3) := by decide +kernel
theorem dX10_put_50 : decode cX10_put 50 = .ok (.getfield 98, 3) := by decide +kernel
theorem dX10_put_53 : decode cX10_put 53 = .ok (.getfield 128, 3) := by decide +kernel
theorem dX10_put_56 : decode cX10_put 56 = .ok (.iload_n 2, 1) := by decide +kernel
theorem dX10_put_57 : decode cX10_put 57 = .ok (.invokestatic 115, 3) := by decide +kernel
theorem dX10_put_60 : decode cX10_put 60 = .ok (.ifCond .eq 6, 3) := by decide +kernel
theorem dX10_put_63 : decode cX10_put 63 = .ok (.bipush (-3), 2) := by decide +kernel
theorem dX10_put_65 : decode cX10_put 65 = .ok (.ireturn, 1) := by decide +kernel
theorem dX10_put_66 : decode cX10_put 66 = .ok (.aload 5, 2) := by decide +kernel
theorem dX10_put_68 : decode cX10_put 68 = .ok (.getfield 156, 3) := by decide +kernel
theorem dX10_put_71 : decode cX10_put 71 = .ok (.istore 6, 2) := by decide +kernel
theorem dX10_put_73 : decode cX10_put 73 = .ok (.aload 5, 2) := by decide +kernel
theorem dX10_put_75 : decode cX10_put 75 = .ok (.iload_n 2, 1) := by decide +kernel
theorem dX10_put_76 : decode cX10_put 76 = .ok (.iload_n 3, 1) := by decide +kernel
theorem dX10_put_77 : decode cX10_put 77 = .ok (.iload 4, 2) := by decide +kernel
theorem dX10_put_79 : decode cX10_put 79 = .ok (.invokevirtual 145, 3) := by decide +kernel
theorem dX10_put_82 : decode cX10_put 82 = .ok (.iload 6, 2) := by decide +kernel
theorem dX10_put_84 : decode cX10_put 84 = .ok (.ireturn, 1) := by decide +kernel
theorem dX10_may_0 : decode cX10_may 0 = .ok (.aload_n 0, 1) := by decide +kernel
theorem dX10_may_1 : decode cX10_may 1 = .ok (.getfield 48, 3) := by decide +kernel
theorem dX10_may_4 : decode cX10_may 4 = .ok (.iload_n 1, 1) := by decide +kernel
theorem dX10_may_5 : decode cX10_may 5 = .ok (.invokevirtual 152, 3) := by decide +kernel
theorem dX10_may_8 : decode cX10_may 8 = .ok (.astore_n 2, 1) := by decide +kernel
theorem dX10_may_9 : decode cX10_may 9 = .ok (.aload_n 2, 1) := by decide +kernel
theorem dX10_may_10 : decode cX10_may 10 = .ok (.ifnonnull 7, 3) := by decide +kernel
theorem dX10_may_13 : decode cX10_may 13 = .ok (.iconst (-1), 1) := by decide +kernel
theorem dX10_may_14 : decode cX10_may 14 = .ok (.goto 8, 3) := by decide +kernel
theorem dX10_may_17 : decode cX10_may 17 = .ok (.aload_n 0, 1) := by decide +kernel
theorem dX10_may_18 : decode cX10_may 18 = .ok (.aload_n 2, 1) := by decide +kernel
theorem dX10_may_19 : decode cX10_may 19 = .ok (.invokevirtual 175, 3) := by decide +kernel
theorem dX10_may_22 : decode cX10_may 22 = .ok (.ireturn, 1) := by decide +kernel
theorem dX10_step_0 : decode cX10_step 0 = .ok (.aload_n 0, 1) := by decide +kernel
theorem dX10_step_1 : decode cX10_step 1 = .ok (.getfield 48, 3) := by decide +kernel
theorem dX10_step_4 : decode cX10_step 4 = .ok (.iload_n 1, 1) := by decide +kernel
theorem dX10_step_5 : decode cX10_step 5 = .ok (.invokevirtual 152, 3) := by decide +kernel
theorem dX10_step_8 : decode cX10_step 8 = .ok (.astore_n 3, 1) := by decide +kernel
theorem dX10_step_9 : decode cX10_step 9 = .ok (.aload_n 3, 1) := by decide +kernel
theorem dX10_step_10 : decode cX10_step 10 = .ok (.ifnull 10, 3) := by decide +kernel
theorem dX10_step_13 : decode cX10_step 13 = .ok (.iload_n 2, 1) := by decide +kernel
theorem dX10_step_14 : decode cX10_step 14 = .ok (.invokestatic 179, 3) := by decide +kernel
theorem dX10_step_17 : decode cX10_step 17 = .ok (.ifCond .ne 5, 3) := by decide +kernel
theorem dX10_step_20 : decode cX10_step 20 = .ok (.iconst (-1), 1) := by decide +kernel
theorem dX10_step_21 : decode cX10_step 21 = .ok (.ireturn, 1) := by decide +kernel
theorem dX10_step_22 : decode cX10_step 22 = .ok (.aload_n 0, 1) := by decide +kernel
theorem dX10_step_23 : decode cX10_step 23 = .ok (.aload_n 3, 1) := by decide +kernel
theorem dX10_step_24 : decode cX10_step 24 = .ok (.iload_n 2, 1) := by decide +kernel
theorem dX10_step_25 : decode cX10_step 25 = .ok (.invokevirtual 182, 3) := by decide +kernel
theorem dX10_step_28 : decode cX10_step 28 = .ok (.ifCond .eq 10, 3) := by decide +kernel
theorem dX10_step_31 : decode cX10_step 31 = .ok (.aload_n 3, 1) := by decide +kernel
theorem dX10_step_32 : decode cX10_step 32 = .ok (.getfield 156, 3) := by decide +kernel
theorem dX10_step_35 : decode cX10_step 35 = .ok (.goto 5, 3) := by decide +kernel
theorem dX10_step_38 : decode cX10_step 38 = .ok (.bipush (-3), 2) := by decide +kernel
theorem dX10_step_40 : decode cX10_step 40 = .ok (.ireturn, 1) := by decide +kernel
theorem dX10_allowed_0 : decode cX10_allowed 0 = .ok (.aload_n 0, 1) := by decide +kernel
theorem dX10_allowed_1 : decode cX10_allowed 1 = .ok (.getfield 58, 3) := by decide +kernel
theorem dX10_allowed_4 : decode cX10_allowed 4 = .ok (.aload_n 0, 1) := by decide +kernel
theorem dX10_allowed_5 : decode cX10_allowed 5 = .ok (.getfield 48, 3) := by decide +kernel
theorem dX10_allowed_8 : decode cX10_allowed 8 = .ok (.getfield 98, 3) := by decide +kernel
theorem dX10_allowed_11 : decode cX10_allowed 11 = .ok (.aload_n 1, 1) := by decide +kernel
theorem dX10_allowed_12 : decode cX10_allowed 12 = .ok (.getfield 136, 3) := by decide +kernel
theorem dX10_allowed_15 : decode cX10_allowed 15 = .ok (.aload_n 1, 1) := by decide +kernel
theorem dX10_allowed_16 : decode cX10_allowed 16 = .ok (.getfield 139, 3) := by decide +kernel
theorem dX10_allowed_19 : decode cX10_allowed 19 = .ok (.aload_n 1, 1) := by decide +kernel
theorem dX10_allowed_20 : decode cX10_allowed 20 = .ok (.getfield 162, 3) := by decide +kernel
theorem dX10_allowed_23 : decode cX10_allowed 23 = .ok (.aload_n 1, 1) := by decide +kernel
theorem dX10_allowed_24 : decode cX10_allowed 24 = .ok (.getfield 142, 3) := by decide +kernel
theorem dX10_allowed_27 : decode cX10_allowed 27 = .ok (.invokevirtual 186, 3) := by decide +kernel
theorem dX10_allowed_30 : decode cX10_allowed 30 = .ok (.aload_n 0, 1) := by decide +kernel
theorem dX10_allowed_31 : decode cX10_allowed 31 = .ok (.getfield 58, 3) := by decide +kernel
theorem dX10_allowed_34 : decode cX10_allowed 34 = .ok (.aload_n 1, 1) := by decide +kernel
theorem dX10_allowed_35 : decode cX10_allowed 35 = .ok (.getfield 156, 3) := by decide +kernel
theorem dX10_allowed_38 : decode cX10_allowed 38 = .ok (.aload_n 1, 1) := by decide +kernel
theorem dX10_allowed_39 : decode cX10_allowed 39 = .ok (.getfield 159, 3) := by decide +kernel
theorem dX10_allowed_42 : decode cX10_allowed 42 = .ok (.aload_n 1, 1) := by decide +kernel
theorem dX10_allowed_43 : decode cX10_allowed 43 = .ok (.getfield 168, 3) := by decide +kernel
theorem dX10_allowed_46 : decode cX10_allowed 46 = .ok (.invokevirtual 190, 3) := by decide +kernel
theorem dX10_allowed_49 : decode cX10_allowed 49 = .ok (.ireturn, 1) := by decide +kernel
theorem dX10_goes_0 : decode cX10_goes 0 = .ok (.aload_n 0, 1) := by decide +kernel
theorem dX10_goes_1 : decode cX10_goes 1 = .ok (.aload_n 1, 1) := by decide +kernel
theorem dX10_goes_2 : decode cX10_goes 2 = .ok (.invokevirtual 175, 3) := by decide +kernel
theorem dX10_goes_5 : decode cX10_goes 5 = .ok (.iload_n 2, 1) := by decide +kernel
theorem dX10_goes_6 : decode cX10_goes 6 = .ok (.ishr, 1) := by decide +kernel
theorem dX10_goes_7 : decode cX10_goes 7 = .ok (.iconst 1, 1) := by decide +kernel
theorem dX10_goes_8 : decode cX10_goes 8 = .ok (.iand, 1) := by decide +kernel
theorem dX10_goes_9 : decode cX10_goes 9 = .ok (.ifCond .ne 5, 3) := by decide +kernel
theorem dX10_goes_12 : decode cX10_goes 12 = .ok (.iconst 0, 1) := by decide +kernel
theorem dX10_goes_13 : decode cX10_goes 13 = .ok (.ireturn, 1) := by decide +kernel
theorem dX10_goes_14 : decode cX10_goes 14 = .ok (.aload_n 0, 1) := by decide +kernel
theorem dX10_goes_15 : decode cX10_goes 15 = .ok (.getfield 58, 3) := by decide +kernel
theorem dX10_goes_18 : decode cX10_goes 18 = .ok (.iload_n 2, 1) := by decide +kernel
theorem dX10_goes_19 : decode cX10_goes 19 = .ok (.aload_n 1, 1) := by decide +kernel
theorem dX10_goes_20 : decode cX10_goes 20 = .ok (.getfield 159, 3) := by decide +kernel
theorem dX10_goes_23 : decode cX10_goes 23 = .ok (.aload_n 1, 1) := by decide +kernel
theorem dX10_goes_24 : decode cX10_goes 24 = .ok (.getfield 168, 3) := by decide +kernel
theorem dX10_goes_27 : decode cX10_goes 27 = .ok (.invokevirtual 194, 3) := by decide +kernel
theorem dX10_goes_30 : decode cX10_goes 30 = .ok (.istore_n 3, 1) := by decide +kernel
theorem dX10_goes_31 : decode cX10_goes 31 = .ok (.aload_n 1, 1) := by decide +kernel
theorem dX10_goes_32 : decode cX10_goes 32 = .ok (.iload_n 2, 1) := by decide +kernel
theorem dX10_goes_33 : decode cX10_goes 33 = .ok (.iload_n 3, 1) := by decide +kernel
theorem dX10_goes_34 : decode cX10_goes 34 = .ok (.aload_n 1, 1) := by decide +kernel
theorem dX10_goes_35 : decode cX10_goes 35 = .ok (.getfield 168, 3) := by decide +kernel
theorem dX10_goes_38 : decode cX10_goes 38 = .ok (.invokestatic 197, 3) := by decide +kernel
theorem dX10_goes_41 : decode cX10_goes 41 = .ok (.putfield 168, 3) := by decide +kernel
theorem dX10_goes_44 : decode cX10_goes 44 = .ok (.aload_n 1, 1) := by decide +kernel
theorem dX10_goes_45 : decode cX10_goes 45 = .ok (.iload_n 2, 1) := by decide +kernel
theorem dX10_goes_46 : decode cX10_goes 46 = .ok (.aload_n 1, 1) := by decide +kernel
theorem dX10_goes_47 : decode cX10_goes 47 = .ok (.getfield 159, 3) := by decide +kernel
theorem dX10_goes_50 : decode cX10_goes 50 = .ok (.invokestatic 200, 3) := by decide +kernel
theorem dX10_goes_53 : decode cX10_goes 53 = .ok (.putfield 159, 3) := by decide +kernel
theorem dX10_goes_56 : decode cX10_goes 56 = .ok (.aload_n 1, 1) := by decide +kernel
theorem dX10_goes_57 : decode cX10_goes 57 = .ok (.aload_n 1, 1) := by decide +kernel
theorem dX10_goes_58 : decode cX10_goes 58 = .ok (.getfield 156, 3) := by decide +kernel
theorem dX10_goes_61 : decode cX10_goes 61 = .ok (.iload_n 3, 1) := by decide +kernel
theorem dX10_goes_62 : decode cX10_goes 62 = .ok (.invokestatic 171, 3) := by decide +kernel
theorem dX10_goes_65 : decode cX10_goes 65 = .ok (.putfield 156, 3) := by decide +kernel
theorem dX10_goes_68 : decode cX10_goes 68 = .ok (.aload_n 0, 1) := by decide +kernel
theorem dX10_goes_69 : decode cX10_goes 69 = .ok (.getfield 58, 3) := by decide +kernel
theorem dX10_goes_72 : decode cX10_goes 72 = .ok (.invokevirtual 203, 3) := by decide +kernel
theorem dX10_goes_75 : decode cX10_goes 75 = .ok (.aload_n 1, 1) := by decide +kernel
theorem dX10_goes_76 : decode cX10_goes 76 = .ok (.aload_n 0, 1) := by decide +kernel
theorem dX10_goes_77 : decode cX10_goes 77 = .ok (.getfield 58, 3) := by decide +kernel
theorem dX10_goes_80 : decode cX10_goes 80 = .ok (.getfield 206, 3) := by decide +kernel
theorem dX10_goes_83 : decode cX10_goes 83 = .ok (.putfield 162, 3) := by decide +kernel
theorem dX10_goes_86 : decode cX10_goes 86 = .ok (.aload_n 1, 1) := by decide +kernel
theorem dX10_goes_87 : decode cX10_goes 87 = .ok (.aload_n 0, 1) := by decide +kernel
theorem dX10_goes_88 : decode cX10_goes 88 = .ok (.getfield 58, 3) := by decide +kernel
theorem dX10_goes_91 : decode cX10_goes 91 = .ok (.getfield 207, 3) := by decide +kernel
theorem dX10_goes_94 : decode cX10_goes 94 = .ok (.putfield 142, 3) := by decide +kernel
theorem dX10_goes_97 : decode cX10_goes 97 = .ok (.iconst 1, 1) := by decide +kernel
theorem dX10_goes_98 : decode cX10_goes 98 = .ok (.ireturn, 1) := by decide +kernel
theorem dX10_soonest_0 : decode cX10_soonest 0 = .ok (.aload_n 0, 1) := by decide +kernel
theorem dX10_soonest_1 : decode cX10_soonest 1 = .ok (.getfield 48, 3) := by decide +kernel
theorem dX10_soonest_4 : decode cX10_soonest 4 = .ok (.iload_n 1, 1) := by decide +kernel
theorem dX10_soonest_5 : decode cX10_soonest 5 = .ok (.invokevirtual 152, 3) := by decide +kernel
theorem dX10_soonest_8 : decode cX10_soonest 8 = .ok (.astore 4, 2) := by decide +kernel
theorem dX10_soonest_10 : decode cX10_soonest 10 = .ok (.aload 4, 2) := by decide +kernel
theorem dX10_soonest_12 : decode cX10_soonest 12 = .ok (.ifnull 17, 3) := by decide +kernel
theorem dX10_soonest_15 : decode cX10_soonest 15 = .ok (.iload_n 2, 1) := by decide +kernel
theorem dX10_soonest_16 : decode cX10_soonest 16 = .ok (.invokestatic 108, 3) := by decide +kernel
theorem dX10_soonest_19 : decode cX10_soonest 19 = .ok (.ifCond .eq 10, 3) := by decide +kernel
theorem dX10_soonest_22 : decode cX10_soonest 22 = .ok (.iload_n 3, 1) := by decide +kernel
theorem dX10_soonest_23 : decode cX10_soonest 23 = .ok (.invokestatic 208, 3) := by decide +kernel
theorem dX10_soonest_26 : decode cX10_soonest 26 = .ok (.ifCond .ne 5, 3) := by decide +kernel
theorem dX10_soonest_29 : decode cX10_soonest 29 = .ok (.iconst (-1), 1) := by decide +kernel
theorem dX10_soonest_30 : decode cX10_soonest 30 = .ok (.ireturn, 1) := by decide +kernel
theorem dX10_soonest_31 : decode cX10_soonest 31 = .ok (.aload_n 0, 1) := by decide +kernel
theorem dX10_soonest_32 : decode cX10_soonest 32 = .ok (.getfield 65, 3) := by decide +kernel
theorem dX10_soonest_35 : decode cX10_soonest 35 = .ok (.aload_n 0, 1) := by decide +kernel
theorem dX10_soonest_36 : decode cX10_soonest 36 = .ok (.getfield 48, 3) := by decide +kernel
theorem dX10_soonest_39 : decode cX10_soonest 39 = .ok (.getfield 98, 3) := by decide +kernel
theorem dX10_soonest_42 : decode cX10_soonest 42 = .ok (.aload 4, 2) := by decide +kernel
theorem dX10_soonest_44 : decode cX10_soonest 44 = .ok (.invokevirtual 211, 3) := by decide +kernel
theorem dX10_soonest_47 : decode cX10_soonest 47 = .ok (.aload_n 0, 1) := by decide +kernel
theorem dX10_soonest_48 : decode cX10_soonest 48 = .ok (.getfield 65, 3) := by decide +kernel
theorem dX10_soonest_51 : decode cX10_soonest 51 = .ok (.iload_n 2, 1) := by decide +kernel
theorem dX10_soonest_52 : decode cX10_soonest 52 = .ok (.invokevirtual 215, 3) := by decide +kernel
theorem dX10_soonest_55 : decode cX10_soonest 55 = .ok (.istore 5, 2) := by decide +kernel
theorem dX10_soonest_57 : decode cX10_soonest 57 = .ok (.iload_n 3, 1) := by decide +kernel
theorem dX10_soonest_58 : decode cX10_soonest 58 = .ok (.ifCond .ne 8, 3) := by decide +kernel
theorem dX10_soonest_61 : decode cX10_soonest 61 = .ok (.iload 5, 2) := by decide +kernel
theorem dX10_soonest_63 : decode cX10_soonest 63 = .ok (.goto 12, 3) := by decide +kernel
theorem dX10_soonest_66 : decode cX10_soonest 66 = .ok (.aload_n 0, 1) := by decide +kernel
theorem dX10_soonest_67 : decode cX10_soonest 67 = .ok (.aload 4, 2) := by decide +kernel
theorem dX10_soonest_69 : decode cX10_soonest 69 = .ok (.iload_n 2, 1) := by decide +kernel
theorem dX10_soonest_70 : decode cX10_soonest 70 = .ok (.iload 5, 2) := by decide +kernel
theorem dX10_soonest_72 : decode cX10_soonest 72 = .ok (.invokevirtual 218, 3) := by decide +kernel
theorem dX10_soonest_75 : decode cX10_soonest 75 = .ok (.ireturn, 1) := by decide +kernel
theorem dX10_firstStep_0 : decode cX10_firstStep 0 = .ok (.iconst 0, 1) := by decide +kernel
theorem dX10_firstStep_1 : decode cX10_firstStep 1 = .ok (.istore 4, 2) := by decide +kernel
theorem dX10_firstStep_3 : decode cX10_firstStep 3 = .ok (.iload 4, 2) := by decide +kernel
theorem dX10_firstStep_5 : decode cX10_firstStep 5 = .ok (.bipush 6, 2) := by decide +kernel
theorem dX10_firstStep_7 : decode cX10_firstStep 7 = .ok (.if_icmp .ge 80, 3) := by decide +kernel
theorem dX10_firstStep_10 : decode cX10_firstStep 10 = .ok (.iload_n 3, 1) := by decide +kernel
theorem dX10_firstStep_11 : decode cX10_firstStep 11 = .ok (.ifCond .le 76, 3) := by decide +kernel
theorem dX10_firstStep_14 : decode cX10_firstStep 14 = .ok (.aload_n 0, 1) := by decide +kernel
theorem dX10_firstStep_15 : decode cX10_firstStep 15 = .ok (.getfield 65, 3) := by decide +kernel
theorem dX10_firstStep_18 : decode cX10_firstStep 18 = .ok (.aload_n 0, 1) := by decide +kernel
theorem dX10_firstStep_19 : decode cX10_firstStep 19 = .ok (.getfield 48, 3) := by decide +kernel
theorem dX10_firstStep_22 : decode cX10_firstStep 22 = .ok (.getfield 98, 3) := by decide +kernel
theorem dX10_firstStep_25 : decode cX10_firstStep 25 = .ok (.aload_n 1, 1) := by decide +kernel
theorem dX10_firstStep_26 : decode cX10_firstStep 26 = .ok (.invokevirtual 211, 3) := by decide +kernel
theorem dX10_firstStep_29 : decode cX10_firstStep 29 = .ok (.aload_n 0, 1) := by decide +kernel
theorem dX10_firstStep_30 : decode cX10_firstStep 30 = .ok (.getfield 65, 3) := by decide +kernel
theorem dX10_firstStep_33 : decode cX10_firstStep 33 = .ok (.iconst 1, 1) := by decide +kernel
theorem dX10_firstStep_34 : decode cX10_firstStep 34 = .ok (.iload 4, 2) := by decide +kernel
theorem dX10_firstStep_36 : decode cX10_firstStep 36 = .ok (.ishl, 1) := by decide +kernel
theorem dX10_firstStep_37 : decode cX10_firstStep 37 = .ok (.invokevirtual 222, 3) := by decide +kernel
theorem dX10_firstStep_40 : decode cX10_firstStep 40 = .ok (.iconst 1, 1) := by decide +kernel
theorem dX10_firstStep_41 : decode cX10_firstStep 41 = .ok (.istore 5, 2) := by decide +kernel
theorem dX10_firstStep_43 : decode cX10_firstStep 43 = .ok (.iload 5, 2) := by decide +kernel
theorem dX10_firstStep_45 : decode cX10_firstStep 45 = .ok (.iload_n 3, 1) := by decide +kernel
theorem dX10_firstStep_46 : decode cX10_firstStep 46 = .ok (.if_icmp .ge 18, 3) := by decide +kernel
theorem dX10_firstStep_49 : decode cX10_firstStep 49 = .ok (.aload_n 0, 1) := by decide +kernel
theorem dX10_firstStep_50 : decode cX10_firstStep 50 = .ok (.getfield 65, 3) := by decide +kernel
theorem dX10_firstStep_53 : decode cX10_firstStep 53 = .ok (.bipush 63, 2) := by decide +kernel
theorem dX10_firstStep_55 : decode cX10_firstStep 55 = .ok (.invokevirtual 222, 3) := by decide +kernel
theorem dX10_firstStep_58 : decode cX10_firstStep 58 = .ok (.iinc 5 1, 3) := by decide +kernel
theorem dX10_firstStep_61 : decode cX10_firstStep 61 = .ok (.goto (-18), 3) := by decide +kernel
theorem dX10_firstStep_64 : decode cX10_firstStep 64 = .ok (.aload_n 0, 1) := by decide +kernel
theorem dX10_firstStep_65 : decode cX10_firstStep 65 = .ok (.getfield 65, 3) := by decide +kernel
theorem dX10_firstStep_68 : decode cX10_firstStep 68 = .ok (.invokevirtual 226, 3) := by decide +kernel
theorem dX10_firstStep_71 : decode cX10_firstStep 71 = .ok (.iload_n 2, 1) := by decide +kernel
theorem dX10_firstStep_72 : decode cX10_firstStep 72 = .ok (.invokestatic 115, 3) := by decide +kernel
theorem dX10_firstStep_75 : decode cX10_firstStep 75 = .ok (.ifCond .eq 6, 3) := by decide +kernel
theorem dX10_firstStep_78 : decode cX10_firstStep 78 = .ok (.iload 4, 2) := by decide +kernel
theorem dX10_firstStep_80 : decode cX10_firstStep 80 = .ok (.ireturn, 1) := by decide +kernel
theorem dX10_firstStep_81 : decode cX10_firstStep 81 = .ok (.iinc 4 1, 3) := by decide +kernel
theorem dX10_firstStep_84 : decode cX10_firstStep 84 = .ok (.goto (-81), 3) := by decide +kernel
theorem dX10_firstStep_87 : decode cX10_firstStep 87 = .ok (.bipush (-5), 2) := by decide +kernel
theorem dX10_firstStep_89 : decode cX10_firstStep 89 = .ok (.ireturn, 1) := by decide +kernel
theorem dX10_begin_0 : decode cX10_begin 0 = .ok (.aload_n 0, 1) := by decide +kernel
theorem dX10_begin_1 : decode cX10_begin 1 = .ok (.getfield 48, 3) := by decide +kernel
theorem dX10_begin_4 : decode cX10_begin 4 = .ok (.iload_n 1, 1) := by decide +kernel
theorem dX10_begin_5 : decode cX10_begin 5 = .ok (.invokevirtual 152, 3) := by decide +kernel
theorem dX10_begin_8 : decode cX10_begin 8 = .ok (.astore 4, 2) := by decide +kernel
theorem dX10_begin_10 : decode cX10_begin 10 = .ok (.aload 4, 2) := by decide +kernel
theorem dX10_begin_12 : decode cX10_begin 12 = .ok (.ifnull 17, 3) := by decide +kernel
theorem dX10_begin_15 : decode cX10_begin 15 = .ok (.iload_n 2, 1) := by decide +kernel
theorem dX10_begin_16 : decode cX10_begin 16 = .ok (.invokestatic 108, 3) := by decide +kernel
theorem dX10_begin_19 : decode cX10_begin 19 = .ok (.ifCond .eq 10, 3) := by decide +kernel
theorem dX10_begin_22 : decode cX10_begin 22 = .ok (.iload_n 3, 1) := by decide +kernel
theorem dX10_begin_23 : decode cX10_begin 23 = .ok (.invokestatic 208, 3) := by decide +kernel
theorem dX10_begin_26 : decode cX10_begin 26 = .ok (.ifCond .ne 5, 3) := by decide +kernel
theorem dX10_begin_29 : decode cX10_begin 29 = .ok (.iconst (-1), 1) := by decide +kernel
theorem dX10_begin_30 : decode cX10_begin 30 = .ok (.ireturn, 1) := by decide +kernel
theorem dX10_begin_31 : decode cX10_begin 31 = .ok (.bipush (-5), 2) := by decide +kernel
theorem dX10_begin_33 : decode cX10_begin 33 = .ok (.istore 5, 2) := by decide +kernel
theorem dX10_begin_35 : decode cX10_begin 35 = .ok (.bipush (-5), 2) := by decide +kernel
theorem dX10_begin_37 : decode cX10_begin 37 = .ok (.istore 6, 2) := by decide +kernel
theorem dX10_begin_39 : decode cX10_begin 39 = .ok (.iconst 0, 1) := by decide +kernel
theorem dX10_begin_40 : decode cX10_begin 40 = .ok (.istore 7, 2) := by decide +kernel
theorem dX10_begin_42 : decode cX10_begin 42 = .ok (.iload 7, 2) := by decide +kernel
theorem dX10_begin_44 : decode cX10_begin 44 = .ok (.aload_n 0, 1) := by decide +kernel
theorem dX10_begin_45 : decode cX10_begin 45 = .ok (.getfield 48, 3) := by decide +kernel
theorem dX10_begin_48 : decode cX10_begin 48 = .ok (.getfield 98, 3) := by decide +kernel
theorem dX10_begin_51 : decode cX10_begin 51 = .ok (.invokevirtual 230, 3) := by decide +kernel
theorem dX10_begin_54 : decode cX10_begin 54 = .ok (.if_icmp .ge 72, 3) := by decide +kernel
theorem dX10_begin_57 : decode cX10_begin 57 = .ok (.aload_n 0, 1) := by decide +kernel
theorem dX10_begin_58 : decode cX10_begin 58 = .ok (.getfield 65, 3) := by decide +kernel
theorem dX10_begin_61 : decode cX10_begin 61 = .ok (.aload_n 0, 1) := by decide +kernel
theorem dX10_begin_62 : decode cX10_begin 62 = .ok (.getfield 48, 3) := by decide +kernel
theorem dX10_begin_65 : decode cX10_begin 65 = .ok (.getfield 98, 3) := by decide +kernel
theorem dX10_begin_68 : decode cX10_begin 68 = .ok (.aload 4, 2) := by decide +kernel
theorem dX10_begin_70 : decode cX10_begin 70 = .ok (.aload 4, 2) := by decide +kernel
theorem dX10_begin_72 : decode cX10_begin 72 = .ok (.getfield 136, 3) := by decide +kernel
theorem dX10_begin_75 : decode cX10_begin 75 = .ok (.aload 4, 2) := by decide +kernel
theorem dX10_begin_77 : decode cX10_begin 77 = .ok (.getfield 139, 3) := by decide +kernel
theorem dX10_begin_80 : decode cX10_begin 80 = .ok (.iload 7, 2) := by decide +kernel
theorem dX10_begin_82 : decode cX10_begin 82 = .ok (.invokevirtual 234, 3) := by decide +kernel
theorem dX10_begin_85 : decode cX10_begin 85 = .ok (.aload_n 0, 1) := by decide +kernel
theorem dX10_begin_86 : decode cX10_begin 86 = .ok (.getfield 65, 3) := by decide +kernel
theorem dX10_begin_89 : decode cX10_begin 89 = .ok (.iload_n 2, 1) := by decide +kernel
theorem dX10_begin_90 : decode cX10_begin 90 = .ok (.invokevirtual 215, 3) := by decide +kernel
theorem dX10_begin_93 : decode cX10_begin 93 = .ok (.istore 8, 2) := by decide +kernel
theorem dX10_begin_95 : decode cX10_begin 95 = .ok (.iload 8, 2) := by decide +kernel
theorem dX10_begin_97 : decode cX10_begin 97 = .ok (.ifCond .lt 23, 3) := by decide +kernel
theorem dX10_begin_100 : decode cX10_begin 100 = .ok (.iload 5, 2) := by decide +kernel
theorem dX10_begin_102 : decode cX10_begin 102 = .ok (.ifCond .lt 10, 3) := by decide +kernel
theorem dX10_begin_105 : decode cX10_begin 105 = .ok (.iload 8, 2) := by decide +kernel
theorem dX10_begin_107 : decode cX10_begin 107 = .ok (.iload 6, 2) := by decide +kernel
theorem dX10_begin_109 : decode cX10_begin 109 = .ok (.if_icmp .ge 11, 3) := by decide +kernel
theorem dX10_begin_112 : decode cX10_begin 112 = .ok (.iload 7, 2) := by decide +kernel
theorem dX10_begin_114 : decode cX10_begin 114 = .ok (.istore 5, 2) := by decide +kernel
theorem dX10_begin_116 : decode cX10_begin 116 = .ok (.iload 8, 2) := by decide +kernel
theorem dX10_begin_118 : decode cX10_begin 118 = .ok (.istore 6, 2) := by decide +kernel
theorem dX10_begin_120 : decode cX10_begin 120 = .ok (.iinc 7 1, 3) := by decide +kernel
theorem dX10_begin_123 : decode cX10_begin 123 = .ok (.goto (-81), 3) := by decide +kernel
theorem dX10_begin_126 : decode cX10_begin 126 = .ok (.iload_n 3, 1) := by decide +kernel
theorem dX10_begin_127 : decode cX10_begin 127 = .ok (.ifCond .ne 8, 3) := by decide +kernel
theorem dX10_begin_130 : decode cX10_begin 130 = .ok (.iload 5, 2) := by decide +kernel
theorem dX10_begin_132 : decode cX10_begin 132 = .ok (.goto 5, 3) := by decide +kernel
theorem dX10_begin_135 : decode cX10_begin 135 = .ok (.iload 6, 2) := by decide +kernel
theorem dX10_begin_137 : decode cX10_begin 137 = .ok (.ireturn, 1) := by decide +kernel
theorem dX10_reached_0 : decode cX10_reached 0 = .ok (.aload_n 0, 1) := by decide +kernel
theorem dX10_reached_1 : decode cX10_reached 1 = .ok (.getfield 48, 3) := by decide +kernel
theorem dX10_reached_4 : decode cX10_reached 4 = .ok (.iload_n 1, 1) := by decide +kernel
theorem dX10_reached_5 : decode cX10_reached 5 = .ok (.invokevirtual 152, 3) := by decide +kernel
theorem dX10_reached_8 : decode cX10_reached 8 = .ok (.astore_n 3, 1) := by decide +kernel
theorem dX10_reached_9 : decode cX10_reached 9 = .ok (.aload_n 3, 1) := by decide +kernel
theorem dX10_reached_10 : decode cX10_reached 10 = .ok (.ifnull 13, 3) := by decide +kernel
theorem dX10_reached_13 : decode cX10_reached 13 = .ok (.iload_n 2, 1) := by decide +kernel
theorem dX10_reached_14 : decode cX10_reached 14 = .ok (.ifCond .lt 9, 3) := by decide +kernel
theorem dX10_reached_17 : decode cX10_reached 17 = .ok (.iload_n 2, 1) := by decide +kernel
theorem dX10_reached_18 : decode cX10_reached 18 = .ok (.bipush 60, 2) := by decide +kernel
theorem dX10_reached_20 : decode cX10_reached 20 = .ok (.if_icmp .le 9, 3) := by decide +kernel
theorem dX10_reached_23 : decode cX10_reached 23 = .ok (.ldc2_w 237, 3) := by decide +kernel
theorem dX10_reached_26 : decode cX10_reached 26 = .ok (.goto 9, 3) := by decide +kernel
theorem dX10_reached_29 : decode cX10_reached 29 = .ok (.aload_n 0, 1) := by decide +kernel
theorem dX10_reached_30 : decode cX10_reached 30 = .ok (.aload_n 3, 1) := by decide +kernel
theorem dX10_reached_31 : decode cX10_reached 31 = .ok (.iload_n 2, 1) := by decide +kernel
theorem dX10_reached_32 : decode cX10_reached 32 = .ok (.invokevirtual 239, 3) := by decide +kernel
theorem dX10_reached_35 : decode cX10_reached 35 = .ok (.lreturn, 1) := by decide +kernel
theorem dX10_never_0 : decode cX10_never 0 = .ok (.aload_n 0, 1) := by decide +kernel
theorem dX10_never_1 : decode cX10_never 1 = .ok (.getfield 48, 3) := by decide +kernel
theorem dX10_never_4 : decode cX10_never 4 = .ok (.iload_n 1, 1) := by decide +kernel
theorem dX10_never_5 : decode cX10_never 5 = .ok (.invokevirtual 152, 3) := by decide +kernel
theorem dX10_never_8 : decode cX10_never 8 = .ok (.astore_n 2, 1) := by decide +kernel
theorem dX10_never_9 : decode cX10_never 9 = .ok (.aload_n 2, 1) := by decide +kernel
theorem dX10_never_10 : decode cX10_never 10 = .ok (.ifnonnull 9, 3) := by decide +kernel
theorem dX10_never_13 : decode cX10_never 13 = .ok (.ldc2_w 237, 3) := by decide +kernel
theorem dX10_never_16 : decode cX10_never 16 = .ok (.goto 33, 3) := by decide +kernel
theorem dX10_never_19 : decode cX10_never 19 = .ok (.ldc2_w 243, 3) := by decide +kernel
theorem dX10_never_22 : decode cX10_never 22 = .ok (.aload_n 0, 1) := by decide +kernel
theorem dX10_never_23 : decode cX10_never 23 = .ok (.getfield 48, 3) := by decide +kernel
theorem dX10_never_26 : decode cX10_never 26 = .ok (.getfield 98, 3) := by decide +kernel
theorem dX10_never_29 : decode cX10_never 29 = .ok (.getfield 128, 3) := by decide +kernel
theorem dX10_never_32 : decode cX10_never 32 = .ok (.ldc2_w 245, 3) := by decide +kernel
theorem dX10_never_35 : decode cX10_never 35 = .ok (.lxor, 1) := by decide +kernel
theorem dX10_never_36 : decode cX10_never 36 = .ok (.land, 1) := by decide +kernel
theorem dX10_never_37 : decode cX10_never 37 = .ok (.aload_n 0, 1) := by decide +kernel
theorem dX10_never_38 : decode cX10_never 38 = .ok (.aload_n 2, 1) := by decide +kernel
theorem dX10_never_39 : decode cX10_never 39 = .ok (.bipush 60, 2) := by decide +kernel
theorem dX10_never_41 : decode cX10_never 41 = .ok (.invokevirtual 239, 3) := by decide +kernel
theorem dX10_never_44 : decode cX10_never 44 = .ok (.ldc2_w 245, 3) := by decide +kernel
theorem dX10_never_47 : decode cX10_never 47 = .ok (.lxor, 1) := by decide +kernel
theorem dX10_never_48 : decode cX10_never 48 = .ok (.land, 1) := by decide +kernel
theorem dX10_never_49 : decode cX10_never 49 = .ok (.lreturn, 1) := by decide +kernel
theorem dX10_within_0 : decode cX10_within 0 = .ok (.aload_n 0, 1) := by decide +kernel
theorem dX10_within_1 : decode cX10_within 1 = .ok (.getfield 65, 3) := by decide +kernel
theorem dX10_within_4 : decode cX10_within 4 = .ok (.aload_n 0, 1) := by decide +kernel
theorem dX10_within_5 : decode cX10_within 5 = .ok (.getfield 48, 3) := by decide +kernel
theorem dX10_within_8 : decode cX10_within 8 = .ok (.getfield 98, 3) := by decide +kernel
theorem dX10_within_11 : decode cX10_within 11 = .ok (.aload_n 1, 1) := by decide +kernel
theorem dX10_within_12 : decode cX10_within 12 = .ok (.invokevirtual 211, 3) := by decide +kernel
theorem dX10_within_15 : decode cX10_within 15 = .ok (.aload_n 0, 1) := by decide +kernel
theorem dX10_within_16 : decode cX10_within 16 = .ok (.getfield 65, 3) := by decide +kernel
theorem dX10_within_19 : decode cX10_within 19 = .ok (.invokevirtual 226, 3) := by decide +kernel
theorem dX10_within_22 : decode cX10_within 22 = .ok (.lstore_n 3, 1) := by decide +kernel
theorem dX10_within_23 : decode cX10_within 23 = .ok (.iconst 0, 1) := by decide +kernel
theorem dX10_within_24 : decode cX10_within 24 = .ok (.istore 5, 2) := by decide +kernel
theorem dX10_within_26 : decode cX10_within 26 = .ok (.iload 5, 2) := by decide +kernel
theorem dX10_within_28 : decode cX10_within 28 = .ok (.iload_n 2, 1) := by decide +kernel
theorem dX10_within_29 : decode cX10_within 29 = .ok (.if_icmp .ge 28, 3) := by decide +kernel
theorem dX10_within_32 : decode cX10_within 32 = .ok (.aload_n 0, 1) := by decide +kernel
theorem dX10_within_33 : decode cX10_within 33 = .ok (.getfield 65, 3) := by decide +kernel
theorem dX10_within_36 : decode cX10_within 36 = .ok (.bipush 63, 2) := by decide +kernel
theorem dX10_within_38 : decode cX10_within 38 = .ok (.invokevirtual 222, 3) := by decide +kernel
theorem dX10_within_41 : decode cX10_within 41 = .ok (.lload_n 3, 1) := by decide +kernel
theorem dX10_within_42 : decode cX10_within 42 = .ok (.aload_n 0, 1) := by decide +kernel
theorem dX10_within_43 : decode cX10_within 43 = .ok (.getfield 65, 3) := by decide +kernel
theorem dX10_within_46 : decode cX10_within 46 = .ok (.invokevirtual 226, 3) := by decide +kernel
theorem dX10_within_49 : decode cX10_within 49 = .ok (.lor, 1) := by decide +kernel
theorem dX10_within_50 : decode cX10_within 50 = .ok (.lstore_n 3, 1) := by decide +kernel
theorem dX10_within_51 : decode cX10_within 51 = .ok (.iinc 5 1, 3) := by decide +kernel
theorem dX10_within_54 : decode cX10_within 54 = .ok (.goto (-28), 3) := by decide +kernel
theorem dX10_within_57 : decode cX10_within 57 = .ok (.lload_n 3, 1) := by decide +kernel
theorem dX10_within_58 : decode cX10_within 58 = .ok (.lreturn, 1) := by decide +kernel
theorem dX10_meet_0 : decode cX10_meet 0 = .ok (.aload_n 0, 1) := by decide +kernel
theorem dX10_meet_1 : decode cX10_meet 1 = .ok (.getfield 48, 3) := by decide +kernel
theorem dX10_meet_4 : decode cX10_meet 4 = .ok (.iload_n 1, 1) := by decide +kernel
theorem dX10_meet_5 : decode cX10_meet 5 = .ok (.invokevirtual 152, 3) := by decide +kernel
theorem dX10_meet_8 : decode cX10_meet 8 = .ok (.astore 4, 2) := by decide +kernel
theorem dX10_meet_10 : decode cX10_meet 10 = .ok (.aload_n 0, 1) := by decide +kernel
theorem dX10_meet_11 : decode cX10_meet 11 = .ok (.getfield 48, 3) := by decide +kernel
theorem dX10_meet_14 : decode cX10_meet 14 = .ok (.iload_n 2, 1) := by decide +kernel
theorem dX10_meet_15 : decode cX10_meet 15 = .ok (.invokevirtual 152, 3) := by decide +kernel
theorem dX10_meet_18 : decode cX10_meet 18 = .ok (.astore 5, 2) := by decide +kernel
theorem dX10_meet_20 : decode cX10_meet 20 = .ok (.aload 4, 2) := by decide +kernel
theorem dX10_meet_22 : decode cX10_meet 22 = .ok (.ifnull 15, 3) := by decide +kernel
theorem dX10_meet_25 : decode cX10_meet 25 = .ok (.aload 5, 2) := by decide +kernel
theorem dX10_meet_27 : decode cX10_meet 27 = .ok (.ifnull 10, 3) := by decide +kernel
theorem dX10_meet_30 : decode cX10_meet 30 = .ok (.iload_n 3, 1) := by decide +kernel
theorem dX10_meet_31 : decode cX10_meet 31 = .ok (.invokestatic 208, 3) := by decide +kernel
theorem dX10_meet_34 : decode cX10_meet 34 = .ok (.ifCond .ne 5, 3) := by decide +kernel
theorem dX10_meet_37 : decode cX10_meet 37 = .ok (.iconst (-1), 1) := by decide +kernel
theorem dX10_meet_38 : decode cX10_meet 38 = .ok (.ireturn, 1) := by decide +kernel
theorem dX10_meet_39 : decode cX10_meet 39 = .ok (.iload_n 1, 1) := by decide +kernel
theorem dX10_meet_40 : decode cX10_meet 40 = .ok (.iload_n 2, 1) := by decide +kernel
theorem dX10_meet_41 : decode cX10_meet 41 = .ok (.if_icmp .ne 6, 3) := by decide +kernel
theorem dX10_meet_44 : decode cX10_meet 44 = .ok (.bipush (-2), 2) := by decide +kernel
theorem dX10_meet_46 : decode cX10_meet 46 = .ok (.ireturn, 1) := by decide +kernel
theorem dX10_meet_47 : decode cX10_meet 47 = .ok (.aload_n 0, 1) := by decide +kernel
theorem dX10_meet_48 : decode cX10_meet 48 = .ok (.getfield 65, 3) := by decide +kernel
theorem dX10_meet_51 : decode cX10_meet 51 = .ok (.aload_n 0, 1) := by decide +kernel
theorem dX10_meet_52 : decode cX10_meet 52 = .ok (.getfield 48, 3) := by decide +kernel
theorem dX10_meet_55 : decode cX10_meet 55 = .ok (.getfield 98, 3) := by decide +kernel
theorem dX10_meet_58 : decode cX10_meet 58 = .ok (.aload 4, 2) := by decide +kernel
theorem dX10_meet_60 : decode cX10_meet 60 = .ok (.invokevirtual 211, 3) := by decide +kernel
theorem dX10_meet_63 : decode cX10_meet 63 = .ok (.aload_n 0, 1) := by decide +kernel
theorem dX10_meet_64 : decode cX10_meet 64 = .ok (.getfield 69, 3) := by decide +kernel
theorem dX10_meet_67 : decode cX10_meet 67 = .ok (.aload_n 0, 1) := by decide +kernel
theorem dX10_meet_68 : decode cX10_meet 68 = .ok (.getfield 48, 3) := by decide +kernel
theorem dX10_meet_71 : decode cX10_meet 71 = .ok (.getfield 98, 3) := by decide +kernel
theorem dX10_meet_74 : decode cX10_meet 74 = .ok (.aload 5, 2) := by decide +kernel
theorem dX10_meet_76 : decode cX10_meet 76 = .ok (.invokevirtual 211, 3) := by decide +kernel
theorem dX10_meet_79 : decode cX10_meet 79 = .ok (.iconst 0, 1) := by decide +kernel
theorem dX10_meet_80 : decode cX10_meet 80 = .ok (.istore 6, 2) := by decide +kernel
theorem dX10_meet_82 : decode cX10_meet 82 = .ok (.iload 6, 2) := by decide +kernel
theorem dX10_meet_84 : decode cX10_meet 84 = .ok (.bipush 40, 2) := by decide +kernel
theorem dX10_meet_86 : decode cX10_meet 86 = .ok (.if_icmp .gt 66, 3) := by decide +kernel
theorem dX10_meet_89 : decode cX10_meet 89 = .ok (.aload_n 0, 1) := by decide +kernel
theorem dX10_meet_90 : decode cX10_meet 90 = .ok (.getfield 65, 3) := by decide +kernel
theorem dX10_meet_93 : decode cX10_meet 93 = .ok (.invokevirtual 226, 3) := by decide +kernel
theorem dX10_meet_96 : decode cX10_meet 96 = .ok (.aload_n 0, 1) := by decide +kernel
theorem dX10_meet_97 : decode cX10_meet 97 = .ok (.getfield 69, 3) := by decide +kernel
theorem dX10_meet_100 : decode cX10_meet 100 = .ok (.invokevirtual 226, 3) := by decide +kernel
theorem dX10_meet_103 : decode cX10_meet 103 = .ok (.land, 1) := by decide +kernel
theorem dX10_meet_104 : decode cX10_meet 104 = .ok (.lstore 7, 2) := by decide +kernel
theorem dX10_meet_106 : decode cX10_meet 106 = .ok (.lload 7, 2) := by decide +kernel
theorem dX10_meet_108 : decode cX10_meet 108 = .ok (.lconst 0, 1) := by decide +kernel
theorem dX10_meet_109 : decode cX10_meet 109 = .ok (.lcmp, 1) := by decide +kernel
theorem dX10_meet_110 : decode cX10_meet 110 = .ok (.ifCond .eq 18, 3) := by decide +kernel
theorem dX10_meet_113 : decode cX10_meet 113 = .ok (.iload_n 3, 1) := by decide +kernel
theorem dX10_meet_114 : decode cX10_meet 114 = .ok (.ifCond .ne 8, 3) := by decide +kernel
theorem dX10_meet_117 : decode cX10_meet 117 = .ok (.iload 6, 2) := by decide +kernel
theorem dX10_meet_119 : decode cX10_meet 119 = .ok (.goto 8, 3) := by decide +kernel
theorem dX10_meet_122 : decode cX10_meet 122 = .ok (.lload 7, 2) := by decide +kernel
theorem dX10_meet_124 : decode cX10_meet 124 = .ok (.invokestatic 247, 3) := by decide +kernel
theorem dX10_meet_127 : decode cX10_meet 127 = .ok (.ireturn, 1) := by decide +kernel
theorem dX10_meet_128 : decode cX10_meet 128 = .ok (.aload_n 0, 1) := by decide +kernel
theorem dX10_meet_129 : decode cX10_meet 129 = .ok (.getfield 65, 3) := by decide +kernel
theorem dX10_meet_132 : decode cX10_meet 132 = .ok (.bipush 63, 2) := by decide +kernel
theorem dX10_meet_134 : decode cX10_meet 134 = .ok (.invokevirtual 222, 3) := by decide +kernel
theorem dX10_meet_137 : decode cX10_meet 137 = .ok (.aload_n 0, 1) := by decide +kernel
theorem dX10_meet_138 : decode cX10_meet 138 = .ok (.getfield 69, 3) := by decide +kernel
theorem dX10_meet_141 : decode cX10_meet 141 = .ok (.bipush 63, 2) := by decide +kernel
theorem dX10_meet_143 : decode cX10_meet 143 = .ok (.invokevirtual 222, 3) := by decide +kernel
theorem dX10_meet_146 : decode cX10_meet 146 = .ok (.iinc 6 1, 3) := by decide +kernel
theorem dX10_meet_149 : decode cX10_meet 149 = .ok (.goto (-67), 3) := by decide +kernel
theorem dX10_meet_152 : decode cX10_meet 152 = .ok (.bipush (-5), 2) := by decide +kernel
theorem dX10_meet_154 : decode cX10_meet 154 = .ok (.ireturn, 1) := by decide +kernel
theorem dX10_home_0 : decode cX10_home 0 = .ok (.aload_n 0, 1) := by decide +kernel
theorem dX10_home_1 : decode cX10_home 1 = .ok (.getfield 48, 3) := by decide +kernel
theorem dX10_home_4 : decode cX10_home 4 = .ok (.iload_n 1, 1) := by decide +kernel
theorem dX10_home_5 : decode cX10_home 5 = .ok (.invokevirtual 152, 3) := by decide +kernel
theorem dX10_home_8 : decode cX10_home 8 = .ok (.astore_n 2, 1) := by decide +kernel
theorem dX10_home_9 : decode cX10_home 9 = .ok (.aload_n 2, 1) := by decide +kernel
theorem dX10_home_10 : decode cX10_home 10 = .ok (.ifnonnull 5, 3) := by decide +kernel
theorem dX10_home_13 : decode cX10_home 13 = .ok (.iconst (-1), 1) := by decide +kernel
theorem dX10_home_14 : decode cX10_home 14 = .ok (.ireturn, 1) := by decide +kernel
theorem dX10_home_15 : decode cX10_home 15 = .ok (.aload_n 0, 1) := by decide +kernel
theorem dX10_home_16 : decode cX10_home 16 = .ok (.getfield 65, 3) := by decide +kernel
theorem dX10_home_19 : decode cX10_home 19 = .ok (.aload_n 0, 1) := by decide +kernel
theorem dX10_home_20 : decode cX10_home 20 = .ok (.getfield 48, 3) := by decide +kernel
theorem dX10_home_23 : decode cX10_home 23 = .ok (.getfield 98, 3) := by decide +kernel
theorem dX10_home_26 : decode cX10_home 26 = .ok (.aload_n 2, 1) := by decide +kernel
theorem dX10_home_27 : decode cX10_home 27 = .ok (.invokevirtual 211, 3) := by decide +kernel
theorem dX10_home_30 : decode cX10_home 30 = .ok (.aload_n 0, 1) := by decide +kernel
theorem dX10_home_31 : decode cX10_home 31 = .ok (.getfield 65, 3) := by decide +kernel
theorem dX10_home_34 : decode cX10_home 34 = .ok (.getfield 251, 3) := by decide +kernel
theorem dX10_home_37 : decode cX10_home 37 = .ok (.getfield 206, 3) := by decide +kernel
theorem dX10_home_40 : decode cX10_home 40 = .ok (.istore_n 3, 1) := by decide +kernel
theorem dX10_home_41 : decode cX10_home 41 = .ok (.iconst 1, 1) := by decide +kernel
theorem dX10_home_42 : decode cX10_home 42 = .ok (.istore 4, 2) := by decide +kernel
theorem dX10_home_44 : decode cX10_home 44 = .ok (.iload 4, 2) := by decide +kernel
theorem dX10_home_46 : decode cX10_home 46 = .ok (.bipush 60, 2) := by decide +kernel
theorem dX10_home_48 : decode cX10_home 48 = .ok (.if_icmp .gt 56, 3) := by decide +kernel
theorem dX10_home_51 : decode cX10_home 51 = .ok (.aload_n 0, 1) := by decide +kernel
theorem dX10_home_52 : decode cX10_home 52 = .ok (.getfield 65, 3) := by decide +kernel
theorem dX10_home_55 : decode cX10_home 55 = .ok (.bipush 63, 2) := by decide +kernel
theorem dX10_home_57 : decode cX10_home 57 = .ok (.invokevirtual 222, 3) := by decide +kernel
theorem dX10_home_60 : decode cX10_home 60 = .ok (.aload_n 0, 1) := by decide +kernel
theorem dX10_home_61 : decode cX10_home 61 = .ok (.getfield 65, 3) := by decide +kernel
theorem dX10_home_64 : decode cX10_home 64 = .ok (.getfield 251, 3) := by decide +kernel
theorem dX10_home_67 : decode cX10_home 67 = .ok (.getfield 206, 3) := by decide +kernel
theorem dX10_home_70 : decode cX10_home 70 = .ok (.iload_n 3, 1) := by decide +kernel
theorem dX10_home_71 : decode cX10_home 71 = .ok (.if_icmp .ne 27, 3) := by decide +kernel
theorem dX10_home_74 : decode cX10_home 74 = .ok (.aload_n 0, 1) := by decide +kernel
theorem dX10_home_75 : decode cX10_home 75 = .ok (.getfield 65, 3) := by decide +kernel
theorem dX10_home_78 : decode cX10_home 78 = .ok (.aload_n 2, 1) := by decide +kernel
theorem dX10_home_79 : decode cX10_home 79 = .ok (.getfield 159, 3) := by decide +kernel
theorem dX10_home_82 : decode cX10_home 82 = .ok (.invokevirtual 252, 3) := by decide +kernel
theorem dX10_home_85 : decode cX10_home 85 = .ok (.aload_n 2, 1) := by decide +kernel
theorem dX10_home_86 : decode cX10_home 86 = .ok (.getfield 156, 3) := by decide +kernel
theorem dX10_home_89 : decode cX10_home 89 = .ok (.invokestatic 115, 3) := by decide +kernel
theorem dX10_home_92 : decode cX10_home 92 = .ok (.ifCond .eq 6, 3) := by decide +kernel
theorem dX10_home_95 : decode cX10_home 95 = .ok (.iload 4, 2) := by decide +kernel
theorem dX10_home_97 : decode cX10_home 97 = .ok (.ireturn, 1) := by decide +kernel
theorem dX10_home_98 : decode cX10_home 98 = .ok (.iinc 4 1, 3) := by decide +kernel
theorem dX10_home_101 : decode cX10_home 101 = .ok (.goto (-57), 3) := by decide +kernel
theorem dX10_home_104 : decode cX10_home 104 = .ok (.bipush (-5), 2) := by decide +kernel
theorem dX10_home_106 : decode cX10_home 106 = .ok (.ireturn, 1) := by decide +kernel
theorem dX10_row_0 : decode cX10_row 0 = .ok (.iload_n 1, 1) := by decide +kernel
theorem dX10_row_1 : decode cX10_row 1 = .ok (.iconst (-1), 1) := by decide +kernel
theorem dX10_row_2 : decode cX10_row 2 = .ok (.if_icmp .lt 23, 3) := by decide +kernel
theorem dX10_row_5 : decode cX10_row 5 = .ok (.iload_n 1, 1) := by decide +kernel
theorem dX10_row_6 : decode cX10_row 6 = .ok (.bipush 6, 2) := by decide +kernel
theorem dX10_row_8 : decode cX10_row 8 = .ok (.if_icmp .ge 17, 3) := by decide +kernel
theorem dX10_row_11 : decode cX10_row 11 = .ok (.aload_n 0, 1) := by decide +kernel
theorem dX10_row_12 : decode cX10_row 12 = .ok (.getfield 48, 3) := by decide +kernel
theorem dX10_row_15 : decode cX10_row 15 = .ok (.getfield 254, 3) := by decide +kernel
theorem dX10_row_18 : decode cX10_row 18 = .ok (.iload_n 1, 1) := by decide +kernel
theorem dX10_row_19 : decode cX10_row 19 = .ok (.invokevirtual 258, 3) := by decide +kernel
theorem dX10_row_22 : decode cX10_row 22 = .ok (.goto 4, 3) := by decide +kernel
