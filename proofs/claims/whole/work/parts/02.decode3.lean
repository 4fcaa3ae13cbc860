theorem dX11_clause_4 : decode cX11_clause 4 = .ok (.lookupswitch 222 #[(98, 87), (100, 169), (108, 142), (111, 60), (115, 195), (119, 116)], 60) := by decide +kernel
theorem dX11_clause_64 : decode cX11_clause 64 = .ok (.aload_n 0, 1) := by decide +kernel
theorem dX11_clause_65 : decode cX11_clause 65 = .ok (.bipush 111, 2) := by decide +kernel
theorem dX11_clause_67 : decode cX11_clause 67 = .ok (.bipush 110, 2) := by decide +kernel
theorem dX11_clause_69 : decode cX11_clause 69 = .ok (.iconst 0, 1) := by decide +kernel
theorem dX11_clause_70 : decode cX11_clause 70 = .ok (.iconst 0, 1) := by decide +kernel
theorem dX11_clause_71 : decode cX11_clause 71 = .ok (.iconst 0, 1) := by decide +kernel
theorem dX11_clause_72 : decode cX11_clause 72 = .ok (.invokevirtual 120, 3) := by decide +kernel
theorem dX11_clause_75 : decode cX11_clause 75 = .ok (.aload_n 0, 1) := by decide +kernel
theorem dX11_clause_76 : decode cX11_clause 76 = .ok (.getfield 77, 3) := by decide +kernel
theorem dX11_clause_79 : decode cX11_clause 79 = .ok (.ifCond .ne 11, 3) := by decide +kernel
theorem dX11_clause_82 : decode cX11_clause 82 = .ok (.aload_n 0, 1) := by decide +kernel
theorem dX11_clause_83 : decode cX11_clause 83 = .ok (.aload_n 0, 1) := by decide +kernel
theorem dX11_clause_84 : decode cX11_clause 84 = .ok (.invokevirtual 89, 3) := by decide +kernel
theorem dX11_clause_87 : decode cX11_clause 87 = .ok (.putfield 124, 3) := by decide +kernel
theorem dX11_clause_90 : decode cX11_clause 90 = .ok (.return_, 1) := by decide +kernel
theorem dX11_clause_91 : decode cX11_clause 91 = .ok (.aload_n 0, 1) := by decide +kernel
theorem dX11_clause_92 : decode cX11_clause 92 = .ok (.bipush 98, 2) := by decide +kernel
theorem dX11_clause_94 : decode cX11_clause 94 = .ok (.bipush 97, 2) := by decide +kernel
theorem dX11_clause_96 : decode cX11_clause 96 = .ok (.bipush 99, 2) := by decide +kernel
theorem dX11_clause_98 : decode cX11_clause 98 = .ok (.bipush 107, 2) := by decide +kernel
theorem dX11_clause_100 : decode cX11_clause 100 = .ok (.iconst 0, 1) := by decide +kernel
theorem dX11_clause_101 : decode cX11_clause 101 = .ok (.invokevirtual 120, 3) := by decide +kernel
theorem dX11_clause_104 : decode cX11_clause 104 = .ok (.aload_n 0, 1) := by decide +kernel
theorem dX11_clause_105 : decode cX11_clause 105 = .ok (.getfield 77, 3) := by decide +kernel
theorem dX11_clause_108 : decode cX11_clause 108 = .ok (.ifCond .ne 11, 3) := by decide +kernel
theorem dX11_clause_111 : decode cX11_clause 111 = .ok (.aload_n 0, 1) := by decide +kernel
theorem dX11_clause_112 : decode cX11_clause 112 = .ok (.aload_n 0, 1) := by decide +kernel
theorem dX11_clause_113 : decode cX11_clause 113 = .ok (.invokevirtual 89, 3) := by decide +kernel
theorem dX11_clause_116 : decode cX11_clause 116 = .ok (.putfield 127, 3) := by decide +kernel
theorem dX11_clause_119 : decode cX11_clause 119 = .ok (.return_, 1) := by decide +kernel
theorem dX11_clause_120 : decode cX11_clause 120 = .ok (.aload_n 0, 1) := by decide +kernel
theorem dX11_clause_121 : decode cX11_clause 121 = .ok (.bipush 119, 2) := by decide +kernel
theorem dX11_clause_123 : decode cX11_clause 123 = .ok (.bipush 97, 2) := by decide +kernel
theorem dX11_clause_125 : decode cX11_clause 125 = .ok (.bipush 108, 2) := by decide +kernel
theorem dX11_clause_127 : decode cX11_clause 127 = .ok (.bipush 108, 2) := by decide +kernel
theorem dX11_clause_129 : decode cX11_clause 129 = .ok (.iconst 0, 1) := by decide +kernel
theorem dX11_clause_130 : decode cX11_clause 130 = .ok (.invokevirtual 120, 3) := by decide +kernel
theorem dX11_clause_133 : decode cX11_clause 133 = .ok (.aload_n 0, 1) := by decide +kernel
theorem dX11_clause_134 : decode cX11_clause 134 = .ok (.getfield 77, 3) := by decide +kernel
theorem dX11_clause_137 : decode cX11_clause 137 = .ok (.ifCond .ne 8, 3) := by decide +kernel
theorem dX11_clause_140 : decode cX11_clause 140 = .ok (.aload_n 0, 1) := by decide +kernel
theorem dX11_clause_141 : decode cX11_clause 141 = .ok (.iconst 0, 1) := by decide +kernel
theorem dX11_clause_142 : decode cX11_clause 142 = .ok (.invokevirtual 130, 3) := by decide +kernel
theorem dX11_clause_145 : decode cX11_clause 145 = .ok (.return_, 1) := by decide +kernel
theorem dX11_clause_146 : decode cX11_clause 146 = .ok (.aload_n 0, 1) := by decide +kernel
theorem dX11_clause_147 : decode cX11_clause 147 = .ok (.bipush 108, 2) := by decide +kernel
theorem dX11_clause_149 : decode cX11_clause 149 = .ok (.bipush 101, 2) := by decide +kernel
theorem dX11_clause_151 : decode cX11_clause 151 = .ok (.bipush 100, 2) := by decide +kernel
theorem dX11_clause_153 : decode cX11_clause 153 = .ok (.bipush 103, 2) := by decide +kernel
theorem dX11_clause_155 : decode cX11_clause 155 = .ok (.bipush 101, 2) := by decide +kernel
theorem dX11_clause_157 : decode cX11_clause 157 = .ok (.invokevirtual 120, 3) := by decide +kernel
theorem dX11_clause_160 : decode cX11_clause 160 = .ok (.aload_n 0, 1) := by decide +kernel
theorem dX11_clause_161 : decode cX11_clause 161 = .ok (.getfield 77, 3) := by decide +kernel
theorem dX11_clause_164 : decode cX11_clause 164 = .ok (.ifCond .ne 8, 3) := by decide +kernel
theorem dX11_clause_167 : decode cX11_clause 167 = .ok (.aload_n 0, 1) := by decide +kernel
theorem dX11_clause_168 : decode cX11_clause 168 = .ok (.iconst 1, 1) := by decide +kernel
theorem dX11_clause_169 : decode cX11_clause 169 = .ok (.invokevirtual 130, 3) := by decide +kernel
theorem dX11_clause_172 : decode cX11_clause 172 = .ok (.return_, 1) := by decide +kernel
theorem dX11_clause_173 : decode cX11_clause 173 = .ok (.aload_n 0, 1) := by decide +kernel
theorem dX11_clause_174 : decode cX11_clause 174 = .ok (.bipush 100, 2) := by decide +kernel
theorem dX11_clause_176 : decode cX11_clause 176 = .ok (.bipush 111, 2) := by decide +kernel
theorem dX11_clause_178 : decode cX11_clause 178 = .ok (.bipush 111, 2) := by decide +kernel
theorem dX11_clause_180 : decode cX11_clause 180 = .ok (.bipush 114, 2) := by decide +kernel
theorem dX11_clause_182 : decode cX11_clause 182 = .ok (.iconst 0, 1) := by decide +kernel
theorem dX11_clause_183 : decode cX11_clause 183 = .ok (.invokevirtual 120, 3) := by decide +kernel
theorem dX11_clause_186 : decode cX11_clause 186 = .ok (.aload_n 0, 1) := by decide +kernel
theorem dX11_clause_187 : decode cX11_clause 187 = .ok (.getfield 77, 3) := by decide +kernel
theorem dX11_clause_190 : decode cX11_clause 190 = .ok (.ifCond .ne 8, 3) := by decide +kernel
theorem dX11_clause_193 : decode cX11_clause 193 = .ok (.aload_n 0, 1) := by decide +kernel
theorem dX11_clause_194 : decode cX11_clause 194 = .ok (.iconst 2, 1) := by decide +kernel
theorem dX11_clause_195 : decode cX11_clause 195 = .ok (.invokevirtual 130, 3) := by decide +kernel
theorem dX11_clause_198 : decode cX11_clause 198 = .ok (.return_, 1) := by decide +kernel
theorem dX11_clause_199 : decode cX11_clause 199 = .ok (.aload_n 0, 1) := by decide +kernel
theorem dX11_clause_200 : decode cX11_clause 200 = .ok (.bipush 115, 2) := by decide +kernel
theorem dX11_clause_202 : decode cX11_clause 202 = .ok (.bipush 116, 2) := by decide +kernel
theorem dX11_clause_204 : decode cX11_clause 204 = .ok (.bipush 97, 2) := by decide +kernel
theorem dX11_clause_206 : decode cX11_clause 206 = .ok (.bipush 105, 2) := by decide +kernel
theorem dX11_clause_208 : decode cX11_clause 208 = .ok (.bipush 114, 2) := by decide +kernel
theorem dX11_clause_210 : decode cX11_clause 210 = .ok (.invokevirtual 120, 3) := by decide +kernel
theorem dX11_clause_213 : decode cX11_clause 213 = .ok (.aload_n 0, 1) := by decide +kernel
theorem dX11_clause_214 : decode cX11_clause 214 = .ok (.getfield 77, 3) := by decide +kernel
theorem dX11_clause_217 : decode cX11_clause 217 = .ok (.ifCond .ne 8, 3) := by decide +kernel
theorem dX11_clause_220 : decode cX11_clause 220 = .ok (.aload_n 0, 1) := by decide +kernel
theorem dX11_clause_221 : decode cX11_clause 221 = .ok (.iconst 3, 1) := by decide +kernel
theorem dX11_clause_222 : decode cX11_clause 222 = .ok (.invokevirtual 130, 3) := by decide +kernel
theorem dX11_clause_225 : decode cX11_clause 225 = .ok (.return_, 1) := by decide +kernel
theorem dX11_clause_226 : decode cX11_clause 226 = .ok (.aload_n 0, 1) := by decide +kernel
theorem dX11_clause_227 : decode cX11_clause 227 = .ok (.iconst 1, 1) := by decide +kernel
theorem dX11_clause_228 : decode cX11_clause 228 = .ok (.putfield 77, 3) := by decide +kernel
theorem dX11_clause_231 : decode cX11_clause 231 = .ok (.return_, 1) := by decide +kernel
theorem dX11_held_0 : decode cX11_held 0 = .ok (.iload_n 0, 1) := by decide +kernel
theorem dX11_held_1 : decode cX11_held 1 = .ok (.iconst 1, 1) := by decide +kernel
theorem dX11_held_2 : decode cX11_held 2 = .ok (.if_icmp .ge 7, 3) := by decide +kernel
theorem dX11_held_5 : decode cX11_held 5 = .ok (.iconst 1, 1) := by decide +kernel
theorem dX11_held_6 : decode cX11_held 6 = .ok (.goto 13, 3) := by decide +kernel
theorem dX11_held_9 : decode cX11_held 9 = .ok (.iload_n 0, 1) := by decide +kernel
theorem dX11_held_10 : decode cX11_held 10 = .ok (.iconst 4, 1) := by decide +kernel
theorem dX11_held_11 : decode cX11_held 11 = .ok (.if_icmp .le 7, 3) := by decide +kernel
theorem dX11_held_14 : decode cX11_held 14 = .ok (.iconst 4, 1) := by decide +kernel
theorem dX11_held_15 : decode cX11_held 15 = .ok (.goto 4, 3) := by decide +kernel
theorem dX11_held_18 : decode cX11_held 18 = .ok (.iload_n 0, 1) := by decide +kernel
theorem dX11_held_19 : decode cX11_held 19 = .ok (.ireturn, 1) := by decide +kernel
theorem dX11_reads_0 : decode cX11_reads 0 = .ok (.aload_n 0, 1) := by decide +kernel
theorem dX11_reads_1 : decode cX11_reads 1 = .ok (.iconst 0, 1) := by decide +kernel
theorem dX11_reads_2 : decode cX11_reads 2 = .ok (.putfield 74, 3) := by decide +kernel
theorem dX11_reads_5 : decode cX11_reads 5 = .ok (.aload_n 0, 1) := by decide +kernel
theorem dX11_reads_6 : decode cX11_reads 6 = .ok (.iconst 0, 1) := by decide +kernel
theorem dX11_reads_7 : decode cX11_reads 7 = .ok (.putfield 100, 3) := by decide +kernel
theorem dX11_reads_10 : decode cX11_reads 10 = .ok (.aload_n 0, 1) := by decide +kernel
theorem dX11_reads_11 : decode cX11_reads 11 = .ok (.iconst 0, 1) := by decide +kernel
theorem dX11_reads_12 : decode cX11_reads 12 = .ok (.putfield 77, 3) := by decide +kernel
theorem dX11_reads_15 : decode cX11_reads 15 = .ok (.aload_n 0, 1) := by decide +kernel
theorem dX11_reads_16 : decode cX11_reads 16 = .ok (.iconst 2, 1) := by decide +kernel
theorem dX11_reads_17 : decode cX11_reads 17 = .ok (.putfield 124, 3) := by decide +kernel
theorem dX11_reads_20 : decode cX11_reads 20 = .ok (.aload_n 0, 1) := by decide +kernel
theorem dX11_reads_21 : decode cX11_reads 21 = .ok (.iconst 1, 1) := by decide +kernel
theorem dX11_reads_22 : decode cX11_reads 22 = .ok (.putfield 127, 3) := by decide +kernel
theorem dX11_reads_25 : decode cX11_reads 25 = .ok (.iconst 0, 1) := by decide +kernel
theorem dX11_reads_26 : decode cX11_reads 26 = .ok (.istore_n 1, 1) := by decide +kernel
theorem dX11_reads_27 : decode cX11_reads 27 = .ok (.iload_n 1, 1) := by decide +kernel
theorem dX11_reads_28 : decode cX11_reads 28 = .ok (.bipush 36, 2) := by decide +kernel
theorem dX11_reads_30 : decode cX11_reads 30 = .ok (.if_icmp .ge 16, 3) := by decide +kernel
theorem dX11_reads_33 : decode cX11_reads 33 = .ok (.aload_n 0, 1) := by decide +kernel
theorem dX11_reads_34 : decode cX11_reads 34 = .ok (.getfield 28, 3) := by decide +kernel
theorem dX11_reads_37 : decode cX11_reads 37 = .ok (.iload_n 1, 1) := by decide +kernel
theorem dX11_reads_38 : decode cX11_reads 38 = .ok (.iconst 0, 1) := by decide +kernel
theorem dX11_reads_39 : decode cX11_reads 39 = .ok (.iastore, 1) := by decide +kernel
theorem dX11_reads_40 : decode cX11_reads 40 = .ok (.iinc 1 1, 3) := by decide +kernel
theorem dX11_reads_43 : decode cX11_reads 43 = .ok (.goto (-16), 3) := by decide +kernel
theorem dX11_reads_46 : decode cX11_reads 46 = .ok (.aload_n 0, 1) := by decide +kernel
theorem dX11_reads_47 : decode cX11_reads 47 = .ok (.invokevirtual 133, 3) := by decide +kernel
theorem dX11_reads_50 : decode cX11_reads 50 = .ok (.iconst 1, 1) := by decide +kernel
theorem dX11_reads_51 : decode cX11_reads 51 = .ok (.istore_n 1, 1) := by decide +kernel
theorem dX11_reads_52 : decode cX11_reads 52 = .ok (.iload_n 1, 1) := by decide +kernel
theorem dX11_reads_53 : decode cX11_reads 53 = .ok (.bipush 10, 2) := by decide +kernel
theorem dX11_reads_55 : decode cX11_reads 55 = .ok (.if_icmp .ge 39, 3) := by decide +kernel
theorem dX11_reads_58 : decode cX11_reads 58 = .ok (.aload_n 0, 1) := by decide +kernel
theorem dX11_reads_59 : decode cX11_reads 59 = .ok (.getfield 77, 3) := by decide +kernel
theorem dX11_reads_62 : decode cX11_reads 62 = .ok (.ifCond .ne 32, 3) := by decide +kernel
theorem dX11_reads_65 : decode cX11_reads 65 = .ok (.aload_n 0, 1) := by decide +kernel
theorem dX11_reads_66 : decode cX11_reads 66 = .ok (.invokevirtual 81, 3) := by decide +kernel
theorem dX11_reads_69 : decode cX11_reads 69 = .ok (.bipush 59, 2) := by decide +kernel
theorem dX11_reads_71 : decode cX11_reads 71 = .ok (.if_icmp .ne 23, 3) := by decide +kernel
theorem dX11_reads_74 : decode cX11_reads 74 = .ok (.aload_n 0, 1) := by decide +kernel
theorem dX11_reads_75 : decode cX11_reads 75 = .ok (.dup, 1) := by decide +kernel
theorem dX11_reads_76 : decode cX11_reads 76 = .ok (.getfield 74, 3) := by decide +kernel
theorem dX11_reads_79 : decode cX11_reads 79 = .ok (.iconst 1, 1) := by decide +kernel
theorem dX11_reads_80 : decode cX11_reads 80 = .ok (.iadd, 1) := by decide +kernel
theorem dX11_reads_81 : decode cX11_reads 81 = .ok (.putfield 74, 3) := by decide +kernel
theorem dX11_reads_84 : decode cX11_reads 84 = .ok (.aload_n 0, 1) := by decide +kernel
theorem dX11_reads_85 : decode cX11_reads 85 = .ok (.invokevirtual 133, 3) := by decide +kernel
theorem dX11_reads_88 : decode cX11_reads 88 = .ok (.iinc 1 1, 3) := by decide +kernel
theorem dX11_reads_91 : decode cX11_reads 91 = .ok (.goto (-39), 3) := by decide +kernel
theorem dX11_reads_94 : decode cX11_reads 94 = .ok (.aload_n 0, 1) := by decide +kernel
theorem dX11_reads_95 : decode cX11_reads 95 = .ok (.aload_n 0, 1) := by decide +kernel
theorem dX11_reads_96 : decode cX11_reads 96 = .ok (.getfield 77, 3) := by decide +kernel
theorem dX11_reads_99 : decode cX11_reads 99 = .ok (.ifCond .ne 14, 3) := by decide +kernel
theorem dX11_reads_102 : decode cX11_reads 102 = .ok (.aload_n 0, 1) := by decide +kernel
theorem dX11_reads_103 : decode cX11_reads 103 = .ok (.getfield 74, 3) := by decide +kernel
theorem dX11_reads_106 : decode cX11_reads 106 = .ok (.aload_n 0, 1) := by decide +kernel
theorem dX11_reads_107 : decode cX11_reads 107 = .ok (.getfield 70, 3) := by decide +kernel
theorem dX11_reads_110 : decode cX11_reads 110 = .ok (.if_icmp .ge 7, 3) := by decide +kernel
theorem dX11_reads_113 : decode cX11_reads 113 = .ok (.iconst 1, 1) := by decide +kernel
theorem dX11_reads_114 : decode cX11_reads 114 = .ok (.goto 4, 3) := by decide +kernel
theorem dX11_reads_117 : decode cX11_reads 117 = .ok (.iconst 0, 1) := by decide +kernel
theorem dX11_reads_118 : decode cX11_reads 118 = .ok (.putfield 77, 3) := by decide +kernel
theorem dX11_reads_121 : decode cX11_reads 121 = .ok (.return_, 1) := by decide +kernel
theorem dX11_land_0 : decode cX11_land 0 = .ok (.aload_n 0, 1) := by decide +kernel
theorem dX11_land_1 : decode cX11_land 1 = .ok (.getfield 136, 3) := by decide +kernel
theorem dX11_land_4 : decode cX11_land 4 = .ok (.bipush 6, 2) := by decide +kernel
theorem dX11_land_6 : decode cX11_land 6 = .ok (.if_icmp .ne 6, 3) := by decide +kernel
theorem dX11_land_9 : decode cX11_land 9 = .ok (.bipush (-4), 2) := by decide +kernel
theorem dX11_land_11 : decode cX11_land 11 = .ok (.ireturn, 1) := by decide +kernel
theorem dX11_land_12 : decode cX11_land 12 = .ok (.aload_n 0, 1) := by decide +kernel
theorem dX11_land_13 : decode cX11_land 13 = .ok (.invokevirtual 139, 3) := by decide +kernel
theorem dX11_land_16 : decode cX11_land 16 = .ok (.aload_n 0, 1) := by decide +kernel
theorem dX11_land_17 : decode cX11_land 17 = .ok (.iconst 0, 1) := by decide +kernel
theorem dX11_land_18 : decode cX11_land 18 = .ok (.putfield 70, 3) := by decide +kernel
theorem dX11_land_21 : decode cX11_land 21 = .ok (.aload_n 0, 1) := by decide +kernel
theorem dX11_land_22 : decode cX11_land 22 = .ok (.getfield 77, 3) := by decide +kernel
theorem dX11_land_25 : decode cX11_land 25 = .ok (.ifCond .eq 11, 3) := by decide +kernel
theorem dX11_land_28 : decode cX11_land 28 = .ok (.bipush (-10), 2) := by decide +kernel
theorem dX11_land_30 : decode cX11_land 30 = .ok (.aload_n 0, 1) := by decide +kernel
theorem dX11_land_31 : decode cX11_land 31 = .ok (.getfield 74, 3) := by decide +kernel
theorem dX11_land_34 : decode cX11_land 34 = .ok (.isub, 1) := by decide +kernel
theorem dX11_land_35 : decode cX11_land 35 = .ok (.ireturn, 1) := by decide +kernel
theorem dX11_land_36 : decode cX11_land 36 = .ok (.aload_n 0, 1) := by decide +kernel
theorem dX11_land_37 : decode cX11_land 37 = .ok (.getfield 16, 3) := by decide +kernel
theorem dX11_land_40 : decode cX11_land 40 = .ok (.aload_n 0, 1) := by decide +kernel
theorem dX11_land_41 : decode cX11_land 41 = .ok (.getfield 136, 3) := by decide +kernel
theorem dX11_land_44 : decode cX11_land 44 = .ok (.aload_n 0, 1) := by decide +kernel
theorem dX11_land_45 : decode cX11_land 45 = .ok (.getfield 124, 3) := by decide +kernel
theorem dX11_land_48 : decode cX11_land 48 = .ok (.invokestatic 142, 3) := by decide +kernel
theorem dX11_land_51 : decode cX11_land 51 = .ok (.iastore, 1) := by decide +kernel
theorem dX11_land_52 : decode cX11_land 52 = .ok (.aload_n 0, 1) := by decide +kernel
theorem dX11_land_53 : decode cX11_land 53 = .ok (.getfield 19, 3) := by decide +kernel
theorem dX11_land_56 : decode cX11_land 56 = .ok (.aload_n 0, 1) := by decide +kernel
theorem dX11_land_57 : decode cX11_land 57 = .ok (.getfield 136, 3) := by decide +kernel
theorem dX11_land_60 : decode cX11_land 60 = .ok (.aload_n 0, 1) := by decide +kernel
theorem dX11_land_61 : decode cX11_land 61 = .ok (.getfield 127, 3) := by decide +kernel
theorem dX11_land_64 : decode cX11_land 64 = .ok (.invokestatic 142, 3) := by decide +kernel
theorem dX11_land_67 : decode cX11_land 67 = .ok (.iastore, 1) := by decide +kernel
theorem dX11_land_68 : decode cX11_land 68 = .ok (.iconst 0, 1) := by decide +kernel
theorem dX11_land_69 : decode cX11_land 69 = .ok (.istore_n 1, 1) := by decide +kernel
theorem dX11_land_70 : decode cX11_land 70 = .ok (.iload_n 1, 1) := by decide +kernel
theorem dX11_land_71 : decode cX11_land 71 = .ok (.bipush 36, 2) := by decide +kernel
theorem dX11_land_73 : decode cX11_land 73 = .ok (.if_icmp .ge 29, 3) := by decide +kernel
theorem dX11_land_76 : decode cX11_land 76 = .ok (.aload_n 0, 1) := by decide +kernel
theorem dX11_land_77 : decode cX11_land 77 = .ok (.getfield 22, 3) := by decide +kernel
theorem dX11_land_80 : decode cX11_land 80 = .ok (.bipush 36, 2) := by decide +kernel
theorem dX11_land_82 : decode cX11_land 82 = .ok (.aload_n 0, 1) := by decide +kernel
theorem dX11_land_83 : decode cX11_land 83 = .ok (.getfield 136, 3) := by decide +kernel
theorem dX11_land_86 : decode cX11_land 86 = .ok (.imul, 1) := by decide +kernel
theorem dX11_land_87 : decode cX11_land 87 = .ok (.iload_n 1, 1) := by decide +kernel
theorem dX11_land_88 : decode cX11_land 88 = .ok (.iadd, 1) := by decide +kernel
theorem dX11_land_89 : decode cX11_land 89 = .ok (.aload_n 0, 1) := by decide +kernel
theorem dX11_land_90 : decode cX11_land 90 = .ok (.getfield 28, 3) := by decide +kernel
theorem dX11_land_93 : decode cX11_land 93 = .ok (.iload_n 1, 1) := by decide +kernel
theorem dX11_land_94 : decode cX11_land 94 = .ok (.iaload, 1) := by decide +kernel
theorem dX11_land_95 : decode cX11_land 95 = .ok (.iastore, 1) := by decide +kernel
theorem dX11_land_96 : decode cX11_land 96 = .ok (.iinc 1 1, 3) := by decide +kernel
theorem dX11_land_99 : decode cX11_land 99 = .ok (.goto (-29), 3) := by decide +kernel
theorem dX11_land_102 : decode cX11_land 102 = .ok (.aload_n 0, 1) := by decide +kernel
theorem dX11_land_103 : decode cX11_land 103 = .ok (.getfield 9, 3) := by decide +kernel
theorem dX11_land_106 : decode cX11_land 106 = .ok (.iconst 1, 1) := by decide +kernel
theorem dX11_land_107 : decode cX11_land 107 = .ok (.aload_n 0, 1) := by decide +kernel
theorem dX11_land_108 : decode cX11_land 108 = .ok (.getfield 136, 3) := by decide +kernel
theorem dX11_land_111 : decode cX11_land 111 = .ok (.iastore, 1) := by decide +kernel
theorem dX11_land_112 : decode cX11_land 112 = .ok (.aload_n 0, 1) := by decide +kernel
theorem dX11_land_113 : decode cX11_land 113 = .ok (.dup, 1) := by decide +kernel
theorem dX11_land_114 : decode cX11_land 114 = .ok (.getfield 136, 3) := by decide +kernel
theorem dX11_land_117 : decode cX11_land 117 = .ok (.iconst 1, 1) := by decide +kernel
theorem dX11_land_118 : decode cX11_land 118 = .ok (.iadd, 1) := by decide +kernel
theorem dX11_land_119 : decode cX11_land 119 = .ok (.putfield 136, 3) := by decide +kernel
theorem dX11_land_122 : decode cX11_land 122 = .ok (.aload_n 0, 1) := by decide +kernel
theorem dX11_land_123 : decode cX11_land 123 = .ok (.getfield 9, 3) := by decide +kernel
theorem dX11_land_126 : decode cX11_land 126 = .ok (.iconst 1, 1) := by decide +kernel
theorem dX11_land_127 : decode cX11_land 127 = .ok (.iaload, 1) := by decide +kernel
theorem dX11_land_128 : decode cX11_land 128 = .ok (.ireturn, 1) := by decide +kernel
theorem dX11_onBeats_0 : decode cX11_onBeats 0 = .ok (.aload_n 0, 1) := by decide +kernel
theorem dX11_onBeats_1 : decode cX11_onBeats 1 = .ok (.getfield 9, 3) := by decide +kernel
theorem dX11_onBeats_4 : decode cX11_onBeats 4 = .ok (.iconst 1, 1) := by decide +kernel
theorem dX11_onBeats_5 : decode cX11_onBeats 5 = .ok (.iaload, 1) := by decide +kernel
theorem dX11_onBeats_6 : decode cX11_onBeats 6 = .ok (.ifCond .ge 7, 3) := by decide +kernel
theorem dX11_onBeats_9 : decode cX11_onBeats 9 = .ok (.iconst 2, 1) := by decide +kernel
theorem dX11_onBeats_10 : decode cX11_onBeats 10 = .ok (.goto 14, 3) := by decide +kernel
theorem dX11_onBeats_13 : decode cX11_onBeats 13 = .ok (.aload_n 0, 1) := by decide +kernel
theorem dX11_onBeats_14 : decode cX11_onBeats 14 = .ok (.getfield 16, 3) := by decide +kernel
theorem dX11_onBeats_17 : decode cX11_onBeats 17 = .ok (.aload_n 0, 1) := by decide +kernel
theorem dX11_onBeats_18 : decode cX11_onBeats 18 = .ok (.getfield 9, 3) := by decide +kernel
theorem dX11_onBeats_21 : decode cX11_onBeats 21 = .ok (.iconst 1, 1) := by decide +kernel
theorem dX11_onBeats_22 : decode cX11_onBeats 22 = .ok (.iaload, 1) := by decide +kernel
theorem dX11_onBeats_23 : decode cX11_onBeats 23 = .ok (.iaload, 1) := by decide +kernel
theorem dX11_onBeats_24 : decode cX11_onBeats 24 = .ok (.ireturn, 1) := by decide +kernel
theorem dX11_beats_0 : decode cX11_beats 0 = .ok (.aload_n 0, 1) := by decide +kernel
theorem dX11_beats_1 : decode cX11_beats 1 = .ok (.invokevirtual 145, 3) := by decide +kernel
theorem dX11_beats_4 : decode cX11_beats 4 = .ok (.aload_n 0, 1) := by decide +kernel
theorem dX11_beats_5 : decode cX11_beats 5 = .ok (.getfield 9, 3) := by decide +kernel
theorem dX11_beats_8 : decode cX11_beats 8 = .ok (.iconst 1, 1) := by decide +kernel
theorem dX11_beats_9 : decode cX11_beats 9 = .ok (.iaload, 1) := by decide +kernel
theorem dX11_beats_10 : decode cX11_beats 10 = .ok (.ifCond .ge 7, 3) := by decide +kernel
theorem dX11_beats_13 : decode cX11_beats 13 = .ok (.iconst 1, 1) := by decide +kernel
theorem dX11_beats_14 : decode cX11_beats 14 = .ok (.goto 14, 3) := by decide +kernel
theorem dX11_beats_17 : decode cX11_beats 17 = .ok (.aload_n 0, 1) := by decide +kernel
theorem dX11_beats_18 : decode cX11_beats 18 = .ok (.getfield 19, 3) := by decide +kernel
theorem dX11_beats_21 : decode cX11_beats 21 = .ok (.aload_n 0, 1) := by decide +kernel
theorem dX11_beats_22 : decode cX11_beats 22 = .ok (.getfield 9, 3) := by decide +kernel
theorem dX11_beats_25 : decode cX11_beats 25 = .ok (.iconst 1, 1) := by decide +kernel
theorem dX11_beats_26 : decode cX11_beats 26 = .ok (.iaload, 1) := by decide +kernel
theorem dX11_beats_27 : decode cX11_beats 27 = .ok (.iaload, 1) := by decide +kernel
theorem dX11_beats_28 : decode cX11_beats 28 = .ok (.iadd, 1) := by decide +kernel
theorem dX11_beats_29 : decode cX11_beats 29 = .ok (.ireturn, 1) := by decide +kernel
theorem dX11_told_0 : decode cX11_told 0 = .ok (.iload_n 1, 1) := by decide +kernel
theorem dX11_told_1 : decode cX11_told 1 = .ok (.ifCond .ne 10, 3) := by decide +kernel
theorem dX11_told_4 : decode cX11_told 4 = .ok (.aload_n 0, 1) := by decide +kernel
theorem dX11_told_5 : decode cX11_told 5 = .ok (.invokevirtual 145, 3) := by decide +kernel
theorem dX11_told_8 : decode cX11_told 8 = .ok (.goto 21, 3) := by decide +kernel
theorem dX11_told_11 : decode cX11_told 11 = .ok (.iload_n 1, 1) := by decide +kernel
theorem dX11_told_12 : decode cX11_told 12 = .ok (.iconst 1, 1) := by decide +kernel
theorem dX11_told_13 : decode cX11_told 13 = .ok (.if_icmp .ne 15, 3) := by decide +kernel
theorem dX11_told_16 : decode cX11_told 16 = .ok (.aload_n 0, 1) := by decide +kernel
theorem dX11_told_17 : decode cX11_told 17 = .ok (.invokevirtual 148, 3) := by decide +kernel
theorem dX11_told_20 : decode cX11_told 20 = .ok (.aload_n 0, 1) := by decide +kernel
theorem dX11_told_21 : decode cX11_told 21 = .ok (.invokevirtual 145, 3) := by decide +kernel
theorem dX11_told_24 : decode cX11_told 24 = .ok (.isub, 1) := by decide +kernel
theorem dX11_told_25 : decode cX11_told 25 = .ok (.goto 4, 3) := by decide +kernel
theorem dX11_told_28 : decode cX11_told 28 = .ok (.iconst (-1), 1) := by decide +kernel
theorem dX11_told_29 : decode cX11_told 29 = .ok (.ireturn, 1) := by decide +kernel
theorem dX11_isMarked_0 : decode cX11_isMarked 0 = .ok (.aload_n 0, 1) := by decide +kernel
theorem dX11_isMarked_1 : decode cX11_isMarked 1 = .ok (.getfield 9, 3) := by decide +kernel
theorem dX11_isMarked_4 : decode cX11_isMarked 4 = .ok (.iconst 1, 1) := by decide +kernel
theorem dX11_isMarked_5 : decode cX11_isMarked 5 = .ok (.iaload, 1) := by decide +kernel
theorem dX11_isMarked_6 : decode cX11_isMarked 6 = .ok (.ifCond .lt 31, 3) := by decide +kernel
theorem dX11_isMarked_9 : decode cX11_isMarked 9 = .ok (.aload_n 0, 1) := by decide +kernel
theorem dX11_isMarked_10 : decode cX11_isMarked 10 = .ok (.getfield 22, 3) := by decide +kernel
theorem dX11_isMarked_13 : decode cX11_isMarked 13 = .ok (.bipush 36, 2) := by decide +kernel
theorem dX11_isMarked_15 : decode cX11_isMarked 15 = .ok (.aload_n 0, 1) := by decide +kernel
theorem dX11_isMarked_16 : decode cX11_isMarked 16 = .ok (.getfield 9, 3) := by decide +kernel
theorem dX11_isMarked_19 : decode cX11_isMarked 19 = .ok (.iconst 1, 1) := by decide +kernel
theorem dX11_isMarked_20 : decode cX11_isMarked 20 = .ok (.iaload, 1) := by decide +kernel
theorem dX11_isMarked_21 : decode cX11_isMarked 21 = .ok (.imul, 1) := by decide +kernel
theorem dX11_isMarked_22 : decode cX11_isMarked 22 = .ok (.iload_n 1, 1) := by decide +kernel
theorem dX11_isMarked_23 : decode cX11_isMarked 23 = .ok (.iadd, 1) := by decide +kernel
theorem dX11_isMarked_24 : decode cX11_isMarked 24 = .ok (.iaload, 1) := by decide +kernel
theorem dX11_isMarked_25 : decode cX11_isMarked 25 = .ok (.iload_n 2, 1) := by decide +kernel
theorem dX11_isMarked_26 : decode cX11_isMarked 26 = .ok (.ishr, 1) := by decide +kernel
theorem dX11_isMarked_27 : decode cX11_isMarked 27 = .ok (.iconst 1, 1) := by decide +kernel
theorem dX11_isMarked_28 : decode cX11_isMarked 28 = .ok (.iand, 1) := by decide +kernel
theorem dX11_isMarked_29 : decode cX11_isMarked 29 = .ok (.iconst 1, 1) := by decide +kernel
theorem dX11_isMarked_30 : decode cX11_isMarked 30 = .ok (.if_icmp .ne 7, 3) := by decide +kernel
theorem dX11_isMarked_33 : decode cX11_isMarked 33 = .ok (.iconst 1, 1) := by decide +kernel
theorem dX11_isMarked_34 : decode cX11_isMarked 34 = .ok (.goto 4, 3) := by decide +kernel
theorem dX11_isMarked_37 : decode cX11_isMarked 37 = .ok (.iconst 0, 1) := by decide +kernel
theorem dX11_isMarked_38 : decode cX11_isMarked 38 = .ok (.ireturn, 1) := by decide +kernel
theorem dX11_ground_0 : decode cX11_ground 0 = .ok (.iload_n 1, 1) := by decide +kernel
theorem dX11_ground_1 : decode cX11_ground 1 = .ok (.invokestatic 151, 3) := by decide +kernel
theorem dX11_ground_4 : decode cX11_ground 4 = .ok (.ifCond .eq 11, 3) := by decide +kernel
theorem dX11_ground_7 : decode cX11_ground 7 = .ok (.iload_n 2, 1) := by decide +kernel
theorem dX11_ground_8 : decode cX11_ground 8 = .ok (.iconst 4, 1) := by decide +kernel
theorem dX11_ground_9 : decode cX11_ground 9 = .ok (.invokestatic 66, 3) := by decide +kernel
theorem dX11_ground_12 : decode cX11_ground 12 = .ok (.ifCond .ne 7, 3) := by decide +kernel
theorem dX11_ground_15 : decode cX11_ground 15 = .ok (.iconst (-1), 1) := by decide +kernel
theorem dX11_ground_16 : decode cX11_ground 16 = .ok (.goto 17, 3) := by decide +kernel
theorem dX11_ground_19 : decode cX11_ground 19 = .ok (.aload_n 0, 1) := by decide +kernel
theorem dX11_ground_20 : decode cX11_ground 20 = .ok (.iload_n 1, 1) := by decide +kernel
theorem dX11_ground_21 : decode cX11_ground 21 = .ok (.iload_n 2, 1) := by decide +kernel
theorem dX11_ground_22 : decode cX11_ground 22 = .ok (.invokevirtual 155, 3) := by decide +kernel
theorem dX11_ground_25 : decode cX11_ground 25 = .ok (.ifCond .eq 7, 3) := by decide +kernel
theorem dX11_ground_28 : decode cX11_ground 28 = .ok (.iconst 1, 1) := by decide +kernel
theorem dX11_ground_29 : decode cX11_ground 29 = .ok (.goto 4, 3) := by decide +kernel
theorem dX11_ground_32 : decode cX11_ground 32 = .ok (.iconst 0, 1) := by decide +kernel
theorem dX11_ground_33 : decode cX11_ground 33 = .ok (.ireturn, 1) := by decide +kernel
theorem dX11_walker_0 : decode cX11_walker 0 = .ok (.iload_n 1, 1) := by decide +kernel
theorem dX11_walker_1 : decode cX11_walker 1 = .ok (.bipush 7, 2) := by decide +kernel
theorem dX11_walker_3 : decode cX11_walker 3 = .ok (.invokestatic 66, 3) := by decide +kernel
theorem dX11_walker_6 : decode cX11_walker 6 = .ok (.ifCond .eq 19, 3) := by decide +kernel
theorem dX11_walker_9 : decode cX11_walker 9 = .ok (.iload_n 3, 1) := by decide +kernel
theorem dX11_walker_10 : decode cX11_walker 10 = .ok (.invokestatic 151, 3) := by decide +kernel
theorem dX11_walker_13 : decode cX11_walker 13 = .ok (.ifCond .eq 12, 3) := by decide +kernel
theorem dX11_walker_16 : decode cX11_walker 16 = .ok (.iload 4, 2) := by decide +kernel
theorem dX11_walker_18 : decode cX11_walker 18 = .ok (.iconst 4, 1) := by decide +kernel
theorem dX11_walker_19 : decode cX11_walker 19 = .ok (.invokestatic 66, 3) := by decide +kernel
theorem dX11_walker_22 : decode cX11_walker 22 = .ok (.ifCond .ne 5, 3) := by decide +kernel
theorem dX11_walker_25 : decode cX11_walker 25 = .ok (.iconst (-1), 1) := by decide +kernel
theorem dX11_walker_26 : decode cX11_walker 26 = .ok (.ireturn, 1) := by decide +kernel
theorem dX11_walker_27 : decode cX11_walker 27 = .ok (.iload_n 2, 1) := by decide +kernel
theorem dX11_walker_28 : decode cX11_walker 28 = .ok (.ifCond .lt 9, 3) := by decide +kernel
theorem dX11_walker_31 : decode cX11_walker 31 = .ok (.iload_n 2, 1) := by decide +kernel
theorem dX11_walker_32 : decode cX11_walker 32 = .ok (.bipush 9, 2) := by decide +kernel
theorem dX11_walker_34 : decode cX11_walker 34 = .ok (.if_icmp .le 6, 3) := by decide +kernel
theorem dX11_walker_37 : decode cX11_walker 37 = .ok (.bipush (-2), 2) := by decide +kernel
theorem dX11_walker_39 : decode cX11_walker 39 = .ok (.ireturn, 1) := by decide +kernel
theorem dX11_walker_40 : decode cX11_walker 40 = .ok (.aload_n 0, 1) := by decide +kernel
theorem dX11_walker_41 : decode cX11_walker 41 = .ok (.iload_n 3, 1) := by decide +kernel
theorem dX11_walker_42 : decode cX11_walker 42 = .ok (.iconst 0, 1) := by decide +kernel
theorem dX11_walker_43 : decode cX11_walker 43 = .ok (.invokevirtual 155, 3) := by decide +kernel
theorem dX11_walker_46 : decode cX11_walker 46 = .ok (.ifCond .eq 6, 3) := by decide +kernel
theorem dX11_walker_49 : decode cX11_walker 49 = .ok (.bipush (-3), 2) := by decide +kernel
theorem dX11_walker_51 : decode cX11_walker 51 = .ok (.ireturn, 1) := by decide +kernel
theorem dX11_walker_52 : decode cX11_walker 52 = .ok (.aload_n 0, 1) := by decide +kernel
theorem dX11_walker_53 : decode cX11_walker 53 = .ok (.getfield 9, 3) := by decide +kernel
theorem dX11_walker_56 : decode cX11_walker 56 = .ok (.iconst 0, 1) := by decide +kernel
theorem dX11_walker_57 : decode cX11_walker 57 = .ok (.iaload, 1) := by decide +kernel
theorem dX11_walker_58 : decode cX11_walker 58 = .ok (.bipush 6, 2) := by decide +kernel
theorem dX11_walker_60 : decode cX11_walker 60 = .ok (.if_icmp .ne 6, 3) := by decide +kernel
theorem dX11_walker_63 : decode cX11_walker 63 = .ok (.bipush (-4), 2) := by decide +kernel
theorem dX11_walker_65 : decode cX11_walker 65 = .ok (.ireturn, 1) := by decide +kernel
theorem dX11_walker_66 : decode cX11_walker 66 = .ok (.aload_n 0, 1) := by decide +kernel
theorem dX11_walker_67 : decode cX11_walker 67 = .ok (.getfield 9, 3) := by decide +kernel
theorem dX11_walker_70 : decode cX11_walker 70 = .ok (.iconst 0, 1) := by decide +kernel
theorem dX11_walker_71 : decode cX11_walker 71 = .ok (.iaload, 1) := by decide +kernel
theorem dX11_walker_72 : decode cX11_walker 72 = .ok (.istore 5, 2) := by decide +kernel
theorem dX11_walker_74 : decode cX11_walker 74 = .ok (.aload_n 0, 1) := by decide +kernel
theorem dX11_walker_75 : decode cX11_walker 75 = .ok (.getfield 9, 3) := by decide +kernel
theorem dX11_walker_78 : decode cX11_walker 78 = .ok (.iconst 0, 1) := by decide +kernel
theorem dX11_walker_79 : decode cX11_walker 79 = .ok (.dup2, 1) := by decide +kernel
theorem dX11_walker_80 : decode cX11_walker 80 = .ok (.iaload, 1) := by decide +kernel
theorem dX11_walker_81 : decode cX11_walker 81 = .ok (.iconst 1, 1) := by decide +kernel
theorem dX11_walker_82 : decode cX11_walker 82 = .ok (.iadd, 1) := by decide +kernel
theorem dX11_walker_83 : decode cX11_walker 83 = .ok (.iastore, 1) := by decide +kernel
theorem dX11_walker_84 : decode cX11_walker 84 = .ok (.aload_n 0, 1) := by decide +kernel
theorem dX11_walker_85 : decode cX11_walker 85 = .ok (.iload 5, 2) := by decide +kernel
theorem dX11_walker_87 : decode cX11_walker 87 = .ok (.iconst 0, 1) := by decide +kernel
theorem dX11_walker_88 : decode cX11_walker 88 = .ok (.iload_n 1, 1) := by decide +kernel
theorem dX11_walker_89 : decode cX11_walker 89 = .ok (.invokevirtual 158, 3) := by decide +kernel
theorem dX11_walker_92 : decode cX11_walker 92 = .ok (.aload_n 0, 1) := by decide +kernel
theorem dX11_walker_93 : decode cX11_walker 93 = .ok (.iload 5, 2) := by decide +kernel
theorem dX11_walker_95 : decode cX11_walker 95 = .ok (.iconst 1, 1) := by decide +kernel
theorem dX11_walker_96 : decode cX11_walker 96 = .ok (.iload_n 2, 1) := by decide +kernel
theorem dX11_walker_97 : decode cX11_walker 97 = .ok (.invokevirtual 158, 3) := by decide +kernel
theorem dX11_walker_100 : decode cX11_walker 100 = .ok (.aload_n 0, 1) := by decide +kernel
theorem dX11_walker_101 : decode cX11_walker 101 = .ok (.iload 5, 2) := by decide +kernel
theorem dX11_walker_103 : decode cX11_walker 103 = .ok (.iconst 2, 1) := by decide +kernel
theorem dX11_walker_104 : decode cX11_walker 104 = .ok (.iload_n 3, 1) := by decide +kernel
theorem dX11_walker_105 : decode cX11_walker 105 = .ok (.invokevirtual 158, 3) := by decide +kernel
theorem dX11_walker_108 : decode cX11_walker 108 = .ok (.aload_n 0, 1) := by decide +kernel
theorem dX11_walker_109 : decode cX11_walker 109 = .ok (.iload 5, 2) := by decide +kernel
theorem dX11_walker_111 : decode cX11_walker 111 = .ok (.iconst 3, 1) := by decide +kernel
theorem dX11_walker_112 : decode cX11_walker 112 = .ok (.iload 4, 2) := by decide +kernel
theorem dX11_walker_114 : decode cX11_walker 114 = .ok (.invokevirtual 158, 3) := by decide +kernel
theorem dX11_walker_117 : decode cX11_walker 117 = .ok (.aload_n 0, 1) := by decide +kernel
theorem dX11_walker_118 : decode cX11_walker 118 = .ok (.iload 5, 2) := by decide +kernel
theorem dX11_walker_120 : decode cX11_walker 120 = .ok (.iconst 4, 1) := by decide +kernel
theorem dX11_walker_121 : decode cX11_walker 121 = .ok (.iconst 0, 1) := by decide +kernel
theorem dX11_walker_122 : decode cX11_walker 122 = .ok (.invokevirtual 158, 3) := by decide +kernel
theorem dX11_walker_125 : decode cX11_walker 125 = .ok (.aload_n 0, 1) := by decide +kernel
theorem dX11_walker_126 : decode cX11_walker 126 = .ok (.iload 5, 2) := by decide +kernel
theorem dX11_walker_128 : decode cX11_walker 128 = .ok (.iconst 5, 1) := by decide +kernel
theorem dX11_walker_129 : decode cX11_walker 129 = .ok (.iload_n 3, 1) := by decide +kernel
theorem dX11_walker_130 : decode cX11_walker 130 = .ok (.invokevirtual 158, 3) := by decide +kernel
theorem dX11_walker_133 : decode cX11_walker 133 = .ok (.aload_n 0, 1) := by decide +kernel
theorem dX11_walker_134 : decode cX11_walker 134 = .ok (.iload 5, 2) := by decide +kernel
theorem dX11_walker_136 : decode cX11_walker 136 = .ok (.bipush 6, 2) := by decide +kernel
theorem dX11_walker_138 : decode cX11_walker 138 = .ok (.iconst 0, 1) := by decide +kernel
theorem dX11_walker_139 : decode cX11_walker 139 = .ok (.invokevirtual 158, 3) := by decide +kernel
theorem dX11_walker_142 : decode cX11_walker 142 = .ok (.iload 5, 2) := by decide +kernel
theorem dX11_walker_144 : decode cX11_walker 144 = .ok (.ireturn, 1) := by decide +kernel
theorem dX11_beatOf_0 : decode cX11_beatOf 0 = .ok (.aload_n 0, 1) := by decide +kernel
theorem dX11_beatOf_1 : decode cX11_beatOf 1 = .ok (.iload_n 1, 1) := by decide +kernel
theorem dX11_beatOf_2 : decode cX11_beatOf 2 = .ok (.iconst 4, 1) := by decide +kernel
theorem dX11_beatOf_3 : decode cX11_beatOf 3 = .ok (.invokevirtual 162, 3) := by decide +kernel
theorem dX11_beatOf_6 : decode cX11_beatOf 6 = .ok (.aload_n 0, 1) := by decide +kernel
theorem dX11_beatOf_7 : decode cX11_beatOf 7 = .ok (.invokevirtual 148, 3) := by decide +kernel
theorem dX11_beatOf_10 : decode cX11_beatOf 10 = .ok (.irem, 1) := by decide +kernel
theorem dX11_beatOf_11 : decode cX11_beatOf 11 = .ok (.ireturn, 1) := by decide +kernel
theorem dX11_of_0 : decode cX11_of 0 = .ok (.aload_n 0, 1) := by decide +kernel
theorem dX11_of_1 : decode cX11_of 1 = .ok (.iload_n 1, 1) := by decide +kernel
theorem dX11_of_2 : decode cX11_of 2 = .ok (.invokevirtual 165, 3) := by decide +kernel
theorem dX11_of_5 : decode cX11_of 5 = .ok (.ifCond .eq 12, 3) := by decide +kernel
theorem dX11_of_8 : decode cX11_of 8 = .ok (.iload_n 2, 1) := by decide +kernel
theorem dX11_of_9 : decode cX11_of 9 = .ok (.bipush 7, 2) := by decide +kernel
theorem dX11_of_11 : decode cX11_of 11 = .ok (.invokestatic 66, 3) := by decide +kernel
theorem dX11_of_14 : decode cX11_of 14 = .ok (.ifCond .ne 7, 3) := by decide +kernel
theorem dX11_of_17 : decode cX11_of 17 = .ok (.iconst (-1), 1) := by decide +kernel
theorem dX11_of_18 : decode cX11_of 18 = .ok (.goto 22, 3) := by decide +kernel
theorem dX11_of_21 : decode cX11_of 21 = .ok (.iload_n 2, 1) := by decide +kernel
theorem dX11_of_22 : decode cX11_of 22 = .ok (.iconst 4, 1) := by decide +kernel
theorem dX11_of_23 : decode cX11_of 23 = .ok (.if_icmp .ne 11, 3) := by decide +kernel
theorem dX11_of_26 : decode cX11_of 26 = .ok (.aload_n 0, 1) := by decide +kernel
theorem dX11_of_27 : decode cX11_of 27 = .ok (.iload_n 1, 1) := by decide +kernel
theorem dX11_of_28 : decode cX11_of 28 = .ok (.invokevirtual 168, 3) := by decide +kernel
theorem dX11_of_31 : decode cX11_of 31 = .ok (.goto 9, 3) := by decide +kernel
theorem dX11_of_34 : decode cX11_of 34 = .ok (.aload_n 0, 1) := by decide +kernel
theorem dX11_of_35 : decode cX11_of 35 = .ok (.iload_n 1, 1) := by decide +kernel
theorem dX11_of_36 : decode cX11_of 36 = .ok (.iload_n 2, 1) := by decide +kernel
theorem dX11_of_37 : decode cX11_of 37 = .ok (.invokevirtual 162, 3) := by decide +kernel
theorem dX11_of_40 : decode cX11_of 40 = .ok (.ireturn, 1) := by decide +kernel
theorem dX11_put_0 : decode cX11_put 0 = .ok (.aload_n 0, 1) := by decide +kernel
theorem dX11_put_1 : decode cX11_put 1 = .ok (.iload_n 1, 1) := by decide +kernel
theorem dX11_put_2 : decode cX11_put 2 = .ok (.invokevirtual 165, 3) := by decide +kernel
theorem dX11_put_5 : decode cX11_put 5 = .ok (.ifCond .eq 18, 3) := by decide +kernel
theorem dX11_put_8 : decode cX11_put 8 = .ok (.iload_n 2, 1) := by decide +kernel
theorem dX11_put_9 : decode cX11_put 9 = .ok (.invokestatic 151, 3) := by decide +kernel
theorem dX11_put_12 : decode cX11_put 12 = .ok (.ifCond .eq 11, 3) := by decide +kernel
theorem dX11_put_15 : decode cX11_put 15 = .ok (.iload_n 3, 1) := by decide +kernel
theorem dX11_put_16 : decode cX11_put 16 = .ok (.iconst 4, 1) := by decide +kernel
theorem dX11_put_17 : decode cX11_put 17 = .ok (.invokestatic 66, 3) := by decide +kernel
theorem dX11_put_20 : decode cX11_put 20 = .ok (.ifCond .ne 5, 3) := by decide +kernel
theorem dX11_put_23 : decode cX11_put 23 = .ok (.iconst (-1), 1) := by decide +kernel
theorem dX11_put_24 : decode cX11_put 24 = .ok (.ireturn, 1) := by decide +kernel
theorem dX11_put_25 : decode cX11_put 25 = .ok (.iload 4, 2) := by decide +kernel
theorem dX11_put_27 : decode cX11_put 27 = .ok (.ifCond .lt 10, 3) := by decide +kernel
theorem dX11_put_30 : decode cX11_put 30 = .ok (.iload 4, 2) := by decide +kernel
theorem dX11_put_32 : decode cX11_put 32 = .ok (.bipush 7, 2) := by decide +kernel
theorem dX11_put_34 : decode cX11_put 34 = .ok (.if_icmp .le 6, 3) := by decide +kernel
theorem dX11_put_37 : decode cX11_put 37 = .ok (.bipush (-2), 2) := by decide +kernel
theorem dX11_put_39 : decode cX11_put 39 = .ok (.ireturn, 1) := by decide +kernel
theorem dX11_put_40 : decode cX11_put 40 = .ok (.aload_n 0, 1) := by decide +kernel
theorem dX11_put_41 : decode cX11_put 41 = .ok (.iload_n 2, 1) := by decide +kernel
theorem dX11_put_42 : decode cX11_put 42 = .ok (.iconst 0, 1) := by decide +kernel
theorem dX11_put_43 : decode cX11_put 43 = .ok (.invokevirtual 155, 3) := by decide +kernel
theorem dX11_put_46 : decode cX11_put 46 = .ok (.ifCond .eq 6, 3) := by decide +kernel
theorem dX11_put_49 : decode cX11_put 49 = .ok (.bipush (-3), 2) := by decide +kernel
theorem dX11_put_51 : decode cX11_put 51 = .ok (.ireturn, 1) := by decide +kernel
theorem dX11_put_52 : decode cX11_put 52 = .ok (.aload_n 0, 1) := by decide +kernel
theorem dX11_put_53 : decode cX11_put 53 = .ok (.iload_n 1, 1) := by decide +kernel
theorem dX11_put_54 : decode cX11_put 54 = .ok (.iconst 2, 1) := by decide +kernel
theorem dX11_put_55 : decode cX11_put 55 = .ok (.invokevirtual 162, 3) := by decide +kernel
theorem dX11_put_58 : decode cX11_put 58 = .ok (.istore 5, 2) := by decide +kernel
theorem dX11_put_60 : decode cX11_put 60 = .ok (.aload_n 0, 1) := by decide +kernel
theorem dX11_put_61 : decode cX11_put 61 = .ok (.iload_n 1, 1) := by decide +kernel
theorem dX11_put_62 : decode cX11_put 62 = .ok (.iconst 2, 1) := by decide +kernel
theorem dX11_put_63 : decode cX11_put 63 = .ok (.iload_n 2, 1) := by decide +kernel
theorem dX11_put_64 : decode cX11_put 64 = .ok (.invokevirtual 158, 3) := by decide +kernel
theorem dX11_put_67 : decode cX11_put 67 = .ok (.aload_n 0, 1) := by decide +kernel
theorem dX11_put_68 : decode cX11_put 68 = .ok (.iload_n 1, 1) := by decide +kernel
theorem dX11_put_69 : decode cX11_put 69 = .ok (.iconst 3, 1) := by decide +kernel
theorem dX11_put_70 : decode cX11_put 70 = .ok (.iload_n 3, 1) := by decide +kernel
theorem dX11_put_71 : decode cX11_put 71 = .ok (.invokevirtual 158, 3) := by decide +kernel
theorem dX11_put_74 : decode cX11_put 74 = .ok (.aload_n 0, 1) := by decide +kernel
theorem dX11_put_75 : decode cX11_put 75 = .ok (.iload_n 1, 1) := by decide +kernel
theorem dX11_put_76 : decode cX11_put 76 = .ok (.iconst 4, 1) := by decide +kernel
theorem dX11_put_77 : decode cX11_put 77 = .ok (.iload 4, 2) := by decide +kernel
theorem dX11_put_79 : decode cX11_put 79 = .ok (.invokevirtual 158, 3) := by decide +kernel
theorem dX11_put_82 : decode cX11_put 82 = .ok (.aload_n 0, 1) := by decide +kernel
theorem dX11_put_83 : decode cX11_put 83 = .ok (.iload_n 1, 1) := by decide +kernel
theorem dX11_put_84 : decode cX11_put 84 = .ok (.iconst 5, 1) := by decide +kernel
theorem dX11_put_85 : decode cX11_put 85 = .ok (.iload_n 2, 1) := by decide +kernel
theorem dX11_put_86 : decode cX11_put 86 = .ok (.invokevirtual 158, 3) := by decide +kernel
theorem dX11_put_89 : decode cX11_put 89 = .ok (.iload 5, 2) := by decide +kernel
theorem dX11_put_91 : decode cX11_put 91 = .ok (.ireturn, 1) := by decide +kernel
theorem dX11_beside_0 : decode cX11_beside 0 = .ok (.iload_n 1, 1) := by decide +kernel
theorem dX11_beside_1 : decode cX11_beside 1 = .ok (.tableswitch 73 0 2 #[27, 42, 58], 27) := by decide +kernel
theorem dX11_beside_28 : decode cX11_beside 28 = .ok (.iload_n 0, 1) := by decide +kernel
theorem dX11_beside_29 : decode cX11_beside 29 = .ok (.bipush 6, 2) := by decide +kernel
theorem dX11_beside_31 : decode cX11_beside 31 = .ok (.if_icmp .lt 10, 3) := by decide +kernel
theorem dX11_beside_34 : decode cX11_beside 34 = .ok (.iload_n 0, 1) := by decide +kernel
theorem dX11_beside_35 : decode cX11_beside 35 = .ok (.bipush 6, 2) := by decide +kernel
theorem dX11_beside_37 : decode cX11_beside 37 = .ok (.isub, 1) := by decide +kernel
theorem dX11_beside_38 : decode cX11_beside 38 = .ok (.goto 4, 3) := by decide +kernel
theorem dX11_beside_41 : decode cX11_beside 41 = .ok (.iconst (-1), 1) := by decide +kernel
theorem dX11_beside_42 : decode cX11_beside 42 = .ok (.ireturn, 1) := by decide +kernel
theorem dX11_beside_43 : decode cX11_beside 43 = .ok (.iload_n 0, 1) := by decide +kernel
theorem dX11_beside_44 : decode cX11_beside 44 = .ok (.bipush 6, 2) := by decide +kernel
theorem dX11_beside_46 : decode cX11_beside 46 = .ok (.irem, 1) := by decide +kernel
theorem dX11_beside_47 : decode cX11_beside 47 = .ok (.iconst 5, 1) := by decide +kernel
theorem dX11_beside_48 : decode cX11_beside 48 = .ok (.if_icmp .ge 9, 3) := by decide +kernel
theorem dX11_beside_51 : decode cX11_beside 51 = .ok (.iload_n 0, 1) := by decide +kernel
theorem dX11_beside_52 : decode cX11_beside 52 = .ok (.iconst 1, 1) := by decide +kernel
theorem dX11_beside_53 : decode cX11_beside 53 = .ok (.iadd, 1) := by decide +kernel
theorem dX11_beside_54 : decode cX11_beside 54 = .ok (.goto 4, 3) := by decide +kernel
theorem dX11_beside_57 : decode cX11_beside 57 = .ok (.iconst (-1), 1) := by decide +kernel
theorem dX11_beside_58 : decode cX11_beside 58 = .ok (.ireturn, 1) := by decide +kernel
theorem dX11_beside_59 : decode cX11_beside 59 = .ok (.iload_n 0, 1) := by decide +kernel
theorem dX11_beside_60 : decode cX11_beside 60 = .ok (.bipush 30, 2) := by decide +kernel
theorem dX11_beside_62 : decode cX11_beside 62 = .ok (.if_icmp .ge 10, 3) := by decide +kernel
theorem dX11_beside_65 : decode cX11_beside 65 = .ok (.iload_n 0, 1) := by decide +kernel
theorem dX11_beside_66 : decode cX11_beside 66 = .ok (.bipush 6, 2) := by decide +kernel
theorem dX11_beside_68 : decode cX11_beside 68 = .ok (.iadd, 1) := by decide +kernel
theorem dX11_beside_69 : decode cX11_beside 69 = .ok (.goto 4, 3) := by decide +kernel
theorem dX11_beside_72 : decode cX11_beside 72 = .ok (.iconst (-1), 1) := by decide +kernel
theorem dX11_beside_73 : decode cX11_beside 73 = .ok (.ireturn, 1) := by decide +kernel
theorem dX11_beside_74 : decode cX11_beside 74 = .ok (.iload_n 0, 1) := by decide +kernel
theorem dX11_beside_75 : decode cX11_beside 75 = .ok (.bipush 6, 2) := by decide +kernel
theorem dX11_beside_77 : decode cX11_beside 77 = .ok (.irem, 1) := by decide +kernel
theorem dX11_beside_78 : decode cX11_beside 78 = .ok (.ifCond .le 9, 3) := by decide +kernel
theorem dX11_beside_81 : decode cX11_beside 81 = .ok (.iload_n 0, 1) := by decide +kernel
theorem dX11_beside_82 : decode cX11_beside 82 = .ok (.iconst 1, 1) := by decide +kernel
theorem dX11_beside_83 : decode cX11_beside 83 = .ok (.isub, 1) := by decide +kernel
theorem dX11_beside_84 : decode cX11_beside 84 = .ok (.goto 4, 3) := by decide +kernel
theorem dX11_beside_87 : decode cX11_beside 87 = .ok (.iconst (-1), 1) := by decide +kernel
theorem dX11_beside_88 : decode cX11_beside 88 = .ok (.ireturn, 1) := by decide +kernel
theorem dX11_goesOn_0 : decode cX11_goesOn 0 = .ok (.iload_n 1, 1) := by decide +kernel
theorem dX11_goesOn_1 : decode cX11_goesOn 1 = .ok (.iload_n 3, 1) := by decide +kernel
theorem dX11_goesOn_2 : decode cX11_goesOn 2 = .ok (.invokestatic 171, 3) := by decide +kernel
theorem dX11_goesOn_5 : decode cX11_goesOn 5 = .ok (.istore 4, 2) := by decide +kernel
theorem dX11_goesOn_7 : decode cX11_goesOn 7 = .ok (.iload 4, 2) := by decide +kernel
theorem dX11_goesOn_9 : decode cX11_goesOn 9 = .ok (.ifCond .lt 32, 3) := by decide +kernel
theorem dX11_goesOn_12 : decode cX11_goesOn 12 = .ok (.aload_n 0, 1) := by decide +kernel
theorem dX11_goesOn_13 : decode cX11_goesOn 13 = .ok (.iload 4, 2) := by decide +kernel
theorem dX11_goesOn_15 : decode cX11_goesOn 15 = .ok (.iconst 0, 1) := by decide +kernel
theorem dX11_goesOn_16 : decode cX11_goesOn 16 = .ok (.invokevirtual 155, 3) := by decide +kernel
theorem dX11_goesOn_19 : decode cX11_goesOn 19 = .ok (.ifCond .ne 22, 3) := by decide +kernel
theorem dX11_goesOn_22 : decode cX11_goesOn 22 = .ok (.iload_n 3, 1) := by decide +kernel
theorem dX11_goesOn_23 : decode cX11_goesOn 23 = .ok (.iload_n 2, 1) := by decide +kernel
theorem dX11_goesOn_24 : decode cX11_goesOn 24 = .ok (.if_icmp .eq 13, 3) := by decide +kernel
theorem dX11_goesOn_27 : decode cX11_goesOn 27 = .ok (.aload_n 0, 1) := by decide +kernel
theorem dX11_goesOn_28 : decode cX11_goesOn 28 = .ok (.iload 4, 2) := by decide +kernel
theorem dX11_goesOn_30 : decode cX11_goesOn 30 = .ok (.iconst 1, 1) := by decide +kernel
theorem dX11_goesOn_31 : decode cX11_goesOn 31 = .ok (.invokevirtual 155, 3) := by decide +kernel
theorem dX11_goesOn_34 : decode cX11_goesOn 34 = .ok (.ifCond .ne 7, 3) := by decide +kernel
theorem dX11_goesOn_37 : decode cX11_goesOn 37 = .ok (.iconst 1, 1) := by decide +kernel
theorem dX11_goesOn_38 : decode cX11_goesOn 38 = .ok (.goto 4, 3) := by decide +kernel
theorem dX11_goesOn_41 : decode cX11_goesOn 41 = .ok (.iconst 0, 1) := by decide +kernel
theorem dX11_goesOn_42 : decode cX11_goesOn 42 = .ok (.ireturn, 1) := by decide +kernel
theorem dX11_backTo_0 : decode cX11_backTo 0 = .ok (.iload_n 1, 1) := by decide +kernel
theorem dX11_backTo_1 : decode cX11_backTo 1 = .ok (.iconst 2, 1) := by decide +kernel
theorem dX11_backTo_2 : decode cX11_backTo 2 = .ok (.if_icmp .eq 8, 3) := by decide +kernel
theorem dX11_backTo_5 : decode cX11_backTo 5 = .ok (.iload_n 1, 1) := by decide +kernel
theorem dX11_backTo_6 : decode cX11_backTo 6 = .ok (.iconst 5, 1) := by decide +kernel
theorem dX11_backTo_7 : decode cX11_backTo 7 = .ok (.if_icmp .ne 8, 3) := by decide +kernel
theorem dX11_backTo_10 : decode cX11_backTo 10 = .ok (.iload 4, 2) := by decide +kernel
theorem dX11_backTo_12 : decode cX11_backTo 12 = .ok (.goto 12, 3) := by decide +kernel
theorem dX11_backTo_15 : decode cX11_backTo 15 = .ok (.iload_n 2, 1) := by decide +kernel
theorem dX11_backTo_16 : decode cX11_backTo 16 = .ok (.iload_n 3, 1) := by decide +kernel
theorem dX11_backTo_17 : decode cX11_backTo 17 = .ok (.iconst 2, 1) := by decide +kernel
theorem dX11_backTo_18 : decode cX11_backTo 18 = .ok (.iadd, 1) := by decide +kernel
theorem dX11_backTo_19 : decode cX11_backTo 19 = .ok (.iconst 4, 1) := by decide +kernel
theorem dX11_backTo_20 : decode cX11_backTo 20 = .ok (.irem, 1) := by decide +kernel
theorem dX11_backTo_21 : decode cX11_backTo 21 = .ok (.invokestatic 171, 3) := by decide +kernel
theorem dX11_backTo_24 : decode cX11_backTo 24 = .ok (.ireturn, 1) := by decide +kernel
theorem dX11_goesBack_0 : decode cX11_goesBack 0 = .ok (.aload_n 0, 1) := by decide +kernel
theorem dX11_goesBack_1 : decode cX11_goesBack 1 = .ok (.iload_n 1, 1) := by decide +kernel
theorem dX11_goesBack_2 : decode cX11_goesBack 2 = .ok (.iload_n 2, 1) := by decide +kernel
theorem dX11_goesBack_3 : decode cX11_goesBack 3 = .ok (.iload_n 3, 1) := by decide +kernel
theorem dX11_goesBack_4 : decode cX11_goesBack 4 = .ok (.iload 4, 2) := by decide +kernel
theorem dX11_goesBack_6 : decode cX11_goesBack 6 = .ok (.invokevirtual 174, 3) := by decide +kernel
theorem dX11_goesBack_9 : decode cX11_goesBack 9 = .ok (.istore 5, 2) := by decide +kernel
theorem dX11_goesBack_11 : decode cX11_goesBack 11 = .ok (.iload 5, 2) := by decide +kernel
theorem dX11_goesBack_13 : decode cX11_goesBack 13 = .ok (.ifCond .lt 45, 3) := by decide +kernel
theorem dX11_goesBack_16 : decode cX11_goesBack 16 = .ok (.aload_n 0, 1) := by decide +kernel
theorem dX11_goesBack_17 : decode cX11_goesBack 17 = .ok (.iload 5, 2) := by decide +kernel
theorem dX11_goesBack_19 : decode cX11_goesBack 19 = .ok (.iconst 0, 1) := by decide +kernel
theorem dX11_goesBack_20 : decode cX11_goesBack 20 = .ok (.invokevirtual 155, 3) := by decide +kernel
theorem dX11_goesBack_23 : decode cX11_goesBack 23 = .ok (.ifCond .ne 35, 3) := by decide +kernel
theorem dX11_goesBack_26 : decode cX11_goesBack 26 = .ok (.aload_n 0, 1) := by decide +kernel
theorem dX11_goesBack_27 : decode cX11_goesBack 27 = .ok (.iload 5, 2) := by decide +kernel
theorem dX11_goesBack_29 : decode cX11_goesBack 29 = .ok (.iconst 1, 1) := by decide +kernel
theorem dX11_goesBack_30 : decode cX11_goesBack 30 = .ok (.invokevirtual 155, 3) := by decide +kernel
theorem dX11_goesBack_33 : decode cX11_goesBack 33 = .ok (.ifCond .ne 25, 3) := by decide +kernel
theorem dX11_goesBack_36 : decode cX11_goesBack 36 = .ok (.aload_n 0, 1) := by decide +kernel
theorem dX11_goesBack_37 : decode cX11_goesBack 37 = .ok (.iload_n 2, 1) := by decide +kernel
theorem dX11_goesBack_38 : decode cX11_goesBack 38 = .ok (.iconst 3, 1) := by decide +kernel
theorem dX11_goesBack_39 : decode cX11_goesBack 39 = .ok (.invokevirtual 155, 3) := by decide +kernel
theorem dX11_goesBack_42 : decode cX11_goesBack 42 = .ok (.ifCond .ne 16, 3) := by decide +kernel
theorem dX11_goesBack_45 : decode cX11_goesBack 45 = .ok (.aload_n 0, 1) := by decide +kernel
theorem dX11_goesBack_46 : decode cX11_goesBack 46 = .ok (.iload_n 2, 1) := by decide +kernel
theorem dX11_goesBack_47 : decode cX11_goesBack 47 = .ok (.iconst 2, 1) := by decide +kernel
theorem dX11_goesBack_48 : decode cX11_goesBack 48 = .ok (.invokevirtual 155, 3) := by decide +kernel
theorem dX11_goesBack_51 : decode cX11_goesBack 51 = .ok (.ifCond .ne 7, 3) := by decide +kernel
theorem dX11_goesBack_54 : decode cX11_goesBack 54 = .ok (.iconst 1, 1) := by decide +kernel
theorem dX11_goesBack_55 : decode cX11_goesBack 55 = .ok (.goto 4, 3) := by decide +kernel
theorem dX11_goesBack_58 : decode cX11_goesBack 58 = .ok (.iconst 0, 1) := by decide +kernel
theorem dX11_goesBack_59 : decode cX11_goesBack 59 = .ok (.ireturn, 1) := by decide +kernel
theorem dX11_mayOn_0 : decode cX11_mayOn 0 = .ok (.iload 4, 2) := by decide +kernel
theorem dX11_mayOn_2 : decode cX11_mayOn 2 = .ok (.iconst 2, 1) := by decide +kernel
theorem dX11_mayOn_3 : decode cX11_mayOn 3 = .ok (.iadd, 1) := by decide +kernel
theorem dX11_mayOn_4 : decode cX11_mayOn 4 = .ok (.iconst 4, 1) := by decide +kernel
theorem dX11_mayOn_5 : decode cX11_mayOn 5 = .ok (.irem, 1) := by decide +kernel
theorem dX11_mayOn_6 : decode cX11_mayOn 6 = .ok (.istore 6, 2) := by decide +kernel
theorem dX11_mayOn_8 : decode cX11_mayOn 8 = .ok (.iload_n 1, 1) := by decide +kernel
theorem dX11_mayOn_9 : decode cX11_mayOn 9 = .ok (.iconst 3, 1) := by decide +kernel
theorem dX11_mayOn_10 : decode cX11_mayOn 10 = .ok (.if_icmp .eq 9, 3) := by decide +kernel
theorem dX11_mayOn_13 : decode cX11_mayOn 13 = .ok (.iload_n 1, 1) := by decide +kernel
theorem dX11_mayOn_14 : decode cX11_mayOn 14 = .ok (.bipush 6, 2) := by decide +kernel
theorem dX11_mayOn_16 : decode cX11_mayOn 16 = .ok (.if_icmp .ne 17, 3) := by decide +kernel
theorem dX11_mayOn_19 : decode cX11_mayOn 19 = .ok (.iload 5, 2) := by decide +kernel
theorem dX11_mayOn_21 : decode cX11_mayOn 21 = .ok (.iload_n 2, 1) := by decide +kernel
theorem dX11_mayOn_22 : decode cX11_mayOn 22 = .ok (.iadd, 1) := by decide +kernel
theorem dX11_mayOn_23 : decode cX11_mayOn 23 = .ok (.iconst 2, 1) := by decide +kernel
theorem dX11_mayOn_24 : decode cX11_mayOn 24 = .ok (.irem, 1) := by decide +kernel
theorem dX11_mayOn_25 : decode cX11_mayOn 25 = .ok (.iconst 1, 1) := by decide +kernel
theorem dX11_mayOn_26 : decode cX11_mayOn 26 = .ok (.if_icmp .ne 7, 3) := by decide +kernel
theorem dX11_mayOn_29 : decode cX11_mayOn 29 = .ok (.iconst 1, 1) := by decide +kernel
theorem dX11_mayOn_30 : decode cX11_mayOn 30 = .ok (.goto 4, 3) := by decide +kernel
theorem dX11_mayOn_33 : decode cX11_mayOn 33 = .ok (.iconst 0, 1) := by decide +kernel
theorem dX11_mayOn_34 : decode cX11_mayOn 34 = .ok (.istore 7, 2) := by decide +kernel
theorem dX11_mayOn_36 : decode cX11_mayOn 36 = .ok (.iconst 0, 1) := by decide +kernel
theorem dX11_mayOn_37 : decode cX11_mayOn 37 = .ok (.istore 8, 2) := by decide +kernel
theorem dX11_mayOn_39 : decode cX11_mayOn 39 = .ok (.iconst 0, 1) := by decide +kernel
theorem dX11_mayOn_40 : decode cX11_mayOn 40 = .ok (.istore 9, 2) := by decide +kernel
theorem dX11_mayOn_42 : decode cX11_mayOn 42 = .ok (.iload 9, 2) := by decide +kernel
theorem dX11_mayOn_44 : decode cX11_mayOn 44 = .ok (.iconst 4, 1) := by decide +kernel
theorem dX11_mayOn_45 : decode cX11_mayOn 45 = .ok (.if_icmp .ge 85, 3) := by decide +kernel
theorem dX11_mayOn_48 : decode cX11_mayOn 48 = .ok (.iload_n 1, 1) := by decide +kernel
theorem dX11_mayOn_49 : decode cX11_mayOn 49 = .ok (.iconst 1, 1) := by decide +kernel
theorem dX11_mayOn_50 : decode cX11_mayOn 50 = .ok (.if_icmp .eq 41, 3) := by decide +kernel
theorem dX11_mayOn_53 : decode cX11_mayOn 53 = .ok (.iload_n 1, 1) := by decide +kernel
theorem dX11_mayOn_54 : decode cX11_mayOn 54 = .ok (.iconst 4, 1) := by decide +kernel
theorem dX11_mayOn_55 : decode cX11_mayOn 55 = .ok (.if_icmp .ne 14, 3) := by decide +kernel
theorem dX11_mayOn_58 : decode cX11_mayOn 58 = .ok (.iload 9, 2) := by decide +kernel
theorem dX11_mayOn_60 : decode cX11_mayOn 60 = .ok (.iload_n 2, 1) := by decide +kernel
theorem dX11_mayOn_61 : decode cX11_mayOn 61 = .ok (.iconst 4, 1) := by decide +kernel
theorem dX11_mayOn_62 : decode cX11_mayOn 62 = .ok (.irem, 1) := by decide +kernel
theorem dX11_mayOn_63 : decode cX11_mayOn 63 = .ok (.if_icmp .eq 32, 3) := by decide +kernel
theorem dX11_mayOn_66 : decode cX11_mayOn 66 = .ok (.goto 25, 3) := by decide +kernel
theorem dX11_mayOn_69 : decode cX11_mayOn 69 = .ok (.iload 7, 2) := by decide +kernel
theorem dX11_mayOn_71 : decode cX11_mayOn 71 = .ok (.ifCond .eq 13, 3) := by decide +kernel
theorem dX11_mayOn_74 : decode cX11_mayOn 74 = .ok (.iload 9, 2) := by decide +kernel
theorem dX11_mayOn_76 : decode cX11_mayOn 76 = .ok (.iload 4, 2) := by decide +kernel
theorem dX11_mayOn_78 : decode cX11_mayOn 78 = .ok (.if_icmp .ne 17, 3) := by decide +kernel
theorem dX11_mayOn_81 : decode cX11_mayOn 81 = .ok (.goto 10, 3) := by decide +kernel
theorem dX11_mayOn_84 : decode cX11_mayOn 84 = .ok (.iload 9, 2) := by decide +kernel
theorem dX11_mayOn_86 : decode cX11_mayOn 86 = .ok (.iload 6, 2) := by decide +kernel
theorem dX11_mayOn_88 : decode cX11_mayOn 88 = .ok (.if_icmp .eq 7, 3) := by decide +kernel
theorem dX11_mayOn_91 : decode cX11_mayOn 91 = .ok (.iconst 1, 1) := by decide +kernel
theorem dX11_mayOn_92 : decode cX11_mayOn 92 = .ok (.goto 4, 3) := by decide +kernel
theorem dX11_mayOn_95 : decode cX11_mayOn 95 = .ok (.iconst 0, 1) := by decide +kernel
theorem dX11_mayOn_96 : decode cX11_mayOn 96 = .ok (.istore 10, 2) := by decide +kernel
theorem dX11_mayOn_98 : decode cX11_mayOn 98 = .ok (.iload 10, 2) := by decide +kernel
theorem dX11_mayOn_100 : decode cX11_mayOn 100 = .ok (.ifCond .eq 24, 3) := by decide +kernel
theorem dX11_mayOn_103 : decode cX11_mayOn 103 = .ok (.aload_n 0, 1) := by decide +kernel
theorem dX11_mayOn_104 : decode cX11_mayOn 104 = .ok (.iload_n 3, 1) := by decide +kernel
theorem dX11_mayOn_105 : decode cX11_mayOn 105 = .ok (.iload 4, 2) := by decide +kernel
theorem dX11_mayOn_107 : decode cX11_mayOn 107 = .ok (.iload 9, 2) := by decide +kernel
theorem dX11_mayOn_109 : decode cX11_mayOn 109 = .ok (.invokevirtual 178, 3) := by decide +kernel
theorem dX11_mayOn_112 : decode cX11_mayOn 112 = .ok (.ifCond .eq 12, 3) := by decide +kernel
theorem dX11_mayOn_115 : decode cX11_mayOn 115 = .ok (.iload 8, 2) := by decide +kernel
theorem dX11_mayOn_117 : decode cX11_mayOn 117 = .ok (.iconst 1, 1) := by decide +kernel
theorem dX11_mayOn_118 : decode cX11_mayOn 118 = .ok (.iload 9, 2) := by decide +kernel
theorem dX11_mayOn_120 : decode cX11_mayOn 120 = .ok (.ishl, 1) := by decide +kernel
theorem dX11_mayOn_121 : decode cX11_mayOn 121 = .ok (.ior, 1) := by decide +kernel
theorem dX11_mayOn_122 : decode cX11_mayOn 122 = .ok (.istore 8, 2) := by decide +kernel
theorem dX11_mayOn_124 : decode cX11_mayOn 124 = .ok (.iinc 9 1, 3) := by decide +kernel
theorem dX11_mayOn_127 : decode cX11_mayOn 127 = .ok (.goto (-85), 3) := by decide +kernel
theorem dX11_mayOn_130 : decode cX11_mayOn 130 = .ok (.iload_n 1, 1) := by decide +kernel
theorem dX11_mayOn_131 : decode cX11_mayOn 131 = .ok (.iconst 5, 1) := by decide +kernel
theorem dX11_mayOn_132 : decode cX11_mayOn 132 = .ok (.if_icmp .ne 20, 3) := by decide +kernel
theorem dX11_mayOn_135 : decode cX11_mayOn 135 = .ok (.iload 8, 2) := by decide +kernel
theorem dX11_mayOn_137 : decode cX11_mayOn 137 = .ok (.iload 4, 2) := by decide +kernel
theorem dX11_mayOn_139 : decode cX11_mayOn 139 = .ok (.ishr, 1) := by decide +kernel
theorem dX11_mayOn_140 : decode cX11_mayOn 140 = .ok (.iconst 1, 1) := by decide +kernel
theorem dX11_mayOn_141 : decode cX11_mayOn 141 = .ok (.iand, 1) := by decide +kernel
theorem dX11_mayOn_142 : decode cX11_mayOn 142 = .ok (.iconst 1, 1) := by decide +kernel
theorem dX11_mayOn_143 : decode cX11_mayOn 143 = .ok (.if_icmp .ne 9, 3) := by decide +kernel
theorem dX11_mayOn_146 : decode cX11_mayOn 146 = .ok (.iconst 1, 1) := by decide +kernel
theorem dX11_mayOn_147 : decode cX11_mayOn 147 = .ok (.iload 4, 2) := by decide +kernel
theorem dX11_mayOn_149 : decode cX11_mayOn 149 = .ok (.ishl, 1) := by decide +kernel
theorem dX11_mayOn_150 : decode cX11_mayOn 150 = .ok (.istore 8, 2) := by decide +kernel
theorem dX11_mayOn_152 : decode cX11_mayOn 152 = .ok (.iload 8, 2) := by decide +kernel
theorem dX11_mayOn_154 : decode cX11_mayOn 154 = .ok (.ireturn, 1) := by decide +kernel
theorem dX11_mayBy_0 : decode cX11_mayBy 0 = .ok (.iload 6, 2) := by decide +kernel
theorem dX11_mayBy_2 : decode cX11_mayBy 2 = .ok (.aload_n 0, 1) := by decide +kernel
theorem dX11_mayBy_3 : decode cX11_mayBy 3 = .ok (.invokevirtual 145, 3) := by decide +kernel
theorem dX11_mayBy_6 : decode cX11_mayBy 6 = .ok (.if_icmp .ge 43, 3) := by decide +kernel
theorem dX11_mayBy_9 : decode cX11_mayBy 9 = .ok (.aload_n 0, 1) := by decide +kernel
theorem dX11_mayBy_10 : decode cX11_mayBy 10 = .ok (.iload_n 1, 1) := by decide +kernel
theorem dX11_mayBy_11 : decode cX11_mayBy 11 = .ok (.iload_n 2, 1) := by decide +kernel
theorem dX11_mayBy_12 : decode cX11_mayBy 12 = .ok (.iload_n 3, 1) := by decide +kernel
theorem dX11_mayBy_13 : decode cX11_mayBy 13 = .ok (.iload 4, 2) := by decide +kernel
theorem dX11_mayBy_15 : decode cX11_mayBy 15 = .ok (.iload 7, 2) := by decide +kernel
theorem dX11_mayBy_17 : decode cX11_mayBy 17 = .ok (.invokevirtual 182, 3) := by decide +kernel
theorem dX11_mayBy_20 : decode cX11_mayBy 20 = .ok (.istore 8, 2) := by decide +kernel
theorem dX11_mayBy_22 : decode cX11_mayBy 22 = .ok (.iload_n 1, 1) := by decide +kernel
theorem dX11_mayBy_23 : decode cX11_mayBy 23 = .ok (.bipush 6, 2) := by decide +kernel
theorem dX11_mayBy_25 : decode cX11_mayBy 25 = .ok (.if_icmp .ne 45, 3) := by decide +kernel
theorem dX11_mayBy_28 : decode cX11_mayBy 28 = .ok (.iload_n 2, 1) := by decide +kernel
theorem dX11_mayBy_29 : decode cX11_mayBy 29 = .ok (.ifCond .le 41, 3) := by decide +kernel
theorem dX11_mayBy_32 : decode cX11_mayBy 32 = .ok (.iload 7, 2) := by decide +kernel
theorem dX11_mayBy_34 : decode cX11_mayBy 34 = .ok (.iload_n 2, 1) := by decide +kernel
theorem dX11_mayBy_35 : decode cX11_mayBy 35 = .ok (.irem, 1) := by decide +kernel
theorem dX11_mayBy_36 : decode cX11_mayBy 36 = .ok (.ifCond .ne 34, 3) := by decide +kernel
theorem dX11_mayBy_39 : decode cX11_mayBy 39 = .ok (.iload 8, 2) := by decide +kernel
theorem dX11_mayBy_41 : decode cX11_mayBy 41 = .ok (.bipush 32, 2) := by decide +kernel
theorem dX11_mayBy_43 : decode cX11_mayBy 43 = .ok (.ior, 1) := by decide +kernel
theorem dX11_mayBy_44 : decode cX11_mayBy 44 = .ok (.istore 8, 2) := by decide +kernel
theorem dX11_mayBy_46 : decode cX11_mayBy 46 = .ok (.goto 24, 3) := by decide +kernel
theorem dX11_mayBy_49 : decode cX11_mayBy 49 = .ok (.aload_n 0, 1) := by decide +kernel
theorem dX11_mayBy_50 : decode cX11_mayBy 50 = .ok (.iload_n 1, 1) := by decide +kernel
theorem dX11_mayBy_51 : decode cX11_mayBy 51 = .ok (.iload_n 3, 1) := by decide +kernel
theorem dX11_mayBy_52 : decode cX11_mayBy 52 = .ok (.iload 4, 2) := by decide +kernel
theorem dX11_mayBy_54 : decode cX11_mayBy 54 = .ok (.iload 5, 2) := by decide +kernel
theorem dX11_mayBy_56 : decode cX11_mayBy 56 = .ok (.invokevirtual 186, 3) := by decide +kernel
theorem dX11_mayBy_59 : decode cX11_mayBy 59 = .ok (.ifCond .eq 8, 3) := by decide +kernel
theorem dX11_mayBy_62 : decode cX11_mayBy 62 = .ok (.bipush 16, 2) := by decide +kernel
theorem dX11_mayBy_64 : decode cX11_mayBy 64 = .ok (.goto 4, 3) := by decide +kernel
theorem dX11_mayBy_67 : decode cX11_mayBy 67 = .ok (.iconst 0, 1) := by decide +kernel
theorem dX11_mayBy_68 : decode cX11_mayBy 68 = .ok (.istore 8, 2) := by decide +kernel
theorem dX11_mayBy_70 : decode cX11_mayBy 70 = .ok (.iload 8, 2) := by decide +kernel
theorem dX11_mayBy_72 : decode cX11_mayBy 72 = .ok (.ifCond .ne 8, 3) := by decide +kernel
theorem dX11_mayBy_75 : decode cX11_mayBy 75 = .ok (.bipush 32, 2) := by decide +kernel
theorem dX11_mayBy_77 : decode cX11_mayBy 77 = .ok (.goto 5, 3) := by decide +kernel
theorem dX11_mayBy_80 : decode cX11_mayBy 80 = .ok (.iload 8, 2) := by decide +kernel
theorem dX11_mayBy_82 : decode cX11_mayBy 82 = .ok (.ireturn, 1) := by decide +kernel
theorem dX11_mayNow_0 : decode cX11_mayNow 0 = .ok (.aload_n 0, 1) := by decide +kernel
theorem dX11_mayNow_1 : decode cX11_mayNow 1 = .ok (.aload_n 0, 1) := by decide +kernel
theorem dX11_mayNow_2 : decode cX11_mayNow 2 = .ok (.iload_n 1, 1) := by decide +kernel
theorem dX11_mayNow_3 : decode cX11_mayNow 3 = .ok (.iconst 0, 1) := by decide +kernel
theorem dX11_mayNow_4 : decode cX11_mayNow 4 = .ok (.invokevirtual 162, 3) := by decide +kernel
theorem dX11_mayNow_7 : decode cX11_mayNow 7 = .ok (.aload_n 0, 1) := by decide +kernel
theorem dX11_mayNow_8 : decode cX11_mayNow 8 = .ok (.iload_n 1, 1) := by decide +kernel
theorem dX11_mayNow_9 : decode cX11_mayNow 9 = .ok (.iconst 1, 1) := by decide +kernel
theorem dX11_mayNow_10 : decode cX11_mayNow 10 = .ok (.invokevirtual 162, 3) := by decide +kernel
theorem dX11_mayNow_13 : decode cX11_mayNow 13 = .ok (.aload_n 0, 1) := by decide +kernel
theorem dX11_mayNow_14 : decode cX11_mayNow 14 = .ok (.iload_n 1, 1) := by decide +kernel
theorem dX11_mayNow_15 : decode cX11_mayNow 15 = .ok (.iconst 2, 1) := by decide +kernel
theorem dX11_mayNow_16 : decode cX11_mayNow 16 = .ok (.invokevirtual 162, 3) := by decide +kernel
theorem dX11_mayNow_19 : decode cX11_mayNow 19 = .ok (.aload_n 0, 1) := by decide +kernel
theorem dX11_mayNow_20 : decode cX11_mayNow 20 = .ok (.iload_n 1, 1) := by decide +kernel
theorem dX11_mayNow_21 : decode cX11_mayNow 21 = .ok (.iconst 3, 1) := by decide +kernel
theorem dX11_mayNow_22 : decode cX11_mayNow 22 = .ok (.invokevirtual 162, 3) := by decide +kernel
theorem dX11_mayNow_25 : decode cX11_mayNow 25 = .ok (.aload_n 0, 1) := by decide +kernel
theorem dX11_mayNow_26 : decode cX11_mayNow 26 = .ok (.iload_n 1, 1) := by decide +kernel
theorem dX11_mayNow_27 : decode cX11_mayNow 27 = .ok (.iconst 5, 1) := by decide +kernel
theorem dX11_mayNow_28 : decode cX11_mayNow 28 = .ok (.invokevirtual 162, 3) := by decide +kernel
theorem dX11_mayNow_31 : decode cX11_mayNow 31 = .ok (.aload_n 0, 1) := by decide +kernel
theorem dX11_mayNow_32 : decode cX11_mayNow 32 = .ok (.iload_n 1, 1) := by decide +kernel
theorem dX11_mayNow_33 : decode cX11_mayNow 33 = .ok (.invokevirtual 168, 3) := by decide +kernel
theorem dX11_mayNow_36 : decode cX11_mayNow 36 = .ok (.aload_n 0, 1) := by decide +kernel
theorem dX11_mayNow_37 : decode cX11_mayNow 37 = .ok (.iload_n 1, 1) := by decide +kernel
theorem dX11_mayNow_38 : decode cX11_mayNow 38 = .ok (.bipush 6, 2) := by decide +kernel
theorem dX11_mayNow_40 : decode cX11_mayNow 40 = .ok (.invokevirtual 162, 3) := by decide +kernel
theorem dX11_mayNow_43 : decode cX11_mayNow 43 = .ok (.invokevirtual 190, 3) := by decide +kernel
theorem dX11_mayNow_46 : decode cX11_mayNow 46 = .ok (.ireturn, 1) := by decide +kernel
theorem dX11_may_0 : decode cX11_may 0 = .ok (.aload_n 0, 1) := by decide +kernel
theorem dX11_may_1 : decode cX11_may 1 = .ok (.iload_n 1, 1) := by decide +kernel
theorem dX11_may_2 : decode cX11_may 2 = .ok (.invokevirtual 165, 3) := by decide +kernel
theorem dX11_may_5 : decode cX11_may 5 = .ok (.ifCond .eq 11, 3) := by decide +kernel
theorem dX11_may_8 : decode cX11_may 8 = .ok (.aload_n 0, 1) := by decide +kernel
theorem dX11_may_9 : decode cX11_may 9 = .ok (.iload_n 1, 1) := by decide +kernel
theorem dX11_may_10 : decode cX11_may 10 = .ok (.invokevirtual 194, 3) := by decide +kernel
theorem dX11_may_13 : decode cX11_may 13 = .ok (.goto 4, 3) := by decide +kernel
theorem dX11_may_16 : decode cX11_may 16 = .ok (.iconst (-1), 1) := by decide +kernel
theorem dX11_may_17 : decode cX11_may 17 = .ok (.ireturn, 1) := by decide +kernel
theorem dX11_steps_0 : decode cX11_steps 0 = .ok (.aload_n 0, 1) := by decide +kernel
theorem dX11_steps_1 : decode cX11_steps 1 = .ok (.iload_n 1, 1) := by decide +kernel
theorem dX11_steps_2 : decode cX11_steps 2 = .ok (.iconst 2, 1) := by decide +kernel
theorem dX11_steps_3 : decode cX11_steps 3 = .ok (.invokevirtual 162, 3) := by decide +kernel
theorem dX11_steps_6 : decode cX11_steps 6 = .ok (.istore_n 3, 1) := by decide +kernel
theorem dX11_steps_7 : decode cX11_steps 7 = .ok (.iload_n 2, 1) := by decide +kernel
theorem dX11_steps_8 : decode cX11_steps 8 = .ok (.iconst 4, 1) := by decide +kernel
theorem dX11_steps_9 : decode cX11_steps 9 = .ok (.if_icmp .ge 31, 3) := by decide +kernel
theorem dX11_steps_12 : decode cX11_steps 12 = .ok (.aload_n 0, 1) := by decide +kernel
theorem dX11_steps_13 : decode cX11_steps 13 = .ok (.iload_n 1, 1) := by decide +kernel
theorem dX11_steps_14 : decode cX11_steps 14 = .ok (.iconst 3, 1) := by decide +kernel
theorem dX11_steps_15 : decode cX11_steps 15 = .ok (.iload_n 2, 1) := by decide +kernel
theorem dX11_steps_16 : decode cX11_steps 16 = .ok (.invokevirtual 158, 3) := by decide +kernel
theorem dX11_steps_19 : decode cX11_steps 19 = .ok (.aload_n 0, 1) := by decide +kernel
theorem dX11_steps_20 : decode cX11_steps 20 = .ok (.iload_n 1, 1) := by decide +kernel
theorem dX11_steps_21 : decode cX11_steps 21 = .ok (.iconst 2, 1) := by decide +kernel
theorem dX11_steps_22 : decode cX11_steps 22 = .ok (.iload_n 3, 1) := by decide +kernel
theorem dX11_steps_23 : decode cX11_steps 23 = .ok (.iload_n 2, 1) := by decide +kernel
theorem dX11_steps_24 : decode cX11_steps 24 = .ok (.invokestatic 171, 3) := by decide +kernel
theorem dX11_steps_27 : decode cX11_steps 27 = .ok (.invokevirtual 158, 3) := by decide +kernel
theorem dX11_steps_30 : decode cX11_steps 30 = .ok (.aload_n 0, 1) := by decide +kernel
theorem dX11_steps_31 : decode cX11_steps 31 = .ok (.iload_n 1, 1) := by decide +kernel
theorem dX11_steps_32 : decode cX11_steps 32 = .ok (.iconst 5, 1) := by decide +kernel
theorem dX11_steps_33 : decode cX11_steps 33 = .ok (.iload_n 3, 1) := by decide +kernel
theorem dX11_steps_34 : decode cX11_steps 34 = .ok (.invokevirtual 158, 3) := by decide +kernel
theorem dX11_steps_37 : decode cX11_steps 37 = .ok (.goto 44, 3) := by decide +kernel
theorem dX11_steps_40 : decode cX11_steps 40 = .ok (.iload_n 2, 1) := by decide +kernel
theorem dX11_steps_41 : decode cX11_steps 41 = .ok (.iconst 4, 1) := by decide +kernel
theorem dX11_steps_42 : decode cX11_steps 42 = .ok (.if_icmp .ne 39, 3) := by decide +kernel
theorem dX11_steps_45 : decode cX11_steps 45 = .ok (.aload_n 0, 1) := by decide +kernel
theorem dX11_steps_46 : decode cX11_steps 46 = .ok (.iload_n 1, 1) := by decide +kernel
theorem dX11_steps_47 : decode cX11_steps 47 = .ok (.iconst 2, 1) := by decide +kernel
theorem dX11_steps_48 : decode cX11_steps 48 = .ok (.aload_n 0, 1) := by decide +kernel
theorem dX11_steps_49 : decode cX11_steps 49 = .ok (.aload_n 0, 1) := by decide +kernel
theorem dX11_steps_50 : decode cX11_steps 50 = .ok (.iload_n 1, 1) := by decide +kernel
theorem dX11_steps_51 : decode cX11_steps 51 = .ok (.iconst 0, 1) := by decide +kernel
theorem dX11_steps_52 : decode cX11_steps 52 = .ok (.invokevirtual 162, 3) := by decide +kernel
theorem dX11_steps_55 : decode cX11_steps 55 = .ok (.iload_n 3, 1) := by decide +kernel
theorem dX11_steps_56 : decode cX11_steps 56 = .ok (.aload_n 0, 1) := by decide +kernel
theorem dX11_steps_57 : decode cX11_steps 57 = .ok (.iload_n 1, 1) := by decide +kernel
theorem dX11_steps_58 : decode cX11_steps 58 = .ok (.iconst 3, 1) := by decide +kernel
theorem dX11_steps_59 : decode cX11_steps 59 = .ok (.invokevirtual 162, 3) := by decide +kernel
theorem dX11_steps_62 : decode cX11_steps 62 = .ok (.aload_n 0, 1) := by decide +kernel
theorem dX11_steps_63 : decode cX11_steps 63 = .ok (.iload_n 1, 1) := by decide +kernel
theorem dX11_steps_64 : decode cX11_steps 64 = .ok (.iconst 5, 1) := by decide +kernel
theorem dX11_steps_65 : decode cX11_steps 65 = .ok (.invokevirtual 162, 3) := by decide +kernel
theorem dX11_steps_68 : decode cX11_steps 68 = .ok (.invokevirtual 174, 3) := by decide +kernel
theorem dX11_steps_71 : decode cX11_steps 71 = .ok (.invokevirtual 158, 3) := by decide +kernel
theorem dX11_steps_74 : decode cX11_steps 74 = .ok (.aload_n 0, 1) := by decide +kernel
theorem dX11_steps_75 : decode cX11_steps 75 = .ok (.iload_n 1, 1) := by decide +kernel
theorem dX11_steps_76 : decode cX11_steps 76 = .ok (.iconst 5, 1) := by decide +kernel
theorem dX11_steps_77 : decode cX11_steps 77 = .ok (.iload_n 3, 1) := by decide +kernel
theorem dX11_steps_78 : decode cX11_steps 78 = .ok (.invokevirtual 158, 3) := by decide +kernel
theorem dX11_steps_81 : decode cX11_steps 81 = .ok (.aload_n 0, 1) := by decide +kernel
theorem dX11_steps_82 : decode cX11_steps 82 = .ok (.iload_n 1, 1) := by decide +kernel
theorem dX11_steps_83 : decode cX11_steps 83 = .ok (.iconst 4, 1) := by decide +kernel
theorem dX11_steps_84 : decode cX11_steps 84 = .ok (.aload_n 0, 1) := by decide +kernel
theorem dX11_steps_85 : decode cX11_steps 85 = .ok (.iload_n 1, 1) := by decide +kernel
theorem dX11_steps_86 : decode cX11_steps 86 = .ok (.invokevirtual 168, 3) := by decide +kernel
theorem dX11_steps_89 : decode cX11_steps 89 = .ok (.iconst 1, 1) := by decide +kernel
theorem dX11_steps_90 : decode cX11_steps 90 = .ok (.iadd, 1) := by decide +kernel
theorem dX11_steps_91 : decode cX11_steps 91 = .ok (.aload_n 0, 1) := by decide +kernel
theorem dX11_steps_92 : decode cX11_steps 92 = .ok (.invokevirtual 148, 3) := by decide +kernel
theorem dX11_steps_95 : decode cX11_steps 95 = .ok (.irem, 1) := by decide +kernel
theorem dX11_steps_96 : decode cX11_steps 96 = .ok (.invokevirtual 158, 3) := by decide +kernel
theorem dX11_steps_99 : decode cX11_steps 99 = .ok (.aload_n 0, 1) := by decide +kernel
theorem dX11_steps_100 : decode cX11_steps 100 = .ok (.iload_n 1, 1) := by decide +kernel
theorem dX11_steps_101 : decode cX11_steps 101 = .ok (.bipush 6, 2) := by decide +kernel
theorem dX11_steps_103 : decode cX11_steps 103 = .ok (.aload_n 0, 1) := by decide +kernel
theorem dX11_steps_104 : decode cX11_steps 104 = .ok (.iload_n 1, 1) := by decide +kernel
theorem dX11_steps_105 : decode cX11_steps 105 = .ok (.bipush 6, 2) := by decide +kernel
theorem dX11_steps_107 : decode cX11_steps 107 = .ok (.invokevirtual 162, 3) := by decide +kernel
theorem dX11_steps_110 : decode cX11_steps 110 = .ok (.iconst 1, 1) := by decide +kernel
theorem dX11_steps_111 : decode cX11_steps 111 = .ok (.iadd, 1) := by decide +kernel
theorem dX11_steps_112 : decode cX11_steps 112 = .ok (.invokevirtual 158, 3) := by decide +kernel
theorem dX11_steps_115 : decode cX11_steps 115 = .ok (.return_, 1) := by decide +kernel
theorem dX11_step_0 : decode cX11_step 0 = .ok (.aload_n 0, 1) := by decide +kernel
theorem dX11_step_1 : decode cX11_step 1 = .ok (.iload_n 1, 1) := by decide +kernel
theorem dX11_step_2 : decode cX11_step 2 = .ok (.invokevirtual 165, 3) := by decide +kernel
theorem dX11_step_5 : decode cX11_step 5 = .ok (.ifCond .eq 12, 3) := by decide +kernel
theorem dX11_step_8 : decode cX11_step 8 = .ok (.iload_n 2, 1) := by decide +kernel
theorem dX11_step_9 : decode cX11_step 9 = .ok (.bipush 6, 2) := by decide +kernel
theorem dX11_step_11 : decode cX11_step 11 = .ok (.invokestatic 66, 3) := by decide +kernel
theorem dX11_step_14 : decode cX11_step 14 = .ok (.ifCond .ne 5, 3) := by decide +kernel
theorem dX11_step_17 : decode cX11_step 17 = .ok (.iconst (-1), 1) := by decide +kernel
theorem dX11_step_18 : decode cX11_step 18 = .ok (.ireturn, 1) := by decide +kernel
theorem dX11_step_19 : decode cX11_step 19 = .ok (.aload_n 0, 1) := by decide +kernel
theorem dX11_step_20 : decode cX11_step 20 = .ok (.iload_n 1, 1) := by decide +kernel
theorem dX11_step_21 : decode cX11_step 21 = .ok (.invokevirtual 194, 3) := by decide +kernel
theorem dX11_step_24 : decode cX11_step 24 = .ok (.iload_n 2, 1) := by decide +kernel
theorem dX11_step_25 : decode cX11_step 25 = .ok (.ishr, 1) := by decide +kernel
theorem dX11_step_26 : decode cX11_step 26 = .ok (.iconst 1, 1) := by decide +kernel
theorem dX11_step_27 : decode cX11_step 27 = .ok (.iand, 1) := by decide +kernel
theorem dX11_step_28 : decode cX11_step 28 = .ok (.ifCond .ne 6, 3) := by decide +kernel
theorem dX11_step_31 : decode cX11_step 31 = .ok (.bipush (-3), 2) := by decide +kernel
theorem dX11_step_33 : decode cX11_step 33 = .ok (.ireturn, 1) := by decide +kernel
theorem dX11_step_34 : decode cX11_step 34 = .ok (.aload_n 0, 1) := by decide +kernel
theorem dX11_step_35 : decode cX11_step 35 = .ok (.iload_n 1, 1) := by decide +kernel
theorem dX11_step_36 : decode cX11_step 36 = .ok (.iload_n 2, 1) := by decide +kernel
theorem dX11_step_37 : decode cX11_step 37 = .ok (.invokevirtual 197, 3) := by decide +kernel
theorem dX11_step_40 : decode cX11_step 40 = .ok (.aload_n 0, 1) := by decide +kernel
theorem dX11_step_41 : decode cX11_step 41 = .ok (.iload_n 1, 1) := by decide +kernel
theorem dX11_step_42 : decode cX11_step 42 = .ok (.iconst 2, 1) := by decide +kernel
theorem dX11_step_43 : decode cX11_step 43 = .ok (.invokevirtual 162, 3) := by decide +kernel
theorem dX11_step_46 : decode cX11_step 46 = .ok (.ireturn, 1) := by decide +kernel
theorem dX11_stateOf_0 : decode cX11_stateOf 0 = .ok (.iload_n 0, 1) := by decide +kernel
theorem dX11_stateOf_1 : decode cX11_stateOf 1 = .ok (.iconst 4, 1) := by decide +kernel
theorem dX11_stateOf_2 : decode cX11_stateOf 2 = .ok (.imul, 1) := by decide +kernel
theorem dX11_stateOf_3 : decode cX11_stateOf 3 = .ok (.iload_n 1, 1) := by decide +kernel
theorem dX11_stateOf_4 : decode cX11_stateOf 4 = .ok (.iadd, 1) := by decide +kernel
theorem dX11_stateOf_5 : decode cX11_stateOf 5 = .ok (.bipush 36, 2) := by decide +kernel
theorem dX11_stateOf_7 : decode cX11_stateOf 7 = .ok (.imul, 1) := by decide +kernel
theorem dX11_stateOf_8 : decode cX11_stateOf 8 = .ok (.iload_n 2, 1) := by decide +kernel
theorem dX11_stateOf_9 : decode cX11_stateOf 9 = .ok (.iadd, 1) := by decide +kernel
theorem dX11_stateOf_10 : decode cX11_stateOf 10 = .ok (.ireturn, 1) := by decide +kernel
theorem dX11_comesTo_0 : decode cX11_comesTo 0 = .ok (.iload_n 0, 1) := by decide +kernel
theorem dX11_comesTo_1 : decode cX11_comesTo 1 = .ok (.bipush 36, 2) := by decide +kernel
theorem dX11_comesTo_3 : decode cX11_comesTo 3 = .ok (.idiv, 1) := by decide +kernel
theorem dX11_comesTo_4 : decode cX11_comesTo 4 = .ok (.iconst 4, 1) := by decide +kernel
theorem dX11_comesTo_5 : decode cX11_comesTo 5 = .ok (.idiv, 1) := by decide +kernel
theorem dX11_comesTo_6 : decode cX11_comesTo 6 = .ok (.istore 4, 2) := by decide +kernel
theorem dX11_comesTo_8 : decode cX11_comesTo 8 = .ok (.iload_n 0, 1) := by decide +kernel
theorem dX11_comesTo_9 : decode cX11_comesTo 9 = .ok (.bipush 36, 2) := by decide +kernel
theorem dX11_comesTo_11 : decode cX11_comesTo 11 = .ok (.idiv, 1) := by decide +kernel
theorem dX11_comesTo_12 : decode cX11_comesTo 12 = .ok (.iconst 4, 1) := by decide +kernel
theorem dX11_comesTo_13 : decode cX11_comesTo 13 = .ok (.irem, 1) := by decide +kernel
theorem dX11_comesTo_14 : decode cX11_comesTo 14 = .ok (.istore 5, 2) := by decide +kernel
theorem dX11_comesTo_16 : decode cX11_comesTo 16 = .ok (.iload_n 2, 1) := by decide +kernel
theorem dX11_comesTo_17 : decode cX11_comesTo 17 = .ok (.iconst 4, 1) := by decide +kernel
theorem dX11_comesTo_18 : decode cX11_comesTo 18 = .ok (.if_icmp .ge 13, 3) := by decide +kernel
theorem dX11_comesTo_21 : decode cX11_comesTo 21 = .ok (.iload_n 3, 1) := by decide +kernel
theorem dX11_comesTo_22 : decode cX11_comesTo 22 = .ok (.iload_n 2, 1) := by decide +kernel
theorem dX11_comesTo_23 : decode cX11_comesTo 23 = .ok (.iload 4, 2) := by decide +kernel
theorem dX11_comesTo_25 : decode cX11_comesTo 25 = .ok (.invokestatic 201, 3) := by decide +kernel
theorem dX11_comesTo_28 : decode cX11_comesTo 28 = .ok (.goto 20, 3) := by decide +kernel
theorem dX11_comesTo_31 : decode cX11_comesTo 31 = .ok (.iload_n 2, 1) := by decide +kernel
theorem dX11_comesTo_32 : decode cX11_comesTo 32 = .ok (.iconst 4, 1) := by decide +kernel
theorem dX11_comesTo_33 : decode cX11_comesTo 33 = .ok (.if_icmp .ne 14, 3) := by decide +kernel
theorem dX11_comesTo_36 : decode cX11_comesTo 36 = .ok (.iload_n 3, 1) := by decide +kernel
theorem dX11_comesTo_37 : decode cX11_comesTo 37 = .ok (.iload 5, 2) := by decide +kernel
theorem dX11_comesTo_39 : decode cX11_comesTo 39 = .ok (.iload 4, 2) := by decide +kernel
theorem dX11_comesTo_41 : decode cX11_comesTo 41 = .ok (.invokestatic 201, 3) := by decide +kernel
theorem dX11_comesTo_44 : decode cX11_comesTo 44 = .ok (.goto 4, 3) := by decide +kernel
theorem dX11_comesTo_47 : decode cX11_comesTo 47 = .ok (.iload_n 0, 1) := by decide +kernel
theorem dX11_comesTo_48 : decode cX11_comesTo 48 = .ok (.ireturn, 1) := by decide +kernel
theorem dX11_begins_0 : decode cX11_begins 0 = .ok (.aload_n 0, 1) := by decide +kernel
theorem dX11_begins_1 : decode cX11_begins 1 = .ok (.iload_n 1, 1) := by decide +kernel
theorem dX11_begins_2 : decode cX11_begins 2 = .ok (.putfield 205, 3) := by decide +kernel
theorem dX11_begins_5 : decode cX11_begins 5 = .ok (.aload_n 0, 1) := by decide +kernel
theorem dX11_begins_6 : decode cX11_begins 6 = .ok (.iload_n 2, 1) := by decide +kernel
theorem dX11_begins_7 : decode cX11_begins 7 = .ok (.putfield 208, 3) := by decide +kernel
theorem dX11_begins_10 : decode cX11_begins 10 = .ok (.aload_n 0, 1) := by decide +kernel
theorem dX11_begins_11 : decode cX11_begins 11 = .ok (.iload 6, 2) := by decide +kernel
theorem dX11_begins_13 : decode cX11_begins 13 = .ok (.putfield 210, 3) := by decide +kernel
theorem dX11_begins_16 : decode cX11_begins 16 = .ok (.aload_n 0, 1) := by decide +kernel
theorem dX11_begins_17 : decode cX11_begins 17 = .ok (.iload 7, 2) := by decide +kernel
theorem dX11_begins_19 : decode cX11_begins 19 = .ok (.putfield 213, 3) := by decide +kernel
theorem dX11_begins_22 : decode cX11_begins 22 = .ok (.aload_n 0, 1) := by decide +kernel
theorem dX11_begins_23 : decode cX11_begins 23 = .ok (.iconst 0, 1) := by decide +kernel
theorem dX11_begins_24 : decode cX11_begins 24 = .ok (.putfield 216, 3) := by decide +kernel
theorem dX11_begins_27 : decode cX11_begins 27 = .ok (.iconst 0, 1) := by decide +kernel
theorem dX11_begins_28 : decode cX11_begins 28 = .ok (.istore 8, 2) := by decide +kernel
theorem dX11_begins_30 : decode cX11_begins 30 = .ok (.iload 8, 2) := by decide +kernel
theorem dX11_begins_32 : decode cX11_begins 32 = .ok (.sipush 5184, 3) := by decide +kernel
theorem dX11_begins_35 : decode cX11_begins 35 = .ok (.if_icmp .ge 25, 3) := by decide +kernel
theorem dX11_begins_38 : decode cX11_begins 38 = .ok (.aload_n 0, 1) := by decide +kernel
theorem dX11_begins_39 : decode cX11_begins 39 = .ok (.getfield 31, 3) := by decide +kernel
theorem dX11_begins_42 : decode cX11_begins 42 = .ok (.iload 8, 2) := by decide +kernel
theorem dX11_begins_44 : decode cX11_begins 44 = .ok (.iconst 0, 1) := by decide +kernel
theorem dX11_begins_45 : decode cX11_begins 45 = .ok (.iastore, 1) := by decide +kernel
theorem dX11_begins_46 : decode cX11_begins 46 = .ok (.aload_n 0, 1) := by decide +kernel
theorem dX11_begins_47 : decode cX11_begins 47 = .ok (.getfield 37, 3) := by decide +kernel
theorem dX11_begins_50 : decode cX11_begins 50 = .ok (.iload 8, 2) := by decide +kernel
theorem dX11_begins_52 : decode cX11_begins 52 = .ok (.lconst 0, 1) := by decide +kernel
theorem dX11_begins_53 : decode cX11_begins 53 = .ok (.lastore, 1) := by decide +kernel
theorem dX11_begins_54 : decode cX11_begins 54 = .ok (.iinc 8 1, 3) := by decide +kernel
theorem dX11_begins_57 : decode cX11_begins 57 = .ok (.goto (-27), 3) := by decide +kernel
theorem dX11_begins_60 : decode cX11_begins 60 = .ok (.aload_n 0, 1) := by decide +kernel
theorem dX11_begins_61 : decode cX11_begins 61 = .ok (.getfield 31, 3) := by decide +kernel
theorem dX11_begins_64 : decode cX11_begins 64 = .ok (.iload_n 3, 1) := by decide +kernel
theorem dX11_begins_65 : decode cX11_begins 65 = .ok (.iload 4, 2) := by decide +kernel
theorem dX11_begins_67 : decode cX11_begins 67 = .ok (.iload 5, 2) := by decide +kernel
theorem dX11_begins_69 : decode cX11_begins 69 = .ok (.invokestatic 201, 3) := by decide +kernel
theorem dX11_begins_72 : decode cX11_begins 72 = .ok (.bipush 64, 2) := by decide +kernel
theorem dX11_begins_74 : decode cX11_begins 74 = .ok (.iastore, 1) := by decide +kernel
theorem dX11_begins_75 : decode cX11_begins 75 = .ok (.aload_n 0, 1) := by decide +kernel
theorem dX11_begins_76 : decode cX11_begins 76 = .ok (.getfield 37, 3) := by decide +kernel
theorem dX11_begins_79 : decode cX11_begins 79 = .ok (.iload_n 3, 1) := by decide +kernel
theorem dX11_begins_80 : decode cX11_begins 80 = .ok (.iload 4, 2) := by decide +kernel
theorem dX11_begins_82 : decode cX11_begins 82 = .ok (.iload 5, 2) := by decide +kernel
theorem dX11_begins_84 : decode cX11_begins 84 = .ok (.invokestatic 201, 3) := by decide +kernel
theorem dX11_begins_87 : decode cX11_begins 87 = .ok (.lconst 1, 1) := by decide +kernel
theorem dX11_begins_88 : decode cX11_begins 88 = .ok (.lastore, 1) := by decide +kernel
theorem dX11_begins_89 : decode cX11_begins 89 = .ok (.return_, 1) := by decide +kernel
theorem dX11_beginsAs_0 : decode cX11_beginsAs 0 = .ok (.aload_n 0, 1) := by decide +kernel
theorem dX11_beginsAs_1 : decode cX11_beginsAs 1 = .ok (.aload_n 0, 1) := by decide +kernel
theorem dX11_beginsAs_2 : decode cX11_beginsAs 2 = .ok (.iload_n 1, 1) := by decide +kernel
theorem dX11_beginsAs_3 : decode cX11_beginsAs 3 = .ok (.iconst 0, 1) := by decide +kernel
theorem dX11_beginsAs_4 : decode cX11_beginsAs 4 = .ok (.invokevirtual 162, 3) := by decide +kernel
theorem dX11_beginsAs_7 : decode cX11_beginsAs 7 = .ok (.aload_n 0, 1) := by decide +kernel
theorem dX11_beginsAs_8 : decode cX11_beginsAs 8 = .ok (.iload_n 1, 1) := by decide +kernel
theorem dX11_beginsAs_9 : decode cX11_beginsAs 9 = .ok (.iconst 1, 1) := by decide +kernel
theorem dX11_beginsAs_10 : decode cX11_beginsAs 10 = .ok (.invokevirtual 162, 3) := by decide +kernel
theorem dX11_beginsAs_13 : decode cX11_beginsAs 13 = .ok (.aload_n 0, 1) := by decide +kernel
theorem dX11_beginsAs_14 : decode cX11_beginsAs 14 = .ok (.iload_n 1, 1) := by decide +kernel
theorem dX11_beginsAs_15 : decode cX11_beginsAs 15 = .ok (.iconst 2, 1) := by decide +kernel
theorem dX11_beginsAs_16 : decode cX11_beginsAs 16 = .ok (.invokevirtual 162, 3) := by decide +kernel
theorem dX11_beginsAs_19 : decode cX11_beginsAs 19 = .ok (.aload_n 0, 1) := by decide +kernel
theorem dX11_beginsAs_20 : decode cX11_beginsAs 20 = .ok (.iload_n 1, 1) := by decide +kernel
theorem dX11_beginsAs_21 : decode cX11_beginsAs 21 = .ok (.iconst 3, 1) := by decide +kernel
theorem dX11_beginsAs_22 : decode cX11_beginsAs 22 = .ok (.invokevirtual 162, 3) := by decide +kernel
theorem dX11_beginsAs_25 : decode cX11_beginsAs 25 = .ok (.aload_n 0, 1) := by decide +kernel
theorem dX11_beginsAs_26 : decode cX11_beginsAs 26 = .ok (.iload_n 1, 1) := by decide +kernel
theorem dX11_beginsAs_27 : decode cX11_beginsAs 27 = .ok (.iconst 5, 1) := by decide +kernel
theorem dX11_beginsAs_28 : decode cX11_beginsAs 28 = .ok (.invokevirtual 162, 3) := by decide +kernel
theorem dX11_beginsAs_31 : decode cX11_beginsAs 31 = .ok (.iload_n 2, 1) := by decide +kernel
theorem dX11_beginsAs_32 : decode cX11_beginsAs 32 = .ok (.aload_n 0, 1) := by decide +kernel
theorem dX11_beginsAs_33 : decode cX11_beginsAs 33 = .ok (.iload_n 1, 1) := by decide +kernel
theorem dX11_beginsAs_34 : decode cX11_beginsAs 34 = .ok (.bipush 6, 2) := by decide +kernel
theorem dX11_beginsAs_36 : decode cX11_beginsAs 36 = .ok (.invokevirtual 162, 3) := by decide +kernel
theorem dX11_beginsAs_39 : decode cX11_beginsAs 39 = .ok (.invokevirtual 219, 3) := by decide +kernel
theorem dX11_beginsAs_42 : decode cX11_beginsAs 42 = .ok (.return_, 1) := by decide +kernel
theorem dX11_bits_0 : decode cX11_bits 0 = .ok (.iconst 0, 1) := by decide +kernel
theorem dX11_bits_1 : decode cX11_bits 1 = .ok (.istore_n 1, 1) := by decide +kernel
theorem dX11_bits_2 : decode cX11_bits 2 = .ok (.iload_n 0, 1) := by decide +kernel
theorem dX11_bits_3 : decode cX11_bits 3 = .ok (.istore_n 2, 1) := by decide +kernel
theorem dX11_bits_4 : decode cX11_bits 4 = .ok (.iload_n 2, 1) := by decide +kernel
theorem dX11_bits_5 : decode cX11_bits 5 = .ok (.ifCond .le 16, 3) := by decide +kernel
theorem dX11_bits_8 : decode cX11_bits 8 = .ok (.iload_n 1, 1) := by decide +kernel
theorem dX11_bits_9 : decode cX11_bits 9 = .ok (.iload_n 2, 1) := by decide +kernel
theorem dX11_bits_10 : decode cX11_bits 10 = .ok (.iconst 1, 1) := by decide +kernel
theorem dX11_bits_11 : decode cX11_bits 11 = .ok (.iand, 1) := by decide +kernel
theorem dX11_bits_12 : decode cX11_bits 12 = .ok (.iadd, 1) := by decide +kernel
theorem dX11_bits_13 : decode cX11_bits 13 = .ok (.istore_n 1, 1) := by decide +kernel
theorem dX11_bits_14 : decode cX11_bits 14 = .ok (.iload_n 2, 1) := by decide +kernel
theorem dX11_bits_15 : decode cX11_bits 15 = .ok (.iconst 1, 1) := by decide +kernel
theorem dX11_bits_16 : decode cX11_bits 16 = .ok (.ishr, 1) := by decide +kernel
theorem dX11_bits_17 : decode cX11_bits 17 = .ok (.istore_n 2, 1) := by decide +kernel
theorem dX11_bits_18 : decode cX11_bits 18 = .ok (.goto (-14), 3) := by decide +kernel
theorem dX11_bits_21 : decode cX11_bits 21 = .ok (.iload_n 1, 1) := by decide +kernel
theorem dX11_bits_22 : decode cX11_bits 22 = .ok (.ireturn, 1) := by decide +kernel
theorem dX11_goesBeat_0 : decode cX11_goesBeat 0 = .ok (.aload_n 0, 1) := by decide +kernel
theorem dX11_goesBeat_1 : decode cX11_goesBeat 1 = .ok (.getfield 210, 3) := by decide +kernel
theorem dX11_goesBeat_4 : decode cX11_goesBeat 4 = .ok (.aload_n 0, 1) := by decide +kernel
theorem dX11_goesBeat_5 : decode cX11_goesBeat 5 = .ok (.getfield 216, 3) := by decide +kernel
theorem dX11_goesBeat_8 : decode cX11_goesBeat 8 = .ok (.iadd, 1) := by decide +kernel
theorem dX11_goesBeat_9 : decode cX11_goesBeat 9 = .ok (.aload_n 0, 1) := by decide +kernel
theorem dX11_goesBeat_10 : decode cX11_goesBeat 10 = .ok (.invokevirtual 148, 3) := by decide +kernel
theorem dX11_goesBeat_13 : decode cX11_goesBeat 13 = .ok (.irem, 1) := by decide +kernel
theorem dX11_goesBeat_14 : decode cX11_goesBeat 14 = .ok (.istore_n 1, 1) := by decide +kernel
theorem dX11_goesBeat_15 : decode cX11_goesBeat 15 = .ok (.iconst 0, 1) := by decide +kernel
theorem dX11_goesBeat_16 : decode cX11_goesBeat 16 = .ok (.istore_n 2, 1) := by decide +kernel
theorem dX11_goesBeat_17 : decode cX11_goesBeat 17 = .ok (.iload_n 2, 1) := by decide +kernel
theorem dX11_goesBeat_18 : decode cX11_goesBeat 18 = .ok (.sipush 5184, 3) := by decide +kernel
theorem dX11_goesBeat_21 : decode cX11_goesBeat 21 = .ok (.if_icmp .ge 23, 3) := by decide +kernel
theorem dX11_goesBeat_24 : decode cX11_goesBeat 24 = .ok (.aload_n 0, 1) := by decide +kernel
theorem dX11_goesBeat_25 : decode cX11_goesBeat 25 = .ok (.getfield 34, 3) := by decide +kernel
theorem dX11_goesBeat_28 : decode cX11_goesBeat 28 = .ok (.iload_n 2, 1) := by decide +kernel
theorem dX11_goesBeat_29 : decode cX11_goesBeat 29 = .ok (.iconst 0, 1) := by decide +kernel
theorem dX11_goesBeat_30 : decode cX11_goesBeat 30 = .ok (.iastore, 1) := by decide +kernel
theorem dX11_goesBeat_31 : decode cX11_goesBeat 31 = .ok (.aload_n 0, 1) := by decide +kernel
theorem dX11_goesBeat_32 : decode cX11_goesBeat 32 = .ok (.getfield 41, 3) := by decide +kernel
theorem dX11_goesBeat_35 : decode cX11_goesBeat 35 = .ok (.iload_n 2, 1) := by decide +kernel
theorem dX11_goesBeat_36 : decode cX11_goesBeat 36 = .ok (.lconst 0, 1) := by decide +kernel
theorem dX11_goesBeat_37 : decode cX11_goesBeat 37 = .ok (.lastore, 1) := by decide +kernel
theorem dX11_goesBeat_38 : decode cX11_goesBeat 38 = .ok (.iinc 2 1, 3) := by decide +kernel
theorem dX11_goesBeat_41 : decode cX11_goesBeat 41 = .ok (.goto (-24), 3) := by decide +kernel
theorem dX11_goesBeat_44 : decode cX11_goesBeat 44 = .ok (.iconst 0, 1) := by decide +kernel
theorem dX11_goesBeat_45 : decode cX11_goesBeat 45 = .ok (.istore_n 2, 1) := by decide +kernel
theorem dX11_goesBeat_46 : decode cX11_goesBeat 46 = .ok (.iload_n 2, 1) := by decide +kernel
theorem dX11_goesBeat_47 : decode cX11_goesBeat 47 = .ok (.sipush 5184, 3) := by decide +kernel
theorem dX11_goesBeat_50 : decode cX11_goesBeat 50 = .ok (.if_icmp .ge 214, 3) := by decide +kernel
theorem dX11_goesBeat_53 : decode cX11_goesBeat 53 = .ok (.aload_n 0, 1) := by decide +kernel
theorem dX11_goesBeat_54 : decode cX11_goesBeat 54 = .ok (.getfield 31, 3) := by decide +kernel
theorem dX11_goesBeat_57 : decode cX11_goesBeat 57 = .ok (.iload_n 2, 1) := by decide +kernel
theorem dX11_goesBeat_58 : decode cX11_goesBeat 58 = .ok (.iaload, 1) := by decide +kernel
theorem dX11_goesBeat_59 : decode cX11_goesBeat 59 = .ok (.ifCond .ne 6, 3) := by decide +kernel
theorem dX11_goesBeat_62 : decode cX11_goesBeat 62 = .ok (.goto 196, 3) := by decide +kernel
theorem dX11_goesBeat_65 : decode cX11_goesBeat 65 = .ok (.iload_n 2, 1) := by decide +kernel
theorem dX11_goesBeat_66 : decode cX11_goesBeat 66 = .ok (.bipush 36, 2) := by decide +kernel
theorem dX11_goesBeat_68 : decode cX11_goesBeat 68 = .ok (.idiv, 1) := by decide +kernel
theorem dX11_goesBeat_69 : decode cX11_goesBeat 69 = .ok (.iconst 4, 1) := by decide +kernel
theorem dX11_goesBeat_70 : decode cX11_goesBeat 70 = .ok (.idiv, 1) := by decide +kernel
theorem dX11_goesBeat_71 : decode cX11_goesBeat 71 = .ok (.istore_n 3, 1) := by decide +kernel
theorem dX11_goesBeat_72 : decode cX11_goesBeat 72 = .ok (.iload_n 2, 1) := by decide +kernel
theorem dX11_goesBeat_73 : decode cX11_goesBeat 73 = .ok (.bipush 36, 2) := by decide +kernel
theorem dX11_goesBeat_75 : decode cX11_goesBeat 75 = .ok (.idiv, 1) := by decide +kernel
theorem dX11_goesBeat_76 : decode cX11_goesBeat 76 = .ok (.iconst 4, 1) := by decide +kernel
theorem dX11_goesBeat_77 : decode cX11_goesBeat 77 = .ok (.irem, 1) := by decide +kernel
theorem dX11_goesBeat_78 : decode cX11_goesBeat 78 = .ok (.istore 4, 2) := by decide +kernel
theorem dX11_goesBeat_80 : decode cX11_goesBeat 80 = .ok (.iload_n 2, 1) := by decide +kernel
theorem dX11_goesBeat_81 : decode cX11_goesBeat 81 = .ok (.bipush 36, 2) := by decide +kernel
theorem dX11_goesBeat_83 : decode cX11_goesBeat 83 = .ok (.irem, 1) := by decide +kernel
theorem dX11_goesBeat_84 : decode cX11_goesBeat 84 = .ok (.istore 5, 2) := by decide +kernel
theorem dX11_goesBeat_86 : decode cX11_goesBeat 86 = .ok (.aload_n 0, 1) := by decide +kernel
theorem dX11_goesBeat_87 : decode cX11_goesBeat 87 = .ok (.aload_n 0, 1) := by decide +kernel
theorem dX11_goesBeat_88 : decode cX11_goesBeat 88 = .ok (.getfield 205, 3) := by decide +kernel
theorem dX11_goesBeat_91 : decode cX11_goesBeat 91 = .ok (.aload_n 0, 1) := by decide +kernel
theorem dX11_goesBeat_92 : decode cX11_goesBeat 92 = .ok (.getfield 208, 3) := by decide +kernel
theorem dX11_goesBeat_95 : decode cX11_goesBeat 95 = .ok (.iload_n 3, 1) := by decide +kernel
theorem dX11_goesBeat_96 : decode cX11_goesBeat 96 = .ok (.iload 4, 2) := by decide +kernel
theorem dX11_goesBeat_98 : decode cX11_goesBeat 98 = .ok (.iload 5, 2) := by decide +kernel
theorem dX11_goesBeat_100 : decode cX11_goesBeat 100 = .ok (.iload_n 1, 1) := by decide +kernel
theorem dX11_goesBeat_101 : decode cX11_goesBeat 101 = .ok (.aload_n 0, 1) := by decide +kernel
theorem dX11_goesBeat_102 : decode cX11_goesBeat 102 = .ok (.getfield 213, 3) := by decide +kernel
theorem dX11_goesBeat_105 : decode cX11_goesBeat 105 = .ok (.aload_n 0, 1) := by decide +kernel
theorem dX11_goesBeat_106 : decode cX11_goesBeat 106 = .ok (.getfield 216, 3) := by decide +kernel
theorem dX11_goesBeat_109 : decode cX11_goesBeat 109 = .ok (.iadd, 1) := by decide +kernel
theorem dX11_goesBeat_110 : decode cX11_goesBeat 110 = .ok (.invokevirtual 190, 3) := by decide +kernel
theorem dX11_goesBeat_113 : decode cX11_goesBeat 113 = .ok (.istore 6, 2) := by decide +kernel
theorem dX11_goesBeat_115 : decode cX11_goesBeat 115 = .ok (.iconst 0, 1) := by decide +kernel
theorem dX11_goesBeat_116 : decode cX11_goesBeat 116 = .ok (.istore 7, 2) := by decide +kernel
theorem dX11_goesBeat_118 : decode cX11_goesBeat 118 = .ok (.iload 7, 2) := by decide +kernel
theorem dX11_goesBeat_120 : decode cX11_goesBeat 120 = .ok (.bipush 6, 2) := by decide +kernel
theorem dX11_goesBeat_122 : decode cX11_goesBeat 122 = .ok (.if_icmp .ge 136, 3) := by decide +kernel
theorem dX11_goesBeat_125 : decode cX11_goesBeat 125 = .ok (.iload 6, 2) := by decide +kernel
theorem dX11_goesBeat_127 : decode cX11_goesBeat 127 = .ok (.iload 7, 2) := by decide +kernel
theorem dX11_goesBeat_129 : decode cX11_goesBeat 129 = .ok (.ishr, 1) := by decide +kernel
theorem dX11_goesBeat_130 : decode cX11_goesBeat 130 = .ok (.iconst 1, 1) := by decide +kernel
theorem dX11_goesBeat_131 : decode cX11_goesBeat 131 = .ok (.iand, 1) := by decide +kernel
theorem dX11_goesBeat_132 : decode cX11_goesBeat 132 = .ok (.ifCond .ne 6, 3) := by decide +kernel
theorem dX11_goesBeat_135 : decode cX11_goesBeat 135 = .ok (.goto 117, 3) := by decide +kernel
theorem dX11_goesBeat_138 : decode cX11_goesBeat 138 = .ok (.iload 7, 2) := by decide +kernel
theorem dX11_goesBeat_140 : decode cX11_goesBeat 140 = .ok (.iconst 4, 1) := by decide +kernel
theorem dX11_goesBeat_141 : decode cX11_goesBeat 141 = .ok (.if_icmp .ge 12, 3) := by decide +kernel
theorem dX11_goesBeat_144 : decode cX11_goesBeat 144 = .ok (.iload_n 3, 1) := by decide +kernel
theorem dX11_goesBeat_145 : decode cX11_goesBeat 145 = .ok (.iload 7, 2) := by decide +kernel
theorem dX11_goesBeat_147 : decode cX11_goesBeat 147 = .ok (.invokestatic 171, 3) := by decide +kernel
theorem dX11_goesBeat_150 : decode cX11_goesBeat 150 = .ok (.goto 26, 3) := by decide +kernel
theorem dX11_goesBeat_153 : decode cX11_goesBeat 153 = .ok (.iload 7, 2) := by decide +kernel
theorem dX11_goesBeat_155 : decode cX11_goesBeat 155 = .ok (.iconst 4, 1) := by decide +kernel
theorem dX11_goesBeat_156 : decode cX11_goesBeat 156 = .ok (.if_icmp .ne 19, 3) := by decide +kernel
theorem dX11_goesBeat_159 : decode cX11_goesBeat 159 = .ok (.aload_n 0, 1) := by decide +kernel
theorem dX11_goesBeat_160 : decode cX11_goesBeat 160 = .ok (.aload_n 0, 1) := by decide +kernel
theorem dX11_goesBeat_161 : decode cX11_goesBeat 161 = .ok (.getfield 205, 3) := by decide +kernel
theorem dX11_goesBeat_164 : decode cX11_goesBeat 164 = .ok (.iload_n 3, 1) := by decide +kernel
theorem dX11_goesBeat_165 : decode cX11_goesBeat 165 = .ok (.iload 4, 2) := by decide +kernel
theorem dX11_goesBeat_167 : decode cX11_goesBeat 167 = .ok (.iload 5, 2) := by decide +kernel
theorem dX11_goesBeat_169 : decode cX11_goesBeat 169 = .ok (.invokevirtual 174, 3) := by decide +kernel
theorem dX11_goesBeat_172 : decode cX11_goesBeat 172 = .ok (.goto 4, 3) := by decide +kernel
theorem dX11_goesBeat_175 : decode cX11_goesBeat 175 = .ok (.iload_n 3, 1) := by decide +kernel
theorem dX11_goesBeat_176 : decode cX11_goesBeat 176 = .ok (.istore 8, 2) := by decide +kernel
theorem dX11_goesBeat_178 : decode cX11_goesBeat 178 = .ok (.iload_n 2, 1) := by decide +kernel
theorem dX11_goesBeat_179 : decode cX11_goesBeat 179 = .ok (.aload_n 0, 1) := by decide +kernel
theorem dX11_goesBeat_180 : decode cX11_goesBeat 180 = .ok (.getfield 205, 3) := by decide +kernel
theorem dX11_goesBeat_183 : decode cX11_goesBeat 183 = .ok (.iload 7, 2) := by decide +kernel
theorem dX11_goesBeat_185 : decode cX11_goesBeat 185 = .ok (.iload 8, 2) := by decide +kernel
theorem dX11_goesBeat_187 : decode cX11_goesBeat 187 = .ok (.invokestatic 223, 3) := by decide +kernel
theorem dX11_goesBeat_190 : decode cX11_goesBeat 190 = .ok (.istore 9, 2) := by decide +kernel
theorem dX11_goesBeat_192 : decode cX11_goesBeat 192 = .ok (.aload_n 0, 1) := by decide +kernel
theorem dX11_goesBeat_193 : decode cX11_goesBeat 193 = .ok (.getfield 34, 3) := by decide +kernel
theorem dX11_goesBeat_196 : decode cX11_goesBeat 196 = .ok (.iload 9, 2) := by decide +kernel
theorem dX11_goesBeat_198 : decode cX11_goesBeat 198 = .ok (.dup2, 1) := by decide +kernel
theorem dX11_goesBeat_199 : decode cX11_goesBeat 199 = .ok (.iaload, 1) := by decide +kernel
theorem dX11_goesBeat_200 : decode cX11_goesBeat 200 = .ok (.aload_n 0, 1) := by decide +kernel
theorem dX11_goesBeat_201 : decode cX11_goesBeat 201 = .ok (.getfield 31, 3) := by decide +kernel
theorem dX11_goesBeat_204 : decode cX11_goesBeat 204 = .ok (.iload_n 2, 1) := by decide +kernel
theorem dX11_goesBeat_205 : decode cX11_goesBeat 205 = .ok (.iaload, 1) := by decide +kernel
theorem dX11_goesBeat_206 : decode cX11_goesBeat 206 = .ok (.bipush 64, 2) := by decide +kernel
theorem dX11_goesBeat_208 : decode cX11_goesBeat 208 = .ok (.if_icmp .ne 10, 3) := by decide +kernel
theorem dX11_goesBeat_211 : decode cX11_goesBeat 211 = .ok (.iconst 1, 1) := by decide +kernel
theorem dX11_goesBeat_212 : decode cX11_goesBeat 212 = .ok (.iload 7, 2) := by decide +kernel
theorem dX11_goesBeat_214 : decode cX11_goesBeat 214 = .ok (.ishl, 1) := by decide +kernel
theorem dX11_goesBeat_215 : decode cX11_goesBeat 215 = .ok (.goto 9, 3) := by decide +kernel
theorem dX11_goesBeat_218 : decode cX11_goesBeat 218 = .ok (.aload_n 0, 1) := by decide +kernel
theorem dX11_goesBeat_219 : decode cX11_goesBeat 219 = .ok (.getfield 31, 3) := by decide +kernel
theorem dX11_goesBeat_222 : decode cX11_goesBeat 222 = .ok (.iload_n 2, 1) := by decide +kernel
theorem dX11_goesBeat_223 : decode cX11_goesBeat 223 = .ok (.iaload, 1) := by decide +kernel
theorem dX11_goesBeat_224 : decode cX11_goesBeat 224 = .ok (.ior, 1) := by decide +kernel
theorem dX11_goesBeat_225 : decode cX11_goesBeat 225 = .ok (.iastore, 1) := by decide +kernel
theorem dX11_goesBeat_226 : decode cX11_goesBeat 226 = .ok (.aload_n 0, 1) := by decide +kernel
theorem dX11_goesBeat_227 : decode cX11_goesBeat 227 = .ok (.getfield 41, 3) := by decide +kernel
theorem dX11_goesBeat_230 : decode cX11_goesBeat 230 = .ok (.iload 9, 2) := by decide +kernel
theorem dX11_goesBeat_232 : decode cX11_goesBeat 232 = .ok (.dup2, 1) := by decide +kernel
theorem dX11_goesBeat_233 : decode cX11_goesBeat 233 = .ok (.laload, 1) := by decide +kernel
theorem dX11_goesBeat_234 : decode cX11_goesBeat 234 = .ok (.aload_n 0, 1) := by decide +kernel
theorem dX11_goesBeat_235 : decode cX11_goesBeat 235 = .ok (.getfield 37, 3) := by decide +kernel
theorem dX11_goesBeat_238 : decode cX11_goesBeat 238 = .ok (.iload_n 2, 1) := by decide +kernel
theorem dX11_goesBeat_239 : decode cX11_goesBeat 239 = .ok (.laload, 1) := by decide +kernel
theorem dX11_goesBeat_240 : decode cX11_goesBeat 240 = .ok (.bipush 60, 2) := by decide +kernel
theorem dX11_goesBeat_242 : decode cX11_goesBeat 242 = .ok (.iload 6, 2) := by decide +kernel
theorem dX11_goesBeat_244 : decode cX11_goesBeat 244 = .ok (.invokestatic 226, 3) := by decide +kernel
theorem dX11_goesBeat_247 : decode cX11_goesBeat 247 = .ok (.idiv, 1) := by decide +kernel
theorem dX11_goesBeat_248 : decode cX11_goesBeat 248 = .ok (.i2l, 1) := by decide +kernel
theorem dX11_goesBeat_249 : decode cX11_goesBeat 249 = .ok (.lmul, 1) := by decide +kernel
theorem dX11_goesBeat_250 : decode cX11_goesBeat 250 = .ok (.ladd, 1) := by decide +kernel
theorem dX11_goesBeat_251 : decode cX11_goesBeat 251 = .ok (.lastore, 1) := by decide +kernel
theorem dX11_goesBeat_252 : decode cX11_goesBeat 252 = .ok (.iinc 7 1, 3) := by decide +kernel
theorem dX11_goesBeat_255 : decode cX11_goesBeat 255 = .ok (.goto (-137), 3) := by decide +kernel
theorem dX11_goesBeat_258 : decode cX11_goesBeat 258 = .ok (.iinc 2 1, 3) := by decide +kernel
theorem dX11_goesBeat_261 : decode cX11_goesBeat 261 = .ok (.goto (-215), 3) := by decide +kernel
theorem dX11_goesBeat_264 : decode cX11_goesBeat 264 = .ok (.iconst 0, 1) := by decide +kernel
theorem dX11_goesBeat_265 : decode cX11_goesBeat 265 = .ok (.istore_n 2, 1) := by decide +kernel
theorem dX11_goesBeat_266 : decode cX11_goesBeat 266 = .ok (.iload_n 2, 1) := by decide +kernel
theorem dX11_goesBeat_267 : decode cX11_goesBeat 267 = .ok (.sipush 5184, 3) := by decide +kernel
theorem dX11_goesBeat_270 : decode cX11_goesBeat 270 = .ok (.if_icmp .ge 33, 3) := by decide +kernel
theorem dX11_goesBeat_273 : decode cX11_goesBeat 273 = .ok (.aload_n 0, 1) := by decide +kernel
theorem dX11_goesBeat_274 : decode cX11_goesBeat 274 = .ok (.getfield 31, 3) := by decide +kernel
theorem dX11_goesBeat_277 : decode cX11_goesBeat 277 = .ok (.iload_n 2, 1) := by decide +kernel
theorem dX11_goesBeat_278 : decode cX11_goesBeat 278 = .ok (.aload_n 0, 1) := by decide +kernel
theorem dX11_goesBeat_279 : decode cX11_goesBeat 279 = .ok (.getfield 34, 3) := by decide +kernel
theorem dX11_goesBeat_282 : decode cX11_goesBeat 282 = .ok (.iload_n 2, 1) := by decide +kernel
theorem dX11_goesBeat_283 : decode cX11_goesBeat 283 = .ok (.iaload, 1) := by decide +kernel
theorem dX11_goesBeat_284 : decode cX11_goesBeat 284 = .ok (.iastore, 1) := by decide +kernel
theorem dX11_goesBeat_285 : decode cX11_goesBeat 285 = .ok (.aload_n 0, 1) := by decide +kernel
theorem dX11_goesBeat_286 : decode cX11_goesBeat 286 = .ok (.getfield 37, 3) := by decide +kernel
theorem dX11_goesBeat_289 : decode cX11_goesBeat 289 = .ok (.iload_n 2, 1) := by decide +kernel
theorem dX11_goesBeat_290 : decode cX11_goesBeat 290 = .ok (.aload_n 0, 1) := by decide +kernel
theorem dX11_goesBeat_291 : decode cX11_goesBeat 291 = .ok (.getfield 41, 3) := by decide +kernel
theorem dX11_goesBeat_294 : decode cX11_goesBeat 294 = .ok (.iload_n 2, 1) := by decide +kernel
theorem dX11_goesBeat_295 : decode cX11_goesBeat 295 = .ok (.laload, 1) := by decide +kernel
theorem dX11_goesBeat_296 : decode cX11_goesBeat 296 = .ok (.lastore, 1) := by decide +kernel
theorem dX11_goesBeat_297 : decode cX11_goesBeat 297 = .ok (.iinc 2 1, 3) := by decide +kernel
theorem dX11_goesBeat_300 : decode cX11_goesBeat 300 = .ok (.goto (-34), 3) := by decide +kernel
theorem dX11_goesBeat_303 : decode cX11_goesBeat 303 = .ok (.aload_n 0, 1) := by decide +kernel
theorem dX11_goesBeat_304 : decode cX11_goesBeat 304 = .ok (.dup, 1) := by decide +kernel
theorem dX11_goesBeat_305 : decode cX11_goesBeat 305 = .ok (.getfield 216, 3) := by decide +kernel
theorem dX11_goesBeat_308 : decode cX11_goesBeat 308 = .ok (.iconst 1, 1) := by decide +kernel
theorem dX11_goesBeat_309 : decode cX11_goesBeat 309 = .ok (.iadd, 1) := by decide +kernel
theorem dX11_goesBeat_310 : decode cX11_goesBeat 310 = .ok (.putfield 216, 3) := by decide +kernel
theorem dX11_goesBeat_313 : decode cX11_goesBeat 313 = .ok (.return_, 1) := by decide +kernel
theorem dX11_cellsNow_0 : decode cX11_cellsNow 0 = .ok (.lconst 0, 1) := by decide +kernel
theorem dX11_cellsNow_1 : decode cX11_cellsNow 1 = .ok (.lstore_n 1, 1) := by decide +kernel
theorem dX11_cellsNow_2 : decode cX11_cellsNow 2 = .ok (.iconst 0, 1) := by decide +kernel
theorem dX11_cellsNow_3 : decode cX11_cellsNow 3 = .ok (.istore_n 3, 1) := by decide +kernel
theorem dX11_cellsNow_4 : decode cX11_cellsNow 4 = .ok (.iload_n 3, 1) := by decide +kernel
theorem dX11_cellsNow_5 : decode cX11_cellsNow 5 = .ok (.sipush 5184, 3) := by decide +kernel
theorem dX11_cellsNow_8 : decode cX11_cellsNow 8 = .ok (.if_icmp .ge 29, 3) := by decide +kernel
theorem dX11_cellsNow_11 : decode cX11_cellsNow 11 = .ok (.aload_n 0, 1) := by decide +kernel
theorem dX11_cellsNow_12 : decode cX11_cellsNow 12 = .ok (.getfield 31, 3) := by decide +kernel
theorem dX11_cellsNow_15 : decode cX11_cellsNow 15 = .ok (.iload_n 3, 1) := by decide +kernel
theorem dX11_cellsNow_16 : decode cX11_cellsNow 16 = .ok (.iaload, 1) := by decide +kernel
theorem dX11_cellsNow_17 : decode cX11_cellsNow 17 = .ok (.ifCond .eq 14, 3) := by decide +kernel
theorem dX11_cellsNow_20 : decode cX11_cellsNow 20 = .ok (.lload_n 1, 1) := by decide +kernel
theorem dX11_cellsNow_21 : decode cX11_cellsNow 21 = .ok (.lconst 1, 1) := by decide +kernel
theorem dX11_cellsNow_22 : decode cX11_cellsNow 22 = .ok (.iload_n 3, 1) := by decide +kernel
theorem dX11_cellsNow_23 : decode cX11_cellsNow 23 = .ok (.bipush 36, 2) := by decide +kernel
theorem dX11_cellsNow_25 : decode cX11_cellsNow 25 = .ok (.idiv, 1) := by decide +kernel
theorem dX11_cellsNow_26 : decode cX11_cellsNow 26 = .ok (.iconst 4, 1) := by decide +kernel
theorem dX11_cellsNow_27 : decode cX11_cellsNow 27 = .ok (.idiv, 1) := by decide +kernel
theorem dX11_cellsNow_28 : decode cX11_cellsNow 28 = .ok (.lshl, 1) := by decide +kernel
theorem dX11_cellsNow_29 : decode cX11_cellsNow 29 = .ok (.lor, 1) := by decide +kernel
theorem dX11_cellsNow_30 : decode cX11_cellsNow 30 = .ok (.lstore_n 1, 1) := by decide +kernel
theorem dX11_cellsNow_31 : decode cX11_cellsNow 31 = .ok (.iinc 3 1, 3) := by decide +kernel
theorem dX11_cellsNow_34 : decode cX11_cellsNow 34 = .ok (.goto (-30), 3) := by decide +kernel
theorem dX11_cellsNow_37 : decode cX11_cellsNow 37 = .ok (.lload_n 1, 1) := by decide +kernel
theorem dX11_cellsNow_38 : decode cX11_cellsNow 38 = .ok (.lreturn, 1) := by decide +kernel
theorem dX11_firstTo_0 : decode cX11_firstTo 0 = .ok (.iconst 0, 1) := by decide +kernel
theorem dX11_firstTo_1 : decode cX11_firstTo 1 = .ok (.istore_n 2, 1) := by decide +kernel
theorem dX11_firstTo_2 : decode cX11_firstTo 2 = .ok (.iconst 0, 1) := by decide +kernel
theorem dX11_firstTo_3 : decode cX11_firstTo 3 = .ok (.istore_n 3, 1) := by decide +kernel
theorem dX11_firstTo_4 : decode cX11_firstTo 4 = .ok (.iload_n 3, 1) := by decide +kernel
theorem dX11_firstTo_5 : decode cX11_firstTo 5 = .ok (.sipush 144, 3) := by decide +kernel
theorem dX11_firstTo_8 : decode cX11_firstTo 8 = .ok (.if_icmp .ge 24, 3) := by decide +kernel
theorem dX11_firstTo_11 : decode cX11_firstTo 11 = .ok (.iload_n 2, 1) := by decide +kernel
theorem dX11_firstTo_12 : decode cX11_firstTo 12 = .ok (.aload_n 0, 1) := by decide +kernel
theorem dX11_firstTo_13 : decode cX11_firstTo 13 = .ok (.getfield 31, 3) := by decide +kernel
theorem dX11_firstTo_16 : decode cX11_firstTo 16 = .ok (.sipush 144, 3) := by decide +kernel
theorem dX11_firstTo_19 : decode cX11_firstTo 19 = .ok (.iload_n 1, 1) := by decide +kernel
theorem dX11_firstTo_20 : decode cX11_firstTo 20 = .ok (.imul, 1) := by decide +kernel
theorem dX11_firstTo_21 : decode cX11_firstTo 21 = .ok (.iload_n 3, 1) := by decide +kernel
theorem dX11_firstTo_22 : decode cX11_firstTo 22 = .ok (.iadd, 1) := by decide +kernel
theorem dX11_firstTo_23 : decode cX11_firstTo 23 = .ok (.iaload, 1) := by decide +kernel
theorem dX11_firstTo_24 : decode cX11_firstTo 24 = .ok (.ior, 1) := by decide +kernel
theorem dX11_firstTo_25 : decode cX11_firstTo 25 = .ok (.istore_n 2, 1) := by decide +kernel
theorem dX11_firstTo_26 : decode cX11_firstTo 26 = .ok (.iinc 3 1, 3) := by decide +kernel
theorem dX11_firstTo_29 : decode cX11_firstTo 29 = .ok (.goto (-25), 3) := by decide +kernel
theorem dX11_firstTo_32 : decode cX11_firstTo 32 = .ok (.iload_n 2, 1) := by decide +kernel
theorem dX11_firstTo_33 : decode cX11_firstTo 33 = .ok (.ireturn, 1) := by decide +kernel
theorem dX11_soonestTo_0 : decode cX11_soonestTo 0 = .ok (.iconst 0, 1) := by decide +kernel
theorem dX11_soonestTo_1 : decode cX11_soonestTo 1 = .ok (.istore_n 2, 1) := by decide +kernel
theorem dX11_soonestTo_2 : decode cX11_soonestTo 2 = .ok (.iload_n 2, 1) := by decide +kernel
theorem dX11_soonestTo_3 : decode cX11_soonestTo 3 = .ok (.bipush 60, 2) := by decide +kernel
theorem dX11_soonestTo_5 : decode cX11_soonestTo 5 = .ok (.if_icmp .gt 74, 3) := by decide +kernel
theorem dX11_soonestTo_8 : decode cX11_soonestTo 8 = .ok (.iload_n 2, 1) := by decide +kernel
theorem dX11_soonestTo_9 : decode cX11_soonestTo 9 = .ok (.ifCond .le 7, 3) := by decide +kernel
theorem dX11_soonestTo_12 : decode cX11_soonestTo 12 = .ok (.aload_n 0, 1) := by decide +kernel
theorem dX11_soonestTo_13 : decode cX11_soonestTo 13 = .ok (.invokevirtual 229, 3) := by decide +kernel
theorem dX11_soonestTo_16 : decode cX11_soonestTo 16 = .ok (.aload_n 0, 1) := by decide +kernel
theorem dX11_soonestTo_17 : decode cX11_soonestTo 17 = .ok (.iload_n 1, 1) := by decide +kernel
theorem dX11_soonestTo_18 : decode cX11_soonestTo 18 = .ok (.invokevirtual 232, 3) := by decide +kernel
theorem dX11_soonestTo_21 : decode cX11_soonestTo 21 = .ok (.istore_n 3, 1) := by decide +kernel
theorem dX11_soonestTo_22 : decode cX11_soonestTo 22 = .ok (.iload_n 3, 1) := by decide +kernel
theorem dX11_soonestTo_23 : decode cX11_soonestTo 23 = .ok (.ifCond .ne 6, 3) := by decide +kernel
theorem dX11_soonestTo_26 : decode cX11_soonestTo 26 = .ok (.goto 47, 3) := by decide +kernel
theorem dX11_soonestTo_29 : decode cX11_soonestTo 29 = .ok (.aload_n 0, 1) := by decide +kernel
theorem dX11_soonestTo_30 : decode cX11_soonestTo 30 = .ok (.iload_n 2, 1) := by decide +kernel
theorem dX11_soonestTo_31 : decode cX11_soonestTo 31 = .ok (.ifCond .ne 8, 3) := by decide +kernel
theorem dX11_soonestTo_34 : decode cX11_soonestTo 34 = .ok (.bipush (-5), 2) := by decide +kernel
theorem dX11_soonestTo_36 : decode cX11_soonestTo 36 = .ok (.goto 4, 3) := by decide +kernel
theorem dX11_soonestTo_39 : decode cX11_soonestTo 39 = .ok (.iconst 0, 1) := by decide +kernel
theorem dX11_soonestTo_40 : decode cX11_soonestTo 40 = .ok (.putfield 235, 3) := by decide +kernel
theorem dX11_soonestTo_43 : decode cX11_soonestTo 43 = .ok (.iload_n 2, 1) := by decide +kernel
theorem dX11_soonestTo_44 : decode cX11_soonestTo 44 = .ok (.ifCond .le 27, 3) := by decide +kernel
theorem dX11_soonestTo_47 : decode cX11_soonestTo 47 = .ok (.iload_n 3, 1) := by decide +kernel
theorem dX11_soonestTo_48 : decode cX11_soonestTo 48 = .ok (.aload_n 0, 1) := by decide +kernel
theorem dX11_soonestTo_49 : decode cX11_soonestTo 49 = .ok (.getfield 235, 3) := by decide +kernel
theorem dX11_soonestTo_52 : decode cX11_soonestTo 52 = .ok (.ishr, 1) := by decide +kernel
theorem dX11_soonestTo_53 : decode cX11_soonestTo 53 = .ok (.iconst 1, 1) := by decide +kernel
theorem dX11_soonestTo_54 : decode cX11_soonestTo 54 = .ok (.iand, 1) := by decide +kernel
theorem dX11_soonestTo_55 : decode cX11_soonestTo 55 = .ok (.ifCond .ne 16, 3) := by decide +kernel
theorem dX11_soonestTo_58 : decode cX11_soonestTo 58 = .ok (.aload_n 0, 1) := by decide +kernel
theorem dX11_soonestTo_59 : decode cX11_soonestTo 59 = .ok (.dup, 1) := by decide +kernel
theorem dX11_soonestTo_60 : decode cX11_soonestTo 60 = .ok (.getfield 235, 3) := by decide +kernel
theorem dX11_soonestTo_63 : decode cX11_soonestTo 63 = .ok (.iconst 1, 1) := by decide +kernel
theorem dX11_soonestTo_64 : decode cX11_soonestTo 64 = .ok (.iadd, 1) := by decide +kernel
theorem dX11_soonestTo_65 : decode cX11_soonestTo 65 = .ok (.putfield 235, 3) := by decide +kernel
theorem dX11_soonestTo_68 : decode cX11_soonestTo 68 = .ok (.goto (-25), 3) := by decide +kernel
theorem dX11_soonestTo_71 : decode cX11_soonestTo 71 = .ok (.iload_n 2, 1) := by decide +kernel
theorem dX11_soonestTo_72 : decode cX11_soonestTo 72 = .ok (.ireturn, 1) := by decide +kernel
theorem dX11_soonestTo_73 : decode cX11_soonestTo 73 = .ok (.iinc 2 1, 3) := by decide +kernel
theorem dX11_soonestTo_76 : decode cX11_soonestTo 76 = .ok (.goto (-74), 3) := by decide +kernel
theorem dX11_soonestTo_79 : decode cX11_soonestTo 79 = .ok (.aload_n 0, 1) := by decide +kernel
theorem dX11_soonestTo_80 : decode cX11_soonestTo 80 = .ok (.bipush (-5), 2) := by decide +kernel
theorem dX11_soonestTo_82 : decode cX11_soonestTo 82 = .ok (.putfield 235, 3) := by decide +kernel
theorem dX11_soonestTo_85 : decode cX11_soonestTo 85 = .ok (.bipush (-5), 2) := by decide +kernel
theorem dX11_soonestTo_87 : decode cX11_soonestTo 87 = .ok (.ireturn, 1) := by decide +kernel
theorem dX11_soonest_0 : decode cX11_soonest 0 = .ok (.aload_n 0, 1) := by decide +kernel
theorem dX11_soonest_1 : decode cX11_soonest 1 = .ok (.iload_n 1, 1) := by decide +kernel
theorem dX11_soonest_2 : decode cX11_soonest 2 = .ok (.invokevirtual 165, 3) := by decide +kernel
theorem dX11_soonest_5 : decode cX11_soonest 5 = .ok (.ifCond .eq 18, 3) := by decide +kernel
theorem dX11_soonest_8 : decode cX11_soonest 8 = .ok (.iload_n 2, 1) := by decide +kernel
theorem dX11_soonest_9 : decode cX11_soonest 9 = .ok (.invokestatic 151, 3) := by decide +kernel
theorem dX11_soonest_12 : decode cX11_soonest 12 = .ok (.ifCond .eq 11, 3) := by decide +kernel
theorem dX11_soonest_15 : decode cX11_soonest 15 = .ok (.iload_n 3, 1) := by decide +kernel
theorem dX11_soonest_16 : decode cX11_soonest 16 = .ok (.iconst 2, 1) := by decide +kernel
theorem dX11_soonest_17 : decode cX11_soonest 17 = .ok (.invokestatic 66, 3) := by decide +kernel
theorem dX11_soonest_20 : decode cX11_soonest 20 = .ok (.ifCond .ne 5, 3) := by decide +kernel
theorem dX11_soonest_23 : decode cX11_soonest 23 = .ok (.iconst (-1), 1) := by decide +kernel
theorem dX11_soonest_24 : decode cX11_soonest 24 = .ok (.ireturn, 1) := by decide +kernel
theorem dX11_soonest_25 : decode cX11_soonest 25 = .ok (.aload_n 0, 1) := by decide +kernel
theorem dX11_soonest_26 : decode cX11_soonest 26 = .ok (.iload_n 1, 1) := by decide +kernel
theorem dX11_soonest_27 : decode cX11_soonest 27 = .ok (.aload_n 0, 1) := by decide +kernel
theorem dX11_soonest_28 : decode cX11_soonest 28 = .ok (.iload_n 1, 1) := by decide +kernel
theorem dX11_soonest_29 : decode cX11_soonest 29 = .ok (.invokevirtual 168, 3) := by decide +kernel
theorem dX11_soonest_32 : decode cX11_soonest 32 = .ok (.invokevirtual 238, 3) := by decide +kernel
theorem dX11_soonest_35 : decode cX11_soonest 35 = .ok (.aload_n 0, 1) := by decide +kernel
theorem dX11_soonest_36 : decode cX11_soonest 36 = .ok (.iload_n 2, 1) := by decide +kernel
theorem dX11_soonest_37 : decode cX11_soonest 37 = .ok (.invokevirtual 241, 3) := by decide +kernel
theorem dX11_soonest_40 : decode cX11_soonest 40 = .ok (.istore 4, 2) := by decide +kernel
theorem dX11_soonest_42 : decode cX11_soonest 42 = .ok (.iload_n 3, 1) := by decide +kernel
theorem dX11_soonest_43 : decode cX11_soonest 43 = .ok (.ifCond .ne 8, 3) := by decide +kernel
theorem dX11_soonest_46 : decode cX11_soonest 46 = .ok (.iload 4, 2) := by decide +kernel
theorem dX11_soonest_48 : decode cX11_soonest 48 = .ok (.goto 7, 3) := by decide +kernel
theorem dX11_soonest_51 : decode cX11_soonest 51 = .ok (.aload_n 0, 1) := by decide +kernel
theorem dX11_soonest_52 : decode cX11_soonest 52 = .ok (.getfield 235, 3) := by decide +kernel
theorem dX11_soonest_55 : decode cX11_soonest 55 = .ok (.ireturn, 1) := by decide +kernel
theorem dX11_begin_0 : decode cX11_begin 0 = .ok (.aload_n 0, 1) := by decide +kernel
theorem dX11_begin_1 : decode cX11_begin 1 = .ok (.iload_n 1, 1) := by decide +kernel
theorem dX11_begin_2 : decode cX11_begin 2 = .ok (.invokevirtual 165, 3) := by decide +kernel
theorem dX11_begin_5 : decode cX11_begin 5 = .ok (.ifCond .eq 18, 3) := by decide +kernel
theorem dX11_begin_8 : decode cX11_begin 8 = .ok (.iload_n 2, 1) := by decide +kernel
theorem dX11_begin_9 : decode cX11_begin 9 = .ok (.invokestatic 151, 3) := by decide +kernel
theorem dX11_begin_12 : decode cX11_begin 12 = .ok (.ifCond .eq 11, 3) := by decide +kernel
theorem dX11_begin_15 : decode cX11_begin 15 = .ok (.iload_n 3, 1) := by decide +kernel
theorem dX11_begin_16 : decode cX11_begin 16 = .ok (.iconst 2, 1) := by decide +kernel
theorem dX11_begin_17 : decode cX11_begin 17 = .ok (.invokestatic 66, 3) := by decide +kernel
theorem dX11_begin_20 : decode cX11_begin 20 = .ok (.ifCond .ne 5, 3) := by decide +kernel
