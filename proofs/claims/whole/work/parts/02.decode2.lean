theorem dX10_row_25 : decode cX10_row 25 = .ok (.iconst (-1), 1) := by decide +kernel
theorem dX10_row_26 : decode cX10_row 26 = .ok (.ireturn, 1) := by decide +kernel
theorem dX10_hand_0 : decode cX10_hand 0 = .ok (.aload_n 0, 1) := by decide +kernel
theorem dX10_hand_1 : decode cX10_hand 1 = .ok (.getfield 48, 3) := by decide +kernel
theorem dX10_hand_4 : decode cX10_hand 4 = .ok (.iload_n 1, 1) := by decide +kernel
theorem dX10_hand_5 : decode cX10_hand 5 = .ok (.invokevirtual 152, 3) := by decide +kernel
theorem dX10_hand_8 : decode cX10_hand 8 = .ok (.astore_n 3, 1) := by decide +kernel
theorem dX10_hand_9 : decode cX10_hand 9 = .ok (.aload_n 3, 1) := by decide +kernel
theorem dX10_hand_10 : decode cX10_hand 10 = .ok (.ifnull 12, 3) := by decide +kernel
theorem dX10_hand_13 : decode cX10_hand 13 = .ok (.iload_n 2, 1) := by decide +kernel
theorem dX10_hand_14 : decode cX10_hand 14 = .ok (.ifCond .lt 8, 3) := by decide +kernel
theorem dX10_hand_17 : decode cX10_hand 17 = .ok (.iload_n 2, 1) := by decide +kernel
theorem dX10_hand_18 : decode cX10_hand 18 = .ok (.iconst 2, 1) := by decide +kernel
theorem dX10_hand_19 : decode cX10_hand 19 = .ok (.if_icmp .le 5, 3) := by decide +kernel
theorem dX10_hand_22 : decode cX10_hand 22 = .ok (.iconst (-1), 1) := by decide +kernel
theorem dX10_hand_23 : decode cX10_hand 23 = .ok (.ireturn, 1) := by decide +kernel
theorem dX10_hand_24 : decode cX10_hand 24 = .ok (.aload_n 0, 1) := by decide +kernel
theorem dX10_hand_25 : decode cX10_hand 25 = .ok (.getfield 21, 3) := by decide +kernel
theorem dX10_hand_28 : decode cX10_hand 28 = .ok (.aload_n 3, 1) := by decide +kernel
theorem dX10_hand_29 : decode cX10_hand 29 = .ok (.invokevirtual 263, 3) := by decide +kernel
theorem dX10_hand_32 : decode cX10_hand 32 = .ok (.iconst 0, 1) := by decide +kernel
theorem dX10_hand_33 : decode cX10_hand 33 = .ok (.istore 4, 2) := by decide +kernel
theorem dX10_hand_35 : decode cX10_hand 35 = .ok (.iload 4, 2) := by decide +kernel
theorem dX10_hand_37 : decode cX10_hand 37 = .ok (.aload_n 0, 1) := by decide +kernel
theorem dX10_hand_38 : decode cX10_hand 38 = .ok (.getfield 48, 3) := by decide +kernel
theorem dX10_hand_41 : decode cX10_hand 41 = .ok (.getfield 254, 3) := by decide +kernel
theorem dX10_hand_44 : decode cX10_hand 44 = .ok (.getfield 266, 3) := by decide +kernel
theorem dX10_hand_47 : decode cX10_hand 47 = .ok (.if_icmp .ge 32, 3) := by decide +kernel
theorem dX10_hand_50 : decode cX10_hand 50 = .ok (.aload_n 0, 1) := by decide +kernel
theorem dX10_hand_51 : decode cX10_hand 51 = .ok (.aload_n 0, 1) := by decide +kernel
theorem dX10_hand_52 : decode cX10_hand 52 = .ok (.getfield 21, 3) := by decide +kernel
theorem dX10_hand_55 : decode cX10_hand 55 = .ok (.aload_n 0, 1) := by decide +kernel
theorem dX10_hand_56 : decode cX10_hand 56 = .ok (.getfield 48, 3) := by decide +kernel
theorem dX10_hand_59 : decode cX10_hand 59 = .ok (.getfield 254, 3) := by decide +kernel
theorem dX10_hand_62 : decode cX10_hand 62 = .ok (.iload 4, 2) := by decide +kernel
theorem dX10_hand_64 : decode cX10_hand 64 = .ok (.invokevirtual 267, 3) := by decide +kernel
theorem dX10_hand_67 : decode cX10_hand 67 = .ok (.invokevirtual 182, 3) := by decide +kernel
theorem dX10_hand_70 : decode cX10_hand 70 = .ok (.ifCond .eq 9, 3) := by decide +kernel
theorem dX10_hand_73 : decode cX10_hand 73 = .ok (.iinc 4 1, 3) := by decide +kernel
theorem dX10_hand_76 : decode cX10_hand 76 = .ok (.goto (-41), 3) := by decide +kernel
theorem dX10_hand_79 : decode cX10_hand 79 = .ok (.iload_n 2, 1) := by decide +kernel
theorem dX10_hand_80 : decode cX10_hand 80 = .ok (.lookupswitch 39 #[(0, 28), (1, 31)], 28) := by decide +kernel
theorem dX10_hand_108 : decode cX10_hand 108 = .ok (.iload 4, 2) := by decide +kernel
theorem dX10_hand_110 : decode cX10_hand 110 = .ok (.ireturn, 1) := by decide +kernel
theorem dX10_hand_111 : decode cX10_hand 111 = .ok (.aload_n 0, 1) := by decide +kernel
theorem dX10_hand_112 : decode cX10_hand 112 = .ok (.getfield 21, 3) := by decide +kernel
theorem dX10_hand_115 : decode cX10_hand 115 = .ok (.getfield 156, 3) := by decide +kernel
theorem dX10_hand_118 : decode cX10_hand 118 = .ok (.ireturn, 1) := by decide +kernel
theorem dX10_hand_119 : decode cX10_hand 119 = .ok (.aload_n 0, 1) := by decide +kernel
theorem dX10_hand_120 : decode cX10_hand 120 = .ok (.getfield 21, 3) := by decide +kernel
theorem dX10_hand_123 : decode cX10_hand 123 = .ok (.getfield 159, 3) := by decide +kernel
theorem dX10_hand_126 : decode cX10_hand 126 = .ok (.ireturn, 1) := by decide +kernel
theorem dX10_track_0 : decode cX10_track 0 = .ok (.iload_n 1, 1) := by decide +kernel
theorem dX10_track_1 : decode cX10_track 1 = .ok (.iconst (-1), 1) := by decide +kernel
theorem dX10_track_2 : decode cX10_track 2 = .ok (.if_icmp .lt 23, 3) := by decide +kernel
theorem dX10_track_5 : decode cX10_track 5 = .ok (.iload_n 1, 1) := by decide +kernel
theorem dX10_track_6 : decode cX10_track 6 = .ok (.bipush 36, 2) := by decide +kernel
theorem dX10_track_8 : decode cX10_track 8 = .ok (.if_icmp .ge 17, 3) := by decide +kernel
theorem dX10_track_11 : decode cX10_track 11 = .ok (.aload_n 0, 1) := by decide +kernel
theorem dX10_track_12 : decode cX10_track 12 = .ok (.getfield 48, 3) := by decide +kernel
theorem dX10_track_15 : decode cX10_track 15 = .ok (.getfield 269, 3) := by decide +kernel
theorem dX10_track_18 : decode cX10_track 18 = .ok (.iload_n 1, 1) := by decide +kernel
theorem dX10_track_19 : decode cX10_track 19 = .ok (.invokevirtual 258, 3) := by decide +kernel
theorem dX10_track_22 : decode cX10_track 22 = .ok (.goto 4, 3) := by decide +kernel
theorem dX10_track_25 : decode cX10_track 25 = .ok (.iconst (-1), 1) := by decide +kernel
theorem dX10_track_26 : decode cX10_track 26 = .ok (.ireturn, 1) := by decide +kernel
theorem dX10_tracks_0 : decode cX10_tracks 0 = .ok (.iload_n 1, 1) := by decide +kernel
theorem dX10_tracks_1 : decode cX10_tracks 1 = .ok (.invokestatic 119, 3) := by decide +kernel
theorem dX10_tracks_4 : decode cX10_tracks 4 = .ok (.ifCond .ne 5, 3) := by decide +kernel
theorem dX10_tracks_7 : decode cX10_tracks 7 = .ok (.iconst (-1), 1) := by decide +kernel
theorem dX10_tracks_8 : decode cX10_tracks 8 = .ok (.ireturn, 1) := by decide +kernel
theorem dX10_tracks_9 : decode cX10_tracks 9 = .ok (.iload_n 2, 1) := by decide +kernel
theorem dX10_tracks_10 : decode cX10_tracks 10 = .ok (.invokestatic 125, 3) := by decide +kernel
theorem dX10_tracks_13 : decode cX10_tracks 13 = .ok (.ifCond .ne 6, 3) := by decide +kernel
theorem dX10_tracks_16 : decode cX10_tracks 16 = .ok (.bipush (-2), 2) := by decide +kernel
theorem dX10_tracks_18 : decode cX10_tracks 18 = .ok (.ireturn, 1) := by decide +kernel
theorem dX10_tracks_19 : decode cX10_tracks 19 = .ok (.iconst 0, 1) := by decide +kernel
theorem dX10_tracks_20 : decode cX10_tracks 20 = .ok (.istore_n 3, 1) := by decide +kernel
theorem dX10_tracks_21 : decode cX10_tracks 21 = .ok (.iconst 0, 1) := by decide +kernel
theorem dX10_tracks_22 : decode cX10_tracks 22 = .ok (.istore 4, 2) := by decide +kernel
theorem dX10_tracks_24 : decode cX10_tracks 24 = .ok (.iload 4, 2) := by decide +kernel
theorem dX10_tracks_26 : decode cX10_tracks 26 = .ok (.aload_n 0, 1) := by decide +kernel
theorem dX10_tracks_27 : decode cX10_tracks 27 = .ok (.getfield 48, 3) := by decide +kernel
theorem dX10_tracks_30 : decode cX10_tracks 30 = .ok (.getfield 98, 3) := by decide +kernel
theorem dX10_tracks_33 : decode cX10_tracks 33 = .ok (.invokevirtual 230, 3) := by decide +kernel
theorem dX10_tracks_36 : decode cX10_tracks 36 = .ok (.if_icmp .ge 40, 3) := by decide +kernel
theorem dX10_tracks_39 : decode cX10_tracks 39 = .ok (.aload_n 0, 1) := by decide +kernel
theorem dX10_tracks_40 : decode cX10_tracks 40 = .ok (.getfield 48, 3) := by decide +kernel
theorem dX10_tracks_43 : decode cX10_tracks 43 = .ok (.getfield 269, 3) := by decide +kernel
theorem dX10_tracks_46 : decode cX10_tracks 46 = .ok (.getfield 266, 3) := by decide +kernel
theorem dX10_tracks_49 : decode cX10_tracks 49 = .ok (.ifCond .eq 14, 3) := by decide +kernel
theorem dX10_tracks_52 : decode cX10_tracks 52 = .ok (.aload_n 0, 1) := by decide +kernel
theorem dX10_tracks_53 : decode cX10_tracks 53 = .ok (.iload_n 1, 1) := by decide +kernel
theorem dX10_tracks_54 : decode cX10_tracks 54 = .ok (.iload_n 2, 1) := by decide +kernel
theorem dX10_tracks_55 : decode cX10_tracks 55 = .ok (.iload 4, 2) := by decide +kernel
theorem dX10_tracks_57 : decode cX10_tracks 57 = .ok (.invokevirtual 272, 3) := by decide +kernel
theorem dX10_tracks_60 : decode cX10_tracks 60 = .ok (.ifCond .eq 10, 3) := by decide +kernel
theorem dX10_tracks_63 : decode cX10_tracks 63 = .ok (.iload_n 3, 1) := by decide +kernel
theorem dX10_tracks_64 : decode cX10_tracks 64 = .ok (.iconst 1, 1) := by decide +kernel
theorem dX10_tracks_65 : decode cX10_tracks 65 = .ok (.iload 4, 2) := by decide +kernel
theorem dX10_tracks_67 : decode cX10_tracks 67 = .ok (.ishl, 1) := by decide +kernel
theorem dX10_tracks_68 : decode cX10_tracks 68 = .ok (.ior, 1) := by decide +kernel
theorem dX10_tracks_69 : decode cX10_tracks 69 = .ok (.istore_n 3, 1) := by decide +kernel
theorem dX10_tracks_70 : decode cX10_tracks 70 = .ok (.iinc 4 1, 3) := by decide +kernel
theorem dX10_tracks_73 : decode cX10_tracks 73 = .ok (.goto (-49), 3) := by decide +kernel
theorem dX10_tracks_76 : decode cX10_tracks 76 = .ok (.iload_n 3, 1) := by decide +kernel
theorem dX10_tracks_77 : decode cX10_tracks 77 = .ok (.ireturn, 1) := by decide +kernel
theorem dX10_left_0 : decode cX10_left 0 = .ok (.aload_n 0, 1) := by decide +kernel
theorem dX10_left_1 : decode cX10_left 1 = .ok (.getfield 65, 3) := by decide +kernel
theorem dX10_left_4 : decode cX10_left 4 = .ok (.aload_n 0, 1) := by decide +kernel
theorem dX10_left_5 : decode cX10_left 5 = .ok (.getfield 48, 3) := by decide +kernel
theorem dX10_left_8 : decode cX10_left 8 = .ok (.getfield 98, 3) := by decide +kernel
theorem dX10_left_11 : decode cX10_left 11 = .ok (.aload_n 0, 1) := by decide +kernel
theorem dX10_left_12 : decode cX10_left 12 = .ok (.getfield 48, 3) := by decide +kernel
theorem dX10_left_15 : decode cX10_left 15 = .ok (.getfield 269, 3) := by decide +kernel
theorem dX10_left_18 : decode cX10_left 18 = .ok (.iconst 0, 1) := by decide +kernel
theorem dX10_left_19 : decode cX10_left 19 = .ok (.invokevirtual 267, 3) := by decide +kernel
theorem dX10_left_22 : decode cX10_left 22 = .ok (.iload_n 1, 1) := by decide +kernel
theorem dX10_left_23 : decode cX10_left 23 = .ok (.iload_n 2, 1) := by decide +kernel
theorem dX10_left_24 : decode cX10_left 24 = .ok (.iload_n 3, 1) := by decide +kernel
theorem dX10_left_25 : decode cX10_left 25 = .ok (.invokevirtual 276, 3) := by decide +kernel
theorem dX10_left_28 : decode cX10_left 28 = .ok (.iconst 1, 1) := by decide +kernel
theorem dX10_left_29 : decode cX10_left 29 = .ok (.istore 4, 2) := by decide +kernel
theorem dX10_left_31 : decode cX10_left 31 = .ok (.iload 4, 2) := by decide +kernel
theorem dX10_left_33 : decode cX10_left 33 = .ok (.aload_n 0, 1) := by decide +kernel
theorem dX10_left_34 : decode cX10_left 34 = .ok (.getfield 48, 3) := by decide +kernel
theorem dX10_left_37 : decode cX10_left 37 = .ok (.getfield 269, 3) := by decide +kernel
theorem dX10_left_40 : decode cX10_left 40 = .ok (.getfield 266, 3) := by decide +kernel
theorem dX10_left_43 : decode cX10_left 43 = .ok (.if_icmp .ge 37, 3) := by decide +kernel
theorem dX10_left_46 : decode cX10_left 46 = .ok (.aload_n 0, 1) := by decide +kernel
theorem dX10_left_47 : decode cX10_left 47 = .ok (.getfield 65, 3) := by decide +kernel
theorem dX10_left_50 : decode cX10_left 50 = .ok (.bipush 63, 2) := by decide +kernel
theorem dX10_left_52 : decode cX10_left 52 = .ok (.invokevirtual 222, 3) := by decide +kernel
theorem dX10_left_55 : decode cX10_left 55 = .ok (.aload_n 0, 1) := by decide +kernel
theorem dX10_left_56 : decode cX10_left 56 = .ok (.getfield 65, 3) := by decide +kernel
theorem dX10_left_59 : decode cX10_left 59 = .ok (.aload_n 0, 1) := by decide +kernel
theorem dX10_left_60 : decode cX10_left 60 = .ok (.getfield 48, 3) := by decide +kernel
theorem dX10_left_63 : decode cX10_left 63 = .ok (.getfield 269, 3) := by decide +kernel
theorem dX10_left_66 : decode cX10_left 66 = .ok (.iload 4, 2) := by decide +kernel
theorem dX10_left_68 : decode cX10_left 68 = .ok (.invokevirtual 267, 3) := by decide +kernel
theorem dX10_left_71 : decode cX10_left 71 = .ok (.invokevirtual 279, 3) := by decide +kernel
theorem dX10_left_74 : decode cX10_left 74 = .ok (.iinc 4 1, 3) := by decide +kernel
theorem dX10_left_77 : decode cX10_left 77 = .ok (.goto (-46), 3) := by decide +kernel
theorem dX10_left_80 : decode cX10_left 80 = .ok (.aload_n 0, 1) := by decide +kernel
theorem dX10_left_81 : decode cX10_left 81 = .ok (.getfield 65, 3) := by decide +kernel
theorem dX10_left_84 : decode cX10_left 84 = .ok (.invokevirtual 226, 3) := by decide +kernel
theorem dX10_left_87 : decode cX10_left 87 = .ok (.lconst 0, 1) := by decide +kernel
theorem dX10_left_88 : decode cX10_left 88 = .ok (.lcmp, 1) := by decide +kernel
theorem dX10_left_89 : decode cX10_left 89 = .ok (.ifCond .eq 7, 3) := by decide +kernel
theorem dX10_left_92 : decode cX10_left 92 = .ok (.iconst 1, 1) := by decide +kernel
theorem dX10_left_93 : decode cX10_left 93 = .ok (.goto 4, 3) := by decide +kernel
theorem dX10_left_96 : decode cX10_left 96 = .ok (.iconst 0, 1) := by decide +kernel
theorem dX10_left_97 : decode cX10_left 97 = .ok (.ireturn, 1) := by decide +kernel
theorem dX10_lot_0 : decode cX10_lot 0 = .ok (.aload_n 0, 1) := by decide +kernel
theorem dX10_lot_1 : decode cX10_lot 1 = .ok (.getfield 48, 3) := by decide +kernel
theorem dX10_lot_4 : decode cX10_lot 4 = .ok (.iload_n 1, 1) := by decide +kernel
theorem dX10_lot_5 : decode cX10_lot 5 = .ok (.invokevirtual 152, 3) := by decide +kernel
theorem dX10_lot_8 : decode cX10_lot 8 = .ok (.astore 5, 2) := by decide +kernel
theorem dX10_lot_10 : decode cX10_lot 10 = .ok (.aload 5, 2) := by decide +kernel
theorem dX10_lot_12 : decode cX10_lot 12 = .ok (.ifnull 28, 3) := by decide +kernel
theorem dX10_lot_15 : decode cX10_lot 15 = .ok (.iload_n 2, 1) := by decide +kernel
theorem dX10_lot_16 : decode cX10_lot 16 = .ok (.invokestatic 108, 3) := by decide +kernel
theorem dX10_lot_19 : decode cX10_lot 19 = .ok (.ifCond .eq 21, 3) := by decide +kernel
theorem dX10_lot_22 : decode cX10_lot 22 = .ok (.iload_n 3, 1) := by decide +kernel
theorem dX10_lot_23 : decode cX10_lot 23 = .ok (.ifCond .lt 17, 3) := by decide +kernel
theorem dX10_lot_26 : decode cX10_lot 26 = .ok (.iload_n 3, 1) := by decide +kernel
theorem dX10_lot_27 : decode cX10_lot 27 = .ok (.bipush 6, 2) := by decide +kernel
theorem dX10_lot_29 : decode cX10_lot 29 = .ok (.if_icmp .gt 11, 3) := by decide +kernel
theorem dX10_lot_32 : decode cX10_lot 32 = .ok (.iload 4, 2) := by decide +kernel
theorem dX10_lot_34 : decode cX10_lot 34 = .ok (.invokestatic 208, 3) := by decide +kernel
theorem dX10_lot_37 : decode cX10_lot 37 = .ok (.ifCond .ne 7, 3) := by decide +kernel
theorem dX10_lot_40 : decode cX10_lot 40 = .ok (.ldc2_w 237, 3) := by decide +kernel
theorem dX10_lot_43 : decode cX10_lot 43 = .ok (.lreturn, 1) := by decide +kernel
theorem dX10_lot_44 : decode cX10_lot 44 = .ok (.aload_n 0, 1) := by decide +kernel
theorem dX10_lot_45 : decode cX10_lot 45 = .ok (.getfield 75, 3) := by decide +kernel
theorem dX10_lot_48 : decode cX10_lot 48 = .ok (.aload_n 0, 1) := by decide +kernel
theorem dX10_lot_49 : decode cX10_lot 49 = .ok (.getfield 48, 3) := by decide +kernel
theorem dX10_lot_52 : decode cX10_lot 52 = .ok (.getfield 98, 3) := by decide +kernel
theorem dX10_lot_55 : decode cX10_lot 55 = .ok (.aload 5, 2) := by decide +kernel
theorem dX10_lot_57 : decode cX10_lot 57 = .ok (.invokevirtual 282, 3) := by decide +kernel
theorem dX10_lot_60 : decode cX10_lot 60 = .ok (.lconst 1, 1) := by decide +kernel
theorem dX10_lot_61 : decode cX10_lot 61 = .ok (.lstore 6, 2) := by decide +kernel
theorem dX10_lot_63 : decode cX10_lot 63 = .ok (.iconst 0, 1) := by decide +kernel
theorem dX10_lot_64 : decode cX10_lot 64 = .ok (.istore 8, 2) := by decide +kernel
theorem dX10_lot_66 : decode cX10_lot 66 = .ok (.iload 8, 2) := by decide +kernel
theorem dX10_lot_68 : decode cX10_lot 68 = .ok (.iload_n 3, 1) := by decide +kernel
theorem dX10_lot_69 : decode cX10_lot 69 = .ok (.if_icmp .ge 24, 3) := by decide +kernel
theorem dX10_lot_72 : decode cX10_lot 72 = .ok (.aload_n 0, 1) := by decide +kernel
theorem dX10_lot_73 : decode cX10_lot 73 = .ok (.getfield 75, 3) := by decide +kernel
theorem dX10_lot_76 : decode cX10_lot 76 = .ok (.invokevirtual 283, 3) := by decide +kernel
theorem dX10_lot_79 : decode cX10_lot 79 = .ok (.lload 6, 2) := by decide +kernel
theorem dX10_lot_81 : decode cX10_lot 81 = .ok (.ldc2_w 285, 3) := by decide +kernel
theorem dX10_lot_84 : decode cX10_lot 84 = .ok (.lmul, 1) := by decide +kernel
theorem dX10_lot_85 : decode cX10_lot 85 = .ok (.lstore 6, 2) := by decide +kernel
theorem dX10_lot_87 : decode cX10_lot 87 = .ok (.iinc 8 1, 3) := by decide +kernel
theorem dX10_lot_90 : decode cX10_lot 90 = .ok (.goto (-24), 3) := by decide +kernel
theorem dX10_lot_93 : decode cX10_lot 93 = .ok (.aload_n 0, 1) := by decide +kernel
theorem dX10_lot_94 : decode cX10_lot 94 = .ok (.getfield 75, 3) := by decide +kernel
theorem dX10_lot_97 : decode cX10_lot 97 = .ok (.iload_n 2, 1) := by decide +kernel
theorem dX10_lot_98 : decode cX10_lot 98 = .ok (.invokevirtual 287, 3) := by decide +kernel
theorem dX10_lot_101 : decode cX10_lot 101 = .ok (.lstore 8, 2) := by decide +kernel
theorem dX10_lot_103 : decode cX10_lot 103 = .ok (.lload 6, 2) := by decide +kernel
theorem dX10_lot_105 : decode cX10_lot 105 = .ok (.lload 8, 2) := by decide +kernel
theorem dX10_lot_107 : decode cX10_lot 107 = .ok (.invokestatic 290, 3) := by decide +kernel
theorem dX10_lot_110 : decode cX10_lot 110 = .ok (.lstore 10, 2) := by decide +kernel
theorem dX10_lot_112 : decode cX10_lot 112 = .ok (.lload 10, 2) := by decide +kernel
theorem dX10_lot_114 : decode cX10_lot 114 = .ok (.lconst 0, 1) := by decide +kernel
theorem dX10_lot_115 : decode cX10_lot 115 = .ok (.lcmp, 1) := by decide +kernel
theorem dX10_lot_116 : decode cX10_lot 116 = .ok (.ifCond .ne 9, 3) := by decide +kernel
theorem dX10_lot_119 : decode cX10_lot 119 = .ok (.ldc2_w 237, 3) := by decide +kernel
theorem dX10_lot_122 : decode cX10_lot 122 = .ok (.goto 18, 3) := by decide +kernel
theorem dX10_lot_125 : decode cX10_lot 125 = .ok (.iload 4, 2) := by decide +kernel
theorem dX10_lot_127 : decode cX10_lot 127 = .ok (.ifCond .ne 8, 3) := by decide +kernel
theorem dX10_lot_130 : decode cX10_lot 130 = .ok (.lload 8, 2) := by decide +kernel
theorem dX10_lot_132 : decode cX10_lot 132 = .ok (.goto 5, 3) := by decide +kernel
theorem dX10_lot_135 : decode cX10_lot 135 = .ok (.lload 6, 2) := by decide +kernel
theorem dX10_lot_137 : decode cX10_lot 137 = .ok (.lload 10, 2) := by decide +kernel
theorem dX10_lot_139 : decode cX10_lot 139 = .ok (.ldiv, 1) := by decide +kernel
theorem dX10_lot_140 : decode cX10_lot 140 = .ok (.lreturn, 1) := by decide +kernel
theorem dX10_slower_0 : decode cX10_slower 0 = .ok (.aload_n 0, 1) := by decide +kernel
theorem dX10_slower_1 : decode cX10_slower 1 = .ok (.getfield 48, 3) := by decide +kernel
theorem dX10_slower_4 : decode cX10_slower 4 = .ok (.iload_n 1, 1) := by decide +kernel
theorem dX10_slower_5 : decode cX10_slower 5 = .ok (.invokevirtual 152, 3) := by decide +kernel
theorem dX10_slower_8 : decode cX10_slower 8 = .ok (.astore 5, 2) := by decide +kernel
theorem dX10_slower_10 : decode cX10_slower 10 = .ok (.aload 5, 2) := by decide +kernel
theorem dX10_slower_12 : decode cX10_slower 12 = .ok (.ifnull 25, 3) := by decide +kernel
theorem dX10_slower_15 : decode cX10_slower 15 = .ok (.iload_n 2, 1) := by decide +kernel
theorem dX10_slower_16 : decode cX10_slower 16 = .ok (.invokestatic 108, 3) := by decide +kernel
theorem dX10_slower_19 : decode cX10_slower 19 = .ok (.ifCond .eq 18, 3) := by decide +kernel
theorem dX10_slower_22 : decode cX10_slower 22 = .ok (.iload_n 3, 1) := by decide +kernel
theorem dX10_slower_23 : decode cX10_slower 23 = .ok (.invokestatic 119, 3) := by decide +kernel
theorem dX10_slower_26 : decode cX10_slower 26 = .ok (.ifCond .eq 11, 3) := by decide +kernel
theorem dX10_slower_29 : decode cX10_slower 29 = .ok (.iload 4, 2) := by decide +kernel
theorem dX10_slower_31 : decode cX10_slower 31 = .ok (.invokestatic 119, 3) := by decide +kernel
theorem dX10_slower_34 : decode cX10_slower 34 = .ok (.ifCond .ne 7, 3) := by decide +kernel
theorem dX10_slower_37 : decode cX10_slower 37 = .ok (.sipush (-1001), 3) := by decide +kernel
theorem dX10_slower_40 : decode cX10_slower 40 = .ok (.ireturn, 1) := by decide +kernel
theorem dX10_slower_41 : decode cX10_slower 41 = .ok (.aload_n 0, 1) := by decide +kernel
theorem dX10_slower_42 : decode cX10_slower 42 = .ok (.getfield 65, 3) := by decide +kernel
theorem dX10_slower_45 : decode cX10_slower 45 = .ok (.aload_n 0, 1) := by decide +kernel
theorem dX10_slower_46 : decode cX10_slower 46 = .ok (.getfield 48, 3) := by decide +kernel
theorem dX10_slower_49 : decode cX10_slower 49 = .ok (.getfield 98, 3) := by decide +kernel
theorem dX10_slower_52 : decode cX10_slower 52 = .ok (.aload 5, 2) := by decide +kernel
theorem dX10_slower_54 : decode cX10_slower 54 = .ok (.iload_n 3, 1) := by decide +kernel
theorem dX10_slower_55 : decode cX10_slower 55 = .ok (.iconst 0, 1) := by decide +kernel
theorem dX10_slower_56 : decode cX10_slower 56 = .ok (.aload 5, 2) := by decide +kernel
theorem dX10_slower_58 : decode cX10_slower 58 = .ok (.getfield 162, 3) := by decide +kernel
theorem dX10_slower_61 : decode cX10_slower 61 = .ok (.invokevirtual 234, 3) := by decide +kernel
theorem dX10_slower_64 : decode cX10_slower 64 = .ok (.aload_n 0, 1) := by decide +kernel
theorem dX10_slower_65 : decode cX10_slower 65 = .ok (.getfield 65, 3) := by decide +kernel
theorem dX10_slower_68 : decode cX10_slower 68 = .ok (.iload_n 2, 1) := by decide +kernel
theorem dX10_slower_69 : decode cX10_slower 69 = .ok (.invokevirtual 215, 3) := by decide +kernel
theorem dX10_slower_72 : decode cX10_slower 72 = .ok (.istore 6, 2) := by decide +kernel
theorem dX10_slower_74 : decode cX10_slower 74 = .ok (.aload_n 0, 1) := by decide +kernel
theorem dX10_slower_75 : decode cX10_slower 75 = .ok (.getfield 65, 3) := by decide +kernel
theorem dX10_slower_78 : decode cX10_slower 78 = .ok (.aload_n 0, 1) := by decide +kernel
theorem dX10_slower_79 : decode cX10_slower 79 = .ok (.getfield 48, 3) := by decide +kernel
theorem dX10_slower_82 : decode cX10_slower 82 = .ok (.getfield 98, 3) := by decide +kernel
theorem dX10_slower_85 : decode cX10_slower 85 = .ok (.aload 5, 2) := by decide +kernel
theorem dX10_slower_87 : decode cX10_slower 87 = .ok (.iload 4, 2) := by decide +kernel
theorem dX10_slower_89 : decode cX10_slower 89 = .ok (.iconst 0, 1) := by decide +kernel
theorem dX10_slower_90 : decode cX10_slower 90 = .ok (.aload 5, 2) := by decide +kernel
theorem dX10_slower_92 : decode cX10_slower 92 = .ok (.getfield 162, 3) := by decide +kernel
theorem dX10_slower_95 : decode cX10_slower 95 = .ok (.invokevirtual 234, 3) := by decide +kernel
theorem dX10_slower_98 : decode cX10_slower 98 = .ok (.aload_n 0, 1) := by decide +kernel
theorem dX10_slower_99 : decode cX10_slower 99 = .ok (.getfield 65, 3) := by decide +kernel
theorem dX10_slower_102 : decode cX10_slower 102 = .ok (.iload_n 2, 1) := by decide +kernel
theorem dX10_slower_103 : decode cX10_slower 103 = .ok (.invokevirtual 215, 3) := by decide +kernel
theorem dX10_slower_106 : decode cX10_slower 106 = .ok (.istore 7, 2) := by decide +kernel
theorem dX10_slower_108 : decode cX10_slower 108 = .ok (.iload 6, 2) := by decide +kernel
theorem dX10_slower_110 : decode cX10_slower 110 = .ok (.ifCond .lt 8, 3) := by decide +kernel
theorem dX10_slower_113 : decode cX10_slower 113 = .ok (.iload 7, 2) := by decide +kernel
theorem dX10_slower_115 : decode cX10_slower 115 = .ok (.ifCond .ge 9, 3) := by decide +kernel
theorem dX10_slower_118 : decode cX10_slower 118 = .ok (.sipush (-1000), 3) := by decide +kernel
theorem dX10_slower_121 : decode cX10_slower 121 = .ok (.goto 8, 3) := by decide +kernel
theorem dX10_slower_124 : decode cX10_slower 124 = .ok (.iload 6, 2) := by decide +kernel
theorem dX10_slower_126 : decode cX10_slower 126 = .ok (.iload 7, 2) := by decide +kernel
theorem dX10_slower_128 : decode cX10_slower 128 = .ok (.isub, 1) := by decide +kernel
theorem dX10_slower_129 : decode cX10_slower 129 = .ok (.ireturn, 1) := by decide +kernel
theorem dX10_judge_0 : decode cX10_judge 0 = .ok (.aload_n 0, 1) := by decide +kernel
theorem dX10_judge_1 : decode cX10_judge 1 = .ok (.iload_n 1, 1) := by decide +kernel
theorem dX10_judge_2 : decode cX10_judge 2 = .ok (.invokevirtual 294, 3) := by decide +kernel
theorem dX10_judge_5 : decode cX10_judge 5 = .ok (.astore_n 3, 1) := by decide +kernel
theorem dX10_judge_6 : decode cX10_judge 6 = .ok (.aload_n 3, 1) := by decide +kernel
theorem dX10_judge_7 : decode cX10_judge 7 = .ok (.ifnonnull 5, 3) := by decide +kernel
theorem dX10_judge_10 : decode cX10_judge 10 = .ok (.iconst (-1), 1) := by decide +kernel
theorem dX10_judge_11 : decode cX10_judge 11 = .ok (.ireturn, 1) := by decide +kernel
theorem dX10_judge_12 : decode cX10_judge 12 = .ok (.aload_n 3, 1) := by decide +kernel
theorem dX10_judge_13 : decode cX10_judge 13 = .ok (.getfield 298, 3) := by decide +kernel
theorem dX10_judge_16 : decode cX10_judge 16 = .ok (.iconst (-1), 1) := by decide +kernel
theorem dX10_judge_17 : decode cX10_judge 17 = .ok (.if_icmp .eq 14, 3) := by decide +kernel
theorem dX10_judge_20 : decode cX10_judge 20 = .ok (.aload_n 3, 1) := by decide +kernel
theorem dX10_judge_21 : decode cX10_judge 21 = .ok (.getfield 298, 3) := by decide +kernel
theorem dX10_judge_24 : decode cX10_judge 24 = .ok (.iconst 3, 1) := by decide +kernel
theorem dX10_judge_25 : decode cX10_judge 25 = .ok (.if_icmp .eq 6, 3) := by decide +kernel
theorem dX10_judge_28 : decode cX10_judge 28 = .ok (.bipush (-12), 2) := by decide +kernel
theorem dX10_judge_30 : decode cX10_judge 30 = .ok (.ireturn, 1) := by decide +kernel
theorem dX10_judge_31 : decode cX10_judge 31 = .ok (.iconst 0, 1) := by decide +kernel
theorem dX10_judge_32 : decode cX10_judge 32 = .ok (.istore 4, 2) := by decide +kernel
theorem dX10_judge_34 : decode cX10_judge 34 = .ok (.iload 4, 2) := by decide +kernel
theorem dX10_judge_36 : decode cX10_judge 36 = .ok (.aload_n 0, 1) := by decide +kernel
theorem dX10_judge_37 : decode cX10_judge 37 = .ok (.getfield 48, 3) := by decide +kernel
theorem dX10_judge_40 : decode cX10_judge 40 = .ok (.getfield 149, 3) := by decide +kernel
theorem dX10_judge_43 : decode cX10_judge 43 = .ok (.if_icmp .ge 65, 3) := by decide +kernel
theorem dX10_judge_46 : decode cX10_judge 46 = .ok (.aload_n 0, 1) := by decide +kernel
theorem dX10_judge_47 : decode cX10_judge 47 = .ok (.getfield 48, 3) := by decide +kernel
theorem dX10_judge_50 : decode cX10_judge 50 = .ok (.iload 4, 2) := by decide +kernel
theorem dX10_judge_52 : decode cX10_judge 52 = .ok (.invokevirtual 152, 3) := by decide +kernel
theorem dX10_judge_55 : decode cX10_judge 55 = .ok (.astore 5, 2) := by decide +kernel
theorem dX10_judge_57 : decode cX10_judge 57 = .ok (.aload_n 3, 1) := by decide +kernel
theorem dX10_judge_58 : decode cX10_judge 58 = .ok (.iload_n 2, 1) := by decide +kernel
theorem dX10_judge_59 : decode cX10_judge 59 = .ok (.i2l, 1) := by decide +kernel
theorem dX10_judge_60 : decode cX10_judge 60 = .ok (.iload 4, 2) := by decide +kernel
theorem dX10_judge_62 : decode cX10_judge 62 = .ok (.i2l, 1) := by decide +kernel
theorem dX10_judge_63 : decode cX10_judge 63 = .ok (.ladd, 1) := by decide +kernel
theorem dX10_judge_64 : decode cX10_judge 64 = .ok (.invokevirtual 301, 3) := by decide +kernel
theorem dX10_judge_67 : decode cX10_judge 67 = .ok (.ifCond .ne 9, 3) := by decide +kernel
theorem dX10_judge_70 : decode cX10_judge 70 = .ok (.bipush 100, 2) := by decide +kernel
theorem dX10_judge_72 : decode cX10_judge 72 = .ok (.iload 4, 2) := by decide +kernel
theorem dX10_judge_74 : decode cX10_judge 74 = .ok (.iadd, 1) := by decide +kernel
theorem dX10_judge_75 : decode cX10_judge 75 = .ok (.ireturn, 1) := by decide +kernel
theorem dX10_judge_76 : decode cX10_judge 76 = .ok (.aload 5, 2) := by decide +kernel
theorem dX10_judge_78 : decode cX10_judge 78 = .ok (.ifnull 21, 3) := by decide +kernel
theorem dX10_judge_81 : decode cX10_judge 81 = .ok (.aload_n 3, 1) := by decide +kernel
theorem dX10_judge_82 : decode cX10_judge 82 = .ok (.iload_n 2, 1) := by decide +kernel
theorem dX10_judge_83 : decode cX10_judge 83 = .ok (.iload 4, 2) := by decide +kernel
theorem dX10_judge_85 : decode cX10_judge 85 = .ok (.iadd, 1) := by decide +kernel
theorem dX10_judge_86 : decode cX10_judge 86 = .ok (.invokevirtual 305, 3) := by decide +kernel
theorem dX10_judge_89 : decode cX10_judge 89 = .ok (.aload 5, 2) := by decide +kernel
theorem dX10_judge_91 : decode cX10_judge 91 = .ok (.getfield 156, 3) := by decide +kernel
theorem dX10_judge_94 : decode cX10_judge 94 = .ok (.i2l, 1) := by decide +kernel
theorem dX10_judge_95 : decode cX10_judge 95 = .ok (.lcmp, 1) := by decide +kernel
theorem dX10_judge_96 : decode cX10_judge 96 = .ok (.ifCond .eq 6, 3) := by decide +kernel
theorem dX10_judge_99 : decode cX10_judge 99 = .ok (.iload 4, 2) := by decide +kernel
theorem dX10_judge_101 : decode cX10_judge 101 = .ok (.ireturn, 1) := by decide +kernel
theorem dX10_judge_102 : decode cX10_judge 102 = .ok (.iinc 4 1, 3) := by decide +kernel
theorem dX10_judge_105 : decode cX10_judge 105 = .ok (.goto (-71), 3) := by decide +kernel
theorem dX10_judge_108 : decode cX10_judge 108 = .ok (.bipush (-5), 2) := by decide +kernel
theorem dX10_judge_110 : decode cX10_judge 110 = .ok (.ireturn, 1) := by decide +kernel
theorem dX10_image_0 : decode cX10_image 0 = .ok (.aload_n 0, 1) := by decide +kernel
theorem dX10_image_1 : decode cX10_image 1 = .ok (.getfield 52, 3) := by decide +kernel
theorem dX10_image_4 : decode cX10_image 4 = .ok (.aload_n 0, 1) := by decide +kernel
theorem dX10_image_5 : decode cX10_image 5 = .ok (.getfield 48, 3) := by decide +kernel
theorem dX10_image_8 : decode cX10_image 8 = .ok (.invokevirtual 308, 3) := by decide +kernel
theorem dX10_image_11 : decode cX10_image 11 = .ok (.aload_n 0, 1) := by decide +kernel
theorem dX10_image_12 : decode cX10_image 12 = .ok (.iconst 1, 1) := by decide +kernel
theorem dX10_image_13 : decode cX10_image 13 = .ok (.putfield 311, 3) := by decide +kernel
theorem dX10_image_16 : decode cX10_image 16 = .ok (.aload_n 0, 1) := by decide +kernel
theorem dX10_image_17 : decode cX10_image 17 = .ok (.getfield 48, 3) := by decide +kernel
theorem dX10_image_20 : decode cX10_image 20 = .ok (.getfield 149, 3) := by decide +kernel
theorem dX10_image_23 : decode cX10_image 23 = .ok (.ireturn, 1) := by decide +kernel
theorem dX10_undo_0 : decode cX10_undo 0 = .ok (.aload_n 0, 1) := by decide +kernel
theorem dX10_undo_1 : decode cX10_undo 1 = .ok (.getfield 311, 3) := by decide +kernel
theorem dX10_undo_4 : decode cX10_undo 4 = .ok (.ifCond .ne 6, 3) := by decide +kernel
theorem dX10_undo_7 : decode cX10_undo 7 = .ok (.bipush (-3), 2) := by decide +kernel
theorem dX10_undo_9 : decode cX10_undo 9 = .ok (.ireturn, 1) := by decide +kernel
theorem dX10_undo_10 : decode cX10_undo 10 = .ok (.aload_n 0, 1) := by decide +kernel
theorem dX10_undo_11 : decode cX10_undo 11 = .ok (.getfield 48, 3) := by decide +kernel
theorem dX10_undo_14 : decode cX10_undo 14 = .ok (.aload_n 0, 1) := by decide +kernel
theorem dX10_undo_15 : decode cX10_undo 15 = .ok (.getfield 52, 3) := by decide +kernel
theorem dX10_undo_18 : decode cX10_undo 18 = .ok (.invokevirtual 308, 3) := by decide +kernel
theorem dX10_undo_21 : decode cX10_undo 21 = .ok (.aload_n 0, 1) := by decide +kernel
theorem dX10_undo_22 : decode cX10_undo 22 = .ok (.getfield 48, 3) := by decide +kernel
theorem dX10_undo_25 : decode cX10_undo 25 = .ok (.getfield 149, 3) := by decide +kernel
theorem dX10_undo_28 : decode cX10_undo 28 = .ok (.ireturn, 1) := by decide +kernel
theorem dX10_act_0 : decode cX10_act 0 = .ok (.aload_n 0, 1) := by decide +kernel
theorem dX10_act_1 : decode cX10_act 1 = .ok (.getfield 28, 3) := by decide +kernel
theorem dX10_act_4 : decode cX10_act 4 = .ok (.iconst 0, 1) := by decide +kernel
theorem dX10_act_5 : decode cX10_act 5 = .ok (.putfield 315, 3) := by decide +kernel
theorem dX10_act_8 : decode cX10_act 8 = .ok (.aload_n 0, 1) := by decide +kernel
theorem dX10_act_9 : decode cX10_act 9 = .ok (.getfield 48, 3) := by decide +kernel
theorem dX10_act_12 : decode cX10_act 12 = .ok (.iload_n 1, 1) := by decide +kernel
theorem dX10_act_13 : decode cX10_act 13 = .ok (.invokevirtual 152, 3) := by decide +kernel
theorem dX10_act_16 : decode cX10_act 16 = .ok (.astore 4, 2) := by decide +kernel
theorem dX10_act_18 : decode cX10_act 18 = .ok (.aload 4, 2) := by decide +kernel
theorem dX10_act_20 : decode cX10_act 20 = .ok (.ifnonnull 5, 3) := by decide +kernel
theorem dX10_act_23 : decode cX10_act 23 = .ok (.iconst 0, 1) := by decide +kernel
theorem dX10_act_24 : decode cX10_act 24 = .ok (.ireturn, 1) := by decide +kernel
theorem dX10_act_25 : decode cX10_act 25 = .ok (.aload_n 0, 1) := by decide +kernel
theorem dX10_act_26 : decode cX10_act 26 = .ok (.getfield 28, 3) := by decide +kernel
theorem dX10_act_29 : decode cX10_act 29 = .ok (.aload 4, 2) := by decide +kernel
theorem dX10_act_31 : decode cX10_act 31 = .ok (.getfield 136, 3) := by decide +kernel
theorem dX10_act_34 : decode cX10_act 34 = .ok (.aload 4, 2) := by decide +kernel
theorem dX10_act_36 : decode cX10_act 36 = .ok (.getfield 139, 3) := by decide +kernel
theorem dX10_act_39 : decode cX10_act 39 = .ok (.iload_n 1, 1) := by decide +kernel
theorem dX10_act_40 : decode cX10_act 40 = .ok (.invokevirtual 318, 3) := by decide +kernel
theorem dX10_act_43 : decode cX10_act 43 = .ok (.iload_n 2, 1) := by decide +kernel
theorem dX10_act_44 : decode cX10_act 44 = .ok (.tableswitch 55 0 2 #[28, 37, 46], 28) := by decide +kernel
theorem dX10_act_72 : decode cX10_act 72 = .ok (.aload_n 0, 1) := by decide +kernel
theorem dX10_act_73 : decode cX10_act 73 = .ok (.getfield 28, 3) := by decide +kernel
theorem dX10_act_76 : decode cX10_act 76 = .ok (.iload_n 3, 1) := by decide +kernel
theorem dX10_act_77 : decode cX10_act 77 = .ok (.invokevirtual 320, 3) := by decide +kernel
theorem dX10_act_80 : decode cX10_act 80 = .ok (.ireturn, 1) := by decide +kernel
theorem dX10_act_81 : decode cX10_act 81 = .ok (.aload_n 0, 1) := by decide +kernel
theorem dX10_act_82 : decode cX10_act 82 = .ok (.getfield 28, 3) := by decide +kernel
theorem dX10_act_85 : decode cX10_act 85 = .ok (.iload_n 3, 1) := by decide +kernel
theorem dX10_act_86 : decode cX10_act 86 = .ok (.invokevirtual 322, 3) := by decide +kernel
theorem dX10_act_89 : decode cX10_act 89 = .ok (.ireturn, 1) := by decide +kernel
theorem dX10_act_90 : decode cX10_act 90 = .ok (.aload_n 0, 1) := by decide +kernel
theorem dX10_act_91 : decode cX10_act 91 = .ok (.getfield 28, 3) := by decide +kernel
theorem dX10_act_94 : decode cX10_act 94 = .ok (.iload_n 3, 1) := by decide +kernel
theorem dX10_act_95 : decode cX10_act 95 = .ok (.invokevirtual 325, 3) := by decide +kernel
theorem dX10_act_98 : decode cX10_act 98 = .ok (.ireturn, 1) := by decide +kernel
theorem dX10_act_99 : decode cX10_act 99 = .ok (.iconst 0, 1) := by decide +kernel
theorem dX10_act_100 : decode cX10_act 100 = .ok (.ireturn, 1) := by decide +kernel
theorem dX10_trace_0 : decode cX10_trace 0 = .ok (.iload_n 1, 1) := by decide +kernel
theorem dX10_trace_1 : decode cX10_trace 1 = .ok (.ifCond .lt 32, 3) := by decide +kernel
theorem dX10_trace_4 : decode cX10_trace 4 = .ok (.iload_n 1, 1) := by decide +kernel
theorem dX10_trace_5 : decode cX10_trace 5 = .ok (.aload_n 0, 1) := by decide +kernel
theorem dX10_trace_6 : decode cX10_trace 6 = .ok (.getfield 28, 3) := by decide +kernel
theorem dX10_trace_9 : decode cX10_trace 9 = .ok (.getfield 315, 3) := by decide +kernel
theorem dX10_trace_12 : decode cX10_trace 12 = .ok (.if_icmp .ge 21, 3) := by decide +kernel
theorem dX10_trace_15 : decode cX10_trace 15 = .ok (.iload_n 1, 1) := by decide +kernel
theorem dX10_trace_16 : decode cX10_trace 16 = .ok (.bipush 20, 2) := by decide +kernel
theorem dX10_trace_18 : decode cX10_trace 18 = .ok (.if_icmp .ge 15, 3) := by decide +kernel
theorem dX10_trace_21 : decode cX10_trace 21 = .ok (.aload_n 0, 1) := by decide +kernel
theorem dX10_trace_22 : decode cX10_trace 22 = .ok (.getfield 28, 3) := by decide +kernel
theorem dX10_trace_25 : decode cX10_trace 25 = .ok (.getfield 328, 3) := by decide +kernel
theorem dX10_trace_28 : decode cX10_trace 28 = .ok (.iload_n 1, 1) := by decide +kernel
theorem dX10_trace_29 : decode cX10_trace 29 = .ok (.iaload, 1) := by decide +kernel
theorem dX10_trace_30 : decode cX10_trace 30 = .ok (.goto 4, 3) := by decide +kernel
theorem dX10_trace_33 : decode cX10_trace 33 = .ok (.iconst (-1), 1) := by decide +kernel
theorem dX10_trace_34 : decode cX10_trace 34 = .ok (.ireturn, 1) := by decide +kernel
theorem dX10_taken_0 : decode cX10_taken 0 = .ok (.iload_n 2, 1) := by decide +kernel
theorem dX10_taken_1 : decode cX10_taken 1 = .ok (.invokestatic 119, 3) := by decide +kernel
theorem dX10_taken_4 : decode cX10_taken 4 = .ok (.ifCond .ne 6, 3) := by decide +kernel
theorem dX10_taken_7 : decode cX10_taken 7 = .ok (.bipush (-2), 2) := by decide +kernel
theorem dX10_taken_9 : decode cX10_taken 9 = .ok (.ireturn, 1) := by decide +kernel
theorem dX10_taken_10 : decode cX10_taken 10 = .ok (.aload_n 0, 1) := by decide +kernel
theorem dX10_taken_11 : decode cX10_taken 11 = .ok (.getfield 48, 3) := by decide +kernel
theorem dX10_taken_14 : decode cX10_taken 14 = .ok (.iload_n 1, 1) := by decide +kernel
theorem dX10_taken_15 : decode cX10_taken 15 = .ok (.invokevirtual 152, 3) := by decide +kernel
theorem dX10_taken_18 : decode cX10_taken 18 = .ok (.astore_n 3, 1) := by decide +kernel
theorem dX10_taken_19 : decode cX10_taken 19 = .ok (.aload_n 3, 1) := by decide +kernel
theorem dX10_taken_20 : decode cX10_taken 20 = .ok (.ifnonnull 6, 3) := by decide +kernel
theorem dX10_taken_23 : decode cX10_taken 23 = .ok (.bipush (-11), 2) := by decide +kernel
theorem dX10_taken_25 : decode cX10_taken 25 = .ok (.ireturn, 1) := by decide +kernel
theorem dX10_taken_26 : decode cX10_taken 26 = .ok (.aload_n 3, 1) := by decide +kernel
theorem dX10_taken_27 : decode cX10_taken 27 = .ok (.getfield 136, 3) := by decide +kernel
theorem dX10_taken_30 : decode cX10_taken 30 = .ok (.iload_n 2, 1) := by decide +kernel
theorem dX10_taken_31 : decode cX10_taken 31 = .ok (.invokestatic 332, 3) := by decide +kernel
theorem dX10_taken_34 : decode cX10_taken 34 = .ok (.ifCond .eq 10, 3) := by decide +kernel
theorem dX10_taken_37 : decode cX10_taken 37 = .ok (.aload_n 3, 1) := by decide +kernel
theorem dX10_taken_38 : decode cX10_taken 38 = .ok (.getfield 136, 3) := by decide +kernel
theorem dX10_taken_41 : decode cX10_taken 41 = .ok (.goto 5, 3) := by decide +kernel
theorem dX10_taken_44 : decode cX10_taken 44 = .ok (.bipush (-12), 2) := by decide +kernel
theorem dX10_taken_46 : decode cX10_taken 46 = .ok (.ireturn, 1) := by decide +kernel
theorem dX10_count_0 : decode cX10_count 0 = .ok (.iload_n 1, 1) := by decide +kernel
theorem dX10_count_1 : decode cX10_count 1 = .ok (.tableswitch 90 0 5 #[39, 47, 52, 63, 74, 82], 39) := by decide +kernel
theorem dX10_count_40 : decode cX10_count 40 = .ok (.aload_n 0, 1) := by decide +kernel
theorem dX10_count_41 : decode cX10_count 41 = .ok (.getfield 48, 3) := by decide +kernel
theorem dX10_count_44 : decode cX10_count 44 = .ok (.getfield 149, 3) := by decide +kernel
theorem dX10_count_47 : decode cX10_count 47 = .ok (.ireturn, 1) := by decide +kernel
theorem dX10_count_48 : decode cX10_count 48 = .ok (.aload_n 0, 1) := by decide +kernel
theorem dX10_count_49 : decode cX10_count 49 = .ok (.getfield 88, 3) := by decide +kernel
theorem dX10_count_52 : decode cX10_count 52 = .ok (.ireturn, 1) := by decide +kernel
theorem dX10_count_53 : decode cX10_count 53 = .ok (.aload_n 0, 1) := by decide +kernel
theorem dX10_count_54 : decode cX10_count 54 = .ok (.getfield 48, 3) := by decide +kernel
theorem dX10_count_57 : decode cX10_count 57 = .ok (.getfield 254, 3) := by decide +kernel
theorem dX10_count_60 : decode cX10_count 60 = .ok (.getfield 266, 3) := by decide +kernel
theorem dX10_count_63 : decode cX10_count 63 = .ok (.ireturn, 1) := by decide +kernel
theorem dX10_count_64 : decode cX10_count 64 = .ok (.aload_n 0, 1) := by decide +kernel
theorem dX10_count_65 : decode cX10_count 65 = .ok (.getfield 48, 3) := by decide +kernel
theorem dX10_count_68 : decode cX10_count 68 = .ok (.getfield 269, 3) := by decide +kernel
theorem dX10_count_71 : decode cX10_count 71 = .ok (.getfield 266, 3) := by decide +kernel
theorem dX10_count_74 : decode cX10_count 74 = .ok (.ireturn, 1) := by decide +kernel
theorem dX10_count_75 : decode cX10_count 75 = .ok (.aload_n 0, 1) := by decide +kernel
theorem dX10_count_76 : decode cX10_count 76 = .ok (.getfield 14, 3) := by decide +kernel
theorem dX10_count_79 : decode cX10_count 79 = .ok (.getfield 84, 3) := by decide +kernel
theorem dX10_count_82 : decode cX10_count 82 = .ok (.ireturn, 1) := by decide +kernel
theorem dX10_count_83 : decode cX10_count 83 = .ok (.aload_n 0, 1) := by decide +kernel
theorem dX10_count_84 : decode cX10_count 84 = .ok (.getfield 28, 3) := by decide +kernel
theorem dX10_count_87 : decode cX10_count 87 = .ok (.getfield 315, 3) := by decide +kernel
theorem dX10_count_90 : decode cX10_count 90 = .ok (.ireturn, 1) := by decide +kernel
theorem dX10_count_91 : decode cX10_count 91 = .ok (.bipush (-2), 2) := by decide +kernel
theorem dX10_count_93 : decode cX10_count 93 = .ok (.ireturn, 1) := by decide +kernel
theorem dX10_tape_0 : decode cX10_tape 0 = .ok (.aload_n 0, 1) := by decide +kernel
theorem dX10_tape_1 : decode cX10_tape 1 = .ok (.iload_n 1, 1) := by decide +kernel
theorem dX10_tape_2 : decode cX10_tape 2 = .ok (.invokevirtual 294, 3) := by decide +kernel
theorem dX10_tape_5 : decode cX10_tape 5 = .ok (.astore 4, 2) := by decide +kernel
theorem dX10_tape_7 : decode cX10_tape 7 = .ok (.aload 4, 2) := by decide +kernel
theorem dX10_tape_9 : decode cX10_tape 9 = .ok (.ifnonnull 5, 3) := by decide +kernel
theorem dX10_tape_12 : decode cX10_tape 12 = .ok (.iconst (-1), 1) := by decide +kernel
theorem dX10_tape_13 : decode cX10_tape 13 = .ok (.ireturn, 1) := by decide +kernel
theorem dX10_tape_14 : decode cX10_tape 14 = .ok (.iload_n 2, 1) := by decide +kernel
theorem dX10_tape_15 : decode cX10_tape 15 = .ok (.iconst (-1), 1) := by decide +kernel
theorem dX10_tape_16 : decode cX10_tape 16 = .ok (.if_icmp .lt 19, 3) := by decide +kernel
theorem dX10_tape_19 : decode cX10_tape 19 = .ok (.iload_n 2, 1) := by decide +kernel
theorem dX10_tape_20 : decode cX10_tape 20 = .ok (.iconst 4, 1) := by decide +kernel
theorem dX10_tape_21 : decode cX10_tape 21 = .ok (.if_icmp .gt 14, 3) := by decide +kernel
theorem dX10_tape_24 : decode cX10_tape 24 = .ok (.iload_n 2, 1) := by decide +kernel
theorem dX10_tape_25 : decode cX10_tape 25 = .ok (.iconst (-1), 1) := by decide +kernel
theorem dX10_tape_26 : decode cX10_tape 26 = .ok (.if_icmp .eq 12, 3) := by decide +kernel
theorem dX10_tape_29 : decode cX10_tape 29 = .ok (.iload_n 3, 1) := by decide +kernel
theorem dX10_tape_30 : decode cX10_tape 30 = .ok (.bipush 60, 2) := by decide +kernel
theorem dX10_tape_32 : decode cX10_tape 32 = .ok (.if_icmp .le 6, 3) := by decide +kernel
theorem dX10_tape_35 : decode cX10_tape 35 = .ok (.bipush (-2), 2) := by decide +kernel
theorem dX10_tape_37 : decode cX10_tape 37 = .ok (.ireturn, 1) := by decide +kernel
theorem dX10_tape_38 : decode cX10_tape 38 = .ok (.iload_n 2, 1) := by decide +kernel
theorem dX10_tape_39 : decode cX10_tape 39 = .ok (.iconst (-1), 1) := by decide +kernel
theorem dX10_tape_40 : decode cX10_tape 40 = .ok (.if_icmp .eq 10, 3) := by decide +kernel
theorem dX10_tape_43 : decode cX10_tape 43 = .ok (.iload_n 3, 1) := by decide +kernel
theorem dX10_tape_44 : decode cX10_tape 44 = .ok (.ifCond .ge 6, 3) := by decide +kernel
theorem dX10_tape_47 : decode cX10_tape 47 = .ok (.bipush (-14), 2) := by decide +kernel
theorem dX10_tape_49 : decode cX10_tape 49 = .ok (.ireturn, 1) := by decide +kernel
theorem dX10_tape_50 : decode cX10_tape 50 = .ok (.aload 4, 2) := by decide +kernel
theorem dX10_tape_52 : decode cX10_tape 52 = .ok (.iload_n 2, 1) := by decide +kernel
theorem dX10_tape_53 : decode cX10_tape 53 = .ok (.iload_n 2, 1) := by decide +kernel
theorem dX10_tape_54 : decode cX10_tape 54 = .ok (.iconst (-1), 1) := by decide +kernel
theorem dX10_tape_55 : decode cX10_tape 55 = .ok (.if_icmp .ne 7, 3) := by decide +kernel
theorem dX10_tape_58 : decode cX10_tape 58 = .ok (.iconst 0, 1) := by decide +kernel
theorem dX10_tape_59 : decode cX10_tape 59 = .ok (.goto 4, 3) := by decide +kernel
theorem dX10_tape_62 : decode cX10_tape 62 = .ok (.iload_n 3, 1) := by decide +kernel
theorem dX10_tape_63 : decode cX10_tape 63 = .ok (.invokevirtual 336, 3) := by decide +kernel
theorem dX10_tape_66 : decode cX10_tape 66 = .ok (.iconst 1, 1) := by decide +kernel
theorem dX10_tape_67 : decode cX10_tape 67 = .ok (.ireturn, 1) := by decide +kernel
theorem dX10_item_0 : decode cX10_item 0 = .ok (.aload_n 0, 1) := by decide +kernel
theorem dX10_item_1 : decode cX10_item 1 = .ok (.iload_n 1, 1) := by decide +kernel
theorem dX10_item_2 : decode cX10_item 2 = .ok (.invokevirtual 294, 3) := by decide +kernel
theorem dX10_item_5 : decode cX10_item 5 = .ok (.astore 5, 2) := by decide +kernel
theorem dX10_item_7 : decode cX10_item 7 = .ok (.aload 5, 2) := by decide +kernel
theorem dX10_item_9 : decode cX10_item 9 = .ok (.ifnonnull 5, 3) := by decide +kernel
theorem dX10_item_12 : decode cX10_item 12 = .ok (.iconst (-1), 1) := by decide +kernel
theorem dX10_item_13 : decode cX10_item 13 = .ok (.ireturn, 1) := by decide +kernel
theorem dX10_item_14 : decode cX10_item 14 = .ok (.aload 5, 2) := by decide +kernel
theorem dX10_item_16 : decode cX10_item 16 = .ok (.getfield 298, 3) := by decide +kernel
theorem dX10_item_19 : decode cX10_item 19 = .ok (.iconst (-1), 1) := by decide +kernel
theorem dX10_item_20 : decode cX10_item 20 = .ok (.if_icmp .ne 6, 3) := by decide +kernel
theorem dX10_item_23 : decode cX10_item 23 = .ok (.bipush (-11), 2) := by decide +kernel
theorem dX10_item_25 : decode cX10_item 25 = .ok (.ireturn, 1) := by decide +kernel
theorem dX10_item_26 : decode cX10_item 26 = .ok (.aload 5, 2) := by decide +kernel
theorem dX10_item_28 : decode cX10_item 28 = .ok (.iload_n 2, 1) := by decide +kernel
theorem dX10_item_29 : decode cX10_item 29 = .ok (.i2l, 1) := by decide +kernel
theorem dX10_item_30 : decode cX10_item 30 = .ok (.invokevirtual 301, 3) := by decide +kernel
theorem dX10_item_33 : decode cX10_item 33 = .ok (.ifCond .ne 6, 3) := by decide +kernel
theorem dX10_item_36 : decode cX10_item 36 = .ok (.bipush (-13), 2) := by decide +kernel
theorem dX10_item_38 : decode cX10_item 38 = .ok (.ireturn, 1) := by decide +kernel
theorem dX10_item_39 : decode cX10_item 39 = .ok (.aload 5, 2) := by decide +kernel
theorem dX10_item_41 : decode cX10_item 41 = .ok (.iload_n 2, 1) := by decide +kernel
theorem dX10_item_42 : decode cX10_item 42 = .ok (.lload_n 3, 1) := by decide +kernel
theorem dX10_item_43 : decode cX10_item 43 = .ok (.invokevirtual 339, 3) := by decide +kernel
theorem dX10_item_46 : decode cX10_item 46 = .ok (.iconst 1, 1) := by decide +kernel
theorem dX10_item_47 : decode cX10_item 47 = .ok (.ireturn, 1) := by decide +kernel
theorem dX10_read_0 : decode cX10_read 0 = .ok (.aload_n 0, 1) := by decide +kernel
theorem dX10_read_1 : decode cX10_read 1 = .ok (.iload_n 1, 1) := by decide +kernel
theorem dX10_read_2 : decode cX10_read 2 = .ok (.invokevirtual 294, 3) := by decide +kernel
theorem dX10_read_5 : decode cX10_read 5 = .ok (.astore_n 3, 1) := by decide +kernel
theorem dX10_read_6 : decode cX10_read 6 = .ok (.aload_n 3, 1) := by decide +kernel
theorem dX10_read_7 : decode cX10_read 7 = .ok (.ifnull 12, 3) := by decide +kernel
theorem dX10_read_10 : decode cX10_read 10 = .ok (.aload_n 3, 1) := by decide +kernel
theorem dX10_read_11 : decode cX10_read 11 = .ok (.iload_n 2, 1) := by decide +kernel
theorem dX10_read_12 : decode cX10_read 12 = .ok (.i2l, 1) := by decide +kernel
theorem dX10_read_13 : decode cX10_read 13 = .ok (.invokevirtual 301, 3) := by decide +kernel
theorem dX10_read_16 : decode cX10_read 16 = .ok (.ifCond .ne 9, 3) := by decide +kernel
theorem dX10_read_19 : decode cX10_read 19 = .ok (.ldc2_w 237, 3) := by decide +kernel
theorem dX10_read_22 : decode cX10_read 22 = .ok (.goto 8, 3) := by decide +kernel
theorem dX10_read_25 : decode cX10_read 25 = .ok (.aload_n 3, 1) := by decide +kernel
theorem dX10_read_26 : decode cX10_read 26 = .ok (.iload_n 2, 1) := by decide +kernel
theorem dX10_read_27 : decode cX10_read 27 = .ok (.invokevirtual 305, 3) := by decide +kernel
theorem dX10_read_30 : decode cX10_read 30 = .ok (.lreturn, 1) := by decide +kernel
theorem dX10_shift_0 : decode cX10_shift 0 = .ok (.aload_n 0, 1) := by decide +kernel
theorem dX10_shift_1 : decode cX10_shift 1 = .ok (.iload_n 1, 1) := by decide +kernel
theorem dX10_shift_2 : decode cX10_shift 2 = .ok (.invokevirtual 294, 3) := by decide +kernel
theorem dX10_shift_5 : decode cX10_shift 5 = .ok (.astore 6, 2) := by decide +kernel
theorem dX10_shift_7 : decode cX10_shift 7 = .ok (.aload_n 0, 1) := by decide +kernel
theorem dX10_shift_8 : decode cX10_shift 8 = .ok (.iload_n 3, 1) := by decide +kernel
theorem dX10_shift_9 : decode cX10_shift 9 = .ok (.invokevirtual 294, 3) := by decide +kernel
theorem dX10_shift_12 : decode cX10_shift 12 = .ok (.astore 7, 2) := by decide +kernel
theorem dX10_shift_14 : decode cX10_shift 14 = .ok (.aload 6, 2) := by decide +kernel
theorem dX10_shift_16 : decode cX10_shift 16 = .ok (.ifnull 8, 3) := by decide +kernel
theorem dX10_shift_19 : decode cX10_shift 19 = .ok (.aload 7, 2) := by decide +kernel
theorem dX10_shift_21 : decode cX10_shift 21 = .ok (.ifnonnull 5, 3) := by decide +kernel
theorem dX10_shift_24 : decode cX10_shift 24 = .ok (.iconst (-1), 1) := by decide +kernel
theorem dX10_shift_25 : decode cX10_shift 25 = .ok (.ireturn, 1) := by decide +kernel
theorem dX10_shift_26 : decode cX10_shift 26 = .ok (.aload 6, 2) := by decide +kernel
theorem dX10_shift_28 : decode cX10_shift 28 = .ok (.getfield 298, 3) := by decide +kernel
theorem dX10_shift_31 : decode cX10_shift 31 = .ok (.iconst (-1), 1) := by decide +kernel
theorem dX10_shift_32 : decode cX10_shift 32 = .ok (.if_icmp .eq 12, 3) := by decide +kernel
theorem dX10_shift_35 : decode cX10_shift 35 = .ok (.aload 7, 2) := by decide +kernel
theorem dX10_shift_37 : decode cX10_shift 37 = .ok (.getfield 298, 3) := by decide +kernel
theorem dX10_shift_40 : decode cX10_shift 40 = .ok (.iconst (-1), 1) := by decide +kernel
theorem dX10_shift_41 : decode cX10_shift 41 = .ok (.if_icmp .ne 6, 3) := by decide +kernel
theorem dX10_shift_44 : decode cX10_shift 44 = .ok (.bipush (-11), 2) := by decide +kernel
theorem dX10_shift_46 : decode cX10_shift 46 = .ok (.ireturn, 1) := by decide +kernel
theorem dX10_shift_47 : decode cX10_shift 47 = .ok (.aload 6, 2) := by decide +kernel
theorem dX10_shift_49 : decode cX10_shift 49 = .ok (.getfield 298, 3) := by decide +kernel
theorem dX10_shift_52 : decode cX10_shift 52 = .ok (.aload 7, 2) := by decide +kernel
theorem dX10_shift_54 : decode cX10_shift 54 = .ok (.getfield 298, 3) := by decide +kernel
theorem dX10_shift_57 : decode cX10_shift 57 = .ok (.if_icmp .eq 6, 3) := by decide +kernel
theorem dX10_shift_60 : decode cX10_shift 60 = .ok (.bipush (-12), 2) := by decide +kernel
theorem dX10_shift_62 : decode cX10_shift 62 = .ok (.ireturn, 1) := by decide +kernel
theorem dX10_shift_63 : decode cX10_shift 63 = .ok (.aload 6, 2) := by decide +kernel
theorem dX10_shift_65 : decode cX10_shift 65 = .ok (.iload_n 2, 1) := by decide +kernel
theorem dX10_shift_66 : decode cX10_shift 66 = .ok (.iload 5, 2) := by decide +kernel
theorem dX10_shift_68 : decode cX10_shift 68 = .ok (.invokevirtual 343, 3) := by decide +kernel
theorem dX10_shift_71 : decode cX10_shift 71 = .ok (.ifCond .eq 15, 3) := by decide +kernel
theorem dX10_shift_74 : decode cX10_shift 74 = .ok (.aload 7, 2) := by decide +kernel
theorem dX10_shift_76 : decode cX10_shift 76 = .ok (.iload 4, 2) := by decide +kernel
theorem dX10_shift_78 : decode cX10_shift 78 = .ok (.iload 5, 2) := by decide +kernel
theorem dX10_shift_80 : decode cX10_shift 80 = .ok (.invokevirtual 343, 3) := by decide +kernel
theorem dX10_shift_83 : decode cX10_shift 83 = .ok (.ifCond .ne 6, 3) := by decide +kernel
theorem dX10_shift_86 : decode cX10_shift 86 = .ok (.bipush (-13), 2) := by decide +kernel
theorem dX10_shift_88 : decode cX10_shift 88 = .ok (.ireturn, 1) := by decide +kernel
theorem dX10_shift_89 : decode cX10_shift 89 = .ok (.aload 6, 2) := by decide +kernel
theorem dX10_shift_91 : decode cX10_shift 91 = .ok (.getfield 346, 3) := by decide +kernel
theorem dX10_shift_94 : decode cX10_shift 94 = .ok (.iload_n 2, 1) := by decide +kernel
theorem dX10_shift_95 : decode cX10_shift 95 = .ok (.aload 7, 2) := by decide +kernel
theorem dX10_shift_97 : decode cX10_shift 97 = .ok (.getfield 346, 3) := by decide +kernel
theorem dX10_shift_100 : decode cX10_shift 100 = .ok (.iload 4, 2) := by decide +kernel
theorem dX10_shift_102 : decode cX10_shift 102 = .ok (.iload 5, 2) := by decide +kernel
theorem dX10_shift_104 : decode cX10_shift 104 = .ok (.invokestatic 350, 3) := by decide +kernel
theorem dX10_shift_107 : decode cX10_shift 107 = .ok (.iload 5, 2) := by decide +kernel
theorem dX10_shift_109 : decode cX10_shift 109 = .ok (.ireturn, 1) := by decide +kernel
theorem dX10_tapeAt_0 : decode cX10_tapeAt 0 = .ok (.iload_n 1, 1) := by decide +kernel
theorem dX10_tapeAt_1 : decode cX10_tapeAt 1 = .ok (.ifCond .lt 18, 3) := by decide +kernel
theorem dX10_tapeAt_4 : decode cX10_tapeAt 4 = .ok (.iload_n 1, 1) := by decide +kernel
theorem dX10_tapeAt_5 : decode cX10_tapeAt 5 = .ok (.bipush 6, 2) := by decide +kernel
theorem dX10_tapeAt_7 : decode cX10_tapeAt 7 = .ok (.if_icmp .ge 12, 3) := by decide +kernel
theorem dX10_tapeAt_10 : decode cX10_tapeAt 10 = .ok (.aload_n 0, 1) := by decide +kernel
theorem dX10_tapeAt_11 : decode cX10_tapeAt 11 = .ok (.getfield 34, 3) := by decide +kernel
theorem dX10_tapeAt_14 : decode cX10_tapeAt 14 = .ok (.iload_n 1, 1) := by decide +kernel
theorem dX10_tapeAt_15 : decode cX10_tapeAt 15 = .ok (.aaload, 1) := by decide +kernel
theorem dX10_tapeAt_16 : decode cX10_tapeAt 16 = .ok (.goto 4, 3) := by decide +kernel
theorem dX10_tapeAt_19 : decode cX10_tapeAt 19 = .ok (.aconst_null, 1) := by decide +kernel
theorem dX10_tapeAt_20 : decode cX10_tapeAt 20 = .ok (.areturn, 1) := by decide +kernel
theorem dX10_isCell_0 : decode cX10_isCell 0 = .ok (.iload_n 0, 1) := by decide +kernel
theorem dX10_isCell_1 : decode cX10_isCell 1 = .ok (.ifCond .lt 13, 3) := by decide +kernel
theorem dX10_isCell_4 : decode cX10_isCell 4 = .ok (.iload_n 0, 1) := by decide +kernel
theorem dX10_isCell_5 : decode cX10_isCell 5 = .ok (.bipush 36, 2) := by decide +kernel
theorem dX10_isCell_7 : decode cX10_isCell 7 = .ok (.if_icmp .ge 7, 3) := by decide +kernel
theorem dX10_isCell_10 : decode cX10_isCell 10 = .ok (.iconst 1, 1) := by decide +kernel
theorem dX10_isCell_11 : decode cX10_isCell 11 = .ok (.goto 4, 3) := by decide +kernel
theorem dX10_isCell_14 : decode cX10_isCell 14 = .ok (.iconst 0, 1) := by decide +kernel
theorem dX10_isCell_15 : decode cX10_isCell 15 = .ok (.ireturn, 1) := by decide +kernel
theorem dX10_isWay_0 : decode cX10_isWay 0 = .ok (.iload_n 0, 1) := by decide +kernel
theorem dX10_isWay_1 : decode cX10_isWay 1 = .ok (.ifCond .lt 12, 3) := by decide +kernel
theorem dX10_isWay_4 : decode cX10_isWay 4 = .ok (.iload_n 0, 1) := by decide +kernel
theorem dX10_isWay_5 : decode cX10_isWay 5 = .ok (.iconst 4, 1) := by decide +kernel
theorem dX10_isWay_6 : decode cX10_isWay 6 = .ok (.if_icmp .ge 7, 3) := by decide +kernel
theorem dX10_isWay_9 : decode cX10_isWay 9 = .ok (.iconst 1, 1) := by decide +kernel
theorem dX10_isWay_10 : decode cX10_isWay 10 = .ok (.goto 4, 3) := by decide +kernel
theorem dX10_isWay_13 : decode cX10_isWay 13 = .ok (.iconst 0, 1) := by decide +kernel
theorem dX10_isWay_14 : decode cX10_isWay 14 = .ok (.ireturn, 1) := by decide +kernel
theorem dX10_isKind_0 : decode cX10_isKind 0 = .ok (.iload_n 0, 1) := by decide +kernel
theorem dX10_isKind_1 : decode cX10_isKind 1 = .ok (.ifCond .lt 13, 3) := by decide +kernel
theorem dX10_isKind_4 : decode cX10_isKind 4 = .ok (.iload_n 0, 1) := by decide +kernel
theorem dX10_isKind_5 : decode cX10_isKind 5 = .ok (.bipush 7, 2) := by decide +kernel
theorem dX10_isKind_7 : decode cX10_isKind 7 = .ok (.if_icmp .ge 7, 3) := by decide +kernel
theorem dX10_isKind_10 : decode cX10_isKind 10 = .ok (.iconst 1, 1) := by decide +kernel
theorem dX10_isKind_11 : decode cX10_isKind 11 = .ok (.goto 4, 3) := by decide +kernel
theorem dX10_isKind_14 : decode cX10_isKind 14 = .ok (.iconst 0, 1) := by decide +kernel
theorem dX10_isKind_15 : decode cX10_isKind 15 = .ok (.ireturn, 1) := by decide +kernel
theorem dX10_isNumber_0 : decode cX10_isNumber 0 = .ok (.iload_n 0, 1) := by decide +kernel
theorem dX10_isNumber_1 : decode cX10_isNumber 1 = .ok (.ifCond .lt 13, 3) := by decide +kernel
theorem dX10_isNumber_4 : decode cX10_isNumber 4 = .ok (.iload_n 0, 1) := by decide +kernel
theorem dX10_isNumber_5 : decode cX10_isNumber 5 = .ok (.bipush 10, 2) := by decide +kernel
theorem dX10_isNumber_7 : decode cX10_isNumber 7 = .ok (.if_icmp .ge 7, 3) := by decide +kernel
theorem dX10_isNumber_10 : decode cX10_isNumber 10 = .ok (.iconst 1, 1) := by decide +kernel
theorem dX10_isNumber_11 : decode cX10_isNumber 11 = .ok (.goto 4, 3) := by decide +kernel
theorem dX10_isNumber_14 : decode cX10_isNumber 14 = .ok (.iconst 0, 1) := by decide +kernel
theorem dX10_isNumber_15 : decode cX10_isNumber 15 = .ok (.ireturn, 1) := by decide +kernel
theorem dX10_isStep_0 : decode cX10_isStep 0 = .ok (.iload_n 0, 1) := by decide +kernel
theorem dX10_isStep_1 : decode cX10_isStep 1 = .ok (.ifCond .lt 13, 3) := by decide +kernel
theorem dX10_isStep_4 : decode cX10_isStep 4 = .ok (.iload_n 0, 1) := by decide +kernel
theorem dX10_isStep_5 : decode cX10_isStep 5 = .ok (.bipush 6, 2) := by decide +kernel
theorem dX10_isStep_7 : decode cX10_isStep 7 = .ok (.if_icmp .ge 7, 3) := by decide +kernel
theorem dX10_isStep_10 : decode cX10_isStep 10 = .ok (.iconst 1, 1) := by decide +kernel
theorem dX10_isStep_11 : decode cX10_isStep 11 = .ok (.goto 4, 3) := by decide +kernel
theorem dX10_isStep_14 : decode cX10_isStep 14 = .ok (.iconst 0, 1) := by decide +kernel
theorem dX10_isStep_15 : decode cX10_isStep 15 = .ok (.ireturn, 1) := by decide +kernel
theorem dX10_isPart_0 : decode cX10_isPart 0 = .ok (.iload_n 0, 1) := by decide +kernel
theorem dX10_isPart_1 : decode cX10_isPart 1 = .ok (.ifCond .eq 8, 3) := by decide +kernel
theorem dX10_isPart_4 : decode cX10_isPart 4 = .ok (.iload_n 0, 1) := by decide +kernel
theorem dX10_isPart_5 : decode cX10_isPart 5 = .ok (.iconst 1, 1) := by decide +kernel
theorem dX10_isPart_6 : decode cX10_isPart 6 = .ok (.if_icmp .ne 7, 3) := by decide +kernel
theorem dX10_isPart_9 : decode cX10_isPart 9 = .ok (.iconst 1, 1) := by decide +kernel
theorem dX10_isPart_10 : decode cX10_isPart 10 = .ok (.goto 4, 3) := by decide +kernel
theorem dX10_isPart_13 : decode cX10_isPart 13 = .ok (.iconst 0, 1) := by decide +kernel
theorem dX10_isPart_14 : decode cX10_isPart 14 = .ok (.ireturn, 1) := by decide +kernel
theorem dX10_holds_0 : decode cX10_holds 0 = .ok (.lload_n 0, 1) := by decide +kernel
theorem dX10_holds_1 : decode cX10_holds 1 = .ok (.iload_n 2, 1) := by decide +kernel
theorem dX10_holds_2 : decode cX10_holds 2 = .ok (.lushr, 1) := by decide +kernel
theorem dX10_holds_3 : decode cX10_holds 3 = .ok (.lconst 1, 1) := by decide +kernel
theorem dX10_holds_4 : decode cX10_holds 4 = .ok (.land, 1) := by decide +kernel
theorem dX10_holds_5 : decode cX10_holds 5 = .ok (.lconst 0, 1) := by decide +kernel
theorem dX10_holds_6 : decode cX10_holds 6 = .ok (.lcmp, 1) := by decide +kernel
theorem dX10_holds_7 : decode cX10_holds 7 = .ok (.ifCond .eq 7, 3) := by decide +kernel
theorem dX10_holds_10 : decode cX10_holds 10 = .ok (.iconst 1, 1) := by decide +kernel
theorem dX10_holds_11 : decode cX10_holds 11 = .ok (.goto 4, 3) := by decide +kernel
theorem dX10_holds_14 : decode cX10_holds 14 = .ok (.iconst 0, 1) := by decide +kernel
theorem dX10_holds_15 : decode cX10_holds 15 = .ok (.ireturn, 1) := by decide +kernel
theorem dX10_across_0 : decode cX10_across 0 = .ok (.iload_n 0, 1) := by decide +kernel
theorem dX10_across_1 : decode cX10_across 1 = .ok (.iconst 2, 1) := by decide +kernel
theorem dX10_across_2 : decode cX10_across 2 = .ok (.iadd, 1) := by decide +kernel
theorem dX10_across_3 : decode cX10_across 3 = .ok (.iconst 3, 1) := by decide +kernel
theorem dX10_across_4 : decode cX10_across 4 = .ok (.iand, 1) := by decide +kernel
theorem dX10_across_5 : decode cX10_across 5 = .ok (.ireturn, 1) := by decide +kernel
theorem dX10_next_0 : decode cX10_next 0 = .ok (.iload_n 1, 1) := by decide +kernel
theorem dX10_next_1 : decode cX10_next 1 = .ok (.tableswitch 49 0 3 #[31, 36, 40, 45], 31) := by decide +kernel
theorem dX10_next_32 : decode cX10_next 32 = .ok (.iload_n 0, 1) := by decide +kernel
theorem dX10_next_33 : decode cX10_next 33 = .ok (.bipush 6, 2) := by decide +kernel
theorem dX10_next_35 : decode cX10_next 35 = .ok (.isub, 1) := by decide +kernel
theorem dX10_next_36 : decode cX10_next 36 = .ok (.ireturn, 1) := by decide +kernel
theorem dX10_next_37 : decode cX10_next 37 = .ok (.iload_n 0, 1) := by decide +kernel
theorem dX10_next_38 : decode cX10_next 38 = .ok (.iconst 1, 1) := by decide +kernel
theorem dX10_next_39 : decode cX10_next 39 = .ok (.iadd, 1) := by decide +kernel
theorem dX10_next_40 : decode cX10_next 40 = .ok (.ireturn, 1) := by decide +kernel
theorem dX10_next_41 : decode cX10_next 41 = .ok (.iload_n 0, 1) := by decide +kernel
theorem dX10_next_42 : decode cX10_next 42 = .ok (.bipush 6, 2) := by decide +kernel
theorem dX10_next_44 : decode cX10_next 44 = .ok (.iadd, 1) := by decide +kernel
theorem dX10_next_45 : decode cX10_next 45 = .ok (.ireturn, 1) := by decide +kernel
theorem dX10_next_46 : decode cX10_next 46 = .ok (.iload_n 0, 1) := by decide +kernel
theorem dX10_next_47 : decode cX10_next 47 = .ok (.iconst 1, 1) := by decide +kernel
theorem dX10_next_48 : decode cX10_next 48 = .ok (.isub, 1) := by decide +kernel
theorem dX10_next_49 : decode cX10_next 49 = .ok (.ireturn, 1) := by decide +kernel
theorem dX10_next_50 : decode cX10_next 50 = .ok (.iload_n 0, 1) := by decide +kernel
theorem dX10_next_51 : decode cX10_next 51 = .ok (.ireturn, 1) := by decide +kernel
theorem dX10_moved_0 : decode cX10_moved 0 = .ok (.iload_n 2, 1) := by decide +kernel
theorem dX10_moved_1 : decode cX10_moved 1 = .ok (.tableswitch 61 0 3 #[31, 36, 44, 53], 31) := by decide +kernel
theorem dX10_moved_32 : decode cX10_moved 32 = .ok (.lload_n 0, 1) := by decide +kernel
theorem dX10_moved_33 : decode cX10_moved 33 = .ok (.bipush 6, 2) := by decide +kernel
theorem dX10_moved_35 : decode cX10_moved 35 = .ok (.lushr, 1) := by decide +kernel
theorem dX10_moved_36 : decode cX10_moved 36 = .ok (.lreturn, 1) := by decide +kernel
theorem dX10_moved_37 : decode cX10_moved 37 = .ok (.lload_n 0, 1) := by decide +kernel
theorem dX10_moved_38 : decode cX10_moved 38 = .ok (.ldc2_w 356, 3) := by decide +kernel
theorem dX10_moved_41 : decode cX10_moved 41 = .ok (.land, 1) := by decide +kernel
theorem dX10_moved_42 : decode cX10_moved 42 = .ok (.iconst 1, 1) := by decide +kernel
theorem dX10_moved_43 : decode cX10_moved 43 = .ok (.lshl, 1) := by decide +kernel
theorem dX10_moved_44 : decode cX10_moved 44 = .ok (.lreturn, 1) := by decide +kernel
theorem dX10_moved_45 : decode cX10_moved 45 = .ok (.lload_n 0, 1) := by decide +kernel
theorem dX10_moved_46 : decode cX10_moved 46 = .ok (.bipush 6, 2) := by decide +kernel
theorem dX10_moved_48 : decode cX10_moved 48 = .ok (.lshl, 1) := by decide +kernel
theorem dX10_moved_49 : decode cX10_moved 49 = .ok (.ldc2_w 243, 3) := by decide +kernel
theorem dX10_moved_52 : decode cX10_moved 52 = .ok (.land, 1) := by decide +kernel
theorem dX10_moved_53 : decode cX10_moved 53 = .ok (.lreturn, 1) := by decide +kernel
theorem dX10_moved_54 : decode cX10_moved 54 = .ok (.lload_n 0, 1) := by decide +kernel
theorem dX10_moved_55 : decode cX10_moved 55 = .ok (.ldc2_w 358, 3) := by decide +kernel
theorem dX10_moved_58 : decode cX10_moved 58 = .ok (.land, 1) := by decide +kernel
theorem dX10_moved_59 : decode cX10_moved 59 = .ok (.iconst 1, 1) := by decide +kernel
theorem dX10_moved_60 : decode cX10_moved 60 = .ok (.lushr, 1) := by decide +kernel
theorem dX10_moved_61 : decode cX10_moved 61 = .ok (.lreturn, 1) := by decide +kernel
theorem dX10_moved_62 : decode cX10_moved 62 = .ok (.lload_n 0, 1) := by decide +kernel
theorem dX10_moved_63 : decode cX10_moved 63 = .ok (.lreturn, 1) := by decide +kernel
theorem dX10_facingBy_0 : decode cX10_facingBy 0 = .ok (.iload_n 0, 1) := by decide +kernel
theorem dX10_facingBy_1 : decode cX10_facingBy 1 = .ok (.iconst 4, 1) := by decide +kernel
theorem dX10_facingBy_2 : decode cX10_facingBy 2 = .ok (.if_icmp .ge 7, 3) := by decide +kernel
theorem dX10_facingBy_5 : decode cX10_facingBy 5 = .ok (.iload_n 0, 1) := by decide +kernel
theorem dX10_facingBy_6 : decode cX10_facingBy 6 = .ok (.goto 4, 3) := by decide +kernel
theorem dX10_facingBy_9 : decode cX10_facingBy 9 = .ok (.iload_n 1, 1) := by decide +kernel
theorem dX10_facingBy_10 : decode cX10_facingBy 10 = .ok (.ireturn, 1) := by decide +kernel
theorem dX10_cameBy_0 : decode cX10_cameBy 0 = .ok (.iload_n 0, 1) := by decide +kernel
theorem dX10_cameBy_1 : decode cX10_cameBy 1 = .ok (.iconst 5, 1) := by decide +kernel
theorem dX10_cameBy_2 : decode cX10_cameBy 2 = .ok (.if_icmp .ne 5, 3) := by decide +kernel
theorem dX10_cameBy_5 : decode cX10_cameBy 5 = .ok (.iload_n 2, 1) := by decide +kernel
theorem dX10_cameBy_6 : decode cX10_cameBy 6 = .ok (.ireturn, 1) := by decide +kernel
theorem dX10_cameBy_7 : decode cX10_cameBy 7 = .ok (.iload_n 1, 1) := by decide +kernel
theorem dX10_cameBy_8 : decode cX10_cameBy 8 = .ok (.iconst 4, 1) := by decide +kernel
theorem dX10_cameBy_9 : decode cX10_cameBy 9 = .ok (.if_icmp .ne 7, 3) := by decide +kernel
theorem dX10_cameBy_12 : decode cX10_cameBy 12 = .ok (.iconst 4, 1) := by decide +kernel
theorem dX10_cameBy_13 : decode cX10_cameBy 13 = .ok (.goto 7, 3) := by decide +kernel
theorem dX10_cameBy_16 : decode cX10_cameBy 16 = .ok (.iload_n 1, 1) := by decide +kernel
theorem dX10_cameBy_17 : decode cX10_cameBy 17 = .ok (.invokestatic 360, 3) := by decide +kernel
theorem dX10_cameBy_20 : decode cX10_cameBy 20 = .ok (.ireturn, 1) := by decide +kernel
theorem dX10_above_0 : decode cX10_above 0 = .ok (.iload_n 0, 1) := by decide +kernel
theorem dX10_above_1 : decode cX10_above 1 = .ok (.tableswitch 47 1 6 #[39, 39, 39, 41, 43, 45], 39) := by decide +kernel
theorem dX10_above_40 : decode cX10_above 40 = .ok (.iconst 0, 1) := by decide +kernel
theorem dX10_above_41 : decode cX10_above 41 = .ok (.ireturn, 1) := by decide +kernel
theorem dX10_above_42 : decode cX10_above 42 = .ok (.iconst 1, 1) := by decide +kernel
theorem dX10_above_43 : decode cX10_above 43 = .ok (.ireturn, 1) := by decide +kernel
theorem dX10_above_44 : decode cX10_above 44 = .ok (.iconst 2, 1) := by decide +kernel
theorem dX10_above_45 : decode cX10_above 45 = .ok (.ireturn, 1) := by decide +kernel
theorem dX10_above_46 : decode cX10_above 46 = .ok (.iconst 3, 1) := by decide +kernel
theorem dX10_above_47 : decode cX10_above 47 = .ok (.ireturn, 1) := by decide +kernel
theorem dX10_above_48 : decode cX10_above 48 = .ok (.iconst (-1), 1) := by decide +kernel
theorem dX10_above_49 : decode cX10_above 49 = .ok (.ireturn, 1) := by decide +kernel
theorem dX10_isUnder_0 : decode cX10_isUnder 0 = .ok (.iload_n 0, 1) := by decide +kernel
theorem dX10_isUnder_1 : decode cX10_isUnder 1 = .ok (.istore_n 2, 1) := by decide +kernel
theorem dX10_isUnder_2 : decode cX10_isUnder 2 = .ok (.iconst 0, 1) := by decide +kernel
theorem dX10_isUnder_3 : decode cX10_isUnder 3 = .ok (.istore_n 3, 1) := by decide +kernel
theorem dX10_isUnder_4 : decode cX10_isUnder 4 = .ok (.iload_n 3, 1) := by decide +kernel
theorem dX10_isUnder_5 : decode cX10_isUnder 5 = .ok (.bipush 7, 2) := by decide +kernel
theorem dX10_isUnder_7 : decode cX10_isUnder 7 = .ok (.if_icmp .ge 26, 3) := by decide +kernel
theorem dX10_isUnder_10 : decode cX10_isUnder 10 = .ok (.iload_n 2, 1) := by decide +kernel
theorem dX10_isUnder_11 : decode cX10_isUnder 11 = .ok (.iconst (-1), 1) := by decide +kernel
theorem dX10_isUnder_12 : decode cX10_isUnder 12 = .ok (.if_icmp .eq 21, 3) := by decide +kernel
theorem dX10_isUnder_15 : decode cX10_isUnder 15 = .ok (.iload_n 2, 1) := by decide +kernel
theorem dX10_isUnder_16 : decode cX10_isUnder 16 = .ok (.iload_n 1, 1) := by decide +kernel
theorem dX10_isUnder_17 : decode cX10_isUnder 17 = .ok (.if_icmp .ne 5, 3) := by decide +kernel
theorem dX10_isUnder_20 : decode cX10_isUnder 20 = .ok (.iconst 1, 1) := by decide +kernel
theorem dX10_isUnder_21 : decode cX10_isUnder 21 = .ok (.ireturn, 1) := by decide +kernel
theorem dX10_isUnder_22 : decode cX10_isUnder 22 = .ok (.iload_n 2, 1) := by decide +kernel
theorem dX10_isUnder_23 : decode cX10_isUnder 23 = .ok (.invokestatic 363, 3) := by decide +kernel
theorem dX10_isUnder_26 : decode cX10_isUnder 26 = .ok (.istore_n 2, 1) := by decide +kernel
theorem dX10_isUnder_27 : decode cX10_isUnder 27 = .ok (.iinc 3 1, 3) := by decide +kernel
theorem dX10_isUnder_30 : decode cX10_isUnder 30 = .ok (.goto (-26), 3) := by decide +kernel
theorem dX10_isUnder_33 : decode cX10_isUnder 33 = .ok (.iconst 0, 1) := by decide +kernel
theorem dX10_isUnder_34 : decode cX10_isUnder 34 = .ok (.ireturn, 1) := by decide +kernel
theorem dX10_common_0 : decode cX10_common 0 = .ok (.lload_n 0, 1) := by decide +kernel
theorem dX10_common_1 : decode cX10_common 1 = .ok (.lstore 4, 2) := by decide +kernel
theorem dX10_common_3 : decode cX10_common 3 = .ok (.lload_n 2, 1) := by decide +kernel
theorem dX10_common_4 : decode cX10_common 4 = .ok (.lstore 6, 2) := by decide +kernel
theorem dX10_common_6 : decode cX10_common 6 = .ok (.iconst 0, 1) := by decide +kernel
theorem dX10_common_7 : decode cX10_common 7 = .ok (.istore 8, 2) := by decide +kernel
theorem dX10_common_9 : decode cX10_common 9 = .ok (.iload 8, 2) := by decide +kernel
theorem dX10_common_11 : decode cX10_common 11 = .ok (.sipush 1000, 3) := by decide +kernel
theorem dX10_common_14 : decode cX10_common 14 = .ok (.if_icmp .ge 31, 3) := by decide +kernel
theorem dX10_common_17 : decode cX10_common 17 = .ok (.lload 6, 2) := by decide +kernel
theorem dX10_common_19 : decode cX10_common 19 = .ok (.lconst 0, 1) := by decide +kernel
theorem dX10_common_20 : decode cX10_common 20 = .ok (.lcmp, 1) := by decide +kernel
theorem dX10_common_21 : decode cX10_common 21 = .ok (.ifCond .eq 24, 3) := by decide +kernel
theorem dX10_common_24 : decode cX10_common 24 = .ok (.lload 4, 2) := by decide +kernel
theorem dX10_common_26 : decode cX10_common 26 = .ok (.lload 6, 2) := by decide +kernel
theorem dX10_common_28 : decode cX10_common 28 = .ok (.lrem, 1) := by decide +kernel
theorem dX10_common_29 : decode cX10_common 29 = .ok (.lstore 9, 2) := by decide +kernel
theorem dX10_common_31 : decode cX10_common 31 = .ok (.lload 6, 2) := by decide +kernel
theorem dX10_common_33 : decode cX10_common 33 = .ok (.lstore 4, 2) := by decide +kernel
theorem dX10_common_35 : decode cX10_common 35 = .ok (.lload 9, 2) := by decide +kernel
theorem dX10_common_37 : decode cX10_common 37 = .ok (.lstore 6, 2) := by decide +kernel
theorem dX10_common_39 : decode cX10_common 39 = .ok (.iinc 8 1, 3) := by decide +kernel
theorem dX10_common_42 : decode cX10_common 42 = .ok (.goto (-33), 3) := by decide +kernel
theorem dX10_common_45 : decode cX10_common 45 = .ok (.lload 4, 2) := by decide +kernel
theorem dX10_common_47 : decode cX10_common 47 = .ok (.lreturn, 1) := by decide +kernel
theorem dX11_init_0 : decode cX11_init 0 = .ok (.aload_n 0, 1) := by decide +kernel
theorem dX11_init_1 : decode cX11_init 1 = .ok (.invokespecial 3, 3) := by decide +kernel
theorem dX11_init_4 : decode cX11_init 4 = .ok (.aload_n 0, 1) := by decide +kernel
theorem dX11_init_5 : decode cX11_init 5 = .ok (.bipush 70, 2) := by decide +kernel
theorem dX11_init_7 : decode cX11_init 7 = .ok (.newarray .int, 2) := by decide +kernel
theorem dX11_init_9 : decode cX11_init 9 = .ok (.putfield 9, 3) := by decide +kernel
theorem dX11_init_12 : decode cX11_init 12 = .ok (.aload_n 0, 1) := by decide +kernel
theorem dX11_init_13 : decode cX11_init 13 = .ok (.bipush 70, 2) := by decide +kernel
theorem dX11_init_15 : decode cX11_init 15 = .ok (.newarray .int, 2) := by decide +kernel
theorem dX11_init_17 : decode cX11_init 17 = .ok (.putfield 13, 3) := by decide +kernel
theorem dX11_init_20 : decode cX11_init 20 = .ok (.aload_n 0, 1) := by decide +kernel
theorem dX11_init_21 : decode cX11_init 21 = .ok (.bipush 6, 2) := by decide +kernel
theorem dX11_init_23 : decode cX11_init 23 = .ok (.newarray .int, 2) := by decide +kernel
theorem dX11_init_25 : decode cX11_init 25 = .ok (.putfield 16, 3) := by decide +kernel
theorem dX11_init_28 : decode cX11_init 28 = .ok (.aload_n 0, 1) := by decide +kernel
theorem dX11_init_29 : decode cX11_init 29 = .ok (.bipush 6, 2) := by decide +kernel
theorem dX11_init_31 : decode cX11_init 31 = .ok (.newarray .int, 2) := by decide +kernel
theorem dX11_init_33 : decode cX11_init 33 = .ok (.putfield 19, 3) := by decide +kernel
theorem dX11_init_36 : decode cX11_init 36 = .ok (.aload_n 0, 1) := by decide +kernel
theorem dX11_init_37 : decode cX11_init 37 = .ok (.sipush 216, 3) := by decide +kernel
theorem dX11_init_40 : decode cX11_init 40 = .ok (.newarray .int, 2) := by decide +kernel
theorem dX11_init_42 : decode cX11_init 42 = .ok (.putfield 22, 3) := by decide +kernel
theorem dX11_init_45 : decode cX11_init 45 = .ok (.aload_n 0, 1) := by decide +kernel
theorem dX11_init_46 : decode cX11_init 46 = .ok (.bipush 100, 2) := by decide +kernel
theorem dX11_init_48 : decode cX11_init 48 = .ok (.newarray .int, 2) := by decide +kernel
theorem dX11_init_50 : decode cX11_init 50 = .ok (.putfield 25, 3) := by decide +kernel
theorem dX11_init_53 : decode cX11_init 53 = .ok (.aload_n 0, 1) := by decide +kernel
theorem dX11_init_54 : decode cX11_init 54 = .ok (.bipush 36, 2) := by decide +kernel
theorem dX11_init_56 : decode cX11_init 56 = .ok (.newarray .int, 2) := by decide +kernel
theorem dX11_init_58 : decode cX11_init 58 = .ok (.putfield 28, 3) := by decide +kernel
theorem dX11_init_61 : decode cX11_init 61 = .ok (.aload_n 0, 1) := by decide +kernel
theorem dX11_init_62 : decode cX11_init 62 = .ok (.sipush 5184, 3) := by decide +kernel
theorem dX11_init_65 : decode cX11_init 65 = .ok (.newarray .int, 2) := by decide +kernel
theorem dX11_init_67 : decode cX11_init 67 = .ok (.putfield 31, 3) := by decide +kernel
theorem dX11_init_70 : decode cX11_init 70 = .ok (.aload_n 0, 1) := by decide +kernel
theorem dX11_init_71 : decode cX11_init 71 = .ok (.sipush 5184, 3) := by decide +kernel
theorem dX11_init_74 : decode cX11_init 74 = .ok (.newarray .int, 2) := by decide +kernel
theorem dX11_init_76 : decode cX11_init 76 = .ok (.putfield 34, 3) := by decide +kernel
theorem dX11_init_79 : decode cX11_init 79 = .ok (.aload_n 0, 1) := by decide +kernel
theorem dX11_init_80 : decode cX11_init 80 = .ok (.sipush 5184, 3) := by decide +kernel
theorem dX11_init_83 : decode cX11_init 83 = .ok (.newarray .long, 2) := by decide +kernel
theorem dX11_init_85 : decode cX11_init 85 = .ok (.putfield 37, 3) := by decide +kernel
theorem dX11_init_88 : decode cX11_init 88 = .ok (.aload_n 0, 1) := by decide +kernel
theorem dX11_init_89 : decode cX11_init 89 = .ok (.sipush 5184, 3) := by decide +kernel
theorem dX11_init_92 : decode cX11_init 92 = .ok (.newarray .long, 2) := by decide +kernel
theorem dX11_init_94 : decode cX11_init 94 = .ok (.putfield 41, 3) := by decide +kernel
theorem dX11_init_97 : decode cX11_init 97 = .ok (.aload_n 0, 1) := by decide +kernel
theorem dX11_init_98 : decode cX11_init 98 = .ok (.bipush 41, 2) := by decide +kernel
theorem dX11_init_100 : decode cX11_init 100 = .ok (.newarray .long, 2) := by decide +kernel
theorem dX11_init_102 : decode cX11_init 102 = .ok (.putfield 44, 3) := by decide +kernel
theorem dX11_init_105 : decode cX11_init 105 = .ok (.aload_n 0, 1) := by decide +kernel
theorem dX11_init_106 : decode cX11_init 106 = .ok (.bipush 7, 2) := by decide +kernel
theorem dX11_init_108 : decode cX11_init 108 = .ok (.newarray .int, 2) := by decide +kernel
theorem dX11_init_110 : decode cX11_init 110 = .ok (.putfield 47, 3) := by decide +kernel
theorem dX11_init_113 : decode cX11_init 113 = .ok (.aload_n 0, 1) := by decide +kernel
theorem dX11_init_114 : decode cX11_init 114 = .ok (.bipush 20, 2) := by decide +kernel
theorem dX11_init_116 : decode cX11_init 116 = .ok (.newarray .int, 2) := by decide +kernel
theorem dX11_init_118 : decode cX11_init 118 = .ok (.putfield 50, 3) := by decide +kernel
theorem dX11_init_121 : decode cX11_init 121 = .ok (.aload_n 0, 1) := by decide +kernel
theorem dX11_init_122 : decode cX11_init 122 = .ok (.bipush 6, 2) := by decide +kernel
theorem dX11_init_124 : decode cX11_init 124 = .ok (.newarray .int, 2) := by decide +kernel
theorem dX11_init_126 : decode cX11_init 126 = .ok (.putfield 53, 3) := by decide +kernel
theorem dX11_init_129 : decode cX11_init 129 = .ok (.aload_n 0, 1) := by decide +kernel
theorem dX11_init_130 : decode cX11_init 130 = .ok (.bipush 6, 2) := by decide +kernel
theorem dX11_init_132 : decode cX11_init 132 = .ok (.newarray .int, 2) := by decide +kernel
theorem dX11_init_134 : decode cX11_init 134 = .ok (.putfield 56, 3) := by decide +kernel
theorem dX11_init_137 : decode cX11_init 137 = .ok (.aload_n 0, 1) := by decide +kernel
theorem dX11_init_138 : decode cX11_init 138 = .ok (.bipush 6, 2) := by decide +kernel
theorem dX11_init_140 : decode cX11_init 140 = .ok (.newarray .boolean, 2) := by decide +kernel
theorem dX11_init_142 : decode cX11_init 142 = .ok (.putfield 59, 3) := by decide +kernel
theorem dX11_init_145 : decode cX11_init 145 = .ok (.aload_n 0, 1) := by decide +kernel
theorem dX11_init_146 : decode cX11_init 146 = .ok (.sipush 360, 3) := by decide +kernel
theorem dX11_init_149 : decode cX11_init 149 = .ok (.newarray .long, 2) := by decide +kernel
theorem dX11_init_151 : decode cX11_init 151 = .ok (.putfield 63, 3) := by decide +kernel
theorem dX11_init_154 : decode cX11_init 154 = .ok (.aload_n 0, 1) := by decide +kernel
theorem dX11_init_155 : decode cX11_init 155 = .ok (.getfield 9, 3) := by decide +kernel
theorem dX11_init_158 : decode cX11_init 158 = .ok (.iconst 1, 1) := by decide +kernel
theorem dX11_init_159 : decode cX11_init 159 = .ok (.iconst (-1), 1) := by decide +kernel
theorem dX11_init_160 : decode cX11_init 160 = .ok (.iastore, 1) := by decide +kernel
theorem dX11_init_161 : decode cX11_init 161 = .ok (.return_, 1) := by decide +kernel
theorem dX11_isIn_0 : decode cX11_isIn 0 = .ok (.iload_n 0, 1) := by decide +kernel
theorem dX11_isIn_1 : decode cX11_isIn 1 = .ok (.ifCond .lt 12, 3) := by decide +kernel
theorem dX11_isIn_4 : decode cX11_isIn 4 = .ok (.iload_n 0, 1) := by decide +kernel
theorem dX11_isIn_5 : decode cX11_isIn 5 = .ok (.iload_n 1, 1) := by decide +kernel
theorem dX11_isIn_6 : decode cX11_isIn 6 = .ok (.if_icmp .ge 7, 3) := by decide +kernel
theorem dX11_isIn_9 : decode cX11_isIn 9 = .ok (.iconst 1, 1) := by decide +kernel
theorem dX11_isIn_10 : decode cX11_isIn 10 = .ok (.goto 4, 3) := by decide +kernel
theorem dX11_isIn_13 : decode cX11_isIn 13 = .ok (.iconst 0, 1) := by decide +kernel
theorem dX11_isIn_14 : decode cX11_isIn 14 = .ok (.ireturn, 1) := by decide +kernel
theorem dX11_isWalker_0 : decode cX11_isWalker 0 = .ok (.iload_n 1, 1) := by decide +kernel
theorem dX11_isWalker_1 : decode cX11_isWalker 1 = .ok (.aload_n 0, 1) := by decide +kernel
theorem dX11_isWalker_2 : decode cX11_isWalker 2 = .ok (.getfield 9, 3) := by decide +kernel
theorem dX11_isWalker_5 : decode cX11_isWalker 5 = .ok (.iconst 0, 1) := by decide +kernel
theorem dX11_isWalker_6 : decode cX11_isWalker 6 = .ok (.iaload, 1) := by decide +kernel
theorem dX11_isWalker_7 : decode cX11_isWalker 7 = .ok (.invokestatic 66, 3) := by decide +kernel
theorem dX11_isWalker_10 : decode cX11_isWalker 10 = .ok (.ireturn, 1) := by decide +kernel
theorem dX11_isCell_0 : decode cX11_isCell 0 = .ok (.iload_n 0, 1) := by decide +kernel
theorem dX11_isCell_1 : decode cX11_isCell 1 = .ok (.bipush 36, 2) := by decide +kernel
theorem dX11_isCell_3 : decode cX11_isCell 3 = .ok (.invokestatic 66, 3) := by decide +kernel
theorem dX11_isCell_6 : decode cX11_isCell 6 = .ok (.ireturn, 1) := by decide +kernel
theorem dX11_get_0 : decode cX11_get 0 = .ok (.aload_n 0, 1) := by decide +kernel
theorem dX11_get_1 : decode cX11_get 1 = .ok (.getfield 9, 3) := by decide +kernel
theorem dX11_get_4 : decode cX11_get 4 = .ok (.iconst 4, 1) := by decide +kernel
theorem dX11_get_5 : decode cX11_get 5 = .ok (.bipush 7, 2) := by decide +kernel
theorem dX11_get_7 : decode cX11_get 7 = .ok (.iload_n 1, 1) := by decide +kernel
theorem dX11_get_8 : decode cX11_get 8 = .ok (.imul, 1) := by decide +kernel
theorem dX11_get_9 : decode cX11_get 9 = .ok (.iadd, 1) := by decide +kernel
theorem dX11_get_10 : decode cX11_get 10 = .ok (.iload_n 2, 1) := by decide +kernel
theorem dX11_get_11 : decode cX11_get 11 = .ok (.iadd, 1) := by decide +kernel
theorem dX11_get_12 : decode cX11_get 12 = .ok (.iaload, 1) := by decide +kernel
theorem dX11_get_13 : decode cX11_get 13 = .ok (.ireturn, 1) := by decide +kernel
theorem dX11_puts_0 : decode cX11_puts 0 = .ok (.aload_n 0, 1) := by decide +kernel
theorem dX11_puts_1 : decode cX11_puts 1 = .ok (.getfield 9, 3) := by decide +kernel
theorem dX11_puts_4 : decode cX11_puts 4 = .ok (.iconst 4, 1) := by decide +kernel
theorem dX11_puts_5 : decode cX11_puts 5 = .ok (.bipush 7, 2) := by decide +kernel
theorem dX11_puts_7 : decode cX11_puts 7 = .ok (.iload_n 1, 1) := by decide +kernel
theorem dX11_puts_8 : decode cX11_puts 8 = .ok (.imul, 1) := by decide +kernel
theorem dX11_puts_9 : decode cX11_puts 9 = .ok (.iadd, 1) := by decide +kernel
theorem dX11_puts_10 : decode cX11_puts 10 = .ok (.iload_n 2, 1) := by decide +kernel
theorem dX11_puts_11 : decode cX11_puts 11 = .ok (.iadd, 1) := by decide +kernel
theorem dX11_puts_12 : decode cX11_puts 12 = .ok (.iload_n 3, 1) := by decide +kernel
theorem dX11_puts_13 : decode cX11_puts 13 = .ok (.iastore, 1) := by decide +kernel
theorem dX11_puts_14 : decode cX11_puts 14 = .ok (.return_, 1) := by decide +kernel
theorem dX11_feed_0 : decode cX11_feed 0 = .ok (.iload_n 1, 1) := by decide +kernel
theorem dX11_feed_1 : decode cX11_feed 1 = .ok (.ifCond .lt 9, 3) := by decide +kernel
theorem dX11_feed_4 : decode cX11_feed 4 = .ok (.iload_n 1, 1) := by decide +kernel
theorem dX11_feed_5 : decode cX11_feed 5 = .ok (.bipush 127, 2) := by decide +kernel
theorem dX11_feed_7 : decode cX11_feed 7 = .ok (.if_icmp .le 6, 3) := by decide +kernel
theorem dX11_feed_10 : decode cX11_feed 10 = .ok (.bipush (-2), 2) := by decide +kernel
theorem dX11_feed_12 : decode cX11_feed 12 = .ok (.ireturn, 1) := by decide +kernel
theorem dX11_feed_13 : decode cX11_feed 13 = .ok (.aload_n 0, 1) := by decide +kernel
theorem dX11_feed_14 : decode cX11_feed 14 = .ok (.getfield 70, 3) := by decide +kernel
theorem dX11_feed_17 : decode cX11_feed 17 = .ok (.bipush 100, 2) := by decide +kernel
theorem dX11_feed_19 : decode cX11_feed 19 = .ok (.if_icmp .ne 6, 3) := by decide +kernel
theorem dX11_feed_22 : decode cX11_feed 22 = .ok (.bipush (-4), 2) := by decide +kernel
theorem dX11_feed_24 : decode cX11_feed 24 = .ok (.ireturn, 1) := by decide +kernel
theorem dX11_feed_25 : decode cX11_feed 25 = .ok (.aload_n 0, 1) := by decide +kernel
theorem dX11_feed_26 : decode cX11_feed 26 = .ok (.getfield 25, 3) := by decide +kernel
theorem dX11_feed_29 : decode cX11_feed 29 = .ok (.aload_n 0, 1) := by decide +kernel
theorem dX11_feed_30 : decode cX11_feed 30 = .ok (.getfield 70, 3) := by decide +kernel
theorem dX11_feed_33 : decode cX11_feed 33 = .ok (.iload_n 1, 1) := by decide +kernel
theorem dX11_feed_34 : decode cX11_feed 34 = .ok (.iastore, 1) := by decide +kernel
theorem dX11_feed_35 : decode cX11_feed 35 = .ok (.aload_n 0, 1) := by decide +kernel
theorem dX11_feed_36 : decode cX11_feed 36 = .ok (.dup, 1) := by decide +kernel
theorem dX11_feed_37 : decode cX11_feed 37 = .ok (.getfield 70, 3) := by decide +kernel
theorem dX11_feed_40 : decode cX11_feed 40 = .ok (.iconst 1, 1) := by decide +kernel
theorem dX11_feed_41 : decode cX11_feed 41 = .ok (.iadd, 1) := by decide +kernel
theorem dX11_feed_42 : decode cX11_feed 42 = .ok (.putfield 70, 3) := by decide +kernel
theorem dX11_feed_45 : decode cX11_feed 45 = .ok (.aload_n 0, 1) := by decide +kernel
theorem dX11_feed_46 : decode cX11_feed 46 = .ok (.getfield 70, 3) := by decide +kernel
theorem dX11_feed_49 : decode cX11_feed 49 = .ok (.ireturn, 1) := by decide +kernel
theorem dX11_here_0 : decode cX11_here 0 = .ok (.aload_n 0, 1) := by decide +kernel
theorem dX11_here_1 : decode cX11_here 1 = .ok (.getfield 74, 3) := by decide +kernel
theorem dX11_here_4 : decode cX11_here 4 = .ok (.aload_n 0, 1) := by decide +kernel
theorem dX11_here_5 : decode cX11_here 5 = .ok (.getfield 70, 3) := by decide +kernel
theorem dX11_here_8 : decode cX11_here 8 = .ok (.if_icmp .ge 15, 3) := by decide +kernel
theorem dX11_here_11 : decode cX11_here 11 = .ok (.aload_n 0, 1) := by decide +kernel
theorem dX11_here_12 : decode cX11_here 12 = .ok (.getfield 25, 3) := by decide +kernel
theorem dX11_here_15 : decode cX11_here 15 = .ok (.aload_n 0, 1) := by decide +kernel
theorem dX11_here_16 : decode cX11_here 16 = .ok (.getfield 74, 3) := by decide +kernel
theorem dX11_here_19 : decode cX11_here 19 = .ok (.iaload, 1) := by decide +kernel
theorem dX11_here_20 : decode cX11_here 20 = .ok (.goto 4, 3) := by decide +kernel
theorem dX11_here_23 : decode cX11_here 23 = .ok (.iconst (-1), 1) := by decide +kernel
theorem dX11_here_24 : decode cX11_here 24 = .ok (.ireturn, 1) := by decide +kernel
theorem dX11_takes_0 : decode cX11_takes 0 = .ok (.aload_n 0, 1) := by decide +kernel
theorem dX11_takes_1 : decode cX11_takes 1 = .ok (.getfield 77, 3) := by decide +kernel
theorem dX11_takes_4 : decode cX11_takes 4 = .ok (.ifCond .eq 4, 3) := by decide +kernel
theorem dX11_takes_7 : decode cX11_takes 7 = .ok (.return_, 1) := by decide +kernel
theorem dX11_takes_8 : decode cX11_takes 8 = .ok (.aload_n 0, 1) := by decide +kernel
theorem dX11_takes_9 : decode cX11_takes 9 = .ok (.invokevirtual 81, 3) := by decide +kernel
theorem dX11_takes_12 : decode cX11_takes 12 = .ok (.iload_n 1, 1) := by decide +kernel
theorem dX11_takes_13 : decode cX11_takes 13 = .ok (.if_icmp .ne 16, 3) := by decide +kernel
theorem dX11_takes_16 : decode cX11_takes 16 = .ok (.aload_n 0, 1) := by decide +kernel
theorem dX11_takes_17 : decode cX11_takes 17 = .ok (.dup, 1) := by decide +kernel
theorem dX11_takes_18 : decode cX11_takes 18 = .ok (.getfield 74, 3) := by decide +kernel
theorem dX11_takes_21 : decode cX11_takes 21 = .ok (.iconst 1, 1) := by decide +kernel
theorem dX11_takes_22 : decode cX11_takes 22 = .ok (.iadd, 1) := by decide +kernel
theorem dX11_takes_23 : decode cX11_takes 23 = .ok (.putfield 74, 3) := by decide +kernel
theorem dX11_takes_26 : decode cX11_takes 26 = .ok (.goto 8, 3) := by decide +kernel
theorem dX11_takes_29 : decode cX11_takes 29 = .ok (.aload_n 0, 1) := by decide +kernel
theorem dX11_takes_30 : decode cX11_takes 30 = .ok (.iconst 1, 1) := by decide +kernel
theorem dX11_takes_31 : decode cX11_takes 31 = .ok (.putfield 77, 3) := by decide +kernel
theorem dX11_takes_34 : decode cX11_takes 34 = .ok (.return_, 1) := by decide +kernel
theorem dX11_number_0 : decode cX11_number 0 = .ok (.iconst 0, 1) := by decide +kernel
theorem dX11_number_1 : decode cX11_number 1 = .ok (.istore_n 1, 1) := by decide +kernel
theorem dX11_number_2 : decode cX11_number 2 = .ok (.iconst 0, 1) := by decide +kernel
theorem dX11_number_3 : decode cX11_number 3 = .ok (.istore_n 2, 1) := by decide +kernel
theorem dX11_number_4 : decode cX11_number 4 = .ok (.iload_n 2, 1) := by decide +kernel
theorem dX11_number_5 : decode cX11_number 5 = .ok (.iconst 2, 1) := by decide +kernel
theorem dX11_number_6 : decode cX11_number 6 = .ok (.if_icmp .ge 50, 3) := by decide +kernel
theorem dX11_number_9 : decode cX11_number 9 = .ok (.aload_n 0, 1) := by decide +kernel
theorem dX11_number_10 : decode cX11_number 10 = .ok (.invokevirtual 81, 3) := by decide +kernel
theorem dX11_number_13 : decode cX11_number 13 = .ok (.bipush 48, 2) := by decide +kernel
theorem dX11_number_15 : decode cX11_number 15 = .ok (.if_icmp .lt 41, 3) := by decide +kernel
theorem dX11_number_18 : decode cX11_number 18 = .ok (.aload_n 0, 1) := by decide +kernel
theorem dX11_number_19 : decode cX11_number 19 = .ok (.invokevirtual 81, 3) := by decide +kernel
theorem dX11_number_22 : decode cX11_number 22 = .ok (.bipush 57, 2) := by decide +kernel
theorem dX11_number_24 : decode cX11_number 24 = .ok (.if_icmp .gt 32, 3) := by decide +kernel
theorem dX11_number_27 : decode cX11_number 27 = .ok (.bipush 10, 2) := by decide +kernel
theorem dX11_number_29 : decode cX11_number 29 = .ok (.iload_n 1, 1) := by decide +kernel
theorem dX11_number_30 : decode cX11_number 30 = .ok (.imul, 1) := by decide +kernel
theorem dX11_number_31 : decode cX11_number 31 = .ok (.aload_n 0, 1) := by decide +kernel
theorem dX11_number_32 : decode cX11_number 32 = .ok (.invokevirtual 81, 3) := by decide +kernel
theorem dX11_number_35 : decode cX11_number 35 = .ok (.iadd, 1) := by decide +kernel
theorem dX11_number_36 : decode cX11_number 36 = .ok (.bipush 48, 2) := by decide +kernel
theorem dX11_number_38 : decode cX11_number 38 = .ok (.isub, 1) := by decide +kernel
theorem dX11_number_39 : decode cX11_number 39 = .ok (.istore_n 1, 1) := by decide +kernel
theorem dX11_number_40 : decode cX11_number 40 = .ok (.aload_n 0, 1) := by decide +kernel
theorem dX11_number_41 : decode cX11_number 41 = .ok (.dup, 1) := by decide +kernel
theorem dX11_number_42 : decode cX11_number 42 = .ok (.getfield 74, 3) := by decide +kernel
theorem dX11_number_45 : decode cX11_number 45 = .ok (.iconst 1, 1) := by decide +kernel
theorem dX11_number_46 : decode cX11_number 46 = .ok (.iadd, 1) := by decide +kernel
theorem dX11_number_47 : decode cX11_number 47 = .ok (.putfield 74, 3) := by decide +kernel
theorem dX11_number_50 : decode cX11_number 50 = .ok (.iinc 2 1, 3) := by decide +kernel
theorem dX11_number_53 : decode cX11_number 53 = .ok (.goto (-49), 3) := by decide +kernel
theorem dX11_number_56 : decode cX11_number 56 = .ok (.aload_n 0, 1) := by decide +kernel
theorem dX11_number_57 : decode cX11_number 57 = .ok (.aload_n 0, 1) := by decide +kernel
theorem dX11_number_58 : decode cX11_number 58 = .ok (.getfield 77, 3) := by decide +kernel
theorem dX11_number_61 : decode cX11_number 61 = .ok (.ifCond .ne 7, 3) := by decide +kernel
theorem dX11_number_64 : decode cX11_number 64 = .ok (.iload_n 2, 1) := by decide +kernel
theorem dX11_number_65 : decode cX11_number 65 = .ok (.ifCond .ne 7, 3) := by decide +kernel
theorem dX11_number_68 : decode cX11_number 68 = .ok (.iconst 1, 1) := by decide +kernel
theorem dX11_number_69 : decode cX11_number 69 = .ok (.goto 4, 3) := by decide +kernel
theorem dX11_number_72 : decode cX11_number 72 = .ok (.iconst 0, 1) := by decide +kernel
theorem dX11_number_73 : decode cX11_number 73 = .ok (.putfield 77, 3) := by decide +kernel
theorem dX11_number_76 : decode cX11_number 76 = .ok (.iload_n 1, 1) := by decide +kernel
theorem dX11_number_77 : decode cX11_number 77 = .ok (.ireturn, 1) := by decide +kernel
theorem dX11_amount_0 : decode cX11_amount 0 = .ok (.iload_n 0, 1) := by decide +kernel
theorem dX11_amount_1 : decode cX11_amount 1 = .ok (.ifCond .ge 8, 3) := by decide +kernel
theorem dX11_amount_4 : decode cX11_amount 4 = .ok (.iload_n 0, 1) := by decide +kernel
theorem dX11_amount_5 : decode cX11_amount 5 = .ok (.ineg, 1) := by decide +kernel
theorem dX11_amount_6 : decode cX11_amount 6 = .ok (.goto 4, 3) := by decide +kernel
theorem dX11_amount_9 : decode cX11_amount 9 = .ok (.iload_n 0, 1) := by decide +kernel
theorem dX11_amount_10 : decode cX11_amount 10 = .ok (.ireturn, 1) := by decide +kernel
theorem dX11_valueOf_0 : decode cX11_valueOf 0 = .ok (.iload_n 1, 1) := by decide +kernel
theorem dX11_valueOf_1 : decode cX11_valueOf 1 = .ok (.bipush 6, 2) := by decide +kernel
theorem dX11_valueOf_3 : decode cX11_valueOf 3 = .ok (.idiv, 1) := by decide +kernel
theorem dX11_valueOf_4 : decode cX11_valueOf 4 = .ok (.istore_n 2, 1) := by decide +kernel
theorem dX11_valueOf_5 : decode cX11_valueOf 5 = .ok (.iload_n 1, 1) := by decide +kernel
theorem dX11_valueOf_6 : decode cX11_valueOf 6 = .ok (.bipush 6, 2) := by decide +kernel
theorem dX11_valueOf_8 : decode cX11_valueOf 8 = .ok (.irem, 1) := by decide +kernel
theorem dX11_valueOf_9 : decode cX11_valueOf 9 = .ok (.istore_n 3, 1) := by decide +kernel
theorem dX11_valueOf_10 : decode cX11_valueOf 10 = .ok (.iload_n 0, 1) := by decide +kernel
theorem dX11_valueOf_11 : decode cX11_valueOf 11 = .ok (.lookupswitch 56 #[(99, 43), (100, 49), (114, 41), (115, 45)], 41) := by decide +kernel
theorem dX11_valueOf_52 : decode cX11_valueOf 52 = .ok (.iload_n 2, 1) := by decide +kernel
theorem dX11_valueOf_53 : decode cX11_valueOf 53 = .ok (.ireturn, 1) := by decide +kernel
theorem dX11_valueOf_54 : decode cX11_valueOf 54 = .ok (.iload_n 3, 1) := by decide +kernel
theorem dX11_valueOf_55 : decode cX11_valueOf 55 = .ok (.ireturn, 1) := by decide +kernel
theorem dX11_valueOf_56 : decode cX11_valueOf 56 = .ok (.iload_n 2, 1) := by decide +kernel
theorem dX11_valueOf_57 : decode cX11_valueOf 57 = .ok (.iload_n 3, 1) := by decide +kernel
theorem dX11_valueOf_58 : decode cX11_valueOf 58 = .ok (.iadd, 1) := by decide +kernel
theorem dX11_valueOf_59 : decode cX11_valueOf 59 = .ok (.ireturn, 1) := by decide +kernel
theorem dX11_valueOf_60 : decode cX11_valueOf 60 = .ok (.iload_n 2, 1) := by decide +kernel
theorem dX11_valueOf_61 : decode cX11_valueOf 61 = .ok (.iload_n 3, 1) := by decide +kernel
theorem dX11_valueOf_62 : decode cX11_valueOf 62 = .ok (.isub, 1) := by decide +kernel
theorem dX11_valueOf_63 : decode cX11_valueOf 63 = .ok (.invokestatic 85, 3) := by decide +kernel
theorem dX11_valueOf_66 : decode cX11_valueOf 66 = .ok (.ireturn, 1) := by decide +kernel
theorem dX11_valueOf_67 : decode cX11_valueOf 67 = .ok (.iload_n 1, 1) := by decide +kernel
theorem dX11_valueOf_68 : decode cX11_valueOf 68 = .ok (.ireturn, 1) := by decide +kernel
theorem dX11_test_0 : decode cX11_test 0 = .ok (.aload_n 0, 1) := by decide +kernel
theorem dX11_test_1 : decode cX11_test 1 = .ok (.invokevirtual 81, 3) := by decide +kernel
theorem dX11_test_4 : decode cX11_test 4 = .ok (.istore_n 1, 1) := by decide +kernel
theorem dX11_test_5 : decode cX11_test 5 = .ok (.iload_n 1, 1) := by decide +kernel
theorem dX11_test_6 : decode cX11_test 6 = .ok (.bipush 114, 2) := by decide +kernel
theorem dX11_test_8 : decode cX11_test 8 = .ok (.if_icmp .eq 34, 3) := by decide +kernel
theorem dX11_test_11 : decode cX11_test 11 = .ok (.iload_n 1, 1) := by decide +kernel
theorem dX11_test_12 : decode cX11_test 12 = .ok (.bipush 99, 2) := by decide +kernel
theorem dX11_test_14 : decode cX11_test 14 = .ok (.if_icmp .eq 28, 3) := by decide +kernel
theorem dX11_test_17 : decode cX11_test 17 = .ok (.iload_n 1, 1) := by decide +kernel
theorem dX11_test_18 : decode cX11_test 18 = .ok (.bipush 115, 2) := by decide +kernel
theorem dX11_test_20 : decode cX11_test 20 = .ok (.if_icmp .eq 22, 3) := by decide +kernel
theorem dX11_test_23 : decode cX11_test 23 = .ok (.iload_n 1, 1) := by decide +kernel
theorem dX11_test_24 : decode cX11_test 24 = .ok (.bipush 100, 2) := by decide +kernel
theorem dX11_test_26 : decode cX11_test 26 = .ok (.if_icmp .eq 16, 3) := by decide +kernel
theorem dX11_test_29 : decode cX11_test 29 = .ok (.iload_n 1, 1) := by decide +kernel
theorem dX11_test_30 : decode cX11_test 30 = .ok (.bipush 105, 2) := by decide +kernel
theorem dX11_test_32 : decode cX11_test 32 = .ok (.if_icmp .eq 10, 3) := by decide +kernel
theorem dX11_test_35 : decode cX11_test 35 = .ok (.aload_n 0, 1) := by decide +kernel
theorem dX11_test_36 : decode cX11_test 36 = .ok (.iconst 1, 1) := by decide +kernel
theorem dX11_test_37 : decode cX11_test 37 = .ok (.putfield 77, 3) := by decide +kernel
theorem dX11_test_40 : decode cX11_test 40 = .ok (.lconst 0, 1) := by decide +kernel
theorem dX11_test_41 : decode cX11_test 41 = .ok (.lreturn, 1) := by decide +kernel
theorem dX11_test_42 : decode cX11_test 42 = .ok (.aload_n 0, 1) := by decide +kernel
theorem dX11_test_43 : decode cX11_test 43 = .ok (.dup, 1) := by decide +kernel
theorem dX11_test_44 : decode cX11_test 44 = .ok (.getfield 74, 3) := by decide +kernel
theorem dX11_test_47 : decode cX11_test 47 = .ok (.iconst 1, 1) := by decide +kernel
theorem dX11_test_48 : decode cX11_test 48 = .ok (.iadd, 1) := by decide +kernel
theorem dX11_test_49 : decode cX11_test 49 = .ok (.putfield 74, 3) := by decide +kernel
theorem dX11_test_52 : decode cX11_test 52 = .ok (.aload_n 0, 1) := by decide +kernel
theorem dX11_test_53 : decode cX11_test 53 = .ok (.invokevirtual 81, 3) := by decide +kernel
theorem dX11_test_56 : decode cX11_test 56 = .ok (.istore_n 2, 1) := by decide +kernel
theorem dX11_test_57 : decode cX11_test 57 = .ok (.iload_n 2, 1) := by decide +kernel
theorem dX11_test_58 : decode cX11_test 58 = .ok (.bipush 60, 2) := by decide +kernel
theorem dX11_test_60 : decode cX11_test 60 = .ok (.if_icmp .eq 22, 3) := by decide +kernel
theorem dX11_test_63 : decode cX11_test 63 = .ok (.iload_n 2, 1) := by decide +kernel
theorem dX11_test_64 : decode cX11_test 64 = .ok (.bipush 61, 2) := by decide +kernel
theorem dX11_test_66 : decode cX11_test 66 = .ok (.if_icmp .eq 16, 3) := by decide +kernel
theorem dX11_test_69 : decode cX11_test 69 = .ok (.iload_n 2, 1) := by decide +kernel
theorem dX11_test_70 : decode cX11_test 70 = .ok (.bipush 62, 2) := by decide +kernel
theorem dX11_test_72 : decode cX11_test 72 = .ok (.if_icmp .eq 10, 3) := by decide +kernel
theorem dX11_test_75 : decode cX11_test 75 = .ok (.aload_n 0, 1) := by decide +kernel
theorem dX11_test_76 : decode cX11_test 76 = .ok (.iconst 1, 1) := by decide +kernel
theorem dX11_test_77 : decode cX11_test 77 = .ok (.putfield 77, 3) := by decide +kernel
theorem dX11_test_80 : decode cX11_test 80 = .ok (.lconst 0, 1) := by decide +kernel
theorem dX11_test_81 : decode cX11_test 81 = .ok (.lreturn, 1) := by decide +kernel
theorem dX11_test_82 : decode cX11_test 82 = .ok (.aload_n 0, 1) := by decide +kernel
theorem dX11_test_83 : decode cX11_test 83 = .ok (.dup, 1) := by decide +kernel
theorem dX11_test_84 : decode cX11_test 84 = .ok (.getfield 74, 3) := by decide +kernel
theorem dX11_test_87 : decode cX11_test 87 = .ok (.iconst 1, 1) := by decide +kernel
theorem dX11_test_88 : decode cX11_test 88 = .ok (.iadd, 1) := by decide +kernel
theorem dX11_test_89 : decode cX11_test 89 = .ok (.putfield 74, 3) := by decide +kernel
theorem dX11_test_92 : decode cX11_test 92 = .ok (.aload_n 0, 1) := by decide +kernel
theorem dX11_test_93 : decode cX11_test 93 = .ok (.invokevirtual 89, 3) := by decide +kernel
theorem dX11_test_96 : decode cX11_test 96 = .ok (.istore_n 3, 1) := by decide +kernel
theorem dX11_test_97 : decode cX11_test 97 = .ok (.lconst 0, 1) := by decide +kernel
theorem dX11_test_98 : decode cX11_test 98 = .ok (.lstore 4, 2) := by decide +kernel
theorem dX11_test_100 : decode cX11_test 100 = .ok (.iconst 0, 1) := by decide +kernel
theorem dX11_test_101 : decode cX11_test 101 = .ok (.istore 6, 2) := by decide +kernel
theorem dX11_test_103 : decode cX11_test 103 = .ok (.iload 6, 2) := by decide +kernel
theorem dX11_test_105 : decode cX11_test 105 = .ok (.bipush 36, 2) := by decide +kernel
theorem dX11_test_107 : decode cX11_test 107 = .ok (.if_icmp .ge 62, 3) := by decide +kernel
theorem dX11_test_110 : decode cX11_test 110 = .ok (.iload_n 1, 1) := by decide +kernel
theorem dX11_test_111 : decode cX11_test 111 = .ok (.iload 6, 2) := by decide +kernel
theorem dX11_test_113 : decode cX11_test 113 = .ok (.invokestatic 92, 3) := by decide +kernel
theorem dX11_test_116 : decode cX11_test 116 = .ok (.istore 7, 2) := by decide +kernel
theorem dX11_test_118 : decode cX11_test 118 = .ok (.iload_n 2, 1) := by decide +kernel
theorem dX11_test_119 : decode cX11_test 119 = .ok (.bipush 60, 2) := by decide +kernel
theorem dX11_test_121 : decode cX11_test 121 = .ok (.if_icmp .ne 12, 3) := by decide +kernel
theorem dX11_test_124 : decode cX11_test 124 = .ok (.iload 7, 2) := by decide +kernel
theorem dX11_test_126 : decode cX11_test 126 = .ok (.iload_n 3, 1) := by decide +kernel
theorem dX11_test_127 : decode cX11_test 127 = .ok (.if_icmp .ge 36, 3) := by decide +kernel
theorem dX11_test_130 : decode cX11_test 130 = .ok (.goto 24, 3) := by decide +kernel
theorem dX11_test_133 : decode cX11_test 133 = .ok (.iload_n 2, 1) := by decide +kernel
theorem dX11_test_134 : decode cX11_test 134 = .ok (.bipush 61, 2) := by decide +kernel
theorem dX11_test_136 : decode cX11_test 136 = .ok (.if_icmp .ne 12, 3) := by decide +kernel
theorem dX11_test_139 : decode cX11_test 139 = .ok (.iload 7, 2) := by decide +kernel
theorem dX11_test_141 : decode cX11_test 141 = .ok (.iload_n 3, 1) := by decide +kernel
theorem dX11_test_142 : decode cX11_test 142 = .ok (.if_icmp .ne 21, 3) := by decide +kernel
theorem dX11_test_145 : decode cX11_test 145 = .ok (.goto 9, 3) := by decide +kernel
theorem dX11_test_148 : decode cX11_test 148 = .ok (.iload 7, 2) := by decide +kernel
theorem dX11_test_150 : decode cX11_test 150 = .ok (.iload_n 3, 1) := by decide +kernel
theorem dX11_test_151 : decode cX11_test 151 = .ok (.if_icmp .le 12, 3) := by decide +kernel
theorem dX11_test_154 : decode cX11_test 154 = .ok (.lload 4, 2) := by decide +kernel
theorem dX11_test_156 : decode cX11_test 156 = .ok (.lconst 1, 1) := by decide +kernel
theorem dX11_test_157 : decode cX11_test 157 = .ok (.iload 6, 2) := by decide +kernel
theorem dX11_test_159 : decode cX11_test 159 = .ok (.lshl, 1) := by decide +kernel
theorem dX11_test_160 : decode cX11_test 160 = .ok (.lor, 1) := by decide +kernel
theorem dX11_test_161 : decode cX11_test 161 = .ok (.lstore 4, 2) := by decide +kernel
theorem dX11_test_163 : decode cX11_test 163 = .ok (.iinc 6 1, 3) := by decide +kernel
theorem dX11_test_166 : decode cX11_test 166 = .ok (.goto (-63), 3) := by decide +kernel
theorem dX11_test_169 : decode cX11_test 169 = .ok (.lload 4, 2) := by decide +kernel
theorem dX11_test_171 : decode cX11_test 171 = .ok (.lreturn, 1) := by decide +kernel
theorem dX11_factor_0 : decode cX11_factor 0 = .ok (.aload_n 0, 1) := by decide +kernel
theorem dX11_factor_1 : decode cX11_factor 1 = .ok (.getfield 77, 3) := by decide +kernel
theorem dX11_factor_4 : decode cX11_factor 4 = .ok (.ifCond .eq 5, 3) := by decide +kernel
theorem dX11_factor_7 : decode cX11_factor 7 = .ok (.lconst 0, 1) := by decide +kernel
theorem dX11_factor_8 : decode cX11_factor 8 = .ok (.lreturn, 1) := by decide +kernel
theorem dX11_factor_9 : decode cX11_factor 9 = .ok (.aload_n 0, 1) := by decide +kernel
theorem dX11_factor_10 : decode cX11_factor 10 = .ok (.invokevirtual 81, 3) := by decide +kernel
theorem dX11_factor_13 : decode cX11_factor 13 = .ok (.istore_n 1, 1) := by decide +kernel
theorem dX11_factor_14 : decode cX11_factor 14 = .ok (.iload_n 1, 1) := by decide +kernel
theorem dX11_factor_15 : decode cX11_factor 15 = .ok (.bipush 33, 2) := by decide +kernel
theorem dX11_factor_17 : decode cX11_factor 17 = .ok (.if_icmp .eq 14, 3) := by decide +kernel
theorem dX11_factor_20 : decode cX11_factor 20 = .ok (.iload_n 1, 1) := by decide +kernel
theorem dX11_factor_21 : decode cX11_factor 21 = .ok (.bipush 40, 2) := by decide +kernel
theorem dX11_factor_23 : decode cX11_factor 23 = .ok (.if_icmp .eq 8, 3) := by decide +kernel
theorem dX11_factor_26 : decode cX11_factor 26 = .ok (.aload_n 0, 1) := by decide +kernel
theorem dX11_factor_27 : decode cX11_factor 27 = .ok (.invokevirtual 96, 3) := by decide +kernel
theorem dX11_factor_30 : decode cX11_factor 30 = .ok (.lreturn, 1) := by decide +kernel
theorem dX11_factor_31 : decode cX11_factor 31 = .ok (.aload_n 0, 1) := by decide +kernel
theorem dX11_factor_32 : decode cX11_factor 32 = .ok (.getfield 100, 3) := by decide +kernel
theorem dX11_factor_35 : decode cX11_factor 35 = .ok (.iconst 4, 1) := by decide +kernel
theorem dX11_factor_36 : decode cX11_factor 36 = .ok (.if_icmp .ne 10, 3) := by decide +kernel
theorem dX11_factor_39 : decode cX11_factor 39 = .ok (.aload_n 0, 1) := by decide +kernel
theorem dX11_factor_40 : decode cX11_factor 40 = .ok (.iconst 1, 1) := by decide +kernel
theorem dX11_factor_41 : decode cX11_factor 41 = .ok (.putfield 77, 3) := by decide +kernel
theorem dX11_factor_44 : decode cX11_factor 44 = .ok (.lconst 0, 1) := by decide +kernel
theorem dX11_factor_45 : decode cX11_factor 45 = .ok (.lreturn, 1) := by decide +kernel
theorem dX11_factor_46 : decode cX11_factor 46 = .ok (.aload_n 0, 1) := by decide +kernel
theorem dX11_factor_47 : decode cX11_factor 47 = .ok (.dup, 1) := by decide +kernel
theorem dX11_factor_48 : decode cX11_factor 48 = .ok (.getfield 74, 3) := by decide +kernel
theorem dX11_factor_51 : decode cX11_factor 51 = .ok (.iconst 1, 1) := by decide +kernel
theorem dX11_factor_52 : decode cX11_factor 52 = .ok (.iadd, 1) := by decide +kernel
theorem dX11_factor_53 : decode cX11_factor 53 = .ok (.putfield 74, 3) := by decide +kernel
theorem dX11_factor_56 : decode cX11_factor 56 = .ok (.aload_n 0, 1) := by decide +kernel
theorem dX11_factor_57 : decode cX11_factor 57 = .ok (.dup, 1) := by decide +kernel
theorem dX11_factor_58 : decode cX11_factor 58 = .ok (.getfield 100, 3) := by decide +kernel
theorem dX11_factor_61 : decode cX11_factor 61 = .ok (.iconst 1, 1) := by decide +kernel
theorem dX11_factor_62 : decode cX11_factor 62 = .ok (.iadd, 1) := by decide +kernel
theorem dX11_factor_63 : decode cX11_factor 63 = .ok (.putfield 100, 3) := by decide +kernel
theorem dX11_factor_66 : decode cX11_factor 66 = .ok (.iload_n 1, 1) := by decide +kernel
theorem dX11_factor_67 : decode cX11_factor 67 = .ok (.bipush 33, 2) := by decide +kernel
theorem dX11_factor_69 : decode cX11_factor 69 = .ok (.if_icmp .ne 18, 3) := by decide +kernel
theorem dX11_factor_72 : decode cX11_factor 72 = .ok (.ldc2_w 103, 3) := by decide +kernel
theorem dX11_factor_75 : decode cX11_factor 75 = .ok (.aload_n 0, 1) := by decide +kernel
theorem dX11_factor_76 : decode cX11_factor 76 = .ok (.invokevirtual 105, 3) := by decide +kernel
theorem dX11_factor_79 : decode cX11_factor 79 = .ok (.ldc2_w 108, 3) := by decide +kernel
theorem dX11_factor_82 : decode cX11_factor 82 = .ok (.lxor, 1) := by decide +kernel
theorem dX11_factor_83 : decode cX11_factor 83 = .ok (.land, 1) := by decide +kernel
theorem dX11_factor_84 : decode cX11_factor 84 = .ok (.goto 7, 3) := by decide +kernel
theorem dX11_factor_87 : decode cX11_factor 87 = .ok (.aload_n 0, 1) := by decide +kernel
theorem dX11_factor_88 : decode cX11_factor 88 = .ok (.invokevirtual 110, 3) := by decide +kernel
theorem dX11_factor_91 : decode cX11_factor 91 = .ok (.lstore_n 2, 1) := by decide +kernel
theorem dX11_factor_92 : decode cX11_factor 92 = .ok (.aload_n 0, 1) := by decide +kernel
theorem dX11_factor_93 : decode cX11_factor 93 = .ok (.dup, 1) := by decide +kernel
theorem dX11_factor_94 : decode cX11_factor 94 = .ok (.getfield 100, 3) := by decide +kernel
theorem dX11_factor_97 : decode cX11_factor 97 = .ok (.iconst 1, 1) := by decide +kernel
theorem dX11_factor_98 : decode cX11_factor 98 = .ok (.isub, 1) := by decide +kernel
theorem dX11_factor_99 : decode cX11_factor 99 = .ok (.putfield 100, 3) := by decide +kernel
theorem dX11_factor_102 : decode cX11_factor 102 = .ok (.iload_n 1, 1) := by decide +kernel
theorem dX11_factor_103 : decode cX11_factor 103 = .ok (.bipush 40, 2) := by decide +kernel
theorem dX11_factor_105 : decode cX11_factor 105 = .ok (.if_icmp .ne 9, 3) := by decide +kernel
theorem dX11_factor_108 : decode cX11_factor 108 = .ok (.aload_n 0, 1) := by decide +kernel
theorem dX11_factor_109 : decode cX11_factor 109 = .ok (.bipush 41, 2) := by decide +kernel
theorem dX11_factor_111 : decode cX11_factor 111 = .ok (.invokevirtual 113, 3) := by decide +kernel
theorem dX11_factor_114 : decode cX11_factor 114 = .ok (.lload_n 2, 1) := by decide +kernel
theorem dX11_factor_115 : decode cX11_factor 115 = .ok (.lreturn, 1) := by decide +kernel
theorem dX11_term_0 : decode cX11_term 0 = .ok (.aload_n 0, 1) := by decide +kernel
theorem dX11_term_1 : decode cX11_term 1 = .ok (.invokevirtual 105, 3) := by decide +kernel
theorem dX11_term_4 : decode cX11_term 4 = .ok (.lstore_n 1, 1) := by decide +kernel
theorem dX11_term_5 : decode cX11_term 5 = .ok (.aload_n 0, 1) := by decide +kernel
theorem dX11_term_6 : decode cX11_term 6 = .ok (.getfield 77, 3) := by decide +kernel
theorem dX11_term_9 : decode cX11_term 9 = .ok (.ifCond .ne 32, 3) := by decide +kernel
theorem dX11_term_12 : decode cX11_term 12 = .ok (.aload_n 0, 1) := by decide +kernel
theorem dX11_term_13 : decode cX11_term 13 = .ok (.invokevirtual 81, 3) := by decide +kernel
theorem dX11_term_16 : decode cX11_term 16 = .ok (.bipush 38, 2) := by decide +kernel
theorem dX11_term_18 : decode cX11_term 18 = .ok (.if_icmp .ne 23, 3) := by decide +kernel
theorem dX11_term_21 : decode cX11_term 21 = .ok (.aload_n 0, 1) := by decide +kernel
theorem dX11_term_22 : decode cX11_term 22 = .ok (.dup, 1) := by decide +kernel
theorem dX11_term_23 : decode cX11_term 23 = .ok (.getfield 74, 3) := by decide +kernel
theorem dX11_term_26 : decode cX11_term 26 = .ok (.iconst 1, 1) := by decide +kernel
theorem dX11_term_27 : decode cX11_term 27 = .ok (.iadd, 1) := by decide +kernel
theorem dX11_term_28 : decode cX11_term 28 = .ok (.putfield 74, 3) := by decide +kernel
theorem dX11_term_31 : decode cX11_term 31 = .ok (.lload_n 1, 1) := by decide +kernel
theorem dX11_term_32 : decode cX11_term 32 = .ok (.aload_n 0, 1) := by decide +kernel
theorem dX11_term_33 : decode cX11_term 33 = .ok (.invokevirtual 105, 3) := by decide +kernel
theorem dX11_term_36 : decode cX11_term 36 = .ok (.land, 1) := by decide +kernel
theorem dX11_term_37 : decode cX11_term 37 = .ok (.lstore_n 1, 1) := by decide +kernel
theorem dX11_term_38 : decode cX11_term 38 = .ok (.goto (-33), 3) := by decide +kernel
theorem dX11_term_41 : decode cX11_term 41 = .ok (.lload_n 1, 1) := by decide +kernel
theorem dX11_term_42 : decode cX11_term 42 = .ok (.lreturn, 1) := by decide +kernel
theorem dX11_either_0 : decode cX11_either 0 = .ok (.aload_n 0, 1) := by decide +kernel
theorem dX11_either_1 : decode cX11_either 1 = .ok (.invokevirtual 117, 3) := by decide +kernel
theorem dX11_either_4 : decode cX11_either 4 = .ok (.lstore_n 1, 1) := by decide +kernel
theorem dX11_either_5 : decode cX11_either 5 = .ok (.aload_n 0, 1) := by decide +kernel
theorem dX11_either_6 : decode cX11_either 6 = .ok (.getfield 77, 3) := by decide +kernel
theorem dX11_either_9 : decode cX11_either 9 = .ok (.ifCond .ne 32, 3) := by decide +kernel
theorem dX11_either_12 : decode cX11_either 12 = .ok (.aload_n 0, 1) := by decide +kernel
theorem dX11_either_13 : decode cX11_either 13 = .ok (.invokevirtual 81, 3) := by decide +kernel
theorem dX11_either_16 : decode cX11_either 16 = .ok (.bipush 124, 2) := by decide +kernel
theorem dX11_either_18 : decode cX11_either 18 = .ok (.if_icmp .ne 23, 3) := by decide +kernel
theorem dX11_either_21 : decode cX11_either 21 = .ok (.aload_n 0, 1) := by decide +kernel
theorem dX11_either_22 : decode cX11_either 22 = .ok (.dup, 1) := by decide +kernel
theorem dX11_either_23 : decode cX11_either 23 = .ok (.getfield 74, 3) := by decide +kernel
theorem dX11_either_26 : decode cX11_either 26 = .ok (.iconst 1, 1) := by decide +kernel
theorem dX11_either_27 : decode cX11_either 27 = .ok (.iadd, 1) := by decide +kernel
theorem dX11_either_28 : decode cX11_either 28 = .ok (.putfield 74, 3) := by decide +kernel
theorem dX11_either_31 : decode cX11_either 31 = .ok (.lload_n 1, 1) := by decide +kernel
theorem dX11_either_32 : decode cX11_either 32 = .ok (.aload_n 0, 1) := by decide +kernel
theorem dX11_either_33 : decode cX11_either 33 = .ok (.invokevirtual 117, 3) := by decide +kernel
theorem dX11_either_36 : decode cX11_either 36 = .ok (.lor, 1) := by decide +kernel
theorem dX11_either_37 : decode cX11_either 37 = .ok (.lstore_n 1, 1) := by decide +kernel
theorem dX11_either_38 : decode cX11_either 38 = .ok (.goto (-33), 3) := by decide +kernel
theorem dX11_either_41 : decode cX11_either 41 = .ok (.lload_n 1, 1) := by decide +kernel
theorem dX11_either_42 : decode cX11_either 42 = .ok (.lreturn, 1) := by decide +kernel
theorem dX11_word_0 : decode cX11_word 0 = .ok (.aload_n 0, 1) := by decide +kernel
theorem dX11_word_1 : decode cX11_word 1 = .ok (.iload_n 1, 1) := by decide +kernel
theorem dX11_word_2 : decode cX11_word 2 = .ok (.invokevirtual 113, 3) := by decide +kernel
theorem dX11_word_5 : decode cX11_word 5 = .ok (.aload_n 0, 1) := by decide +kernel
theorem dX11_word_6 : decode cX11_word 6 = .ok (.iload_n 2, 1) := by decide +kernel
theorem dX11_word_7 : decode cX11_word 7 = .ok (.invokevirtual 113, 3) := by decide +kernel
theorem dX11_word_10 : decode cX11_word 10 = .ok (.iload_n 3, 1) := by decide +kernel
theorem dX11_word_11 : decode cX11_word 11 = .ok (.ifCond .eq 8, 3) := by decide +kernel
theorem dX11_word_14 : decode cX11_word 14 = .ok (.aload_n 0, 1) := by decide +kernel
theorem dX11_word_15 : decode cX11_word 15 = .ok (.iload_n 3, 1) := by decide +kernel
theorem dX11_word_16 : decode cX11_word 16 = .ok (.invokevirtual 113, 3) := by decide +kernel
theorem dX11_word_19 : decode cX11_word 19 = .ok (.iload 4, 2) := by decide +kernel
theorem dX11_word_21 : decode cX11_word 21 = .ok (.ifCond .eq 9, 3) := by decide +kernel
theorem dX11_word_24 : decode cX11_word 24 = .ok (.aload_n 0, 1) := by decide +kernel
theorem dX11_word_25 : decode cX11_word 25 = .ok (.iload 4, 2) := by decide +kernel
theorem dX11_word_27 : decode cX11_word 27 = .ok (.invokevirtual 113, 3) := by decide +kernel
theorem dX11_word_30 : decode cX11_word 30 = .ok (.iload 5, 2) := by decide +kernel
theorem dX11_word_32 : decode cX11_word 32 = .ok (.ifCond .eq 9, 3) := by decide +kernel
theorem dX11_word_35 : decode cX11_word 35 = .ok (.aload_n 0, 1) := by decide +kernel
theorem dX11_word_36 : decode cX11_word 36 = .ok (.iload 5, 2) := by decide +kernel
theorem dX11_word_38 : decode cX11_word 38 = .ok (.invokevirtual 113, 3) := by decide +kernel
theorem dX11_word_41 : decode cX11_word 41 = .ok (.aload_n 0, 1) := by decide +kernel
theorem dX11_word_42 : decode cX11_word 42 = .ok (.bipush 32, 2) := by decide +kernel
theorem dX11_word_44 : decode cX11_word 44 = .ok (.invokevirtual 113, 3) := by decide +kernel
theorem dX11_word_47 : decode cX11_word 47 = .ok (.return_, 1) := by decide +kernel
theorem dX11_marksBy_0 : decode cX11_marksBy 0 = .ok (.aload_n 0, 1) := by decide +kernel
theorem dX11_marksBy_1 : decode cX11_marksBy 1 = .ok (.invokevirtual 110, 3) := by decide +kernel
theorem dX11_marksBy_4 : decode cX11_marksBy 4 = .ok (.lstore_n 2, 1) := by decide +kernel
theorem dX11_marksBy_5 : decode cX11_marksBy 5 = .ok (.iconst 0, 1) := by decide +kernel
theorem dX11_marksBy_6 : decode cX11_marksBy 6 = .ok (.istore 4, 2) := by decide +kernel
theorem dX11_marksBy_8 : decode cX11_marksBy 8 = .ok (.iload 4, 2) := by decide +kernel
theorem dX11_marksBy_10 : decode cX11_marksBy 10 = .ok (.bipush 36, 2) := by decide +kernel
theorem dX11_marksBy_12 : decode cX11_marksBy 12 = .ok (.if_icmp .ge 33, 3) := by decide +kernel
theorem dX11_marksBy_15 : decode cX11_marksBy 15 = .ok (.lload_n 2, 1) := by decide +kernel
theorem dX11_marksBy_16 : decode cX11_marksBy 16 = .ok (.iload 4, 2) := by decide +kernel
theorem dX11_marksBy_18 : decode cX11_marksBy 18 = .ok (.lshr, 1) := by decide +kernel
theorem dX11_marksBy_19 : decode cX11_marksBy 19 = .ok (.lconst 1, 1) := by decide +kernel
theorem dX11_marksBy_20 : decode cX11_marksBy 20 = .ok (.land, 1) := by decide +kernel
theorem dX11_marksBy_21 : decode cX11_marksBy 21 = .ok (.lconst 1, 1) := by decide +kernel
theorem dX11_marksBy_22 : decode cX11_marksBy 22 = .ok (.lcmp, 1) := by decide +kernel
theorem dX11_marksBy_23 : decode cX11_marksBy 23 = .ok (.ifCond .ne 16, 3) := by decide +kernel
theorem dX11_marksBy_26 : decode cX11_marksBy 26 = .ok (.aload_n 0, 1) := by decide +kernel
theorem dX11_marksBy_27 : decode cX11_marksBy 27 = .ok (.getfield 28, 3) := by decide +kernel
theorem dX11_marksBy_30 : decode cX11_marksBy 30 = .ok (.iload 4, 2) := by decide +kernel
theorem dX11_marksBy_32 : decode cX11_marksBy 32 = .ok (.dup2, 1) := by decide +kernel
theorem dX11_marksBy_33 : decode cX11_marksBy 33 = .ok (.iaload, 1) := by decide +kernel
theorem dX11_marksBy_34 : decode cX11_marksBy 34 = .ok (.iconst 1, 1) := by decide +kernel
theorem dX11_marksBy_35 : decode cX11_marksBy 35 = .ok (.iload_n 1, 1) := by decide +kernel
theorem dX11_marksBy_36 : decode cX11_marksBy 36 = .ok (.ishl, 1) := by decide +kernel
theorem dX11_marksBy_37 : decode cX11_marksBy 37 = .ok (.ior, 1) := by decide +kernel
theorem dX11_marksBy_38 : decode cX11_marksBy 38 = .ok (.iastore, 1) := by decide +kernel
theorem dX11_marksBy_39 : decode cX11_marksBy 39 = .ok (.iinc 4 1, 3) := by decide +kernel
theorem dX11_marksBy_42 : decode cX11_marksBy 42 = .ok (.goto (-34), 3) := by decide +kernel
theorem dX11_marksBy_45 : decode cX11_marksBy 45 = .ok (.return_, 1) := by decide +kernel
theorem dX11_clause_0 : decode cX11_clause 0 = .ok (.aload_n 0, 1) := by decide +kernel
theorem dX11_clause_1 : decode cX11_clause 1 = .ok (.invokevirtual 81, 3) := by decide +kernel
