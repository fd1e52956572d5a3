theorem dX10_costOfRow_1 : decode cX10_costOfRow 1 = .ok (.lstore 7, 2) := by decide +kernel
theorem dX10_costOfRow_3 : decode cX10_costOfRow 3 = .ok (.iconst 0, 1) := by decide +kernel
theorem dX10_costOfRow_4 : decode cX10_costOfRow 4 = .ok (.istore 9, 2) := by decide +kernel
theorem dX10_costOfRow_6 : decode cX10_costOfRow 6 = .ok (.iload 9, 2) := by decide +kernel
theorem dX10_costOfRow_8 : decode cX10_costOfRow 8 = .ok (.iconst 2, 1) := by decide +kernel
theorem dX10_costOfRow_9 : decode cX10_costOfRow 9 = .ok (.if_icmp .ge 51, 3) := by decide +kernel
theorem dX10_costOfRow_12 : decode cX10_costOfRow 12 = .ok (.aload_n 0, 1) := by decide +kernel
theorem dX10_costOfRow_13 : decode cX10_costOfRow 13 = .ok (.iload 9, 2) := by decide +kernel
theorem dX10_costOfRow_15 : decode cX10_costOfRow 15 = .ok (.invokevirtual 63, 3) := by decide +kernel
theorem dX10_costOfRow_18 : decode cX10_costOfRow 18 = .ok (.istore 10, 2) := by decide +kernel
theorem dX10_costOfRow_20 : decode cX10_costOfRow 20 = .ok (.iload 10, 2) := by decide +kernel
theorem dX10_costOfRow_22 : decode cX10_costOfRow 22 = .ok (.ifCond .le 32, 3) := by decide +kernel
theorem dX10_costOfRow_25 : decode cX10_costOfRow 25 = .ok (.lload 7, 2) := by decide +kernel
theorem dX10_costOfRow_27 : decode cX10_costOfRow 27 = .ok (.iload 10, 2) := by decide +kernel
theorem dX10_costOfRow_29 : decode cX10_costOfRow 29 = .ok (.i2l, 1) := by decide +kernel
theorem dX10_costOfRow_30 : decode cX10_costOfRow 30 = .ok (.aload_n 0, 1) := by decide +kernel
theorem dX10_costOfRow_31 : decode cX10_costOfRow 31 = .ok (.aload_n 1, 1) := by decide +kernel
theorem dX10_costOfRow_32 : decode cX10_costOfRow 32 = .ok (.aload_n 2, 1) := by decide +kernel
theorem dX10_costOfRow_33 : decode cX10_costOfRow 33 = .ok (.iload_n 3, 1) := by decide +kernel
theorem dX10_costOfRow_34 : decode cX10_costOfRow 34 = .ok (.iload 4, 2) := by decide +kernel
theorem dX10_costOfRow_36 : decode cX10_costOfRow 36 = .ok (.aload_n 1, 1) := by decide +kernel
theorem dX10_costOfRow_37 : decode cX10_costOfRow 37 = .ok (.getfield 93, 3) := by decide +kernel
theorem dX10_costOfRow_40 : decode cX10_costOfRow 40 = .ok (.iload 5, 2) := by decide +kernel
theorem dX10_costOfRow_42 : decode cX10_costOfRow 42 = .ok (.isub, 1) := by decide +kernel
theorem dX10_costOfRow_43 : decode cX10_costOfRow 43 = .ok (.iload 9, 2) := by decide +kernel
theorem dX10_costOfRow_45 : decode cX10_costOfRow 45 = .ok (.iload 6, 2) := by decide +kernel
theorem dX10_costOfRow_47 : decode cX10_costOfRow 47 = .ok (.invokevirtual 118, 3) := by decide +kernel
theorem dX10_costOfRow_50 : decode cX10_costOfRow 50 = .ok (.lmul, 1) := by decide +kernel
theorem dX10_costOfRow_51 : decode cX10_costOfRow 51 = .ok (.ladd, 1) := by decide +kernel
theorem dX10_costOfRow_52 : decode cX10_costOfRow 52 = .ok (.lstore 7, 2) := by decide +kernel
theorem dX10_costOfRow_54 : decode cX10_costOfRow 54 = .ok (.iinc 9 1, 3) := by decide +kernel
theorem dX10_costOfRow_57 : decode cX10_costOfRow 57 = .ok (.goto (-51), 3) := by decide +kernel
theorem dX10_costOfRow_60 : decode cX10_costOfRow 60 = .ok (.lload 7, 2) := by decide +kernel
theorem dX10_costOfRow_62 : decode cX10_costOfRow 62 = .ok (.lreturn, 1) := by decide +kernel
theorem dX10_costOfBoth_0 : decode cX10_costOfBoth 0 = .ok (.lconst 0, 1) := by decide +kernel
theorem dX10_costOfBoth_1 : decode cX10_costOfBoth 1 = .ok (.lstore 8, 2) := by decide +kernel
theorem dX10_costOfBoth_3 : decode cX10_costOfBoth 3 = .ok (.lconst 0, 1) := by decide +kernel
theorem dX10_costOfBoth_4 : decode cX10_costOfBoth 4 = .ok (.lstore 10, 2) := by decide +kernel
theorem dX10_costOfBoth_6 : decode cX10_costOfBoth 6 = .ok (.iconst (-1), 1) := by decide +kernel
theorem dX10_costOfBoth_7 : decode cX10_costOfBoth 7 = .ok (.istore 12, 2) := by decide +kernel
theorem dX10_costOfBoth_9 : decode cX10_costOfBoth 9 = .ok (.iconst 0, 1) := by decide +kernel
theorem dX10_costOfBoth_10 : decode cX10_costOfBoth 10 = .ok (.istore 13, 2) := by decide +kernel
theorem dX10_costOfBoth_12 : decode cX10_costOfBoth 12 = .ok (.iload 13, 2) := by decide +kernel
theorem dX10_costOfBoth_14 : decode cX10_costOfBoth 14 = .ok (.aload_n 0, 1) := by decide +kernel
theorem dX10_costOfBoth_15 : decode cX10_costOfBoth 15 = .ok (.iload_n 3, 1) := by decide +kernel
theorem dX10_costOfBoth_16 : decode cX10_costOfBoth 16 = .ok (.invokevirtual 71, 3) := by decide +kernel
theorem dX10_costOfBoth_19 : decode cX10_costOfBoth 19 = .ok (.if_icmp .ge 96, 3) := by decide +kernel
theorem dX10_costOfBoth_22 : decode cX10_costOfBoth 22 = .ok (.iload 5, 2) := by decide +kernel
theorem dX10_costOfBoth_24 : decode cX10_costOfBoth 24 = .ok (.aload_n 0, 1) := by decide +kernel
theorem dX10_costOfBoth_25 : decode cX10_costOfBoth 25 = .ok (.iload_n 3, 1) := by decide +kernel
theorem dX10_costOfBoth_26 : decode cX10_costOfBoth 26 = .ok (.iload 13, 2) := by decide +kernel
theorem dX10_costOfBoth_28 : decode cX10_costOfBoth 28 = .ok (.iload 6, 2) := by decide +kernel
theorem dX10_costOfBoth_30 : decode cX10_costOfBoth 30 = .ok (.invokevirtual 74, 3) := by decide +kernel
theorem dX10_costOfBoth_33 : decode cX10_costOfBoth 33 = .ok (.iadd, 1) := by decide +kernel
theorem dX10_costOfBoth_34 : decode cX10_costOfBoth 34 = .ok (.istore 14, 2) := by decide +kernel
theorem dX10_costOfBoth_36 : decode cX10_costOfBoth 36 = .ok (.iload 14, 2) := by decide +kernel
theorem dX10_costOfBoth_38 : decode cX10_costOfBoth 38 = .ok (.aload_n 1, 1) := by decide +kernel
theorem dX10_costOfBoth_39 : decode cX10_costOfBoth 39 = .ok (.getfield 93, 3) := by decide +kernel
theorem dX10_costOfBoth_42 : decode cX10_costOfBoth 42 = .ok (.invokestatic 47, 3) := by decide +kernel
theorem dX10_costOfBoth_45 : decode cX10_costOfBoth 45 = .ok (.iload 4, 2) := by decide +kernel
theorem dX10_costOfBoth_47 : decode cX10_costOfBoth 47 = .ok (.iadd, 1) := by decide +kernel
theorem dX10_costOfBoth_48 : decode cX10_costOfBoth 48 = .ok (.istore 15, 2) := by decide +kernel
theorem dX10_costOfBoth_50 : decode cX10_costOfBoth 50 = .ok (.iload 15, 2) := by decide +kernel
theorem dX10_costOfBoth_52 : decode cX10_costOfBoth 52 = .ok (.iload 12, 2) := by decide +kernel
theorem dX10_costOfBoth_54 : decode cX10_costOfBoth 54 = .ok (.if_icmp .eq 17, 3) := by decide +kernel
theorem dX10_costOfBoth_57 : decode cX10_costOfBoth 57 = .ok (.aload_n 0, 1) := by decide +kernel
theorem dX10_costOfBoth_58 : decode cX10_costOfBoth 58 = .ok (.aload_n 2, 1) := by decide +kernel
theorem dX10_costOfBoth_59 : decode cX10_costOfBoth 59 = .ok (.iload_n 3, 1) := by decide +kernel
theorem dX10_costOfBoth_60 : decode cX10_costOfBoth 60 = .ok (.iload 15, 2) := by decide +kernel
theorem dX10_costOfBoth_62 : decode cX10_costOfBoth 62 = .ok (.iload 6, 2) := by decide +kernel
theorem dX10_costOfBoth_64 : decode cX10_costOfBoth 64 = .ok (.iload 7, 2) := by decide +kernel
theorem dX10_costOfBoth_66 : decode cX10_costOfBoth 66 = .ok (.invokevirtual 114, 3) := by decide +kernel
theorem dX10_costOfBoth_69 : decode cX10_costOfBoth 69 = .ok (.lstore 10, 2) := by decide +kernel
theorem dX10_costOfBoth_71 : decode cX10_costOfBoth 71 = .ok (.iload 15, 2) := by decide +kernel
theorem dX10_costOfBoth_73 : decode cX10_costOfBoth 73 = .ok (.istore 12, 2) := by decide +kernel
theorem dX10_costOfBoth_75 : decode cX10_costOfBoth 75 = .ok (.lload 8, 2) := by decide +kernel
theorem dX10_costOfBoth_77 : decode cX10_costOfBoth 77 = .ok (.aload_n 0, 1) := by decide +kernel
theorem dX10_costOfBoth_78 : decode cX10_costOfBoth 78 = .ok (.iload_n 3, 1) := by decide +kernel
theorem dX10_costOfBoth_79 : decode cX10_costOfBoth 79 = .ok (.iload 13, 2) := by decide +kernel
theorem dX10_costOfBoth_81 : decode cX10_costOfBoth 81 = .ok (.invokevirtual 77, 3) := by decide +kernel
theorem dX10_costOfBoth_84 : decode cX10_costOfBoth 84 = .ok (.i2l, 1) := by decide +kernel
theorem dX10_costOfBoth_85 : decode cX10_costOfBoth 85 = .ok (.aload_n 0, 1) := by decide +kernel
theorem dX10_costOfBoth_86 : decode cX10_costOfBoth 86 = .ok (.iload_n 3, 1) := by decide +kernel
theorem dX10_costOfBoth_87 : decode cX10_costOfBoth 87 = .ok (.invokevirtual 90, 3) := by decide +kernel
theorem dX10_costOfBoth_90 : decode cX10_costOfBoth 90 = .ok (.i2l, 1) := by decide +kernel
theorem dX10_costOfBoth_91 : decode cX10_costOfBoth 91 = .ok (.aload_n 0, 1) := by decide +kernel
theorem dX10_costOfBoth_92 : decode cX10_costOfBoth 92 = .ok (.aload_n 1, 1) := by decide +kernel
theorem dX10_costOfBoth_93 : decode cX10_costOfBoth 93 = .ok (.iload_n 3, 1) := by decide +kernel
theorem dX10_costOfBoth_94 : decode cX10_costOfBoth 94 = .ok (.iload 14, 2) := by decide +kernel
theorem dX10_costOfBoth_96 : decode cX10_costOfBoth 96 = .ok (.iload 7, 2) := by decide +kernel
theorem dX10_costOfBoth_98 : decode cX10_costOfBoth 98 = .ok (.invokevirtual 110, 3) := by decide +kernel
theorem dX10_costOfBoth_101 : decode cX10_costOfBoth 101 = .ok (.lmul, 1) := by decide +kernel
theorem dX10_costOfBoth_102 : decode cX10_costOfBoth 102 = .ok (.lload 10, 2) := by decide +kernel
theorem dX10_costOfBoth_104 : decode cX10_costOfBoth 104 = .ok (.ladd, 1) := by decide +kernel
theorem dX10_costOfBoth_105 : decode cX10_costOfBoth 105 = .ok (.lmul, 1) := by decide +kernel
theorem dX10_costOfBoth_106 : decode cX10_costOfBoth 106 = .ok (.ladd, 1) := by decide +kernel
theorem dX10_costOfBoth_107 : decode cX10_costOfBoth 107 = .ok (.lstore 8, 2) := by decide +kernel
theorem dX10_costOfBoth_109 : decode cX10_costOfBoth 109 = .ok (.iinc 13 1, 3) := by decide +kernel
theorem dX10_costOfBoth_112 : decode cX10_costOfBoth 112 = .ok (.goto (-100), 3) := by decide +kernel
theorem dX10_costOfBoth_115 : decode cX10_costOfBoth 115 = .ok (.lload 8, 2) := by decide +kernel
theorem dX10_costOfBoth_117 : decode cX10_costOfBoth 117 = .ok (.lreturn, 1) := by decide +kernel
theorem dX10_drawn_0 : decode cX10_drawn 0 = .ok (.aload_n 0, 1) := by decide +kernel
theorem dX10_drawn_1 : decode cX10_drawn 1 = .ok (.getfield 36, 3) := by decide +kernel
theorem dX10_drawn_4 : decode cX10_drawn 4 = .ok (.ireturn, 1) := by decide +kernel
theorem dX10_setDrawn_0 : decode cX10_setDrawn 0 = .ok (.aload_n 0, 1) := by decide +kernel
theorem dX10_setDrawn_1 : decode cX10_setDrawn 1 = .ok (.iload_n 1, 1) := by decide +kernel
theorem dX10_setDrawn_2 : decode cX10_setDrawn 2 = .ok (.putfield 36, 3) := by decide +kernel
theorem dX10_setDrawn_5 : decode cX10_setDrawn 5 = .ok (.return_, 1) := by decide +kernel
theorem dX10_drawNext_0 : decode cX10_drawNext 0 = .ok (.aload_n 0, 1) := by decide +kernel
theorem dX10_drawNext_1 : decode cX10_drawNext 1 = .ok (.sipush 25173, 3) := by decide +kernel
theorem dX10_drawNext_4 : decode cX10_drawNext 4 = .ok (.aload_n 0, 1) := by decide +kernel
theorem dX10_drawNext_5 : decode cX10_drawNext 5 = .ok (.getfield 36, 3) := by decide +kernel
theorem dX10_drawNext_8 : decode cX10_drawNext 8 = .ok (.imul, 1) := by decide +kernel
theorem dX10_drawNext_9 : decode cX10_drawNext 9 = .ok (.sipush 13849, 3) := by decide +kernel
theorem dX10_drawNext_12 : decode cX10_drawNext 12 = .ok (.iadd, 1) := by decide +kernel
theorem dX10_drawNext_13 : decode cX10_drawNext 13 = .ok (.ldc 122, 2) := by decide +kernel
theorem dX10_drawNext_15 : decode cX10_drawNext 15 = .ok (.irem, 1) := by decide +kernel
theorem dX10_drawNext_16 : decode cX10_drawNext 16 = .ok (.putfield 36, 3) := by decide +kernel
theorem dX10_drawNext_19 : decode cX10_drawNext 19 = .ok (.aload_n 0, 1) := by decide +kernel
theorem dX10_drawNext_20 : decode cX10_drawNext 20 = .ok (.getfield 36, 3) := by decide +kernel
theorem dX10_drawNext_23 : decode cX10_drawNext 23 = .ok (.ireturn, 1) := by decide +kernel
theorem dX10_drawComings_0 : decode cX10_drawComings 0 = .ok (.aload_n 0, 1) := by decide +kernel
theorem dX10_drawComings_1 : decode cX10_drawComings 1 = .ok (.invokevirtual 123, 3) := by decide +kernel
theorem dX10_drawComings_4 : decode cX10_drawComings 4 = .ok (.aload_n 0, 1) := by decide +kernel
theorem dX10_drawComings_5 : decode cX10_drawComings 5 = .ok (.getfield 32, 3) := by decide +kernel
theorem dX10_drawComings_8 : decode cX10_drawComings 8 = .ok (.invokestatic 126, 3) := by decide +kernel
theorem dX10_drawComings_11 : decode cX10_drawComings 11 = .ok (.aload_n 0, 1) := by decide +kernel
theorem dX10_drawComings_12 : decode cX10_drawComings 12 = .ok (.getfield 60, 3) := by decide +kernel
theorem dX10_drawComings_15 : decode cX10_drawComings 15 = .ok (.if_icmp .ge 7, 3) := by decide +kernel
theorem dX10_drawComings_18 : decode cX10_drawComings 18 = .ok (.iconst 1, 1) := by decide +kernel
theorem dX10_drawComings_19 : decode cX10_drawComings 19 = .ok (.goto 4, 3) := by decide +kernel
theorem dX10_drawComings_22 : decode cX10_drawComings 22 = .ok (.iconst 0, 1) := by decide +kernel
theorem dX10_drawComings_23 : decode cX10_drawComings 23 = .ok (.istore_n 3, 1) := by decide +kernel
theorem dX10_drawComings_24 : decode cX10_drawComings 24 = .ok (.iconst 0, 1) := by decide +kernel
theorem dX10_drawComings_25 : decode cX10_drawComings 25 = .ok (.istore 4, 2) := by decide +kernel
theorem dX10_drawComings_27 : decode cX10_drawComings 27 = .ok (.iload 4, 2) := by decide +kernel
theorem dX10_drawComings_29 : decode cX10_drawComings 29 = .ok (.bipush 8, 2) := by decide +kernel
theorem dX10_drawComings_31 : decode cX10_drawComings 31 = .ok (.if_icmp .ge 58, 3) := by decide +kernel
theorem dX10_drawComings_34 : decode cX10_drawComings 34 = .ok (.aload_n 1, 1) := by decide +kernel
theorem dX10_drawComings_35 : decode cX10_drawComings 35 = .ok (.iload 4, 2) := by decide +kernel
theorem dX10_drawComings_37 : decode cX10_drawComings 37 = .ok (.invokevirtual 129, 3) := by decide +kernel
theorem dX10_drawComings_40 : decode cX10_drawComings 40 = .ok (.ifCond .ne 6, 3) := by decide +kernel
theorem dX10_drawComings_43 : decode cX10_drawComings 43 = .ok (.goto 40, 3) := by decide +kernel
theorem dX10_drawComings_46 : decode cX10_drawComings 46 = .ok (.aload_n 1, 1) := by decide +kernel
theorem dX10_drawComings_47 : decode cX10_drawComings 47 = .ok (.getfield 93, 3) := by decide +kernel
theorem dX10_drawComings_50 : decode cX10_drawComings 50 = .ok (.iload_n 2, 1) := by decide +kernel
theorem dX10_drawComings_51 : decode cX10_drawComings 51 = .ok (.isub, 1) := by decide +kernel
theorem dX10_drawComings_52 : decode cX10_drawComings 52 = .ok (.aload_n 0, 1) := by decide +kernel
theorem dX10_drawComings_53 : decode cX10_drawComings 53 = .ok (.iload 4, 2) := by decide +kernel
theorem dX10_drawComings_55 : decode cX10_drawComings 55 = .ok (.aload_n 0, 1) := by decide +kernel
theorem dX10_drawComings_56 : decode cX10_drawComings 56 = .ok (.iload 4, 2) := by decide +kernel
theorem dX10_drawComings_58 : decode cX10_drawComings 58 = .ok (.invokevirtual 132, 3) := by decide +kernel
theorem dX10_drawComings_61 : decode cX10_drawComings 61 = .ok (.iload_n 3, 1) := by decide +kernel
theorem dX10_drawComings_62 : decode cX10_drawComings 62 = .ok (.invokevirtual 74, 3) := by decide +kernel
theorem dX10_drawComings_65 : decode cX10_drawComings 65 = .ok (.iadd, 1) := by decide +kernel
theorem dX10_drawComings_66 : decode cX10_drawComings 66 = .ok (.istore 5, 2) := by decide +kernel
theorem dX10_drawComings_68 : decode cX10_drawComings 68 = .ok (.aload_n 1, 1) := by decide +kernel
theorem dX10_drawComings_69 : decode cX10_drawComings 69 = .ok (.iload 4, 2) := by decide +kernel
theorem dX10_drawComings_71 : decode cX10_drawComings 71 = .ok (.iload 5, 2) := by decide +kernel
theorem dX10_drawComings_73 : decode cX10_drawComings 73 = .ok (.iconst 0, 1) := by decide +kernel
theorem dX10_drawComings_74 : decode cX10_drawComings 74 = .ok (.sipush 1439, 3) := by decide +kernel
theorem dX10_drawComings_77 : decode cX10_drawComings 77 = .ok (.invokestatic 102, 3) := by decide +kernel
theorem dX10_drawComings_80 : decode cX10_drawComings 80 = .ok (.invokevirtual 135, 3) := by decide +kernel
theorem dX10_drawComings_83 : decode cX10_drawComings 83 = .ok (.iinc 4 1, 3) := by decide +kernel
theorem dX10_drawComings_86 : decode cX10_drawComings 86 = .ok (.goto (-59), 3) := by decide +kernel
theorem dX10_drawComings_89 : decode cX10_drawComings 89 = .ok (.iload_n 3, 1) := by decide +kernel
theorem dX10_drawComings_90 : decode cX10_drawComings 90 = .ok (.ireturn, 1) := by decide +kernel
theorem dX10_drawEnd_0 : decode cX10_drawEnd 0 = .ok (.aload_n 0, 1) := by decide +kernel
theorem dX10_drawEnd_1 : decode cX10_drawEnd 1 = .ok (.invokevirtual 123, 3) := by decide +kernel
theorem dX10_drawEnd_4 : decode cX10_drawEnd 4 = .ok (.aload_n 0, 1) := by decide +kernel
theorem dX10_drawEnd_5 : decode cX10_drawEnd 5 = .ok (.iload_n 1, 1) := by decide +kernel
theorem dX10_drawEnd_6 : decode cX10_drawEnd 6 = .ok (.invokevirtual 90, 3) := by decide +kernel
theorem dX10_drawEnd_9 : decode cX10_drawEnd 9 = .ok (.invokestatic 126, 3) := by decide +kernel
theorem dX10_drawEnd_12 : decode cX10_drawEnd 12 = .ok (.istore_n 2, 1) := by decide +kernel
theorem dX10_drawEnd_13 : decode cX10_drawEnd 13 = .ok (.aload_n 0, 1) := by decide +kernel
theorem dX10_drawEnd_14 : decode cX10_drawEnd 14 = .ok (.iload_n 1, 1) := by decide +kernel
theorem dX10_drawEnd_15 : decode cX10_drawEnd 15 = .ok (.invokevirtual 71, 3) := by decide +kernel
theorem dX10_drawEnd_18 : decode cX10_drawEnd 18 = .ok (.iconst 1, 1) := by decide +kernel
theorem dX10_drawEnd_19 : decode cX10_drawEnd 19 = .ok (.isub, 1) := by decide +kernel
theorem dX10_drawEnd_20 : decode cX10_drawEnd 20 = .ok (.istore_n 3, 1) := by decide +kernel
theorem dX10_drawEnd_21 : decode cX10_drawEnd 21 = .ok (.iconst 0, 1) := by decide +kernel
theorem dX10_drawEnd_22 : decode cX10_drawEnd 22 = .ok (.istore 4, 2) := by decide +kernel
theorem dX10_drawEnd_24 : decode cX10_drawEnd 24 = .ok (.iload 4, 2) := by decide +kernel
theorem dX10_drawEnd_26 : decode cX10_drawEnd 26 = .ok (.iload_n 3, 1) := by decide +kernel
theorem dX10_drawEnd_27 : decode cX10_drawEnd 27 = .ok (.if_icmp .ge 26, 3) := by decide +kernel
theorem dX10_drawEnd_30 : decode cX10_drawEnd 30 = .ok (.iload_n 2, 1) := by decide +kernel
theorem dX10_drawEnd_31 : decode cX10_drawEnd 31 = .ok (.aload_n 0, 1) := by decide +kernel
theorem dX10_drawEnd_32 : decode cX10_drawEnd 32 = .ok (.iload_n 1, 1) := by decide +kernel
theorem dX10_drawEnd_33 : decode cX10_drawEnd 33 = .ok (.iload 4, 2) := by decide +kernel
theorem dX10_drawEnd_35 : decode cX10_drawEnd 35 = .ok (.invokevirtual 77, 3) := by decide +kernel
theorem dX10_drawEnd_38 : decode cX10_drawEnd 38 = .ok (.isub, 1) := by decide +kernel
theorem dX10_drawEnd_39 : decode cX10_drawEnd 39 = .ok (.istore_n 2, 1) := by decide +kernel
theorem dX10_drawEnd_40 : decode cX10_drawEnd 40 = .ok (.iload_n 2, 1) := by decide +kernel
theorem dX10_drawEnd_41 : decode cX10_drawEnd 41 = .ok (.ifCond .ge 6, 3) := by decide +kernel
theorem dX10_drawEnd_44 : decode cX10_drawEnd 44 = .ok (.iload 4, 2) := by decide +kernel
theorem dX10_drawEnd_46 : decode cX10_drawEnd 46 = .ok (.ireturn, 1) := by decide +kernel
theorem dX10_drawEnd_47 : decode cX10_drawEnd 47 = .ok (.iinc 4 1, 3) := by decide +kernel
theorem dX10_drawEnd_50 : decode cX10_drawEnd 50 = .ok (.goto (-26), 3) := by decide +kernel
theorem dX10_drawEnd_53 : decode cX10_drawEnd 53 = .ok (.iload_n 3, 1) := by decide +kernel
theorem dX10_drawEnd_54 : decode cX10_drawEnd 54 = .ok (.ireturn, 1) := by decide +kernel
theorem dX11_init_0 : decode cX11_init 0 = .ok (.aload_n 0, 1) := by decide +kernel
theorem dX11_init_1 : decode cX11_init 1 = .ok (.invokespecial 1, 3) := by decide +kernel
theorem dX11_init_4 : decode cX11_init 4 = .ok (.aload_n 0, 1) := by decide +kernel
theorem dX11_init_5 : decode cX11_init 5 = .ok (.new 7, 3) := by decide +kernel
theorem dX11_init_8 : decode cX11_init 8 = .ok (.dup, 1) := by decide +kernel
theorem dX11_init_9 : decode cX11_init 9 = .ok (.invokespecial 9, 3) := by decide +kernel
theorem dX11_init_12 : decode cX11_init 12 = .ok (.putfield 10, 3) := by decide +kernel
theorem dX11_init_15 : decode cX11_init 15 = .ok (.aload_n 0, 1) := by decide +kernel
theorem dX11_init_16 : decode cX11_init 16 = .ok (.new 16, 3) := by decide +kernel
theorem dX11_init_19 : decode cX11_init 19 = .ok (.dup, 1) := by decide +kernel
theorem dX11_init_20 : decode cX11_init 20 = .ok (.invokespecial 18, 3) := by decide +kernel
theorem dX11_init_23 : decode cX11_init 23 = .ok (.putfield 19, 3) := by decide +kernel
theorem dX11_init_26 : decode cX11_init 26 = .ok (.aload_n 0, 1) := by decide +kernel
theorem dX11_init_27 : decode cX11_init 27 = .ok (.new 23, 3) := by decide +kernel
theorem dX11_init_30 : decode cX11_init 30 = .ok (.dup, 1) := by decide +kernel
theorem dX11_init_31 : decode cX11_init 31 = .ok (.invokespecial 25, 3) := by decide +kernel
theorem dX11_init_34 : decode cX11_init 34 = .ok (.putfield 26, 3) := by decide +kernel
theorem dX11_init_37 : decode cX11_init 37 = .ok (.aload_n 0, 1) := by decide +kernel
theorem dX11_init_38 : decode cX11_init 38 = .ok (.new 30, 3) := by decide +kernel
theorem dX11_init_41 : decode cX11_init 41 = .ok (.dup, 1) := by decide +kernel
theorem dX11_init_42 : decode cX11_init 42 = .ok (.aload_n 0, 1) := by decide +kernel
theorem dX11_init_43 : decode cX11_init 43 = .ok (.getfield 26, 3) := by decide +kernel
theorem dX11_init_46 : decode cX11_init 46 = .ok (.invokespecial 32, 3) := by decide +kernel
theorem dX11_init_49 : decode cX11_init 49 = .ok (.putfield 35, 3) := by decide +kernel
theorem dX11_init_52 : decode cX11_init 52 = .ok (.aload_n 0, 1) := by decide +kernel
theorem dX11_init_53 : decode cX11_init 53 = .ok (.new 39, 3) := by decide +kernel
theorem dX11_init_56 : decode cX11_init 56 = .ok (.dup, 1) := by decide +kernel
theorem dX11_init_57 : decode cX11_init 57 = .ok (.invokespecial 41, 3) := by decide +kernel
theorem dX11_init_60 : decode cX11_init 60 = .ok (.putfield 42, 3) := by decide +kernel
theorem dX11_init_63 : decode cX11_init 63 = .ok (.aload_n 0, 1) := by decide +kernel
theorem dX11_init_64 : decode cX11_init 64 = .ok (.new 46, 3) := by decide +kernel
theorem dX11_init_67 : decode cX11_init 67 = .ok (.dup, 1) := by decide +kernel
theorem dX11_init_68 : decode cX11_init 68 = .ok (.invokespecial 48, 3) := by decide +kernel
theorem dX11_init_71 : decode cX11_init 71 = .ok (.putfield 49, 3) := by decide +kernel
theorem dX11_init_74 : decode cX11_init 74 = .ok (.aload_n 0, 1) := by decide +kernel
theorem dX11_init_75 : decode cX11_init 75 = .ok (.new 53, 3) := by decide +kernel
theorem dX11_init_78 : decode cX11_init 78 = .ok (.dup, 1) := by decide +kernel
theorem dX11_init_79 : decode cX11_init 79 = .ok (.aload_n 0, 1) := by decide +kernel
theorem dX11_init_80 : decode cX11_init 80 = .ok (.getfield 26, 3) := by decide +kernel
theorem dX11_init_83 : decode cX11_init 83 = .ok (.invokespecial 55, 3) := by decide +kernel
theorem dX11_init_86 : decode cX11_init 86 = .ok (.putfield 56, 3) := by decide +kernel
theorem dX11_init_89 : decode cX11_init 89 = .ok (.aload_n 0, 1) := by decide +kernel
theorem dX11_init_90 : decode cX11_init 90 = .ok (.new 60, 3) := by decide +kernel
theorem dX11_init_93 : decode cX11_init 93 = .ok (.dup, 1) := by decide +kernel
theorem dX11_init_94 : decode cX11_init 94 = .ok (.aload_n 0, 1) := by decide +kernel
theorem dX11_init_95 : decode cX11_init 95 = .ok (.getfield 26, 3) := by decide +kernel
theorem dX11_init_98 : decode cX11_init 98 = .ok (.aload_n 0, 1) := by decide +kernel
theorem dX11_init_99 : decode cX11_init 99 = .ok (.getfield 56, 3) := by decide +kernel
theorem dX11_init_102 : decode cX11_init 102 = .ok (.invokespecial 62, 3) := by decide +kernel
theorem dX11_init_105 : decode cX11_init 105 = .ok (.putfield 65, 3) := by decide +kernel
theorem dX11_init_108 : decode cX11_init 108 = .ok (.aload_n 0, 1) := by decide +kernel
theorem dX11_init_109 : decode cX11_init 109 = .ok (.iconst 0, 1) := by decide +kernel
theorem dX11_init_110 : decode cX11_init 110 = .ok (.putfield 69, 3) := by decide +kernel
theorem dX11_init_113 : decode cX11_init 113 = .ok (.return_, 1) := by decide +kernel
theorem dX11_now_0 : decode cX11_now 0 = .ok (.iload_n 1, 1) := by decide +kernel
theorem dX11_now_1 : decode cX11_now 1 = .ok (.aload_n 0, 1) := by decide +kernel
theorem dX11_now_2 : decode cX11_now 2 = .ok (.getfield 69, 3) := by decide +kernel
theorem dX11_now_5 : decode cX11_now 5 = .ok (.bipush 99, 2) := by decide +kernel
theorem dX11_now_7 : decode cX11_now 7 = .ok (.invokestatic 73, 3) := by decide +kernel
theorem dX11_now_10 : decode cX11_now 10 = .ok (.ifCond .ne 5, 3) := by decide +kernel
theorem dX11_now_13 : decode cX11_now 13 = .ok (.iconst 0, 1) := by decide +kernel
theorem dX11_now_14 : decode cX11_now 14 = .ok (.ireturn, 1) := by decide +kernel
theorem dX11_now_15 : decode cX11_now 15 = .ok (.iload_n 1, 1) := by decide +kernel
theorem dX11_now_16 : decode cX11_now 16 = .ok (.aload_n 0, 1) := by decide +kernel
theorem dX11_now_17 : decode cX11_now 17 = .ok (.getfield 69, 3) := by decide +kernel
theorem dX11_now_20 : decode cX11_now 20 = .ok (.if_icmp .le 10, 3) := by decide +kernel
theorem dX11_now_23 : decode cX11_now 23 = .ok (.aload_n 0, 1) := by decide +kernel
theorem dX11_now_24 : decode cX11_now 24 = .ok (.getfield 26, 3) := by decide +kernel
theorem dX11_now_27 : decode cX11_now 27 = .ok (.invokevirtual 77, 3) := by decide +kernel
theorem dX11_now_30 : decode cX11_now 30 = .ok (.aload_n 0, 1) := by decide +kernel
theorem dX11_now_31 : decode cX11_now 31 = .ok (.iload_n 1, 1) := by decide +kernel
theorem dX11_now_32 : decode cX11_now 32 = .ok (.putfield 69, 3) := by decide +kernel
theorem dX11_now_35 : decode cX11_now 35 = .ok (.iconst 1, 1) := by decide +kernel
theorem dX11_now_36 : decode cX11_now 36 = .ok (.ireturn, 1) := by decide +kernel
theorem dX11_worth_0 : decode cX11_worth 0 = .ok (.iload_n 1, 1) := by decide +kernel
theorem dX11_worth_1 : decode cX11_worth 1 = .ok (.invokestatic 80, 3) := by decide +kernel
theorem dX11_worth_4 : decode cX11_worth 4 = .ok (.ifCond .eq 23, 3) := by decide +kernel
theorem dX11_worth_7 : decode cX11_worth 7 = .ok (.iload_n 2, 1) := by decide +kernel
theorem dX11_worth_8 : decode cX11_worth 8 = .ok (.iconst 0, 1) := by decide +kernel
theorem dX11_worth_9 : decode cX11_worth 9 = .ok (.bipush 23, 2) := by decide +kernel
theorem dX11_worth_11 : decode cX11_worth 11 = .ok (.invokestatic 73, 3) := by decide +kernel
theorem dX11_worth_14 : decode cX11_worth 14 = .ok (.ifCond .eq 13, 3) := by decide +kernel
theorem dX11_worth_17 : decode cX11_worth 17 = .ok (.iload_n 3, 1) := by decide +kernel
theorem dX11_worth_18 : decode cX11_worth 18 = .ok (.iconst 0, 1) := by decide +kernel
theorem dX11_worth_19 : decode cX11_worth 19 = .ok (.bipush 99, 2) := by decide +kernel
theorem dX11_worth_21 : decode cX11_worth 21 = .ok (.invokestatic 73, 3) := by decide +kernel
theorem dX11_worth_24 : decode cX11_worth 24 = .ok (.ifCond .ne 5, 3) := by decide +kernel
theorem dX11_worth_27 : decode cX11_worth 27 = .ok (.iconst 0, 1) := by decide +kernel
theorem dX11_worth_28 : decode cX11_worth 28 = .ok (.ireturn, 1) := by decide +kernel
theorem dX11_worth_29 : decode cX11_worth 29 = .ok (.aload_n 0, 1) := by decide +kernel
theorem dX11_worth_30 : decode cX11_worth 30 = .ok (.getfield 26, 3) := by decide +kernel
theorem dX11_worth_33 : decode cX11_worth 33 = .ok (.iload_n 1, 1) := by decide +kernel
theorem dX11_worth_34 : decode cX11_worth 34 = .ok (.iload_n 2, 1) := by decide +kernel
theorem dX11_worth_35 : decode cX11_worth 35 = .ok (.iload_n 3, 1) := by decide +kernel
theorem dX11_worth_36 : decode cX11_worth 36 = .ok (.invokevirtual 84, 3) := by decide +kernel
theorem dX11_worth_39 : decode cX11_worth 39 = .ok (.iconst 1, 1) := by decide +kernel
theorem dX11_worth_40 : decode cX11_worth 40 = .ok (.ireturn, 1) := by decide +kernel
theorem dX11_meeting_0 : decode cX11_meeting 0 = .ok (.iload_n 1, 1) := by decide +kernel
theorem dX11_meeting_1 : decode cX11_meeting 1 = .ok (.iconst 0, 1) := by decide +kernel
theorem dX11_meeting_2 : decode cX11_meeting 2 = .ok (.bipush 99, 2) := by decide +kernel
theorem dX11_meeting_4 : decode cX11_meeting 4 = .ok (.invokestatic 73, 3) := by decide +kernel
theorem dX11_meeting_7 : decode cX11_meeting 7 = .ok (.ifCond .eq 14, 3) := by decide +kernel
theorem dX11_meeting_10 : decode cX11_meeting 10 = .ok (.iload_n 2, 1) := by decide +kernel
theorem dX11_meeting_11 : decode cX11_meeting 11 = .ok (.iconst 0, 1) := by decide +kernel
theorem dX11_meeting_12 : decode cX11_meeting 12 = .ok (.sipush 1439, 3) := by decide +kernel
theorem dX11_meeting_15 : decode cX11_meeting 15 = .ok (.invokestatic 73, 3) := by decide +kernel
theorem dX11_meeting_18 : decode cX11_meeting 18 = .ok (.ifCond .ne 5, 3) := by decide +kernel
theorem dX11_meeting_21 : decode cX11_meeting 21 = .ok (.iconst (-1), 1) := by decide +kernel
theorem dX11_meeting_22 : decode cX11_meeting 22 = .ok (.ireturn, 1) := by decide +kernel
theorem dX11_meeting_23 : decode cX11_meeting 23 = .ok (.iload_n 3, 1) := by decide +kernel
theorem dX11_meeting_24 : decode cX11_meeting 24 = .ok (.iconst 1, 1) := by decide +kernel
theorem dX11_meeting_25 : decode cX11_meeting 25 = .ok (.sipush 255, 3) := by decide +kernel
theorem dX11_meeting_28 : decode cX11_meeting 28 = .ok (.invokestatic 73, 3) := by decide +kernel
theorem dX11_meeting_31 : decode cX11_meeting 31 = .ok (.ifCond .eq 11, 3) := by decide +kernel
theorem dX11_meeting_34 : decode cX11_meeting 34 = .ok (.iload_n 3, 1) := by decide +kernel
theorem dX11_meeting_35 : decode cX11_meeting 35 = .ok (.invokestatic 88, 3) := by decide +kernel
theorem dX11_meeting_38 : decode cX11_meeting 38 = .ok (.iconst 2, 1) := by decide +kernel
theorem dX11_meeting_39 : decode cX11_meeting 39 = .ok (.if_icmp .ge 5, 3) := by decide +kernel
theorem dX11_meeting_42 : decode cX11_meeting 42 = .ok (.iconst (-1), 1) := by decide +kernel
theorem dX11_meeting_43 : decode cX11_meeting 43 = .ok (.ireturn, 1) := by decide +kernel
theorem dX11_meeting_44 : decode cX11_meeting 44 = .ok (.aload_n 0, 1) := by decide +kernel
theorem dX11_meeting_45 : decode cX11_meeting 45 = .ok (.getfield 35, 3) := by decide +kernel
theorem dX11_meeting_48 : decode cX11_meeting 48 = .ok (.iload_n 1, 1) := by decide +kernel
theorem dX11_meeting_49 : decode cX11_meeting 49 = .ok (.iload_n 2, 1) := by decide +kernel
theorem dX11_meeting_50 : decode cX11_meeting 50 = .ok (.iload_n 3, 1) := by decide +kernel
theorem dX11_meeting_51 : decode cX11_meeting 51 = .ok (.invokevirtual 94, 3) := by decide +kernel
theorem dX11_meeting_54 : decode cX11_meeting 54 = .ok (.ireturn, 1) := by decide +kernel
theorem dX11_came_0 : decode cX11_came 0 = .ok (.aload_n 0, 1) := by decide +kernel
theorem dX11_came_1 : decode cX11_came 1 = .ok (.getfield 35, 3) := by decide +kernel
theorem dX11_came_4 : decode cX11_came 4 = .ok (.iload_n 1, 1) := by decide +kernel
theorem dX11_came_5 : decode cX11_came 5 = .ok (.invokevirtual 98, 3) := by decide +kernel
theorem dX11_came_8 : decode cX11_came 8 = .ok (.astore 4, 2) := by decide +kernel
theorem dX11_came_10 : decode cX11_came 10 = .ok (.aload 4, 2) := by decide +kernel
theorem dX11_came_12 : decode cX11_came 12 = .ok (.ifnull 20, 3) := by decide +kernel
theorem dX11_came_15 : decode cX11_came 15 = .ok (.aload 4, 2) := by decide +kernel
theorem dX11_came_17 : decode cX11_came 17 = .ok (.invokevirtual 102, 3) := by decide +kernel
theorem dX11_came_20 : decode cX11_came 20 = .ok (.ifCond .ne 12, 3) := by decide +kernel
theorem dX11_came_23 : decode cX11_came 23 = .ok (.aload 4, 2) := by decide +kernel
theorem dX11_came_25 : decode cX11_came 25 = .ok (.iload_n 2, 1) := by decide +kernel
theorem dX11_came_26 : decode cX11_came 26 = .ok (.invokevirtual 108, 3) := by decide +kernel
theorem dX11_came_29 : decode cX11_came 29 = .ok (.ifCond .ne 5, 3) := by decide +kernel
theorem dX11_came_32 : decode cX11_came 32 = .ok (.iconst 0, 1) := by decide +kernel
theorem dX11_came_33 : decode cX11_came 33 = .ok (.ireturn, 1) := by decide +kernel
theorem dX11_came_34 : decode cX11_came 34 = .ok (.iload_n 3, 1) := by decide +kernel
theorem dX11_came_35 : decode cX11_came 35 = .ok (.iconst 0, 1) := by decide +kernel
theorem dX11_came_36 : decode cX11_came 36 = .ok (.sipush 1439, 3) := by decide +kernel
theorem dX11_came_39 : decode cX11_came 39 = .ok (.invokestatic 73, 3) := by decide +kernel
theorem dX11_came_42 : decode cX11_came 42 = .ok (.ifCond .ne 5, 3) := by decide +kernel
theorem dX11_came_45 : decode cX11_came 45 = .ok (.iconst 0, 1) := by decide +kernel
theorem dX11_came_46 : decode cX11_came 46 = .ok (.ireturn, 1) := by decide +kernel
theorem dX11_came_47 : decode cX11_came 47 = .ok (.aload 4, 2) := by decide +kernel
theorem dX11_came_49 : decode cX11_came 49 = .ok (.iload_n 2, 1) := by decide +kernel
theorem dX11_came_50 : decode cX11_came 50 = .ok (.iload_n 3, 1) := by decide +kernel
theorem dX11_came_51 : decode cX11_came 51 = .ok (.invokevirtual 111, 3) := by decide +kernel
theorem dX11_came_54 : decode cX11_came 54 = .ok (.iconst 1, 1) := by decide +kernel
theorem dX11_came_55 : decode cX11_came 55 = .ok (.ireturn, 1) := by decide +kernel
theorem dX11_feed_0 : decode cX11_feed 0 = .ok (.aload_n 0, 1) := by decide +kernel
theorem dX11_feed_1 : decode cX11_feed 1 = .ok (.getfield 10, 3) := by decide +kernel
theorem dX11_feed_4 : decode cX11_feed 4 = .ok (.invokevirtual 115, 3) := by decide +kernel
theorem dX11_feed_7 : decode cX11_feed 7 = .ok (.bipush 20, 2) := by decide +kernel
theorem dX11_feed_9 : decode cX11_feed 9 = .ok (.iadd, 1) := by decide +kernel
theorem dX11_feed_10 : decode cX11_feed 10 = .ok (.sipush 400, 3) := by decide +kernel
theorem dX11_feed_13 : decode cX11_feed 13 = .ok (.if_icmp .le 5, 3) := by decide +kernel
theorem dX11_feed_16 : decode cX11_feed 16 = .ok (.iconst (-1), 1) := by decide +kernel
theorem dX11_feed_17 : decode cX11_feed 17 = .ok (.ireturn, 1) := by decide +kernel
theorem dX11_feed_18 : decode cX11_feed 18 = .ok (.aload_n 0, 1) := by decide +kernel
theorem dX11_feed_19 : decode cX11_feed 19 = .ok (.getfield 10, 3) := by decide +kernel
theorem dX11_feed_22 : decode cX11_feed 22 = .ok (.iload_n 1, 1) := by decide +kernel
theorem dX11_feed_23 : decode cX11_feed 23 = .ok (.invokevirtual 119, 3) := by decide +kernel
theorem dX11_feed_26 : decode cX11_feed 26 = .ok (.aload_n 0, 1) := by decide +kernel
theorem dX11_feed_27 : decode cX11_feed 27 = .ok (.getfield 10, 3) := by decide +kernel
theorem dX11_feed_30 : decode cX11_feed 30 = .ok (.iload_n 2, 1) := by decide +kernel
theorem dX11_feed_31 : decode cX11_feed 31 = .ok (.invokevirtual 119, 3) := by decide +kernel
theorem dX11_feed_34 : decode cX11_feed 34 = .ok (.aload_n 0, 1) := by decide +kernel
theorem dX11_feed_35 : decode cX11_feed 35 = .ok (.getfield 10, 3) := by decide +kernel
theorem dX11_feed_38 : decode cX11_feed 38 = .ok (.iload_n 3, 1) := by decide +kernel
theorem dX11_feed_39 : decode cX11_feed 39 = .ok (.invokevirtual 119, 3) := by decide +kernel
theorem dX11_feed_42 : decode cX11_feed 42 = .ok (.aload_n 0, 1) := by decide +kernel
theorem dX11_feed_43 : decode cX11_feed 43 = .ok (.getfield 10, 3) := by decide +kernel
theorem dX11_feed_46 : decode cX11_feed 46 = .ok (.iload 4, 2) := by decide +kernel
theorem dX11_feed_48 : decode cX11_feed 48 = .ok (.invokevirtual 119, 3) := by decide +kernel
theorem dX11_feed_51 : decode cX11_feed 51 = .ok (.aload_n 0, 1) := by decide +kernel
theorem dX11_feed_52 : decode cX11_feed 52 = .ok (.getfield 10, 3) := by decide +kernel
theorem dX11_feed_55 : decode cX11_feed 55 = .ok (.iload 5, 2) := by decide +kernel
theorem dX11_feed_57 : decode cX11_feed 57 = .ok (.invokevirtual 119, 3) := by decide +kernel
theorem dX11_feed_60 : decode cX11_feed 60 = .ok (.aload_n 0, 1) := by decide +kernel
theorem dX11_feed_61 : decode cX11_feed 61 = .ok (.getfield 10, 3) := by decide +kernel
theorem dX11_feed_64 : decode cX11_feed 64 = .ok (.invokevirtual 115, 3) := by decide +kernel
theorem dX11_feed_67 : decode cX11_feed 67 = .ok (.ireturn, 1) := by decide +kernel
theorem dX11_law_0 : decode cX11_law 0 = .ok (.iload_n 1, 1) := by decide +kernel
theorem dX11_law_1 : decode cX11_law 1 = .ok (.iconst 1, 1) := by decide +kernel
theorem dX11_law_2 : decode cX11_law 2 = .ok (.sipush 200, 3) := by decide +kernel
theorem dX11_law_5 : decode cX11_law 5 = .ok (.invokestatic 73, 3) := by decide +kernel
theorem dX11_law_8 : decode cX11_law 8 = .ok (.ifCond .eq 14, 3) := by decide +kernel
theorem dX11_law_11 : decode cX11_law 11 = .ok (.iload_n 1, 1) := by decide +kernel
theorem dX11_law_12 : decode cX11_law 12 = .ok (.aload_n 0, 1) := by decide +kernel
theorem dX11_law_13 : decode cX11_law 13 = .ok (.getfield 10, 3) := by decide +kernel
theorem dX11_law_16 : decode cX11_law 16 = .ok (.invokevirtual 115, 3) := by decide +kernel
theorem dX11_law_19 : decode cX11_law 19 = .ok (.if_icmp .le 5, 3) := by decide +kernel
theorem dX11_law_22 : decode cX11_law 22 = .ok (.iconst (-1), 1) := by decide +kernel
theorem dX11_law_23 : decode cX11_law 23 = .ok (.ireturn, 1) := by decide +kernel
theorem dX11_law_24 : decode cX11_law 24 = .ok (.aload_n 0, 1) := by decide +kernel
theorem dX11_law_25 : decode cX11_law 25 = .ok (.getfield 19, 3) := by decide +kernel
theorem dX11_law_28 : decode cX11_law 28 = .ok (.aload_n 0, 1) := by decide +kernel
theorem dX11_law_29 : decode cX11_law 29 = .ok (.getfield 10, 3) := by decide +kernel
theorem dX11_law_32 : decode cX11_law 32 = .ok (.iload_n 1, 1) := by decide +kernel
theorem dX11_law_33 : decode cX11_law 33 = .ok (.invokevirtual 123, 3) := by decide +kernel
theorem dX11_law_36 : decode cX11_law 36 = .ok (.istore_n 2, 1) := by decide +kernel
theorem dX11_law_37 : decode cX11_law 37 = .ok (.aload_n 0, 1) := by decide +kernel
theorem dX11_law_38 : decode cX11_law 38 = .ok (.getfield 10, 3) := by decide +kernel
theorem dX11_law_41 : decode cX11_law 41 = .ok (.invokevirtual 127, 3) := by decide +kernel
theorem dX11_law_44 : decode cX11_law 44 = .ok (.iload_n 2, 1) := by decide +kernel
theorem dX11_law_45 : decode cX11_law 45 = .ok (.ireturn, 1) := by decide +kernel
theorem dX11_begins_0 : decode cX11_begins 0 = .ok (.aload_n 0, 1) := by decide +kernel
theorem dX11_begins_1 : decode cX11_begins 1 = .ok (.getfield 35, 3) := by decide +kernel
theorem dX11_begins_4 : decode cX11_begins 4 = .ok (.iload_n 1, 1) := by decide +kernel
theorem dX11_begins_5 : decode cX11_begins 5 = .ok (.invokevirtual 98, 3) := by decide +kernel
theorem dX11_begins_8 : decode cX11_begins 8 = .ok (.astore_n 2, 1) := by decide +kernel
theorem dX11_begins_9 : decode cX11_begins 9 = .ok (.aload_n 2, 1) := by decide +kernel
theorem dX11_begins_10 : decode cX11_begins 10 = .ok (.ifnonnull 7, 3) := by decide +kernel
theorem dX11_begins_13 : decode cX11_begins 13 = .ok (.iconst (-1), 1) := by decide +kernel
theorem dX11_begins_14 : decode cX11_begins 14 = .ok (.goto 7, 3) := by decide +kernel
theorem dX11_begins_17 : decode cX11_begins 17 = .ok (.aload_n 2, 1) := by decide +kernel
theorem dX11_begins_18 : decode cX11_begins 18 = .ok (.invokevirtual 130, 3) := by decide +kernel
theorem dX11_begins_21 : decode cX11_begins 21 = .ok (.ireturn, 1) := by decide +kernel
theorem dX11_keeps_0 : decode cX11_keeps 0 = .ok (.aload_n 0, 1) := by decide +kernel
theorem dX11_keeps_1 : decode cX11_keeps 1 = .ok (.getfield 35, 3) := by decide +kernel
theorem dX11_keeps_4 : decode cX11_keeps 4 = .ok (.iload_n 1, 1) := by decide +kernel
theorem dX11_keeps_5 : decode cX11_keeps 5 = .ok (.invokevirtual 98, 3) := by decide +kernel
theorem dX11_keeps_8 : decode cX11_keeps 8 = .ok (.astore 4, 2) := by decide +kernel
theorem dX11_keeps_10 : decode cX11_keeps 10 = .ok (.aload 4, 2) := by decide +kernel
theorem dX11_keeps_12 : decode cX11_keeps 12 = .ok (.ifnull 8, 3) := by decide +kernel
theorem dX11_keeps_15 : decode cX11_keeps 15 = .ok (.iload_n 2, 1) := by decide +kernel
theorem dX11_keeps_16 : decode cX11_keeps 16 = .ok (.iload_n 3, 1) := by decide +kernel
theorem dX11_keeps_17 : decode cX11_keeps 17 = .ok (.if_icmp .ne 5, 3) := by decide +kernel
theorem dX11_keeps_20 : decode cX11_keeps 20 = .ok (.iconst (-1), 1) := by decide +kernel
theorem dX11_keeps_21 : decode cX11_keeps 21 = .ok (.ireturn, 1) := by decide +kernel
theorem dX11_keeps_22 : decode cX11_keeps 22 = .ok (.aload 4, 2) := by decide +kernel
theorem dX11_keeps_24 : decode cX11_keeps 24 = .ok (.iload_n 2, 1) := by decide +kernel
theorem dX11_keeps_25 : decode cX11_keeps 25 = .ok (.invokevirtual 133, 3) := by decide +kernel
theorem dX11_keeps_28 : decode cX11_keeps 28 = .ok (.iconst (-1), 1) := by decide +kernel
theorem dX11_keeps_29 : decode cX11_keeps 29 = .ok (.if_icmp .eq 13, 3) := by decide +kernel
theorem dX11_keeps_32 : decode cX11_keeps 32 = .ok (.aload 4, 2) := by decide +kernel
theorem dX11_keeps_34 : decode cX11_keeps 34 = .ok (.iload_n 3, 1) := by decide +kernel
theorem dX11_keeps_35 : decode cX11_keeps 35 = .ok (.invokevirtual 133, 3) := by decide +kernel
theorem dX11_keeps_38 : decode cX11_keeps 38 = .ok (.iconst (-1), 1) := by decide +kernel
theorem dX11_keeps_39 : decode cX11_keeps 39 = .ok (.if_icmp .ne 5, 3) := by decide +kernel
theorem dX11_keeps_42 : decode cX11_keeps 42 = .ok (.iconst (-1), 1) := by decide +kernel
theorem dX11_keeps_43 : decode cX11_keeps 43 = .ok (.ireturn, 1) := by decide +kernel
theorem dX11_keeps_44 : decode cX11_keeps 44 = .ok (.aload 4, 2) := by decide +kernel
theorem dX11_keeps_46 : decode cX11_keeps 46 = .ok (.iload_n 2, 1) := by decide +kernel
theorem dX11_keeps_47 : decode cX11_keeps 47 = .ok (.iload_n 3, 1) := by decide +kernel
theorem dX11_keeps_48 : decode cX11_keeps 48 = .ok (.invokevirtual 136, 3) := by decide +kernel
theorem dX11_keeps_51 : decode cX11_keeps 51 = .ok (.ireturn, 1) := by decide +kernel
theorem dX11_kept_0 : decode cX11_kept 0 = .ok (.aload_n 0, 1) := by decide +kernel
theorem dX11_kept_1 : decode cX11_kept 1 = .ok (.getfield 35, 3) := by decide +kernel
theorem dX11_kept_4 : decode cX11_kept 4 = .ok (.iload_n 1, 1) := by decide +kernel
theorem dX11_kept_5 : decode cX11_kept 5 = .ok (.invokevirtual 98, 3) := by decide +kernel
theorem dX11_kept_8 : decode cX11_kept 8 = .ok (.astore 4, 2) := by decide +kernel
theorem dX11_kept_10 : decode cX11_kept 10 = .ok (.aload 4, 2) := by decide +kernel
theorem dX11_kept_12 : decode cX11_kept 12 = .ok (.ifnull 22, 3) := by decide +kernel
theorem dX11_kept_15 : decode cX11_kept 15 = .ok (.aload 4, 2) := by decide +kernel
theorem dX11_kept_17 : decode cX11_kept 17 = .ok (.iload_n 2, 1) := by decide +kernel
theorem dX11_kept_18 : decode cX11_kept 18 = .ok (.invokevirtual 133, 3) := by decide +kernel
theorem dX11_kept_21 : decode cX11_kept 21 = .ok (.iconst (-1), 1) := by decide +kernel
theorem dX11_kept_22 : decode cX11_kept 22 = .ok (.if_icmp .eq 12, 3) := by decide +kernel
theorem dX11_kept_25 : decode cX11_kept 25 = .ok (.iload_n 3, 1) := by decide +kernel
theorem dX11_kept_26 : decode cX11_kept 26 = .ok (.iconst 0, 1) := by decide +kernel
theorem dX11_kept_27 : decode cX11_kept 27 = .ok (.iconst 1, 1) := by decide +kernel
theorem dX11_kept_28 : decode cX11_kept 28 = .ok (.invokestatic 73, 3) := by decide +kernel
theorem dX11_kept_31 : decode cX11_kept 31 = .ok (.ifCond .ne 5, 3) := by decide +kernel
theorem dX11_kept_34 : decode cX11_kept 34 = .ok (.iconst (-1), 1) := by decide +kernel
theorem dX11_kept_35 : decode cX11_kept 35 = .ok (.ireturn, 1) := by decide +kernel
theorem dX11_kept_36 : decode cX11_kept 36 = .ok (.aload_n 0, 1) := by decide +kernel
theorem dX11_kept_37 : decode cX11_kept 37 = .ok (.getfield 35, 3) := by decide +kernel
theorem dX11_kept_40 : decode cX11_kept 40 = .ok (.iload_n 1, 1) := by decide +kernel
theorem dX11_kept_41 : decode cX11_kept 41 = .ok (.iload_n 2, 1) := by decide +kernel
theorem dX11_kept_42 : decode cX11_kept 42 = .ok (.invokevirtual 140, 3) := by decide +kernel
theorem dX11_kept_45 : decode cX11_kept 45 = .ok (.istore 5, 2) := by decide +kernel
theorem dX11_kept_47 : decode cX11_kept 47 = .ok (.iload 5, 2) := by decide +kernel
theorem dX11_kept_49 : decode cX11_kept 49 = .ok (.iconst (-1), 1) := by decide +kernel
theorem dX11_kept_50 : decode cX11_kept 50 = .ok (.if_icmp .ne 6, 3) := by decide +kernel
theorem dX11_kept_53 : decode cX11_kept 53 = .ok (.bipush (-2), 2) := by decide +kernel
theorem dX11_kept_55 : decode cX11_kept 55 = .ok (.ireturn, 1) := by decide +kernel
theorem dX11_kept_56 : decode cX11_kept 56 = .ok (.iload_n 3, 1) := by decide +kernel
theorem dX11_kept_57 : decode cX11_kept 57 = .ok (.ifCond .ne 8, 3) := by decide +kernel
theorem dX11_kept_60 : decode cX11_kept 60 = .ok (.iload 5, 2) := by decide +kernel
theorem dX11_kept_62 : decode cX11_kept 62 = .ok (.goto 12, 3) := by decide +kernel
theorem dX11_kept_65 : decode cX11_kept 65 = .ok (.aload_n 0, 1) := by decide +kernel
theorem dX11_kept_66 : decode cX11_kept 66 = .ok (.getfield 35, 3) := by decide +kernel
theorem dX11_kept_69 : decode cX11_kept 69 = .ok (.iload 5, 2) := by decide +kernel
theorem dX11_kept_71 : decode cX11_kept 71 = .ok (.invokevirtual 143, 3) := by decide +kernel
theorem dX11_kept_74 : decode cX11_kept 74 = .ok (.ireturn, 1) := by decide +kernel
theorem dX11_owes_0 : decode cX11_owes 0 = .ok (.aload_n 0, 1) := by decide +kernel
theorem dX11_owes_1 : decode cX11_owes 1 = .ok (.iload_n 1, 1) := by decide +kernel
theorem dX11_owes_2 : decode cX11_owes 2 = .ok (.iload_n 2, 1) := by decide +kernel
theorem dX11_owes_3 : decode cX11_owes 3 = .ok (.iload_n 3, 1) := by decide +kernel
theorem dX11_owes_4 : decode cX11_owes 4 = .ok (.invokevirtual 146, 3) := by decide +kernel
theorem dX11_owes_7 : decode cX11_owes 7 = .ok (.ifCond .eq 13, 3) := by decide +kernel
theorem dX11_owes_10 : decode cX11_owes 10 = .ok (.iload 4, 2) := by decide +kernel
theorem dX11_owes_12 : decode cX11_owes 12 = .ok (.iconst 0, 1) := by decide +kernel
theorem dX11_owes_13 : decode cX11_owes 13 = .ok (.iconst 2, 1) := by decide +kernel
theorem dX11_owes_14 : decode cX11_owes 14 = .ok (.invokestatic 73, 3) := by decide +kernel
theorem dX11_owes_17 : decode cX11_owes 17 = .ok (.ifCond .ne 5, 3) := by decide +kernel
theorem dX11_owes_20 : decode cX11_owes 20 = .ok (.iconst (-1), 1) := by decide +kernel
theorem dX11_owes_21 : decode cX11_owes 21 = .ok (.ireturn, 1) := by decide +kernel
theorem dX11_owes_22 : decode cX11_owes 22 = .ok (.aload_n 0, 1) := by decide +kernel
theorem dX11_owes_23 : decode cX11_owes 23 = .ok (.getfield 35, 3) := by decide +kernel
theorem dX11_owes_26 : decode cX11_owes 26 = .ok (.iload_n 1, 1) := by decide +kernel
theorem dX11_owes_27 : decode cX11_owes 27 = .ok (.iload_n 2, 1) := by decide +kernel
theorem dX11_owes_28 : decode cX11_owes 28 = .ok (.iload_n 3, 1) := by decide +kernel
theorem dX11_owes_29 : decode cX11_owes 29 = .ok (.invokevirtual 149, 3) := by decide +kernel
theorem dX11_owes_32 : decode cX11_owes 32 = .ok (.astore 5, 2) := by decide +kernel
theorem dX11_owes_34 : decode cX11_owes 34 = .ok (.iload 4, 2) := by decide +kernel
theorem dX11_owes_36 : decode cX11_owes 36 = .ok (.ifCond .ne 10, 3) := by decide +kernel
theorem dX11_owes_39 : decode cX11_owes 39 = .ok (.aload_n 0, 1) := by decide +kernel
theorem dX11_owes_40 : decode cX11_owes 40 = .ok (.aload 5, 2) := by decide +kernel
theorem dX11_owes_42 : decode cX11_owes 42 = .ok (.invokevirtual 153, 3) := by decide +kernel
theorem dX11_owes_45 : decode cX11_owes 45 = .ok (.ireturn, 1) := by decide +kernel
theorem dX11_owes_46 : decode cX11_owes 46 = .ok (.iload 4, 2) := by decide +kernel
theorem dX11_owes_48 : decode cX11_owes 48 = .ok (.iconst 1, 1) := by decide +kernel
theorem dX11_owes_49 : decode cX11_owes 49 = .ok (.if_icmp .ne 12, 3) := by decide +kernel
theorem dX11_owes_52 : decode cX11_owes 52 = .ok (.aload_n 0, 1) := by decide +kernel
theorem dX11_owes_53 : decode cX11_owes 53 = .ok (.aload 5, 2) := by decide +kernel
theorem dX11_owes_55 : decode cX11_owes 55 = .ok (.invokevirtual 157, 3) := by decide +kernel
theorem dX11_owes_58 : decode cX11_owes 58 = .ok (.goto 9, 3) := by decide +kernel
theorem dX11_owes_61 : decode cX11_owes 61 = .ok (.aload_n 0, 1) := by decide +kernel
theorem dX11_owes_62 : decode cX11_owes 62 = .ok (.aload 5, 2) := by decide +kernel
theorem dX11_owes_64 : decode cX11_owes 64 = .ok (.invokevirtual 160, 3) := by decide +kernel
theorem dX11_owes_67 : decode cX11_owes 67 = .ok (.ireturn, 1) := by decide +kernel
theorem dX11_chain_0 : decode cX11_chain 0 = .ok (.aload_n 0, 1) := by decide +kernel
theorem dX11_chain_1 : decode cX11_chain 1 = .ok (.iload_n 1, 1) := by decide +kernel
theorem dX11_chain_2 : decode cX11_chain 2 = .ok (.iload_n 2, 1) := by decide +kernel
theorem dX11_chain_3 : decode cX11_chain 3 = .ok (.iload_n 3, 1) := by decide +kernel
theorem dX11_chain_4 : decode cX11_chain 4 = .ok (.invokevirtual 146, 3) := by decide +kernel
theorem dX11_chain_7 : decode cX11_chain 7 = .ok (.ifCond .ne 5, 3) := by decide +kernel
theorem dX11_chain_10 : decode cX11_chain 10 = .ok (.iconst (-1), 1) := by decide +kernel
theorem dX11_chain_11 : decode cX11_chain 11 = .ok (.ireturn, 1) := by decide +kernel
theorem dX11_chain_12 : decode cX11_chain 12 = .ok (.aload_n 0, 1) := by decide +kernel
theorem dX11_chain_13 : decode cX11_chain 13 = .ok (.iload_n 1, 1) := by decide +kernel
theorem dX11_chain_14 : decode cX11_chain 14 = .ok (.iload_n 2, 1) := by decide +kernel
theorem dX11_chain_15 : decode cX11_chain 15 = .ok (.iload_n 3, 1) := by decide +kernel
theorem dX11_chain_16 : decode cX11_chain 16 = .ok (.invokevirtual 163, 3) := by decide +kernel
theorem dX11_chain_19 : decode cX11_chain 19 = .ok (.pop, 1) := by decide +kernel
theorem dX11_chain_20 : decode cX11_chain 20 = .ok (.iload 4, 2) := by decide +kernel
theorem dX11_chain_22 : decode cX11_chain 22 = .ok (.ifCond .ne 11, 3) := by decide +kernel
theorem dX11_chain_25 : decode cX11_chain 25 = .ok (.aload_n 0, 1) := by decide +kernel
theorem dX11_chain_26 : decode cX11_chain 26 = .ok (.getfield 35, 3) := by decide +kernel
theorem dX11_chain_29 : decode cX11_chain 29 = .ok (.invokevirtual 166, 3) := by decide +kernel
theorem dX11_chain_32 : decode cX11_chain 32 = .ok (.ireturn, 1) := by decide +kernel
theorem dX11_chain_33 : decode cX11_chain 33 = .ok (.iload 4, 2) := by decide +kernel
theorem dX11_chain_35 : decode cX11_chain 35 = .ok (.bipush 10, 2) := by decide +kernel
theorem dX11_chain_37 : decode cX11_chain 37 = .ok (.bipush 19, 2) := by decide +kernel
theorem dX11_chain_39 : decode cX11_chain 39 = .ok (.invokestatic 73, 3) := by decide +kernel
theorem dX11_chain_42 : decode cX11_chain 42 = .ok (.ifCond .eq 16, 3) := by decide +kernel
theorem dX11_chain_45 : decode cX11_chain 45 = .ok (.aload_n 0, 1) := by decide +kernel
theorem dX11_chain_46 : decode cX11_chain 46 = .ok (.getfield 35, 3) := by decide +kernel
theorem dX11_chain_49 : decode cX11_chain 49 = .ok (.iload 4, 2) := by decide +kernel
theorem dX11_chain_51 : decode cX11_chain 51 = .ok (.bipush 10, 2) := by decide +kernel
theorem dX11_chain_53 : decode cX11_chain 53 = .ok (.isub, 1) := by decide +kernel
theorem dX11_chain_54 : decode cX11_chain 54 = .ok (.invokevirtual 169, 3) := by decide +kernel
theorem dX11_chain_57 : decode cX11_chain 57 = .ok (.ireturn, 1) := by decide +kernel
theorem dX11_chain_58 : decode cX11_chain 58 = .ok (.iload 4, 2) := by decide +kernel
theorem dX11_chain_60 : decode cX11_chain 60 = .ok (.bipush 20, 2) := by decide +kernel
theorem dX11_chain_62 : decode cX11_chain 62 = .ok (.if_icmp .ge 7, 3) := by decide +kernel
theorem dX11_chain_65 : decode cX11_chain 65 = .ok (.iconst (-1), 1) := by decide +kernel
theorem dX11_chain_66 : decode cX11_chain 66 = .ok (.goto 15, 3) := by decide +kernel
theorem dX11_chain_69 : decode cX11_chain 69 = .ok (.aload_n 0, 1) := by decide +kernel
theorem dX11_chain_70 : decode cX11_chain 70 = .ok (.getfield 35, 3) := by decide +kernel
theorem dX11_chain_73 : decode cX11_chain 73 = .ok (.iload 4, 2) := by decide +kernel
theorem dX11_chain_75 : decode cX11_chain 75 = .ok (.bipush 20, 2) := by decide +kernel
theorem dX11_chain_77 : decode cX11_chain 77 = .ok (.isub, 1) := by decide +kernel
theorem dX11_chain_78 : decode cX11_chain 78 = .ok (.invokevirtual 172, 3) := by decide +kernel
theorem dX11_chain_81 : decode cX11_chain 81 = .ok (.ireturn, 1) := by decide +kernel
theorem dX11_settle_0 : decode cX11_settle 0 = .ok (.aload_n 0, 1) := by decide +kernel
theorem dX11_settle_1 : decode cX11_settle 1 = .ok (.getfield 35, 3) := by decide +kernel
theorem dX11_settle_4 : decode cX11_settle 4 = .ok (.iload_n 1, 1) := by decide +kernel
theorem dX11_settle_5 : decode cX11_settle 5 = .ok (.invokevirtual 98, 3) := by decide +kernel
theorem dX11_settle_8 : decode cX11_settle 8 = .ok (.astore_n 2, 1) := by decide +kernel
theorem dX11_settle_9 : decode cX11_settle 9 = .ok (.aload_n 2, 1) := by decide +kernel
theorem dX11_settle_10 : decode cX11_settle 10 = .ok (.ifnull 29, 3) := by decide +kernel
theorem dX11_settle_13 : decode cX11_settle 13 = .ok (.aload_n 2, 1) := by decide +kernel
theorem dX11_settle_14 : decode cX11_settle 14 = .ok (.invokevirtual 102, 3) := by decide +kernel
theorem dX11_settle_17 : decode cX11_settle 17 = .ok (.ifCond .ne 22, 3) := by decide +kernel
theorem dX11_settle_20 : decode cX11_settle 20 = .ok (.aload_n 2, 1) := by decide +kernel
theorem dX11_settle_21 : decode cX11_settle 21 = .ok (.getfield 175, 3) := by decide +kernel
theorem dX11_settle_24 : decode cX11_settle 24 = .ok (.aload_n 0, 1) := by decide +kernel
theorem dX11_settle_25 : decode cX11_settle 25 = .ok (.getfield 69, 3) := by decide +kernel
theorem dX11_settle_28 : decode cX11_settle 28 = .ok (.if_icmp .gt 11, 3) := by decide +kernel
theorem dX11_settle_31 : decode cX11_settle 31 = .ok (.aload_n 2, 1) := by decide +kernel
theorem dX11_settle_32 : decode cX11_settle 32 = .ok (.invokevirtual 130, 3) := by decide +kernel
theorem dX11_settle_35 : decode cX11_settle 35 = .ok (.iconst (-1), 1) := by decide +kernel
theorem dX11_settle_36 : decode cX11_settle 36 = .ok (.if_icmp .ne 5, 3) := by decide +kernel
theorem dX11_settle_39 : decode cX11_settle 39 = .ok (.iconst (-1), 1) := by decide +kernel
theorem dX11_settle_40 : decode cX11_settle 40 = .ok (.ireturn, 1) := by decide +kernel
theorem dX11_settle_41 : decode cX11_settle 41 = .ok (.aload_n 0, 1) := by decide +kernel
theorem dX11_settle_42 : decode cX11_settle 42 = .ok (.getfield 42, 3) := by decide +kernel
theorem dX11_settle_45 : decode cX11_settle 45 = .ok (.invokevirtual 178, 3) := by decide +kernel
theorem dX11_settle_48 : decode cX11_settle 48 = .ok (.istore_n 3, 1) := by decide +kernel
theorem dX11_settle_49 : decode cX11_settle 49 = .ok (.iconst 0, 1) := by decide +kernel
theorem dX11_settle_50 : decode cX11_settle 50 = .ok (.istore 4, 2) := by decide +kernel
theorem dX11_settle_52 : decode cX11_settle 52 = .ok (.iload 4, 2) := by decide +kernel
theorem dX11_settle_54 : decode cX11_settle 54 = .ok (.bipush 8, 2) := by decide +kernel
theorem dX11_settle_56 : decode cX11_settle 56 = .ok (.if_icmp .ge 66, 3) := by decide +kernel
theorem dX11_settle_59 : decode cX11_settle 59 = .ok (.iconst 0, 1) := by decide +kernel
theorem dX11_settle_60 : decode cX11_settle 60 = .ok (.istore 5, 2) := by decide +kernel
theorem dX11_settle_62 : decode cX11_settle 62 = .ok (.iload 5, 2) := by decide +kernel
theorem dX11_settle_64 : decode cX11_settle 64 = .ok (.bipush 8, 2) := by decide +kernel
theorem dX11_settle_66 : decode cX11_settle 66 = .ok (.if_icmp .ge 50, 3) := by decide +kernel
theorem dX11_settle_69 : decode cX11_settle 69 = .ok (.aload_n 0, 1) := by decide +kernel
theorem dX11_settle_70 : decode cX11_settle 70 = .ok (.iload_n 1, 1) := by decide +kernel
theorem dX11_settle_71 : decode cX11_settle 71 = .ok (.iload 4, 2) := by decide +kernel
theorem dX11_settle_73 : decode cX11_settle 73 = .ok (.iload 5, 2) := by decide +kernel
theorem dX11_settle_75 : decode cX11_settle 75 = .ok (.invokevirtual 146, 3) := by decide +kernel
theorem dX11_settle_78 : decode cX11_settle 78 = .ok (.ifCond .eq 32, 3) := by decide +kernel
theorem dX11_settle_81 : decode cX11_settle 81 = .ok (.aload_n 0, 1) := by decide +kernel
theorem dX11_settle_82 : decode cX11_settle 82 = .ok (.iload 5, 2) := by decide +kernel
theorem dX11_settle_84 : decode cX11_settle 84 = .ok (.aload_n 0, 1) := by decide +kernel
theorem dX11_settle_85 : decode cX11_settle 85 = .ok (.iload_n 1, 1) := by decide +kernel
theorem dX11_settle_86 : decode cX11_settle 86 = .ok (.iload 4, 2) := by decide +kernel
theorem dX11_settle_88 : decode cX11_settle 88 = .ok (.iload 5, 2) := by decide +kernel
theorem dX11_settle_90 : decode cX11_settle 90 = .ok (.invokevirtual 163, 3) := by decide +kernel
theorem dX11_settle_93 : decode cX11_settle 93 = .ok (.invokevirtual 179, 3) := by decide +kernel
theorem dX11_settle_96 : decode cX11_settle 96 = .ok (.ifCond .ne 14, 3) := by decide +kernel
theorem dX11_settle_99 : decode cX11_settle 99 = .ok (.aload_n 0, 1) := by decide +kernel
theorem dX11_settle_100 : decode cX11_settle 100 = .ok (.getfield 42, 3) := by decide +kernel
theorem dX11_settle_103 : decode cX11_settle 103 = .ok (.iload_n 3, 1) := by decide +kernel
theorem dX11_settle_104 : decode cX11_settle 104 = .ok (.invokevirtual 183, 3) := by decide +kernel
theorem dX11_settle_107 : decode cX11_settle 107 = .ok (.bipush (-2), 2) := by decide +kernel
theorem dX11_settle_109 : decode cX11_settle 109 = .ok (.ireturn, 1) := by decide +kernel
theorem dX11_settle_110 : decode cX11_settle 110 = .ok (.iinc 5 1, 3) := by decide +kernel
theorem dX11_settle_113 : decode cX11_settle 113 = .ok (.goto (-51), 3) := by decide +kernel
theorem dX11_settle_116 : decode cX11_settle 116 = .ok (.iinc 4 1, 3) := by decide +kernel
theorem dX11_settle_119 : decode cX11_settle 119 = .ok (.goto (-67), 3) := by decide +kernel
theorem dX11_settle_122 : decode cX11_settle 122 = .ok (.aload_n 2, 1) := by decide +kernel
theorem dX11_settle_123 : decode cX11_settle 123 = .ok (.invokevirtual 186, 3) := by decide +kernel
theorem dX11_settle_126 : decode cX11_settle 126 = .ok (.aload_n 0, 1) := by decide +kernel
theorem dX11_settle_127 : decode cX11_settle 127 = .ok (.getfield 42, 3) := by decide +kernel
theorem dX11_settle_130 : decode cX11_settle 130 = .ok (.invokevirtual 178, 3) := by decide +kernel
theorem dX11_settle_133 : decode cX11_settle 133 = .ok (.iload_n 3, 1) := by decide +kernel
theorem dX11_settle_134 : decode cX11_settle 134 = .ok (.isub, 1) := by decide +kernel
theorem dX11_settle_135 : decode cX11_settle 135 = .ok (.ireturn, 1) := by decide +kernel
theorem dX11_noteIs_0 : decode cX11_noteIs 0 = .ok (.aload_n 0, 1) := by decide +kernel
theorem dX11_noteIs_1 : decode cX11_noteIs 1 = .ok (.getfield 42, 3) := by decide +kernel
theorem dX11_noteIs_4 : decode cX11_noteIs 4 = .ok (.iload_n 1, 1) := by decide +kernel
theorem dX11_noteIs_5 : decode cX11_noteIs 5 = .ok (.invokevirtual 189, 3) := by decide +kernel
theorem dX11_noteIs_8 : decode cX11_noteIs 8 = .ok (.ifCond .ne 7, 3) := by decide +kernel
theorem dX11_noteIs_11 : decode cX11_noteIs 11 = .ok (.sipush (-1000), 3) := by decide +kernel
theorem dX11_noteIs_14 : decode cX11_noteIs 14 = .ok (.ireturn, 1) := by decide +kernel
theorem dX11_noteIs_15 : decode cX11_noteIs 15 = .ok (.iload_n 2, 1) := by decide +kernel
theorem dX11_noteIs_16 : decode cX11_noteIs 16 = .ok (.tableswitch 106 0 5 #[40, 49, 58, 67, 76, 85], 40) := by decide +kernel
theorem dX11_noteIs_56 : decode cX11_noteIs 56 = .ok (.aload_n 0, 1) := by decide +kernel
theorem dX11_noteIs_57 : decode cX11_noteIs 57 = .ok (.getfield 42, 3) := by decide +kernel
theorem dX11_noteIs_60 : decode cX11_noteIs 60 = .ok (.iload_n 1, 1) := by decide +kernel
theorem dX11_noteIs_61 : decode cX11_noteIs 61 = .ok (.invokevirtual 192, 3) := by decide +kernel
theorem dX11_noteIs_64 : decode cX11_noteIs 64 = .ok (.ireturn, 1) := by decide +kernel
theorem dX11_noteIs_65 : decode cX11_noteIs 65 = .ok (.aload_n 0, 1) := by decide +kernel
theorem dX11_noteIs_66 : decode cX11_noteIs 66 = .ok (.getfield 42, 3) := by decide +kernel
theorem dX11_noteIs_69 : decode cX11_noteIs 69 = .ok (.iload_n 1, 1) := by decide +kernel
theorem dX11_noteIs_70 : decode cX11_noteIs 70 = .ok (.invokevirtual 195, 3) := by decide +kernel
theorem dX11_noteIs_73 : decode cX11_noteIs 73 = .ok (.ireturn, 1) := by decide +kernel
theorem dX11_noteIs_74 : decode cX11_noteIs 74 = .ok (.aload_n 0, 1) := by decide +kernel
theorem dX11_noteIs_75 : decode cX11_noteIs 75 = .ok (.getfield 42, 3) := by decide +kernel
theorem dX11_noteIs_78 : decode cX11_noteIs 78 = .ok (.iload_n 1, 1) := by decide +kernel
theorem dX11_noteIs_79 : decode cX11_noteIs 79 = .ok (.invokevirtual 198, 3) := by decide +kernel
theorem dX11_noteIs_82 : decode cX11_noteIs 82 = .ok (.ireturn, 1) := by decide +kernel
theorem dX11_noteIs_83 : decode cX11_noteIs 83 = .ok (.aload_n 0, 1) := by decide +kernel
theorem dX11_noteIs_84 : decode cX11_noteIs 84 = .ok (.getfield 42, 3) := by decide +kernel
theorem dX11_noteIs_87 : decode cX11_noteIs 87 = .ok (.iload_n 1, 1) := by decide +kernel
theorem dX11_noteIs_88 : decode cX11_noteIs 88 = .ok (.invokevirtual 201, 3) := by decide +kernel
theorem dX11_noteIs_91 : decode cX11_noteIs 91 = .ok (.ireturn, 1) := by decide +kernel
theorem dX11_noteIs_92 : decode cX11_noteIs 92 = .ok (.aload_n 0, 1) := by decide +kernel
theorem dX11_noteIs_93 : decode cX11_noteIs 93 = .ok (.getfield 42, 3) := by decide +kernel
theorem dX11_noteIs_96 : decode cX11_noteIs 96 = .ok (.iload_n 1, 1) := by decide +kernel
theorem dX11_noteIs_97 : decode cX11_noteIs 97 = .ok (.invokevirtual 204, 3) := by decide +kernel
theorem dX11_noteIs_100 : decode cX11_noteIs 100 = .ok (.ireturn, 1) := by decide +kernel
theorem dX11_noteIs_101 : decode cX11_noteIs 101 = .ok (.aload_n 0, 1) := by decide +kernel
theorem dX11_noteIs_102 : decode cX11_noteIs 102 = .ok (.getfield 42, 3) := by decide +kernel
theorem dX11_noteIs_105 : decode cX11_noteIs 105 = .ok (.iload_n 1, 1) := by decide +kernel
theorem dX11_noteIs_106 : decode cX11_noteIs 106 = .ok (.aload_n 0, 1) := by decide +kernel
theorem dX11_noteIs_107 : decode cX11_noteIs 107 = .ok (.getfield 69, 3) := by decide +kernel
theorem dX11_noteIs_110 : decode cX11_noteIs 110 = .ok (.invokevirtual 207, 3) := by decide +kernel
theorem dX11_noteIs_113 : decode cX11_noteIs 113 = .ok (.ifCond .eq 7, 3) := by decide +kernel
theorem dX11_noteIs_116 : decode cX11_noteIs 116 = .ok (.iconst 1, 1) := by decide +kernel
theorem dX11_noteIs_117 : decode cX11_noteIs 117 = .ok (.goto 4, 3) := by decide +kernel
theorem dX11_noteIs_120 : decode cX11_noteIs 120 = .ok (.iconst 0, 1) := by decide +kernel
theorem dX11_noteIs_121 : decode cX11_noteIs 121 = .ok (.ireturn, 1) := by decide +kernel
theorem dX11_noteIs_122 : decode cX11_noteIs 122 = .ok (.sipush (-1000), 3) := by decide +kernel
theorem dX11_noteIs_125 : decode cX11_noteIs 125 = .ok (.ireturn, 1) := by decide +kernel
theorem dX11_hand_0 : decode cX11_hand 0 = .ok (.aload_n 0, 1) := by decide +kernel
theorem dX11_hand_1 : decode cX11_hand 1 = .ok (.getfield 42, 3) := by decide +kernel
theorem dX11_hand_4 : decode cX11_hand 4 = .ok (.iload_n 1, 1) := by decide +kernel
theorem dX11_hand_5 : decode cX11_hand 5 = .ok (.aload_n 0, 1) := by decide +kernel
theorem dX11_hand_6 : decode cX11_hand 6 = .ok (.getfield 69, 3) := by decide +kernel
theorem dX11_hand_9 : decode cX11_hand 9 = .ok (.invokevirtual 207, 3) := by decide +kernel
theorem dX11_hand_12 : decode cX11_hand 12 = .ok (.ifCond .eq 22, 3) := by decide +kernel
theorem dX11_hand_15 : decode cX11_hand 15 = .ok (.iload_n 2, 1) := by decide +kernel
theorem dX11_hand_16 : decode cX11_hand 16 = .ok (.invokestatic 80, 3) := by decide +kernel
theorem dX11_hand_19 : decode cX11_hand 19 = .ok (.ifCond .eq 15, 3) := by decide +kernel
theorem dX11_hand_22 : decode cX11_hand 22 = .ok (.aload_n 0, 1) := by decide +kernel
theorem dX11_hand_23 : decode cX11_hand 23 = .ok (.getfield 42, 3) := by decide +kernel
theorem dX11_hand_26 : decode cX11_hand 26 = .ok (.iload_n 1, 1) := by decide +kernel
theorem dX11_hand_27 : decode cX11_hand 27 = .ok (.invokevirtual 195, 3) := by decide +kernel
theorem dX11_hand_30 : decode cX11_hand 30 = .ok (.iload_n 2, 1) := by decide +kernel
theorem dX11_hand_31 : decode cX11_hand 31 = .ok (.if_icmp .ne 5, 3) := by decide +kernel
theorem dX11_hand_34 : decode cX11_hand 34 = .ok (.iconst 0, 1) := by decide +kernel
theorem dX11_hand_35 : decode cX11_hand 35 = .ok (.ireturn, 1) := by decide +kernel
theorem dX11_hand_36 : decode cX11_hand 36 = .ok (.aload_n 0, 1) := by decide +kernel
theorem dX11_hand_37 : decode cX11_hand 37 = .ok (.getfield 42, 3) := by decide +kernel
theorem dX11_hand_40 : decode cX11_hand 40 = .ok (.iload_n 1, 1) := by decide +kernel
theorem dX11_hand_41 : decode cX11_hand 41 = .ok (.iload_n 2, 1) := by decide +kernel
theorem dX11_hand_42 : decode cX11_hand 42 = .ok (.invokevirtual 211, 3) := by decide +kernel
theorem dX11_hand_45 : decode cX11_hand 45 = .ok (.iconst 1, 1) := by decide +kernel
theorem dX11_hand_46 : decode cX11_hand 46 = .ok (.ireturn, 1) := by decide +kernel
theorem dX11_cut_0 : decode cX11_cut 0 = .ok (.aload_n 0, 1) := by decide +kernel
theorem dX11_cut_1 : decode cX11_cut 1 = .ok (.getfield 42, 3) := by decide +kernel
theorem dX11_cut_4 : decode cX11_cut 4 = .ok (.iload_n 1, 1) := by decide +kernel
theorem dX11_cut_5 : decode cX11_cut 5 = .ok (.aload_n 0, 1) := by decide +kernel
theorem dX11_cut_6 : decode cX11_cut 6 = .ok (.getfield 69, 3) := by decide +kernel
theorem dX11_cut_9 : decode cX11_cut 9 = .ok (.invokevirtual 207, 3) := by decide +kernel
theorem dX11_cut_12 : decode cX11_cut 12 = .ok (.ifCond .eq 20, 3) := by decide +kernel
theorem dX11_cut_15 : decode cX11_cut 15 = .ok (.iload_n 2, 1) := by decide +kernel
theorem dX11_cut_16 : decode cX11_cut 16 = .ok (.iconst 1, 1) := by decide +kernel
theorem dX11_cut_17 : decode cX11_cut 17 = .ok (.if_icmp .lt 15, 3) := by decide +kernel
theorem dX11_cut_20 : decode cX11_cut 20 = .ok (.aload_n 0, 1) := by decide +kernel
theorem dX11_cut_21 : decode cX11_cut 21 = .ok (.getfield 42, 3) := by decide +kernel
theorem dX11_cut_24 : decode cX11_cut 24 = .ok (.iload_n 1, 1) := by decide +kernel
theorem dX11_cut_25 : decode cX11_cut 25 = .ok (.invokevirtual 198, 3) := by decide +kernel
theorem dX11_cut_28 : decode cX11_cut 28 = .ok (.iload_n 2, 1) := by decide +kernel
theorem dX11_cut_29 : decode cX11_cut 29 = .ok (.if_icmp .gt 5, 3) := by decide +kernel
theorem dX11_cut_32 : decode cX11_cut 32 = .ok (.iconst (-1), 1) := by decide +kernel
theorem dX11_cut_33 : decode cX11_cut 33 = .ok (.ireturn, 1) := by decide +kernel
theorem dX11_cut_34 : decode cX11_cut 34 = .ok (.aload_n 0, 1) := by decide +kernel
theorem dX11_cut_35 : decode cX11_cut 35 = .ok (.getfield 42, 3) := by decide +kernel
theorem dX11_cut_38 : decode cX11_cut 38 = .ok (.iload_n 1, 1) := by decide +kernel
theorem dX11_cut_39 : decode cX11_cut 39 = .ok (.iload_n 2, 1) := by decide +kernel
theorem dX11_cut_40 : decode cX11_cut 40 = .ok (.invokevirtual 214, 3) := by decide +kernel
theorem dX11_cut_43 : decode cX11_cut 43 = .ok (.ireturn, 1) := by decide +kernel
theorem dX11_take_0 : decode cX11_take 0 = .ok (.aload_n 0, 1) := by decide +kernel
theorem dX11_take_1 : decode cX11_take 1 = .ok (.getfield 42, 3) := by decide +kernel
theorem dX11_take_4 : decode cX11_take 4 = .ok (.iload_n 1, 1) := by decide +kernel
theorem dX11_take_5 : decode cX11_take 5 = .ok (.aload_n 0, 1) := by decide +kernel
theorem dX11_take_6 : decode cX11_take 6 = .ok (.getfield 69, 3) := by decide +kernel
theorem dX11_take_9 : decode cX11_take 9 = .ok (.invokevirtual 207, 3) := by decide +kernel
theorem dX11_take_12 : decode cX11_take 12 = .ok (.ifCond .eq 13, 3) := by decide +kernel
theorem dX11_take_15 : decode cX11_take 15 = .ok (.iload_n 3, 1) := by decide +kernel
theorem dX11_take_16 : decode cX11_take 16 = .ok (.iconst 0, 1) := by decide +kernel
theorem dX11_take_17 : decode cX11_take 17 = .ok (.bipush 23, 2) := by decide +kernel
theorem dX11_take_19 : decode cX11_take 19 = .ok (.invokestatic 73, 3) := by decide +kernel
theorem dX11_take_22 : decode cX11_take 22 = .ok (.ifCond .ne 5, 3) := by decide +kernel
theorem dX11_take_25 : decode cX11_take 25 = .ok (.iconst (-1), 1) := by decide +kernel
theorem dX11_take_26 : decode cX11_take 26 = .ok (.ireturn, 1) := by decide +kernel
theorem dX11_take_27 : decode cX11_take 27 = .ok (.iload_n 2, 1) := by decide +kernel
theorem dX11_take_28 : decode cX11_take 28 = .ok (.iconst 1, 1) := by decide +kernel
theorem dX11_take_29 : decode cX11_take 29 = .ok (.bipush 60, 2) := by decide +kernel
theorem dX11_take_31 : decode cX11_take 31 = .ok (.invokestatic 73, 3) := by decide +kernel
theorem dX11_take_34 : decode cX11_take 34 = .ok (.ifCond .eq 15, 3) := by decide +kernel
theorem dX11_take_37 : decode cX11_take 37 = .ok (.aload_n 0, 1) := by decide +kernel
theorem dX11_take_38 : decode cX11_take 38 = .ok (.getfield 42, 3) := by decide +kernel
theorem dX11_take_41 : decode cX11_take 41 = .ok (.iload_n 1, 1) := by decide +kernel
theorem dX11_take_42 : decode cX11_take 42 = .ok (.invokevirtual 198, 3) := by decide +kernel
theorem dX11_take_45 : decode cX11_take 45 = .ok (.iload_n 2, 1) := by decide +kernel
theorem dX11_take_46 : decode cX11_take 46 = .ok (.if_icmp .ge 5, 3) := by decide +kernel
theorem dX11_take_49 : decode cX11_take 49 = .ok (.iconst (-1), 1) := by decide +kernel
theorem dX11_take_50 : decode cX11_take 50 = .ok (.ireturn, 1) := by decide +kernel
theorem dX11_take_51 : decode cX11_take 51 = .ok (.aload_n 0, 1) := by decide +kernel
theorem dX11_take_52 : decode cX11_take 52 = .ok (.getfield 42, 3) := by decide +kernel
theorem dX11_take_55 : decode cX11_take 55 = .ok (.iload_n 1, 1) := by decide +kernel
theorem dX11_take_56 : decode cX11_take 56 = .ok (.invokevirtual 192, 3) := by decide +kernel
theorem dX11_take_59 : decode cX11_take 59 = .ok (.istore 4, 2) := by decide +kernel
theorem dX11_take_61 : decode cX11_take 61 = .ok (.aload_n 0, 1) := by decide +kernel
theorem dX11_take_62 : decode cX11_take 62 = .ok (.getfield 42, 3) := by decide +kernel
theorem dX11_take_65 : decode cX11_take 65 = .ok (.iload_n 1, 1) := by decide +kernel
theorem dX11_take_66 : decode cX11_take 66 = .ok (.invokevirtual 195, 3) := by decide +kernel
theorem dX11_take_69 : decode cX11_take 69 = .ok (.istore 5, 2) := by decide +kernel
theorem dX11_take_71 : decode cX11_take 71 = .ok (.aload_n 0, 1) := by decide +kernel
theorem dX11_take_72 : decode cX11_take 72 = .ok (.getfield 26, 3) := by decide +kernel
theorem dX11_take_75 : decode cX11_take 75 = .ok (.iload 4, 2) := by decide +kernel
theorem dX11_take_77 : decode cX11_take 77 = .ok (.iload_n 3, 1) := by decide +kernel
theorem dX11_take_78 : decode cX11_take 78 = .ok (.invokevirtual 217, 3) := by decide +kernel
theorem dX11_take_81 : decode cX11_take 81 = .ok (.iload_n 2, 1) := by decide +kernel
theorem dX11_take_82 : decode cX11_take 82 = .ok (.iadd, 1) := by decide +kernel
theorem dX11_take_83 : decode cX11_take 83 = .ok (.bipush 60, 2) := by decide +kernel
theorem dX11_take_85 : decode cX11_take 85 = .ok (.if_icmp .le 5, 3) := by decide +kernel
theorem dX11_take_88 : decode cX11_take 88 = .ok (.iconst (-1), 1) := by decide +kernel
theorem dX11_take_89 : decode cX11_take 89 = .ok (.ireturn, 1) := by decide +kernel
theorem dX11_take_90 : decode cX11_take 90 = .ok (.aload_n 0, 1) := by decide +kernel
theorem dX11_take_91 : decode cX11_take 91 = .ok (.getfield 26, 3) := by decide +kernel
theorem dX11_take_94 : decode cX11_take 94 = .ok (.iload 5, 2) := by decide +kernel
theorem dX11_take_96 : decode cX11_take 96 = .ok (.iload_n 3, 1) := by decide +kernel
theorem dX11_take_97 : decode cX11_take 97 = .ok (.invokevirtual 220, 3) := by decide +kernel
theorem dX11_take_100 : decode cX11_take 100 = .ok (.iload_n 2, 1) := by decide +kernel
theorem dX11_take_101 : decode cX11_take 101 = .ok (.iadd, 1) := by decide +kernel
theorem dX11_take_102 : decode cX11_take 102 = .ok (.bipush 60, 2) := by decide +kernel
theorem dX11_take_104 : decode cX11_take 104 = .ok (.if_icmp .le 5, 3) := by decide +kernel
theorem dX11_take_107 : decode cX11_take 107 = .ok (.iconst (-1), 1) := by decide +kernel
theorem dX11_take_108 : decode cX11_take 108 = .ok (.ireturn, 1) := by decide +kernel
theorem dX11_take_109 : decode cX11_take 109 = .ok (.aload_n 0, 1) := by decide +kernel
theorem dX11_take_110 : decode cX11_take 110 = .ok (.getfield 26, 3) := by decide +kernel
theorem dX11_take_113 : decode cX11_take 113 = .ok (.iload 4, 2) := by decide +kernel
theorem dX11_take_115 : decode cX11_take 115 = .ok (.iload 5, 2) := by decide +kernel
theorem dX11_take_117 : decode cX11_take 117 = .ok (.iload_n 3, 1) := by decide +kernel
theorem dX11_take_118 : decode cX11_take 118 = .ok (.iload_n 2, 1) := by decide +kernel
theorem dX11_take_119 : decode cX11_take 119 = .ok (.invokevirtual 223, 3) := by decide +kernel
theorem dX11_take_122 : decode cX11_take 122 = .ok (.aload_n 0, 1) := by decide +kernel
theorem dX11_take_123 : decode cX11_take 123 = .ok (.getfield 42, 3) := by decide +kernel
theorem dX11_take_126 : decode cX11_take 126 = .ok (.iload_n 1, 1) := by decide +kernel
theorem dX11_take_127 : decode cX11_take 127 = .ok (.iload_n 2, 1) := by decide +kernel
theorem dX11_take_128 : decode cX11_take 128 = .ok (.invokevirtual 227, 3) := by decide +kernel
theorem dX11_take_131 : decode cX11_take 131 = .ok (.aload_n 0, 1) := by decide +kernel
theorem dX11_take_132 : decode cX11_take 132 = .ok (.getfield 42, 3) := by decide +kernel
theorem dX11_take_135 : decode cX11_take 135 = .ok (.iload_n 1, 1) := by decide +kernel
theorem dX11_take_136 : decode cX11_take 136 = .ok (.invokevirtual 198, 3) := by decide +kernel
theorem dX11_take_139 : decode cX11_take 139 = .ok (.ireturn, 1) := by decide +kernel
theorem dX11_owed_0 : decode cX11_owed 0 = .ok (.iload_n 1, 1) := by decide +kernel
theorem dX11_owed_1 : decode cX11_owed 1 = .ok (.iconst (-1), 1) := by decide +kernel
theorem dX11_owed_2 : decode cX11_owed 2 = .ok (.bipush 7, 2) := by decide +kernel
theorem dX11_owed_4 : decode cX11_owed 4 = .ok (.invokestatic 73, 3) := by decide +kernel
theorem dX11_owed_7 : decode cX11_owed 7 = .ok (.ifCond .eq 13, 3) := by decide +kernel
theorem dX11_owed_10 : decode cX11_owed 10 = .ok (.iload_n 2, 1) := by decide +kernel
theorem dX11_owed_11 : decode cX11_owed 11 = .ok (.iconst (-1), 1) := by decide +kernel
theorem dX11_owed_12 : decode cX11_owed 12 = .ok (.bipush 7, 2) := by decide +kernel
theorem dX11_owed_14 : decode cX11_owed 14 = .ok (.invokestatic 73, 3) := by decide +kernel
theorem dX11_owed_17 : decode cX11_owed 17 = .ok (.ifCond .ne 5, 3) := by decide +kernel
theorem dX11_owed_20 : decode cX11_owed 20 = .ok (.iconst (-1), 1) := by decide +kernel
theorem dX11_owed_21 : decode cX11_owed 21 = .ok (.ireturn, 1) := by decide +kernel
theorem dX11_owed_22 : decode cX11_owed 22 = .ok (.iload_n 1, 1) := by decide +kernel
theorem dX11_owed_23 : decode cX11_owed 23 = .ok (.iload_n 2, 1) := by decide +kernel
theorem dX11_owed_24 : decode cX11_owed 24 = .ok (.if_icmp .ne 10, 3) := by decide +kernel
theorem dX11_owed_27 : decode cX11_owed 27 = .ok (.iload_n 1, 1) := by decide +kernel
theorem dX11_owed_28 : decode cX11_owed 28 = .ok (.iconst (-1), 1) := by decide +kernel
theorem dX11_owed_29 : decode cX11_owed 29 = .ok (.if_icmp .eq 5, 3) := by decide +kernel
theorem dX11_owed_32 : decode cX11_owed 32 = .ok (.iconst (-1), 1) := by decide +kernel
theorem dX11_owed_33 : decode cX11_owed 33 = .ok (.ireturn, 1) := by decide +kernel
theorem dX11_owed_34 : decode cX11_owed 34 = .ok (.aload_n 0, 1) := by decide +kernel
theorem dX11_owed_35 : decode cX11_owed 35 = .ok (.getfield 42, 3) := by decide +kernel
theorem dX11_owed_38 : decode cX11_owed 38 = .ok (.iload_n 1, 1) := by decide +kernel
theorem dX11_owed_39 : decode cX11_owed 39 = .ok (.iload_n 2, 1) := by decide +kernel
theorem dX11_owed_40 : decode cX11_owed 40 = .ok (.aload_n 0, 1) := by decide +kernel
theorem dX11_owed_41 : decode cX11_owed 41 = .ok (.getfield 69, 3) := by decide +kernel
theorem dX11_owed_44 : decode cX11_owed 44 = .ok (.invokevirtual 230, 3) := by decide +kernel
theorem dX11_owed_47 : decode cX11_owed 47 = .ok (.ireturn, 1) := by decide +kernel
theorem dX11_called_0 : decode cX11_called 0 = .ok (.iload_n 1, 1) := by decide +kernel
theorem dX11_called_1 : decode cX11_called 1 = .ok (.invokestatic 80, 3) := by decide +kernel
theorem dX11_called_4 : decode cX11_called 4 = .ok (.ifCond .eq 13, 3) := by decide +kernel
theorem dX11_called_7 : decode cX11_called 7 = .ok (.iload_n 2, 1) := by decide +kernel
theorem dX11_called_8 : decode cX11_called 8 = .ok (.iconst 0, 1) := by decide +kernel
theorem dX11_called_9 : decode cX11_called 9 = .ok (.bipush 6, 2) := by decide +kernel
theorem dX11_called_11 : decode cX11_called 11 = .ok (.invokestatic 73, 3) := by decide +kernel
theorem dX11_called_14 : decode cX11_called 14 = .ok (.ifCond .ne 7, 3) := by decide +kernel
theorem dX11_called_17 : decode cX11_called 17 = .ok (.ldc2_w 233, 3) := by decide +kernel
theorem dX11_called_20 : decode cX11_called 20 = .ok (.lreturn, 1) := by decide +kernel
theorem dX11_called_21 : decode cX11_called 21 = .ok (.aload_n 0, 1) := by decide +kernel
theorem dX11_called_22 : decode cX11_called 22 = .ok (.getfield 42, 3) := by decide +kernel
theorem dX11_called_25 : decode cX11_called 25 = .ok (.iload_n 1, 1) := by decide +kernel
theorem dX11_called_26 : decode cX11_called 26 = .ok (.iload_n 2, 1) := by decide +kernel
theorem dX11_called_27 : decode cX11_called 27 = .ok (.aload_n 0, 1) := by decide +kernel
theorem dX11_called_28 : decode cX11_called 28 = .ok (.getfield 69, 3) := by decide +kernel
theorem dX11_called_31 : decode cX11_called 31 = .ok (.aload_n 0, 1) := by decide +kernel
theorem dX11_called_32 : decode cX11_called 32 = .ok (.getfield 26, 3) := by decide +kernel
theorem dX11_called_35 : decode cX11_called 35 = .ok (.invokevirtual 235, 3) := by decide +kernel
theorem dX11_called_38 : decode cX11_called 38 = .ok (.lreturn, 1) := by decide +kernel
theorem dX11_round_0 : decode cX11_round 0 = .ok (.aload_n 0, 1) := by decide +kernel
theorem dX11_round_1 : decode cX11_round 1 = .ok (.getfield 49, 3) := by decide +kernel
theorem dX11_round_4 : decode cX11_round 4 = .ok (.aload_n 0, 1) := by decide +kernel
theorem dX11_round_5 : decode cX11_round 5 = .ok (.getfield 42, 3) := by decide +kernel
theorem dX11_round_8 : decode cX11_round 8 = .ok (.aload_n 0, 1) := by decide +kernel
theorem dX11_round_9 : decode cX11_round 9 = .ok (.getfield 69, 3) := by decide +kernel
theorem dX11_round_12 : decode cX11_round 12 = .ok (.invokevirtual 239, 3) := by decide +kernel
theorem dX11_round_15 : decode cX11_round 15 = .ok (.aload_n 0, 1) := by decide +kernel
theorem dX11_round_16 : decode cX11_round 16 = .ok (.getfield 49, 3) := by decide +kernel
theorem dX11_round_19 : decode cX11_round 19 = .ok (.invokevirtual 243, 3) := by decide +kernel
theorem dX11_round_22 : decode cX11_round 22 = .ok (.ireturn, 1) := by decide +kernel
theorem dX11_takings_0 : decode cX11_takings 0 = .ok (.aload_n 0, 1) := by decide +kernel
theorem dX11_takings_1 : decode cX11_takings 1 = .ok (.getfield 49, 3) := by decide +kernel
theorem dX11_takings_4 : decode cX11_takings 4 = .ok (.aload_n 0, 1) := by decide +kernel
theorem dX11_takings_5 : decode cX11_takings 5 = .ok (.getfield 42, 3) := by decide +kernel
theorem dX11_takings_8 : decode cX11_takings 8 = .ok (.aload_n 0, 1) := by decide +kernel
theorem dX11_takings_9 : decode cX11_takings 9 = .ok (.getfield 69, 3) := by decide +kernel
theorem dX11_takings_12 : decode cX11_takings 12 = .ok (.invokevirtual 239, 3) := by decide +kernel
theorem dX11_takings_15 : decode cX11_takings 15 = .ok (.aload_n 0, 1) := by decide +kernel
theorem dX11_takings_16 : decode cX11_takings 16 = .ok (.getfield 49, 3) := by decide +kernel
theorem dX11_takings_19 : decode cX11_takings 19 = .ok (.invokevirtual 246, 3) := by decide +kernel
theorem dX11_takings_22 : decode cX11_takings 22 = .ok (.ireturn, 1) := by decide +kernel
theorem dX11_end_0 : decode cX11_end 0 = .ok (.iload_n 1, 1) := by decide +kernel
theorem dX11_end_1 : decode cX11_end 1 = .ok (.invokestatic 80, 3) := by decide +kernel
theorem dX11_end_4 : decode cX11_end 4 = .ok (.ifCond .eq 24, 3) := by decide +kernel
theorem dX11_end_7 : decode cX11_end 7 = .ok (.iload_n 2, 1) := by decide +kernel
theorem dX11_end_8 : decode cX11_end 8 = .ok (.iconst 0, 1) := by decide +kernel
theorem dX11_end_9 : decode cX11_end 9 = .ok (.sipush 300, 3) := by decide +kernel
theorem dX11_end_12 : decode cX11_end 12 = .ok (.invokestatic 73, 3) := by decide +kernel
theorem dX11_end_15 : decode cX11_end 15 = .ok (.ifCond .eq 13, 3) := by decide +kernel
theorem dX11_end_18 : decode cX11_end 18 = .ok (.iload_n 3, 1) := by decide +kernel
theorem dX11_end_19 : decode cX11_end 19 = .ok (.iconst 1, 1) := by decide +kernel
theorem dX11_end_20 : decode cX11_end 20 = .ok (.bipush 20, 2) := by decide +kernel
theorem dX11_end_22 : decode cX11_end 22 = .ok (.invokestatic 73, 3) := by decide +kernel
theorem dX11_end_25 : decode cX11_end 25 = .ok (.ifCond .ne 5, 3) := by decide +kernel
theorem dX11_end_28 : decode cX11_end 28 = .ok (.iconst (-1), 1) := by decide +kernel
theorem dX11_end_29 : decode cX11_end 29 = .ok (.ireturn, 1) := by decide +kernel
theorem dX11_end_30 : decode cX11_end 30 = .ok (.aload_n 0, 1) := by decide +kernel
theorem dX11_end_31 : decode cX11_end 31 = .ok (.getfield 56, 3) := by decide +kernel
theorem dX11_end_34 : decode cX11_end 34 = .ok (.iload_n 1, 1) := by decide +kernel
theorem dX11_end_35 : decode cX11_end 35 = .ok (.iload_n 2, 1) := by decide +kernel
theorem dX11_end_36 : decode cX11_end 36 = .ok (.iload_n 3, 1) := by decide +kernel
theorem dX11_end_37 : decode cX11_end 37 = .ok (.invokevirtual 249, 3) := by decide +kernel
theorem dX11_end_40 : decode cX11_end 40 = .ok (.ireturn, 1) := by decide +kernel
theorem dX11_bridge_0 : decode cX11_bridge 0 = .ok (.iload_n 2, 1) := by decide +kernel
theorem dX11_bridge_1 : decode cX11_bridge 1 = .ok (.iconst 1, 1) := by decide +kernel
theorem dX11_bridge_2 : decode cX11_bridge 2 = .ok (.bipush 100, 2) := by decide +kernel
theorem dX11_bridge_4 : decode cX11_bridge 4 = .ok (.invokestatic 73, 3) := by decide +kernel
theorem dX11_bridge_7 : decode cX11_bridge 7 = .ok (.ifCond .eq 23, 3) := by decide +kernel
theorem dX11_bridge_10 : decode cX11_bridge 10 = .ok (.iload_n 1, 1) := by decide +kernel
theorem dX11_bridge_11 : decode cX11_bridge 11 = .ok (.iconst 0, 1) := by decide +kernel
theorem dX11_bridge_12 : decode cX11_bridge 12 = .ok (.iload_n 2, 1) := by decide +kernel
theorem dX11_bridge_13 : decode cX11_bridge 13 = .ok (.invokestatic 73, 3) := by decide +kernel
theorem dX11_bridge_16 : decode cX11_bridge 16 = .ok (.ifCond .eq 14, 3) := by decide +kernel
theorem dX11_bridge_19 : decode cX11_bridge 19 = .ok (.iload_n 3, 1) := by decide +kernel
theorem dX11_bridge_20 : decode cX11_bridge 20 = .ok (.iconst 0, 1) := by decide +kernel
theorem dX11_bridge_21 : decode cX11_bridge 21 = .ok (.sipush 600, 3) := by decide +kernel
theorem dX11_bridge_24 : decode cX11_bridge 24 = .ok (.invokestatic 73, 3) := by decide +kernel
theorem dX11_bridge_27 : decode cX11_bridge 27 = .ok (.ifCond .ne 5, 3) := by decide +kernel
theorem dX11_bridge_30 : decode cX11_bridge 30 = .ok (.iconst 0, 1) := by decide +kernel
theorem dX11_bridge_31 : decode cX11_bridge 31 = .ok (.ireturn, 1) := by decide +kernel
theorem dX11_bridge_32 : decode cX11_bridge 32 = .ok (.aload_n 0, 1) := by decide +kernel
theorem dX11_bridge_33 : decode cX11_bridge 33 = .ok (.getfield 56, 3) := by decide +kernel
theorem dX11_bridge_36 : decode cX11_bridge 36 = .ok (.iload_n 1, 1) := by decide +kernel
theorem dX11_bridge_37 : decode cX11_bridge 37 = .ok (.iload_n 2, 1) := by decide +kernel
theorem dX11_bridge_38 : decode cX11_bridge 38 = .ok (.iload_n 3, 1) := by decide +kernel
theorem dX11_bridge_39 : decode cX11_bridge 39 = .ok (.invokevirtual 251, 3) := by decide +kernel
theorem dX11_bridge_42 : decode cX11_bridge 42 = .ok (.iconst 1, 1) := by decide +kernel
theorem dX11_bridge_43 : decode cX11_bridge 43 = .ok (.ireturn, 1) := by decide +kernel
theorem dX11_crosses_0 : decode cX11_crosses 0 = .ok (.iload_n 1, 1) := by decide +kernel
theorem dX11_crosses_1 : decode cX11_crosses 1 = .ok (.invokestatic 80, 3) := by decide +kernel
theorem dX11_crosses_4 : decode cX11_crosses 4 = .ok (.ifCond .eq 15, 3) := by decide +kernel
theorem dX11_crosses_7 : decode cX11_crosses 7 = .ok (.aload_n 0, 1) := by decide +kernel
theorem dX11_crosses_8 : decode cX11_crosses 8 = .ok (.getfield 56, 3) := by decide +kernel
theorem dX11_crosses_11 : decode cX11_crosses 11 = .ok (.iload_n 1, 1) := by decide +kernel
theorem dX11_crosses_12 : decode cX11_crosses 12 = .ok (.invokevirtual 254, 3) := by decide +kernel
theorem dX11_crosses_15 : decode cX11_crosses 15 = .ok (.iload_n 2, 1) := by decide +kernel
theorem dX11_crosses_16 : decode cX11_crosses 16 = .ok (.if_icmp .ne 5, 3) := by decide +kernel
theorem dX11_crosses_19 : decode cX11_crosses 19 = .ok (.iconst 0, 1) := by decide +kernel
theorem dX11_crosses_20 : decode cX11_crosses 20 = .ok (.ireturn, 1) := by decide +kernel
theorem dX11_crosses_21 : decode cX11_crosses 21 = .ok (.aload_n 0, 1) := by decide +kernel
theorem dX11_crosses_22 : decode cX11_crosses 22 = .ok (.getfield 56, 3) := by decide +kernel
theorem dX11_crosses_25 : decode cX11_crosses 25 = .ok (.iload_n 1, 1) := by decide +kernel
theorem dX11_crosses_26 : decode cX11_crosses 26 = .ok (.iload_n 2, 1) := by decide +kernel
theorem dX11_crosses_27 : decode cX11_crosses 27 = .ok (.invokevirtual 257, 3) := by decide +kernel
theorem dX11_crosses_30 : decode cX11_crosses 30 = .ok (.iconst 1, 1) := by decide +kernel
theorem dX11_crosses_31 : decode cX11_crosses 31 = .ok (.ireturn, 1) := by decide +kernel
theorem dX11_lateIf_0 : decode cX11_lateIf 0 = .ok (.iload_n 1, 1) := by decide +kernel
theorem dX11_lateIf_1 : decode cX11_lateIf 1 = .ok (.invokestatic 80, 3) := by decide +kernel
theorem dX11_lateIf_4 : decode cX11_lateIf 4 = .ok (.ifCond .eq 23, 3) := by decide +kernel
theorem dX11_lateIf_7 : decode cX11_lateIf 7 = .ok (.iload_n 2, 1) := by decide +kernel
theorem dX11_lateIf_8 : decode cX11_lateIf 8 = .ok (.iconst 0, 1) := by decide +kernel
theorem dX11_lateIf_9 : decode cX11_lateIf 9 = .ok (.sipush 600, 3) := by decide +kernel
theorem dX11_lateIf_12 : decode cX11_lateIf 12 = .ok (.invokestatic 73, 3) := by decide +kernel
theorem dX11_lateIf_15 : decode cX11_lateIf 15 = .ok (.ifCond .eq 12, 3) := by decide +kernel
theorem dX11_lateIf_18 : decode cX11_lateIf 18 = .ok (.iload_n 3, 1) := by decide +kernel
theorem dX11_lateIf_19 : decode cX11_lateIf 19 = .ok (.iconst 0, 1) := by decide +kernel
theorem dX11_lateIf_20 : decode cX11_lateIf 20 = .ok (.iconst 1, 1) := by decide +kernel
theorem dX11_lateIf_21 : decode cX11_lateIf 21 = .ok (.invokestatic 73, 3) := by decide +kernel
theorem dX11_lateIf_24 : decode cX11_lateIf 24 = .ok (.ifCond .ne 5, 3) := by decide +kernel
theorem dX11_lateIf_27 : decode cX11_lateIf 27 = .ok (.iconst (-1), 1) := by decide +kernel
theorem dX11_lateIf_28 : decode cX11_lateIf 28 = .ok (.ireturn, 1) := by decide +kernel
theorem dX11_lateIf_29 : decode cX11_lateIf 29 = .ok (.aload_n 0, 1) := by decide +kernel
theorem dX11_lateIf_30 : decode cX11_lateIf 30 = .ok (.getfield 56, 3) := by decide +kernel
theorem dX11_lateIf_33 : decode cX11_lateIf 33 = .ok (.iload_n 1, 1) := by decide +kernel
theorem dX11_lateIf_34 : decode cX11_lateIf 34 = .ok (.iload_n 2, 1) := by decide +kernel
theorem dX11_lateIf_35 : decode cX11_lateIf 35 = .ok (.invokevirtual 261, 3) := by decide +kernel
theorem dX11_lateIf_38 : decode cX11_lateIf 38 = .ok (.istore 4, 2) := by decide +kernel
theorem dX11_lateIf_40 : decode cX11_lateIf 40 = .ok (.aload_n 0, 1) := by decide +kernel
theorem dX11_lateIf_41 : decode cX11_lateIf 41 = .ok (.getfield 56, 3) := by decide +kernel
theorem dX11_lateIf_44 : decode cX11_lateIf 44 = .ok (.invokevirtual 264, 3) := by decide +kernel
theorem dX11_lateIf_47 : decode cX11_lateIf 47 = .ok (.aload_n 0, 1) := by decide +kernel
theorem dX11_lateIf_48 : decode cX11_lateIf 48 = .ok (.getfield 56, 3) := by decide +kernel
theorem dX11_lateIf_51 : decode cX11_lateIf 51 = .ok (.iload_n 1, 1) := by decide +kernel
theorem dX11_lateIf_52 : decode cX11_lateIf 52 = .ok (.invokevirtual 267, 3) := by decide +kernel
theorem dX11_lateIf_55 : decode cX11_lateIf 55 = .ok (.imul, 1) := by decide +kernel
theorem dX11_lateIf_56 : decode cX11_lateIf 56 = .ok (.istore 5, 2) := by decide +kernel
theorem dX11_lateIf_58 : decode cX11_lateIf 58 = .ok (.iload_n 3, 1) := by decide +kernel
theorem dX11_lateIf_59 : decode cX11_lateIf 59 = .ok (.ifCond .ne 8, 3) := by decide +kernel
theorem dX11_lateIf_62 : decode cX11_lateIf 62 = .ok (.iload 4, 2) := by decide +kernel
theorem dX11_lateIf_64 : decode cX11_lateIf 64 = .ok (.goto 5, 3) := by decide +kernel
theorem dX11_lateIf_67 : decode cX11_lateIf 67 = .ok (.iload 5, 2) := by decide +kernel
theorem dX11_lateIf_69 : decode cX11_lateIf 69 = .ok (.iload 4, 2) := by decide +kernel
theorem dX11_lateIf_71 : decode cX11_lateIf 71 = .ok (.iload 5, 2) := by decide +kernel
theorem dX11_lateIf_73 : decode cX11_lateIf 73 = .ok (.invokestatic 270, 3) := by decide +kernel
theorem dX11_lateIf_76 : decode cX11_lateIf 76 = .ok (.invokestatic 273, 3) := by decide +kernel
theorem dX11_lateIf_79 : decode cX11_lateIf 79 = .ok (.ireturn, 1) := by decide +kernel
theorem dX11_hang_0 : decode cX11_hang 0 = .ok (.iload_n 1, 1) := by decide +kernel
theorem dX11_hang_1 : decode cX11_hang 1 = .ok (.iconst 1, 1) := by decide +kernel
theorem dX11_hang_2 : decode cX11_hang 2 = .ok (.sipush 255, 3) := by decide +kernel
theorem dX11_hang_5 : decode cX11_hang 5 = .ok (.invokestatic 73, 3) := by decide +kernel
theorem dX11_hang_8 : decode cX11_hang 8 = .ok (.ifCond .eq 14, 3) := by decide +kernel
theorem dX11_hang_11 : decode cX11_hang 11 = .ok (.iload_n 2, 1) := by decide +kernel
theorem dX11_hang_12 : decode cX11_hang 12 = .ok (.iconst 0, 1) := by decide +kernel
theorem dX11_hang_13 : decode cX11_hang 13 = .ok (.sipush 600, 3) := by decide +kernel
theorem dX11_hang_16 : decode cX11_hang 16 = .ok (.invokestatic 73, 3) := by decide +kernel
theorem dX11_hang_19 : decode cX11_hang 19 = .ok (.ifCond .ne 7, 3) := by decide +kernel
theorem dX11_hang_22 : decode cX11_hang 22 = .ok (.ldc2_w 233, 3) := by decide +kernel
theorem dX11_hang_25 : decode cX11_hang 25 = .ok (.lreturn, 1) := by decide +kernel
theorem dX11_hang_26 : decode cX11_hang 26 = .ok (.iload_n 3, 1) := by decide +kernel
theorem dX11_hang_27 : decode cX11_hang 27 = .ok (.iconst 0, 1) := by decide +kernel
theorem dX11_hang_28 : decode cX11_hang 28 = .ok (.iload_n 1, 1) := by decide +kernel
theorem dX11_hang_29 : decode cX11_hang 29 = .ok (.invokestatic 88, 3) := by decide +kernel
theorem dX11_hang_32 : decode cX11_hang 32 = .ok (.invokestatic 73, 3) := by decide +kernel
theorem dX11_hang_35 : decode cX11_hang 35 = .ok (.ifCond .ne 7, 3) := by decide +kernel
theorem dX11_hang_38 : decode cX11_hang 38 = .ok (.ldc2_w 233, 3) := by decide +kernel
theorem dX11_hang_41 : decode cX11_hang 41 = .ok (.lreturn, 1) := by decide +kernel
theorem dX11_hang_42 : decode cX11_hang 42 = .ok (.aload_n 0, 1) := by decide +kernel
theorem dX11_hang_43 : decode cX11_hang 43 = .ok (.getfield 56, 3) := by decide +kernel
theorem dX11_hang_46 : decode cX11_hang 46 = .ok (.iload_n 1, 1) := by decide +kernel
theorem dX11_hang_47 : decode cX11_hang 47 = .ok (.iload_n 2, 1) := by decide +kernel
theorem dX11_hang_48 : decode cX11_hang 48 = .ok (.iload_n 3, 1) := by decide +kernel
theorem dX11_hang_49 : decode cX11_hang 49 = .ok (.invokevirtual 276, 3) := by decide +kernel
theorem dX11_hang_52 : decode cX11_hang 52 = .ok (.lreturn, 1) := by decide +kernel
theorem dX11_cost_0 : decode cX11_cost 0 = .ok (.aload_n 0, 1) := by decide +kernel
theorem dX11_cost_1 : decode cX11_cost 1 = .ok (.getfield 35, 3) := by decide +kernel
theorem dX11_cost_4 : decode cX11_cost 4 = .ok (.iload_n 1, 1) := by decide +kernel
theorem dX11_cost_5 : decode cX11_cost 5 = .ok (.invokevirtual 98, 3) := by decide +kernel
theorem dX11_cost_8 : decode cX11_cost 8 = .ok (.astore 5, 2) := by decide +kernel
theorem dX11_cost_10 : decode cX11_cost 10 = .ok (.aload 5, 2) := by decide +kernel
theorem dX11_cost_12 : decode cX11_cost 12 = .ok (.ifnull 23, 3) := by decide +kernel
theorem dX11_cost_15 : decode cX11_cost 15 = .ok (.aload 5, 2) := by decide +kernel
theorem dX11_cost_17 : decode cX11_cost 17 = .ok (.iload_n 2, 1) := by decide +kernel
theorem dX11_cost_18 : decode cX11_cost 18 = .ok (.invokevirtual 108, 3) := by decide +kernel
theorem dX11_cost_21 : decode cX11_cost 21 = .ok (.ifCond .eq 14, 3) := by decide +kernel
theorem dX11_cost_24 : decode cX11_cost 24 = .ok (.iload 4, 2) := by decide +kernel
theorem dX11_cost_26 : decode cX11_cost 26 = .ok (.iconst 0, 1) := by decide +kernel
theorem dX11_cost_27 : decode cX11_cost 27 = .ok (.bipush 99, 2) := by decide +kernel
theorem dX11_cost_29 : decode cX11_cost 29 = .ok (.invokestatic 73, 3) := by decide +kernel
theorem dX11_cost_32 : decode cX11_cost 32 = .ok (.ifCond .ne 7, 3) := by decide +kernel
theorem dX11_cost_35 : decode cX11_cost 35 = .ok (.ldc2_w 233, 3) := by decide +kernel
theorem dX11_cost_38 : decode cX11_cost 38 = .ok (.lreturn, 1) := by decide +kernel
theorem dX11_cost_39 : decode cX11_cost 39 = .ok (.iload_n 3, 1) := by decide +kernel
theorem dX11_cost_40 : decode cX11_cost 40 = .ok (.bipush (-60), 2) := by decide +kernel
theorem dX11_cost_42 : decode cX11_cost 42 = .ok (.sipush 600, 3) := by decide +kernel
theorem dX11_cost_45 : decode cX11_cost 45 = .ok (.invokestatic 73, 3) := by decide +kernel
theorem dX11_cost_48 : decode cX11_cost 48 = .ok (.ifCond .ne 7, 3) := by decide +kernel
theorem dX11_cost_51 : decode cX11_cost 51 = .ok (.ldc2_w 233, 3) := by decide +kernel
theorem dX11_cost_54 : decode cX11_cost 54 = .ok (.lreturn, 1) := by decide +kernel
theorem dX11_cost_55 : decode cX11_cost 55 = .ok (.aload_n 0, 1) := by decide +kernel
theorem dX11_cost_56 : decode cX11_cost 56 = .ok (.getfield 56, 3) := by decide +kernel
theorem dX11_cost_59 : decode cX11_cost 59 = .ok (.aload 5, 2) := by decide +kernel
theorem dX11_cost_61 : decode cX11_cost 61 = .ok (.iload_n 2, 1) := by decide +kernel
theorem dX11_cost_62 : decode cX11_cost 62 = .ok (.iload_n 3, 1) := by decide +kernel
theorem dX11_cost_63 : decode cX11_cost 63 = .ok (.iload 4, 2) := by decide +kernel
theorem dX11_cost_65 : decode cX11_cost 65 = .ok (.invokevirtual 280, 3) := by decide +kernel
theorem dX11_cost_68 : decode cX11_cost 68 = .ok (.lreturn, 1) := by decide +kernel
theorem dX11_out_0 : decode cX11_out 0 = .ok (.aload_n 0, 1) := by decide +kernel
theorem dX11_out_1 : decode cX11_out 1 = .ok (.getfield 35, 3) := by decide +kernel
theorem dX11_out_4 : decode cX11_out 4 = .ok (.iload_n 1, 1) := by decide +kernel
theorem dX11_out_5 : decode cX11_out 5 = .ok (.invokevirtual 98, 3) := by decide +kernel
theorem dX11_out_8 : decode cX11_out 8 = .ok (.astore 4, 2) := by decide +kernel
theorem dX11_out_10 : decode cX11_out 10 = .ok (.aload 4, 2) := by decide +kernel
theorem dX11_out_12 : decode cX11_out 12 = .ok (.ifnull 22, 3) := by decide +kernel
theorem dX11_out_15 : decode cX11_out 15 = .ok (.aload 4, 2) := by decide +kernel
theorem dX11_out_17 : decode cX11_out 17 = .ok (.iload_n 2, 1) := by decide +kernel
theorem dX11_out_18 : decode cX11_out 18 = .ok (.invokevirtual 108, 3) := by decide +kernel
theorem dX11_out_21 : decode cX11_out 21 = .ok (.ifCond .eq 13, 3) := by decide +kernel
theorem dX11_out_24 : decode cX11_out 24 = .ok (.iload_n 3, 1) := by decide +kernel
theorem dX11_out_25 : decode cX11_out 25 = .ok (.iconst 0, 1) := by decide +kernel
theorem dX11_out_26 : decode cX11_out 26 = .ok (.bipush 99, 2) := by decide +kernel
theorem dX11_out_28 : decode cX11_out 28 = .ok (.invokestatic 73, 3) := by decide +kernel
theorem dX11_out_31 : decode cX11_out 31 = .ok (.ifCond .ne 5, 3) := by decide +kernel
theorem dX11_out_34 : decode cX11_out 34 = .ok (.iconst (-1), 1) := by decide +kernel
theorem dX11_out_35 : decode cX11_out 35 = .ok (.ireturn, 1) := by decide +kernel
theorem dX11_out_36 : decode cX11_out 36 = .ok (.iconst 0, 1) := by decide +kernel
theorem dX11_out_37 : decode cX11_out 37 = .ok (.istore 5, 2) := by decide +kernel
theorem dX11_out_39 : decode cX11_out 39 = .ok (.aload_n 0, 1) := by decide +kernel
theorem dX11_out_40 : decode cX11_out 40 = .ok (.getfield 56, 3) := by decide +kernel
theorem dX11_out_43 : decode cX11_out 43 = .ok (.aload 4, 2) := by decide +kernel
theorem dX11_out_45 : decode cX11_out 45 = .ok (.iload_n 2, 1) := by decide +kernel
theorem dX11_out_46 : decode cX11_out 46 = .ok (.iconst 0, 1) := by decide +kernel
theorem dX11_out_47 : decode cX11_out 47 = .ok (.iload_n 3, 1) := by decide +kernel
theorem dX11_out_48 : decode cX11_out 48 = .ok (.invokevirtual 280, 3) := by decide +kernel
theorem dX11_out_51 : decode cX11_out 51 = .ok (.lstore 6, 2) := by decide +kernel
theorem dX11_out_53 : decode cX11_out 53 = .ok (.iconst 1, 1) := by decide +kernel
theorem dX11_out_54 : decode cX11_out 54 = .ok (.istore 8, 2) := by decide +kernel
theorem dX11_out_56 : decode cX11_out 56 = .ok (.iload 8, 2) := by decide +kernel
theorem dX11_out_58 : decode cX11_out 58 = .ok (.sipush 600, 3) := by decide +kernel
theorem dX11_out_61 : decode cX11_out 61 = .ok (.if_icmp .gt 40, 3) := by decide +kernel
theorem dX11_out_64 : decode cX11_out 64 = .ok (.aload_n 0, 1) := by decide +kernel
theorem dX11_out_65 : decode cX11_out 65 = .ok (.getfield 56, 3) := by decide +kernel
theorem dX11_out_68 : decode cX11_out 68 = .ok (.aload 4, 2) := by decide +kernel
theorem dX11_out_70 : decode cX11_out 70 = .ok (.iload_n 2, 1) := by decide +kernel
theorem dX11_out_71 : decode cX11_out 71 = .ok (.iload 8, 2) := by decide +kernel
theorem dX11_out_73 : decode cX11_out 73 = .ok (.iload_n 3, 1) := by decide +kernel
theorem dX11_out_74 : decode cX11_out 74 = .ok (.invokevirtual 280, 3) := by decide +kernel
theorem dX11_out_77 : decode cX11_out 77 = .ok (.lstore 9, 2) := by decide +kernel
theorem dX11_out_79 : decode cX11_out 79 = .ok (.lload 9, 2) := by decide +kernel
theorem dX11_out_81 : decode cX11_out 81 = .ok (.lload 6, 2) := by decide +kernel
theorem dX11_out_83 : decode cX11_out 83 = .ok (.lcmp, 1) := by decide +kernel
theorem dX11_out_84 : decode cX11_out 84 = .ok (.ifCond .ge 11, 3) := by decide +kernel
theorem dX11_out_87 : decode cX11_out 87 = .ok (.lload 9, 2) := by decide +kernel
theorem dX11_out_89 : decode cX11_out 89 = .ok (.lstore 6, 2) := by decide +kernel
theorem dX11_out_91 : decode cX11_out 91 = .ok (.iload 8, 2) := by decide +kernel
theorem dX11_out_93 : decode cX11_out 93 = .ok (.istore 5, 2) := by decide +kernel
theorem dX11_out_95 : decode cX11_out 95 = .ok (.iinc 8 1, 3) := by decide +kernel
theorem dX11_out_98 : decode cX11_out 98 = .ok (.goto (-42), 3) := by decide +kernel
theorem dX11_out_101 : decode cX11_out 101 = .ok (.iload 5, 2) := by decide +kernel
theorem dX11_out_103 : decode cX11_out 103 = .ok (.ireturn, 1) := by decide +kernel
theorem dX11_two_0 : decode cX11_two 0 = .ok (.aload_n 0, 1) := by decide +kernel
theorem dX11_two_1 : decode cX11_two 1 = .ok (.getfield 35, 3) := by decide +kernel
theorem dX11_two_4 : decode cX11_two 4 = .ok (.iload_n 1, 1) := by decide +kernel
theorem dX11_two_5 : decode cX11_two 5 = .ok (.invokevirtual 98, 3) := by decide +kernel
theorem dX11_two_8 : decode cX11_two 8 = .ok (.astore 7, 2) := by decide +kernel
theorem dX11_two_10 : decode cX11_two 10 = .ok (.aload_n 0, 1) := by decide +kernel
theorem dX11_two_11 : decode cX11_two 11 = .ok (.getfield 35, 3) := by decide +kernel
theorem dX11_two_14 : decode cX11_two 14 = .ok (.iload_n 2, 1) := by decide +kernel
theorem dX11_two_15 : decode cX11_two 15 = .ok (.invokevirtual 98, 3) := by decide +kernel
theorem dX11_two_18 : decode cX11_two 18 = .ok (.astore 8, 2) := by decide +kernel
theorem dX11_two_20 : decode cX11_two 20 = .ok (.aload 7, 2) := by decide +kernel
theorem dX11_two_22 : decode cX11_two 22 = .ok (.ifnull 19, 3) := by decide +kernel
theorem dX11_two_25 : decode cX11_two 25 = .ok (.aload 8, 2) := by decide +kernel
theorem dX11_two_27 : decode cX11_two 27 = .ok (.ifnull 14, 3) := by decide +kernel
theorem dX11_two_30 : decode cX11_two 30 = .ok (.aload 7, 2) := by decide +kernel
theorem dX11_two_32 : decode cX11_two 32 = .ok (.aload 8, 2) := by decide +kernel
theorem dX11_two_34 : decode cX11_two 34 = .ok (.iload_n 3, 1) := by decide +kernel
theorem dX11_two_35 : decode cX11_two 35 = .ok (.invokestatic 284, 3) := by decide +kernel
theorem dX11_two_38 : decode cX11_two 38 = .ok (.ifCond .ne 7, 3) := by decide +kernel
theorem dX11_two_41 : decode cX11_two 41 = .ok (.ldc2_w 233, 3) := by decide +kernel
theorem dX11_two_44 : decode cX11_two 44 = .ok (.lreturn, 1) := by decide +kernel
theorem dX11_two_45 : decode cX11_two 45 = .ok (.iload 4, 2) := by decide +kernel
theorem dX11_two_47 : decode cX11_two 47 = .ok (.iconst 0, 1) := by decide +kernel
theorem dX11_two_48 : decode cX11_two 48 = .ok (.sipush 600, 3) := by decide +kernel
theorem dX11_two_51 : decode cX11_two 51 = .ok (.invokestatic 73, 3) := by decide +kernel
theorem dX11_two_54 : decode cX11_two 54 = .ok (.ifCond .eq 14, 3) := by decide +kernel
theorem dX11_two_57 : decode cX11_two 57 = .ok (.iload 6, 2) := by decide +kernel
theorem dX11_two_59 : decode cX11_two 59 = .ok (.iconst 0, 1) := by decide +kernel
theorem dX11_two_60 : decode cX11_two 60 = .ok (.bipush 99, 2) := by decide +kernel
theorem dX11_two_62 : decode cX11_two 62 = .ok (.invokestatic 73, 3) := by decide +kernel
theorem dX11_two_65 : decode cX11_two 65 = .ok (.ifCond .ne 7, 3) := by decide +kernel
theorem dX11_two_68 : decode cX11_two 68 = .ok (.ldc2_w 233, 3) := by decide +kernel
theorem dX11_two_71 : decode cX11_two 71 = .ok (.lreturn, 1) := by decide +kernel
theorem dX11_two_72 : decode cX11_two 72 = .ok (.iload 5, 2) := by decide +kernel
theorem dX11_two_74 : decode cX11_two 74 = .ok (.bipush (-60), 2) := by decide +kernel
theorem dX11_two_76 : decode cX11_two 76 = .ok (.sipush 600, 3) := by decide +kernel
theorem dX11_two_79 : decode cX11_two 79 = .ok (.invokestatic 73, 3) := by decide +kernel
theorem dX11_two_82 : decode cX11_two 82 = .ok (.ifCond .ne 7, 3) := by decide +kernel
theorem dX11_two_85 : decode cX11_two 85 = .ok (.ldc2_w 233, 3) := by decide +kernel
theorem dX11_two_88 : decode cX11_two 88 = .ok (.lreturn, 1) := by decide +kernel
theorem dX11_two_89 : decode cX11_two 89 = .ok (.aload_n 0, 1) := by decide +kernel
theorem dX11_two_90 : decode cX11_two 90 = .ok (.getfield 56, 3) := by decide +kernel
theorem dX11_two_93 : decode cX11_two 93 = .ok (.aload 7, 2) := by decide +kernel
theorem dX11_two_95 : decode cX11_two 95 = .ok (.aload 8, 2) := by decide +kernel
theorem dX11_two_97 : decode cX11_two 97 = .ok (.iload_n 3, 1) := by decide +kernel
theorem dX11_two_98 : decode cX11_two 98 = .ok (.iload 4, 2) := by decide +kernel
theorem dX11_two_100 : decode cX11_two 100 = .ok (.iload 5, 2) := by decide +kernel
theorem dX11_two_102 : decode cX11_two 102 = .ok (.iload 6, 2) := by decide +kernel
theorem dX11_two_104 : decode cX11_two 104 = .ok (.invokevirtual 288, 3) := by decide +kernel
theorem dX11_two_107 : decode cX11_two 107 = .ok (.lreturn, 1) := by decide +kernel
theorem dX11_outTwo_0 : decode cX11_outTwo 0 = .ok (.aload_n 0, 1) := by decide +kernel
theorem dX11_outTwo_1 : decode cX11_outTwo 1 = .ok (.getfield 35, 3) := by decide +kernel
theorem dX11_outTwo_4 : decode cX11_outTwo 4 = .ok (.iload_n 1, 1) := by decide +kernel
theorem dX11_outTwo_5 : decode cX11_outTwo 5 = .ok (.invokevirtual 98, 3) := by decide +kernel
theorem dX11_outTwo_8 : decode cX11_outTwo 8 = .ok (.astore 6, 2) := by decide +kernel
theorem dX11_outTwo_10 : decode cX11_outTwo 10 = .ok (.aload_n 0, 1) := by decide +kernel
theorem dX11_outTwo_11 : decode cX11_outTwo 11 = .ok (.getfield 35, 3) := by decide +kernel
theorem dX11_outTwo_14 : decode cX11_outTwo 14 = .ok (.iload_n 2, 1) := by decide +kernel
theorem dX11_outTwo_15 : decode cX11_outTwo 15 = .ok (.invokevirtual 98, 3) := by decide +kernel
theorem dX11_outTwo_18 : decode cX11_outTwo 18 = .ok (.astore 7, 2) := by decide +kernel
theorem dX11_outTwo_20 : decode cX11_outTwo 20 = .ok (.aload 6, 2) := by decide +kernel
theorem dX11_outTwo_22 : decode cX11_outTwo 22 = .ok (.ifnull 19, 3) := by decide +kernel
theorem dX11_outTwo_25 : decode cX11_outTwo 25 = .ok (.aload 7, 2) := by decide +kernel
theorem dX11_outTwo_27 : decode cX11_outTwo 27 = .ok (.ifnull 14, 3) := by decide +kernel
theorem dX11_outTwo_30 : decode cX11_outTwo 30 = .ok (.aload 6, 2) := by decide +kernel
theorem dX11_outTwo_32 : decode cX11_outTwo 32 = .ok (.aload 7, 2) := by decide +kernel
theorem dX11_outTwo_34 : decode cX11_outTwo 34 = .ok (.iload_n 3, 1) := by decide +kernel
theorem dX11_outTwo_35 : decode cX11_outTwo 35 = .ok (.invokestatic 284, 3) := by decide +kernel
theorem dX11_outTwo_38 : decode cX11_outTwo 38 = .ok (.ifCond .ne 5, 3) := by decide +kernel
theorem dX11_outTwo_41 : decode cX11_outTwo 41 = .ok (.iconst (-1), 1) := by decide +kernel
theorem dX11_outTwo_42 : decode cX11_outTwo 42 = .ok (.ireturn, 1) := by decide +kernel
theorem dX11_outTwo_43 : decode cX11_outTwo 43 = .ok (.iload 4, 2) := by decide +kernel
theorem dX11_outTwo_45 : decode cX11_outTwo 45 = .ok (.iconst 0, 1) := by decide +kernel
theorem dX11_outTwo_46 : decode cX11_outTwo 46 = .ok (.sipush 600, 3) := by decide +kernel
theorem dX11_outTwo_49 : decode cX11_outTwo 49 = .ok (.invokestatic 73, 3) := by decide +kernel
theorem dX11_outTwo_52 : decode cX11_outTwo 52 = .ok (.ifCond .eq 14, 3) := by decide +kernel
theorem dX11_outTwo_55 : decode cX11_outTwo 55 = .ok (.iload 5, 2) := by decide +kernel
theorem dX11_outTwo_57 : decode cX11_outTwo 57 = .ok (.iconst 0, 1) := by decide +kernel
theorem dX11_outTwo_58 : decode cX11_outTwo 58 = .ok (.bipush 99, 2) := by decide +kernel
theorem dX11_outTwo_60 : decode cX11_outTwo 60 = .ok (.invokestatic 73, 3) := by decide +kernel
theorem dX11_outTwo_63 : decode cX11_outTwo 63 = .ok (.ifCond .ne 5, 3) := by decide +kernel
theorem dX11_outTwo_66 : decode cX11_outTwo 66 = .ok (.iconst (-1), 1) := by decide +kernel
theorem dX11_outTwo_67 : decode cX11_outTwo 67 = .ok (.ireturn, 1) := by decide +kernel
theorem dX11_outTwo_68 : decode cX11_outTwo 68 = .ok (.iconst 0, 1) := by decide +kernel
theorem dX11_outTwo_69 : decode cX11_outTwo 69 = .ok (.istore 8, 2) := by decide +kernel
theorem dX11_outTwo_71 : decode cX11_outTwo 71 = .ok (.aload_n 0, 1) := by decide +kernel
theorem dX11_outTwo_72 : decode cX11_outTwo 72 = .ok (.getfield 56, 3) := by decide +kernel
theorem dX11_outTwo_75 : decode cX11_outTwo 75 = .ok (.aload 6, 2) := by decide +kernel
theorem dX11_outTwo_77 : decode cX11_outTwo 77 = .ok (.aload 7, 2) := by decide +kernel
theorem dX11_outTwo_79 : decode cX11_outTwo 79 = .ok (.iload_n 3, 1) := by decide +kernel
theorem dX11_outTwo_80 : decode cX11_outTwo 80 = .ok (.iload 4, 2) := by decide +kernel
theorem dX11_outTwo_82 : decode cX11_outTwo 82 = .ok (.iconst 0, 1) := by decide +kernel
theorem dX11_outTwo_83 : decode cX11_outTwo 83 = .ok (.iload 5, 2) := by decide +kernel
theorem dX11_outTwo_85 : decode cX11_outTwo 85 = .ok (.invokevirtual 288, 3) := by decide +kernel
theorem dX11_outTwo_88 : decode cX11_outTwo 88 = .ok (.lstore 9, 2) := by decide +kernel
theorem dX11_outTwo_90 : decode cX11_outTwo 90 = .ok (.iconst 1, 1) := by decide +kernel
theorem dX11_outTwo_91 : decode cX11_outTwo 91 = .ok (.istore 11, 2) := by decide +kernel
theorem dX11_outTwo_93 : decode cX11_outTwo 93 = .ok (.iload 11, 2) := by decide +kernel
theorem dX11_outTwo_95 : decode cX11_outTwo 95 = .ok (.sipush 600, 3) := by decide +kernel
theorem dX11_outTwo_98 : decode cX11_outTwo 98 = .ok (.if_icmp .gt 45, 3) := by decide +kernel
theorem dX11_outTwo_101 : decode cX11_outTwo 101 = .ok (.aload_n 0, 1) := by decide +kernel
theorem dX11_outTwo_102 : decode cX11_outTwo 102 = .ok (.getfield 56, 3) := by decide +kernel
theorem dX11_outTwo_105 : decode cX11_outTwo 105 = .ok (.aload 6, 2) := by decide +kernel
theorem dX11_outTwo_107 : decode cX11_outTwo 107 = .ok (.aload 7, 2) := by decide +kernel
theorem dX11_outTwo_109 : decode cX11_outTwo 109 = .ok (.iload_n 3, 1) := by decide +kernel
theorem dX11_outTwo_110 : decode cX11_outTwo 110 = .ok (.iload 4, 2) := by decide +kernel
theorem dX11_outTwo_112 : decode cX11_outTwo 112 = .ok (.iload 11, 2) := by decide +kernel
theorem dX11_outTwo_114 : decode cX11_outTwo 114 = .ok (.iload 5, 2) := by decide +kernel
theorem dX11_outTwo_116 : decode cX11_outTwo 116 = .ok (.invokevirtual 288, 3) := by decide +kernel
theorem dX11_outTwo_119 : decode cX11_outTwo 119 = .ok (.lstore 12, 2) := by decide +kernel
theorem dX11_outTwo_121 : decode cX11_outTwo 121 = .ok (.lload 12, 2) := by decide +kernel
theorem dX11_outTwo_123 : decode cX11_outTwo 123 = .ok (.lload 9, 2) := by decide +kernel
theorem dX11_outTwo_125 : decode cX11_outTwo 125 = .ok (.lcmp, 1) := by decide +kernel
theorem dX11_outTwo_126 : decode cX11_outTwo 126 = .ok (.ifCond .ge 11, 3) := by decide +kernel
theorem dX11_outTwo_129 : decode cX11_outTwo 129 = .ok (.lload 12, 2) := by decide +kernel
theorem dX11_outTwo_131 : decode cX11_outTwo 131 = .ok (.lstore 9, 2) := by decide +kernel
theorem dX11_outTwo_133 : decode cX11_outTwo 133 = .ok (.iload 11, 2) := by decide +kernel
theorem dX11_outTwo_135 : decode cX11_outTwo 135 = .ok (.istore 8, 2) := by decide +kernel
theorem dX11_outTwo_137 : decode cX11_outTwo 137 = .ok (.iinc 11 1, 3) := by decide +kernel
theorem dX11_outTwo_140 : decode cX11_outTwo 140 = .ok (.goto (-47), 3) := by decide +kernel
theorem dX11_outTwo_143 : decode cX11_outTwo 143 = .ok (.iload 8, 2) := by decide +kernel
theorem dX11_outTwo_145 : decode cX11_outTwo 145 = .ok (.ireturn, 1) := by decide +kernel
theorem dX11_rest_0 : decode cX11_rest 0 = .ok (.aload_n 0, 1) := by decide +kernel
theorem dX11_rest_1 : decode cX11_rest 1 = .ok (.getfield 35, 3) := by decide +kernel
theorem dX11_rest_4 : decode cX11_rest 4 = .ok (.iload_n 1, 1) := by decide +kernel
theorem dX11_rest_5 : decode cX11_rest 5 = .ok (.invokevirtual 98, 3) := by decide +kernel
theorem dX11_rest_8 : decode cX11_rest 8 = .ok (.astore 4, 2) := by decide +kernel
theorem dX11_rest_10 : decode cX11_rest 10 = .ok (.aload 4, 2) := by decide +kernel
theorem dX11_rest_12 : decode cX11_rest 12 = .ok (.ifnull 22, 3) := by decide +kernel
theorem dX11_rest_15 : decode cX11_rest 15 = .ok (.iload_n 2, 1) := by decide +kernel
theorem dX11_rest_16 : decode cX11_rest 16 = .ok (.iconst 0, 1) := by decide +kernel
theorem dX11_rest_17 : decode cX11_rest 17 = .ok (.bipush 99, 2) := by decide +kernel
theorem dX11_rest_19 : decode cX11_rest 19 = .ok (.invokestatic 73, 3) := by decide +kernel
theorem dX11_rest_22 : decode cX11_rest 22 = .ok (.ifCond .eq 12, 3) := by decide +kernel
theorem dX11_rest_25 : decode cX11_rest 25 = .ok (.aload 4, 2) := by decide +kernel
theorem dX11_rest_27 : decode cX11_rest 27 = .ok (.invokevirtual 292, 3) := by decide +kernel
theorem dX11_rest_30 : decode cX11_rest 30 = .ok (.iconst 4, 1) := by decide +kernel
theorem dX11_rest_31 : decode cX11_rest 31 = .ok (.if_icmp .le 6, 3) := by decide +kernel
theorem dX11_rest_34 : decode cX11_rest 34 = .ok (.bipush (-3), 2) := by decide +kernel
theorem dX11_rest_36 : decode cX11_rest 36 = .ok (.ireturn, 1) := by decide +kernel
theorem dX11_rest_37 : decode cX11_rest 37 = .ok (.iload_n 3, 1) := by decide +kernel
theorem dX11_rest_38 : decode cX11_rest 38 = .ok (.iconst (-1), 1) := by decide +kernel
theorem dX11_rest_39 : decode cX11_rest 39 = .ok (.if_icmp .eq 15, 3) := by decide +kernel
theorem dX11_rest_42 : decode cX11_rest 42 = .ok (.aload 4, 2) := by decide +kernel
theorem dX11_rest_44 : decode cX11_rest 44 = .ok (.iload_n 3, 1) := by decide +kernel
theorem dX11_rest_45 : decode cX11_rest 45 = .ok (.invokevirtual 108, 3) := by decide +kernel
theorem dX11_rest_48 : decode cX11_rest 48 = .ok (.ifCond .ne 6, 3) := by decide +kernel
theorem dX11_rest_51 : decode cX11_rest 51 = .ok (.bipush (-3), 2) := by decide +kernel
theorem dX11_rest_53 : decode cX11_rest 53 = .ok (.ireturn, 1) := by decide +kernel
theorem dX11_rest_54 : decode cX11_rest 54 = .ok (.aload_n 0, 1) := by decide +kernel
theorem dX11_rest_55 : decode cX11_rest 55 = .ok (.getfield 65, 3) := by decide +kernel
theorem dX11_rest_58 : decode cX11_rest 58 = .ok (.aload 4, 2) := by decide +kernel
theorem dX11_rest_60 : decode cX11_rest 60 = .ok (.iload_n 2, 1) := by decide +kernel
theorem dX11_rest_61 : decode cX11_rest 61 = .ok (.invokevirtual 295, 3) := by decide +kernel
theorem dX11_rest_64 : decode cX11_rest 64 = .ok (.istore 5, 2) := by decide +kernel
theorem dX11_rest_66 : decode cX11_rest 66 = .ok (.iload_n 3, 1) := by decide +kernel
theorem dX11_rest_67 : decode cX11_rest 67 = .ok (.iconst (-1), 1) := by decide +kernel
theorem dX11_rest_68 : decode cX11_rest 68 = .ok (.if_icmp .eq 10, 3) := by decide +kernel
theorem dX11_rest_71 : decode cX11_rest 71 = .ok (.iload 5, 2) := by decide +kernel
theorem dX11_rest_73 : decode cX11_rest 73 = .ok (.bipush (-2), 2) := by decide +kernel
theorem dX11_rest_75 : decode cX11_rest 75 = .ok (.if_icmp .ne 8, 3) := by decide +kernel
theorem dX11_rest_78 : decode cX11_rest 78 = .ok (.iload 5, 2) := by decide +kernel
theorem dX11_rest_80 : decode cX11_rest 80 = .ok (.goto 11, 3) := by decide +kernel
theorem dX11_rest_83 : decode cX11_rest 83 = .ok (.aload_n 0, 1) := by decide +kernel
theorem dX11_rest_84 : decode cX11_rest 84 = .ok (.getfield 65, 3) := by decide +kernel
theorem dX11_rest_87 : decode cX11_rest 87 = .ok (.iload_n 3, 1) := by decide +kernel
theorem dX11_rest_88 : decode cX11_rest 88 = .ok (.invokevirtual 299, 3) := by decide +kernel
theorem dX11_rest_91 : decode cX11_rest 91 = .ok (.ireturn, 1) := by decide +kernel
theorem dX11_lost_0 : decode cX11_lost 0 = .ok (.aload_n 0, 1) := by decide +kernel
theorem dX11_lost_1 : decode cX11_lost 1 = .ok (.getfield 35, 3) := by decide +kernel
theorem dX11_lost_4 : decode cX11_lost 4 = .ok (.invokevirtual 302, 3) := by decide +kernel
theorem dX11_lost_7 : decode cX11_lost 7 = .ok (.ireturn, 1) := by decide +kernel
theorem dX11_seed_0 : decode cX11_seed 0 = .ok (.iload_n 1, 1) := by decide +kernel
theorem dX11_seed_1 : decode cX11_seed 1 = .ok (.iconst 0, 1) := by decide +kernel
theorem dX11_seed_2 : decode cX11_seed 2 = .ok (.ldc_w 305, 3) := by decide +kernel
theorem dX11_seed_5 : decode cX11_seed 5 = .ok (.invokestatic 73, 3) := by decide +kernel
theorem dX11_seed_8 : decode cX11_seed 8 = .ok (.ifCond .ne 5, 3) := by decide +kernel
theorem dX11_seed_11 : decode cX11_seed 11 = .ok (.iconst 0, 1) := by decide +kernel
theorem dX11_seed_12 : decode cX11_seed 12 = .ok (.ireturn, 1) := by decide +kernel
theorem dX11_seed_13 : decode cX11_seed 13 = .ok (.aload_n 0, 1) := by decide +kernel
theorem dX11_seed_14 : decode cX11_seed 14 = .ok (.getfield 56, 3) := by decide +kernel
theorem dX11_seed_17 : decode cX11_seed 17 = .ok (.iload_n 1, 1) := by decide +kernel
theorem dX11_seed_18 : decode cX11_seed 18 = .ok (.invokevirtual 306, 3) := by decide +kernel
theorem dX11_seed_21 : decode cX11_seed 21 = .ok (.iconst 1, 1) := by decide +kernel
theorem dX11_seed_22 : decode cX11_seed 22 = .ok (.ireturn, 1) := by decide +kernel
theorem dX11_draw_0 : decode cX11_draw 0 = .ok (.aload_n 0, 1) := by decide +kernel
theorem dX11_draw_1 : decode cX11_draw 1 = .ok (.getfield 35, 3) := by decide +kernel
theorem dX11_draw_4 : decode cX11_draw 4 = .ok (.iload_n 1, 1) := by decide +kernel
theorem dX11_draw_5 : decode cX11_draw 5 = .ok (.invokevirtual 98, 3) := by decide +kernel
theorem dX11_draw_8 : decode cX11_draw 8 = .ok (.astore_n 3, 1) := by decide +kernel
theorem dX11_draw_9 : decode cX11_draw 9 = .ok (.aload_n 3, 1) := by decide +kernel
theorem dX11_draw_10 : decode cX11_draw 10 = .ok (.ifnull 21, 3) := by decide +kernel
theorem dX11_draw_13 : decode cX11_draw 13 = .ok (.aload_n 3, 1) := by decide +kernel
theorem dX11_draw_14 : decode cX11_draw 14 = .ok (.invokevirtual 102, 3) := by decide +kernel
theorem dX11_draw_17 : decode cX11_draw 17 = .ok (.ifCond .ne 14, 3) := by decide +kernel
theorem dX11_draw_20 : decode cX11_draw 20 = .ok (.iload_n 2, 1) := by decide +kernel
theorem dX11_draw_21 : decode cX11_draw 21 = .ok (.iconst 0, 1) := by decide +kernel
theorem dX11_draw_22 : decode cX11_draw 22 = .ok (.sipush 600, 3) := by decide +kernel
theorem dX11_draw_25 : decode cX11_draw 25 = .ok (.invokestatic 73, 3) := by decide +kernel
theorem dX11_draw_28 : decode cX11_draw 28 = .ok (.ifCond .ne 5, 3) := by decide +kernel
theorem dX11_draw_31 : decode cX11_draw 31 = .ok (.iconst (-1), 1) := by decide +kernel
theorem dX11_draw_32 : decode cX11_draw 32 = .ok (.ireturn, 1) := by decide +kernel
theorem dX11_draw_33 : decode cX11_draw 33 = .ok (.aload_n 0, 1) := by decide +kernel
theorem dX11_draw_34 : decode cX11_draw 34 = .ok (.getfield 56, 3) := by decide +kernel
theorem dX11_draw_37 : decode cX11_draw 37 = .ok (.aload_n 3, 1) := by decide +kernel
theorem dX11_draw_38 : decode cX11_draw 38 = .ok (.iload_n 2, 1) := by decide +kernel
theorem dX11_draw_39 : decode cX11_draw 39 = .ok (.invokevirtual 309, 3) := by decide +kernel
theorem dX11_draw_42 : decode cX11_draw 42 = .ok (.ireturn, 1) := by decide +kernel
theorem dX11_check_0 : decode cX11_check 0 = .ok (.iload_n 1, 1) := by decide +kernel
theorem dX11_check_1 : decode cX11_check 1 = .ok (.iconst 0, 1) := by decide +kernel
theorem dX11_check_2 : decode cX11_check 2 = .ok (.bipush 25, 2) := by decide +kernel
theorem dX11_check_4 : decode cX11_check 4 = .ok (.invokestatic 73, 3) := by decide +kernel
theorem dX11_check_7 : decode cX11_check 7 = .ok (.ifCond .ne 6, 3) := by decide +kernel
theorem dX11_check_10 : decode cX11_check 10 = .ok (.bipush (-2), 2) := by decide +kernel
theorem dX11_check_12 : decode cX11_check 12 = .ok (.ireturn, 1) := by decide +kernel
theorem dX11_check_13 : decode cX11_check 13 = .ok (.iload_n 1, 1) := by decide +kernel
theorem dX11_check_14 : decode cX11_check 14 = .ok (.iconst 4, 1) := by decide +kernel
theorem dX11_check_15 : decode cX11_check 15 = .ok (.imul, 1) := by decide +kernel
theorem dX11_check_16 : decode cX11_check 16 = .ok (.iconst 4, 1) := by decide +kernel
theorem dX11_check_17 : decode cX11_check 17 = .ok (.imul, 1) := by decide +kernel
theorem dX11_check_18 : decode cX11_check 18 = .ok (.aload_n 0, 1) := by decide +kernel
theorem dX11_check_19 : decode cX11_check 19 = .ok (.getfield 10, 3) := by decide +kernel
theorem dX11_check_22 : decode cX11_check 22 = .ok (.invokevirtual 115, 3) := by decide +kernel
theorem dX11_check_25 : decode cX11_check 25 = .ok (.if_icmp .le 6, 3) := by decide +kernel
theorem dX11_check_28 : decode cX11_check 28 = .ok (.bipush (-2), 2) := by decide +kernel
theorem dX11_check_30 : decode cX11_check 30 = .ok (.ireturn, 1) := by decide +kernel
theorem dX11_check_31 : decode cX11_check 31 = .ok (.aload_n 0, 1) := by decide +kernel
theorem dX11_check_32 : decode cX11_check 32 = .ok (.getfield 42, 3) := by decide +kernel
theorem dX11_check_35 : decode cX11_check 35 = .ok (.aload_n 0, 1) := by decide +kernel
theorem dX11_check_36 : decode cX11_check 36 = .ok (.getfield 10, 3) := by decide +kernel
theorem dX11_check_39 : decode cX11_check 39 = .ok (.iload_n 1, 1) := by decide +kernel
theorem dX11_check_40 : decode cX11_check 40 = .ok (.aload_n 0, 1) := by decide +kernel
theorem dX11_check_41 : decode cX11_check 41 = .ok (.getfield 69, 3) := by decide +kernel
theorem dX11_check_44 : decode cX11_check 44 = .ok (.invokevirtual 312, 3) := by decide +kernel
theorem dX11_check_47 : decode cX11_check 47 = .ok (.istore_n 2, 1) := by decide +kernel
theorem dX11_check_48 : decode cX11_check 48 = .ok (.aload_n 0, 1) := by decide +kernel
theorem dX11_check_49 : decode cX11_check 49 = .ok (.getfield 10, 3) := by decide +kernel
theorem dX11_check_52 : decode cX11_check 52 = .ok (.invokevirtual 127, 3) := by decide +kernel
theorem dX11_check_55 : decode cX11_check 55 = .ok (.iload_n 2, 1) := by decide +kernel
theorem dX11_check_56 : decode cX11_check 56 = .ok (.ireturn, 1) := by decide +kernel
theorem dX11_count_0 : decode cX11_count 0 = .ok (.iload_n 1, 1) := by decide +kernel
theorem dX11_count_1 : decode cX11_count 1 = .ok (.tableswitch 96 0 6 #[43, 48, 56, 64, 72, 80, 88], 43) := by decide +kernel
theorem dX11_count_44 : decode cX11_count 44 = .ok (.aload_n 0, 1) := by decide +kernel
theorem dX11_count_45 : decode cX11_count 45 = .ok (.getfield 69, 3) := by decide +kernel
theorem dX11_count_48 : decode cX11_count 48 = .ok (.ireturn, 1) := by decide +kernel
theorem dX11_count_49 : decode cX11_count 49 = .ok (.aload_n 0, 1) := by decide +kernel
theorem dX11_count_50 : decode cX11_count 50 = .ok (.getfield 35, 3) := by decide +kernel
theorem dX11_count_53 : decode cX11_count 53 = .ok (.invokevirtual 316, 3) := by decide +kernel
theorem dX11_count_56 : decode cX11_count 56 = .ok (.ireturn, 1) := by decide +kernel
theorem dX11_count_57 : decode cX11_count 57 = .ok (.aload_n 0, 1) := by decide +kernel
theorem dX11_count_58 : decode cX11_count 58 = .ok (.getfield 42, 3) := by decide +kernel
theorem dX11_count_61 : decode cX11_count 61 = .ok (.invokevirtual 178, 3) := by decide +kernel
theorem dX11_count_64 : decode cX11_count 64 = .ok (.ireturn, 1) := by decide +kernel
theorem dX11_count_65 : decode cX11_count 65 = .ok (.aload_n 0, 1) := by decide +kernel
theorem dX11_count_66 : decode cX11_count 66 = .ok (.getfield 19, 3) := by decide +kernel
theorem dX11_count_69 : decode cX11_count 69 = .ok (.invokevirtual 317, 3) := by decide +kernel
theorem dX11_count_72 : decode cX11_count 72 = .ok (.ireturn, 1) := by decide +kernel
theorem dX11_count_73 : decode cX11_count 73 = .ok (.aload_n 0, 1) := by decide +kernel
theorem dX11_count_74 : decode cX11_count 74 = .ok (.getfield 10, 3) := by decide +kernel
theorem dX11_count_77 : decode cX11_count 77 = .ok (.invokevirtual 115, 3) := by decide +kernel
theorem dX11_count_80 : decode cX11_count 80 = .ok (.ireturn, 1) := by decide +kernel
theorem dX11_count_81 : decode cX11_count 81 = .ok (.aload_n 0, 1) := by decide +kernel
theorem dX11_count_82 : decode cX11_count 82 = .ok (.getfield 56, 3) := by decide +kernel
theorem dX11_count_85 : decode cX11_count 85 = .ok (.invokevirtual 320, 3) := by decide +kernel
theorem dX11_count_88 : decode cX11_count 88 = .ok (.ireturn, 1) := by decide +kernel
theorem dX11_count_89 : decode cX11_count 89 = .ok (.aload_n 0, 1) := by decide +kernel
theorem dX11_count_90 : decode cX11_count 90 = .ok (.getfield 35, 3) := by decide +kernel
theorem dX11_count_93 : decode cX11_count 93 = .ok (.invokevirtual 323, 3) := by decide +kernel
theorem dX11_count_96 : decode cX11_count 96 = .ok (.ireturn, 1) := by decide +kernel
theorem dX11_count_97 : decode cX11_count 97 = .ok (.iload_n 1, 1) := by decide +kernel
theorem dX11_count_98 : decode cX11_count 98 = .ok (.bipush 10, 2) := by decide +kernel
theorem dX11_count_100 : decode cX11_count 100 = .ok (.bipush 17, 2) := by decide +kernel
theorem dX11_count_102 : decode cX11_count 102 = .ok (.invokestatic 73, 3) := by decide +kernel
theorem dX11_count_105 : decode cX11_count 105 = .ok (.ifCond .eq 15, 3) := by decide +kernel
theorem dX11_count_108 : decode cX11_count 108 = .ok (.aload_n 0, 1) := by decide +kernel
theorem dX11_count_109 : decode cX11_count 109 = .ok (.getfield 56, 3) := by decide +kernel
theorem dX11_count_112 : decode cX11_count 112 = .ok (.iload_n 1, 1) := by decide +kernel
theorem dX11_count_113 : decode cX11_count 113 = .ok (.bipush 10, 2) := by decide +kernel
theorem dX11_count_115 : decode cX11_count 115 = .ok (.isub, 1) := by decide +kernel
theorem dX11_count_116 : decode cX11_count 116 = .ok (.invokevirtual 326, 3) := by decide +kernel
theorem dX11_count_119 : decode cX11_count 119 = .ok (.ireturn, 1) := by decide +kernel
theorem dX11_count_120 : decode cX11_count 120 = .ok (.iload_n 1, 1) := by decide +kernel
theorem dX11_count_121 : decode cX11_count 121 = .ok (.bipush 20, 2) := by decide +kernel
theorem dX11_count_123 : decode cX11_count 123 = .ok (.bipush 43, 2) := by decide +kernel
theorem dX11_count_125 : decode cX11_count 125 = .ok (.invokestatic 73, 3) := by decide +kernel
theorem dX11_count_128 : decode cX11_count 128 = .ok (.ifCond .eq 17, 3) := by decide +kernel
theorem dX11_count_131 : decode cX11_count 131 = .ok (.aload_n 0, 1) := by decide +kernel
theorem dX11_count_132 : decode cX11_count 132 = .ok (.getfield 35, 3) := by decide +kernel
theorem dX11_count_135 : decode cX11_count 135 = .ok (.iload_n 1, 1) := by decide +kernel
theorem dX11_count_136 : decode cX11_count 136 = .ok (.bipush 20, 2) := by decide +kernel
theorem dX11_count_138 : decode cX11_count 138 = .ok (.isub, 1) := by decide +kernel
theorem dX11_count_139 : decode cX11_count 139 = .ok (.invokevirtual 98, 3) := by decide +kernel
theorem dX11_count_142 : decode cX11_count 142 = .ok (.goto 4, 3) := by decide +kernel
theorem dX11_count_145 : decode cX11_count 145 = .ok (.aconst_null, 1) := by decide +kernel
theorem dX11_count_146 : decode cX11_count 146 = .ok (.astore_n 2, 1) := by decide +kernel
theorem dX11_count_147 : decode cX11_count 147 = .ok (.aload_n 2, 1) := by decide +kernel
theorem dX11_count_148 : decode cX11_count 148 = .ok (.ifnonnull 7, 3) := by decide +kernel
theorem dX11_count_151 : decode cX11_count 151 = .ok (.iconst (-1), 1) := by decide +kernel
theorem dX11_count_152 : decode cX11_count 152 = .ok (.goto 7, 3) := by decide +kernel
theorem dX11_count_155 : decode cX11_count 155 = .ok (.aload_n 2, 1) := by decide +kernel
theorem dX11_count_156 : decode cX11_count 156 = .ok (.getfield 329, 3) := by decide +kernel
theorem dX11_count_159 : decode cX11_count 159 = .ok (.ireturn, 1) := by decide +kernel
theorem dX11_isCase_0 : decode cX11_isCase 0 = .ok (.aload_n 0, 1) := by decide +kernel
theorem dX11_isCase_1 : decode cX11_isCase 1 = .ok (.getfield 35, 3) := by decide +kernel
theorem dX11_isCase_4 : decode cX11_isCase 4 = .ok (.iload_n 1, 1) := by decide +kernel
theorem dX11_isCase_5 : decode cX11_isCase 5 = .ok (.invokevirtual 98, 3) := by decide +kernel
theorem dX11_isCase_8 : decode cX11_isCase 8 = .ok (.astore 4, 2) := by decide +kernel
theorem dX11_isCase_10 : decode cX11_isCase 10 = .ok (.aload 4, 2) := by decide +kernel
theorem dX11_isCase_12 : decode cX11_isCase 12 = .ok (.ifnull 26, 3) := by decide +kernel
theorem dX11_isCase_15 : decode cX11_isCase 15 = .ok (.iload_n 2, 1) := by decide +kernel
theorem dX11_isCase_16 : decode cX11_isCase 16 = .ok (.iload_n 3, 1) := by decide +kernel
theorem dX11_isCase_17 : decode cX11_isCase 17 = .ok (.if_icmp .eq 21, 3) := by decide +kernel
theorem dX11_isCase_20 : decode cX11_isCase 20 = .ok (.aload 4, 2) := by decide +kernel
theorem dX11_isCase_22 : decode cX11_isCase 22 = .ok (.iload_n 2, 1) := by decide +kernel
theorem dX11_isCase_23 : decode cX11_isCase 23 = .ok (.invokevirtual 108, 3) := by decide +kernel
theorem dX11_isCase_26 : decode cX11_isCase 26 = .ok (.ifCond .eq 12, 3) := by decide +kernel
theorem dX11_isCase_29 : decode cX11_isCase 29 = .ok (.aload 4, 2) := by decide +kernel
theorem dX11_isCase_31 : decode cX11_isCase 31 = .ok (.iload_n 3, 1) := by decide +kernel
theorem dX11_isCase_32 : decode cX11_isCase 32 = .ok (.invokevirtual 108, 3) := by decide +kernel
theorem dX11_isCase_35 : decode cX11_isCase 35 = .ok (.ifCond .ne 5, 3) := by decide +kernel
theorem dX11_isCase_38 : decode cX11_isCase 38 = .ok (.iconst 0, 1) := by decide +kernel
theorem dX11_isCase_39 : decode cX11_isCase 39 = .ok (.ireturn, 1) := by decide +kernel
theorem dX11_isCase_40 : decode cX11_isCase 40 = .ok (.aload 4, 2) := by decide +kernel
theorem dX11_isCase_42 : decode cX11_isCase 42 = .ok (.invokevirtual 130, 3) := by decide +kernel
theorem dX11_isCase_45 : decode cX11_isCase 45 = .ok (.iconst (-1), 1) := by decide +kernel
theorem dX11_isCase_46 : decode cX11_isCase 46 = .ok (.if_icmp .eq 7, 3) := by decide +kernel
theorem dX11_isCase_49 : decode cX11_isCase 49 = .ok (.iconst 1, 1) := by decide +kernel
theorem dX11_isCase_50 : decode cX11_isCase 50 = .ok (.goto 4, 3) := by decide +kernel
theorem dX11_isCase_53 : decode cX11_isCase 53 = .ok (.iconst 0, 1) := by decide +kernel
theorem dX11_isCase_54 : decode cX11_isCase 54 = .ok (.ireturn, 1) := by decide +kernel
theorem dX11_inRow_0 : decode cX11_inRow 0 = .ok (.aload_n 0, 1) := by decide +kernel
theorem dX11_inRow_1 : decode cX11_inRow 1 = .ok (.iload_n 2, 1) := by decide +kernel
theorem dX11_inRow_2 : decode cX11_inRow 2 = .ok (.invokevirtual 108, 3) := by decide +kernel
theorem dX11_inRow_5 : decode cX11_inRow 5 = .ok (.ifCond .eq 11, 3) := by decide +kernel
theorem dX11_inRow_8 : decode cX11_inRow 8 = .ok (.aload_n 1, 1) := by decide +kernel
theorem dX11_inRow_9 : decode cX11_inRow 9 = .ok (.iload_n 2, 1) := by decide +kernel
theorem dX11_inRow_10 : decode cX11_inRow 10 = .ok (.invokevirtual 108, 3) := by decide +kernel
theorem dX11_inRow_13 : decode cX11_inRow 13 = .ok (.ifCond .ne 5, 3) := by decide +kernel
theorem dX11_inRow_16 : decode cX11_inRow 16 = .ok (.iconst 0, 1) := by decide +kernel
theorem dX11_inRow_17 : decode cX11_inRow 17 = .ok (.ireturn, 1) := by decide +kernel
theorem dX11_inRow_18 : decode cX11_inRow 18 = .ok (.aload_n 0, 1) := by decide +kernel
theorem dX11_inRow_19 : decode cX11_inRow 19 = .ok (.getfield 175, 3) := by decide +kernel
theorem dX11_inRow_22 : decode cX11_inRow 22 = .ok (.aload_n 1, 1) := by decide +kernel
theorem dX11_inRow_23 : decode cX11_inRow 23 = .ok (.getfield 175, 3) := by decide +kernel
theorem dX11_inRow_26 : decode cX11_inRow 26 = .ok (.if_icmp .ne 18, 3) := by decide +kernel
theorem dX11_inRow_29 : decode cX11_inRow 29 = .ok (.aload_n 0, 1) := by decide +kernel
theorem dX11_inRow_30 : decode cX11_inRow 30 = .ok (.getfield 329, 3) := by decide +kernel
theorem dX11_inRow_33 : decode cX11_inRow 33 = .ok (.aload_n 1, 1) := by decide +kernel
theorem dX11_inRow_34 : decode cX11_inRow 34 = .ok (.getfield 329, 3) := by decide +kernel
theorem dX11_inRow_37 : decode cX11_inRow 37 = .ok (.if_icmp .ge 7, 3) := by decide +kernel
theorem dX11_inRow_40 : decode cX11_inRow 40 = .ok (.iconst 1, 1) := by decide +kernel
theorem dX11_inRow_41 : decode cX11_inRow 41 = .ok (.goto 4, 3) := by decide +kernel
theorem dX11_inRow_44 : decode cX11_inRow 44 = .ok (.iconst 0, 1) := by decide +kernel
theorem dX11_inRow_45 : decode cX11_inRow 45 = .ok (.ireturn, 1) := by decide +kernel
theorem dX11_minutesOwed_0 : decode cX11_minutesOwed 0 = .ok (.aload_n 0, 1) := by decide +kernel
theorem dX11_minutesOwed_1 : decode cX11_minutesOwed 1 = .ok (.getfield 19, 3) := by decide +kernel
theorem dX11_minutesOwed_4 : decode cX11_minutesOwed 4 = .ok (.invokevirtual 332, 3) := by decide +kernel
theorem dX11_minutesOwed_7 : decode cX11_minutesOwed 7 = .ok (.bipush 111, 2) := by decide +kernel
theorem dX11_minutesOwed_9 : decode cX11_minutesOwed 9 = .ok (.sipush 1440, 3) := by decide +kernel
theorem dX11_minutesOwed_12 : decode cX11_minutesOwed 12 = .ok (.aload_n 1, 1) := by decide +kernel
theorem dX11_minutesOwed_13 : decode cX11_minutesOwed 13 = .ok (.invokevirtual 336, 3) := by decide +kernel
theorem dX11_minutesOwed_16 : decode cX11_minutesOwed 16 = .ok (.ireturn, 1) := by decide +kernel
theorem dX11_hundredths_0 : decode cX11_hundredths 0 = .ok (.aload_n 0, 1) := by decide +kernel
theorem dX11_hundredths_1 : decode cX11_hundredths 1 = .ok (.getfield 19, 3) := by decide +kernel
theorem dX11_hundredths_4 : decode cX11_hundredths 4 = .ok (.invokevirtual 332, 3) := by decide +kernel
theorem dX11_hundredths_7 : decode cX11_hundredths 7 = .ok (.bipush 112, 2) := by decide +kernel
theorem dX11_hundredths_9 : decode cX11_hundredths 9 = .ok (.bipush 100, 2) := by decide +kernel
theorem dX11_hundredths_11 : decode cX11_hundredths 11 = .ok (.aload_n 1, 1) := by decide +kernel
theorem dX11_hundredths_12 : decode cX11_hundredths 12 = .ok (.invokevirtual 336, 3) := by decide +kernel
theorem dX11_hundredths_15 : decode cX11_hundredths 15 = .ok (.ireturn, 1) := by decide +kernel
theorem dX11_daysToLapse_0 : decode cX11_daysToLapse 0 = .ok (.aload_n 0, 1) := by decide +kernel
theorem dX11_daysToLapse_1 : decode cX11_daysToLapse 1 = .ok (.getfield 19, 3) := by decide +kernel
theorem dX11_daysToLapse_4 : decode cX11_daysToLapse 4 = .ok (.invokevirtual 332, 3) := by decide +kernel
theorem dX11_daysToLapse_7 : decode cX11_daysToLapse 7 = .ok (.bipush 108, 2) := by decide +kernel
theorem dX11_daysToLapse_9 : decode cX11_daysToLapse 9 = .ok (.bipush 100, 2) := by decide +kernel
theorem dX11_daysToLapse_11 : decode cX11_daysToLapse 11 = .ok (.aload_n 1, 1) := by decide +kernel
theorem dX11_daysToLapse_12 : decode cX11_daysToLapse 12 = .ok (.invokevirtual 336, 3) := by decide +kernel
theorem dX11_daysToLapse_15 : decode cX11_daysToLapse 15 = .ok (.ireturn, 1) := by decide +kernel
theorem dX11_followChain_0 : decode cX11_followChain 0 = .ok (.aload_n 0, 1) := by decide +kernel
theorem dX11_followChain_1 : decode cX11_followChain 1 = .ok (.getfield 35, 3) := by decide +kernel
theorem dX11_followChain_4 : decode cX11_followChain 4 = .ok (.iload_n 1, 1) := by decide +kernel
theorem dX11_followChain_5 : decode cX11_followChain 5 = .ok (.iload_n 2, 1) := by decide +kernel
theorem dX11_followChain_6 : decode cX11_followChain 6 = .ok (.iload_n 3, 1) := by decide +kernel
theorem dX11_followChain_7 : decode cX11_followChain 7 = .ok (.invokevirtual 149, 3) := by decide +kernel
theorem dX11_followChain_10 : decode cX11_followChain 10 = .ok (.astore 4, 2) := by decide +kernel
theorem dX11_followChain_12 : decode cX11_followChain 12 = .ok (.aload_n 0, 1) := by decide +kernel
theorem dX11_followChain_13 : decode cX11_followChain 13 = .ok (.getfield 35, 3) := by decide +kernel
theorem dX11_followChain_16 : decode cX11_followChain 16 = .ok (.iload_n 1, 1) := by decide +kernel
theorem dX11_followChain_17 : decode cX11_followChain 17 = .ok (.iload_n 2, 1) := by decide +kernel
theorem dX11_followChain_18 : decode cX11_followChain 18 = .ok (.aload_n 0, 1) := by decide +kernel
theorem dX11_followChain_19 : decode cX11_followChain 19 = .ok (.aload 4, 2) := by decide +kernel
theorem dX11_followChain_21 : decode cX11_followChain 21 = .ok (.invokevirtual 153, 3) := by decide +kernel
theorem dX11_followChain_24 : decode cX11_followChain 24 = .ok (.aload_n 0, 1) := by decide +kernel
theorem dX11_followChain_25 : decode cX11_followChain 25 = .ok (.aload 4, 2) := by decide +kernel
theorem dX11_followChain_27 : decode cX11_followChain 27 = .ok (.invokevirtual 157, 3) := by decide +kernel
theorem dX11_followChain_30 : decode cX11_followChain 30 = .ok (.invokevirtual 342, 3) := by decide +kernel
theorem dX11_followChain_33 : decode cX11_followChain 33 = .ok (.aload 4, 2) := by decide +kernel
theorem dX11_followChain_35 : decode cX11_followChain 35 = .ok (.areturn, 1) := by decide +kernel
theorem dX11_noteChain_0 : decode cX11_noteChain 0 = .ok (.aload_n 0, 1) := by decide +kernel
theorem dX11_noteChain_1 : decode cX11_noteChain 1 = .ok (.aload_n 2, 1) := by decide +kernel
theorem dX11_noteChain_2 : decode cX11_noteChain 2 = .ok (.invokevirtual 160, 3) := by decide +kernel
theorem dX11_noteChain_5 : decode cX11_noteChain 5 = .ok (.istore_n 3, 1) := by decide +kernel
theorem dX11_noteChain_6 : decode cX11_noteChain 6 = .ok (.iload_n 3, 1) := by decide +kernel
theorem dX11_noteChain_7 : decode cX11_noteChain 7 = .ok (.ifCond .ne 7, 3) := by decide +kernel
theorem dX11_noteChain_10 : decode cX11_noteChain 10 = .ok (.iconst (-1), 1) := by decide +kernel
theorem dX11_noteChain_11 : decode cX11_noteChain 11 = .ok (.goto 9, 3) := by decide +kernel
theorem dX11_noteChain_14 : decode cX11_noteChain 14 = .ok (.aload_n 0, 1) := by decide +kernel
theorem dX11_noteChain_15 : decode cX11_noteChain 15 = .ok (.getfield 69, 3) := by decide +kernel
theorem dX11_noteChain_18 : decode cX11_noteChain 18 = .ok (.iload_n 3, 1) := by decide +kernel
theorem dX11_noteChain_19 : decode cX11_noteChain 19 = .ok (.iadd, 1) := by decide +kernel
theorem dX11_noteChain_20 : decode cX11_noteChain 20 = .ok (.istore 4, 2) := by decide +kernel
theorem dX11_noteChain_22 : decode cX11_noteChain 22 = .ok (.iconst 0, 1) := by decide +kernel
theorem dX11_noteChain_23 : decode cX11_noteChain 23 = .ok (.istore 5, 2) := by decide +kernel
theorem dX11_noteChain_25 : decode cX11_noteChain 25 = .ok (.iload 5, 2) := by decide +kernel
theorem dX11_noteChain_27 : decode cX11_noteChain 27 = .ok (.aload_n 0, 1) := by decide +kernel
theorem dX11_noteChain_28 : decode cX11_noteChain 28 = .ok (.getfield 35, 3) := by decide +kernel
theorem dX11_noteChain_31 : decode cX11_noteChain 31 = .ok (.invokevirtual 166, 3) := by decide +kernel
theorem dX11_noteChain_34 : decode cX11_noteChain 34 = .ok (.if_icmp .ge 69, 3) := by decide +kernel
theorem dX11_noteChain_37 : decode cX11_noteChain 37 = .ok (.aload_n 0, 1) := by decide +kernel
theorem dX11_noteChain_38 : decode cX11_noteChain 38 = .ok (.getfield 35, 3) := by decide +kernel
theorem dX11_noteChain_41 : decode cX11_noteChain 41 = .ok (.iload 5, 2) := by decide +kernel
theorem dX11_noteChain_43 : decode cX11_noteChain 43 = .ok (.invokevirtual 169, 3) := by decide +kernel
theorem dX11_noteChain_46 : decode cX11_noteChain 46 = .ok (.istore 6, 2) := by decide +kernel
theorem dX11_noteChain_48 : decode cX11_noteChain 48 = .ok (.aload_n 0, 1) := by decide +kernel
theorem dX11_noteChain_49 : decode cX11_noteChain 49 = .ok (.getfield 35, 3) := by decide +kernel
theorem dX11_noteChain_52 : decode cX11_noteChain 52 = .ok (.iload 5, 2) := by decide +kernel
theorem dX11_noteChain_54 : decode cX11_noteChain 54 = .ok (.invokevirtual 172, 3) := by decide +kernel
theorem dX11_noteChain_57 : decode cX11_noteChain 57 = .ok (.istore 7, 2) := by decide +kernel
theorem dX11_noteChain_59 : decode cX11_noteChain 59 = .ok (.iload 7, 2) := by decide +kernel
theorem dX11_noteChain_61 : decode cX11_noteChain 61 = .ok (.ifCond .le 36, 3) := by decide +kernel
theorem dX11_noteChain_64 : decode cX11_noteChain 64 = .ok (.iload 6, 2) := by decide +kernel
theorem dX11_noteChain_66 : decode cX11_noteChain 66 = .ok (.iload_n 1, 1) := by decide +kernel
theorem dX11_noteChain_67 : decode cX11_noteChain 67 = .ok (.if_icmp .ne 6, 3) := by decide +kernel
theorem dX11_noteChain_70 : decode cX11_noteChain 70 = .ok (.goto 27, 3) := by decide +kernel
theorem dX11_noteChain_73 : decode cX11_noteChain 73 = .ok (.aload_n 0, 1) := by decide +kernel
theorem dX11_noteChain_74 : decode cX11_noteChain 74 = .ok (.getfield 42, 3) := by decide +kernel
theorem dX11_noteChain_77 : decode cX11_noteChain 77 = .ok (.iload 6, 2) := by decide +kernel
theorem dX11_noteChain_79 : decode cX11_noteChain 79 = .ok (.iload_n 1, 1) := by decide +kernel
theorem dX11_noteChain_80 : decode cX11_noteChain 80 = .ok (.iload 7, 2) := by decide +kernel
theorem dX11_noteChain_82 : decode cX11_noteChain 82 = .ok (.aload_n 0, 1) := by decide +kernel
theorem dX11_noteChain_83 : decode cX11_noteChain 83 = .ok (.getfield 69, 3) := by decide +kernel
theorem dX11_noteChain_86 : decode cX11_noteChain 86 = .ok (.iload 4, 2) := by decide +kernel
theorem dX11_noteChain_88 : decode cX11_noteChain 88 = .ok (.invokevirtual 345, 3) := by decide +kernel
theorem dX11_noteChain_91 : decode cX11_noteChain 91 = .ok (.iconst (-1), 1) := by decide +kernel
theorem dX11_noteChain_92 : decode cX11_noteChain 92 = .ok (.if_icmp .ne 5, 3) := by decide +kernel
theorem dX11_noteChain_95 : decode cX11_noteChain 95 = .ok (.iconst 0, 1) := by decide +kernel
theorem dX11_noteChain_96 : decode cX11_noteChain 96 = .ok (.ireturn, 1) := by decide +kernel
theorem dX11_noteChain_97 : decode cX11_noteChain 97 = .ok (.iinc 5 1, 3) := by decide +kernel
theorem dX11_noteChain_100 : decode cX11_noteChain 100 = .ok (.goto (-75), 3) := by decide +kernel
theorem dX11_noteChain_103 : decode cX11_noteChain 103 = .ok (.iconst 1, 1) := by decide +kernel
theorem dX11_noteChain_104 : decode cX11_noteChain 104 = .ok (.ireturn, 1) := by decide +kernel
theorem dX11_within_0 : decode cX11_within 0 = .ok (.iload_n 0, 1) := by decide +kernel
theorem dX11_within_1 : decode cX11_within 1 = .ok (.iload_n 1, 1) := by decide +kernel
theorem dX11_within_2 : decode cX11_within 2 = .ok (.if_icmp .lt 12, 3) := by decide +kernel
theorem dX11_within_5 : decode cX11_within 5 = .ok (.iload_n 0, 1) := by decide +kernel
theorem dX11_within_6 : decode cX11_within 6 = .ok (.iload_n 2, 1) := by decide +kernel
theorem dX11_within_7 : decode cX11_within 7 = .ok (.if_icmp .gt 7, 3) := by decide +kernel
theorem dX11_within_10 : decode cX11_within 10 = .ok (.iconst 1, 1) := by decide +kernel
theorem dX11_within_11 : decode cX11_within 11 = .ok (.goto 4, 3) := by decide +kernel
theorem dX11_within_14 : decode cX11_within 14 = .ok (.iconst 0, 1) := by decide +kernel
theorem dX11_within_15 : decode cX11_within 15 = .ok (.ireturn, 1) := by decide +kernel
theorem dX11_isPerson_0 : decode cX11_isPerson 0 = .ok (.iload_n 0, 1) := by decide +kernel
theorem dX11_isPerson_1 : decode cX11_isPerson 1 = .ok (.ifCond .lt 13, 3) := by decide +kernel
theorem dX11_isPerson_4 : decode cX11_isPerson 4 = .ok (.iload_n 0, 1) := by decide +kernel
theorem dX11_isPerson_5 : decode cX11_isPerson 5 = .ok (.bipush 8, 2) := by decide +kernel
theorem dX11_isPerson_7 : decode cX11_isPerson 7 = .ok (.if_icmp .ge 7, 3) := by decide +kernel
theorem dX11_isPerson_10 : decode cX11_isPerson 10 = .ok (.iconst 1, 1) := by decide +kernel
theorem dX11_isPerson_11 : decode cX11_isPerson 11 = .ok (.goto 4, 3) := by decide +kernel
theorem dX11_isPerson_14 : decode cX11_isPerson 14 = .ok (.iconst 0, 1) := by decide +kernel
theorem dX11_isPerson_15 : decode cX11_isPerson 15 = .ok (.ireturn, 1) := by decide +kernel
theorem dX11_held_0 : decode cX11_held 0 = .ok (.iload_n 1, 1) := by decide +kernel
theorem dX11_held_1 : decode cX11_held 1 = .ok (.iload_n 2, 1) := by decide +kernel
theorem dX11_held_2 : decode cX11_held 2 = .ok (.iload_n 0, 1) := by decide +kernel
theorem dX11_held_3 : decode cX11_held 3 = .ok (.invokestatic 348, 3) := by decide +kernel
theorem dX11_held_6 : decode cX11_held 6 = .ok (.invokestatic 353, 3) := by decide +kernel
theorem dX11_held_9 : decode cX11_held 9 = .ok (.ireturn, 1) := by decide +kernel
theorem dX11_whole_0 : decode cX11_whole 0 = .ok (.iload_n 1, 1) := by decide +kernel
theorem dX11_whole_1 : decode cX11_whole 1 = .ok (.ifCond .ne 7, 3) := by decide +kernel
theorem dX11_whole_4 : decode cX11_whole 4 = .ok (.iconst 0, 1) := by decide +kernel
theorem dX11_whole_5 : decode cX11_whole 5 = .ok (.goto 6, 3) := by decide +kernel
theorem dX11_whole_8 : decode cX11_whole 8 = .ok (.iload_n 0, 1) := by decide +kernel
theorem dX11_whole_9 : decode cX11_whole 9 = .ok (.iload_n 1, 1) := by decide +kernel
theorem dX11_whole_10 : decode cX11_whole 10 = .ok (.idiv, 1) := by decide +kernel
theorem dX11_whole_11 : decode cX11_whole 11 = .ok (.ireturn, 1) := by decide +kernel
theorem dX11_leftOver_0 : decode cX11_leftOver 0 = .ok (.iload_n 1, 1) := by decide +kernel
theorem dX11_leftOver_1 : decode cX11_leftOver 1 = .ok (.ifCond .ne 7, 3) := by decide +kernel
theorem dX11_leftOver_4 : decode cX11_leftOver 4 = .ok (.iconst 0, 1) := by decide +kernel
theorem dX11_leftOver_5 : decode cX11_leftOver 5 = .ok (.goto 6, 3) := by decide +kernel
theorem dX11_leftOver_8 : decode cX11_leftOver 8 = .ok (.iload_n 0, 1) := by decide +kernel
theorem dX11_leftOver_9 : decode cX11_leftOver 9 = .ok (.iload_n 1, 1) := by decide +kernel
theorem dX11_leftOver_10 : decode cX11_leftOver 10 = .ok (.irem, 1) := by decide +kernel
theorem dX11_leftOver_11 : decode cX11_leftOver 11 = .ok (.ireturn, 1) := by decide +kernel
theorem dX11_commonDivisor_0 : decode cX11_commonDivisor 0 = .ok (.iload_n 0, 1) := by decide +kernel
theorem dX11_commonDivisor_1 : decode cX11_commonDivisor 1 = .ok (.istore_n 2, 1) := by decide +kernel
theorem dX11_commonDivisor_2 : decode cX11_commonDivisor 2 = .ok (.iload_n 1, 1) := by decide +kernel
theorem dX11_commonDivisor_3 : decode cX11_commonDivisor 3 = .ok (.istore_n 3, 1) := by decide +kernel
theorem dX11_commonDivisor_4 : decode cX11_commonDivisor 4 = .ok (.iconst 0, 1) := by decide +kernel
theorem dX11_commonDivisor_5 : decode cX11_commonDivisor 5 = .ok (.istore 4, 2) := by decide +kernel
theorem dX11_commonDivisor_7 : decode cX11_commonDivisor 7 = .ok (.iload 4, 2) := by decide +kernel
theorem dX11_commonDivisor_9 : decode cX11_commonDivisor 9 = .ok (.bipush 64, 2) := by decide +kernel
theorem dX11_commonDivisor_11 : decode cX11_commonDivisor 11 = .ok (.if_icmp .ge 25, 3) := by decide +kernel
theorem dX11_commonDivisor_14 : decode cX11_commonDivisor 14 = .ok (.iload_n 3, 1) := by decide +kernel
theorem dX11_commonDivisor_15 : decode cX11_commonDivisor 15 = .ok (.ifCond .eq 21, 3) := by decide +kernel
theorem dX11_commonDivisor_18 : decode cX11_commonDivisor 18 = .ok (.iload_n 2, 1) := by decide +kernel
theorem dX11_commonDivisor_19 : decode cX11_commonDivisor 19 = .ok (.iload_n 3, 1) := by decide +kernel
theorem dX11_commonDivisor_20 : decode cX11_commonDivisor 20 = .ok (.invokestatic 356, 3) := by decide +kernel
theorem dX11_commonDivisor_23 : decode cX11_commonDivisor 23 = .ok (.istore 5, 2) := by decide +kernel
theorem dX11_commonDivisor_25 : decode cX11_commonDivisor 25 = .ok (.iload_n 3, 1) := by decide +kernel
theorem dX11_commonDivisor_26 : decode cX11_commonDivisor 26 = .ok (.istore_n 2, 1) := by decide +kernel
theorem dX11_commonDivisor_27 : decode cX11_commonDivisor 27 = .ok (.iload 5, 2) := by decide +kernel
theorem dX11_commonDivisor_29 : decode cX11_commonDivisor 29 = .ok (.istore_n 3, 1) := by decide +kernel
theorem dX11_commonDivisor_30 : decode cX11_commonDivisor 30 = .ok (.iinc 4 1, 3) := by decide +kernel
theorem dX11_commonDivisor_33 : decode cX11_commonDivisor 33 = .ok (.goto (-26), 3) := by decide +kernel
theorem dX11_commonDivisor_36 : decode cX11_commonDivisor 36 = .ok (.iload_n 2, 1) := by decide +kernel
theorem dX11_commonDivisor_37 : decode cX11_commonDivisor 37 = .ok (.ireturn, 1) := by decide +kernel
theorem dX12_init_0 : decode cX12_init 0 = .ok (.aload_n 0, 1) := by decide +kernel
theorem dX12_init_1 : decode cX12_init 1 = .ok (.invokespecial 1, 3) := by decide +kernel
theorem dX12_init_4 : decode cX12_init 4 = .ok (.aload_n 0, 1) := by decide +kernel
theorem dX12_init_5 : decode cX12_init 5 = .ok (.sipush 192, 3) := by decide +kernel
theorem dX12_init_8 : decode cX12_init 8 = .ok (.newarray .int, 2) := by decide +kernel
theorem dX12_init_10 : decode cX12_init 10 = .ok (.putfield 7, 3) := by decide +kernel
theorem dX12_init_13 : decode cX12_init 13 = .ok (.aload_n 0, 1) := by decide +kernel
theorem dX12_init_14 : decode cX12_init 14 = .ok (.bipush 24, 2) := by decide +kernel
theorem dX12_init_16 : decode cX12_init 16 = .ok (.newarray .int, 2) := by decide +kernel
theorem dX12_init_18 : decode cX12_init 18 = .ok (.putfield 13, 3) := by decide +kernel
theorem dX12_init_21 : decode cX12_init 21 = .ok (.aload_n 0, 1) := by decide +kernel
theorem dX12_init_22 : decode cX12_init 22 = .ok (.bipush 24, 2) := by decide +kernel
theorem dX12_init_24 : decode cX12_init 24 = .ok (.newarray .int, 2) := by decide +kernel
theorem dX12_init_26 : decode cX12_init 26 = .ok (.putfield 16, 3) := by decide +kernel
theorem dX12_init_29 : decode cX12_init 29 = .ok (.aload_n 0, 1) := by decide +kernel
theorem dX12_init_30 : decode cX12_init 30 = .ok (.bipush 24, 2) := by decide +kernel
theorem dX12_init_32 : decode cX12_init 32 = .ok (.newarray .int, 2) := by decide +kernel
theorem dX12_init_34 : decode cX12_init 34 = .ok (.putfield 19, 3) := by decide +kernel
theorem dX12_init_37 : decode cX12_init 37 = .ok (.aload_n 0, 1) := by decide +kernel
theorem dX12_init_38 : decode cX12_init 38 = .ok (.sipush 192, 3) := by decide +kernel
theorem dX12_init_41 : decode cX12_init 41 = .ok (.newarray .int, 2) := by decide +kernel
theorem dX12_init_43 : decode cX12_init 43 = .ok (.putfield 22, 3) := by decide +kernel
theorem dX12_init_46 : decode cX12_init 46 = .ok (.aload_n 0, 1) := by decide +kernel
theorem dX12_init_47 : decode cX12_init 47 = .ok (.bipush 24, 2) := by decide +kernel
theorem dX12_init_49 : decode cX12_init 49 = .ok (.newarray .boolean, 2) := by decide +kernel
theorem dX12_init_51 : decode cX12_init 51 = .ok (.putfield 25, 3) := by decide +kernel
theorem dX12_init_54 : decode cX12_init 54 = .ok (.aload_n 0, 1) := by decide +kernel
theorem dX12_init_55 : decode cX12_init 55 = .ok (.sipush 400, 3) := by decide +kernel
theorem dX12_init_58 : decode cX12_init 58 = .ok (.newarray .byte, 2) := by decide +kernel
theorem dX12_init_60 : decode cX12_init 60 = .ok (.putfield 29, 3) := by decide +kernel
theorem dX12_init_63 : decode cX12_init 63 = .ok (.aload_n 0, 1) := by decide +kernel
theorem dX12_init_64 : decode cX12_init 64 = .ok (.sipush 220, 3) := by decide +kernel
theorem dX12_init_67 : decode cX12_init 67 = .ok (.newarray .int, 2) := by decide +kernel
theorem dX12_init_69 : decode cX12_init 69 = .ok (.putfield 33, 3) := by decide +kernel
theorem dX12_init_72 : decode cX12_init 72 = .ok (.aload_n 0, 1) := by decide +kernel
theorem dX12_init_73 : decode cX12_init 73 = .ok (.sipush 220, 3) := by decide +kernel
theorem dX12_init_76 : decode cX12_init 76 = .ok (.newarray .int, 2) := by decide +kernel
theorem dX12_init_78 : decode cX12_init 78 = .ok (.putfield 36, 3) := by decide +kernel
theorem dX12_init_81 : decode cX12_init 81 = .ok (.aload_n 0, 1) := by decide +kernel
theorem dX12_init_82 : decode cX12_init 82 = .ok (.bipush 14, 2) := by decide +kernel
theorem dX12_init_84 : decode cX12_init 84 = .ok (.newarray .int, 2) := by decide +kernel
theorem dX12_init_86 : decode cX12_init 86 = .ok (.putfield 39, 3) := by decide +kernel
theorem dX12_init_89 : decode cX12_init 89 = .ok (.aload_n 0, 1) := by decide +kernel
theorem dX12_init_90 : decode cX12_init 90 = .ok (.bipush 14, 2) := by decide +kernel
theorem dX12_init_92 : decode cX12_init 92 = .ok (.newarray .int, 2) := by decide +kernel
theorem dX12_init_94 : decode cX12_init 94 = .ok (.putfield 42, 3) := by decide +kernel
theorem dX12_init_97 : decode cX12_init 97 = .ok (.aload_n 0, 1) := by decide +kernel
theorem dX12_init_98 : decode cX12_init 98 = .ok (.bipush 14, 2) := by decide +kernel
theorem dX12_init_100 : decode cX12_init 100 = .ok (.newarray .int, 2) := by decide +kernel
theorem dX12_init_102 : decode cX12_init 102 = .ok (.putfield 45, 3) := by decide +kernel
theorem dX12_init_105 : decode cX12_init 105 = .ok (.aload_n 0, 1) := by decide +kernel
theorem dX12_init_106 : decode cX12_init 106 = .ok (.bipush 14, 2) := by decide +kernel
theorem dX12_init_108 : decode cX12_init 108 = .ok (.newarray .int, 2) := by decide +kernel
theorem dX12_init_110 : decode cX12_init 110 = .ok (.putfield 48, 3) := by decide +kernel
theorem dX12_init_113 : decode cX12_init 113 = .ok (.aload_n 0, 1) := by decide +kernel
theorem dX12_init_114 : decode cX12_init 114 = .ok (.sipush 220, 3) := by decide +kernel
theorem dX12_init_117 : decode cX12_init 117 = .ok (.newarray .int, 2) := by decide +kernel
theorem dX12_init_119 : decode cX12_init 119 = .ok (.putfield 51, 3) := by decide +kernel
theorem dX12_init_122 : decode cX12_init 122 = .ok (.aload_n 0, 1) := by decide +kernel
theorem dX12_init_123 : decode cX12_init 123 = .ok (.bipush 14, 2) := by decide +kernel
theorem dX12_init_125 : decode cX12_init 125 = .ok (.newarray .int, 2) := by decide +kernel
theorem dX12_init_127 : decode cX12_init 127 = .ok (.putfield 54, 3) := by decide +kernel
theorem dX12_init_130 : decode cX12_init 130 = .ok (.aload_n 0, 1) := by decide +kernel
theorem dX12_init_131 : decode cX12_init 131 = .ok (.bipush 14, 2) := by decide +kernel
theorem dX12_init_133 : decode cX12_init 133 = .ok (.newarray .int, 2) := by decide +kernel
theorem dX12_init_135 : decode cX12_init 135 = .ok (.putfield 57, 3) := by decide +kernel
theorem dX12_init_138 : decode cX12_init 138 = .ok (.aload_n 0, 1) := by decide +kernel
theorem dX12_init_139 : decode cX12_init 139 = .ok (.bipush 14, 2) := by decide +kernel
theorem dX12_init_141 : decode cX12_init 141 = .ok (.newarray .int, 2) := by decide +kernel
theorem dX12_init_143 : decode cX12_init 143 = .ok (.putfield 60, 3) := by decide +kernel
theorem dX12_init_146 : decode cX12_init 146 = .ok (.aload_n 0, 1) := by decide +kernel
theorem dX12_init_147 : decode cX12_init 147 = .ok (.bipush 14, 2) := by decide +kernel
theorem dX12_init_149 : decode cX12_init 149 = .ok (.newarray .int, 2) := by decide +kernel
theorem dX12_init_151 : decode cX12_init 151 = .ok (.putfield 63, 3) := by decide +kernel
theorem dX12_init_154 : decode cX12_init 154 = .ok (.aload_n 0, 1) := by decide +kernel
theorem dX12_init_155 : decode cX12_init 155 = .ok (.sipush 220, 3) := by decide +kernel
theorem dX12_init_158 : decode cX12_init 158 = .ok (.newarray .int, 2) := by decide +kernel
theorem dX12_init_160 : decode cX12_init 160 = .ok (.putfield 66, 3) := by decide +kernel
theorem dX12_init_163 : decode cX12_init 163 = .ok (.aload_n 0, 1) := by decide +kernel
theorem dX12_init_164 : decode cX12_init 164 = .ok (.bipush 12, 2) := by decide +kernel
theorem dX12_init_166 : decode cX12_init 166 = .ok (.newarray .int, 2) := by decide +kernel
theorem dX12_init_168 : decode cX12_init 168 = .ok (.putfield 69, 3) := by decide +kernel
theorem dX12_init_171 : decode cX12_init 171 = .ok (.aload_n 0, 1) := by decide +kernel
theorem dX12_init_172 : decode cX12_init 172 = .ok (.bipush 24, 2) := by decide +kernel
theorem dX12_init_174 : decode cX12_init 174 = .ok (.newarray .int, 2) := by decide +kernel
theorem dX12_init_176 : decode cX12_init 176 = .ok (.putfield 72, 3) := by decide +kernel
theorem dX12_init_179 : decode cX12_init 179 = .ok (.aload_n 0, 1) := by decide +kernel
theorem dX12_init_180 : decode cX12_init 180 = .ok (.bipush 24, 2) := by decide +kernel
theorem dX12_init_182 : decode cX12_init 182 = .ok (.newarray .int, 2) := by decide +kernel
theorem dX12_init_184 : decode cX12_init 184 = .ok (.putfield 75, 3) := by decide +kernel
theorem dX12_init_187 : decode cX12_init 187 = .ok (.aload_n 0, 1) := by decide +kernel
theorem dX12_init_188 : decode cX12_init 188 = .ok (.bipush 60, 2) := by decide +kernel
theorem dX12_init_190 : decode cX12_init 190 = .ok (.newarray .int, 2) := by decide +kernel
theorem dX12_init_192 : decode cX12_init 192 = .ok (.putfield 78, 3) := by decide +kernel
theorem dX12_init_195 : decode cX12_init 195 = .ok (.aload_n 0, 1) := by decide +kernel
theorem dX12_init_196 : decode cX12_init 196 = .ok (.bipush 60, 2) := by decide +kernel
theorem dX12_init_198 : decode cX12_init 198 = .ok (.newarray .int, 2) := by decide +kernel
theorem dX12_init_200 : decode cX12_init 200 = .ok (.putfield 81, 3) := by decide +kernel
theorem dX12_init_203 : decode cX12_init 203 = .ok (.aload_n 0, 1) := by decide +kernel
theorem dX12_init_204 : decode cX12_init 204 = .ok (.bipush 60, 2) := by decide +kernel
theorem dX12_init_206 : decode cX12_init 206 = .ok (.newarray .int, 2) := by decide +kernel
theorem dX12_init_208 : decode cX12_init 208 = .ok (.putfield 84, 3) := by decide +kernel
theorem dX12_init_211 : decode cX12_init 211 = .ok (.aload_n 0, 1) := by decide +kernel
theorem dX12_init_212 : decode cX12_init 212 = .ok (.bipush 60, 2) := by decide +kernel
theorem dX12_init_214 : decode cX12_init 214 = .ok (.newarray .int, 2) := by decide +kernel
theorem dX12_init_216 : decode cX12_init 216 = .ok (.putfield 87, 3) := by decide +kernel
theorem dX12_init_219 : decode cX12_init 219 = .ok (.aload_n 0, 1) := by decide +kernel
theorem dX12_init_220 : decode cX12_init 220 = .ok (.bipush 60, 2) := by decide +kernel
theorem dX12_init_222 : decode cX12_init 222 = .ok (.newarray .int, 2) := by decide +kernel
theorem dX12_init_224 : decode cX12_init 224 = .ok (.putfield 90, 3) := by decide +kernel
theorem dX12_init_227 : decode cX12_init 227 = .ok (.aload_n 0, 1) := by decide +kernel
theorem dX12_init_228 : decode cX12_init 228 = .ok (.sipush 192, 3) := by decide +kernel
theorem dX12_init_231 : decode cX12_init 231 = .ok (.newarray .int, 2) := by decide +kernel
theorem dX12_init_233 : decode cX12_init 233 = .ok (.putfield 93, 3) := by decide +kernel
theorem dX12_init_236 : decode cX12_init 236 = .ok (.aload_n 0, 1) := by decide +kernel
theorem dX12_init_237 : decode cX12_init 237 = .ok (.sipush 192, 3) := by decide +kernel
theorem dX12_init_240 : decode cX12_init 240 = .ok (.newarray .int, 2) := by decide +kernel
theorem dX12_init_242 : decode cX12_init 242 = .ok (.putfield 96, 3) := by decide +kernel
theorem dX12_init_245 : decode cX12_init 245 = .ok (.aload_n 0, 1) := by decide +kernel
theorem dX12_init_246 : decode cX12_init 246 = .ok (.bipush 7, 2) := by decide +kernel
theorem dX12_init_248 : decode cX12_init 248 = .ok (.newarray .int, 2) := by decide +kernel
theorem dX12_init_250 : decode cX12_init 250 = .ok (.putfield 99, 3) := by decide +kernel
theorem dX12_init_253 : decode cX12_init 253 = .ok (.aload_n 0, 1) := by decide +kernel
theorem dX12_init_254 : decode cX12_init 254 = .ok (.sipush 168, 3) := by decide +kernel
theorem dX12_init_257 : decode cX12_init 257 = .ok (.newarray .boolean, 2) := by decide +kernel
theorem dX12_init_259 : decode cX12_init 259 = .ok (.putfield 102, 3) := by decide +kernel
theorem dX12_init_262 : decode cX12_init 262 = .ok (.aload_n 0, 1) := by decide +kernel
theorem dX12_init_263 : decode cX12_init 263 = .ok (.bipush 64, 2) := by decide +kernel
theorem dX12_init_265 : decode cX12_init 265 = .ok (.newarray .int, 2) := by decide +kernel
theorem dX12_init_267 : decode cX12_init 267 = .ok (.putfield 105, 3) := by decide +kernel
theorem dX12_init_270 : decode cX12_init 270 = .ok (.aload_n 0, 1) := by decide +kernel
theorem dX12_init_271 : decode cX12_init 271 = .ok (.bipush 64, 2) := by decide +kernel
theorem dX12_init_273 : decode cX12_init 273 = .ok (.newarray .int, 2) := by decide +kernel
theorem dX12_init_275 : decode cX12_init 275 = .ok (.putfield 108, 3) := by decide +kernel
theorem dX12_init_278 : decode cX12_init 278 = .ok (.aload_n 0, 1) := by decide +kernel
theorem dX12_init_279 : decode cX12_init 279 = .ok (.bipush 8, 2) := by decide +kernel
theorem dX12_init_281 : decode cX12_init 281 = .ok (.newarray .int, 2) := by decide +kernel
theorem dX12_init_283 : decode cX12_init 283 = .ok (.putfield 111, 3) := by decide +kernel
theorem dX12_init_286 : decode cX12_init 286 = .ok (.aload_n 0, 1) := by decide +kernel
theorem dX12_init_287 : decode cX12_init 287 = .ok (.bipush 8, 2) := by decide +kernel
theorem dX12_init_289 : decode cX12_init 289 = .ok (.newarray .int, 2) := by decide +kernel
theorem dX12_init_291 : decode cX12_init 291 = .ok (.putfield 114, 3) := by decide +kernel
theorem dX12_init_294 : decode cX12_init 294 = .ok (.aload_n 0, 1) := by decide +kernel
theorem dX12_init_295 : decode cX12_init 295 = .ok (.bipush 8, 2) := by decide +kernel
theorem dX12_init_297 : decode cX12_init 297 = .ok (.newarray .int, 2) := by decide +kernel
theorem dX12_init_299 : decode cX12_init 299 = .ok (.putfield 117, 3) := by decide +kernel
theorem dX12_init_302 : decode cX12_init 302 = .ok (.aload_n 0, 1) := by decide +kernel
theorem dX12_init_303 : decode cX12_init 303 = .ok (.sipush 256, 3) := by decide +kernel
theorem dX12_init_306 : decode cX12_init 306 = .ok (.newarray .int, 2) := by decide +kernel
theorem dX12_init_308 : decode cX12_init 308 = .ok (.putfield 120, 3) := by decide +kernel
theorem dX12_init_311 : decode cX12_init 311 = .ok (.aload_n 0, 1) := by decide +kernel
theorem dX12_init_312 : decode cX12_init 312 = .ok (.bipush 8, 2) := by decide +kernel
theorem dX12_init_314 : decode cX12_init 314 = .ok (.newarray .int, 2) := by decide +kernel
theorem dX12_init_316 : decode cX12_init 316 = .ok (.putfield 123, 3) := by decide +kernel
theorem dX12_init_319 : decode cX12_init 319 = .ok (.aload_n 0, 1) := by decide +kernel
theorem dX12_init_320 : decode cX12_init 320 = .ok (.bipush 40, 2) := by decide +kernel
theorem dX12_init_322 : decode cX12_init 322 = .ok (.newarray .int, 2) := by decide +kernel
theorem dX12_init_324 : decode cX12_init 324 = .ok (.putfield 126, 3) := by decide +kernel
theorem dX12_init_327 : decode cX12_init 327 = .ok (.aload_n 0, 1) := by decide +kernel
theorem dX12_init_328 : decode cX12_init 328 = .ok (.bipush 40, 2) := by decide +kernel
theorem dX12_init_330 : decode cX12_init 330 = .ok (.newarray .int, 2) := by decide +kernel
theorem dX12_init_332 : decode cX12_init 332 = .ok (.putfield 129, 3) := by decide +kernel
theorem dX12_init_335 : decode cX12_init 335 = .ok (.aload_n 0, 1) := by decide +kernel
theorem dX12_init_336 : decode cX12_init 336 = .ok (.bipush 9, 2) := by decide +kernel
theorem dX12_init_338 : decode cX12_init 338 = .ok (.newarray .long, 2) := by decide +kernel
theorem dX12_init_340 : decode cX12_init 340 = .ok (.putfield 132, 3) := by decide +kernel
theorem dX12_init_343 : decode cX12_init 343 = .ok (.aload_n 0, 1) := by decide +kernel
theorem dX12_init_344 : decode cX12_init 344 = .ok (.iconst 4, 1) := by decide +kernel
theorem dX12_init_345 : decode cX12_init 345 = .ok (.newarray .int, 2) := by decide +kernel
theorem dX12_init_347 : decode cX12_init 347 = .ok (.putfield 136, 3) := by decide +kernel
theorem dX12_init_350 : decode cX12_init 350 = .ok (.aload_n 0, 1) := by decide +kernel
theorem dX12_init_351 : decode cX12_init 351 = .ok (.iconst 4, 1) := by decide +kernel
theorem dX12_init_352 : decode cX12_init 352 = .ok (.newarray .int, 2) := by decide +kernel
theorem dX12_init_354 : decode cX12_init 354 = .ok (.putfield 139, 3) := by decide +kernel
theorem dX12_init_357 : decode cX12_init 357 = .ok (.aload_n 0, 1) := by decide +kernel
theorem dX12_init_358 : decode cX12_init 358 = .ok (.iconst 4, 1) := by decide +kernel
theorem dX12_init_359 : decode cX12_init 359 = .ok (.newarray .int, 2) := by decide +kernel
theorem dX12_init_361 : decode cX12_init 361 = .ok (.putfield 142, 3) := by decide +kernel
theorem dX12_init_364 : decode cX12_init 364 = .ok (.aload_n 0, 1) := by decide +kernel
theorem dX12_init_365 : decode cX12_init 365 = .ok (.iconst 4, 1) := by decide +kernel
theorem dX12_init_366 : decode cX12_init 366 = .ok (.newarray .int, 2) := by decide +kernel
theorem dX12_init_368 : decode cX12_init 368 = .ok (.putfield 145, 3) := by decide +kernel
theorem dX12_init_371 : decode cX12_init 371 = .ok (.iconst 0, 1) := by decide +kernel
theorem dX12_init_372 : decode cX12_init 372 = .ok (.istore_n 1, 1) := by decide +kernel
theorem dX12_init_373 : decode cX12_init 373 = .ok (.iload_n 1, 1) := by decide +kernel
theorem dX12_init_374 : decode cX12_init 374 = .ok (.sipush 192, 3) := by decide +kernel
theorem dX12_init_377 : decode cX12_init 377 = .ok (.if_icmp .ge 16, 3) := by decide +kernel
theorem dX12_init_380 : decode cX12_init 380 = .ok (.aload_n 0, 1) := by decide +kernel
theorem dX12_init_381 : decode cX12_init 381 = .ok (.getfield 7, 3) := by decide +kernel
theorem dX12_init_384 : decode cX12_init 384 = .ok (.iload_n 1, 1) := by decide +kernel
theorem dX12_init_385 : decode cX12_init 385 = .ok (.iconst 1, 1) := by decide +kernel
theorem dX12_init_386 : decode cX12_init 386 = .ok (.iastore, 1) := by decide +kernel
theorem dX12_init_387 : decode cX12_init 387 = .ok (.iinc 1 1, 3) := by decide +kernel
theorem dX12_init_390 : decode cX12_init 390 = .ok (.goto (-17), 3) := by decide +kernel
theorem dX12_init_393 : decode cX12_init 393 = .ok (.aload_n 0, 1) := by decide +kernel
theorem dX12_init_394 : decode cX12_init 394 = .ok (.iconst 1, 1) := by decide +kernel
theorem dX12_init_395 : decode cX12_init 395 = .ok (.putfield 148, 3) := by decide +kernel
theorem dX12_init_398 : decode cX12_init 398 = .ok (.aload_n 0, 1) := by decide +kernel
theorem dX12_init_399 : decode cX12_init 399 = .ok (.iconst 1, 1) := by decide +kernel
theorem dX12_init_400 : decode cX12_init 400 = .ok (.putfield 152, 3) := by decide +kernel
theorem dX12_init_403 : decode cX12_init 403 = .ok (.return_, 1) := by decide +kernel
theorem dX12_in_0 : decode cX12_in 0 = .ok (.iload_n 0, 1) := by decide +kernel
theorem dX12_in_1 : decode cX12_in 1 = .ok (.iload_n 1, 1) := by decide +kernel
theorem dX12_in_2 : decode cX12_in 2 = .ok (.if_icmp .lt 12, 3) := by decide +kernel
theorem dX12_in_5 : decode cX12_in 5 = .ok (.iload_n 0, 1) := by decide +kernel
theorem dX12_in_6 : decode cX12_in 6 = .ok (.iload_n 2, 1) := by decide +kernel
theorem dX12_in_7 : decode cX12_in 7 = .ok (.if_icmp .gt 7, 3) := by decide +kernel
theorem dX12_in_10 : decode cX12_in 10 = .ok (.iconst 1, 1) := by decide +kernel
theorem dX12_in_11 : decode cX12_in 11 = .ok (.goto 4, 3) := by decide +kernel
theorem dX12_in_14 : decode cX12_in 14 = .ok (.iconst 0, 1) := by decide +kernel
theorem dX12_in_15 : decode cX12_in 15 = .ok (.ireturn, 1) := by decide +kernel
theorem dX12_isPerson_0 : decode cX12_isPerson 0 = .ok (.iload_n 0, 1) := by decide +kernel
theorem dX12_isPerson_1 : decode cX12_isPerson 1 = .ok (.ifCond .lt 13, 3) := by decide +kernel
theorem dX12_isPerson_4 : decode cX12_isPerson 4 = .ok (.iload_n 0, 1) := by decide +kernel
theorem dX12_isPerson_5 : decode cX12_isPerson 5 = .ok (.bipush 8, 2) := by decide +kernel
theorem dX12_isPerson_7 : decode cX12_isPerson 7 = .ok (.if_icmp .ge 7, 3) := by decide +kernel
theorem dX12_isPerson_10 : decode cX12_isPerson 10 = .ok (.iconst 1, 1) := by decide +kernel
theorem dX12_isPerson_11 : decode cX12_isPerson 11 = .ok (.goto 4, 3) := by decide +kernel
theorem dX12_isPerson_14 : decode cX12_isPerson 14 = .ok (.iconst 0, 1) := by decide +kernel
theorem dX12_isPerson_15 : decode cX12_isPerson 15 = .ok (.ireturn, 1) := by decide +kernel
theorem dX12_isMeeting_0 : decode cX12_isMeeting 0 = .ok (.iload_n 1, 1) := by decide +kernel
theorem dX12_isMeeting_1 : decode cX12_isMeeting 1 = .ok (.ifCond .lt 15, 3) := by decide +kernel
theorem dX12_isMeeting_4 : decode cX12_isMeeting 4 = .ok (.iload_n 1, 1) := by decide +kernel
theorem dX12_isMeeting_5 : decode cX12_isMeeting 5 = .ok (.aload_n 0, 1) := by decide +kernel
theorem dX12_isMeeting_6 : decode cX12_isMeeting 6 = .ok (.getfield 155, 3) := by decide +kernel
theorem dX12_isMeeting_9 : decode cX12_isMeeting 9 = .ok (.if_icmp .ge 7, 3) := by decide +kernel
theorem dX12_isMeeting_12 : decode cX12_isMeeting 12 = .ok (.iconst 1, 1) := by decide +kernel
theorem dX12_isMeeting_13 : decode cX12_isMeeting 13 = .ok (.goto 4, 3) := by decide +kernel
theorem dX12_isMeeting_16 : decode cX12_isMeeting 16 = .ok (.iconst 0, 1) := by decide +kernel
theorem dX12_isMeeting_17 : decode cX12_isMeeting 17 = .ok (.ireturn, 1) := by decide +kernel
theorem dX12_isOf_0 : decode cX12_isOf 0 = .ok (.aload_n 0, 1) := by decide +kernel
theorem dX12_isOf_1 : decode cX12_isOf 1 = .ok (.iload_n 1, 1) := by decide +kernel
theorem dX12_isOf_2 : decode cX12_isOf 2 = .ok (.invokevirtual 158, 3) := by decide +kernel
theorem dX12_isOf_5 : decode cX12_isOf 5 = .ok (.ifCond .eq 28, 3) := by decide +kernel
theorem dX12_isOf_8 : decode cX12_isOf 8 = .ok (.iload_n 2, 1) := by decide +kernel
theorem dX12_isOf_9 : decode cX12_isOf 9 = .ok (.invokestatic 162, 3) := by decide +kernel
theorem dX12_isOf_12 : decode cX12_isOf 12 = .ok (.ifCond .eq 21, 3) := by decide +kernel
theorem dX12_isOf_15 : decode cX12_isOf 15 = .ok (.aload_n 0, 1) := by decide +kernel
theorem dX12_isOf_16 : decode cX12_isOf 16 = .ok (.getfield 19, 3) := by decide +kernel
theorem dX12_isOf_19 : decode cX12_isOf 19 = .ok (.iload_n 1, 1) := by decide +kernel
theorem dX12_isOf_20 : decode cX12_isOf 20 = .ok (.iaload, 1) := by decide +kernel
theorem dX12_isOf_21 : decode cX12_isOf 21 = .ok (.iload_n 2, 1) := by decide +kernel
theorem dX12_isOf_22 : decode cX12_isOf 22 = .ok (.ishr, 1) := by decide +kernel
theorem dX12_isOf_23 : decode cX12_isOf 23 = .ok (.iconst 1, 1) := by decide +kernel
theorem dX12_isOf_24 : decode cX12_isOf 24 = .ok (.iand, 1) := by decide +kernel
theorem dX12_isOf_25 : decode cX12_isOf 25 = .ok (.iconst 1, 1) := by decide +kernel
theorem dX12_isOf_26 : decode cX12_isOf 26 = .ok (.if_icmp .ne 7, 3) := by decide +kernel
theorem dX12_isOf_29 : decode cX12_isOf 29 = .ok (.iconst 1, 1) := by decide +kernel
theorem dX12_isOf_30 : decode cX12_isOf 30 = .ok (.goto 4, 3) := by decide +kernel
theorem dX12_isOf_33 : decode cX12_isOf 33 = .ok (.iconst 0, 1) := by decide +kernel
theorem dX12_isOf_34 : decode cX12_isOf 34 = .ok (.ireturn, 1) := by decide +kernel
theorem dX12_now_0 : decode cX12_now 0 = .ok (.iload_n 1, 1) := by decide +kernel
theorem dX12_now_1 : decode cX12_now 1 = .ok (.aload_n 0, 1) := by decide +kernel
theorem dX12_now_2 : decode cX12_now 2 = .ok (.getfield 165, 3) := by decide +kernel
theorem dX12_now_5 : decode cX12_now 5 = .ok (.bipush 99, 2) := by decide +kernel
theorem dX12_now_7 : decode cX12_now 7 = .ok (.invokestatic 168, 3) := by decide +kernel
theorem dX12_now_10 : decode cX12_now 10 = .ok (.ifCond .ne 5, 3) := by decide +kernel
theorem dX12_now_13 : decode cX12_now 13 = .ok (.iconst 0, 1) := by decide +kernel
theorem dX12_now_14 : decode cX12_now 14 = .ok (.ireturn, 1) := by decide +kernel
theorem dX12_now_15 : decode cX12_now 15 = .ok (.iload_n 1, 1) := by decide +kernel
theorem dX12_now_16 : decode cX12_now 16 = .ok (.aload_n 0, 1) := by decide +kernel
theorem dX12_now_17 : decode cX12_now 17 = .ok (.getfield 165, 3) := by decide +kernel
theorem dX12_now_20 : decode cX12_now 20 = .ok (.if_icmp .le 32, 3) := by decide +kernel
theorem dX12_now_23 : decode cX12_now 23 = .ok (.iconst 0, 1) := by decide +kernel
theorem dX12_now_24 : decode cX12_now 24 = .ok (.istore_n 2, 1) := by decide +kernel
theorem dX12_now_25 : decode cX12_now 25 = .ok (.iload_n 2, 1) := by decide +kernel
theorem dX12_now_26 : decode cX12_now 26 = .ok (.sipush 192, 3) := by decide +kernel
theorem dX12_now_29 : decode cX12_now 29 = .ok (.if_icmp .ge 23, 3) := by decide +kernel
theorem dX12_now_32 : decode cX12_now 32 = .ok (.aload_n 0, 1) := by decide +kernel
theorem dX12_now_33 : decode cX12_now 33 = .ok (.getfield 93, 3) := by decide +kernel
theorem dX12_now_36 : decode cX12_now 36 = .ok (.iload_n 2, 1) := by decide +kernel
theorem dX12_now_37 : decode cX12_now 37 = .ok (.iconst 0, 1) := by decide +kernel
theorem dX12_now_38 : decode cX12_now 38 = .ok (.iastore, 1) := by decide +kernel
theorem dX12_now_39 : decode cX12_now 39 = .ok (.aload_n 0, 1) := by decide +kernel
theorem dX12_now_40 : decode cX12_now 40 = .ok (.getfield 96, 3) := by decide +kernel
theorem dX12_now_43 : decode cX12_now 43 = .ok (.iload_n 2, 1) := by decide +kernel
theorem dX12_now_44 : decode cX12_now 44 = .ok (.iconst 0, 1) := by decide +kernel
theorem dX12_now_45 : decode cX12_now 45 = .ok (.iastore, 1) := by decide +kernel
theorem dX12_now_46 : decode cX12_now 46 = .ok (.iinc 2 1, 3) := by decide +kernel
theorem dX12_now_49 : decode cX12_now 49 = .ok (.goto (-24), 3) := by decide +kernel
theorem dX12_now_52 : decode cX12_now 52 = .ok (.aload_n 0, 1) := by decide +kernel
theorem dX12_now_53 : decode cX12_now 53 = .ok (.iload_n 1, 1) := by decide +kernel
theorem dX12_now_54 : decode cX12_now 54 = .ok (.putfield 165, 3) := by decide +kernel
theorem dX12_now_57 : decode cX12_now 57 = .ok (.iconst 1, 1) := by decide +kernel
theorem dX12_now_58 : decode cX12_now 58 = .ok (.ireturn, 1) := by decide +kernel
theorem dX12_worth_0 : decode cX12_worth 0 = .ok (.iload_n 1, 1) := by decide +kernel
theorem dX12_worth_1 : decode cX12_worth 1 = .ok (.invokestatic 162, 3) := by decide +kernel
theorem dX12_worth_4 : decode cX12_worth 4 = .ok (.ifCond .eq 23, 3) := by decide +kernel
theorem dX12_worth_7 : decode cX12_worth 7 = .ok (.iload_n 2, 1) := by decide +kernel
theorem dX12_worth_8 : decode cX12_worth 8 = .ok (.iconst 0, 1) := by decide +kernel
theorem dX12_worth_9 : decode cX12_worth 9 = .ok (.bipush 23, 2) := by decide +kernel
theorem dX12_worth_11 : decode cX12_worth 11 = .ok (.invokestatic 168, 3) := by decide +kernel
theorem dX12_worth_14 : decode cX12_worth 14 = .ok (.ifCond .eq 13, 3) := by decide +kernel
theorem dX12_worth_17 : decode cX12_worth 17 = .ok (.iload_n 3, 1) := by decide +kernel
theorem dX12_worth_18 : decode cX12_worth 18 = .ok (.iconst 0, 1) := by decide +kernel
theorem dX12_worth_19 : decode cX12_worth 19 = .ok (.bipush 99, 2) := by decide +kernel
theorem dX12_worth_21 : decode cX12_worth 21 = .ok (.invokestatic 168, 3) := by decide +kernel
theorem dX12_worth_24 : decode cX12_worth 24 = .ok (.ifCond .ne 5, 3) := by decide +kernel
theorem dX12_worth_27 : decode cX12_worth 27 = .ok (.iconst 0, 1) := by decide +kernel
theorem dX12_worth_28 : decode cX12_worth 28 = .ok (.ireturn, 1) := by decide +kernel
theorem dX12_worth_29 : decode cX12_worth 29 = .ok (.aload_n 0, 1) := by decide +kernel
theorem dX12_worth_30 : decode cX12_worth 30 = .ok (.getfield 7, 3) := by decide +kernel
theorem dX12_worth_33 : decode cX12_worth 33 = .ok (.bipush 24, 2) := by decide +kernel
theorem dX12_worth_35 : decode cX12_worth 35 = .ok (.iload_n 1, 1) := by decide +kernel
theorem dX12_worth_36 : decode cX12_worth 36 = .ok (.imul, 1) := by decide +kernel
theorem dX12_worth_37 : decode cX12_worth 37 = .ok (.iload_n 2, 1) := by decide +kernel
theorem dX12_worth_38 : decode cX12_worth 38 = .ok (.iadd, 1) := by decide +kernel
theorem dX12_worth_39 : decode cX12_worth 39 = .ok (.iload_n 3, 1) := by decide +kernel
theorem dX12_worth_40 : decode cX12_worth 40 = .ok (.iastore, 1) := by decide +kernel
theorem dX12_worth_41 : decode cX12_worth 41 = .ok (.iconst 1, 1) := by decide +kernel
theorem dX12_worth_42 : decode cX12_worth 42 = .ok (.ireturn, 1) := by decide +kernel
theorem dX12_bits_0 : decode cX12_bits 0 = .ok (.iconst 0, 1) := by decide +kernel
theorem dX12_bits_1 : decode cX12_bits 1 = .ok (.istore_n 1, 1) := by decide +kernel
theorem dX12_bits_2 : decode cX12_bits 2 = .ok (.iconst 0, 1) := by decide +kernel
theorem dX12_bits_3 : decode cX12_bits 3 = .ok (.istore_n 2, 1) := by decide +kernel
theorem dX12_bits_4 : decode cX12_bits 4 = .ok (.iload_n 2, 1) := by decide +kernel
theorem dX12_bits_5 : decode cX12_bits 5 = .ok (.bipush 8, 2) := by decide +kernel
theorem dX12_bits_7 : decode cX12_bits 7 = .ok (.if_icmp .ge 17, 3) := by decide +kernel
theorem dX12_bits_10 : decode cX12_bits 10 = .ok (.iload_n 1, 1) := by decide +kernel
theorem dX12_bits_11 : decode cX12_bits 11 = .ok (.iload_n 0, 1) := by decide +kernel
theorem dX12_bits_12 : decode cX12_bits 12 = .ok (.iload_n 2, 1) := by decide +kernel
theorem dX12_bits_13 : decode cX12_bits 13 = .ok (.ishr, 1) := by decide +kernel
theorem dX12_bits_14 : decode cX12_bits 14 = .ok (.iconst 1, 1) := by decide +kernel
theorem dX12_bits_15 : decode cX12_bits 15 = .ok (.iand, 1) := by decide +kernel
theorem dX12_bits_16 : decode cX12_bits 16 = .ok (.iadd, 1) := by decide +kernel
theorem dX12_bits_17 : decode cX12_bits 17 = .ok (.istore_n 1, 1) := by decide +kernel
theorem dX12_bits_18 : decode cX12_bits 18 = .ok (.iinc 2 1, 3) := by decide +kernel
theorem dX12_bits_21 : decode cX12_bits 21 = .ok (.goto (-17), 3) := by decide +kernel
theorem dX12_bits_24 : decode cX12_bits 24 = .ok (.iload_n 1, 1) := by decide +kernel
theorem dX12_bits_25 : decode cX12_bits 25 = .ok (.ireturn, 1) := by decide +kernel
theorem dX12_meeting_0 : decode cX12_meeting 0 = .ok (.iload_n 1, 1) := by decide +kernel
theorem dX12_meeting_1 : decode cX12_meeting 1 = .ok (.iconst 0, 1) := by decide +kernel
theorem dX12_meeting_2 : decode cX12_meeting 2 = .ok (.bipush 99, 2) := by decide +kernel
theorem dX12_meeting_4 : decode cX12_meeting 4 = .ok (.invokestatic 168, 3) := by decide +kernel
theorem dX12_meeting_7 : decode cX12_meeting 7 = .ok (.ifCond .eq 42, 3) := by decide +kernel
theorem dX12_meeting_10 : decode cX12_meeting 10 = .ok (.iload_n 2, 1) := by decide +kernel
theorem dX12_meeting_11 : decode cX12_meeting 11 = .ok (.iconst 0, 1) := by decide +kernel
theorem dX12_meeting_12 : decode cX12_meeting 12 = .ok (.sipush 1439, 3) := by decide +kernel
theorem dX12_meeting_15 : decode cX12_meeting 15 = .ok (.invokestatic 168, 3) := by decide +kernel
theorem dX12_meeting_18 : decode cX12_meeting 18 = .ok (.ifCond .eq 31, 3) := by decide +kernel
theorem dX12_meeting_21 : decode cX12_meeting 21 = .ok (.iload_n 3, 1) := by decide +kernel
theorem dX12_meeting_22 : decode cX12_meeting 22 = .ok (.iconst 0, 1) := by decide +kernel
theorem dX12_meeting_23 : decode cX12_meeting 23 = .ok (.sipush 255, 3) := by decide +kernel
theorem dX12_meeting_26 : decode cX12_meeting 26 = .ok (.invokestatic 168, 3) := by decide +kernel
theorem dX12_meeting_29 : decode cX12_meeting 29 = .ok (.ifCond .eq 20, 3) := by decide +kernel
theorem dX12_meeting_32 : decode cX12_meeting 32 = .ok (.iload_n 3, 1) := by decide +kernel
theorem dX12_meeting_33 : decode cX12_meeting 33 = .ok (.invokestatic 172, 3) := by decide +kernel
theorem dX12_meeting_36 : decode cX12_meeting 36 = .ok (.iconst 2, 1) := by decide +kernel
theorem dX12_meeting_37 : decode cX12_meeting 37 = .ok (.if_icmp .lt 12, 3) := by decide +kernel
theorem dX12_meeting_40 : decode cX12_meeting 40 = .ok (.aload_n 0, 1) := by decide +kernel
theorem dX12_meeting_41 : decode cX12_meeting 41 = .ok (.getfield 155, 3) := by decide +kernel
theorem dX12_meeting_44 : decode cX12_meeting 44 = .ok (.bipush 24, 2) := by decide +kernel
theorem dX12_meeting_46 : decode cX12_meeting 46 = .ok (.if_icmp .ne 5, 3) := by decide +kernel
theorem dX12_meeting_49 : decode cX12_meeting 49 = .ok (.iconst (-1), 1) := by decide +kernel
theorem dX12_meeting_50 : decode cX12_meeting 50 = .ok (.ireturn, 1) := by decide +kernel
theorem dX12_meeting_51 : decode cX12_meeting 51 = .ok (.aload_n 0, 1) := by decide +kernel
theorem dX12_meeting_52 : decode cX12_meeting 52 = .ok (.getfield 13, 3) := by decide +kernel
theorem dX12_meeting_55 : decode cX12_meeting 55 = .ok (.aload_n 0, 1) := by decide +kernel
theorem dX12_meeting_56 : decode cX12_meeting 56 = .ok (.getfield 155, 3) := by decide +kernel
theorem dX12_meeting_59 : decode cX12_meeting 59 = .ok (.iload_n 1, 1) := by decide +kernel
theorem dX12_meeting_60 : decode cX12_meeting 60 = .ok (.iastore, 1) := by decide +kernel
theorem dX12_meeting_61 : decode cX12_meeting 61 = .ok (.aload_n 0, 1) := by decide +kernel
theorem dX12_meeting_62 : decode cX12_meeting 62 = .ok (.getfield 16, 3) := by decide +kernel
theorem dX12_meeting_65 : decode cX12_meeting 65 = .ok (.aload_n 0, 1) := by decide +kernel
theorem dX12_meeting_66 : decode cX12_meeting 66 = .ok (.getfield 155, 3) := by decide +kernel
theorem dX12_meeting_69 : decode cX12_meeting 69 = .ok (.iload_n 2, 1) := by decide +kernel
theorem dX12_meeting_70 : decode cX12_meeting 70 = .ok (.iastore, 1) := by decide +kernel
theorem dX12_meeting_71 : decode cX12_meeting 71 = .ok (.aload_n 0, 1) := by decide +kernel
theorem dX12_meeting_72 : decode cX12_meeting 72 = .ok (.getfield 19, 3) := by decide +kernel
theorem dX12_meeting_75 : decode cX12_meeting 75 = .ok (.aload_n 0, 1) := by decide +kernel
theorem dX12_meeting_76 : decode cX12_meeting 76 = .ok (.getfield 155, 3) := by decide +kernel
theorem dX12_meeting_79 : decode cX12_meeting 79 = .ok (.iload_n 3, 1) := by decide +kernel
theorem dX12_meeting_80 : decode cX12_meeting 80 = .ok (.iastore, 1) := by decide +kernel
theorem dX12_meeting_81 : decode cX12_meeting 81 = .ok (.iconst 0, 1) := by decide +kernel
theorem dX12_meeting_82 : decode cX12_meeting 82 = .ok (.istore 4, 2) := by decide +kernel
theorem dX12_meeting_84 : decode cX12_meeting 84 = .ok (.iload 4, 2) := by decide +kernel
theorem dX12_meeting_86 : decode cX12_meeting 86 = .ok (.bipush 8, 2) := by decide +kernel
theorem dX12_meeting_88 : decode cX12_meeting 88 = .ok (.if_icmp .ge 25, 3) := by decide +kernel
theorem dX12_meeting_91 : decode cX12_meeting 91 = .ok (.aload_n 0, 1) := by decide +kernel
theorem dX12_meeting_92 : decode cX12_meeting 92 = .ok (.getfield 22, 3) := by decide +kernel
theorem dX12_meeting_95 : decode cX12_meeting 95 = .ok (.bipush 8, 2) := by decide +kernel
theorem dX12_meeting_97 : decode cX12_meeting 97 = .ok (.aload_n 0, 1) := by decide +kernel
theorem dX12_meeting_98 : decode cX12_meeting 98 = .ok (.getfield 155, 3) := by decide +kernel
