theorem dX12_goesOver_58 : decode cX12_goesOver 58 = .ok (.iconst 0, 1) := by decide +kernel
theorem dX12_goesOver_59 : decode cX12_goesOver 59 = .ok (.istore 7, 2) := by decide +kernel
theorem dX12_goesOver_61 : decode cX12_goesOver 61 = .ok (.iload 7, 2) := by decide +kernel
theorem dX12_goesOver_63 : decode cX12_goesOver 63 = .ok (.aload_n 0, 1) := by decide +kernel
theorem dX12_goesOver_64 : decode cX12_goesOver 64 = .ok (.getfield 322, 3) := by decide +kernel
theorem dX12_goesOver_67 : decode cX12_goesOver 67 = .ok (.if_icmp .ge 82, 3) := by decide +kernel
theorem dX12_goesOver_70 : decode cX12_goesOver 70 = .ok (.aload_n 0, 1) := by decide +kernel
theorem dX12_goesOver_71 : decode cX12_goesOver 71 = .ok (.getfield 75, 3) := by decide +kernel
theorem dX12_goesOver_74 : decode cX12_goesOver 74 = .ok (.iload 7, 2) := by decide +kernel
theorem dX12_goesOver_76 : decode cX12_goesOver 76 = .ok (.iaload, 1) := by decide +kernel
theorem dX12_goesOver_77 : decode cX12_goesOver 77 = .ok (.ifCond .eq 66, 3) := by decide +kernel
theorem dX12_goesOver_80 : decode cX12_goesOver 80 = .ok (.aload_n 0, 1) := by decide +kernel
theorem dX12_goesOver_81 : decode cX12_goesOver 81 = .ok (.getfield 72, 3) := by decide +kernel
theorem dX12_goesOver_84 : decode cX12_goesOver 84 = .ok (.iload 7, 2) := by decide +kernel
theorem dX12_goesOver_86 : decode cX12_goesOver 86 = .ok (.iaload, 1) := by decide +kernel
theorem dX12_goesOver_87 : decode cX12_goesOver 87 = .ok (.iload 5, 2) := by decide +kernel
theorem dX12_goesOver_89 : decode cX12_goesOver 89 = .ok (.if_icmp .ne 6, 3) := by decide +kernel
theorem dX12_goesOver_92 : decode cX12_goesOver 92 = .ok (.goto 51, 3) := by decide +kernel
theorem dX12_goesOver_95 : decode cX12_goesOver 95 = .ok (.iload_n 3, 1) := by decide +kernel
theorem dX12_goesOver_96 : decode cX12_goesOver 96 = .ok (.iconst 1, 1) := by decide +kernel
theorem dX12_goesOver_97 : decode cX12_goesOver 97 = .ok (.iadd, 1) := by decide +kernel
theorem dX12_goesOver_98 : decode cX12_goesOver 98 = .ok (.istore_n 3, 1) := by decide +kernel
theorem dX12_goesOver_99 : decode cX12_goesOver 99 = .ok (.iload_n 2, 1) := by decide +kernel
theorem dX12_goesOver_100 : decode cX12_goesOver 100 = .ok (.ifCond .eq 43, 3) := by decide +kernel
theorem dX12_goesOver_103 : decode cX12_goesOver 103 = .ok (.aload_n 0, 1) := by decide +kernel
theorem dX12_goesOver_104 : decode cX12_goesOver 104 = .ok (.aload_n 0, 1) := by decide +kernel
theorem dX12_goesOver_105 : decode cX12_goesOver 105 = .ok (.getfield 72, 3) := by decide +kernel
theorem dX12_goesOver_108 : decode cX12_goesOver 108 = .ok (.iload 7, 2) := by decide +kernel
theorem dX12_goesOver_110 : decode cX12_goesOver 110 = .ok (.iaload, 1) := by decide +kernel
theorem dX12_goesOver_111 : decode cX12_goesOver 111 = .ok (.iload 5, 2) := by decide +kernel
theorem dX12_goesOver_113 : decode cX12_goesOver 113 = .ok (.aload_n 0, 1) := by decide +kernel
theorem dX12_goesOver_114 : decode cX12_goesOver 114 = .ok (.getfield 75, 3) := by decide +kernel
theorem dX12_goesOver_117 : decode cX12_goesOver 117 = .ok (.iload 7, 2) := by decide +kernel
theorem dX12_goesOver_119 : decode cX12_goesOver 119 = .ok (.iaload, 1) := by decide +kernel
theorem dX12_goesOver_120 : decode cX12_goesOver 120 = .ok (.aload_n 0, 1) := by decide +kernel
theorem dX12_goesOver_121 : decode cX12_goesOver 121 = .ok (.getfield 165, 3) := by decide +kernel
theorem dX12_goesOver_124 : decode cX12_goesOver 124 = .ok (.iload 6, 2) := by decide +kernel
theorem dX12_goesOver_126 : decode cX12_goesOver 126 = .ok (.ifCond .ne 7, 3) := by decide +kernel
theorem dX12_goesOver_129 : decode cX12_goesOver 129 = .ok (.iconst (-1), 1) := by decide +kernel
theorem dX12_goesOver_130 : decode cX12_goesOver 130 = .ok (.goto 10, 3) := by decide +kernel
theorem dX12_goesOver_133 : decode cX12_goesOver 133 = .ok (.aload_n 0, 1) := by decide +kernel
theorem dX12_goesOver_134 : decode cX12_goesOver 134 = .ok (.getfield 165, 3) := by decide +kernel
theorem dX12_goesOver_137 : decode cX12_goesOver 137 = .ok (.iload 6, 2) := by decide +kernel
theorem dX12_goesOver_139 : decode cX12_goesOver 139 = .ok (.iadd, 1) := by decide +kernel
theorem dX12_goesOver_140 : decode cX12_goesOver 140 = .ok (.invokevirtual 331, 3) := by decide +kernel
theorem dX12_goesOver_143 : decode cX12_goesOver 143 = .ok (.iinc 7 1, 3) := by decide +kernel
theorem dX12_goesOver_146 : decode cX12_goesOver 146 = .ok (.goto (-85), 3) := by decide +kernel
theorem dX12_goesOver_149 : decode cX12_goesOver 149 = .ok (.iinc 5 1, 3) := by decide +kernel
theorem dX12_goesOver_152 : decode cX12_goesOver 152 = .ok (.goto (-137), 3) := by decide +kernel
theorem dX12_goesOver_155 : decode cX12_goesOver 155 = .ok (.iinc 4 1, 3) := by decide +kernel
theorem dX12_goesOver_158 : decode cX12_goesOver 158 = .ok (.goto (-153), 3) := by decide +kernel
theorem dX12_goesOver_161 : decode cX12_goesOver 161 = .ok (.iload_n 3, 1) := by decide +kernel
theorem dX12_goesOver_162 : decode cX12_goesOver 162 = .ok (.ireturn, 1) := by decide +kernel
theorem dX12_settle_0 : decode cX12_settle 0 = .ok (.aload_n 0, 1) := by decide +kernel
theorem dX12_settle_1 : decode cX12_settle 1 = .ok (.iload_n 1, 1) := by decide +kernel
theorem dX12_settle_2 : decode cX12_settle 2 = .ok (.invokevirtual 158, 3) := by decide +kernel
theorem dX12_settle_5 : decode cX12_settle 5 = .ok (.ifCond .eq 33, 3) := by decide +kernel
theorem dX12_settle_8 : decode cX12_settle 8 = .ok (.aload_n 0, 1) := by decide +kernel
theorem dX12_settle_9 : decode cX12_settle 9 = .ok (.iload_n 1, 1) := by decide +kernel
theorem dX12_settle_10 : decode cX12_settle 10 = .ok (.invokevirtual 180, 3) := by decide +kernel
theorem dX12_settle_13 : decode cX12_settle 13 = .ok (.ifCond .eq 25, 3) := by decide +kernel
theorem dX12_settle_16 : decode cX12_settle 16 = .ok (.aload_n 0, 1) := by decide +kernel
theorem dX12_settle_17 : decode cX12_settle 17 = .ok (.getfield 25, 3) := by decide +kernel
theorem dX12_settle_20 : decode cX12_settle 20 = .ok (.iload_n 1, 1) := by decide +kernel
theorem dX12_settle_21 : decode cX12_settle 21 = .ok (.baload, 1) := by decide +kernel
theorem dX12_settle_22 : decode cX12_settle 22 = .ok (.ifCond .ne 16, 3) := by decide +kernel
theorem dX12_settle_25 : decode cX12_settle 25 = .ok (.aload_n 0, 1) := by decide +kernel
theorem dX12_settle_26 : decode cX12_settle 26 = .ok (.getfield 13, 3) := by decide +kernel
theorem dX12_settle_29 : decode cX12_settle 29 = .ok (.iload_n 1, 1) := by decide +kernel
theorem dX12_settle_30 : decode cX12_settle 30 = .ok (.iaload, 1) := by decide +kernel
theorem dX12_settle_31 : decode cX12_settle 31 = .ok (.aload_n 0, 1) := by decide +kernel
theorem dX12_settle_32 : decode cX12_settle 32 = .ok (.getfield 165, 3) := by decide +kernel
theorem dX12_settle_35 : decode cX12_settle 35 = .ok (.if_icmp .le 5, 3) := by decide +kernel
theorem dX12_settle_38 : decode cX12_settle 38 = .ok (.iconst (-1), 1) := by decide +kernel
theorem dX12_settle_39 : decode cX12_settle 39 = .ok (.ireturn, 1) := by decide +kernel
theorem dX12_settle_40 : decode cX12_settle 40 = .ok (.aload_n 0, 1) := by decide +kernel
theorem dX12_settle_41 : decode cX12_settle 41 = .ok (.iload_n 1, 1) := by decide +kernel
theorem dX12_settle_42 : decode cX12_settle 42 = .ok (.iconst 0, 1) := by decide +kernel
theorem dX12_settle_43 : decode cX12_settle 43 = .ok (.invokevirtual 335, 3) := by decide +kernel
theorem dX12_settle_46 : decode cX12_settle 46 = .ok (.istore_n 2, 1) := by decide +kernel
theorem dX12_settle_47 : decode cX12_settle 47 = .ok (.aload_n 0, 1) := by decide +kernel
theorem dX12_settle_48 : decode cX12_settle 48 = .ok (.getfield 328, 3) := by decide +kernel
theorem dX12_settle_51 : decode cX12_settle 51 = .ok (.iload_n 2, 1) := by decide +kernel
theorem dX12_settle_52 : decode cX12_settle 52 = .ok (.iadd, 1) := by decide +kernel
theorem dX12_settle_53 : decode cX12_settle 53 = .ok (.bipush 60, 2) := by decide +kernel
theorem dX12_settle_55 : decode cX12_settle 55 = .ok (.if_icmp .le 6, 3) := by decide +kernel
theorem dX12_settle_58 : decode cX12_settle 58 = .ok (.bipush (-2), 2) := by decide +kernel
theorem dX12_settle_60 : decode cX12_settle 60 = .ok (.ireturn, 1) := by decide +kernel
theorem dX12_settle_61 : decode cX12_settle 61 = .ok (.aload_n 0, 1) := by decide +kernel
theorem dX12_settle_62 : decode cX12_settle 62 = .ok (.iload_n 1, 1) := by decide +kernel
theorem dX12_settle_63 : decode cX12_settle 63 = .ok (.iconst 1, 1) := by decide +kernel
theorem dX12_settle_64 : decode cX12_settle 64 = .ok (.invokevirtual 335, 3) := by decide +kernel
theorem dX12_settle_67 : decode cX12_settle 67 = .ok (.pop, 1) := by decide +kernel
theorem dX12_settle_68 : decode cX12_settle 68 = .ok (.aload_n 0, 1) := by decide +kernel
theorem dX12_settle_69 : decode cX12_settle 69 = .ok (.getfield 25, 3) := by decide +kernel
theorem dX12_settle_72 : decode cX12_settle 72 = .ok (.iload_n 1, 1) := by decide +kernel
theorem dX12_settle_73 : decode cX12_settle 73 = .ok (.iconst 1, 1) := by decide +kernel
theorem dX12_settle_74 : decode cX12_settle 74 = .ok (.bastore, 1) := by decide +kernel
theorem dX12_settle_75 : decode cX12_settle 75 = .ok (.aload_n 0, 1) := by decide +kernel
theorem dX12_settle_76 : decode cX12_settle 76 = .ok (.aload_n 0, 1) := by decide +kernel
theorem dX12_settle_77 : decode cX12_settle 77 = .ok (.getfield 339, 3) := by decide +kernel
theorem dX12_settle_80 : decode cX12_settle 80 = .ok (.iconst 1, 1) := by decide +kernel
theorem dX12_settle_81 : decode cX12_settle 81 = .ok (.iadd, 1) := by decide +kernel
theorem dX12_settle_82 : decode cX12_settle 82 = .ok (.putfield 339, 3) := by decide +kernel
theorem dX12_settle_85 : decode cX12_settle 85 = .ok (.iload_n 2, 1) := by decide +kernel
theorem dX12_settle_86 : decode cX12_settle 86 = .ok (.ireturn, 1) := by decide +kernel
theorem dX12_isNote_0 : decode cX12_isNote 0 = .ok (.iload_n 1, 1) := by decide +kernel
theorem dX12_isNote_1 : decode cX12_isNote 1 = .ok (.ifCond .lt 15, 3) := by decide +kernel
theorem dX12_isNote_4 : decode cX12_isNote 4 = .ok (.iload_n 1, 1) := by decide +kernel
theorem dX12_isNote_5 : decode cX12_isNote 5 = .ok (.aload_n 0, 1) := by decide +kernel
theorem dX12_isNote_6 : decode cX12_isNote 6 = .ok (.getfield 328, 3) := by decide +kernel
theorem dX12_isNote_9 : decode cX12_isNote 9 = .ok (.if_icmp .ge 7, 3) := by decide +kernel
theorem dX12_isNote_12 : decode cX12_isNote 12 = .ok (.iconst 1, 1) := by decide +kernel
theorem dX12_isNote_13 : decode cX12_isNote 13 = .ok (.goto 4, 3) := by decide +kernel
theorem dX12_isNote_16 : decode cX12_isNote 16 = .ok (.iconst 0, 1) := by decide +kernel
theorem dX12_isNote_17 : decode cX12_isNote 17 = .ok (.ireturn, 1) := by decide +kernel
theorem dX12_isLiveOn_0 : decode cX12_isLiveOn 0 = .ok (.aload_n 0, 1) := by decide +kernel
theorem dX12_isLiveOn_1 : decode cX12_isLiveOn 1 = .ok (.getfield 84, 3) := by decide +kernel
theorem dX12_isLiveOn_4 : decode cX12_isLiveOn 4 = .ok (.iload_n 1, 1) := by decide +kernel
theorem dX12_isLiveOn_5 : decode cX12_isLiveOn 5 = .ok (.iaload, 1) := by decide +kernel
theorem dX12_isLiveOn_6 : decode cX12_isLiveOn 6 = .ok (.ifCond .le 27, 3) := by decide +kernel
theorem dX12_isLiveOn_9 : decode cX12_isLiveOn 9 = .ok (.aload_n 0, 1) := by decide +kernel
theorem dX12_isLiveOn_10 : decode cX12_isLiveOn 10 = .ok (.getfield 90, 3) := by decide +kernel
theorem dX12_isLiveOn_13 : decode cX12_isLiveOn 13 = .ok (.iload_n 1, 1) := by decide +kernel
theorem dX12_isLiveOn_14 : decode cX12_isLiveOn 14 = .ok (.iaload, 1) := by decide +kernel
theorem dX12_isLiveOn_15 : decode cX12_isLiveOn 15 = .ok (.iconst (-1), 1) := by decide +kernel
theorem dX12_isLiveOn_16 : decode cX12_isLiveOn 16 = .ok (.if_icmp .eq 13, 3) := by decide +kernel
theorem dX12_isLiveOn_19 : decode cX12_isLiveOn 19 = .ok (.iload_n 2, 1) := by decide +kernel
theorem dX12_isLiveOn_20 : decode cX12_isLiveOn 20 = .ok (.aload_n 0, 1) := by decide +kernel
theorem dX12_isLiveOn_21 : decode cX12_isLiveOn 21 = .ok (.getfield 90, 3) := by decide +kernel
theorem dX12_isLiveOn_24 : decode cX12_isLiveOn 24 = .ok (.iload_n 1, 1) := by decide +kernel
theorem dX12_isLiveOn_25 : decode cX12_isLiveOn 25 = .ok (.iaload, 1) := by decide +kernel
theorem dX12_isLiveOn_26 : decode cX12_isLiveOn 26 = .ok (.if_icmp .ge 7, 3) := by decide +kernel
theorem dX12_isLiveOn_29 : decode cX12_isLiveOn 29 = .ok (.iconst 1, 1) := by decide +kernel
theorem dX12_isLiveOn_30 : decode cX12_isLiveOn 30 = .ok (.goto 4, 3) := by decide +kernel
theorem dX12_isLiveOn_33 : decode cX12_isLiveOn 33 = .ok (.iconst 0, 1) := by decide +kernel
theorem dX12_isLiveOn_34 : decode cX12_isLiveOn 34 = .ok (.ireturn, 1) := by decide +kernel
theorem dX12_isLive_0 : decode cX12_isLive 0 = .ok (.aload_n 0, 1) := by decide +kernel
theorem dX12_isLive_1 : decode cX12_isLive 1 = .ok (.iload_n 1, 1) := by decide +kernel
theorem dX12_isLive_2 : decode cX12_isLive 2 = .ok (.invokevirtual 342, 3) := by decide +kernel
theorem dX12_isLive_5 : decode cX12_isLive 5 = .ok (.ifCond .eq 19, 3) := by decide +kernel
theorem dX12_isLive_8 : decode cX12_isLive 8 = .ok (.aload_n 0, 1) := by decide +kernel
theorem dX12_isLive_9 : decode cX12_isLive 9 = .ok (.iload_n 1, 1) := by decide +kernel
theorem dX12_isLive_10 : decode cX12_isLive 10 = .ok (.aload_n 0, 1) := by decide +kernel
theorem dX12_isLive_11 : decode cX12_isLive 11 = .ok (.getfield 165, 3) := by decide +kernel
theorem dX12_isLive_14 : decode cX12_isLive 14 = .ok (.invokevirtual 345, 3) := by decide +kernel
theorem dX12_isLive_17 : decode cX12_isLive 17 = .ok (.ifCond .eq 7, 3) := by decide +kernel
theorem dX12_isLive_20 : decode cX12_isLive 20 = .ok (.iconst 1, 1) := by decide +kernel
theorem dX12_isLive_21 : decode cX12_isLive 21 = .ok (.goto 4, 3) := by decide +kernel
theorem dX12_isLive_24 : decode cX12_isLive 24 = .ok (.iconst 0, 1) := by decide +kernel
theorem dX12_isLive_25 : decode cX12_isLive 25 = .ok (.ireturn, 1) := by decide +kernel
theorem dX12_noteIs_0 : decode cX12_noteIs 0 = .ok (.aload_n 0, 1) := by decide +kernel
theorem dX12_noteIs_1 : decode cX12_noteIs 1 = .ok (.iload_n 1, 1) := by decide +kernel
theorem dX12_noteIs_2 : decode cX12_noteIs 2 = .ok (.invokevirtual 342, 3) := by decide +kernel
theorem dX12_noteIs_5 : decode cX12_noteIs 5 = .ok (.ifCond .ne 7, 3) := by decide +kernel
theorem dX12_noteIs_8 : decode cX12_noteIs 8 = .ok (.sipush (-1000), 3) := by decide +kernel
theorem dX12_noteIs_11 : decode cX12_noteIs 11 = .ok (.ireturn, 1) := by decide +kernel
theorem dX12_noteIs_12 : decode cX12_noteIs 12 = .ok (.iload_n 2, 1) := by decide +kernel
theorem dX12_noteIs_13 : decode cX12_noteIs 13 = .ok (.tableswitch 88 0 5 #[39, 46, 53, 60, 67, 74], 39) := by decide +kernel
theorem dX12_noteIs_52 : decode cX12_noteIs 52 = .ok (.aload_n 0, 1) := by decide +kernel
theorem dX12_noteIs_53 : decode cX12_noteIs 53 = .ok (.getfield 78, 3) := by decide +kernel
theorem dX12_noteIs_56 : decode cX12_noteIs 56 = .ok (.iload_n 1, 1) := by decide +kernel
theorem dX12_noteIs_57 : decode cX12_noteIs 57 = .ok (.iaload, 1) := by decide +kernel
theorem dX12_noteIs_58 : decode cX12_noteIs 58 = .ok (.ireturn, 1) := by decide +kernel
theorem dX12_noteIs_59 : decode cX12_noteIs 59 = .ok (.aload_n 0, 1) := by decide +kernel
theorem dX12_noteIs_60 : decode cX12_noteIs 60 = .ok (.getfield 81, 3) := by decide +kernel
theorem dX12_noteIs_63 : decode cX12_noteIs 63 = .ok (.iload_n 1, 1) := by decide +kernel
theorem dX12_noteIs_64 : decode cX12_noteIs 64 = .ok (.iaload, 1) := by decide +kernel
theorem dX12_noteIs_65 : decode cX12_noteIs 65 = .ok (.ireturn, 1) := by decide +kernel
theorem dX12_noteIs_66 : decode cX12_noteIs 66 = .ok (.aload_n 0, 1) := by decide +kernel
theorem dX12_noteIs_67 : decode cX12_noteIs 67 = .ok (.getfield 84, 3) := by decide +kernel
theorem dX12_noteIs_70 : decode cX12_noteIs 70 = .ok (.iload_n 1, 1) := by decide +kernel
theorem dX12_noteIs_71 : decode cX12_noteIs 71 = .ok (.iaload, 1) := by decide +kernel
theorem dX12_noteIs_72 : decode cX12_noteIs 72 = .ok (.ireturn, 1) := by decide +kernel
theorem dX12_noteIs_73 : decode cX12_noteIs 73 = .ok (.aload_n 0, 1) := by decide +kernel
theorem dX12_noteIs_74 : decode cX12_noteIs 74 = .ok (.getfield 87, 3) := by decide +kernel
theorem dX12_noteIs_77 : decode cX12_noteIs 77 = .ok (.iload_n 1, 1) := by decide +kernel
theorem dX12_noteIs_78 : decode cX12_noteIs 78 = .ok (.iaload, 1) := by decide +kernel
theorem dX12_noteIs_79 : decode cX12_noteIs 79 = .ok (.ireturn, 1) := by decide +kernel
theorem dX12_noteIs_80 : decode cX12_noteIs 80 = .ok (.aload_n 0, 1) := by decide +kernel
theorem dX12_noteIs_81 : decode cX12_noteIs 81 = .ok (.getfield 90, 3) := by decide +kernel
theorem dX12_noteIs_84 : decode cX12_noteIs 84 = .ok (.iload_n 1, 1) := by decide +kernel
theorem dX12_noteIs_85 : decode cX12_noteIs 85 = .ok (.iaload, 1) := by decide +kernel
theorem dX12_noteIs_86 : decode cX12_noteIs 86 = .ok (.ireturn, 1) := by decide +kernel
theorem dX12_noteIs_87 : decode cX12_noteIs 87 = .ok (.aload_n 0, 1) := by decide +kernel
theorem dX12_noteIs_88 : decode cX12_noteIs 88 = .ok (.iload_n 1, 1) := by decide +kernel
theorem dX12_noteIs_89 : decode cX12_noteIs 89 = .ok (.invokevirtual 348, 3) := by decide +kernel
theorem dX12_noteIs_92 : decode cX12_noteIs 92 = .ok (.ifCond .eq 7, 3) := by decide +kernel
theorem dX12_noteIs_95 : decode cX12_noteIs 95 = .ok (.iconst 1, 1) := by decide +kernel
theorem dX12_noteIs_96 : decode cX12_noteIs 96 = .ok (.goto 4, 3) := by decide +kernel
theorem dX12_noteIs_99 : decode cX12_noteIs 99 = .ok (.iconst 0, 1) := by decide +kernel
theorem dX12_noteIs_100 : decode cX12_noteIs 100 = .ok (.ireturn, 1) := by decide +kernel
theorem dX12_noteIs_101 : decode cX12_noteIs 101 = .ok (.sipush (-1000), 3) := by decide +kernel
theorem dX12_noteIs_104 : decode cX12_noteIs 104 = .ok (.ireturn, 1) := by decide +kernel
theorem dX12_hand_0 : decode cX12_hand 0 = .ok (.aload_n 0, 1) := by decide +kernel
theorem dX12_hand_1 : decode cX12_hand 1 = .ok (.iload_n 1, 1) := by decide +kernel
theorem dX12_hand_2 : decode cX12_hand 2 = .ok (.invokevirtual 348, 3) := by decide +kernel
theorem dX12_hand_5 : decode cX12_hand 5 = .ok (.ifCond .eq 20, 3) := by decide +kernel
theorem dX12_hand_8 : decode cX12_hand 8 = .ok (.iload_n 2, 1) := by decide +kernel
theorem dX12_hand_9 : decode cX12_hand 9 = .ok (.invokestatic 162, 3) := by decide +kernel
theorem dX12_hand_12 : decode cX12_hand 12 = .ok (.ifCond .eq 13, 3) := by decide +kernel
theorem dX12_hand_15 : decode cX12_hand 15 = .ok (.aload_n 0, 1) := by decide +kernel
theorem dX12_hand_16 : decode cX12_hand 16 = .ok (.getfield 81, 3) := by decide +kernel
theorem dX12_hand_19 : decode cX12_hand 19 = .ok (.iload_n 1, 1) := by decide +kernel
theorem dX12_hand_20 : decode cX12_hand 20 = .ok (.iaload, 1) := by decide +kernel
theorem dX12_hand_21 : decode cX12_hand 21 = .ok (.iload_n 2, 1) := by decide +kernel
theorem dX12_hand_22 : decode cX12_hand 22 = .ok (.if_icmp .ne 5, 3) := by decide +kernel
theorem dX12_hand_25 : decode cX12_hand 25 = .ok (.iconst 0, 1) := by decide +kernel
theorem dX12_hand_26 : decode cX12_hand 26 = .ok (.ireturn, 1) := by decide +kernel
theorem dX12_hand_27 : decode cX12_hand 27 = .ok (.aload_n 0, 1) := by decide +kernel
theorem dX12_hand_28 : decode cX12_hand 28 = .ok (.getfield 81, 3) := by decide +kernel
theorem dX12_hand_31 : decode cX12_hand 31 = .ok (.iload_n 1, 1) := by decide +kernel
theorem dX12_hand_32 : decode cX12_hand 32 = .ok (.iload_n 2, 1) := by decide +kernel
theorem dX12_hand_33 : decode cX12_hand 33 = .ok (.iastore, 1) := by decide +kernel
theorem dX12_hand_34 : decode cX12_hand 34 = .ok (.aload_n 0, 1) := by decide +kernel
theorem dX12_hand_35 : decode cX12_hand 35 = .ok (.getfield 84, 3) := by decide +kernel
theorem dX12_hand_38 : decode cX12_hand 38 = .ok (.iload_n 1, 1) := by decide +kernel
theorem dX12_hand_39 : decode cX12_hand 39 = .ok (.aload_n 0, 1) := by decide +kernel
theorem dX12_hand_40 : decode cX12_hand 40 = .ok (.getfield 78, 3) := by decide +kernel
theorem dX12_hand_43 : decode cX12_hand 43 = .ok (.iload_n 1, 1) := by decide +kernel
theorem dX12_hand_44 : decode cX12_hand 44 = .ok (.iaload, 1) := by decide +kernel
theorem dX12_hand_45 : decode cX12_hand 45 = .ok (.iload_n 2, 1) := by decide +kernel
theorem dX12_hand_46 : decode cX12_hand 46 = .ok (.if_icmp .ne 7, 3) := by decide +kernel
theorem dX12_hand_49 : decode cX12_hand 49 = .ok (.iconst 0, 1) := by decide +kernel
theorem dX12_hand_50 : decode cX12_hand 50 = .ok (.goto 9, 3) := by decide +kernel
theorem dX12_hand_53 : decode cX12_hand 53 = .ok (.aload_n 0, 1) := by decide +kernel
theorem dX12_hand_54 : decode cX12_hand 54 = .ok (.getfield 84, 3) := by decide +kernel
theorem dX12_hand_57 : decode cX12_hand 57 = .ok (.iload_n 1, 1) := by decide +kernel
theorem dX12_hand_58 : decode cX12_hand 58 = .ok (.iaload, 1) := by decide +kernel
theorem dX12_hand_59 : decode cX12_hand 59 = .ok (.iastore, 1) := by decide +kernel
theorem dX12_hand_60 : decode cX12_hand 60 = .ok (.iconst 1, 1) := by decide +kernel
theorem dX12_hand_61 : decode cX12_hand 61 = .ok (.ireturn, 1) := by decide +kernel
theorem dX12_cut_0 : decode cX12_cut 0 = .ok (.aload_n 0, 1) := by decide +kernel
theorem dX12_cut_1 : decode cX12_cut 1 = .ok (.iload_n 1, 1) := by decide +kernel
theorem dX12_cut_2 : decode cX12_cut 2 = .ok (.invokevirtual 348, 3) := by decide +kernel
theorem dX12_cut_5 : decode cX12_cut 5 = .ok (.ifCond .eq 27, 3) := by decide +kernel
theorem dX12_cut_8 : decode cX12_cut 8 = .ok (.iload_n 2, 1) := by decide +kernel
theorem dX12_cut_9 : decode cX12_cut 9 = .ok (.iconst 1, 1) := by decide +kernel
theorem dX12_cut_10 : decode cX12_cut 10 = .ok (.if_icmp .lt 22, 3) := by decide +kernel
theorem dX12_cut_13 : decode cX12_cut 13 = .ok (.aload_n 0, 1) := by decide +kernel
theorem dX12_cut_14 : decode cX12_cut 14 = .ok (.getfield 84, 3) := by decide +kernel
theorem dX12_cut_17 : decode cX12_cut 17 = .ok (.iload_n 1, 1) := by decide +kernel
theorem dX12_cut_18 : decode cX12_cut 18 = .ok (.iaload, 1) := by decide +kernel
theorem dX12_cut_19 : decode cX12_cut 19 = .ok (.iload_n 2, 1) := by decide +kernel
theorem dX12_cut_20 : decode cX12_cut 20 = .ok (.if_icmp .le 12, 3) := by decide +kernel
theorem dX12_cut_23 : decode cX12_cut 23 = .ok (.aload_n 0, 1) := by decide +kernel
theorem dX12_cut_24 : decode cX12_cut 24 = .ok (.getfield 328, 3) := by decide +kernel
theorem dX12_cut_27 : decode cX12_cut 27 = .ok (.bipush 60, 2) := by decide +kernel
theorem dX12_cut_29 : decode cX12_cut 29 = .ok (.if_icmp .ne 5, 3) := by decide +kernel
theorem dX12_cut_32 : decode cX12_cut 32 = .ok (.iconst (-1), 1) := by decide +kernel
theorem dX12_cut_33 : decode cX12_cut 33 = .ok (.ireturn, 1) := by decide +kernel
theorem dX12_cut_34 : decode cX12_cut 34 = .ok (.aload_n 0, 1) := by decide +kernel
theorem dX12_cut_35 : decode cX12_cut 35 = .ok (.getfield 84, 3) := by decide +kernel
theorem dX12_cut_38 : decode cX12_cut 38 = .ok (.iload_n 1, 1) := by decide +kernel
theorem dX12_cut_39 : decode cX12_cut 39 = .ok (.aload_n 0, 1) := by decide +kernel
theorem dX12_cut_40 : decode cX12_cut 40 = .ok (.getfield 84, 3) := by decide +kernel
theorem dX12_cut_43 : decode cX12_cut 43 = .ok (.iload_n 1, 1) := by decide +kernel
theorem dX12_cut_44 : decode cX12_cut 44 = .ok (.iaload, 1) := by decide +kernel
theorem dX12_cut_45 : decode cX12_cut 45 = .ok (.iload_n 2, 1) := by decide +kernel
theorem dX12_cut_46 : decode cX12_cut 46 = .ok (.isub, 1) := by decide +kernel
theorem dX12_cut_47 : decode cX12_cut 47 = .ok (.iastore, 1) := by decide +kernel
theorem dX12_cut_48 : decode cX12_cut 48 = .ok (.aload_n 0, 1) := by decide +kernel
theorem dX12_cut_49 : decode cX12_cut 49 = .ok (.aload_n 0, 1) := by decide +kernel
theorem dX12_cut_50 : decode cX12_cut 50 = .ok (.getfield 78, 3) := by decide +kernel
theorem dX12_cut_53 : decode cX12_cut 53 = .ok (.iload_n 1, 1) := by decide +kernel
theorem dX12_cut_54 : decode cX12_cut 54 = .ok (.iaload, 1) := by decide +kernel
theorem dX12_cut_55 : decode cX12_cut 55 = .ok (.aload_n 0, 1) := by decide +kernel
theorem dX12_cut_56 : decode cX12_cut 56 = .ok (.getfield 81, 3) := by decide +kernel
theorem dX12_cut_59 : decode cX12_cut 59 = .ok (.iload_n 1, 1) := by decide +kernel
theorem dX12_cut_60 : decode cX12_cut 60 = .ok (.iaload, 1) := by decide +kernel
theorem dX12_cut_61 : decode cX12_cut 61 = .ok (.iload_n 2, 1) := by decide +kernel
theorem dX12_cut_62 : decode cX12_cut 62 = .ok (.aload_n 0, 1) := by decide +kernel
theorem dX12_cut_63 : decode cX12_cut 63 = .ok (.getfield 87, 3) := by decide +kernel
theorem dX12_cut_66 : decode cX12_cut 66 = .ok (.iload_n 1, 1) := by decide +kernel
theorem dX12_cut_67 : decode cX12_cut 67 = .ok (.iaload, 1) := by decide +kernel
theorem dX12_cut_68 : decode cX12_cut 68 = .ok (.aload_n 0, 1) := by decide +kernel
theorem dX12_cut_69 : decode cX12_cut 69 = .ok (.getfield 90, 3) := by decide +kernel
theorem dX12_cut_72 : decode cX12_cut 72 = .ok (.iload_n 1, 1) := by decide +kernel
theorem dX12_cut_73 : decode cX12_cut 73 = .ok (.iaload, 1) := by decide +kernel
theorem dX12_cut_74 : decode cX12_cut 74 = .ok (.invokevirtual 331, 3) := by decide +kernel
theorem dX12_cut_77 : decode cX12_cut 77 = .ok (.aload_n 0, 1) := by decide +kernel
theorem dX12_cut_78 : decode cX12_cut 78 = .ok (.getfield 328, 3) := by decide +kernel
theorem dX12_cut_81 : decode cX12_cut 81 = .ok (.iconst 1, 1) := by decide +kernel
theorem dX12_cut_82 : decode cX12_cut 82 = .ok (.isub, 1) := by decide +kernel
theorem dX12_cut_83 : decode cX12_cut 83 = .ok (.ireturn, 1) := by decide +kernel
theorem dX12_take_0 : decode cX12_take 0 = .ok (.aload_n 0, 1) := by decide +kernel
theorem dX12_take_1 : decode cX12_take 1 = .ok (.iload_n 1, 1) := by decide +kernel
theorem dX12_take_2 : decode cX12_take 2 = .ok (.invokevirtual 348, 3) := by decide +kernel
theorem dX12_take_5 : decode cX12_take 5 = .ok (.ifCond .eq 33, 3) := by decide +kernel
theorem dX12_take_8 : decode cX12_take 8 = .ok (.iload_n 2, 1) := by decide +kernel
theorem dX12_take_9 : decode cX12_take 9 = .ok (.iconst 1, 1) := by decide +kernel
theorem dX12_take_10 : decode cX12_take 10 = .ok (.bipush 60, 2) := by decide +kernel
theorem dX12_take_12 : decode cX12_take 12 = .ok (.invokestatic 168, 3) := by decide +kernel
theorem dX12_take_15 : decode cX12_take 15 = .ok (.ifCond .eq 23, 3) := by decide +kernel
theorem dX12_take_18 : decode cX12_take 18 = .ok (.aload_n 0, 1) := by decide +kernel
theorem dX12_take_19 : decode cX12_take 19 = .ok (.getfield 84, 3) := by decide +kernel
theorem dX12_take_22 : decode cX12_take 22 = .ok (.iload_n 1, 1) := by decide +kernel
theorem dX12_take_23 : decode cX12_take 23 = .ok (.iaload, 1) := by decide +kernel
theorem dX12_take_24 : decode cX12_take 24 = .ok (.iload_n 2, 1) := by decide +kernel
theorem dX12_take_25 : decode cX12_take 25 = .ok (.if_icmp .lt 13, 3) := by decide +kernel
theorem dX12_take_28 : decode cX12_take 28 = .ok (.iload_n 3, 1) := by decide +kernel
theorem dX12_take_29 : decode cX12_take 29 = .ok (.iconst 0, 1) := by decide +kernel
theorem dX12_take_30 : decode cX12_take 30 = .ok (.bipush 23, 2) := by decide +kernel
theorem dX12_take_32 : decode cX12_take 32 = .ok (.invokestatic 168, 3) := by decide +kernel
theorem dX12_take_35 : decode cX12_take 35 = .ok (.ifCond .ne 5, 3) := by decide +kernel
theorem dX12_take_38 : decode cX12_take 38 = .ok (.iconst (-1), 1) := by decide +kernel
theorem dX12_take_39 : decode cX12_take 39 = .ok (.ireturn, 1) := by decide +kernel
theorem dX12_take_40 : decode cX12_take 40 = .ok (.bipush 24, 2) := by decide +kernel
theorem dX12_take_42 : decode cX12_take 42 = .ok (.aload_n 0, 1) := by decide +kernel
theorem dX12_take_43 : decode cX12_take 43 = .ok (.getfield 78, 3) := by decide +kernel
theorem dX12_take_46 : decode cX12_take 46 = .ok (.iload_n 1, 1) := by decide +kernel
theorem dX12_take_47 : decode cX12_take 47 = .ok (.iaload, 1) := by decide +kernel
theorem dX12_take_48 : decode cX12_take 48 = .ok (.imul, 1) := by decide +kernel
theorem dX12_take_49 : decode cX12_take 49 = .ok (.iload_n 3, 1) := by decide +kernel
theorem dX12_take_50 : decode cX12_take 50 = .ok (.iadd, 1) := by decide +kernel
theorem dX12_take_51 : decode cX12_take 51 = .ok (.istore 4, 2) := by decide +kernel
theorem dX12_take_53 : decode cX12_take 53 = .ok (.bipush 24, 2) := by decide +kernel
theorem dX12_take_55 : decode cX12_take 55 = .ok (.aload_n 0, 1) := by decide +kernel
theorem dX12_take_56 : decode cX12_take 56 = .ok (.getfield 81, 3) := by decide +kernel
theorem dX12_take_59 : decode cX12_take 59 = .ok (.iload_n 1, 1) := by decide +kernel
theorem dX12_take_60 : decode cX12_take 60 = .ok (.iaload, 1) := by decide +kernel
theorem dX12_take_61 : decode cX12_take 61 = .ok (.imul, 1) := by decide +kernel
theorem dX12_take_62 : decode cX12_take 62 = .ok (.iload_n 3, 1) := by decide +kernel
theorem dX12_take_63 : decode cX12_take 63 = .ok (.iadd, 1) := by decide +kernel
theorem dX12_take_64 : decode cX12_take 64 = .ok (.istore 5, 2) := by decide +kernel
theorem dX12_take_66 : decode cX12_take 66 = .ok (.aload_n 0, 1) := by decide +kernel
theorem dX12_take_67 : decode cX12_take 67 = .ok (.getfield 96, 3) := by decide +kernel
theorem dX12_take_70 : decode cX12_take 70 = .ok (.iload 4, 2) := by decide +kernel
theorem dX12_take_72 : decode cX12_take 72 = .ok (.iaload, 1) := by decide +kernel
theorem dX12_take_73 : decode cX12_take 73 = .ok (.iload_n 2, 1) := by decide +kernel
theorem dX12_take_74 : decode cX12_take 74 = .ok (.iadd, 1) := by decide +kernel
theorem dX12_take_75 : decode cX12_take 75 = .ok (.bipush 60, 2) := by decide +kernel
theorem dX12_take_77 : decode cX12_take 77 = .ok (.if_icmp .gt 17, 3) := by decide +kernel
theorem dX12_take_80 : decode cX12_take 80 = .ok (.aload_n 0, 1) := by decide +kernel
theorem dX12_take_81 : decode cX12_take 81 = .ok (.getfield 93, 3) := by decide +kernel
theorem dX12_take_84 : decode cX12_take 84 = .ok (.iload 5, 2) := by decide +kernel
theorem dX12_take_86 : decode cX12_take 86 = .ok (.iaload, 1) := by decide +kernel
theorem dX12_take_87 : decode cX12_take 87 = .ok (.iload_n 2, 1) := by decide +kernel
theorem dX12_take_88 : decode cX12_take 88 = .ok (.iadd, 1) := by decide +kernel
theorem dX12_take_89 : decode cX12_take 89 = .ok (.bipush 60, 2) := by decide +kernel
theorem dX12_take_91 : decode cX12_take 91 = .ok (.if_icmp .le 5, 3) := by decide +kernel
theorem dX12_take_94 : decode cX12_take 94 = .ok (.iconst (-1), 1) := by decide +kernel
theorem dX12_take_95 : decode cX12_take 95 = .ok (.ireturn, 1) := by decide +kernel
theorem dX12_take_96 : decode cX12_take 96 = .ok (.aload_n 0, 1) := by decide +kernel
theorem dX12_take_97 : decode cX12_take 97 = .ok (.getfield 96, 3) := by decide +kernel
theorem dX12_take_100 : decode cX12_take 100 = .ok (.iload 4, 2) := by decide +kernel
theorem dX12_take_102 : decode cX12_take 102 = .ok (.aload_n 0, 1) := by decide +kernel
theorem dX12_take_103 : decode cX12_take 103 = .ok (.getfield 96, 3) := by decide +kernel
theorem dX12_take_106 : decode cX12_take 106 = .ok (.iload 4, 2) := by decide +kernel
theorem dX12_take_108 : decode cX12_take 108 = .ok (.iaload, 1) := by decide +kernel
theorem dX12_take_109 : decode cX12_take 109 = .ok (.iload_n 2, 1) := by decide +kernel
theorem dX12_take_110 : decode cX12_take 110 = .ok (.iadd, 1) := by decide +kernel
theorem dX12_take_111 : decode cX12_take 111 = .ok (.iastore, 1) := by decide +kernel
theorem dX12_take_112 : decode cX12_take 112 = .ok (.aload_n 0, 1) := by decide +kernel
theorem dX12_take_113 : decode cX12_take 113 = .ok (.getfield 93, 3) := by decide +kernel
theorem dX12_take_116 : decode cX12_take 116 = .ok (.iload 5, 2) := by decide +kernel
theorem dX12_take_118 : decode cX12_take 118 = .ok (.aload_n 0, 1) := by decide +kernel
theorem dX12_take_119 : decode cX12_take 119 = .ok (.getfield 93, 3) := by decide +kernel
theorem dX12_take_122 : decode cX12_take 122 = .ok (.iload 5, 2) := by decide +kernel
theorem dX12_take_124 : decode cX12_take 124 = .ok (.iaload, 1) := by decide +kernel
theorem dX12_take_125 : decode cX12_take 125 = .ok (.iload_n 2, 1) := by decide +kernel
theorem dX12_take_126 : decode cX12_take 126 = .ok (.iadd, 1) := by decide +kernel
theorem dX12_take_127 : decode cX12_take 127 = .ok (.iastore, 1) := by decide +kernel
theorem dX12_take_128 : decode cX12_take 128 = .ok (.aload_n 0, 1) := by decide +kernel
theorem dX12_take_129 : decode cX12_take 129 = .ok (.getfield 84, 3) := by decide +kernel
theorem dX12_take_132 : decode cX12_take 132 = .ok (.iload_n 1, 1) := by decide +kernel
theorem dX12_take_133 : decode cX12_take 133 = .ok (.aload_n 0, 1) := by decide +kernel
theorem dX12_take_134 : decode cX12_take 134 = .ok (.getfield 84, 3) := by decide +kernel
theorem dX12_take_137 : decode cX12_take 137 = .ok (.iload_n 1, 1) := by decide +kernel
theorem dX12_take_138 : decode cX12_take 138 = .ok (.iaload, 1) := by decide +kernel
theorem dX12_take_139 : decode cX12_take 139 = .ok (.iload_n 2, 1) := by decide +kernel
theorem dX12_take_140 : decode cX12_take 140 = .ok (.isub, 1) := by decide +kernel
theorem dX12_take_141 : decode cX12_take 141 = .ok (.iastore, 1) := by decide +kernel
theorem dX12_take_142 : decode cX12_take 142 = .ok (.aload_n 0, 1) := by decide +kernel
theorem dX12_take_143 : decode cX12_take 143 = .ok (.getfield 84, 3) := by decide +kernel
theorem dX12_take_146 : decode cX12_take 146 = .ok (.iload_n 1, 1) := by decide +kernel
theorem dX12_take_147 : decode cX12_take 147 = .ok (.iaload, 1) := by decide +kernel
theorem dX12_take_148 : decode cX12_take 148 = .ok (.ireturn, 1) := by decide +kernel
theorem dX12_owed_0 : decode cX12_owed 0 = .ok (.iload_n 1, 1) := by decide +kernel
theorem dX12_owed_1 : decode cX12_owed 1 = .ok (.iconst (-1), 1) := by decide +kernel
theorem dX12_owed_2 : decode cX12_owed 2 = .ok (.if_icmp .eq 10, 3) := by decide +kernel
theorem dX12_owed_5 : decode cX12_owed 5 = .ok (.iload_n 1, 1) := by decide +kernel
theorem dX12_owed_6 : decode cX12_owed 6 = .ok (.invokestatic 162, 3) := by decide +kernel
theorem dX12_owed_9 : decode cX12_owed 9 = .ok (.ifCond .eq 25, 3) := by decide +kernel
theorem dX12_owed_12 : decode cX12_owed 12 = .ok (.iload_n 2, 1) := by decide +kernel
theorem dX12_owed_13 : decode cX12_owed 13 = .ok (.iconst (-1), 1) := by decide +kernel
theorem dX12_owed_14 : decode cX12_owed 14 = .ok (.if_icmp .eq 10, 3) := by decide +kernel
theorem dX12_owed_17 : decode cX12_owed 17 = .ok (.iload_n 2, 1) := by decide +kernel
theorem dX12_owed_18 : decode cX12_owed 18 = .ok (.invokestatic 162, 3) := by decide +kernel
theorem dX12_owed_21 : decode cX12_owed 21 = .ok (.ifCond .eq 13, 3) := by decide +kernel
theorem dX12_owed_24 : decode cX12_owed 24 = .ok (.iload_n 1, 1) := by decide +kernel
theorem dX12_owed_25 : decode cX12_owed 25 = .ok (.iconst (-1), 1) := by decide +kernel
theorem dX12_owed_26 : decode cX12_owed 26 = .ok (.if_icmp .eq 10, 3) := by decide +kernel
theorem dX12_owed_29 : decode cX12_owed 29 = .ok (.iload_n 1, 1) := by decide +kernel
theorem dX12_owed_30 : decode cX12_owed 30 = .ok (.iload_n 2, 1) := by decide +kernel
theorem dX12_owed_31 : decode cX12_owed 31 = .ok (.if_icmp .ne 5, 3) := by decide +kernel
theorem dX12_owed_34 : decode cX12_owed 34 = .ok (.iconst (-1), 1) := by decide +kernel
theorem dX12_owed_35 : decode cX12_owed 35 = .ok (.ireturn, 1) := by decide +kernel
theorem dX12_owed_36 : decode cX12_owed 36 = .ok (.iconst 0, 1) := by decide +kernel
theorem dX12_owed_37 : decode cX12_owed 37 = .ok (.istore_n 3, 1) := by decide +kernel
theorem dX12_owed_38 : decode cX12_owed 38 = .ok (.iconst 0, 1) := by decide +kernel
theorem dX12_owed_39 : decode cX12_owed 39 = .ok (.istore 4, 2) := by decide +kernel
theorem dX12_owed_41 : decode cX12_owed 41 = .ok (.iload 4, 2) := by decide +kernel
theorem dX12_owed_43 : decode cX12_owed 43 = .ok (.aload_n 0, 1) := by decide +kernel
theorem dX12_owed_44 : decode cX12_owed 44 = .ok (.getfield 328, 3) := by decide +kernel
theorem dX12_owed_47 : decode cX12_owed 47 = .ok (.if_icmp .ge 64, 3) := by decide +kernel
theorem dX12_owed_50 : decode cX12_owed 50 = .ok (.iload_n 3, 1) := by decide +kernel
theorem dX12_owed_51 : decode cX12_owed 51 = .ok (.aload_n 0, 1) := by decide +kernel
theorem dX12_owed_52 : decode cX12_owed 52 = .ok (.iload 4, 2) := by decide +kernel
theorem dX12_owed_54 : decode cX12_owed 54 = .ok (.invokevirtual 348, 3) := by decide +kernel
theorem dX12_owed_57 : decode cX12_owed 57 = .ok (.ifCond .eq 45, 3) := by decide +kernel
theorem dX12_owed_60 : decode cX12_owed 60 = .ok (.iload_n 1, 1) := by decide +kernel
theorem dX12_owed_61 : decode cX12_owed 61 = .ok (.iconst (-1), 1) := by decide +kernel
theorem dX12_owed_62 : decode cX12_owed 62 = .ok (.if_icmp .eq 14, 3) := by decide +kernel
theorem dX12_owed_65 : decode cX12_owed 65 = .ok (.aload_n 0, 1) := by decide +kernel
theorem dX12_owed_66 : decode cX12_owed 66 = .ok (.getfield 78, 3) := by decide +kernel
theorem dX12_owed_69 : decode cX12_owed 69 = .ok (.iload 4, 2) := by decide +kernel
theorem dX12_owed_71 : decode cX12_owed 71 = .ok (.iaload, 1) := by decide +kernel
theorem dX12_owed_72 : decode cX12_owed 72 = .ok (.iload_n 1, 1) := by decide +kernel
theorem dX12_owed_73 : decode cX12_owed 73 = .ok (.if_icmp .ne 29, 3) := by decide +kernel
theorem dX12_owed_76 : decode cX12_owed 76 = .ok (.iload_n 2, 1) := by decide +kernel
theorem dX12_owed_77 : decode cX12_owed 77 = .ok (.iconst (-1), 1) := by decide +kernel
theorem dX12_owed_78 : decode cX12_owed 78 = .ok (.if_icmp .eq 14, 3) := by decide +kernel
theorem dX12_owed_81 : decode cX12_owed 81 = .ok (.aload_n 0, 1) := by decide +kernel
theorem dX12_owed_82 : decode cX12_owed 82 = .ok (.getfield 81, 3) := by decide +kernel
theorem dX12_owed_85 : decode cX12_owed 85 = .ok (.iload 4, 2) := by decide +kernel
theorem dX12_owed_87 : decode cX12_owed 87 = .ok (.iaload, 1) := by decide +kernel
theorem dX12_owed_88 : decode cX12_owed 88 = .ok (.iload_n 2, 1) := by decide +kernel
theorem dX12_owed_89 : decode cX12_owed 89 = .ok (.if_icmp .ne 13, 3) := by decide +kernel
theorem dX12_owed_92 : decode cX12_owed 92 = .ok (.aload_n 0, 1) := by decide +kernel
theorem dX12_owed_93 : decode cX12_owed 93 = .ok (.getfield 84, 3) := by decide +kernel
theorem dX12_owed_96 : decode cX12_owed 96 = .ok (.iload 4, 2) := by decide +kernel
theorem dX12_owed_98 : decode cX12_owed 98 = .ok (.iaload, 1) := by decide +kernel
theorem dX12_owed_99 : decode cX12_owed 99 = .ok (.goto 4, 3) := by decide +kernel
theorem dX12_owed_102 : decode cX12_owed 102 = .ok (.iconst 0, 1) := by decide +kernel
theorem dX12_owed_103 : decode cX12_owed 103 = .ok (.iadd, 1) := by decide +kernel
theorem dX12_owed_104 : decode cX12_owed 104 = .ok (.istore_n 3, 1) := by decide +kernel
theorem dX12_owed_105 : decode cX12_owed 105 = .ok (.iinc 4 1, 3) := by decide +kernel
theorem dX12_owed_108 : decode cX12_owed 108 = .ok (.goto (-67), 3) := by decide +kernel
theorem dX12_owed_111 : decode cX12_owed 111 = .ok (.iload_n 3, 1) := by decide +kernel
theorem dX12_owed_112 : decode cX12_owed 112 = .ok (.ireturn, 1) := by decide +kernel
theorem dX12_dearest_0 : decode cX12_dearest 0 = .ok (.iconst (-1), 1) := by decide +kernel
theorem dX12_dearest_1 : decode cX12_dearest 1 = .ok (.istore_n 3, 1) := by decide +kernel
theorem dX12_dearest_2 : decode cX12_dearest 2 = .ok (.iconst 0, 1) := by decide +kernel
theorem dX12_dearest_3 : decode cX12_dearest 3 = .ok (.istore 4, 2) := by decide +kernel
theorem dX12_dearest_5 : decode cX12_dearest 5 = .ok (.iload 4, 2) := by decide +kernel
theorem dX12_dearest_7 : decode cX12_dearest 7 = .ok (.bipush 24, 2) := by decide +kernel
theorem dX12_dearest_9 : decode cX12_dearest 9 = .ok (.iload_n 2, 1) := by decide +kernel
theorem dX12_dearest_10 : decode cX12_dearest 10 = .ok (.imul, 1) := by decide +kernel
theorem dX12_dearest_11 : decode cX12_dearest 11 = .ok (.if_icmp .ge 59, 3) := by decide +kernel
theorem dX12_dearest_14 : decode cX12_dearest 14 = .ok (.aload_n 0, 1) := by decide +kernel
theorem dX12_dearest_15 : decode cX12_dearest 15 = .ok (.getfield 102, 3) := by decide +kernel
theorem dX12_dearest_18 : decode cX12_dearest 18 = .ok (.iload 4, 2) := by decide +kernel
theorem dX12_dearest_20 : decode cX12_dearest 20 = .ok (.baload, 1) := by decide +kernel
theorem dX12_dearest_21 : decode cX12_dearest 21 = .ok (.ifCond .ne 43, 3) := by decide +kernel
theorem dX12_dearest_24 : decode cX12_dearest 24 = .ok (.iload_n 3, 1) := by decide +kernel
theorem dX12_dearest_25 : decode cX12_dearest 25 = .ok (.iconst (-1), 1) := by decide +kernel
theorem dX12_dearest_26 : decode cX12_dearest 26 = .ok (.if_icmp .eq 35, 3) := by decide +kernel
theorem dX12_dearest_29 : decode cX12_dearest 29 = .ok (.aload_n 0, 1) := by decide +kernel
theorem dX12_dearest_30 : decode cX12_dearest 30 = .ok (.getfield 7, 3) := by decide +kernel
theorem dX12_dearest_33 : decode cX12_dearest 33 = .ok (.bipush 24, 2) := by decide +kernel
theorem dX12_dearest_35 : decode cX12_dearest 35 = .ok (.iload_n 1, 1) := by decide +kernel
theorem dX12_dearest_36 : decode cX12_dearest 36 = .ok (.imul, 1) := by decide +kernel
theorem dX12_dearest_37 : decode cX12_dearest 37 = .ok (.iload 4, 2) := by decide +kernel
theorem dX12_dearest_39 : decode cX12_dearest 39 = .ok (.bipush 24, 2) := by decide +kernel
theorem dX12_dearest_41 : decode cX12_dearest 41 = .ok (.irem, 1) := by decide +kernel
theorem dX12_dearest_42 : decode cX12_dearest 42 = .ok (.iadd, 1) := by decide +kernel
theorem dX12_dearest_43 : decode cX12_dearest 43 = .ok (.iaload, 1) := by decide +kernel
theorem dX12_dearest_44 : decode cX12_dearest 44 = .ok (.aload_n 0, 1) := by decide +kernel
theorem dX12_dearest_45 : decode cX12_dearest 45 = .ok (.getfield 7, 3) := by decide +kernel
theorem dX12_dearest_48 : decode cX12_dearest 48 = .ok (.bipush 24, 2) := by decide +kernel
theorem dX12_dearest_50 : decode cX12_dearest 50 = .ok (.iload_n 1, 1) := by decide +kernel
theorem dX12_dearest_51 : decode cX12_dearest 51 = .ok (.imul, 1) := by decide +kernel
theorem dX12_dearest_52 : decode cX12_dearest 52 = .ok (.iload_n 3, 1) := by decide +kernel
theorem dX12_dearest_53 : decode cX12_dearest 53 = .ok (.bipush 24, 2) := by decide +kernel
theorem dX12_dearest_55 : decode cX12_dearest 55 = .ok (.irem, 1) := by decide +kernel
theorem dX12_dearest_56 : decode cX12_dearest 56 = .ok (.iadd, 1) := by decide +kernel
theorem dX12_dearest_57 : decode cX12_dearest 57 = .ok (.iaload, 1) := by decide +kernel
theorem dX12_dearest_58 : decode cX12_dearest 58 = .ok (.if_icmp .le 6, 3) := by decide +kernel
theorem dX12_dearest_61 : decode cX12_dearest 61 = .ok (.iload 4, 2) := by decide +kernel
theorem dX12_dearest_63 : decode cX12_dearest 63 = .ok (.istore_n 3, 1) := by decide +kernel
theorem dX12_dearest_64 : decode cX12_dearest 64 = .ok (.iinc 4 1, 3) := by decide +kernel
theorem dX12_dearest_67 : decode cX12_dearest 67 = .ok (.goto (-62), 3) := by decide +kernel
theorem dX12_dearest_70 : decode cX12_dearest 70 = .ok (.iload_n 3, 1) := by decide +kernel
theorem dX12_dearest_71 : decode cX12_dearest 71 = .ok (.ireturn, 1) := by decide +kernel
theorem dX12_called_0 : decode cX12_called 0 = .ok (.iload_n 1, 1) := by decide +kernel
theorem dX12_called_1 : decode cX12_called 1 = .ok (.invokestatic 162, 3) := by decide +kernel
theorem dX12_called_4 : decode cX12_called 4 = .ok (.ifCond .eq 13, 3) := by decide +kernel
theorem dX12_called_7 : decode cX12_called 7 = .ok (.iload_n 2, 1) := by decide +kernel
theorem dX12_called_8 : decode cX12_called 8 = .ok (.iconst 0, 1) := by decide +kernel
theorem dX12_called_9 : decode cX12_called 9 = .ok (.bipush 6, 2) := by decide +kernel
theorem dX12_called_11 : decode cX12_called 11 = .ok (.invokestatic 168, 3) := by decide +kernel
theorem dX12_called_14 : decode cX12_called 14 = .ok (.ifCond .ne 7, 3) := by decide +kernel
theorem dX12_called_17 : decode cX12_called 17 = .ok (.ldc2_w 351, 3) := by decide +kernel
theorem dX12_called_20 : decode cX12_called 20 = .ok (.lreturn, 1) := by decide +kernel
theorem dX12_called_21 : decode cX12_called 21 = .ok (.aload_n 0, 1) := by decide +kernel
theorem dX12_called_22 : decode cX12_called 22 = .ok (.getfield 165, 3) := by decide +kernel
theorem dX12_called_25 : decode cX12_called 25 = .ok (.iload_n 2, 1) := by decide +kernel
theorem dX12_called_26 : decode cX12_called 26 = .ok (.iadd, 1) := by decide +kernel
theorem dX12_called_27 : decode cX12_called 27 = .ok (.bipush 99, 2) := by decide +kernel
theorem dX12_called_29 : decode cX12_called 29 = .ok (.if_icmp .le 15, 3) := by decide +kernel
theorem dX12_called_32 : decode cX12_called 32 = .ok (.bipush 99, 2) := by decide +kernel
theorem dX12_called_34 : decode cX12_called 34 = .ok (.aload_n 0, 1) := by decide +kernel
theorem dX12_called_35 : decode cX12_called 35 = .ok (.getfield 165, 3) := by decide +kernel
theorem dX12_called_38 : decode cX12_called 38 = .ok (.isub, 1) := by decide +kernel
theorem dX12_called_39 : decode cX12_called 39 = .ok (.iconst 1, 1) := by decide +kernel
theorem dX12_called_40 : decode cX12_called 40 = .ok (.iadd, 1) := by decide +kernel
theorem dX12_called_41 : decode cX12_called 41 = .ok (.goto 6, 3) := by decide +kernel
theorem dX12_called_44 : decode cX12_called 44 = .ok (.iload_n 2, 1) := by decide +kernel
theorem dX12_called_45 : decode cX12_called 45 = .ok (.iconst 1, 1) := by decide +kernel
theorem dX12_called_46 : decode cX12_called 46 = .ok (.iadd, 1) := by decide +kernel
theorem dX12_called_47 : decode cX12_called 47 = .ok (.istore_n 3, 1) := by decide +kernel
theorem dX12_called_48 : decode cX12_called 48 = .ok (.iconst 0, 1) := by decide +kernel
theorem dX12_called_49 : decode cX12_called 49 = .ok (.istore 4, 2) := by decide +kernel
theorem dX12_called_51 : decode cX12_called 51 = .ok (.iload 4, 2) := by decide +kernel
theorem dX12_called_53 : decode cX12_called 53 = .ok (.iload_n 3, 1) := by decide +kernel
theorem dX12_called_54 : decode cX12_called 54 = .ok (.if_icmp .ge 97, 3) := by decide +kernel
theorem dX12_called_57 : decode cX12_called 57 = .ok (.aload_n 0, 1) := by decide +kernel
theorem dX12_called_58 : decode cX12_called 58 = .ok (.getfield 99, 3) := by decide +kernel
theorem dX12_called_61 : decode cX12_called 61 = .ok (.iload 4, 2) := by decide +kernel
theorem dX12_called_63 : decode cX12_called 63 = .ok (.iconst 0, 1) := by decide +kernel
theorem dX12_called_64 : decode cX12_called 64 = .ok (.iastore, 1) := by decide +kernel
theorem dX12_called_65 : decode cX12_called 65 = .ok (.iconst 0, 1) := by decide +kernel
theorem dX12_called_66 : decode cX12_called 66 = .ok (.istore 5, 2) := by decide +kernel
theorem dX12_called_68 : decode cX12_called 68 = .ok (.iload 5, 2) := by decide +kernel
theorem dX12_called_70 : decode cX12_called 70 = .ok (.aload_n 0, 1) := by decide +kernel
theorem dX12_called_71 : decode cX12_called 71 = .ok (.getfield 328, 3) := by decide +kernel
theorem dX12_called_74 : decode cX12_called 74 = .ok (.if_icmp .ge 71, 3) := by decide +kernel
theorem dX12_called_77 : decode cX12_called 77 = .ok (.aload_n 0, 1) := by decide +kernel
theorem dX12_called_78 : decode cX12_called 78 = .ok (.getfield 99, 3) := by decide +kernel
theorem dX12_called_81 : decode cX12_called 81 = .ok (.iload 4, 2) := by decide +kernel
theorem dX12_called_83 : decode cX12_called 83 = .ok (.aload_n 0, 1) := by decide +kernel
theorem dX12_called_84 : decode cX12_called 84 = .ok (.getfield 99, 3) := by decide +kernel
theorem dX12_called_87 : decode cX12_called 87 = .ok (.iload 4, 2) := by decide +kernel
theorem dX12_called_89 : decode cX12_called 89 = .ok (.iaload, 1) := by decide +kernel
theorem dX12_called_90 : decode cX12_called 90 = .ok (.aload_n 0, 1) := by decide +kernel
theorem dX12_called_91 : decode cX12_called 91 = .ok (.iload 5, 2) := by decide +kernel
theorem dX12_called_93 : decode cX12_called 93 = .ok (.invokevirtual 348, 3) := by decide +kernel
theorem dX12_called_96 : decode cX12_called 96 = .ok (.ifCond .eq 40, 3) := by decide +kernel
theorem dX12_called_99 : decode cX12_called 99 = .ok (.aload_n 0, 1) := by decide +kernel
theorem dX12_called_100 : decode cX12_called 100 = .ok (.getfield 81, 3) := by decide +kernel
theorem dX12_called_103 : decode cX12_called 103 = .ok (.iload 5, 2) := by decide +kernel
theorem dX12_called_105 : decode cX12_called 105 = .ok (.iaload, 1) := by decide +kernel
theorem dX12_called_106 : decode cX12_called 106 = .ok (.iload_n 1, 1) := by decide +kernel
theorem dX12_called_107 : decode cX12_called 107 = .ok (.if_icmp .ne 29, 3) := by decide +kernel
theorem dX12_called_110 : decode cX12_called 110 = .ok (.aload_n 0, 1) := by decide +kernel
theorem dX12_called_111 : decode cX12_called 111 = .ok (.iload 5, 2) := by decide +kernel
theorem dX12_called_113 : decode cX12_called 113 = .ok (.aload_n 0, 1) := by decide +kernel
theorem dX12_called_114 : decode cX12_called 114 = .ok (.getfield 165, 3) := by decide +kernel
theorem dX12_called_117 : decode cX12_called 117 = .ok (.iload 4, 2) := by decide +kernel
theorem dX12_called_119 : decode cX12_called 119 = .ok (.iadd, 1) := by decide +kernel
theorem dX12_called_120 : decode cX12_called 120 = .ok (.invokevirtual 345, 3) := by decide +kernel
theorem dX12_called_123 : decode cX12_called 123 = .ok (.ifCond .eq 13, 3) := by decide +kernel
theorem dX12_called_126 : decode cX12_called 126 = .ok (.aload_n 0, 1) := by decide +kernel
theorem dX12_called_127 : decode cX12_called 127 = .ok (.getfield 84, 3) := by decide +kernel
theorem dX12_called_130 : decode cX12_called 130 = .ok (.iload 5, 2) := by decide +kernel
theorem dX12_called_132 : decode cX12_called 132 = .ok (.iaload, 1) := by decide +kernel
theorem dX12_called_133 : decode cX12_called 133 = .ok (.goto 4, 3) := by decide +kernel
theorem dX12_called_136 : decode cX12_called 136 = .ok (.iconst 0, 1) := by decide +kernel
theorem dX12_called_137 : decode cX12_called 137 = .ok (.iadd, 1) := by decide +kernel
theorem dX12_called_138 : decode cX12_called 138 = .ok (.iastore, 1) := by decide +kernel
theorem dX12_called_139 : decode cX12_called 139 = .ok (.iinc 5 1, 3) := by decide +kernel
theorem dX12_called_142 : decode cX12_called 142 = .ok (.goto (-74), 3) := by decide +kernel
theorem dX12_called_145 : decode cX12_called 145 = .ok (.iinc 4 1, 3) := by decide +kernel
theorem dX12_called_148 : decode cX12_called 148 = .ok (.goto (-97), 3) := by decide +kernel
theorem dX12_called_151 : decode cX12_called 151 = .ok (.iconst 0, 1) := by decide +kernel
theorem dX12_called_152 : decode cX12_called 152 = .ok (.istore 4, 2) := by decide +kernel
theorem dX12_called_154 : decode cX12_called 154 = .ok (.iload 4, 2) := by decide +kernel
theorem dX12_called_156 : decode cX12_called 156 = .ok (.sipush 168, 3) := by decide +kernel
theorem dX12_called_159 : decode cX12_called 159 = .ok (.if_icmp .ge 17, 3) := by decide +kernel
theorem dX12_called_162 : decode cX12_called 162 = .ok (.aload_n 0, 1) := by decide +kernel
theorem dX12_called_163 : decode cX12_called 163 = .ok (.getfield 102, 3) := by decide +kernel
theorem dX12_called_166 : decode cX12_called 166 = .ok (.iload 4, 2) := by decide +kernel
theorem dX12_called_168 : decode cX12_called 168 = .ok (.iconst 0, 1) := by decide +kernel
theorem dX12_called_169 : decode cX12_called 169 = .ok (.bastore, 1) := by decide +kernel
theorem dX12_called_170 : decode cX12_called 170 = .ok (.iinc 4 1, 3) := by decide +kernel
theorem dX12_called_173 : decode cX12_called 173 = .ok (.goto (-19), 3) := by decide +kernel
theorem dX12_called_176 : decode cX12_called 176 = .ok (.lconst 0, 1) := by decide +kernel
theorem dX12_called_177 : decode cX12_called 177 = .ok (.lstore 4, 2) := by decide +kernel
theorem dX12_called_179 : decode cX12_called 179 = .ok (.aload_n 0, 1) := by decide +kernel
theorem dX12_called_180 : decode cX12_called 180 = .ok (.iload_n 1, 1) := by decide +kernel
theorem dX12_called_181 : decode cX12_called 181 = .ok (.iload_n 3, 1) := by decide +kernel
theorem dX12_called_182 : decode cX12_called 182 = .ok (.invokevirtual 353, 3) := by decide +kernel
theorem dX12_called_185 : decode cX12_called 185 = .ok (.istore 6, 2) := by decide +kernel
theorem dX12_called_187 : decode cX12_called 187 = .ok (.iload 6, 2) := by decide +kernel
theorem dX12_called_189 : decode cX12_called 189 = .ok (.iconst (-1), 1) := by decide +kernel
theorem dX12_called_190 : decode cX12_called 190 = .ok (.if_icmp .eq 157, 3) := by decide +kernel
theorem dX12_called_193 : decode cX12_called 193 = .ok (.aload_n 0, 1) := by decide +kernel
theorem dX12_called_194 : decode cX12_called 194 = .ok (.getfield 102, 3) := by decide +kernel
theorem dX12_called_197 : decode cX12_called 197 = .ok (.iload 6, 2) := by decide +kernel
theorem dX12_called_199 : decode cX12_called 199 = .ok (.iconst 1, 1) := by decide +kernel
theorem dX12_called_200 : decode cX12_called 200 = .ok (.bastore, 1) := by decide +kernel
theorem dX12_called_201 : decode cX12_called 201 = .ok (.iload 6, 2) := by decide +kernel
theorem dX12_called_203 : decode cX12_called 203 = .ok (.bipush 24, 2) := by decide +kernel
theorem dX12_called_205 : decode cX12_called 205 = .ok (.if_icmp .ge 21, 3) := by decide +kernel
theorem dX12_called_208 : decode cX12_called 208 = .ok (.bipush 60, 2) := by decide +kernel
theorem dX12_called_210 : decode cX12_called 210 = .ok (.aload_n 0, 1) := by decide +kernel
theorem dX12_called_211 : decode cX12_called 211 = .ok (.getfield 93, 3) := by decide +kernel
theorem dX12_called_214 : decode cX12_called 214 = .ok (.bipush 24, 2) := by decide +kernel
theorem dX12_called_216 : decode cX12_called 216 = .ok (.iload_n 1, 1) := by decide +kernel
theorem dX12_called_217 : decode cX12_called 217 = .ok (.imul, 1) := by decide +kernel
theorem dX12_called_218 : decode cX12_called 218 = .ok (.iload 6, 2) := by decide +kernel
theorem dX12_called_220 : decode cX12_called 220 = .ok (.iadd, 1) := by decide +kernel
theorem dX12_called_221 : decode cX12_called 221 = .ok (.iaload, 1) := by decide +kernel
theorem dX12_called_222 : decode cX12_called 222 = .ok (.isub, 1) := by decide +kernel
theorem dX12_called_223 : decode cX12_called 223 = .ok (.goto 5, 3) := by decide +kernel
theorem dX12_called_226 : decode cX12_called 226 = .ok (.bipush 60, 2) := by decide +kernel
theorem dX12_called_228 : decode cX12_called 228 = .ok (.istore 7, 2) := by decide +kernel
theorem dX12_called_230 : decode cX12_called 230 = .ok (.iconst 0, 1) := by decide +kernel
theorem dX12_called_231 : decode cX12_called 231 = .ok (.istore 8, 2) := by decide +kernel
theorem dX12_called_233 : decode cX12_called 233 = .ok (.iload 8, 2) := by decide +kernel
theorem dX12_called_235 : decode cX12_called 235 = .ok (.iload 6, 2) := by decide +kernel
theorem dX12_called_237 : decode cX12_called 237 = .ok (.bipush 24, 2) := by decide +kernel
theorem dX12_called_239 : decode cX12_called 239 = .ok (.idiv, 1) := by decide +kernel
theorem dX12_called_240 : decode cX12_called 240 = .ok (.if_icmp .gt 35, 3) := by decide +kernel
theorem dX12_called_243 : decode cX12_called 243 = .ok (.aload_n 0, 1) := by decide +kernel
theorem dX12_called_244 : decode cX12_called 244 = .ok (.getfield 99, 3) := by decide +kernel
theorem dX12_called_247 : decode cX12_called 247 = .ok (.iload 8, 2) := by decide +kernel
theorem dX12_called_249 : decode cX12_called 249 = .ok (.iaload, 1) := by decide +kernel
theorem dX12_called_250 : decode cX12_called 250 = .ok (.iload 7, 2) := by decide +kernel
theorem dX12_called_252 : decode cX12_called 252 = .ok (.if_icmp .ge 13, 3) := by decide +kernel
theorem dX12_called_255 : decode cX12_called 255 = .ok (.aload_n 0, 1) := by decide +kernel
theorem dX12_called_256 : decode cX12_called 256 = .ok (.getfield 99, 3) := by decide +kernel
theorem dX12_called_259 : decode cX12_called 259 = .ok (.iload 8, 2) := by decide +kernel
theorem dX12_called_261 : decode cX12_called 261 = .ok (.iaload, 1) := by decide +kernel
theorem dX12_called_262 : decode cX12_called 262 = .ok (.goto 5, 3) := by decide +kernel
theorem dX12_called_265 : decode cX12_called 265 = .ok (.iload 7, 2) := by decide +kernel
theorem dX12_called_267 : decode cX12_called 267 = .ok (.istore 7, 2) := by decide +kernel
theorem dX12_called_269 : decode cX12_called 269 = .ok (.iinc 8 1, 3) := by decide +kernel
theorem dX12_called_272 : decode cX12_called 272 = .ok (.goto (-39), 3) := by decide +kernel
theorem dX12_called_275 : decode cX12_called 275 = .ok (.iconst 0, 1) := by decide +kernel
theorem dX12_called_276 : decode cX12_called 276 = .ok (.istore 8, 2) := by decide +kernel
theorem dX12_called_278 : decode cX12_called 278 = .ok (.iload 8, 2) := by decide +kernel
theorem dX12_called_280 : decode cX12_called 280 = .ok (.iload 6, 2) := by decide +kernel
theorem dX12_called_282 : decode cX12_called 282 = .ok (.bipush 24, 2) := by decide +kernel
theorem dX12_called_284 : decode cX12_called 284 = .ok (.idiv, 1) := by decide +kernel
theorem dX12_called_285 : decode cX12_called 285 = .ok (.if_icmp .gt 26, 3) := by decide +kernel
theorem dX12_called_288 : decode cX12_called 288 = .ok (.aload_n 0, 1) := by decide +kernel
theorem dX12_called_289 : decode cX12_called 289 = .ok (.getfield 99, 3) := by decide +kernel
theorem dX12_called_292 : decode cX12_called 292 = .ok (.iload 8, 2) := by decide +kernel
theorem dX12_called_294 : decode cX12_called 294 = .ok (.aload_n 0, 1) := by decide +kernel
theorem dX12_called_295 : decode cX12_called 295 = .ok (.getfield 99, 3) := by decide +kernel
theorem dX12_called_298 : decode cX12_called 298 = .ok (.iload 8, 2) := by decide +kernel
theorem dX12_called_300 : decode cX12_called 300 = .ok (.iaload, 1) := by decide +kernel
theorem dX12_called_301 : decode cX12_called 301 = .ok (.iload 7, 2) := by decide +kernel
theorem dX12_called_303 : decode cX12_called 303 = .ok (.isub, 1) := by decide +kernel
theorem dX12_called_304 : decode cX12_called 304 = .ok (.iastore, 1) := by decide +kernel
theorem dX12_called_305 : decode cX12_called 305 = .ok (.iinc 8 1, 3) := by decide +kernel
theorem dX12_called_308 : decode cX12_called 308 = .ok (.goto (-30), 3) := by decide +kernel
theorem dX12_called_311 : decode cX12_called 311 = .ok (.lload 4, 2) := by decide +kernel
theorem dX12_called_313 : decode cX12_called 313 = .ok (.iload 7, 2) := by decide +kernel
theorem dX12_called_315 : decode cX12_called 315 = .ok (.i2l, 1) := by decide +kernel
theorem dX12_called_316 : decode cX12_called 316 = .ok (.aload_n 0, 1) := by decide +kernel
theorem dX12_called_317 : decode cX12_called 317 = .ok (.getfield 7, 3) := by decide +kernel
theorem dX12_called_320 : decode cX12_called 320 = .ok (.bipush 24, 2) := by decide +kernel
theorem dX12_called_322 : decode cX12_called 322 = .ok (.iload_n 1, 1) := by decide +kernel
theorem dX12_called_323 : decode cX12_called 323 = .ok (.imul, 1) := by decide +kernel
theorem dX12_called_324 : decode cX12_called 324 = .ok (.iload 6, 2) := by decide +kernel
theorem dX12_called_326 : decode cX12_called 326 = .ok (.bipush 24, 2) := by decide +kernel
theorem dX12_called_328 : decode cX12_called 328 = .ok (.irem, 1) := by decide +kernel
theorem dX12_called_329 : decode cX12_called 329 = .ok (.iadd, 1) := by decide +kernel
theorem dX12_called_330 : decode cX12_called 330 = .ok (.iaload, 1) := by decide +kernel
theorem dX12_called_331 : decode cX12_called 331 = .ok (.i2l, 1) := by decide +kernel
theorem dX12_called_332 : decode cX12_called 332 = .ok (.lmul, 1) := by decide +kernel
theorem dX12_called_333 : decode cX12_called 333 = .ok (.ladd, 1) := by decide +kernel
theorem dX12_called_334 : decode cX12_called 334 = .ok (.lstore 4, 2) := by decide +kernel
theorem dX12_called_336 : decode cX12_called 336 = .ok (.aload_n 0, 1) := by decide +kernel
theorem dX12_called_337 : decode cX12_called 337 = .ok (.iload_n 1, 1) := by decide +kernel
theorem dX12_called_338 : decode cX12_called 338 = .ok (.iload_n 3, 1) := by decide +kernel
theorem dX12_called_339 : decode cX12_called 339 = .ok (.invokevirtual 353, 3) := by decide +kernel
theorem dX12_called_342 : decode cX12_called 342 = .ok (.istore 6, 2) := by decide +kernel
theorem dX12_called_344 : decode cX12_called 344 = .ok (.goto (-157), 3) := by decide +kernel
theorem dX12_called_347 : decode cX12_called 347 = .ok (.lload 4, 2) := by decide +kernel
theorem dX12_called_349 : decode cX12_called 349 = .ok (.lreturn, 1) := by decide +kernel
theorem dX12_balances_0 : decode cX12_balances 0 = .ok (.iconst 0, 1) := by decide +kernel
theorem dX12_balances_1 : decode cX12_balances 1 = .ok (.istore_n 1, 1) := by decide +kernel
theorem dX12_balances_2 : decode cX12_balances 2 = .ok (.iload_n 1, 1) := by decide +kernel
theorem dX12_balances_3 : decode cX12_balances 3 = .ok (.bipush 8, 2) := by decide +kernel
theorem dX12_balances_5 : decode cX12_balances 5 = .ok (.if_icmp .ge 68, 3) := by decide +kernel
theorem dX12_balances_8 : decode cX12_balances 8 = .ok (.aload_n 0, 1) := by decide +kernel
theorem dX12_balances_9 : decode cX12_balances 9 = .ok (.getfield 111, 3) := by decide +kernel
theorem dX12_balances_12 : decode cX12_balances 12 = .ok (.iload_n 1, 1) := by decide +kernel
theorem dX12_balances_13 : decode cX12_balances 13 = .ok (.iconst 0, 1) := by decide +kernel
theorem dX12_balances_14 : decode cX12_balances 14 = .ok (.iastore, 1) := by decide +kernel
theorem dX12_balances_15 : decode cX12_balances 15 = .ok (.iconst 0, 1) := by decide +kernel
theorem dX12_balances_16 : decode cX12_balances 16 = .ok (.istore_n 2, 1) := by decide +kernel
theorem dX12_balances_17 : decode cX12_balances 17 = .ok (.iload_n 2, 1) := by decide +kernel
theorem dX12_balances_18 : decode cX12_balances 18 = .ok (.bipush 8, 2) := by decide +kernel
theorem dX12_balances_20 : decode cX12_balances 20 = .ok (.if_icmp .ge 47, 3) := by decide +kernel
theorem dX12_balances_23 : decode cX12_balances 23 = .ok (.aload_n 0, 1) := by decide +kernel
theorem dX12_balances_24 : decode cX12_balances 24 = .ok (.getfield 108, 3) := by decide +kernel
theorem dX12_balances_27 : decode cX12_balances 27 = .ok (.bipush 8, 2) := by decide +kernel
theorem dX12_balances_29 : decode cX12_balances 29 = .ok (.iload_n 1, 1) := by decide +kernel
theorem dX12_balances_30 : decode cX12_balances 30 = .ok (.imul, 1) := by decide +kernel
theorem dX12_balances_31 : decode cX12_balances 31 = .ok (.iload_n 2, 1) := by decide +kernel
theorem dX12_balances_32 : decode cX12_balances 32 = .ok (.iadd, 1) := by decide +kernel
theorem dX12_balances_33 : decode cX12_balances 33 = .ok (.iload_n 1, 1) := by decide +kernel
theorem dX12_balances_34 : decode cX12_balances 34 = .ok (.iload_n 2, 1) := by decide +kernel
theorem dX12_balances_35 : decode cX12_balances 35 = .ok (.if_icmp .ne 7, 3) := by decide +kernel
theorem dX12_balances_38 : decode cX12_balances 38 = .ok (.iconst 0, 1) := by decide +kernel
theorem dX12_balances_39 : decode cX12_balances 39 = .ok (.goto 9, 3) := by decide +kernel
theorem dX12_balances_42 : decode cX12_balances 42 = .ok (.aload_n 0, 1) := by decide +kernel
theorem dX12_balances_43 : decode cX12_balances 43 = .ok (.iload_n 1, 1) := by decide +kernel
theorem dX12_balances_44 : decode cX12_balances 44 = .ok (.iload_n 2, 1) := by decide +kernel
theorem dX12_balances_45 : decode cX12_balances 45 = .ok (.invokevirtual 356, 3) := by decide +kernel
theorem dX12_balances_48 : decode cX12_balances 48 = .ok (.iastore, 1) := by decide +kernel
theorem dX12_balances_49 : decode cX12_balances 49 = .ok (.aload_n 0, 1) := by decide +kernel
theorem dX12_balances_50 : decode cX12_balances 50 = .ok (.getfield 105, 3) := by decide +kernel
theorem dX12_balances_53 : decode cX12_balances 53 = .ok (.bipush 8, 2) := by decide +kernel
theorem dX12_balances_55 : decode cX12_balances 55 = .ok (.iload_n 1, 1) := by decide +kernel
theorem dX12_balances_56 : decode cX12_balances 56 = .ok (.imul, 1) := by decide +kernel
theorem dX12_balances_57 : decode cX12_balances 57 = .ok (.iload_n 2, 1) := by decide +kernel
theorem dX12_balances_58 : decode cX12_balances 58 = .ok (.iadd, 1) := by decide +kernel
theorem dX12_balances_59 : decode cX12_balances 59 = .ok (.iconst 0, 1) := by decide +kernel
theorem dX12_balances_60 : decode cX12_balances 60 = .ok (.iastore, 1) := by decide +kernel
theorem dX12_balances_61 : decode cX12_balances 61 = .ok (.iinc 2 1, 3) := by decide +kernel
theorem dX12_balances_64 : decode cX12_balances 64 = .ok (.goto (-47), 3) := by decide +kernel
theorem dX12_balances_67 : decode cX12_balances 67 = .ok (.iinc 1 1, 3) := by decide +kernel
theorem dX12_balances_70 : decode cX12_balances 70 = .ok (.goto (-68), 3) := by decide +kernel
theorem dX12_balances_73 : decode cX12_balances 73 = .ok (.iconst 0, 1) := by decide +kernel
theorem dX12_balances_74 : decode cX12_balances 74 = .ok (.istore_n 1, 1) := by decide +kernel
theorem dX12_balances_75 : decode cX12_balances 75 = .ok (.iload_n 1, 1) := by decide +kernel
theorem dX12_balances_76 : decode cX12_balances 76 = .ok (.bipush 8, 2) := by decide +kernel
theorem dX12_balances_78 : decode cX12_balances 78 = .ok (.if_icmp .ge 59, 3) := by decide +kernel
theorem dX12_balances_81 : decode cX12_balances 81 = .ok (.iconst 0, 1) := by decide +kernel
theorem dX12_balances_82 : decode cX12_balances 82 = .ok (.istore_n 2, 1) := by decide +kernel
theorem dX12_balances_83 : decode cX12_balances 83 = .ok (.iload_n 2, 1) := by decide +kernel
theorem dX12_balances_84 : decode cX12_balances 84 = .ok (.bipush 8, 2) := by decide +kernel
theorem dX12_balances_86 : decode cX12_balances 86 = .ok (.if_icmp .ge 45, 3) := by decide +kernel
theorem dX12_balances_89 : decode cX12_balances 89 = .ok (.aload_n 0, 1) := by decide +kernel
theorem dX12_balances_90 : decode cX12_balances 90 = .ok (.getfield 111, 3) := by decide +kernel
theorem dX12_balances_93 : decode cX12_balances 93 = .ok (.iload_n 1, 1) := by decide +kernel
theorem dX12_balances_94 : decode cX12_balances 94 = .ok (.aload_n 0, 1) := by decide +kernel
theorem dX12_balances_95 : decode cX12_balances 95 = .ok (.getfield 111, 3) := by decide +kernel
theorem dX12_balances_98 : decode cX12_balances 98 = .ok (.iload_n 1, 1) := by decide +kernel
theorem dX12_balances_99 : decode cX12_balances 99 = .ok (.iaload, 1) := by decide +kernel
theorem dX12_balances_100 : decode cX12_balances 100 = .ok (.aload_n 0, 1) := by decide +kernel
theorem dX12_balances_101 : decode cX12_balances 101 = .ok (.getfield 108, 3) := by decide +kernel
theorem dX12_balances_104 : decode cX12_balances 104 = .ok (.bipush 8, 2) := by decide +kernel
theorem dX12_balances_106 : decode cX12_balances 106 = .ok (.iload_n 1, 1) := by decide +kernel
theorem dX12_balances_107 : decode cX12_balances 107 = .ok (.imul, 1) := by decide +kernel
theorem dX12_balances_108 : decode cX12_balances 108 = .ok (.iload_n 2, 1) := by decide +kernel
theorem dX12_balances_109 : decode cX12_balances 109 = .ok (.iadd, 1) := by decide +kernel
theorem dX12_balances_110 : decode cX12_balances 110 = .ok (.iaload, 1) := by decide +kernel
theorem dX12_balances_111 : decode cX12_balances 111 = .ok (.iadd, 1) := by decide +kernel
theorem dX12_balances_112 : decode cX12_balances 112 = .ok (.aload_n 0, 1) := by decide +kernel
theorem dX12_balances_113 : decode cX12_balances 113 = .ok (.getfield 108, 3) := by decide +kernel
theorem dX12_balances_116 : decode cX12_balances 116 = .ok (.bipush 8, 2) := by decide +kernel
theorem dX12_balances_118 : decode cX12_balances 118 = .ok (.iload_n 2, 1) := by decide +kernel
theorem dX12_balances_119 : decode cX12_balances 119 = .ok (.imul, 1) := by decide +kernel
theorem dX12_balances_120 : decode cX12_balances 120 = .ok (.iload_n 1, 1) := by decide +kernel
theorem dX12_balances_121 : decode cX12_balances 121 = .ok (.iadd, 1) := by decide +kernel
theorem dX12_balances_122 : decode cX12_balances 122 = .ok (.iaload, 1) := by decide +kernel
theorem dX12_balances_123 : decode cX12_balances 123 = .ok (.isub, 1) := by decide +kernel
theorem dX12_balances_124 : decode cX12_balances 124 = .ok (.iastore, 1) := by decide +kernel
theorem dX12_balances_125 : decode cX12_balances 125 = .ok (.iinc 2 1, 3) := by decide +kernel
theorem dX12_balances_128 : decode cX12_balances 128 = .ok (.goto (-45), 3) := by decide +kernel
theorem dX12_balances_131 : decode cX12_balances 131 = .ok (.iinc 1 1, 3) := by decide +kernel
theorem dX12_balances_134 : decode cX12_balances 134 = .ok (.goto (-59), 3) := by decide +kernel
theorem dX12_balances_137 : decode cX12_balances 137 = .ok (.return_, 1) := by decide +kernel
theorem dX12_measures_0 : decode cX12_measures 0 = .ok (.iconst 0, 1) := by decide +kernel
theorem dX12_measures_1 : decode cX12_measures 1 = .ok (.istore_n 1, 1) := by decide +kernel
theorem dX12_measures_2 : decode cX12_measures 2 = .ok (.iload_n 1, 1) := by decide +kernel
theorem dX12_measures_3 : decode cX12_measures 3 = .ok (.bipush 8, 2) := by decide +kernel
theorem dX12_measures_5 : decode cX12_measures 5 = .ok (.if_icmp .ge 38, 3) := by decide +kernel
theorem dX12_measures_8 : decode cX12_measures 8 = .ok (.aload_n 0, 1) := by decide +kernel
theorem dX12_measures_9 : decode cX12_measures 9 = .ok (.getfield 114, 3) := by decide +kernel
theorem dX12_measures_12 : decode cX12_measures 12 = .ok (.iload_n 1, 1) := by decide +kernel
theorem dX12_measures_13 : decode cX12_measures 13 = .ok (.aload_n 0, 1) := by decide +kernel
theorem dX12_measures_14 : decode cX12_measures 14 = .ok (.getfield 111, 3) := by decide +kernel
theorem dX12_measures_17 : decode cX12_measures 17 = .ok (.iload_n 1, 1) := by decide +kernel
theorem dX12_measures_18 : decode cX12_measures 18 = .ok (.iaload, 1) := by decide +kernel
theorem dX12_measures_19 : decode cX12_measures 19 = .ok (.ifCond .le 7, 3) := by decide +kernel
theorem dX12_measures_22 : decode cX12_measures 22 = .ok (.iconst 0, 1) := by decide +kernel
theorem dX12_measures_23 : decode cX12_measures 23 = .ok (.goto 6, 3) := by decide +kernel
theorem dX12_measures_26 : decode cX12_measures 26 = .ok (.sipush 1000, 3) := by decide +kernel
theorem dX12_measures_29 : decode cX12_measures 29 = .ok (.iastore, 1) := by decide +kernel
theorem dX12_measures_30 : decode cX12_measures 30 = .ok (.aload_n 0, 1) := by decide +kernel
theorem dX12_measures_31 : decode cX12_measures 31 = .ok (.getfield 117, 3) := by decide +kernel
theorem dX12_measures_34 : decode cX12_measures 34 = .ok (.iload_n 1, 1) := by decide +kernel
theorem dX12_measures_35 : decode cX12_measures 35 = .ok (.iconst (-1), 1) := by decide +kernel
theorem dX12_measures_36 : decode cX12_measures 36 = .ok (.iastore, 1) := by decide +kernel
theorem dX12_measures_37 : decode cX12_measures 37 = .ok (.iinc 1 1, 3) := by decide +kernel
theorem dX12_measures_40 : decode cX12_measures 40 = .ok (.goto (-38), 3) := by decide +kernel
theorem dX12_measures_43 : decode cX12_measures 43 = .ok (.iconst 0, 1) := by decide +kernel
theorem dX12_measures_44 : decode cX12_measures 44 = .ok (.istore_n 1, 1) := by decide +kernel
theorem dX12_measures_45 : decode cX12_measures 45 = .ok (.iload_n 1, 1) := by decide +kernel
theorem dX12_measures_46 : decode cX12_measures 46 = .ok (.bipush 8, 2) := by decide +kernel
theorem dX12_measures_48 : decode cX12_measures 48 = .ok (.if_icmp .ge 160, 3) := by decide +kernel
theorem dX12_measures_51 : decode cX12_measures 51 = .ok (.iconst 0, 1) := by decide +kernel
theorem dX12_measures_52 : decode cX12_measures 52 = .ok (.istore_n 2, 1) := by decide +kernel
theorem dX12_measures_53 : decode cX12_measures 53 = .ok (.iload_n 2, 1) := by decide +kernel
theorem dX12_measures_54 : decode cX12_measures 54 = .ok (.bipush 8, 2) := by decide +kernel
theorem dX12_measures_56 : decode cX12_measures 56 = .ok (.if_icmp .ge 146, 3) := by decide +kernel
theorem dX12_measures_59 : decode cX12_measures 59 = .ok (.iconst 0, 1) := by decide +kernel
theorem dX12_measures_60 : decode cX12_measures 60 = .ok (.istore_n 3, 1) := by decide +kernel
theorem dX12_measures_61 : decode cX12_measures 61 = .ok (.iload_n 3, 1) := by decide +kernel
theorem dX12_measures_62 : decode cX12_measures 62 = .ok (.bipush 8, 2) := by decide +kernel
theorem dX12_measures_64 : decode cX12_measures 64 = .ok (.if_icmp .ge 132, 3) := by decide +kernel
theorem dX12_measures_67 : decode cX12_measures 67 = .ok (.aload_n 0, 1) := by decide +kernel
theorem dX12_measures_68 : decode cX12_measures 68 = .ok (.getfield 114, 3) := by decide +kernel
theorem dX12_measures_71 : decode cX12_measures 71 = .ok (.iload_n 2, 1) := by decide +kernel
theorem dX12_measures_72 : decode cX12_measures 72 = .ok (.iaload, 1) := by decide +kernel
theorem dX12_measures_73 : decode cX12_measures 73 = .ok (.sipush 1000, 3) := by decide +kernel
theorem dX12_measures_76 : decode cX12_measures 76 = .ok (.if_icmp .eq 114, 3) := by decide +kernel
theorem dX12_measures_79 : decode cX12_measures 79 = .ok (.iload_n 2, 1) := by decide +kernel
theorem dX12_measures_80 : decode cX12_measures 80 = .ok (.iload_n 3, 1) := by decide +kernel
theorem dX12_measures_81 : decode cX12_measures 81 = .ok (.if_icmp .ne 6, 3) := by decide +kernel
theorem dX12_measures_84 : decode cX12_measures 84 = .ok (.goto 106, 3) := by decide +kernel
theorem dX12_measures_87 : decode cX12_measures 87 = .ok (.aload_n 0, 1) := by decide +kernel
theorem dX12_measures_88 : decode cX12_measures 88 = .ok (.getfield 105, 3) := by decide +kernel
theorem dX12_measures_91 : decode cX12_measures 91 = .ok (.bipush 8, 2) := by decide +kernel
theorem dX12_measures_93 : decode cX12_measures 93 = .ok (.iload_n 3, 1) := by decide +kernel
theorem dX12_measures_94 : decode cX12_measures 94 = .ok (.imul, 1) := by decide +kernel
theorem dX12_measures_95 : decode cX12_measures 95 = .ok (.iload_n 2, 1) := by decide +kernel
theorem dX12_measures_96 : decode cX12_measures 96 = .ok (.iadd, 1) := by decide +kernel
theorem dX12_measures_97 : decode cX12_measures 97 = .ok (.iaload, 1) := by decide +kernel
theorem dX12_measures_98 : decode cX12_measures 98 = .ok (.ifCond .le 7, 3) := by decide +kernel
theorem dX12_measures_101 : decode cX12_measures 101 = .ok (.iconst (-1), 1) := by decide +kernel
theorem dX12_measures_102 : decode cX12_measures 102 = .ok (.goto 35, 3) := by decide +kernel
theorem dX12_measures_105 : decode cX12_measures 105 = .ok (.aload_n 0, 1) := by decide +kernel
theorem dX12_measures_106 : decode cX12_measures 106 = .ok (.getfield 105, 3) := by decide +kernel
theorem dX12_measures_109 : decode cX12_measures 109 = .ok (.bipush 8, 2) := by decide +kernel
theorem dX12_measures_111 : decode cX12_measures 111 = .ok (.iload_n 2, 1) := by decide +kernel
theorem dX12_measures_112 : decode cX12_measures 112 = .ok (.imul, 1) := by decide +kernel
theorem dX12_measures_113 : decode cX12_measures 113 = .ok (.iload_n 3, 1) := by decide +kernel
theorem dX12_measures_114 : decode cX12_measures 114 = .ok (.iadd, 1) := by decide +kernel
theorem dX12_measures_115 : decode cX12_measures 115 = .ok (.iaload, 1) := by decide +kernel
theorem dX12_measures_116 : decode cX12_measures 116 = .ok (.aload_n 0, 1) := by decide +kernel
theorem dX12_measures_117 : decode cX12_measures 117 = .ok (.getfield 108, 3) := by decide +kernel
theorem dX12_measures_120 : decode cX12_measures 120 = .ok (.bipush 8, 2) := by decide +kernel
theorem dX12_measures_122 : decode cX12_measures 122 = .ok (.iload_n 2, 1) := by decide +kernel
theorem dX12_measures_123 : decode cX12_measures 123 = .ok (.imul, 1) := by decide +kernel
theorem dX12_measures_124 : decode cX12_measures 124 = .ok (.iload_n 3, 1) := by decide +kernel
theorem dX12_measures_125 : decode cX12_measures 125 = .ok (.iadd, 1) := by decide +kernel
theorem dX12_measures_126 : decode cX12_measures 126 = .ok (.iaload, 1) := by decide +kernel
theorem dX12_measures_127 : decode cX12_measures 127 = .ok (.if_icmp .ge 7, 3) := by decide +kernel
theorem dX12_measures_130 : decode cX12_measures 130 = .ok (.iconst 1, 1) := by decide +kernel
theorem dX12_measures_131 : decode cX12_measures 131 = .ok (.goto 6, 3) := by decide +kernel
theorem dX12_measures_134 : decode cX12_measures 134 = .ok (.sipush 2000, 3) := by decide +kernel
theorem dX12_measures_137 : decode cX12_measures 137 = .ok (.istore 4, 2) := by decide +kernel
theorem dX12_measures_139 : decode cX12_measures 139 = .ok (.iload 4, 2) := by decide +kernel
theorem dX12_measures_141 : decode cX12_measures 141 = .ok (.sipush 2000, 3) := by decide +kernel
theorem dX12_measures_144 : decode cX12_measures 144 = .ok (.if_icmp .eq 46, 3) := by decide +kernel
theorem dX12_measures_147 : decode cX12_measures 147 = .ok (.aload_n 0, 1) := by decide +kernel
theorem dX12_measures_148 : decode cX12_measures 148 = .ok (.getfield 114, 3) := by decide +kernel
theorem dX12_measures_151 : decode cX12_measures 151 = .ok (.iload_n 2, 1) := by decide +kernel
theorem dX12_measures_152 : decode cX12_measures 152 = .ok (.iaload, 1) := by decide +kernel
theorem dX12_measures_153 : decode cX12_measures 153 = .ok (.iload 4, 2) := by decide +kernel
theorem dX12_measures_155 : decode cX12_measures 155 = .ok (.iadd, 1) := by decide +kernel
theorem dX12_measures_156 : decode cX12_measures 156 = .ok (.aload_n 0, 1) := by decide +kernel
theorem dX12_measures_157 : decode cX12_measures 157 = .ok (.getfield 114, 3) := by decide +kernel
theorem dX12_measures_160 : decode cX12_measures 160 = .ok (.iload_n 3, 1) := by decide +kernel
theorem dX12_measures_161 : decode cX12_measures 161 = .ok (.iaload, 1) := by decide +kernel
theorem dX12_measures_162 : decode cX12_measures 162 = .ok (.if_icmp .lt 6, 3) := by decide +kernel
theorem dX12_measures_165 : decode cX12_measures 165 = .ok (.goto 25, 3) := by decide +kernel
theorem dX12_measures_168 : decode cX12_measures 168 = .ok (.aload_n 0, 1) := by decide +kernel
theorem dX12_measures_169 : decode cX12_measures 169 = .ok (.getfield 114, 3) := by decide +kernel
theorem dX12_measures_172 : decode cX12_measures 172 = .ok (.iload_n 3, 1) := by decide +kernel
theorem dX12_measures_173 : decode cX12_measures 173 = .ok (.aload_n 0, 1) := by decide +kernel
theorem dX12_measures_174 : decode cX12_measures 174 = .ok (.getfield 114, 3) := by decide +kernel
theorem dX12_measures_177 : decode cX12_measures 177 = .ok (.iload_n 2, 1) := by decide +kernel
theorem dX12_measures_178 : decode cX12_measures 178 = .ok (.iaload, 1) := by decide +kernel
theorem dX12_measures_179 : decode cX12_measures 179 = .ok (.iload 4, 2) := by decide +kernel
theorem dX12_measures_181 : decode cX12_measures 181 = .ok (.iadd, 1) := by decide +kernel
theorem dX12_measures_182 : decode cX12_measures 182 = .ok (.iastore, 1) := by decide +kernel
theorem dX12_measures_183 : decode cX12_measures 183 = .ok (.aload_n 0, 1) := by decide +kernel
theorem dX12_measures_184 : decode cX12_measures 184 = .ok (.getfield 117, 3) := by decide +kernel
theorem dX12_measures_187 : decode cX12_measures 187 = .ok (.iload_n 3, 1) := by decide +kernel
theorem dX12_measures_188 : decode cX12_measures 188 = .ok (.iload_n 2, 1) := by decide +kernel
theorem dX12_measures_189 : decode cX12_measures 189 = .ok (.iastore, 1) := by decide +kernel
theorem dX12_measures_190 : decode cX12_measures 190 = .ok (.iinc 3 1, 3) := by decide +kernel
theorem dX12_measures_193 : decode cX12_measures 193 = .ok (.goto (-132), 3) := by decide +kernel
theorem dX12_measures_196 : decode cX12_measures 196 = .ok (.iinc 2 1, 3) := by decide +kernel
theorem dX12_measures_199 : decode cX12_measures 199 = .ok (.goto (-146), 3) := by decide +kernel
theorem dX12_measures_202 : decode cX12_measures 202 = .ok (.iinc 1 1, 3) := by decide +kernel
theorem dX12_measures_205 : decode cX12_measures 205 = .ok (.goto (-160), 3) := by decide +kernel
theorem dX12_measures_208 : decode cX12_measures 208 = .ok (.return_, 1) := by decide +kernel
theorem dX12_stepOn_0 : decode cX12_stepOn 0 = .ok (.aload_n 0, 1) := by decide +kernel
theorem dX12_stepOn_1 : decode cX12_stepOn 1 = .ok (.getfield 105, 3) := by decide +kernel
theorem dX12_stepOn_4 : decode cX12_stepOn 4 = .ok (.bipush 8, 2) := by decide +kernel
theorem dX12_stepOn_6 : decode cX12_stepOn 6 = .ok (.iload_n 2, 1) := by decide +kernel
theorem dX12_stepOn_7 : decode cX12_stepOn 7 = .ok (.imul, 1) := by decide +kernel
theorem dX12_stepOn_8 : decode cX12_stepOn 8 = .ok (.iload_n 1, 1) := by decide +kernel
theorem dX12_stepOn_9 : decode cX12_stepOn 9 = .ok (.iadd, 1) := by decide +kernel
theorem dX12_stepOn_10 : decode cX12_stepOn 10 = .ok (.iaload, 1) := by decide +kernel
theorem dX12_stepOn_11 : decode cX12_stepOn 11 = .ok (.ifCond .le 17, 3) := by decide +kernel
theorem dX12_stepOn_14 : decode cX12_stepOn 14 = .ok (.aload_n 0, 1) := by decide +kernel
theorem dX12_stepOn_15 : decode cX12_stepOn 15 = .ok (.getfield 105, 3) := by decide +kernel
theorem dX12_stepOn_18 : decode cX12_stepOn 18 = .ok (.bipush 8, 2) := by decide +kernel
theorem dX12_stepOn_20 : decode cX12_stepOn 20 = .ok (.iload_n 2, 1) := by decide +kernel
theorem dX12_stepOn_21 : decode cX12_stepOn 21 = .ok (.imul, 1) := by decide +kernel
theorem dX12_stepOn_22 : decode cX12_stepOn 22 = .ok (.iload_n 1, 1) := by decide +kernel
theorem dX12_stepOn_23 : decode cX12_stepOn 23 = .ok (.iadd, 1) := by decide +kernel
theorem dX12_stepOn_24 : decode cX12_stepOn 24 = .ok (.iaload, 1) := by decide +kernel
theorem dX12_stepOn_25 : decode cX12_stepOn 25 = .ok (.goto 26, 3) := by decide +kernel
theorem dX12_stepOn_28 : decode cX12_stepOn 28 = .ok (.aload_n 0, 1) := by decide +kernel
theorem dX12_stepOn_29 : decode cX12_stepOn 29 = .ok (.getfield 108, 3) := by decide +kernel
theorem dX12_stepOn_32 : decode cX12_stepOn 32 = .ok (.bipush 8, 2) := by decide +kernel
theorem dX12_stepOn_34 : decode cX12_stepOn 34 = .ok (.iload_n 1, 1) := by decide +kernel
theorem dX12_stepOn_35 : decode cX12_stepOn 35 = .ok (.imul, 1) := by decide +kernel
theorem dX12_stepOn_36 : decode cX12_stepOn 36 = .ok (.iload_n 2, 1) := by decide +kernel
theorem dX12_stepOn_37 : decode cX12_stepOn 37 = .ok (.iadd, 1) := by decide +kernel
theorem dX12_stepOn_38 : decode cX12_stepOn 38 = .ok (.iaload, 1) := by decide +kernel
theorem dX12_stepOn_39 : decode cX12_stepOn 39 = .ok (.aload_n 0, 1) := by decide +kernel
theorem dX12_stepOn_40 : decode cX12_stepOn 40 = .ok (.getfield 105, 3) := by decide +kernel
theorem dX12_stepOn_43 : decode cX12_stepOn 43 = .ok (.bipush 8, 2) := by decide +kernel
theorem dX12_stepOn_45 : decode cX12_stepOn 45 = .ok (.iload_n 1, 1) := by decide +kernel
theorem dX12_stepOn_46 : decode cX12_stepOn 46 = .ok (.imul, 1) := by decide +kernel
theorem dX12_stepOn_47 : decode cX12_stepOn 47 = .ok (.iload_n 2, 1) := by decide +kernel
theorem dX12_stepOn_48 : decode cX12_stepOn 48 = .ok (.iadd, 1) := by decide +kernel
theorem dX12_stepOn_49 : decode cX12_stepOn 49 = .ok (.iaload, 1) := by decide +kernel
theorem dX12_stepOn_50 : decode cX12_stepOn 50 = .ok (.isub, 1) := by decide +kernel
theorem dX12_stepOn_51 : decode cX12_stepOn 51 = .ok (.ireturn, 1) := by decide +kernel
theorem dX12_goesTo_0 : decode cX12_goesTo 0 = .ok (.aload_n 0, 1) := by decide +kernel
theorem dX12_goesTo_1 : decode cX12_goesTo 1 = .ok (.getfield 111, 3) := by decide +kernel
theorem dX12_goesTo_4 : decode cX12_goesTo 4 = .ok (.iload_n 1, 1) := by decide +kernel
theorem dX12_goesTo_5 : decode cX12_goesTo 5 = .ok (.iaload, 1) := by decide +kernel
theorem dX12_goesTo_6 : decode cX12_goesTo 6 = .ok (.ineg, 1) := by decide +kernel
theorem dX12_goesTo_7 : decode cX12_goesTo 7 = .ok (.istore_n 2, 1) := by decide +kernel
theorem dX12_goesTo_8 : decode cX12_goesTo 8 = .ok (.iload_n 1, 1) := by decide +kernel
theorem dX12_goesTo_9 : decode cX12_goesTo 9 = .ok (.istore_n 3, 1) := by decide +kernel
theorem dX12_goesTo_10 : decode cX12_goesTo 10 = .ok (.aload_n 0, 1) := by decide +kernel
theorem dX12_goesTo_11 : decode cX12_goesTo 11 = .ok (.getfield 117, 3) := by decide +kernel
theorem dX12_goesTo_14 : decode cX12_goesTo 14 = .ok (.iload_n 3, 1) := by decide +kernel
theorem dX12_goesTo_15 : decode cX12_goesTo 15 = .ok (.iaload, 1) := by decide +kernel
theorem dX12_goesTo_16 : decode cX12_goesTo 16 = .ok (.iconst (-1), 1) := by decide +kernel
theorem dX12_goesTo_17 : decode cX12_goesTo 17 = .ok (.if_icmp .eq 39, 3) := by decide +kernel
theorem dX12_goesTo_20 : decode cX12_goesTo 20 = .ok (.aload_n 0, 1) := by decide +kernel
theorem dX12_goesTo_21 : decode cX12_goesTo 21 = .ok (.aload_n 0, 1) := by decide +kernel
theorem dX12_goesTo_22 : decode cX12_goesTo 22 = .ok (.getfield 117, 3) := by decide +kernel
theorem dX12_goesTo_25 : decode cX12_goesTo 25 = .ok (.iload_n 3, 1) := by decide +kernel
theorem dX12_goesTo_26 : decode cX12_goesTo 26 = .ok (.iaload, 1) := by decide +kernel
theorem dX12_goesTo_27 : decode cX12_goesTo 27 = .ok (.iload_n 3, 1) := by decide +kernel
theorem dX12_goesTo_28 : decode cX12_goesTo 28 = .ok (.invokevirtual 359, 3) := by decide +kernel
theorem dX12_goesTo_31 : decode cX12_goesTo 31 = .ok (.istore 4, 2) := by decide +kernel
theorem dX12_goesTo_33 : decode cX12_goesTo 33 = .ok (.iload 4, 2) := by decide +kernel
theorem dX12_goesTo_35 : decode cX12_goesTo 35 = .ok (.iload_n 2, 1) := by decide +kernel
theorem dX12_goesTo_36 : decode cX12_goesTo 36 = .ok (.if_icmp .ge 8, 3) := by decide +kernel
theorem dX12_goesTo_39 : decode cX12_goesTo 39 = .ok (.iload 4, 2) := by decide +kernel
theorem dX12_goesTo_41 : decode cX12_goesTo 41 = .ok (.goto 4, 3) := by decide +kernel
theorem dX12_goesTo_44 : decode cX12_goesTo 44 = .ok (.iload_n 2, 1) := by decide +kernel
theorem dX12_goesTo_45 : decode cX12_goesTo 45 = .ok (.istore_n 2, 1) := by decide +kernel
theorem dX12_goesTo_46 : decode cX12_goesTo 46 = .ok (.aload_n 0, 1) := by decide +kernel
theorem dX12_goesTo_47 : decode cX12_goesTo 47 = .ok (.getfield 117, 3) := by decide +kernel
theorem dX12_goesTo_50 : decode cX12_goesTo 50 = .ok (.iload_n 3, 1) := by decide +kernel
theorem dX12_goesTo_51 : decode cX12_goesTo 51 = .ok (.iaload, 1) := by decide +kernel
theorem dX12_goesTo_52 : decode cX12_goesTo 52 = .ok (.istore_n 3, 1) := by decide +kernel
theorem dX12_goesTo_53 : decode cX12_goesTo 53 = .ok (.goto (-43), 3) := by decide +kernel
theorem dX12_goesTo_56 : decode cX12_goesTo 56 = .ok (.aload_n 0, 1) := by decide +kernel
theorem dX12_goesTo_57 : decode cX12_goesTo 57 = .ok (.getfield 111, 3) := by decide +kernel
theorem dX12_goesTo_60 : decode cX12_goesTo 60 = .ok (.iload_n 3, 1) := by decide +kernel
theorem dX12_goesTo_61 : decode cX12_goesTo 61 = .ok (.iaload, 1) := by decide +kernel
theorem dX12_goesTo_62 : decode cX12_goesTo 62 = .ok (.iload_n 2, 1) := by decide +kernel
theorem dX12_goesTo_63 : decode cX12_goesTo 63 = .ok (.if_icmp .ge 12, 3) := by decide +kernel
theorem dX12_goesTo_66 : decode cX12_goesTo 66 = .ok (.aload_n 0, 1) := by decide +kernel
theorem dX12_goesTo_67 : decode cX12_goesTo 67 = .ok (.getfield 111, 3) := by decide +kernel
theorem dX12_goesTo_70 : decode cX12_goesTo 70 = .ok (.iload_n 3, 1) := by decide +kernel
theorem dX12_goesTo_71 : decode cX12_goesTo 71 = .ok (.iaload, 1) := by decide +kernel
theorem dX12_goesTo_72 : decode cX12_goesTo 72 = .ok (.goto 4, 3) := by decide +kernel
theorem dX12_goesTo_75 : decode cX12_goesTo 75 = .ok (.iload_n 2, 1) := by decide +kernel
theorem dX12_goesTo_76 : decode cX12_goesTo 76 = .ok (.istore_n 2, 1) := by decide +kernel
theorem dX12_goesTo_77 : decode cX12_goesTo 77 = .ok (.aload_n 0, 1) := by decide +kernel
theorem dX12_goesTo_78 : decode cX12_goesTo 78 = .ok (.getfield 111, 3) := by decide +kernel
theorem dX12_goesTo_81 : decode cX12_goesTo 81 = .ok (.iload_n 3, 1) := by decide +kernel
theorem dX12_goesTo_82 : decode cX12_goesTo 82 = .ok (.aload_n 0, 1) := by decide +kernel
theorem dX12_goesTo_83 : decode cX12_goesTo 83 = .ok (.getfield 111, 3) := by decide +kernel
theorem dX12_goesTo_86 : decode cX12_goesTo 86 = .ok (.iload_n 3, 1) := by decide +kernel
theorem dX12_goesTo_87 : decode cX12_goesTo 87 = .ok (.iaload, 1) := by decide +kernel
theorem dX12_goesTo_88 : decode cX12_goesTo 88 = .ok (.iload_n 2, 1) := by decide +kernel
theorem dX12_goesTo_89 : decode cX12_goesTo 89 = .ok (.isub, 1) := by decide +kernel
theorem dX12_goesTo_90 : decode cX12_goesTo 90 = .ok (.iastore, 1) := by decide +kernel
theorem dX12_goesTo_91 : decode cX12_goesTo 91 = .ok (.aload_n 0, 1) := by decide +kernel
theorem dX12_goesTo_92 : decode cX12_goesTo 92 = .ok (.getfield 111, 3) := by decide +kernel
theorem dX12_goesTo_95 : decode cX12_goesTo 95 = .ok (.iload_n 1, 1) := by decide +kernel
theorem dX12_goesTo_96 : decode cX12_goesTo 96 = .ok (.aload_n 0, 1) := by decide +kernel
theorem dX12_goesTo_97 : decode cX12_goesTo 97 = .ok (.getfield 111, 3) := by decide +kernel
theorem dX12_goesTo_100 : decode cX12_goesTo 100 = .ok (.iload_n 1, 1) := by decide +kernel
theorem dX12_goesTo_101 : decode cX12_goesTo 101 = .ok (.iaload, 1) := by decide +kernel
theorem dX12_goesTo_102 : decode cX12_goesTo 102 = .ok (.iload_n 2, 1) := by decide +kernel
theorem dX12_goesTo_103 : decode cX12_goesTo 103 = .ok (.iadd, 1) := by decide +kernel
theorem dX12_goesTo_104 : decode cX12_goesTo 104 = .ok (.iastore, 1) := by decide +kernel
theorem dX12_goesTo_105 : decode cX12_goesTo 105 = .ok (.iload_n 1, 1) := by decide +kernel
theorem dX12_goesTo_106 : decode cX12_goesTo 106 = .ok (.istore 4, 2) := by decide +kernel
theorem dX12_goesTo_108 : decode cX12_goesTo 108 = .ok (.aload_n 0, 1) := by decide +kernel
theorem dX12_goesTo_109 : decode cX12_goesTo 109 = .ok (.getfield 117, 3) := by decide +kernel
theorem dX12_goesTo_112 : decode cX12_goesTo 112 = .ok (.iload 4, 2) := by decide +kernel
theorem dX12_goesTo_114 : decode cX12_goesTo 114 = .ok (.iaload, 1) := by decide +kernel
theorem dX12_goesTo_115 : decode cX12_goesTo 115 = .ok (.iconst (-1), 1) := by decide +kernel
theorem dX12_goesTo_116 : decode cX12_goesTo 116 = .ok (.if_icmp .eq 99, 3) := by decide +kernel
theorem dX12_goesTo_119 : decode cX12_goesTo 119 = .ok (.aload_n 0, 1) := by decide +kernel
theorem dX12_goesTo_120 : decode cX12_goesTo 120 = .ok (.getfield 117, 3) := by decide +kernel
theorem dX12_goesTo_123 : decode cX12_goesTo 123 = .ok (.iload 4, 2) := by decide +kernel
theorem dX12_goesTo_125 : decode cX12_goesTo 125 = .ok (.iaload, 1) := by decide +kernel
theorem dX12_goesTo_126 : decode cX12_goesTo 126 = .ok (.istore 5, 2) := by decide +kernel
theorem dX12_goesTo_128 : decode cX12_goesTo 128 = .ok (.aload_n 0, 1) := by decide +kernel
theorem dX12_goesTo_129 : decode cX12_goesTo 129 = .ok (.getfield 105, 3) := by decide +kernel
theorem dX12_goesTo_132 : decode cX12_goesTo 132 = .ok (.bipush 8, 2) := by decide +kernel
theorem dX12_goesTo_134 : decode cX12_goesTo 134 = .ok (.iload 4, 2) := by decide +kernel
theorem dX12_goesTo_136 : decode cX12_goesTo 136 = .ok (.imul, 1) := by decide +kernel
theorem dX12_goesTo_137 : decode cX12_goesTo 137 = .ok (.iload 5, 2) := by decide +kernel
theorem dX12_goesTo_139 : decode cX12_goesTo 139 = .ok (.iadd, 1) := by decide +kernel
theorem dX12_goesTo_140 : decode cX12_goesTo 140 = .ok (.iaload, 1) := by decide +kernel
theorem dX12_goesTo_141 : decode cX12_goesTo 141 = .ok (.ifCond .le 34, 3) := by decide +kernel
theorem dX12_goesTo_144 : decode cX12_goesTo 144 = .ok (.aload_n 0, 1) := by decide +kernel
theorem dX12_goesTo_145 : decode cX12_goesTo 145 = .ok (.getfield 105, 3) := by decide +kernel
theorem dX12_goesTo_148 : decode cX12_goesTo 148 = .ok (.bipush 8, 2) := by decide +kernel
theorem dX12_goesTo_150 : decode cX12_goesTo 150 = .ok (.iload 4, 2) := by decide +kernel
theorem dX12_goesTo_152 : decode cX12_goesTo 152 = .ok (.imul, 1) := by decide +kernel
theorem dX12_goesTo_153 : decode cX12_goesTo 153 = .ok (.iload 5, 2) := by decide +kernel
theorem dX12_goesTo_155 : decode cX12_goesTo 155 = .ok (.iadd, 1) := by decide +kernel
theorem dX12_goesTo_156 : decode cX12_goesTo 156 = .ok (.aload_n 0, 1) := by decide +kernel
theorem dX12_goesTo_157 : decode cX12_goesTo 157 = .ok (.getfield 105, 3) := by decide +kernel
theorem dX12_goesTo_160 : decode cX12_goesTo 160 = .ok (.bipush 8, 2) := by decide +kernel
theorem dX12_goesTo_162 : decode cX12_goesTo 162 = .ok (.iload 4, 2) := by decide +kernel
theorem dX12_goesTo_164 : decode cX12_goesTo 164 = .ok (.imul, 1) := by decide +kernel
theorem dX12_goesTo_165 : decode cX12_goesTo 165 = .ok (.iload 5, 2) := by decide +kernel
theorem dX12_goesTo_167 : decode cX12_goesTo 167 = .ok (.iadd, 1) := by decide +kernel
theorem dX12_goesTo_168 : decode cX12_goesTo 168 = .ok (.iaload, 1) := by decide +kernel
theorem dX12_goesTo_169 : decode cX12_goesTo 169 = .ok (.iload_n 2, 1) := by decide +kernel
theorem dX12_goesTo_170 : decode cX12_goesTo 170 = .ok (.isub, 1) := by decide +kernel
theorem dX12_goesTo_171 : decode cX12_goesTo 171 = .ok (.iastore, 1) := by decide +kernel
theorem dX12_goesTo_172 : decode cX12_goesTo 172 = .ok (.goto 31, 3) := by decide +kernel
theorem dX12_goesTo_175 : decode cX12_goesTo 175 = .ok (.aload_n 0, 1) := by decide +kernel
theorem dX12_goesTo_176 : decode cX12_goesTo 176 = .ok (.getfield 105, 3) := by decide +kernel
theorem dX12_goesTo_179 : decode cX12_goesTo 179 = .ok (.bipush 8, 2) := by decide +kernel
theorem dX12_goesTo_181 : decode cX12_goesTo 181 = .ok (.iload 5, 2) := by decide +kernel
theorem dX12_goesTo_183 : decode cX12_goesTo 183 = .ok (.imul, 1) := by decide +kernel
theorem dX12_goesTo_184 : decode cX12_goesTo 184 = .ok (.iload 4, 2) := by decide +kernel
theorem dX12_goesTo_186 : decode cX12_goesTo 186 = .ok (.iadd, 1) := by decide +kernel
theorem dX12_goesTo_187 : decode cX12_goesTo 187 = .ok (.aload_n 0, 1) := by decide +kernel
theorem dX12_goesTo_188 : decode cX12_goesTo 188 = .ok (.getfield 105, 3) := by decide +kernel
theorem dX12_goesTo_191 : decode cX12_goesTo 191 = .ok (.bipush 8, 2) := by decide +kernel
theorem dX12_goesTo_193 : decode cX12_goesTo 193 = .ok (.iload 5, 2) := by decide +kernel
theorem dX12_goesTo_195 : decode cX12_goesTo 195 = .ok (.imul, 1) := by decide +kernel
theorem dX12_goesTo_196 : decode cX12_goesTo 196 = .ok (.iload 4, 2) := by decide +kernel
theorem dX12_goesTo_198 : decode cX12_goesTo 198 = .ok (.iadd, 1) := by decide +kernel
theorem dX12_goesTo_199 : decode cX12_goesTo 199 = .ok (.iaload, 1) := by decide +kernel
theorem dX12_goesTo_200 : decode cX12_goesTo 200 = .ok (.iload_n 2, 1) := by decide +kernel
theorem dX12_goesTo_201 : decode cX12_goesTo 201 = .ok (.iadd, 1) := by decide +kernel
theorem dX12_goesTo_202 : decode cX12_goesTo 202 = .ok (.iastore, 1) := by decide +kernel
theorem dX12_goesTo_203 : decode cX12_goesTo 203 = .ok (.aload_n 0, 1) := by decide +kernel
theorem dX12_goesTo_204 : decode cX12_goesTo 204 = .ok (.getfield 117, 3) := by decide +kernel
theorem dX12_goesTo_207 : decode cX12_goesTo 207 = .ok (.iload 4, 2) := by decide +kernel
theorem dX12_goesTo_209 : decode cX12_goesTo 209 = .ok (.iaload, 1) := by decide +kernel
theorem dX12_goesTo_210 : decode cX12_goesTo 210 = .ok (.istore 4, 2) := by decide +kernel
theorem dX12_goesTo_212 : decode cX12_goesTo 212 = .ok (.goto (-104), 3) := by decide +kernel
theorem dX12_goesTo_215 : decode cX12_goesTo 215 = .ok (.return_, 1) := by decide +kernel
theorem dX12_nearestGetter_0 : decode cX12_nearestGetter 0 = .ok (.iconst (-1), 1) := by decide +kernel
theorem dX12_nearestGetter_1 : decode cX12_nearestGetter 1 = .ok (.istore_n 1, 1) := by decide +kernel
theorem dX12_nearestGetter_2 : decode cX12_nearestGetter 2 = .ok (.iconst 0, 1) := by decide +kernel
theorem dX12_nearestGetter_3 : decode cX12_nearestGetter 3 = .ok (.istore_n 2, 1) := by decide +kernel
theorem dX12_nearestGetter_4 : decode cX12_nearestGetter 4 = .ok (.iload_n 2, 1) := by decide +kernel
theorem dX12_nearestGetter_5 : decode cX12_nearestGetter 5 = .ok (.bipush 8, 2) := by decide +kernel
theorem dX12_nearestGetter_7 : decode cX12_nearestGetter 7 = .ok (.if_icmp .ge 52, 3) := by decide +kernel
theorem dX12_nearestGetter_10 : decode cX12_nearestGetter 10 = .ok (.aload_n 0, 1) := by decide +kernel
theorem dX12_nearestGetter_11 : decode cX12_nearestGetter 11 = .ok (.getfield 111, 3) := by decide +kernel
theorem dX12_nearestGetter_14 : decode cX12_nearestGetter 14 = .ok (.iload_n 2, 1) := by decide +kernel
theorem dX12_nearestGetter_15 : decode cX12_nearestGetter 15 = .ok (.iaload, 1) := by decide +kernel
theorem dX12_nearestGetter_16 : decode cX12_nearestGetter 16 = .ok (.ifCond .ge 37, 3) := by decide +kernel
theorem dX12_nearestGetter_19 : decode cX12_nearestGetter 19 = .ok (.aload_n 0, 1) := by decide +kernel
theorem dX12_nearestGetter_20 : decode cX12_nearestGetter 20 = .ok (.getfield 114, 3) := by decide +kernel
theorem dX12_nearestGetter_23 : decode cX12_nearestGetter 23 = .ok (.iload_n 2, 1) := by decide +kernel
theorem dX12_nearestGetter_24 : decode cX12_nearestGetter 24 = .ok (.iaload, 1) := by decide +kernel
theorem dX12_nearestGetter_25 : decode cX12_nearestGetter 25 = .ok (.sipush 1000, 3) := by decide +kernel
theorem dX12_nearestGetter_28 : decode cX12_nearestGetter 28 = .ok (.if_icmp .ge 25, 3) := by decide +kernel
theorem dX12_nearestGetter_31 : decode cX12_nearestGetter 31 = .ok (.iload_n 1, 1) := by decide +kernel
theorem dX12_nearestGetter_32 : decode cX12_nearestGetter 32 = .ok (.iconst (-1), 1) := by decide +kernel
theorem dX12_nearestGetter_33 : decode cX12_nearestGetter 33 = .ok (.if_icmp .eq 18, 3) := by decide +kernel
theorem dX12_nearestGetter_36 : decode cX12_nearestGetter 36 = .ok (.aload_n 0, 1) := by decide +kernel
theorem dX12_nearestGetter_37 : decode cX12_nearestGetter 37 = .ok (.getfield 114, 3) := by decide +kernel
theorem dX12_nearestGetter_40 : decode cX12_nearestGetter 40 = .ok (.iload_n 2, 1) := by decide +kernel
theorem dX12_nearestGetter_41 : decode cX12_nearestGetter 41 = .ok (.iaload, 1) := by decide +kernel
theorem dX12_nearestGetter_42 : decode cX12_nearestGetter 42 = .ok (.aload_n 0, 1) := by decide +kernel
theorem dX12_nearestGetter_43 : decode cX12_nearestGetter 43 = .ok (.getfield 114, 3) := by decide +kernel
theorem dX12_nearestGetter_46 : decode cX12_nearestGetter 46 = .ok (.iload_n 1, 1) := by decide +kernel
theorem dX12_nearestGetter_47 : decode cX12_nearestGetter 47 = .ok (.iaload, 1) := by decide +kernel
theorem dX12_nearestGetter_48 : decode cX12_nearestGetter 48 = .ok (.if_icmp .ge 5, 3) := by decide +kernel
theorem dX12_nearestGetter_51 : decode cX12_nearestGetter 51 = .ok (.iload_n 2, 1) := by decide +kernel
theorem dX12_nearestGetter_52 : decode cX12_nearestGetter 52 = .ok (.istore_n 1, 1) := by decide +kernel
theorem dX12_nearestGetter_53 : decode cX12_nearestGetter 53 = .ok (.iinc 2 1, 3) := by decide +kernel
theorem dX12_nearestGetter_56 : decode cX12_nearestGetter 56 = .ok (.goto (-52), 3) := by decide +kernel
theorem dX12_nearestGetter_59 : decode cX12_nearestGetter 59 = .ok (.iload_n 1, 1) := by decide +kernel
theorem dX12_nearestGetter_60 : decode cX12_nearestGetter 60 = .ok (.ireturn, 1) := by decide +kernel
theorem dX12_round_0 : decode cX12_round 0 = .ok (.aload_n 0, 1) := by decide +kernel
theorem dX12_round_1 : decode cX12_round 1 = .ok (.invokevirtual 362, 3) := by decide +kernel
theorem dX12_round_4 : decode cX12_round 4 = .ok (.aload_n 0, 1) := by decide +kernel
theorem dX12_round_5 : decode cX12_round 5 = .ok (.invokevirtual 365, 3) := by decide +kernel
theorem dX12_round_8 : decode cX12_round 8 = .ok (.aload_n 0, 1) := by decide +kernel
theorem dX12_round_9 : decode cX12_round 9 = .ok (.invokevirtual 368, 3) := by decide +kernel
theorem dX12_round_12 : decode cX12_round 12 = .ok (.istore_n 1, 1) := by decide +kernel
theorem dX12_round_13 : decode cX12_round 13 = .ok (.iload_n 1, 1) := by decide +kernel
theorem dX12_round_14 : decode cX12_round 14 = .ok (.iconst (-1), 1) := by decide +kernel
theorem dX12_round_15 : decode cX12_round 15 = .ok (.if_icmp .eq 20, 3) := by decide +kernel
theorem dX12_round_18 : decode cX12_round 18 = .ok (.aload_n 0, 1) := by decide +kernel
theorem dX12_round_19 : decode cX12_round 19 = .ok (.iload_n 1, 1) := by decide +kernel
theorem dX12_round_20 : decode cX12_round 20 = .ok (.invokevirtual 371, 3) := by decide +kernel
theorem dX12_round_23 : decode cX12_round 23 = .ok (.aload_n 0, 1) := by decide +kernel
theorem dX12_round_24 : decode cX12_round 24 = .ok (.invokevirtual 365, 3) := by decide +kernel
theorem dX12_round_27 : decode cX12_round 27 = .ok (.aload_n 0, 1) := by decide +kernel
theorem dX12_round_28 : decode cX12_round 28 = .ok (.invokevirtual 368, 3) := by decide +kernel
theorem dX12_round_31 : decode cX12_round 31 = .ok (.istore_n 1, 1) := by decide +kernel
theorem dX12_round_32 : decode cX12_round 32 = .ok (.goto (-19), 3) := by decide +kernel
theorem dX12_round_35 : decode cX12_round 35 = .ok (.iconst 0, 1) := by decide +kernel
theorem dX12_round_36 : decode cX12_round 36 = .ok (.istore_n 1, 1) := by decide +kernel
theorem dX12_round_37 : decode cX12_round 37 = .ok (.iconst 0, 1) := by decide +kernel
theorem dX12_round_38 : decode cX12_round 38 = .ok (.istore_n 2, 1) := by decide +kernel
theorem dX12_round_39 : decode cX12_round 39 = .ok (.iload_n 2, 1) := by decide +kernel
theorem dX12_round_40 : decode cX12_round 40 = .ok (.bipush 64, 2) := by decide +kernel
theorem dX12_round_42 : decode cX12_round 42 = .ok (.if_icmp .ge 18, 3) := by decide +kernel
theorem dX12_round_45 : decode cX12_round 45 = .ok (.iload_n 1, 1) := by decide +kernel
theorem dX12_round_46 : decode cX12_round 46 = .ok (.aload_n 0, 1) := by decide +kernel
theorem dX12_round_47 : decode cX12_round 47 = .ok (.getfield 105, 3) := by decide +kernel
theorem dX12_round_50 : decode cX12_round 50 = .ok (.iload_n 2, 1) := by decide +kernel
theorem dX12_round_51 : decode cX12_round 51 = .ok (.iaload, 1) := by decide +kernel
theorem dX12_round_52 : decode cX12_round 52 = .ok (.iadd, 1) := by decide +kernel
theorem dX12_round_53 : decode cX12_round 53 = .ok (.istore_n 1, 1) := by decide +kernel
theorem dX12_round_54 : decode cX12_round 54 = .ok (.iinc 2 1, 3) := by decide +kernel
theorem dX12_round_57 : decode cX12_round 57 = .ok (.goto (-18), 3) := by decide +kernel
theorem dX12_round_60 : decode cX12_round 60 = .ok (.iload_n 1, 1) := by decide +kernel
theorem dX12_round_61 : decode cX12_round 61 = .ok (.ireturn, 1) := by decide +kernel
theorem dX12_takings_0 : decode cX12_takings 0 = .ok (.aload_n 0, 1) := by decide +kernel
theorem dX12_takings_1 : decode cX12_takings 1 = .ok (.invokevirtual 362, 3) := by decide +kernel
theorem dX12_takings_4 : decode cX12_takings 4 = .ok (.iconst 0, 1) := by decide +kernel
theorem dX12_takings_5 : decode cX12_takings 5 = .ok (.istore_n 1, 1) := by decide +kernel
theorem dX12_takings_6 : decode cX12_takings 6 = .ok (.iconst 0, 1) := by decide +kernel
theorem dX12_takings_7 : decode cX12_takings 7 = .ok (.istore_n 2, 1) := by decide +kernel
theorem dX12_takings_8 : decode cX12_takings 8 = .ok (.iload_n 2, 1) := by decide +kernel
theorem dX12_takings_9 : decode cX12_takings 9 = .ok (.bipush 8, 2) := by decide +kernel
theorem dX12_takings_11 : decode cX12_takings 11 = .ok (.if_icmp .ge 28, 3) := by decide +kernel
theorem dX12_takings_14 : decode cX12_takings 14 = .ok (.aload_n 0, 1) := by decide +kernel
theorem dX12_takings_15 : decode cX12_takings 15 = .ok (.getfield 111, 3) := by decide +kernel
theorem dX12_takings_18 : decode cX12_takings 18 = .ok (.iload_n 2, 1) := by decide +kernel
theorem dX12_takings_19 : decode cX12_takings 19 = .ok (.iaload, 1) := by decide +kernel
theorem dX12_takings_20 : decode cX12_takings 20 = .ok (.ifCond .eq 11, 3) := by decide +kernel
theorem dX12_takings_23 : decode cX12_takings 23 = .ok (.iload_n 1, 1) := by decide +kernel
theorem dX12_takings_24 : decode cX12_takings 24 = .ok (.iconst 1, 1) := by decide +kernel
theorem dX12_takings_25 : decode cX12_takings 25 = .ok (.iload_n 2, 1) := by decide +kernel
theorem dX12_takings_26 : decode cX12_takings 26 = .ok (.ishl, 1) := by decide +kernel
theorem dX12_takings_27 : decode cX12_takings 27 = .ok (.ior, 1) := by decide +kernel
theorem dX12_takings_28 : decode cX12_takings 28 = .ok (.goto 4, 3) := by decide +kernel
theorem dX12_takings_31 : decode cX12_takings 31 = .ok (.iload_n 1, 1) := by decide +kernel
theorem dX12_takings_32 : decode cX12_takings 32 = .ok (.istore_n 1, 1) := by decide +kernel
theorem dX12_takings_33 : decode cX12_takings 33 = .ok (.iinc 2 1, 3) := by decide +kernel
theorem dX12_takings_36 : decode cX12_takings 36 = .ok (.goto (-28), 3) := by decide +kernel
theorem dX12_takings_39 : decode cX12_takings 39 = .ok (.aload_n 0, 1) := by decide +kernel
theorem dX12_takings_40 : decode cX12_takings 40 = .ok (.getfield 120, 3) := by decide +kernel
theorem dX12_takings_43 : decode cX12_takings 43 = .ok (.iconst 0, 1) := by decide +kernel
theorem dX12_takings_44 : decode cX12_takings 44 = .ok (.iconst 0, 1) := by decide +kernel
theorem dX12_takings_45 : decode cX12_takings 45 = .ok (.iastore, 1) := by decide +kernel
theorem dX12_takings_46 : decode cX12_takings 46 = .ok (.iconst 1, 1) := by decide +kernel
theorem dX12_takings_47 : decode cX12_takings 47 = .ok (.istore_n 2, 1) := by decide +kernel
theorem dX12_takings_48 : decode cX12_takings 48 = .ok (.iload_n 2, 1) := by decide +kernel
theorem dX12_takings_49 : decode cX12_takings 49 = .ok (.sipush 256, 3) := by decide +kernel
theorem dX12_takings_52 : decode cX12_takings 52 = .ok (.if_icmp .ge 102, 3) := by decide +kernel
theorem dX12_takings_55 : decode cX12_takings 55 = .ok (.iconst 0, 1) := by decide +kernel
theorem dX12_takings_56 : decode cX12_takings 56 = .ok (.istore_n 3, 1) := by decide +kernel
theorem dX12_takings_57 : decode cX12_takings 57 = .ok (.iconst 0, 1) := by decide +kernel
theorem dX12_takings_58 : decode cX12_takings 58 = .ok (.istore 4, 2) := by decide +kernel
theorem dX12_takings_60 : decode cX12_takings 60 = .ok (.iconst 0, 1) := by decide +kernel
theorem dX12_takings_61 : decode cX12_takings 61 = .ok (.istore 5, 2) := by decide +kernel
theorem dX12_takings_63 : decode cX12_takings 63 = .ok (.iload 5, 2) := by decide +kernel
theorem dX12_takings_65 : decode cX12_takings 65 = .ok (.bipush 8, 2) := by decide +kernel
theorem dX12_takings_67 : decode cX12_takings 67 = .ok (.if_icmp .ge 62, 3) := by decide +kernel
theorem dX12_takings_70 : decode cX12_takings 70 = .ok (.iload_n 2, 1) := by decide +kernel
theorem dX12_takings_71 : decode cX12_takings 71 = .ok (.iload 5, 2) := by decide +kernel
theorem dX12_takings_73 : decode cX12_takings 73 = .ok (.ishr, 1) := by decide +kernel
theorem dX12_takings_74 : decode cX12_takings 74 = .ok (.iconst 1, 1) := by decide +kernel
theorem dX12_takings_75 : decode cX12_takings 75 = .ok (.iand, 1) := by decide +kernel
theorem dX12_takings_76 : decode cX12_takings 76 = .ok (.ifCond .ne 6, 3) := by decide +kernel
theorem dX12_takings_79 : decode cX12_takings 79 = .ok (.goto 44, 3) := by decide +kernel
theorem dX12_takings_82 : decode cX12_takings 82 = .ok (.iload_n 3, 1) := by decide +kernel
theorem dX12_takings_83 : decode cX12_takings 83 = .ok (.aload_n 0, 1) := by decide +kernel
theorem dX12_takings_84 : decode cX12_takings 84 = .ok (.getfield 111, 3) := by decide +kernel
theorem dX12_takings_87 : decode cX12_takings 87 = .ok (.iload 5, 2) := by decide +kernel
theorem dX12_takings_89 : decode cX12_takings 89 = .ok (.iaload, 1) := by decide +kernel
theorem dX12_takings_90 : decode cX12_takings 90 = .ok (.iadd, 1) := by decide +kernel
theorem dX12_takings_91 : decode cX12_takings 91 = .ok (.istore_n 3, 1) := by decide +kernel
theorem dX12_takings_92 : decode cX12_takings 92 = .ok (.aload_n 0, 1) := by decide +kernel
theorem dX12_takings_93 : decode cX12_takings 93 = .ok (.getfield 120, 3) := by decide +kernel
theorem dX12_takings_96 : decode cX12_takings 96 = .ok (.iload_n 2, 1) := by decide +kernel
theorem dX12_takings_97 : decode cX12_takings 97 = .ok (.iconst 1, 1) := by decide +kernel
theorem dX12_takings_98 : decode cX12_takings 98 = .ok (.iload 5, 2) := by decide +kernel
theorem dX12_takings_100 : decode cX12_takings 100 = .ok (.ishl, 1) := by decide +kernel
theorem dX12_takings_101 : decode cX12_takings 101 = .ok (.iconst (-1), 1) := by decide +kernel
theorem dX12_takings_102 : decode cX12_takings 102 = .ok (.ixor, 1) := by decide +kernel
theorem dX12_takings_103 : decode cX12_takings 103 = .ok (.iand, 1) := by decide +kernel
theorem dX12_takings_104 : decode cX12_takings 104 = .ok (.iaload, 1) := by decide +kernel
theorem dX12_takings_105 : decode cX12_takings 105 = .ok (.istore 6, 2) := by decide +kernel
theorem dX12_takings_107 : decode cX12_takings 107 = .ok (.iload 6, 2) := by decide +kernel
theorem dX12_takings_109 : decode cX12_takings 109 = .ok (.iload 4, 2) := by decide +kernel
theorem dX12_takings_111 : decode cX12_takings 111 = .ok (.if_icmp .le 8, 3) := by decide +kernel
theorem dX12_takings_114 : decode cX12_takings 114 = .ok (.iload 6, 2) := by decide +kernel
theorem dX12_takings_116 : decode cX12_takings 116 = .ok (.goto 5, 3) := by decide +kernel
theorem dX12_takings_119 : decode cX12_takings 119 = .ok (.iload 4, 2) := by decide +kernel
theorem dX12_takings_121 : decode cX12_takings 121 = .ok (.istore 4, 2) := by decide +kernel
theorem dX12_takings_123 : decode cX12_takings 123 = .ok (.iinc 5 1, 3) := by decide +kernel
theorem dX12_takings_126 : decode cX12_takings 126 = .ok (.goto (-63), 3) := by decide +kernel
theorem dX12_takings_129 : decode cX12_takings 129 = .ok (.aload_n 0, 1) := by decide +kernel
theorem dX12_takings_130 : decode cX12_takings 130 = .ok (.getfield 120, 3) := by decide +kernel
theorem dX12_takings_133 : decode cX12_takings 133 = .ok (.iload_n 2, 1) := by decide +kernel
theorem dX12_takings_134 : decode cX12_takings 134 = .ok (.iload_n 3, 1) := by decide +kernel
theorem dX12_takings_135 : decode cX12_takings 135 = .ok (.ifCond .ne 10, 3) := by decide +kernel
theorem dX12_takings_138 : decode cX12_takings 138 = .ok (.iload 4, 2) := by decide +kernel
theorem dX12_takings_140 : decode cX12_takings 140 = .ok (.iconst 1, 1) := by decide +kernel
theorem dX12_takings_141 : decode cX12_takings 141 = .ok (.iadd, 1) := by decide +kernel
theorem dX12_takings_142 : decode cX12_takings 142 = .ok (.goto 5, 3) := by decide +kernel
theorem dX12_takings_145 : decode cX12_takings 145 = .ok (.iload 4, 2) := by decide +kernel
theorem dX12_takings_147 : decode cX12_takings 147 = .ok (.iastore, 1) := by decide +kernel
theorem dX12_takings_148 : decode cX12_takings 148 = .ok (.iinc 2 1, 3) := by decide +kernel
theorem dX12_takings_151 : decode cX12_takings 151 = .ok (.goto (-103), 3) := by decide +kernel
theorem dX12_takings_154 : decode cX12_takings 154 = .ok (.iload_n 1, 1) := by decide +kernel
theorem dX12_takings_155 : decode cX12_takings 155 = .ok (.invokestatic 172, 3) := by decide +kernel
theorem dX12_takings_158 : decode cX12_takings 158 = .ok (.aload_n 0, 1) := by decide +kernel
theorem dX12_takings_159 : decode cX12_takings 159 = .ok (.getfield 120, 3) := by decide +kernel
theorem dX12_takings_162 : decode cX12_takings 162 = .ok (.iload_n 1, 1) := by decide +kernel
theorem dX12_takings_163 : decode cX12_takings 163 = .ok (.iaload, 1) := by decide +kernel
theorem dX12_takings_164 : decode cX12_takings 164 = .ok (.isub, 1) := by decide +kernel
theorem dX12_takings_165 : decode cX12_takings 165 = .ok (.ireturn, 1) := by decide +kernel
theorem dX12_end_0 : decode cX12_end 0 = .ok (.iload_n 1, 1) := by decide +kernel
theorem dX12_end_1 : decode cX12_end 1 = .ok (.invokestatic 162, 3) := by decide +kernel
theorem dX12_end_4 : decode cX12_end 4 = .ok (.ifCond .eq 34, 3) := by decide +kernel
theorem dX12_end_7 : decode cX12_end 7 = .ok (.iload_n 2, 1) := by decide +kernel
theorem dX12_end_8 : decode cX12_end 8 = .ok (.iconst 0, 1) := by decide +kernel
theorem dX12_end_9 : decode cX12_end 9 = .ok (.sipush 300, 3) := by decide +kernel
theorem dX12_end_12 : decode cX12_end 12 = .ok (.invokestatic 168, 3) := by decide +kernel
theorem dX12_end_15 : decode cX12_end 15 = .ok (.ifCond .eq 23, 3) := by decide +kernel
theorem dX12_end_18 : decode cX12_end 18 = .ok (.iload_n 3, 1) := by decide +kernel
theorem dX12_end_19 : decode cX12_end 19 = .ok (.iconst 1, 1) := by decide +kernel
theorem dX12_end_20 : decode cX12_end 20 = .ok (.bipush 20, 2) := by decide +kernel
theorem dX12_end_22 : decode cX12_end 22 = .ok (.invokestatic 168, 3) := by decide +kernel
theorem dX12_end_25 : decode cX12_end 25 = .ok (.ifCond .eq 13, 3) := by decide +kernel
theorem dX12_end_28 : decode cX12_end 28 = .ok (.aload_n 0, 1) := by decide +kernel
theorem dX12_end_29 : decode cX12_end 29 = .ok (.getfield 123, 3) := by decide +kernel
theorem dX12_end_32 : decode cX12_end 32 = .ok (.iload_n 1, 1) := by decide +kernel
theorem dX12_end_33 : decode cX12_end 33 = .ok (.iaload, 1) := by decide +kernel
theorem dX12_end_34 : decode cX12_end 34 = .ok (.iconst 5, 1) := by decide +kernel
theorem dX12_end_35 : decode cX12_end 35 = .ok (.if_icmp .ne 5, 3) := by decide +kernel
theorem dX12_end_38 : decode cX12_end 38 = .ok (.iconst (-1), 1) := by decide +kernel
theorem dX12_end_39 : decode cX12_end 39 = .ok (.ireturn, 1) := by decide +kernel
theorem dX12_end_40 : decode cX12_end 40 = .ok (.aload_n 0, 1) := by decide +kernel
theorem dX12_end_41 : decode cX12_end 41 = .ok (.getfield 126, 3) := by decide +kernel
theorem dX12_end_44 : decode cX12_end 44 = .ok (.iconst 5, 1) := by decide +kernel
theorem dX12_end_45 : decode cX12_end 45 = .ok (.iload_n 1, 1) := by decide +kernel
theorem dX12_end_46 : decode cX12_end 46 = .ok (.imul, 1) := by decide +kernel
theorem dX12_end_47 : decode cX12_end 47 = .ok (.aload_n 0, 1) := by decide +kernel
theorem dX12_end_48 : decode cX12_end 48 = .ok (.getfield 123, 3) := by decide +kernel
theorem dX12_end_51 : decode cX12_end 51 = .ok (.iload_n 1, 1) := by decide +kernel
theorem dX12_end_52 : decode cX12_end 52 = .ok (.iaload, 1) := by decide +kernel
theorem dX12_end_53 : decode cX12_end 53 = .ok (.iadd, 1) := by decide +kernel
theorem dX12_end_54 : decode cX12_end 54 = .ok (.iload_n 2, 1) := by decide +kernel
theorem dX12_end_55 : decode cX12_end 55 = .ok (.iastore, 1) := by decide +kernel
theorem dX12_end_56 : decode cX12_end 56 = .ok (.aload_n 0, 1) := by decide +kernel
theorem dX12_end_57 : decode cX12_end 57 = .ok (.getfield 129, 3) := by decide +kernel
theorem dX12_end_60 : decode cX12_end 60 = .ok (.iconst 5, 1) := by decide +kernel
theorem dX12_end_61 : decode cX12_end 61 = .ok (.iload_n 1, 1) := by decide +kernel
theorem dX12_end_62 : decode cX12_end 62 = .ok (.imul, 1) := by decide +kernel
theorem dX12_end_63 : decode cX12_end 63 = .ok (.aload_n 0, 1) := by decide +kernel
theorem dX12_end_64 : decode cX12_end 64 = .ok (.getfield 123, 3) := by decide +kernel
theorem dX12_end_67 : decode cX12_end 67 = .ok (.iload_n 1, 1) := by decide +kernel
theorem dX12_end_68 : decode cX12_end 68 = .ok (.iaload, 1) := by decide +kernel
theorem dX12_end_69 : decode cX12_end 69 = .ok (.iadd, 1) := by decide +kernel
theorem dX12_end_70 : decode cX12_end 70 = .ok (.iload_n 3, 1) := by decide +kernel
theorem dX12_end_71 : decode cX12_end 71 = .ok (.iastore, 1) := by decide +kernel
theorem dX12_end_72 : decode cX12_end 72 = .ok (.aload_n 0, 1) := by decide +kernel
theorem dX12_end_73 : decode cX12_end 73 = .ok (.getfield 123, 3) := by decide +kernel
theorem dX12_end_76 : decode cX12_end 76 = .ok (.iload_n 1, 1) := by decide +kernel
theorem dX12_end_77 : decode cX12_end 77 = .ok (.aload_n 0, 1) := by decide +kernel
theorem dX12_end_78 : decode cX12_end 78 = .ok (.getfield 123, 3) := by decide +kernel
theorem dX12_end_81 : decode cX12_end 81 = .ok (.iload_n 1, 1) := by decide +kernel
theorem dX12_end_82 : decode cX12_end 82 = .ok (.iaload, 1) := by decide +kernel
theorem dX12_end_83 : decode cX12_end 83 = .ok (.iconst 1, 1) := by decide +kernel
theorem dX12_end_84 : decode cX12_end 84 = .ok (.iadd, 1) := by decide +kernel
theorem dX12_end_85 : decode cX12_end 85 = .ok (.iastore, 1) := by decide +kernel
theorem dX12_end_86 : decode cX12_end 86 = .ok (.aload_n 0, 1) := by decide +kernel
theorem dX12_end_87 : decode cX12_end 87 = .ok (.getfield 123, 3) := by decide +kernel
theorem dX12_end_90 : decode cX12_end 90 = .ok (.iload_n 1, 1) := by decide +kernel
theorem dX12_end_91 : decode cX12_end 91 = .ok (.iaload, 1) := by decide +kernel
theorem dX12_end_92 : decode cX12_end 92 = .ok (.ireturn, 1) := by decide +kernel
theorem dX12_bridge_0 : decode cX12_bridge 0 = .ok (.iload_n 2, 1) := by decide +kernel
theorem dX12_bridge_1 : decode cX12_bridge 1 = .ok (.iconst 1, 1) := by decide +kernel
theorem dX12_bridge_2 : decode cX12_bridge 2 = .ok (.bipush 100, 2) := by decide +kernel
theorem dX12_bridge_4 : decode cX12_bridge 4 = .ok (.invokestatic 168, 3) := by decide +kernel
theorem dX12_bridge_7 : decode cX12_bridge 7 = .ok (.ifCond .eq 23, 3) := by decide +kernel
theorem dX12_bridge_10 : decode cX12_bridge 10 = .ok (.iload_n 1, 1) := by decide +kernel
theorem dX12_bridge_11 : decode cX12_bridge 11 = .ok (.iconst 0, 1) := by decide +kernel
theorem dX12_bridge_12 : decode cX12_bridge 12 = .ok (.iload_n 2, 1) := by decide +kernel
theorem dX12_bridge_13 : decode cX12_bridge 13 = .ok (.invokestatic 168, 3) := by decide +kernel
theorem dX12_bridge_16 : decode cX12_bridge 16 = .ok (.ifCond .eq 14, 3) := by decide +kernel
theorem dX12_bridge_19 : decode cX12_bridge 19 = .ok (.iload_n 3, 1) := by decide +kernel
theorem dX12_bridge_20 : decode cX12_bridge 20 = .ok (.iconst 0, 1) := by decide +kernel
theorem dX12_bridge_21 : decode cX12_bridge 21 = .ok (.sipush 600, 3) := by decide +kernel
theorem dX12_bridge_24 : decode cX12_bridge 24 = .ok (.invokestatic 168, 3) := by decide +kernel
theorem dX12_bridge_27 : decode cX12_bridge 27 = .ok (.ifCond .ne 5, 3) := by decide +kernel
theorem dX12_bridge_30 : decode cX12_bridge 30 = .ok (.iconst 0, 1) := by decide +kernel
theorem dX12_bridge_31 : decode cX12_bridge 31 = .ok (.ireturn, 1) := by decide +kernel
theorem dX12_bridge_32 : decode cX12_bridge 32 = .ok (.aload_n 0, 1) := by decide +kernel
theorem dX12_bridge_33 : decode cX12_bridge 33 = .ok (.iload_n 1, 1) := by decide +kernel
theorem dX12_bridge_34 : decode cX12_bridge 34 = .ok (.putfield 374, 3) := by decide +kernel
theorem dX12_bridge_37 : decode cX12_bridge 37 = .ok (.aload_n 0, 1) := by decide +kernel
theorem dX12_bridge_38 : decode cX12_bridge 38 = .ok (.iload_n 2, 1) := by decide +kernel
theorem dX12_bridge_39 : decode cX12_bridge 39 = .ok (.putfield 148, 3) := by decide +kernel
theorem dX12_bridge_42 : decode cX12_bridge 42 = .ok (.aload_n 0, 1) := by decide +kernel
theorem dX12_bridge_43 : decode cX12_bridge 43 = .ok (.iload_n 3, 1) := by decide +kernel
theorem dX12_bridge_44 : decode cX12_bridge 44 = .ok (.putfield 377, 3) := by decide +kernel
theorem dX12_bridge_47 : decode cX12_bridge 47 = .ok (.iconst 1, 1) := by decide +kernel
theorem dX12_bridge_48 : decode cX12_bridge 48 = .ok (.ireturn, 1) := by decide +kernel
theorem dX12_isCrossing_0 : decode cX12_isCrossing 0 = .ok (.aload_n 0, 1) := by decide +kernel
theorem dX12_isCrossing_1 : decode cX12_isCrossing 1 = .ok (.getfield 380, 3) := by decide +kernel
theorem dX12_isCrossing_4 : decode cX12_isCrossing 4 = .ok (.iload_n 1, 1) := by decide +kernel
theorem dX12_isCrossing_5 : decode cX12_isCrossing 5 = .ok (.ishr, 1) := by decide +kernel
theorem dX12_isCrossing_6 : decode cX12_isCrossing 6 = .ok (.iconst 1, 1) := by decide +kernel
theorem dX12_isCrossing_7 : decode cX12_isCrossing 7 = .ok (.iand, 1) := by decide +kernel
theorem dX12_isCrossing_8 : decode cX12_isCrossing 8 = .ok (.iconst 1, 1) := by decide +kernel
theorem dX12_isCrossing_9 : decode cX12_isCrossing 9 = .ok (.if_icmp .ne 7, 3) := by decide +kernel
theorem dX12_isCrossing_12 : decode cX12_isCrossing 12 = .ok (.iconst 1, 1) := by decide +kernel
theorem dX12_isCrossing_13 : decode cX12_isCrossing 13 = .ok (.goto 4, 3) := by decide +kernel
theorem dX12_isCrossing_16 : decode cX12_isCrossing 16 = .ok (.iconst 0, 1) := by decide +kernel
theorem dX12_isCrossing_17 : decode cX12_isCrossing 17 = .ok (.ireturn, 1) := by decide +kernel
theorem dX12_crosses_0 : decode cX12_crosses 0 = .ok (.iload_n 1, 1) := by decide +kernel
theorem dX12_crosses_1 : decode cX12_crosses 1 = .ok (.invokestatic 162, 3) := by decide +kernel
theorem dX12_crosses_4 : decode cX12_crosses 4 = .ok (.ifCond .eq 12, 3) := by decide +kernel
theorem dX12_crosses_7 : decode cX12_crosses 7 = .ok (.aload_n 0, 1) := by decide +kernel
theorem dX12_crosses_8 : decode cX12_crosses 8 = .ok (.iload_n 1, 1) := by decide +kernel
theorem dX12_crosses_9 : decode cX12_crosses 9 = .ok (.invokevirtual 383, 3) := by decide +kernel
theorem dX12_crosses_12 : decode cX12_crosses 12 = .ok (.iload_n 2, 1) := by decide +kernel
theorem dX12_crosses_13 : decode cX12_crosses 13 = .ok (.if_icmp .ne 5, 3) := by decide +kernel
theorem dX12_crosses_16 : decode cX12_crosses 16 = .ok (.iconst 0, 1) := by decide +kernel
theorem dX12_crosses_17 : decode cX12_crosses 17 = .ok (.ireturn, 1) := by decide +kernel
theorem dX12_crosses_18 : decode cX12_crosses 18 = .ok (.aload_n 0, 1) := by decide +kernel
theorem dX12_crosses_19 : decode cX12_crosses 19 = .ok (.iload_n 2, 1) := by decide +kernel
theorem dX12_crosses_20 : decode cX12_crosses 20 = .ok (.ifCond .eq 14, 3) := by decide +kernel
theorem dX12_crosses_23 : decode cX12_crosses 23 = .ok (.aload_n 0, 1) := by decide +kernel
theorem dX12_crosses_24 : decode cX12_crosses 24 = .ok (.getfield 380, 3) := by decide +kernel
theorem dX12_crosses_27 : decode cX12_crosses 27 = .ok (.iconst 1, 1) := by decide +kernel
theorem dX12_crosses_28 : decode cX12_crosses 28 = .ok (.iload_n 1, 1) := by decide +kernel
theorem dX12_crosses_29 : decode cX12_crosses 29 = .ok (.ishl, 1) := by decide +kernel
theorem dX12_crosses_30 : decode cX12_crosses 30 = .ok (.ior, 1) := by decide +kernel
theorem dX12_crosses_31 : decode cX12_crosses 31 = .ok (.goto 13, 3) := by decide +kernel
theorem dX12_crosses_34 : decode cX12_crosses 34 = .ok (.aload_n 0, 1) := by decide +kernel
theorem dX12_crosses_35 : decode cX12_crosses 35 = .ok (.getfield 380, 3) := by decide +kernel
theorem dX12_crosses_38 : decode cX12_crosses 38 = .ok (.iconst 1, 1) := by decide +kernel
theorem dX12_crosses_39 : decode cX12_crosses 39 = .ok (.iload_n 1, 1) := by decide +kernel
theorem dX12_crosses_40 : decode cX12_crosses 40 = .ok (.ishl, 1) := by decide +kernel
theorem dX12_crosses_41 : decode cX12_crosses 41 = .ok (.iconst (-1), 1) := by decide +kernel
theorem dX12_crosses_42 : decode cX12_crosses 42 = .ok (.ixor, 1) := by decide +kernel
theorem dX12_crosses_43 : decode cX12_crosses 43 = .ok (.iand, 1) := by decide +kernel
theorem dX12_crosses_44 : decode cX12_crosses 44 = .ok (.putfield 380, 3) := by decide +kernel
theorem dX12_crosses_47 : decode cX12_crosses 47 = .ok (.iconst 1, 1) := by decide +kernel
theorem dX12_crosses_48 : decode cX12_crosses 48 = .ok (.ireturn, 1) := by decide +kernel
theorem dX12_endsOf_0 : decode cX12_endsOf 0 = .ok (.aload_n 0, 1) := by decide +kernel
theorem dX12_endsOf_1 : decode cX12_endsOf 1 = .ok (.getfield 123, 3) := by decide +kernel
theorem dX12_endsOf_4 : decode cX12_endsOf 4 = .ok (.iload_n 1, 1) := by decide +kernel
theorem dX12_endsOf_5 : decode cX12_endsOf 5 = .ok (.iaload, 1) := by decide +kernel
theorem dX12_endsOf_6 : decode cX12_endsOf 6 = .ok (.ifCond .ne 7, 3) := by decide +kernel
theorem dX12_endsOf_9 : decode cX12_endsOf 9 = .ok (.iconst 1, 1) := by decide +kernel
theorem dX12_endsOf_10 : decode cX12_endsOf 10 = .ok (.goto 9, 3) := by decide +kernel
theorem dX12_endsOf_13 : decode cX12_endsOf 13 = .ok (.aload_n 0, 1) := by decide +kernel
theorem dX12_endsOf_14 : decode cX12_endsOf 14 = .ok (.getfield 123, 3) := by decide +kernel
theorem dX12_endsOf_17 : decode cX12_endsOf 17 = .ok (.iload_n 1, 1) := by decide +kernel
theorem dX12_endsOf_18 : decode cX12_endsOf 18 = .ok (.iaload, 1) := by decide +kernel
theorem dX12_endsOf_19 : decode cX12_endsOf 19 = .ok (.ireturn, 1) := by decide +kernel
theorem dX12_weightAt_0 : decode cX12_weightAt 0 = .ok (.aload_n 0, 1) := by decide +kernel
theorem dX12_weightAt_1 : decode cX12_weightAt 1 = .ok (.getfield 123, 3) := by decide +kernel
theorem dX12_weightAt_4 : decode cX12_weightAt 4 = .ok (.iload_n 1, 1) := by decide +kernel
theorem dX12_weightAt_5 : decode cX12_weightAt 5 = .ok (.iaload, 1) := by decide +kernel
theorem dX12_weightAt_6 : decode cX12_weightAt 6 = .ok (.ifCond .ne 7, 3) := by decide +kernel
theorem dX12_weightAt_9 : decode cX12_weightAt 9 = .ok (.iconst 1, 1) := by decide +kernel
theorem dX12_weightAt_10 : decode cX12_weightAt 10 = .ok (.goto 13, 3) := by decide +kernel
theorem dX12_weightAt_13 : decode cX12_weightAt 13 = .ok (.aload_n 0, 1) := by decide +kernel
theorem dX12_weightAt_14 : decode cX12_weightAt 14 = .ok (.getfield 129, 3) := by decide +kernel
theorem dX12_weightAt_17 : decode cX12_weightAt 17 = .ok (.iconst 5, 1) := by decide +kernel
theorem dX12_weightAt_18 : decode cX12_weightAt 18 = .ok (.iload_n 1, 1) := by decide +kernel
theorem dX12_weightAt_19 : decode cX12_weightAt 19 = .ok (.imul, 1) := by decide +kernel
theorem dX12_weightAt_20 : decode cX12_weightAt 20 = .ok (.iload_n 2, 1) := by decide +kernel
theorem dX12_weightAt_21 : decode cX12_weightAt 21 = .ok (.iadd, 1) := by decide +kernel
theorem dX12_weightAt_22 : decode cX12_weightAt 22 = .ok (.iaload, 1) := by decide +kernel
theorem dX12_weightAt_23 : decode cX12_weightAt 23 = .ok (.ireturn, 1) := by decide +kernel
theorem dX12_wayAt_0 : decode cX12_wayAt 0 = .ok (.aload_n 0, 1) := by decide +kernel
theorem dX12_wayAt_1 : decode cX12_wayAt 1 = .ok (.getfield 123, 3) := by decide +kernel
theorem dX12_wayAt_4 : decode cX12_wayAt 4 = .ok (.iload_n 1, 1) := by decide +kernel
theorem dX12_wayAt_5 : decode cX12_wayAt 5 = .ok (.iaload, 1) := by decide +kernel
theorem dX12_wayAt_6 : decode cX12_wayAt 6 = .ok (.ifCond .ne 7, 3) := by decide +kernel
theorem dX12_wayAt_9 : decode cX12_wayAt 9 = .ok (.iconst 0, 1) := by decide +kernel
theorem dX12_wayAt_10 : decode cX12_wayAt 10 = .ok (.goto 13, 3) := by decide +kernel
theorem dX12_wayAt_13 : decode cX12_wayAt 13 = .ok (.aload_n 0, 1) := by decide +kernel
theorem dX12_wayAt_14 : decode cX12_wayAt 14 = .ok (.getfield 126, 3) := by decide +kernel
theorem dX12_wayAt_17 : decode cX12_wayAt 17 = .ok (.iconst 5, 1) := by decide +kernel
theorem dX12_wayAt_18 : decode cX12_wayAt 18 = .ok (.iload_n 1, 1) := by decide +kernel
theorem dX12_wayAt_19 : decode cX12_wayAt 19 = .ok (.imul, 1) := by decide +kernel
theorem dX12_wayAt_20 : decode cX12_wayAt 20 = .ok (.iload_n 2, 1) := by decide +kernel
theorem dX12_wayAt_21 : decode cX12_wayAt 21 = .ok (.iadd, 1) := by decide +kernel
theorem dX12_wayAt_22 : decode cX12_wayAt 22 = .ok (.iaload, 1) := by decide +kernel
theorem dX12_wayAt_23 : decode cX12_wayAt 23 = .ok (.iload_n 3, 1) := by decide +kernel
theorem dX12_wayAt_24 : decode cX12_wayAt 24 = .ok (.ifCond .eq 18, 3) := by decide +kernel
theorem dX12_wayAt_27 : decode cX12_wayAt 27 = .ok (.aload_n 0, 1) := by decide +kernel
theorem dX12_wayAt_28 : decode cX12_wayAt 28 = .ok (.iload_n 1, 1) := by decide +kernel
theorem dX12_wayAt_29 : decode cX12_wayAt 29 = .ok (.invokevirtual 383, 3) := by decide +kernel
theorem dX12_wayAt_32 : decode cX12_wayAt 32 = .ok (.ifCond .eq 10, 3) := by decide +kernel
theorem dX12_wayAt_35 : decode cX12_wayAt 35 = .ok (.aload_n 0, 1) := by decide +kernel
theorem dX12_wayAt_36 : decode cX12_wayAt 36 = .ok (.getfield 377, 3) := by decide +kernel
theorem dX12_wayAt_39 : decode cX12_wayAt 39 = .ok (.goto 4, 3) := by decide +kernel
theorem dX12_wayAt_42 : decode cX12_wayAt 42 = .ok (.iconst 0, 1) := by decide +kernel
theorem dX12_wayAt_43 : decode cX12_wayAt 43 = .ok (.iadd, 1) := by decide +kernel
theorem dX12_wayAt_44 : decode cX12_wayAt 44 = .ok (.ireturn, 1) := by decide +kernel
theorem dX12_weightsOf_0 : decode cX12_weightsOf 0 = .ok (.iconst 0, 1) := by decide +kernel
theorem dX12_weightsOf_1 : decode cX12_weightsOf 1 = .ok (.istore_n 2, 1) := by decide +kernel
theorem dX12_weightsOf_2 : decode cX12_weightsOf 2 = .ok (.iconst 0, 1) := by decide +kernel
theorem dX12_weightsOf_3 : decode cX12_weightsOf 3 = .ok (.istore_n 3, 1) := by decide +kernel
theorem dX12_weightsOf_4 : decode cX12_weightsOf 4 = .ok (.iload_n 3, 1) := by decide +kernel
theorem dX12_weightsOf_5 : decode cX12_weightsOf 5 = .ok (.aload_n 0, 1) := by decide +kernel
theorem dX12_weightsOf_6 : decode cX12_weightsOf 6 = .ok (.iload_n 1, 1) := by decide +kernel
theorem dX12_weightsOf_7 : decode cX12_weightsOf 7 = .ok (.invokevirtual 386, 3) := by decide +kernel
theorem dX12_weightsOf_10 : decode cX12_weightsOf 10 = .ok (.if_icmp .ge 18, 3) := by decide +kernel
theorem dX12_weightsOf_13 : decode cX12_weightsOf 13 = .ok (.iload_n 2, 1) := by decide +kernel
theorem dX12_weightsOf_14 : decode cX12_weightsOf 14 = .ok (.aload_n 0, 1) := by decide +kernel
theorem dX12_weightsOf_15 : decode cX12_weightsOf 15 = .ok (.iload_n 1, 1) := by decide +kernel
theorem dX12_weightsOf_16 : decode cX12_weightsOf 16 = .ok (.iload_n 3, 1) := by decide +kernel
theorem dX12_weightsOf_17 : decode cX12_weightsOf 17 = .ok (.invokevirtual 389, 3) := by decide +kernel
theorem dX12_weightsOf_20 : decode cX12_weightsOf 20 = .ok (.iadd, 1) := by decide +kernel
theorem dX12_weightsOf_21 : decode cX12_weightsOf 21 = .ok (.istore_n 2, 1) := by decide +kernel
theorem dX12_weightsOf_22 : decode cX12_weightsOf 22 = .ok (.iinc 3 1, 3) := by decide +kernel
theorem dX12_weightsOf_25 : decode cX12_weightsOf 25 = .ok (.goto (-21), 3) := by decide +kernel
theorem dX12_weightsOf_28 : decode cX12_weightsOf 28 = .ok (.iload_n 2, 1) := by decide +kernel
theorem dX12_weightsOf_29 : decode cX12_weightsOf 29 = .ok (.ireturn, 1) := by decide +kernel
theorem dX12_bridgeWeight_0 : decode cX12_bridgeWeight 0 = .ok (.iload_n 1, 1) := by decide +kernel
theorem dX12_bridgeWeight_1 : decode cX12_bridgeWeight 1 = .ok (.ifCond .eq 10, 3) := by decide +kernel
theorem dX12_bridgeWeight_4 : decode cX12_bridgeWeight 4 = .ok (.aload_n 0, 1) := by decide +kernel
theorem dX12_bridgeWeight_5 : decode cX12_bridgeWeight 5 = .ok (.getfield 374, 3) := by decide +kernel
theorem dX12_bridgeWeight_8 : decode cX12_bridgeWeight 8 = .ok (.goto 12, 3) := by decide +kernel
theorem dX12_bridgeWeight_11 : decode cX12_bridgeWeight 11 = .ok (.aload_n 0, 1) := by decide +kernel
theorem dX12_bridgeWeight_12 : decode cX12_bridgeWeight 12 = .ok (.getfield 148, 3) := by decide +kernel
theorem dX12_bridgeWeight_15 : decode cX12_bridgeWeight 15 = .ok (.aload_n 0, 1) := by decide +kernel
theorem dX12_bridgeWeight_16 : decode cX12_bridgeWeight 16 = .ok (.getfield 374, 3) := by decide +kernel
theorem dX12_bridgeWeight_19 : decode cX12_bridgeWeight 19 = .ok (.isub, 1) := by decide +kernel
theorem dX12_bridgeWeight_20 : decode cX12_bridgeWeight 20 = .ok (.ireturn, 1) := by decide +kernel
theorem dX12_lateWeight_0 : decode cX12_lateWeight 0 = .ok (.iconst 0, 1) := by decide +kernel
theorem dX12_lateWeight_1 : decode cX12_lateWeight 1 = .ok (.istore 4, 2) := by decide +kernel
theorem dX12_lateWeight_3 : decode cX12_lateWeight 3 = .ok (.iconst 0, 1) := by decide +kernel
theorem dX12_lateWeight_4 : decode cX12_lateWeight 4 = .ok (.istore 5, 2) := by decide +kernel
theorem dX12_lateWeight_6 : decode cX12_lateWeight 6 = .ok (.iload 5, 2) := by decide +kernel
theorem dX12_lateWeight_8 : decode cX12_lateWeight 8 = .ok (.aload_n 0, 1) := by decide +kernel
theorem dX12_lateWeight_9 : decode cX12_lateWeight 9 = .ok (.iload_n 1, 1) := by decide +kernel
theorem dX12_lateWeight_10 : decode cX12_lateWeight 10 = .ok (.invokevirtual 386, 3) := by decide +kernel
theorem dX12_lateWeight_13 : decode cX12_lateWeight 13 = .ok (.if_icmp .ge 37, 3) := by decide +kernel
theorem dX12_lateWeight_16 : decode cX12_lateWeight 16 = .ok (.iload 4, 2) := by decide +kernel
theorem dX12_lateWeight_18 : decode cX12_lateWeight 18 = .ok (.aload_n 0, 1) := by decide +kernel
theorem dX12_lateWeight_19 : decode cX12_lateWeight 19 = .ok (.iload_n 1, 1) := by decide +kernel
theorem dX12_lateWeight_20 : decode cX12_lateWeight 20 = .ok (.iload 5, 2) := by decide +kernel
theorem dX12_lateWeight_22 : decode cX12_lateWeight 22 = .ok (.iload_n 3, 1) := by decide +kernel
theorem dX12_lateWeight_23 : decode cX12_lateWeight 23 = .ok (.invokevirtual 392, 3) := by decide +kernel
theorem dX12_lateWeight_26 : decode cX12_lateWeight 26 = .ok (.iload_n 2, 1) := by decide +kernel
theorem dX12_lateWeight_27 : decode cX12_lateWeight 27 = .ok (.if_icmp .le 13, 3) := by decide +kernel
theorem dX12_lateWeight_30 : decode cX12_lateWeight 30 = .ok (.aload_n 0, 1) := by decide +kernel
theorem dX12_lateWeight_31 : decode cX12_lateWeight 31 = .ok (.iload_n 1, 1) := by decide +kernel
theorem dX12_lateWeight_32 : decode cX12_lateWeight 32 = .ok (.iload 5, 2) := by decide +kernel
theorem dX12_lateWeight_34 : decode cX12_lateWeight 34 = .ok (.invokevirtual 389, 3) := by decide +kernel
theorem dX12_lateWeight_37 : decode cX12_lateWeight 37 = .ok (.goto 4, 3) := by decide +kernel
theorem dX12_lateWeight_40 : decode cX12_lateWeight 40 = .ok (.iconst 0, 1) := by decide +kernel
theorem dX12_lateWeight_41 : decode cX12_lateWeight 41 = .ok (.iadd, 1) := by decide +kernel
theorem dX12_lateWeight_42 : decode cX12_lateWeight 42 = .ok (.istore 4, 2) := by decide +kernel
theorem dX12_lateWeight_44 : decode cX12_lateWeight 44 = .ok (.iinc 5 1, 3) := by decide +kernel
theorem dX12_lateWeight_47 : decode cX12_lateWeight 47 = .ok (.goto (-41), 3) := by decide +kernel
theorem dX12_lateWeight_50 : decode cX12_lateWeight 50 = .ok (.iload 4, 2) := by decide +kernel
theorem dX12_lateWeight_52 : decode cX12_lateWeight 52 = .ok (.ireturn, 1) := by decide +kernel
theorem dX12_gcd_0 : decode cX12_gcd 0 = .ok (.iload_n 0, 1) := by decide +kernel
theorem dX12_gcd_1 : decode cX12_gcd 1 = .ok (.istore_n 2, 1) := by decide +kernel
theorem dX12_gcd_2 : decode cX12_gcd 2 = .ok (.iload_n 1, 1) := by decide +kernel
theorem dX12_gcd_3 : decode cX12_gcd 3 = .ok (.istore_n 3, 1) := by decide +kernel
theorem dX12_gcd_4 : decode cX12_gcd 4 = .ok (.iload_n 3, 1) := by decide +kernel
theorem dX12_gcd_5 : decode cX12_gcd 5 = .ok (.ifCond .eq 16, 3) := by decide +kernel
theorem dX12_gcd_8 : decode cX12_gcd 8 = .ok (.iload_n 2, 1) := by decide +kernel
theorem dX12_gcd_9 : decode cX12_gcd 9 = .ok (.iload_n 3, 1) := by decide +kernel
theorem dX12_gcd_10 : decode cX12_gcd 10 = .ok (.irem, 1) := by decide +kernel
theorem dX12_gcd_11 : decode cX12_gcd 11 = .ok (.istore 4, 2) := by decide +kernel
theorem dX12_gcd_13 : decode cX12_gcd 13 = .ok (.iload_n 3, 1) := by decide +kernel
theorem dX12_gcd_14 : decode cX12_gcd 14 = .ok (.istore_n 2, 1) := by decide +kernel
theorem dX12_gcd_15 : decode cX12_gcd 15 = .ok (.iload 4, 2) := by decide +kernel
theorem dX12_gcd_17 : decode cX12_gcd 17 = .ok (.istore_n 3, 1) := by decide +kernel
theorem dX12_gcd_18 : decode cX12_gcd 18 = .ok (.goto (-14), 3) := by decide +kernel
theorem dX12_gcd_21 : decode cX12_gcd 21 = .ok (.iload_n 2, 1) := by decide +kernel
theorem dX12_gcd_22 : decode cX12_gcd 22 = .ok (.ireturn, 1) := by decide +kernel
theorem dX12_lateIf_0 : decode cX12_lateIf 0 = .ok (.iload_n 1, 1) := by decide +kernel
theorem dX12_lateIf_1 : decode cX12_lateIf 1 = .ok (.invokestatic 162, 3) := by decide +kernel
theorem dX12_lateIf_4 : decode cX12_lateIf 4 = .ok (.ifCond .eq 23, 3) := by decide +kernel
theorem dX12_lateIf_7 : decode cX12_lateIf 7 = .ok (.iload_n 2, 1) := by decide +kernel
theorem dX12_lateIf_8 : decode cX12_lateIf 8 = .ok (.iconst 0, 1) := by decide +kernel
theorem dX12_lateIf_9 : decode cX12_lateIf 9 = .ok (.sipush 600, 3) := by decide +kernel
theorem dX12_lateIf_12 : decode cX12_lateIf 12 = .ok (.invokestatic 168, 3) := by decide +kernel
theorem dX12_lateIf_15 : decode cX12_lateIf 15 = .ok (.ifCond .eq 12, 3) := by decide +kernel
theorem dX12_lateIf_18 : decode cX12_lateIf 18 = .ok (.iload_n 3, 1) := by decide +kernel
theorem dX12_lateIf_19 : decode cX12_lateIf 19 = .ok (.iconst 0, 1) := by decide +kernel
theorem dX12_lateIf_20 : decode cX12_lateIf 20 = .ok (.iconst 1, 1) := by decide +kernel
theorem dX12_lateIf_21 : decode cX12_lateIf 21 = .ok (.invokestatic 168, 3) := by decide +kernel
theorem dX12_lateIf_24 : decode cX12_lateIf 24 = .ok (.ifCond .ne 5, 3) := by decide +kernel
theorem dX12_lateIf_27 : decode cX12_lateIf 27 = .ok (.iconst (-1), 1) := by decide +kernel
theorem dX12_lateIf_28 : decode cX12_lateIf 28 = .ok (.ireturn, 1) := by decide +kernel
theorem dX12_lateIf_29 : decode cX12_lateIf 29 = .ok (.aload_n 0, 1) := by decide +kernel
theorem dX12_lateIf_30 : decode cX12_lateIf 30 = .ok (.iconst 0, 1) := by decide +kernel
theorem dX12_lateIf_31 : decode cX12_lateIf 31 = .ok (.invokevirtual 396, 3) := by decide +kernel
theorem dX12_lateIf_34 : decode cX12_lateIf 34 = .ok (.aload_n 0, 1) := by decide +kernel
theorem dX12_lateIf_35 : decode cX12_lateIf 35 = .ok (.iload_n 1, 1) := by decide +kernel
theorem dX12_lateIf_36 : decode cX12_lateIf 36 = .ok (.iload_n 2, 1) := by decide +kernel
theorem dX12_lateIf_37 : decode cX12_lateIf 37 = .ok (.iconst 0, 1) := by decide +kernel
theorem dX12_lateIf_38 : decode cX12_lateIf 38 = .ok (.invokevirtual 400, 3) := by decide +kernel
theorem dX12_lateIf_41 : decode cX12_lateIf 41 = .ok (.imul, 1) := by decide +kernel
theorem dX12_lateIf_42 : decode cX12_lateIf 42 = .ok (.aload_n 0, 1) := by decide +kernel
theorem dX12_lateIf_43 : decode cX12_lateIf 43 = .ok (.iconst 1, 1) := by decide +kernel
theorem dX12_lateIf_44 : decode cX12_lateIf 44 = .ok (.invokevirtual 396, 3) := by decide +kernel
theorem dX12_lateIf_47 : decode cX12_lateIf 47 = .ok (.aload_n 0, 1) := by decide +kernel
theorem dX12_lateIf_48 : decode cX12_lateIf 48 = .ok (.iload_n 1, 1) := by decide +kernel
theorem dX12_lateIf_49 : decode cX12_lateIf 49 = .ok (.iload_n 2, 1) := by decide +kernel
theorem dX12_lateIf_50 : decode cX12_lateIf 50 = .ok (.iconst 1, 1) := by decide +kernel
theorem dX12_lateIf_51 : decode cX12_lateIf 51 = .ok (.invokevirtual 400, 3) := by decide +kernel
theorem dX12_lateIf_54 : decode cX12_lateIf 54 = .ok (.imul, 1) := by decide +kernel
theorem dX12_lateIf_55 : decode cX12_lateIf 55 = .ok (.iadd, 1) := by decide +kernel
theorem dX12_lateIf_56 : decode cX12_lateIf 56 = .ok (.istore 4, 2) := by decide +kernel
theorem dX12_lateIf_58 : decode cX12_lateIf 58 = .ok (.aload_n 0, 1) := by decide +kernel
theorem dX12_lateIf_59 : decode cX12_lateIf 59 = .ok (.getfield 148, 3) := by decide +kernel
theorem dX12_lateIf_62 : decode cX12_lateIf 62 = .ok (.aload_n 0, 1) := by decide +kernel
theorem dX12_lateIf_63 : decode cX12_lateIf 63 = .ok (.iload_n 1, 1) := by decide +kernel
theorem dX12_lateIf_64 : decode cX12_lateIf 64 = .ok (.invokevirtual 403, 3) := by decide +kernel
theorem dX12_lateIf_67 : decode cX12_lateIf 67 = .ok (.imul, 1) := by decide +kernel
theorem dX12_lateIf_68 : decode cX12_lateIf 68 = .ok (.istore 5, 2) := by decide +kernel
theorem dX12_lateIf_70 : decode cX12_lateIf 70 = .ok (.iload 4, 2) := by decide +kernel
theorem dX12_lateIf_72 : decode cX12_lateIf 72 = .ok (.iload 5, 2) := by decide +kernel
theorem dX12_lateIf_74 : decode cX12_lateIf 74 = .ok (.invokestatic 406, 3) := by decide +kernel
theorem dX12_lateIf_77 : decode cX12_lateIf 77 = .ok (.istore 6, 2) := by decide +kernel
theorem dX12_lateIf_79 : decode cX12_lateIf 79 = .ok (.iload_n 3, 1) := by decide +kernel
theorem dX12_lateIf_80 : decode cX12_lateIf 80 = .ok (.ifCond .ne 11, 3) := by decide +kernel
theorem dX12_lateIf_83 : decode cX12_lateIf 83 = .ok (.iload 4, 2) := by decide +kernel
theorem dX12_lateIf_85 : decode cX12_lateIf 85 = .ok (.iload 6, 2) := by decide +kernel
theorem dX12_lateIf_87 : decode cX12_lateIf 87 = .ok (.idiv, 1) := by decide +kernel
theorem dX12_lateIf_88 : decode cX12_lateIf 88 = .ok (.goto 8, 3) := by decide +kernel
theorem dX12_lateIf_91 : decode cX12_lateIf 91 = .ok (.iload 5, 2) := by decide +kernel
theorem dX12_lateIf_93 : decode cX12_lateIf 93 = .ok (.iload 6, 2) := by decide +kernel
theorem dX12_lateIf_95 : decode cX12_lateIf 95 = .ok (.idiv, 1) := by decide +kernel
theorem dX12_lateIf_96 : decode cX12_lateIf 96 = .ok (.ireturn, 1) := by decide +kernel
theorem dX12_hangs_0 : decode cX12_hangs 0 = .ok (.iconst 0, 1) := by decide +kernel
theorem dX12_hangs_1 : decode cX12_hangs 1 = .ok (.istore 5, 2) := by decide +kernel
theorem dX12_hangs_3 : decode cX12_hangs 3 = .ok (.iload 5, 2) := by decide +kernel
theorem dX12_hangs_5 : decode cX12_hangs 5 = .ok (.bipush 9, 2) := by decide +kernel
theorem dX12_hangs_7 : decode cX12_hangs 7 = .ok (.if_icmp .ge 26, 3) := by decide +kernel
theorem dX12_hangs_10 : decode cX12_hangs 10 = .ok (.aload_n 0, 1) := by decide +kernel
theorem dX12_hangs_11 : decode cX12_hangs 11 = .ok (.getfield 132, 3) := by decide +kernel
theorem dX12_hangs_14 : decode cX12_hangs 14 = .ok (.iload 5, 2) := by decide +kernel
theorem dX12_hangs_16 : decode cX12_hangs 16 = .ok (.iload 5, 2) := by decide +kernel
theorem dX12_hangs_18 : decode cX12_hangs 18 = .ok (.ifCond .ne 7, 3) := by decide +kernel
theorem dX12_hangs_21 : decode cX12_hangs 21 = .ok (.lconst 1, 1) := by decide +kernel
theorem dX12_hangs_22 : decode cX12_hangs 22 = .ok (.goto 4, 3) := by decide +kernel
theorem dX12_hangs_25 : decode cX12_hangs 25 = .ok (.lconst 0, 1) := by decide +kernel
theorem dX12_hangs_26 : decode cX12_hangs 26 = .ok (.lastore, 1) := by decide +kernel
theorem dX12_hangs_27 : decode cX12_hangs 27 = .ok (.iinc 5 1, 3) := by decide +kernel
theorem dX12_hangs_30 : decode cX12_hangs 30 = .ok (.goto (-27), 3) := by decide +kernel
theorem dX12_hangs_33 : decode cX12_hangs 33 = .ok (.iconst 0, 1) := by decide +kernel
theorem dX12_hangs_34 : decode cX12_hangs 34 = .ok (.istore 5, 2) := by decide +kernel
theorem dX12_hangs_36 : decode cX12_hangs 36 = .ok (.iload 5, 2) := by decide +kernel
theorem dX12_hangs_38 : decode cX12_hangs 38 = .ok (.bipush 8, 2) := by decide +kernel
theorem dX12_hangs_40 : decode cX12_hangs 40 = .ok (.if_icmp .ge 106, 3) := by decide +kernel
theorem dX12_hangs_43 : decode cX12_hangs 43 = .ok (.iload_n 1, 1) := by decide +kernel
theorem dX12_hangs_44 : decode cX12_hangs 44 = .ok (.iload 5, 2) := by decide +kernel
theorem dX12_hangs_46 : decode cX12_hangs 46 = .ok (.ishr, 1) := by decide +kernel
theorem dX12_hangs_47 : decode cX12_hangs 47 = .ok (.iconst 1, 1) := by decide +kernel
theorem dX12_hangs_48 : decode cX12_hangs 48 = .ok (.iand, 1) := by decide +kernel
theorem dX12_hangs_49 : decode cX12_hangs 49 = .ok (.ifCond .ne 6, 3) := by decide +kernel
theorem dX12_hangs_52 : decode cX12_hangs 52 = .ok (.goto 88, 3) := by decide +kernel
theorem dX12_hangs_55 : decode cX12_hangs 55 = .ok (.aload_n 0, 1) := by decide +kernel
theorem dX12_hangs_56 : decode cX12_hangs 56 = .ok (.iload 5, 2) := by decide +kernel
theorem dX12_hangs_58 : decode cX12_hangs 58 = .ok (.iload_n 2, 1) := by decide +kernel
theorem dX12_hangs_59 : decode cX12_hangs 59 = .ok (.iload 4, 2) := by decide +kernel
theorem dX12_hangs_61 : decode cX12_hangs 61 = .ok (.invokevirtual 400, 3) := by decide +kernel
theorem dX12_hangs_64 : decode cX12_hangs 64 = .ok (.istore 6, 2) := by decide +kernel
theorem dX12_hangs_66 : decode cX12_hangs 66 = .ok (.aload_n 0, 1) := by decide +kernel
theorem dX12_hangs_67 : decode cX12_hangs 67 = .ok (.iload 5, 2) := by decide +kernel
theorem dX12_hangs_69 : decode cX12_hangs 69 = .ok (.invokevirtual 403, 3) := by decide +kernel
theorem dX12_hangs_72 : decode cX12_hangs 72 = .ok (.iload 6, 2) := by decide +kernel
theorem dX12_hangs_74 : decode cX12_hangs 74 = .ok (.isub, 1) := by decide +kernel
theorem dX12_hangs_75 : decode cX12_hangs 75 = .ok (.istore 7, 2) := by decide +kernel
theorem dX12_hangs_77 : decode cX12_hangs 77 = .ok (.bipush 8, 2) := by decide +kernel
theorem dX12_hangs_79 : decode cX12_hangs 79 = .ok (.istore 8, 2) := by decide +kernel
theorem dX12_hangs_81 : decode cX12_hangs 81 = .ok (.iload 8, 2) := by decide +kernel
theorem dX12_hangs_83 : decode cX12_hangs 83 = .ok (.ifCond .le 41, 3) := by decide +kernel
theorem dX12_hangs_86 : decode cX12_hangs 86 = .ok (.aload_n 0, 1) := by decide +kernel
theorem dX12_hangs_87 : decode cX12_hangs 87 = .ok (.getfield 132, 3) := by decide +kernel
theorem dX12_hangs_90 : decode cX12_hangs 90 = .ok (.iload 8, 2) := by decide +kernel
theorem dX12_hangs_92 : decode cX12_hangs 92 = .ok (.aload_n 0, 1) := by decide +kernel
theorem dX12_hangs_93 : decode cX12_hangs 93 = .ok (.getfield 132, 3) := by decide +kernel
theorem dX12_hangs_96 : decode cX12_hangs 96 = .ok (.iload 8, 2) := by decide +kernel
theorem dX12_hangs_98 : decode cX12_hangs 98 = .ok (.laload, 1) := by decide +kernel
theorem dX12_hangs_99 : decode cX12_hangs 99 = .ok (.iload 7, 2) := by decide +kernel
theorem dX12_hangs_101 : decode cX12_hangs 101 = .ok (.i2l, 1) := by decide +kernel
theorem dX12_hangs_102 : decode cX12_hangs 102 = .ok (.lmul, 1) := by decide +kernel
theorem dX12_hangs_103 : decode cX12_hangs 103 = .ok (.aload_n 0, 1) := by decide +kernel
theorem dX12_hangs_104 : decode cX12_hangs 104 = .ok (.getfield 132, 3) := by decide +kernel
theorem dX12_hangs_107 : decode cX12_hangs 107 = .ok (.iload 8, 2) := by decide +kernel
theorem dX12_hangs_109 : decode cX12_hangs 109 = .ok (.iconst 1, 1) := by decide +kernel
theorem dX12_hangs_110 : decode cX12_hangs 110 = .ok (.isub, 1) := by decide +kernel
theorem dX12_hangs_111 : decode cX12_hangs 111 = .ok (.laload, 1) := by decide +kernel
theorem dX12_hangs_112 : decode cX12_hangs 112 = .ok (.iload 6, 2) := by decide +kernel
theorem dX12_hangs_114 : decode cX12_hangs 114 = .ok (.i2l, 1) := by decide +kernel
theorem dX12_hangs_115 : decode cX12_hangs 115 = .ok (.lmul, 1) := by decide +kernel
theorem dX12_hangs_116 : decode cX12_hangs 116 = .ok (.ladd, 1) := by decide +kernel
theorem dX12_hangs_117 : decode cX12_hangs 117 = .ok (.lastore, 1) := by decide +kernel
theorem dX12_hangs_118 : decode cX12_hangs 118 = .ok (.iinc 8 (-1), 3) := by decide +kernel
theorem dX12_hangs_121 : decode cX12_hangs 121 = .ok (.goto (-40), 3) := by decide +kernel
theorem dX12_hangs_124 : decode cX12_hangs 124 = .ok (.aload_n 0, 1) := by decide +kernel
theorem dX12_hangs_125 : decode cX12_hangs 125 = .ok (.getfield 132, 3) := by decide +kernel
theorem dX12_hangs_128 : decode cX12_hangs 128 = .ok (.iconst 0, 1) := by decide +kernel
theorem dX12_hangs_129 : decode cX12_hangs 129 = .ok (.aload_n 0, 1) := by decide +kernel
theorem dX12_hangs_130 : decode cX12_hangs 130 = .ok (.getfield 132, 3) := by decide +kernel
theorem dX12_hangs_133 : decode cX12_hangs 133 = .ok (.iconst 0, 1) := by decide +kernel
theorem dX12_hangs_134 : decode cX12_hangs 134 = .ok (.laload, 1) := by decide +kernel
theorem dX12_hangs_135 : decode cX12_hangs 135 = .ok (.iload 7, 2) := by decide +kernel
theorem dX12_hangs_137 : decode cX12_hangs 137 = .ok (.i2l, 1) := by decide +kernel
theorem dX12_hangs_138 : decode cX12_hangs 138 = .ok (.lmul, 1) := by decide +kernel
theorem dX12_hangs_139 : decode cX12_hangs 139 = .ok (.lastore, 1) := by decide +kernel
theorem dX12_hangs_140 : decode cX12_hangs 140 = .ok (.iinc 5 1, 3) := by decide +kernel
theorem dX12_hangs_143 : decode cX12_hangs 143 = .ok (.goto (-107), 3) := by decide +kernel
theorem dX12_hangs_146 : decode cX12_hangs 146 = .ok (.aload_n 0, 1) := by decide +kernel
theorem dX12_hangs_147 : decode cX12_hangs 147 = .ok (.iload 4, 2) := by decide +kernel
theorem dX12_hangs_149 : decode cX12_hangs 149 = .ok (.invokevirtual 396, 3) := by decide +kernel
theorem dX12_hangs_152 : decode cX12_hangs 152 = .ok (.i2l, 1) := by decide +kernel
theorem dX12_hangs_153 : decode cX12_hangs 153 = .ok (.aload_n 0, 1) := by decide +kernel
theorem dX12_hangs_154 : decode cX12_hangs 154 = .ok (.getfield 132, 3) := by decide +kernel
theorem dX12_hangs_157 : decode cX12_hangs 157 = .ok (.iload_n 3, 1) := by decide +kernel
theorem dX12_hangs_158 : decode cX12_hangs 158 = .ok (.laload, 1) := by decide +kernel
theorem dX12_hangs_159 : decode cX12_hangs 159 = .ok (.lmul, 1) := by decide +kernel
theorem dX12_hangs_160 : decode cX12_hangs 160 = .ok (.lreturn, 1) := by decide +kernel
theorem dX12_hang_0 : decode cX12_hang 0 = .ok (.iload_n 1, 1) := by decide +kernel
theorem dX12_hang_1 : decode cX12_hang 1 = .ok (.iconst 1, 1) := by decide +kernel
theorem dX12_hang_2 : decode cX12_hang 2 = .ok (.sipush 255, 3) := by decide +kernel
theorem dX12_hang_5 : decode cX12_hang 5 = .ok (.invokestatic 168, 3) := by decide +kernel
theorem dX12_hang_8 : decode cX12_hang 8 = .ok (.ifCond .eq 26, 3) := by decide +kernel
theorem dX12_hang_11 : decode cX12_hang 11 = .ok (.iload_n 2, 1) := by decide +kernel
theorem dX12_hang_12 : decode cX12_hang 12 = .ok (.iconst 0, 1) := by decide +kernel
theorem dX12_hang_13 : decode cX12_hang 13 = .ok (.sipush 600, 3) := by decide +kernel
theorem dX12_hang_16 : decode cX12_hang 16 = .ok (.invokestatic 168, 3) := by decide +kernel
theorem dX12_hang_19 : decode cX12_hang 19 = .ok (.ifCond .eq 15, 3) := by decide +kernel
theorem dX12_hang_22 : decode cX12_hang 22 = .ok (.iload_n 3, 1) := by decide +kernel
theorem dX12_hang_23 : decode cX12_hang 23 = .ok (.iconst 0, 1) := by decide +kernel
theorem dX12_hang_24 : decode cX12_hang 24 = .ok (.iload_n 1, 1) := by decide +kernel
theorem dX12_hang_25 : decode cX12_hang 25 = .ok (.invokestatic 172, 3) := by decide +kernel
theorem dX12_hang_28 : decode cX12_hang 28 = .ok (.invokestatic 168, 3) := by decide +kernel
theorem dX12_hang_31 : decode cX12_hang 31 = .ok (.ifCond .ne 7, 3) := by decide +kernel
theorem dX12_hang_34 : decode cX12_hang 34 = .ok (.ldc2_w 351, 3) := by decide +kernel
theorem dX12_hang_37 : decode cX12_hang 37 = .ok (.lreturn, 1) := by decide +kernel
theorem dX12_hang_38 : decode cX12_hang 38 = .ok (.aload_n 0, 1) := by decide +kernel
theorem dX12_hang_39 : decode cX12_hang 39 = .ok (.iload_n 1, 1) := by decide +kernel
theorem dX12_hang_40 : decode cX12_hang 40 = .ok (.iload_n 2, 1) := by decide +kernel
theorem dX12_hang_41 : decode cX12_hang 41 = .ok (.iload_n 3, 1) := by decide +kernel
theorem dX12_hang_42 : decode cX12_hang 42 = .ok (.iconst 0, 1) := by decide +kernel
theorem dX12_hang_43 : decode cX12_hang 43 = .ok (.invokevirtual 409, 3) := by decide +kernel
theorem dX12_hang_46 : decode cX12_hang 46 = .ok (.aload_n 0, 1) := by decide +kernel
theorem dX12_hang_47 : decode cX12_hang 47 = .ok (.iload_n 1, 1) := by decide +kernel
theorem dX12_hang_48 : decode cX12_hang 48 = .ok (.iload_n 2, 1) := by decide +kernel
theorem dX12_hang_49 : decode cX12_hang 49 = .ok (.iload_n 3, 1) := by decide +kernel
theorem dX12_hang_50 : decode cX12_hang 50 = .ok (.iconst 1, 1) := by decide +kernel
theorem dX12_hang_51 : decode cX12_hang 51 = .ok (.invokevirtual 409, 3) := by decide +kernel
theorem dX12_hang_54 : decode cX12_hang 54 = .ok (.ladd, 1) := by decide +kernel
theorem dX12_hang_55 : decode cX12_hang 55 = .ok (.lreturn, 1) := by decide +kernel
theorem dX12_worthAt_0 : decode cX12_worthAt 0 = .ok (.iload_n 2, 1) := by decide +kernel
theorem dX12_worthAt_1 : decode cX12_worthAt 1 = .ok (.ifCond .ge 7, 3) := by decide +kernel
theorem dX12_worthAt_4 : decode cX12_worthAt 4 = .ok (.iconst 0, 1) := by decide +kernel
theorem dX12_worthAt_5 : decode cX12_worthAt 5 = .ok (.goto 21, 3) := by decide +kernel
theorem dX12_worthAt_8 : decode cX12_worthAt 8 = .ok (.iload_n 2, 1) := by decide +kernel
theorem dX12_worthAt_9 : decode cX12_worthAt 9 = .ok (.bipush 60, 2) := by decide +kernel
theorem dX12_worthAt_11 : decode cX12_worthAt 11 = .ok (.idiv, 1) := by decide +kernel
theorem dX12_worthAt_12 : decode cX12_worthAt 12 = .ok (.bipush 23, 2) := by decide +kernel
theorem dX12_worthAt_14 : decode cX12_worthAt 14 = .ok (.if_icmp .le 8, 3) := by decide +kernel
theorem dX12_worthAt_17 : decode cX12_worthAt 17 = .ok (.bipush 23, 2) := by decide +kernel
theorem dX12_worthAt_19 : decode cX12_worthAt 19 = .ok (.goto 7, 3) := by decide +kernel
theorem dX12_worthAt_22 : decode cX12_worthAt 22 = .ok (.iload_n 2, 1) := by decide +kernel
theorem dX12_worthAt_23 : decode cX12_worthAt 23 = .ok (.bipush 60, 2) := by decide +kernel
theorem dX12_worthAt_25 : decode cX12_worthAt 25 = .ok (.idiv, 1) := by decide +kernel
theorem dX12_worthAt_26 : decode cX12_worthAt 26 = .ok (.istore_n 3, 1) := by decide +kernel
theorem dX12_worthAt_27 : decode cX12_worthAt 27 = .ok (.aload_n 0, 1) := by decide +kernel
theorem dX12_worthAt_28 : decode cX12_worthAt 28 = .ok (.getfield 7, 3) := by decide +kernel
theorem dX12_worthAt_31 : decode cX12_worthAt 31 = .ok (.bipush 24, 2) := by decide +kernel
theorem dX12_worthAt_33 : decode cX12_worthAt 33 = .ok (.iload_n 1, 1) := by decide +kernel
theorem dX12_worthAt_34 : decode cX12_worthAt 34 = .ok (.imul, 1) := by decide +kernel
theorem dX12_worthAt_35 : decode cX12_worthAt 35 = .ok (.iload_n 3, 1) := by decide +kernel
theorem dX12_worthAt_36 : decode cX12_worthAt 36 = .ok (.iadd, 1) := by decide +kernel
theorem dX12_worthAt_37 : decode cX12_worthAt 37 = .ok (.iaload, 1) := by decide +kernel
theorem dX12_worthAt_38 : decode cX12_worthAt 38 = .ok (.ireturn, 1) := by decide +kernel
theorem dX12_comingCost_0 : decode cX12_comingCost 0 = .ok (.aload_n 0, 1) := by decide +kernel
theorem dX12_comingCost_1 : decode cX12_comingCost 1 = .ok (.getfield 16, 3) := by decide +kernel
theorem dX12_comingCost_4 : decode cX12_comingCost 4 = .ok (.iload_n 1, 1) := by decide +kernel
theorem dX12_comingCost_5 : decode cX12_comingCost 5 = .ok (.iaload, 1) := by decide +kernel
theorem dX12_comingCost_6 : decode cX12_comingCost 6 = .ok (.istore 5, 2) := by decide +kernel
theorem dX12_comingCost_8 : decode cX12_comingCost 8 = .ok (.iload_n 3, 1) := by decide +kernel
theorem dX12_comingCost_9 : decode cX12_comingCost 9 = .ok (.iload 5, 2) := by decide +kernel
theorem dX12_comingCost_11 : decode cX12_comingCost 11 = .ok (.if_icmp .ge 19, 3) := by decide +kernel
theorem dX12_comingCost_14 : decode cX12_comingCost 14 = .ok (.iload 5, 2) := by decide +kernel
theorem dX12_comingCost_16 : decode cX12_comingCost 16 = .ok (.iload_n 3, 1) := by decide +kernel
theorem dX12_comingCost_17 : decode cX12_comingCost 17 = .ok (.isub, 1) := by decide +kernel
theorem dX12_comingCost_18 : decode cX12_comingCost 18 = .ok (.i2l, 1) := by decide +kernel
theorem dX12_comingCost_19 : decode cX12_comingCost 19 = .ok (.aload_n 0, 1) := by decide +kernel
theorem dX12_comingCost_20 : decode cX12_comingCost 20 = .ok (.iload_n 2, 1) := by decide +kernel
theorem dX12_comingCost_21 : decode cX12_comingCost 21 = .ok (.iload_n 3, 1) := by decide +kernel
theorem dX12_comingCost_22 : decode cX12_comingCost 22 = .ok (.invokevirtual 413, 3) := by decide +kernel
theorem dX12_comingCost_25 : decode cX12_comingCost 25 = .ok (.i2l, 1) := by decide +kernel
theorem dX12_comingCost_26 : decode cX12_comingCost 26 = .ok (.lmul, 1) := by decide +kernel
theorem dX12_comingCost_27 : decode cX12_comingCost 27 = .ok (.goto 25, 3) := by decide +kernel
theorem dX12_comingCost_30 : decode cX12_comingCost 30 = .ok (.iload_n 3, 1) := by decide +kernel
theorem dX12_comingCost_31 : decode cX12_comingCost 31 = .ok (.iload 5, 2) := by decide +kernel
theorem dX12_comingCost_33 : decode cX12_comingCost 33 = .ok (.isub, 1) := by decide +kernel
theorem dX12_comingCost_34 : decode cX12_comingCost 34 = .ok (.i2l, 1) := by decide +kernel
theorem dX12_comingCost_35 : decode cX12_comingCost 35 = .ok (.aload_n 0, 1) := by decide +kernel
theorem dX12_comingCost_36 : decode cX12_comingCost 36 = .ok (.getfield 19, 3) := by decide +kernel
theorem dX12_comingCost_39 : decode cX12_comingCost 39 = .ok (.iload_n 1, 1) := by decide +kernel
theorem dX12_comingCost_40 : decode cX12_comingCost 40 = .ok (.iaload, 1) := by decide +kernel
theorem dX12_comingCost_41 : decode cX12_comingCost 41 = .ok (.invokestatic 172, 3) := by decide +kernel
theorem dX12_comingCost_44 : decode cX12_comingCost 44 = .ok (.iconst 1, 1) := by decide +kernel
theorem dX12_comingCost_45 : decode cX12_comingCost 45 = .ok (.isub, 1) := by decide +kernel
theorem dX12_comingCost_46 : decode cX12_comingCost 46 = .ok (.i2l, 1) := by decide +kernel
theorem dX12_comingCost_47 : decode cX12_comingCost 47 = .ok (.lmul, 1) := by decide +kernel
theorem dX12_comingCost_48 : decode cX12_comingCost 48 = .ok (.iload 4, 2) := by decide +kernel
theorem dX12_comingCost_50 : decode cX12_comingCost 50 = .ok (.i2l, 1) := by decide +kernel
theorem dX12_comingCost_51 : decode cX12_comingCost 51 = .ok (.lmul, 1) := by decide +kernel
theorem dX12_comingCost_52 : decode cX12_comingCost 52 = .ok (.lreturn, 1) := by decide +kernel
theorem dX12_costWith_0 : decode cX12_costWith 0 = .ok (.lconst 0, 1) := by decide +kernel
theorem dX12_costWith_1 : decode cX12_costWith 1 = .ok (.lstore 6, 2) := by decide +kernel
theorem dX12_costWith_3 : decode cX12_costWith 3 = .ok (.iconst 0, 1) := by decide +kernel
theorem dX12_costWith_4 : decode cX12_costWith 4 = .ok (.istore 8, 2) := by decide +kernel
theorem dX12_costWith_6 : decode cX12_costWith 6 = .ok (.iload 8, 2) := by decide +kernel
theorem dX12_costWith_8 : decode cX12_costWith 8 = .ok (.aload_n 0, 1) := by decide +kernel
theorem dX12_costWith_9 : decode cX12_costWith 9 = .ok (.iload_n 2, 1) := by decide +kernel
theorem dX12_costWith_10 : decode cX12_costWith 10 = .ok (.invokevirtual 386, 3) := by decide +kernel
theorem dX12_costWith_13 : decode cX12_costWith 13 = .ok (.if_icmp .ge 49, 3) := by decide +kernel
theorem dX12_costWith_16 : decode cX12_costWith 16 = .ok (.lload 6, 2) := by decide +kernel
theorem dX12_costWith_18 : decode cX12_costWith 18 = .ok (.aload_n 0, 1) := by decide +kernel
theorem dX12_costWith_19 : decode cX12_costWith 19 = .ok (.iload_n 2, 1) := by decide +kernel
theorem dX12_costWith_20 : decode cX12_costWith 20 = .ok (.iload 8, 2) := by decide +kernel
theorem dX12_costWith_22 : decode cX12_costWith 22 = .ok (.invokevirtual 389, 3) := by decide +kernel
theorem dX12_costWith_25 : decode cX12_costWith 25 = .ok (.i2l, 1) := by decide +kernel
theorem dX12_costWith_26 : decode cX12_costWith 26 = .ok (.aload_n 0, 1) := by decide +kernel
theorem dX12_costWith_27 : decode cX12_costWith 27 = .ok (.iload_n 1, 1) := by decide +kernel
theorem dX12_costWith_28 : decode cX12_costWith 28 = .ok (.iload_n 2, 1) := by decide +kernel
theorem dX12_costWith_29 : decode cX12_costWith 29 = .ok (.aload_n 0, 1) := by decide +kernel
theorem dX12_costWith_30 : decode cX12_costWith 30 = .ok (.getfield 16, 3) := by decide +kernel
theorem dX12_costWith_33 : decode cX12_costWith 33 = .ok (.iload_n 1, 1) := by decide +kernel
theorem dX12_costWith_34 : decode cX12_costWith 34 = .ok (.iaload, 1) := by decide +kernel
theorem dX12_costWith_35 : decode cX12_costWith 35 = .ok (.iload_n 3, 1) := by decide +kernel
theorem dX12_costWith_36 : decode cX12_costWith 36 = .ok (.isub, 1) := by decide +kernel
theorem dX12_costWith_37 : decode cX12_costWith 37 = .ok (.aload_n 0, 1) := by decide +kernel
theorem dX12_costWith_38 : decode cX12_costWith 38 = .ok (.iload_n 2, 1) := by decide +kernel
theorem dX12_costWith_39 : decode cX12_costWith 39 = .ok (.iload 8, 2) := by decide +kernel
theorem dX12_costWith_41 : decode cX12_costWith 41 = .ok (.iload 5, 2) := by decide +kernel
theorem dX12_costWith_43 : decode cX12_costWith 43 = .ok (.invokevirtual 392, 3) := by decide +kernel
theorem dX12_costWith_46 : decode cX12_costWith 46 = .ok (.iadd, 1) := by decide +kernel
theorem dX12_costWith_47 : decode cX12_costWith 47 = .ok (.iload 4, 2) := by decide +kernel
theorem dX12_costWith_49 : decode cX12_costWith 49 = .ok (.invokevirtual 416, 3) := by decide +kernel
theorem dX12_costWith_52 : decode cX12_costWith 52 = .ok (.lmul, 1) := by decide +kernel
theorem dX12_costWith_53 : decode cX12_costWith 53 = .ok (.ladd, 1) := by decide +kernel
theorem dX12_costWith_54 : decode cX12_costWith 54 = .ok (.lstore 6, 2) := by decide +kernel
theorem dX12_costWith_56 : decode cX12_costWith 56 = .ok (.iinc 8 1, 3) := by decide +kernel
theorem dX12_costWith_59 : decode cX12_costWith 59 = .ok (.goto (-53), 3) := by decide +kernel
theorem dX12_costWith_62 : decode cX12_costWith 62 = .ok (.lload 6, 2) := by decide +kernel
theorem dX12_costWith_64 : decode cX12_costWith 64 = .ok (.aload_n 0, 1) := by decide +kernel
theorem dX12_costWith_65 : decode cX12_costWith 65 = .ok (.iload 5, 2) := by decide +kernel
theorem dX12_costWith_67 : decode cX12_costWith 67 = .ok (.invokevirtual 396, 3) := by decide +kernel
theorem dX12_costWith_70 : decode cX12_costWith 70 = .ok (.i2l, 1) := by decide +kernel
theorem dX12_costWith_71 : decode cX12_costWith 71 = .ok (.lmul, 1) := by decide +kernel
theorem dX12_costWith_72 : decode cX12_costWith 72 = .ok (.lreturn, 1) := by decide +kernel
theorem dX12_costOf_0 : decode cX12_costOf 0 = .ok (.aload_n 0, 1) := by decide +kernel
theorem dX12_costOf_1 : decode cX12_costOf 1 = .ok (.iload_n 1, 1) := by decide +kernel
theorem dX12_costOf_2 : decode cX12_costOf 2 = .ok (.iload_n 2, 1) := by decide +kernel
theorem dX12_costOf_3 : decode cX12_costOf 3 = .ok (.iload_n 3, 1) := by decide +kernel
theorem dX12_costOf_4 : decode cX12_costOf 4 = .ok (.iload 4, 2) := by decide +kernel
theorem dX12_costOf_6 : decode cX12_costOf 6 = .ok (.iconst 0, 1) := by decide +kernel
theorem dX12_costOf_7 : decode cX12_costOf 7 = .ok (.invokevirtual 420, 3) := by decide +kernel
theorem dX12_costOf_10 : decode cX12_costOf 10 = .ok (.aload_n 0, 1) := by decide +kernel
theorem dX12_costOf_11 : decode cX12_costOf 11 = .ok (.iload_n 1, 1) := by decide +kernel
theorem dX12_costOf_12 : decode cX12_costOf 12 = .ok (.iload_n 2, 1) := by decide +kernel
theorem dX12_costOf_13 : decode cX12_costOf 13 = .ok (.iload_n 3, 1) := by decide +kernel
theorem dX12_costOf_14 : decode cX12_costOf 14 = .ok (.iload 4, 2) := by decide +kernel
theorem dX12_costOf_16 : decode cX12_costOf 16 = .ok (.iconst 1, 1) := by decide +kernel
theorem dX12_costOf_17 : decode cX12_costOf 17 = .ok (.invokevirtual 420, 3) := by decide +kernel
theorem dX12_costOf_20 : decode cX12_costOf 20 = .ok (.ladd, 1) := by decide +kernel
theorem dX12_costOf_21 : decode cX12_costOf 21 = .ok (.lreturn, 1) := by decide +kernel
theorem dX12_cost_0 : decode cX12_cost 0 = .ok (.aload_n 0, 1) := by decide +kernel
theorem dX12_cost_1 : decode cX12_cost 1 = .ok (.iload_n 1, 1) := by decide +kernel
theorem dX12_cost_2 : decode cX12_cost 2 = .ok (.iload_n 2, 1) := by decide +kernel
theorem dX12_cost_3 : decode cX12_cost 3 = .ok (.invokevirtual 176, 3) := by decide +kernel
theorem dX12_cost_6 : decode cX12_cost 6 = .ok (.ifCond .eq 26, 3) := by decide +kernel
theorem dX12_cost_9 : decode cX12_cost 9 = .ok (.iload_n 3, 1) := by decide +kernel
theorem dX12_cost_10 : decode cX12_cost 10 = .ok (.bipush (-60), 2) := by decide +kernel
theorem dX12_cost_12 : decode cX12_cost 12 = .ok (.sipush 600, 3) := by decide +kernel
theorem dX12_cost_15 : decode cX12_cost 15 = .ok (.invokestatic 168, 3) := by decide +kernel
theorem dX12_cost_18 : decode cX12_cost 18 = .ok (.ifCond .eq 14, 3) := by decide +kernel
theorem dX12_cost_21 : decode cX12_cost 21 = .ok (.iload 4, 2) := by decide +kernel
theorem dX12_cost_23 : decode cX12_cost 23 = .ok (.iconst 0, 1) := by decide +kernel
theorem dX12_cost_24 : decode cX12_cost 24 = .ok (.bipush 99, 2) := by decide +kernel
theorem dX12_cost_26 : decode cX12_cost 26 = .ok (.invokestatic 168, 3) := by decide +kernel
theorem dX12_cost_29 : decode cX12_cost 29 = .ok (.ifCond .ne 9, 3) := by decide +kernel
theorem dX12_cost_32 : decode cX12_cost 32 = .ok (.ldc2_w 351, 3) := by decide +kernel
theorem dX12_cost_35 : decode cX12_cost 35 = .ok (.goto 12, 3) := by decide +kernel
theorem dX12_cost_38 : decode cX12_cost 38 = .ok (.aload_n 0, 1) := by decide +kernel
theorem dX12_cost_39 : decode cX12_cost 39 = .ok (.iload_n 1, 1) := by decide +kernel
theorem dX12_cost_40 : decode cX12_cost 40 = .ok (.iload_n 2, 1) := by decide +kernel
theorem dX12_cost_41 : decode cX12_cost 41 = .ok (.iload_n 3, 1) := by decide +kernel
theorem dX12_cost_42 : decode cX12_cost 42 = .ok (.iload 4, 2) := by decide +kernel
theorem dX12_cost_44 : decode cX12_cost 44 = .ok (.invokevirtual 424, 3) := by decide +kernel
theorem dX12_cost_47 : decode cX12_cost 47 = .ok (.lreturn, 1) := by decide +kernel
theorem dX12_out_0 : decode cX12_out 0 = .ok (.aload_n 0, 1) := by decide +kernel
theorem dX12_out_1 : decode cX12_out 1 = .ok (.iload_n 1, 1) := by decide +kernel
theorem dX12_out_2 : decode cX12_out 2 = .ok (.iload_n 2, 1) := by decide +kernel
theorem dX12_out_3 : decode cX12_out 3 = .ok (.invokevirtual 176, 3) := by decide +kernel
theorem dX12_out_6 : decode cX12_out 6 = .ok (.ifCond .eq 13, 3) := by decide +kernel
theorem dX12_out_9 : decode cX12_out 9 = .ok (.iload_n 3, 1) := by decide +kernel
theorem dX12_out_10 : decode cX12_out 10 = .ok (.iconst 0, 1) := by decide +kernel
theorem dX12_out_11 : decode cX12_out 11 = .ok (.bipush 99, 2) := by decide +kernel
theorem dX12_out_13 : decode cX12_out 13 = .ok (.invokestatic 168, 3) := by decide +kernel
theorem dX12_out_16 : decode cX12_out 16 = .ok (.ifCond .ne 5, 3) := by decide +kernel
theorem dX12_out_19 : decode cX12_out 19 = .ok (.iconst (-1), 1) := by decide +kernel
theorem dX12_out_20 : decode cX12_out 20 = .ok (.ireturn, 1) := by decide +kernel
theorem dX12_out_21 : decode cX12_out 21 = .ok (.iconst 0, 1) := by decide +kernel
theorem dX12_out_22 : decode cX12_out 22 = .ok (.istore 4, 2) := by decide +kernel
theorem dX12_out_24 : decode cX12_out 24 = .ok (.aload_n 0, 1) := by decide +kernel
theorem dX12_out_25 : decode cX12_out 25 = .ok (.iload_n 1, 1) := by decide +kernel
theorem dX12_out_26 : decode cX12_out 26 = .ok (.iload_n 2, 1) := by decide +kernel
theorem dX12_out_27 : decode cX12_out 27 = .ok (.iconst 0, 1) := by decide +kernel
theorem dX12_out_28 : decode cX12_out 28 = .ok (.iload_n 3, 1) := by decide +kernel
theorem dX12_out_29 : decode cX12_out 29 = .ok (.invokevirtual 424, 3) := by decide +kernel
theorem dX12_out_32 : decode cX12_out 32 = .ok (.lstore 5, 2) := by decide +kernel
theorem dX12_out_34 : decode cX12_out 34 = .ok (.iconst 1, 1) := by decide +kernel
theorem dX12_out_35 : decode cX12_out 35 = .ok (.istore 7, 2) := by decide +kernel
theorem dX12_out_37 : decode cX12_out 37 = .ok (.iload 7, 2) := by decide +kernel
theorem dX12_out_39 : decode cX12_out 39 = .ok (.sipush 600, 3) := by decide +kernel
theorem dX12_out_42 : decode cX12_out 42 = .ok (.if_icmp .gt 39, 3) := by decide +kernel
theorem dX12_out_45 : decode cX12_out 45 = .ok (.aload_n 0, 1) := by decide +kernel
theorem dX12_out_46 : decode cX12_out 46 = .ok (.iload_n 1, 1) := by decide +kernel
theorem dX12_out_47 : decode cX12_out 47 = .ok (.iload_n 2, 1) := by decide +kernel
theorem dX12_out_48 : decode cX12_out 48 = .ok (.iload 7, 2) := by decide +kernel
theorem dX12_out_50 : decode cX12_out 50 = .ok (.iload_n 3, 1) := by decide +kernel
theorem dX12_out_51 : decode cX12_out 51 = .ok (.invokevirtual 424, 3) := by decide +kernel
theorem dX12_out_54 : decode cX12_out 54 = .ok (.lstore 8, 2) := by decide +kernel
theorem dX12_out_56 : decode cX12_out 56 = .ok (.lload 8, 2) := by decide +kernel
theorem dX12_out_58 : decode cX12_out 58 = .ok (.lload 5, 2) := by decide +kernel
theorem dX12_out_60 : decode cX12_out 60 = .ok (.lcmp, 1) := by decide +kernel
theorem dX12_out_61 : decode cX12_out 61 = .ok (.ifCond .lt 6, 3) := by decide +kernel
theorem dX12_out_64 : decode cX12_out 64 = .ok (.goto 11, 3) := by decide +kernel
theorem dX12_out_67 : decode cX12_out 67 = .ok (.lload 8, 2) := by decide +kernel
theorem dX12_out_69 : decode cX12_out 69 = .ok (.lstore 5, 2) := by decide +kernel
theorem dX12_out_71 : decode cX12_out 71 = .ok (.iload 7, 2) := by decide +kernel
theorem dX12_out_73 : decode cX12_out 73 = .ok (.istore 4, 2) := by decide +kernel
theorem dX12_out_75 : decode cX12_out 75 = .ok (.iinc 7 1, 3) := by decide +kernel
theorem dX12_out_78 : decode cX12_out 78 = .ok (.goto (-41), 3) := by decide +kernel
theorem dX12_out_81 : decode cX12_out 81 = .ok (.iload 4, 2) := by decide +kernel
theorem dX12_out_83 : decode cX12_out 83 = .ok (.ireturn, 1) := by decide +kernel
theorem dX12_twoWith_0 : decode cX12_twoWith 0 = .ok (.lconst 0, 1) := by decide +kernel
theorem dX12_twoWith_1 : decode cX12_twoWith 1 = .ok (.lstore 8, 2) := by decide +kernel
theorem dX12_twoWith_3 : decode cX12_twoWith 3 = .ok (.iconst 0, 1) := by decide +kernel
theorem dX12_twoWith_4 : decode cX12_twoWith 4 = .ok (.istore 10, 2) := by decide +kernel
theorem dX12_twoWith_6 : decode cX12_twoWith 6 = .ok (.iload 10, 2) := by decide +kernel
theorem dX12_twoWith_8 : decode cX12_twoWith 8 = .ok (.aload_n 0, 1) := by decide +kernel
theorem dX12_twoWith_9 : decode cX12_twoWith 9 = .ok (.iload_n 3, 1) := by decide +kernel
theorem dX12_twoWith_10 : decode cX12_twoWith 10 = .ok (.invokevirtual 386, 3) := by decide +kernel
theorem dX12_twoWith_13 : decode cX12_twoWith 13 = .ok (.if_icmp .ge 134, 3) := by decide +kernel
theorem dX12_twoWith_16 : decode cX12_twoWith 16 = .ok (.aload_n 0, 1) := by decide +kernel
theorem dX12_twoWith_17 : decode cX12_twoWith 17 = .ok (.getfield 16, 3) := by decide +kernel
theorem dX12_twoWith_20 : decode cX12_twoWith 20 = .ok (.iload_n 1, 1) := by decide +kernel
theorem dX12_twoWith_21 : decode cX12_twoWith 21 = .ok (.iaload, 1) := by decide +kernel
theorem dX12_twoWith_22 : decode cX12_twoWith 22 = .ok (.iload 5, 2) := by decide +kernel
theorem dX12_twoWith_24 : decode cX12_twoWith 24 = .ok (.isub, 1) := by decide +kernel
theorem dX12_twoWith_25 : decode cX12_twoWith 25 = .ok (.aload_n 0, 1) := by decide +kernel
theorem dX12_twoWith_26 : decode cX12_twoWith 26 = .ok (.iload_n 3, 1) := by decide +kernel
theorem dX12_twoWith_27 : decode cX12_twoWith 27 = .ok (.iload 10, 2) := by decide +kernel
theorem dX12_twoWith_29 : decode cX12_twoWith 29 = .ok (.iload 7, 2) := by decide +kernel
theorem dX12_twoWith_31 : decode cX12_twoWith 31 = .ok (.invokevirtual 392, 3) := by decide +kernel
theorem dX12_twoWith_34 : decode cX12_twoWith 34 = .ok (.iadd, 1) := by decide +kernel
theorem dX12_twoWith_35 : decode cX12_twoWith 35 = .ok (.istore 11, 2) := by decide +kernel
theorem dX12_twoWith_37 : decode cX12_twoWith 37 = .ok (.iload 11, 2) := by decide +kernel
theorem dX12_twoWith_39 : decode cX12_twoWith 39 = .ok (.aload_n 0, 1) := by decide +kernel
theorem dX12_twoWith_40 : decode cX12_twoWith 40 = .ok (.getfield 16, 3) := by decide +kernel
theorem dX12_twoWith_43 : decode cX12_twoWith 43 = .ok (.iload_n 1, 1) := by decide +kernel
theorem dX12_twoWith_44 : decode cX12_twoWith 44 = .ok (.iaload, 1) := by decide +kernel
theorem dX12_twoWith_45 : decode cX12_twoWith 45 = .ok (.if_icmp .le 8, 3) := by decide +kernel
theorem dX12_twoWith_48 : decode cX12_twoWith 48 = .ok (.iload 11, 2) := by decide +kernel
theorem dX12_twoWith_50 : decode cX12_twoWith 50 = .ok (.goto 9, 3) := by decide +kernel
theorem dX12_twoWith_53 : decode cX12_twoWith 53 = .ok (.aload_n 0, 1) := by decide +kernel
theorem dX12_twoWith_54 : decode cX12_twoWith 54 = .ok (.getfield 16, 3) := by decide +kernel
theorem dX12_twoWith_57 : decode cX12_twoWith 57 = .ok (.iload_n 1, 1) := by decide +kernel
theorem dX12_twoWith_58 : decode cX12_twoWith 58 = .ok (.iaload, 1) := by decide +kernel
theorem dX12_twoWith_59 : decode cX12_twoWith 59 = .ok (.iload 4, 2) := by decide +kernel
theorem dX12_twoWith_61 : decode cX12_twoWith 61 = .ok (.iadd, 1) := by decide +kernel
theorem dX12_twoWith_62 : decode cX12_twoWith 62 = .ok (.istore 12, 2) := by decide +kernel
theorem dX12_twoWith_64 : decode cX12_twoWith 64 = .ok (.aload_n 0, 1) := by decide +kernel
theorem dX12_twoWith_65 : decode cX12_twoWith 65 = .ok (.iload_n 1, 1) := by decide +kernel
theorem dX12_twoWith_66 : decode cX12_twoWith 66 = .ok (.iload_n 3, 1) := by decide +kernel
theorem dX12_twoWith_67 : decode cX12_twoWith 67 = .ok (.iload 11, 2) := by decide +kernel
theorem dX12_twoWith_69 : decode cX12_twoWith 69 = .ok (.iload 6, 2) := by decide +kernel
theorem dX12_twoWith_71 : decode cX12_twoWith 71 = .ok (.invokevirtual 416, 3) := by decide +kernel
theorem dX12_twoWith_74 : decode cX12_twoWith 74 = .ok (.lstore 13, 2) := by decide +kernel
theorem dX12_twoWith_76 : decode cX12_twoWith 76 = .ok (.iconst 0, 1) := by decide +kernel
theorem dX12_twoWith_77 : decode cX12_twoWith 77 = .ok (.istore 15, 2) := by decide +kernel
theorem dX12_twoWith_79 : decode cX12_twoWith 79 = .ok (.iload 15, 2) := by decide +kernel
theorem dX12_twoWith_81 : decode cX12_twoWith 81 = .ok (.aload_n 0, 1) := by decide +kernel
theorem dX12_twoWith_82 : decode cX12_twoWith 82 = .ok (.iload_n 3, 1) := by decide +kernel
theorem dX12_twoWith_83 : decode cX12_twoWith 83 = .ok (.invokevirtual 386, 3) := by decide +kernel
theorem dX12_twoWith_86 : decode cX12_twoWith 86 = .ok (.if_icmp .ge 55, 3) := by decide +kernel
theorem dX12_twoWith_89 : decode cX12_twoWith 89 = .ok (.lload 8, 2) := by decide +kernel
theorem dX12_twoWith_91 : decode cX12_twoWith 91 = .ok (.aload_n 0, 1) := by decide +kernel
theorem dX12_twoWith_92 : decode cX12_twoWith 92 = .ok (.iload_n 3, 1) := by decide +kernel
theorem dX12_twoWith_93 : decode cX12_twoWith 93 = .ok (.iload 10, 2) := by decide +kernel
theorem dX12_twoWith_95 : decode cX12_twoWith 95 = .ok (.invokevirtual 389, 3) := by decide +kernel
theorem dX12_twoWith_98 : decode cX12_twoWith 98 = .ok (.i2l, 1) := by decide +kernel
theorem dX12_twoWith_99 : decode cX12_twoWith 99 = .ok (.aload_n 0, 1) := by decide +kernel
theorem dX12_twoWith_100 : decode cX12_twoWith 100 = .ok (.iload_n 3, 1) := by decide +kernel
theorem dX12_twoWith_101 : decode cX12_twoWith 101 = .ok (.iload 15, 2) := by decide +kernel
theorem dX12_twoWith_103 : decode cX12_twoWith 103 = .ok (.invokevirtual 389, 3) := by decide +kernel
theorem dX12_twoWith_106 : decode cX12_twoWith 106 = .ok (.i2l, 1) := by decide +kernel
theorem dX12_twoWith_107 : decode cX12_twoWith 107 = .ok (.lmul, 1) := by decide +kernel
theorem dX12_twoWith_108 : decode cX12_twoWith 108 = .ok (.lload 13, 2) := by decide +kernel
theorem dX12_twoWith_110 : decode cX12_twoWith 110 = .ok (.aload_n 0, 1) := by decide +kernel
theorem dX12_twoWith_111 : decode cX12_twoWith 111 = .ok (.iload_n 2, 1) := by decide +kernel
theorem dX12_twoWith_112 : decode cX12_twoWith 112 = .ok (.iload_n 3, 1) := by decide +kernel
theorem dX12_twoWith_113 : decode cX12_twoWith 113 = .ok (.iload 12, 2) := by decide +kernel
theorem dX12_twoWith_115 : decode cX12_twoWith 115 = .ok (.aload_n 0, 1) := by decide +kernel
theorem dX12_twoWith_116 : decode cX12_twoWith 116 = .ok (.iload_n 3, 1) := by decide +kernel
theorem dX12_twoWith_117 : decode cX12_twoWith 117 = .ok (.iload 15, 2) := by decide +kernel
theorem dX12_twoWith_119 : decode cX12_twoWith 119 = .ok (.iload 7, 2) := by decide +kernel
theorem dX12_twoWith_121 : decode cX12_twoWith 121 = .ok (.invokevirtual 392, 3) := by decide +kernel
theorem dX12_twoWith_124 : decode cX12_twoWith 124 = .ok (.iadd, 1) := by decide +kernel
theorem dX12_twoWith_125 : decode cX12_twoWith 125 = .ok (.iload 6, 2) := by decide +kernel
theorem dX12_twoWith_127 : decode cX12_twoWith 127 = .ok (.invokevirtual 416, 3) := by decide +kernel
theorem dX12_twoWith_130 : decode cX12_twoWith 130 = .ok (.ladd, 1) := by decide +kernel
theorem dX12_twoWith_131 : decode cX12_twoWith 131 = .ok (.lmul, 1) := by decide +kernel
theorem dX12_twoWith_132 : decode cX12_twoWith 132 = .ok (.ladd, 1) := by decide +kernel
theorem dX12_twoWith_133 : decode cX12_twoWith 133 = .ok (.lstore 8, 2) := by decide +kernel
theorem dX12_twoWith_135 : decode cX12_twoWith 135 = .ok (.iinc 15 1, 3) := by decide +kernel
theorem dX12_twoWith_138 : decode cX12_twoWith 138 = .ok (.goto (-59), 3) := by decide +kernel
theorem dX12_twoWith_141 : decode cX12_twoWith 141 = .ok (.iinc 10 1, 3) := by decide +kernel
theorem dX12_twoWith_144 : decode cX12_twoWith 144 = .ok (.goto (-138), 3) := by decide +kernel
theorem dX12_twoWith_147 : decode cX12_twoWith 147 = .ok (.lload 8, 2) := by decide +kernel
theorem dX12_twoWith_149 : decode cX12_twoWith 149 = .ok (.aload_n 0, 1) := by decide +kernel
theorem dX12_twoWith_150 : decode cX12_twoWith 150 = .ok (.iload 7, 2) := by decide +kernel
theorem dX12_twoWith_152 : decode cX12_twoWith 152 = .ok (.invokevirtual 396, 3) := by decide +kernel
theorem dX12_twoWith_155 : decode cX12_twoWith 155 = .ok (.i2l, 1) := by decide +kernel
theorem dX12_twoWith_156 : decode cX12_twoWith 156 = .ok (.lmul, 1) := by decide +kernel
theorem dX12_twoWith_157 : decode cX12_twoWith 157 = .ok (.lreturn, 1) := by decide +kernel
theorem dX12_areInRow_0 : decode cX12_areInRow 0 = .ok (.aload_n 0, 1) := by decide +kernel
theorem dX12_areInRow_1 : decode cX12_areInRow 1 = .ok (.iload_n 1, 1) := by decide +kernel
theorem dX12_areInRow_2 : decode cX12_areInRow 2 = .ok (.iload_n 3, 1) := by decide +kernel
theorem dX12_areInRow_3 : decode cX12_areInRow 3 = .ok (.invokevirtual 176, 3) := by decide +kernel
theorem dX12_areInRow_6 : decode cX12_areInRow 6 = .ok (.ifCond .eq 69, 3) := by decide +kernel
theorem dX12_areInRow_9 : decode cX12_areInRow 9 = .ok (.aload_n 0, 1) := by decide +kernel
theorem dX12_areInRow_10 : decode cX12_areInRow 10 = .ok (.iload_n 2, 1) := by decide +kernel
theorem dX12_areInRow_11 : decode cX12_areInRow 11 = .ok (.iload_n 3, 1) := by decide +kernel
theorem dX12_areInRow_12 : decode cX12_areInRow 12 = .ok (.invokevirtual 176, 3) := by decide +kernel
theorem dX12_areInRow_15 : decode cX12_areInRow 15 = .ok (.ifCond .eq 60, 3) := by decide +kernel
theorem dX12_areInRow_18 : decode cX12_areInRow 18 = .ok (.aload_n 0, 1) := by decide +kernel
theorem dX12_areInRow_19 : decode cX12_areInRow 19 = .ok (.getfield 13, 3) := by decide +kernel
theorem dX12_areInRow_22 : decode cX12_areInRow 22 = .ok (.iload_n 1, 1) := by decide +kernel
theorem dX12_areInRow_23 : decode cX12_areInRow 23 = .ok (.iaload, 1) := by decide +kernel
theorem dX12_areInRow_24 : decode cX12_areInRow 24 = .ok (.aload_n 0, 1) := by decide +kernel
theorem dX12_areInRow_25 : decode cX12_areInRow 25 = .ok (.getfield 13, 3) := by decide +kernel
theorem dX12_areInRow_28 : decode cX12_areInRow 28 = .ok (.iload_n 2, 1) := by decide +kernel
theorem dX12_areInRow_29 : decode cX12_areInRow 29 = .ok (.iaload, 1) := by decide +kernel
theorem dX12_areInRow_30 : decode cX12_areInRow 30 = .ok (.if_icmp .ne 45, 3) := by decide +kernel
theorem dX12_areInRow_33 : decode cX12_areInRow 33 = .ok (.aload_n 0, 1) := by decide +kernel
theorem dX12_areInRow_34 : decode cX12_areInRow 34 = .ok (.getfield 16, 3) := by decide +kernel
theorem dX12_areInRow_37 : decode cX12_areInRow 37 = .ok (.iload_n 2, 1) := by decide +kernel
theorem dX12_areInRow_38 : decode cX12_areInRow 38 = .ok (.iaload, 1) := by decide +kernel
theorem dX12_areInRow_39 : decode cX12_areInRow 39 = .ok (.aload_n 0, 1) := by decide +kernel
theorem dX12_areInRow_40 : decode cX12_areInRow 40 = .ok (.getfield 16, 3) := by decide +kernel
theorem dX12_areInRow_43 : decode cX12_areInRow 43 = .ok (.iload_n 1, 1) := by decide +kernel
theorem dX12_areInRow_44 : decode cX12_areInRow 44 = .ok (.iaload, 1) := by decide +kernel
theorem dX12_areInRow_45 : decode cX12_areInRow 45 = .ok (.if_icmp .le 30, 3) := by decide +kernel
theorem dX12_areInRow_48 : decode cX12_areInRow 48 = .ok (.iload 4, 2) := by decide +kernel
theorem dX12_areInRow_50 : decode cX12_areInRow 50 = .ok (.iconst 0, 1) := by decide +kernel
theorem dX12_areInRow_51 : decode cX12_areInRow 51 = .ok (.sipush 600, 3) := by decide +kernel
theorem dX12_areInRow_54 : decode cX12_areInRow 54 = .ok (.invokestatic 168, 3) := by decide +kernel
theorem dX12_areInRow_57 : decode cX12_areInRow 57 = .ok (.ifCond .eq 18, 3) := by decide +kernel
theorem dX12_areInRow_60 : decode cX12_areInRow 60 = .ok (.iload 5, 2) := by decide +kernel
theorem dX12_areInRow_62 : decode cX12_areInRow 62 = .ok (.iconst 0, 1) := by decide +kernel
theorem dX12_areInRow_63 : decode cX12_areInRow 63 = .ok (.bipush 99, 2) := by decide +kernel
theorem dX12_areInRow_65 : decode cX12_areInRow 65 = .ok (.invokestatic 168, 3) := by decide +kernel
theorem dX12_areInRow_68 : decode cX12_areInRow 68 = .ok (.ifCond .eq 7, 3) := by decide +kernel
theorem dX12_areInRow_71 : decode cX12_areInRow 71 = .ok (.iconst 1, 1) := by decide +kernel
theorem dX12_areInRow_72 : decode cX12_areInRow 72 = .ok (.goto 4, 3) := by decide +kernel
theorem dX12_areInRow_75 : decode cX12_areInRow 75 = .ok (.iconst 0, 1) := by decide +kernel
theorem dX12_areInRow_76 : decode cX12_areInRow 76 = .ok (.ireturn, 1) := by decide +kernel
theorem dX12_twoOf_0 : decode cX12_twoOf 0 = .ok (.aload_n 0, 1) := by decide +kernel
theorem dX12_twoOf_1 : decode cX12_twoOf 1 = .ok (.iload_n 1, 1) := by decide +kernel
theorem dX12_twoOf_2 : decode cX12_twoOf 2 = .ok (.iload_n 2, 1) := by decide +kernel
theorem dX12_twoOf_3 : decode cX12_twoOf 3 = .ok (.iload_n 3, 1) := by decide +kernel
theorem dX12_twoOf_4 : decode cX12_twoOf 4 = .ok (.iload 4, 2) := by decide +kernel
theorem dX12_twoOf_6 : decode cX12_twoOf 6 = .ok (.iload 5, 2) := by decide +kernel
theorem dX12_twoOf_8 : decode cX12_twoOf 8 = .ok (.iload 6, 2) := by decide +kernel
theorem dX12_twoOf_10 : decode cX12_twoOf 10 = .ok (.iconst 0, 1) := by decide +kernel
theorem dX12_twoOf_11 : decode cX12_twoOf 11 = .ok (.invokevirtual 427, 3) := by decide +kernel
theorem dX12_twoOf_14 : decode cX12_twoOf 14 = .ok (.aload_n 0, 1) := by decide +kernel
theorem dX12_twoOf_15 : decode cX12_twoOf 15 = .ok (.iload_n 1, 1) := by decide +kernel
theorem dX12_twoOf_16 : decode cX12_twoOf 16 = .ok (.iload_n 2, 1) := by decide +kernel
theorem dX12_twoOf_17 : decode cX12_twoOf 17 = .ok (.iload_n 3, 1) := by decide +kernel
theorem dX12_twoOf_18 : decode cX12_twoOf 18 = .ok (.iload 4, 2) := by decide +kernel
theorem dX12_twoOf_20 : decode cX12_twoOf 20 = .ok (.iload 5, 2) := by decide +kernel
theorem dX12_twoOf_22 : decode cX12_twoOf 22 = .ok (.iload 6, 2) := by decide +kernel
theorem dX12_twoOf_24 : decode cX12_twoOf 24 = .ok (.iconst 1, 1) := by decide +kernel
