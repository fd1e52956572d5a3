theorem dX12_twoOf_25 : decode cX12_twoOf 25 = .ok (.invokevirtual 427, 3) := by decide +kernel
theorem dX12_twoOf_28 : decode cX12_twoOf 28 = .ok (.ladd, 1) := by decide +kernel
theorem dX12_twoOf_29 : decode cX12_twoOf 29 = .ok (.lreturn, 1) := by decide +kernel
theorem dX12_two_0 : decode cX12_two 0 = .ok (.aload_n 0, 1) := by decide +kernel
theorem dX12_two_1 : decode cX12_two 1 = .ok (.iload_n 1, 1) := by decide +kernel
theorem dX12_two_2 : decode cX12_two 2 = .ok (.iload_n 2, 1) := by decide +kernel
theorem dX12_two_3 : decode cX12_two 3 = .ok (.iload_n 3, 1) := by decide +kernel
theorem dX12_two_4 : decode cX12_two 4 = .ok (.iload 4, 2) := by decide +kernel
theorem dX12_two_6 : decode cX12_two 6 = .ok (.iload 6, 2) := by decide +kernel
theorem dX12_two_8 : decode cX12_two 8 = .ok (.invokevirtual 431, 3) := by decide +kernel
theorem dX12_two_11 : decode cX12_two 11 = .ok (.ifCond .eq 16, 3) := by decide +kernel
theorem dX12_two_14 : decode cX12_two 14 = .ok (.iload 5, 2) := by decide +kernel
theorem dX12_two_16 : decode cX12_two 16 = .ok (.bipush (-60), 2) := by decide +kernel
theorem dX12_two_18 : decode cX12_two 18 = .ok (.sipush 600, 3) := by decide +kernel
theorem dX12_two_21 : decode cX12_two 21 = .ok (.invokestatic 168, 3) := by decide +kernel
theorem dX12_two_24 : decode cX12_two 24 = .ok (.ifCond .ne 9, 3) := by decide +kernel
theorem dX12_two_27 : decode cX12_two 27 = .ok (.ldc2_w 351, 3) := by decide +kernel
theorem dX12_two_30 : decode cX12_two 30 = .ok (.goto 16, 3) := by decide +kernel
theorem dX12_two_33 : decode cX12_two 33 = .ok (.aload_n 0, 1) := by decide +kernel
theorem dX12_two_34 : decode cX12_two 34 = .ok (.iload_n 1, 1) := by decide +kernel
theorem dX12_two_35 : decode cX12_two 35 = .ok (.iload_n 2, 1) := by decide +kernel
theorem dX12_two_36 : decode cX12_two 36 = .ok (.iload_n 3, 1) := by decide +kernel
theorem dX12_two_37 : decode cX12_two 37 = .ok (.iload 4, 2) := by decide +kernel
theorem dX12_two_39 : decode cX12_two 39 = .ok (.iload 5, 2) := by decide +kernel
theorem dX12_two_41 : decode cX12_two 41 = .ok (.iload 6, 2) := by decide +kernel
theorem dX12_two_43 : decode cX12_two 43 = .ok (.invokevirtual 435, 3) := by decide +kernel
theorem dX12_two_46 : decode cX12_two 46 = .ok (.lreturn, 1) := by decide +kernel
theorem dX12_outTwo_0 : decode cX12_outTwo 0 = .ok (.aload_n 0, 1) := by decide +kernel
theorem dX12_outTwo_1 : decode cX12_outTwo 1 = .ok (.iload_n 1, 1) := by decide +kernel
theorem dX12_outTwo_2 : decode cX12_outTwo 2 = .ok (.iload_n 2, 1) := by decide +kernel
theorem dX12_outTwo_3 : decode cX12_outTwo 3 = .ok (.iload_n 3, 1) := by decide +kernel
theorem dX12_outTwo_4 : decode cX12_outTwo 4 = .ok (.iload 4, 2) := by decide +kernel
theorem dX12_outTwo_6 : decode cX12_outTwo 6 = .ok (.iload 5, 2) := by decide +kernel
theorem dX12_outTwo_8 : decode cX12_outTwo 8 = .ok (.invokevirtual 431, 3) := by decide +kernel
theorem dX12_outTwo_11 : decode cX12_outTwo 11 = .ok (.ifCond .ne 5, 3) := by decide +kernel
theorem dX12_outTwo_14 : decode cX12_outTwo 14 = .ok (.iconst (-1), 1) := by decide +kernel
theorem dX12_outTwo_15 : decode cX12_outTwo 15 = .ok (.ireturn, 1) := by decide +kernel
theorem dX12_outTwo_16 : decode cX12_outTwo 16 = .ok (.iconst 0, 1) := by decide +kernel
theorem dX12_outTwo_17 : decode cX12_outTwo 17 = .ok (.istore 6, 2) := by decide +kernel
theorem dX12_outTwo_19 : decode cX12_outTwo 19 = .ok (.aload_n 0, 1) := by decide +kernel
theorem dX12_outTwo_20 : decode cX12_outTwo 20 = .ok (.iload_n 1, 1) := by decide +kernel
theorem dX12_outTwo_21 : decode cX12_outTwo 21 = .ok (.iload_n 2, 1) := by decide +kernel
theorem dX12_outTwo_22 : decode cX12_outTwo 22 = .ok (.iload_n 3, 1) := by decide +kernel
theorem dX12_outTwo_23 : decode cX12_outTwo 23 = .ok (.iload 4, 2) := by decide +kernel
theorem dX12_outTwo_25 : decode cX12_outTwo 25 = .ok (.iconst 0, 1) := by decide +kernel
theorem dX12_outTwo_26 : decode cX12_outTwo 26 = .ok (.iload 5, 2) := by decide +kernel
theorem dX12_outTwo_28 : decode cX12_outTwo 28 = .ok (.invokevirtual 435, 3) := by decide +kernel
theorem dX12_outTwo_31 : decode cX12_outTwo 31 = .ok (.lstore 7, 2) := by decide +kernel
theorem dX12_outTwo_33 : decode cX12_outTwo 33 = .ok (.iconst 1, 1) := by decide +kernel
theorem dX12_outTwo_34 : decode cX12_outTwo 34 = .ok (.istore 9, 2) := by decide +kernel
theorem dX12_outTwo_36 : decode cX12_outTwo 36 = .ok (.iload 9, 2) := by decide +kernel
theorem dX12_outTwo_38 : decode cX12_outTwo 38 = .ok (.sipush 600, 3) := by decide +kernel
theorem dX12_outTwo_41 : decode cX12_outTwo 41 = .ok (.if_icmp .gt 43, 3) := by decide +kernel
theorem dX12_outTwo_44 : decode cX12_outTwo 44 = .ok (.aload_n 0, 1) := by decide +kernel
theorem dX12_outTwo_45 : decode cX12_outTwo 45 = .ok (.iload_n 1, 1) := by decide +kernel
theorem dX12_outTwo_46 : decode cX12_outTwo 46 = .ok (.iload_n 2, 1) := by decide +kernel
theorem dX12_outTwo_47 : decode cX12_outTwo 47 = .ok (.iload_n 3, 1) := by decide +kernel
theorem dX12_outTwo_48 : decode cX12_outTwo 48 = .ok (.iload 4, 2) := by decide +kernel
theorem dX12_outTwo_50 : decode cX12_outTwo 50 = .ok (.iload 9, 2) := by decide +kernel
theorem dX12_outTwo_52 : decode cX12_outTwo 52 = .ok (.iload 5, 2) := by decide +kernel
theorem dX12_outTwo_54 : decode cX12_outTwo 54 = .ok (.invokevirtual 435, 3) := by decide +kernel
theorem dX12_outTwo_57 : decode cX12_outTwo 57 = .ok (.lstore 10, 2) := by decide +kernel
theorem dX12_outTwo_59 : decode cX12_outTwo 59 = .ok (.lload 10, 2) := by decide +kernel
theorem dX12_outTwo_61 : decode cX12_outTwo 61 = .ok (.lload 7, 2) := by decide +kernel
theorem dX12_outTwo_63 : decode cX12_outTwo 63 = .ok (.lcmp, 1) := by decide +kernel
theorem dX12_outTwo_64 : decode cX12_outTwo 64 = .ok (.ifCond .lt 6, 3) := by decide +kernel
theorem dX12_outTwo_67 : decode cX12_outTwo 67 = .ok (.goto 11, 3) := by decide +kernel
theorem dX12_outTwo_70 : decode cX12_outTwo 70 = .ok (.lload 10, 2) := by decide +kernel
theorem dX12_outTwo_72 : decode cX12_outTwo 72 = .ok (.lstore 7, 2) := by decide +kernel
theorem dX12_outTwo_74 : decode cX12_outTwo 74 = .ok (.iload 9, 2) := by decide +kernel
theorem dX12_outTwo_76 : decode cX12_outTwo 76 = .ok (.istore 6, 2) := by decide +kernel
theorem dX12_outTwo_78 : decode cX12_outTwo 78 = .ok (.iinc 9 1, 3) := by decide +kernel
theorem dX12_outTwo_81 : decode cX12_outTwo 81 = .ok (.goto (-45), 3) := by decide +kernel
theorem dX12_outTwo_84 : decode cX12_outTwo 84 = .ok (.iload 6, 2) := by decide +kernel
theorem dX12_outTwo_86 : decode cX12_outTwo 86 = .ok (.ireturn, 1) := by decide +kernel
theorem dX12_laysGoers_0 : decode cX12_laysGoers 0 = .ok (.aload_n 0, 1) := by decide +kernel
theorem dX12_laysGoers_1 : decode cX12_laysGoers 1 = .ok (.iconst 0, 1) := by decide +kernel
theorem dX12_laysGoers_2 : decode cX12_laysGoers 2 = .ok (.putfield 439, 3) := by decide +kernel
theorem dX12_laysGoers_5 : decode cX12_laysGoers 5 = .ok (.iconst 0, 1) := by decide +kernel
theorem dX12_laysGoers_6 : decode cX12_laysGoers 6 = .ok (.istore_n 2, 1) := by decide +kernel
theorem dX12_laysGoers_7 : decode cX12_laysGoers 7 = .ok (.iload_n 2, 1) := by decide +kernel
theorem dX12_laysGoers_8 : decode cX12_laysGoers 8 = .ok (.bipush 8, 2) := by decide +kernel
theorem dX12_laysGoers_10 : decode cX12_laysGoers 10 = .ok (.if_icmp .ge 51, 3) := by decide +kernel
theorem dX12_laysGoers_13 : decode cX12_laysGoers 13 = .ok (.aload_n 0, 1) := by decide +kernel
theorem dX12_laysGoers_14 : decode cX12_laysGoers 14 = .ok (.iload_n 1, 1) := by decide +kernel
theorem dX12_laysGoers_15 : decode cX12_laysGoers 15 = .ok (.iload_n 2, 1) := by decide +kernel
theorem dX12_laysGoers_16 : decode cX12_laysGoers 16 = .ok (.invokevirtual 176, 3) := by decide +kernel
theorem dX12_laysGoers_19 : decode cX12_laysGoers 19 = .ok (.ifCond .ne 6, 3) := by decide +kernel
theorem dX12_laysGoers_22 : decode cX12_laysGoers 22 = .ok (.goto 33, 3) := by decide +kernel
theorem dX12_laysGoers_25 : decode cX12_laysGoers 25 = .ok (.aload_n 0, 1) := by decide +kernel
theorem dX12_laysGoers_26 : decode cX12_laysGoers 26 = .ok (.getfield 136, 3) := by decide +kernel
theorem dX12_laysGoers_29 : decode cX12_laysGoers 29 = .ok (.aload_n 0, 1) := by decide +kernel
theorem dX12_laysGoers_30 : decode cX12_laysGoers 30 = .ok (.getfield 439, 3) := by decide +kernel
theorem dX12_laysGoers_33 : decode cX12_laysGoers 33 = .ok (.iload_n 2, 1) := by decide +kernel
theorem dX12_laysGoers_34 : decode cX12_laysGoers 34 = .ok (.iastore, 1) := by decide +kernel
theorem dX12_laysGoers_35 : decode cX12_laysGoers 35 = .ok (.aload_n 0, 1) := by decide +kernel
theorem dX12_laysGoers_36 : decode cX12_laysGoers 36 = .ok (.getfield 139, 3) := by decide +kernel
theorem dX12_laysGoers_39 : decode cX12_laysGoers 39 = .ok (.aload_n 0, 1) := by decide +kernel
theorem dX12_laysGoers_40 : decode cX12_laysGoers 40 = .ok (.getfield 439, 3) := by decide +kernel
theorem dX12_laysGoers_43 : decode cX12_laysGoers 43 = .ok (.iconst 0, 1) := by decide +kernel
theorem dX12_laysGoers_44 : decode cX12_laysGoers 44 = .ok (.iastore, 1) := by decide +kernel
theorem dX12_laysGoers_45 : decode cX12_laysGoers 45 = .ok (.aload_n 0, 1) := by decide +kernel
theorem dX12_laysGoers_46 : decode cX12_laysGoers 46 = .ok (.aload_n 0, 1) := by decide +kernel
theorem dX12_laysGoers_47 : decode cX12_laysGoers 47 = .ok (.getfield 439, 3) := by decide +kernel
theorem dX12_laysGoers_50 : decode cX12_laysGoers 50 = .ok (.iconst 1, 1) := by decide +kernel
theorem dX12_laysGoers_51 : decode cX12_laysGoers 51 = .ok (.iadd, 1) := by decide +kernel
theorem dX12_laysGoers_52 : decode cX12_laysGoers 52 = .ok (.putfield 439, 3) := by decide +kernel
theorem dX12_laysGoers_55 : decode cX12_laysGoers 55 = .ok (.iinc 2 1, 3) := by decide +kernel
theorem dX12_laysGoers_58 : decode cX12_laysGoers 58 = .ok (.goto (-51), 3) := by decide +kernel
theorem dX12_laysGoers_61 : decode cX12_laysGoers 61 = .ok (.return_, 1) := by decide +kernel
theorem dX12_dayCost_0 : decode cX12_dayCost 0 = .ok (.aload_n 0, 1) := by decide +kernel
theorem dX12_dayCost_1 : decode cX12_dayCost 1 = .ok (.getfield 16, 3) := by decide +kernel
theorem dX12_dayCost_4 : decode cX12_dayCost 4 = .ok (.iload_n 1, 1) := by decide +kernel
theorem dX12_dayCost_5 : decode cX12_dayCost 5 = .ok (.iaload, 1) := by decide +kernel
theorem dX12_dayCost_6 : decode cX12_dayCost 6 = .ok (.istore 4, 2) := by decide +kernel
theorem dX12_dayCost_8 : decode cX12_dayCost 8 = .ok (.iconst 0, 1) := by decide +kernel
theorem dX12_dayCost_9 : decode cX12_dayCost 9 = .ok (.istore 5, 2) := by decide +kernel
theorem dX12_dayCost_11 : decode cX12_dayCost 11 = .ok (.iload 5, 2) := by decide +kernel
theorem dX12_dayCost_13 : decode cX12_dayCost 13 = .ok (.aload_n 0, 1) := by decide +kernel
theorem dX12_dayCost_14 : decode cX12_dayCost 14 = .ok (.getfield 439, 3) := by decide +kernel
theorem dX12_dayCost_17 : decode cX12_dayCost 17 = .ok (.if_icmp .ge 35, 3) := by decide +kernel
theorem dX12_dayCost_20 : decode cX12_dayCost 20 = .ok (.aload_n 0, 1) := by decide +kernel
theorem dX12_dayCost_21 : decode cX12_dayCost 21 = .ok (.getfield 145, 3) := by decide +kernel
theorem dX12_dayCost_24 : decode cX12_dayCost 24 = .ok (.iload 5, 2) := by decide +kernel
theorem dX12_dayCost_26 : decode cX12_dayCost 26 = .ok (.iaload, 1) := by decide +kernel
theorem dX12_dayCost_27 : decode cX12_dayCost 27 = .ok (.iload 4, 2) := by decide +kernel
theorem dX12_dayCost_29 : decode cX12_dayCost 29 = .ok (.if_icmp .le 13, 3) := by decide +kernel
theorem dX12_dayCost_32 : decode cX12_dayCost 32 = .ok (.aload_n 0, 1) := by decide +kernel
theorem dX12_dayCost_33 : decode cX12_dayCost 33 = .ok (.getfield 145, 3) := by decide +kernel
theorem dX12_dayCost_36 : decode cX12_dayCost 36 = .ok (.iload 5, 2) := by decide +kernel
theorem dX12_dayCost_38 : decode cX12_dayCost 38 = .ok (.iaload, 1) := by decide +kernel
theorem dX12_dayCost_39 : decode cX12_dayCost 39 = .ok (.goto 5, 3) := by decide +kernel
theorem dX12_dayCost_42 : decode cX12_dayCost 42 = .ok (.iload 4, 2) := by decide +kernel
theorem dX12_dayCost_44 : decode cX12_dayCost 44 = .ok (.istore 4, 2) := by decide +kernel
theorem dX12_dayCost_46 : decode cX12_dayCost 46 = .ok (.iinc 5 1, 3) := by decide +kernel
theorem dX12_dayCost_49 : decode cX12_dayCost 49 = .ok (.goto (-38), 3) := by decide +kernel
theorem dX12_dayCost_52 : decode cX12_dayCost 52 = .ok (.iload 4, 2) := by decide +kernel
theorem dX12_dayCost_54 : decode cX12_dayCost 54 = .ok (.aload_n 0, 1) := by decide +kernel
theorem dX12_dayCost_55 : decode cX12_dayCost 55 = .ok (.getfield 145, 3) := by decide +kernel
theorem dX12_dayCost_58 : decode cX12_dayCost 58 = .ok (.iload_n 2, 1) := by decide +kernel
theorem dX12_dayCost_59 : decode cX12_dayCost 59 = .ok (.iaload, 1) := by decide +kernel
theorem dX12_dayCost_60 : decode cX12_dayCost 60 = .ok (.isub, 1) := by decide +kernel
theorem dX12_dayCost_61 : decode cX12_dayCost 61 = .ok (.i2l, 1) := by decide +kernel
theorem dX12_dayCost_62 : decode cX12_dayCost 62 = .ok (.aload_n 0, 1) := by decide +kernel
theorem dX12_dayCost_63 : decode cX12_dayCost 63 = .ok (.getfield 7, 3) := by decide +kernel
theorem dX12_dayCost_66 : decode cX12_dayCost 66 = .ok (.bipush 24, 2) := by decide +kernel
theorem dX12_dayCost_68 : decode cX12_dayCost 68 = .ok (.aload_n 0, 1) := by decide +kernel
theorem dX12_dayCost_69 : decode cX12_dayCost 69 = .ok (.getfield 136, 3) := by decide +kernel
theorem dX12_dayCost_72 : decode cX12_dayCost 72 = .ok (.iload_n 2, 1) := by decide +kernel
theorem dX12_dayCost_73 : decode cX12_dayCost 73 = .ok (.iaload, 1) := by decide +kernel
theorem dX12_dayCost_74 : decode cX12_dayCost 74 = .ok (.imul, 1) := by decide +kernel
theorem dX12_dayCost_75 : decode cX12_dayCost 75 = .ok (.aload_n 0, 1) := by decide +kernel
theorem dX12_dayCost_76 : decode cX12_dayCost 76 = .ok (.getfield 16, 3) := by decide +kernel
theorem dX12_dayCost_79 : decode cX12_dayCost 79 = .ok (.iload_n 1, 1) := by decide +kernel
theorem dX12_dayCost_80 : decode cX12_dayCost 80 = .ok (.iaload, 1) := by decide +kernel
theorem dX12_dayCost_81 : decode cX12_dayCost 81 = .ok (.bipush 60, 2) := by decide +kernel
theorem dX12_dayCost_83 : decode cX12_dayCost 83 = .ok (.idiv, 1) := by decide +kernel
theorem dX12_dayCost_84 : decode cX12_dayCost 84 = .ok (.iadd, 1) := by decide +kernel
theorem dX12_dayCost_85 : decode cX12_dayCost 85 = .ok (.iaload, 1) := by decide +kernel
theorem dX12_dayCost_86 : decode cX12_dayCost 86 = .ok (.i2l, 1) := by decide +kernel
theorem dX12_dayCost_87 : decode cX12_dayCost 87 = .ok (.lmul, 1) := by decide +kernel
theorem dX12_dayCost_88 : decode cX12_dayCost 88 = .ok (.lstore 5, 2) := by decide +kernel
theorem dX12_dayCost_90 : decode cX12_dayCost 90 = .ok (.iconst 0, 1) := by decide +kernel
theorem dX12_dayCost_91 : decode cX12_dayCost 91 = .ok (.istore 7, 2) := by decide +kernel
theorem dX12_dayCost_93 : decode cX12_dayCost 93 = .ok (.iload 7, 2) := by decide +kernel
theorem dX12_dayCost_95 : decode cX12_dayCost 95 = .ok (.aload_n 0, 1) := by decide +kernel
theorem dX12_dayCost_96 : decode cX12_dayCost 96 = .ok (.getfield 439, 3) := by decide +kernel
theorem dX12_dayCost_99 : decode cX12_dayCost 99 = .ok (.if_icmp .ge 78, 3) := by decide +kernel
theorem dX12_dayCost_102 : decode cX12_dayCost 102 = .ok (.aload_n 0, 1) := by decide +kernel
theorem dX12_dayCost_103 : decode cX12_dayCost 103 = .ok (.getfield 145, 3) := by decide +kernel
theorem dX12_dayCost_106 : decode cX12_dayCost 106 = .ok (.iload 7, 2) := by decide +kernel
theorem dX12_dayCost_108 : decode cX12_dayCost 108 = .ok (.iaload, 1) := by decide +kernel
theorem dX12_dayCost_109 : decode cX12_dayCost 109 = .ok (.aload_n 0, 1) := by decide +kernel
theorem dX12_dayCost_110 : decode cX12_dayCost 110 = .ok (.getfield 16, 3) := by decide +kernel
theorem dX12_dayCost_113 : decode cX12_dayCost 113 = .ok (.iload_n 1, 1) := by decide +kernel
theorem dX12_dayCost_114 : decode cX12_dayCost 114 = .ok (.iaload, 1) := by decide +kernel
theorem dX12_dayCost_115 : decode cX12_dayCost 115 = .ok (.if_icmp .le 13, 3) := by decide +kernel
theorem dX12_dayCost_118 : decode cX12_dayCost 118 = .ok (.aload_n 0, 1) := by decide +kernel
theorem dX12_dayCost_119 : decode cX12_dayCost 119 = .ok (.getfield 145, 3) := by decide +kernel
theorem dX12_dayCost_122 : decode cX12_dayCost 122 = .ok (.iload 7, 2) := by decide +kernel
theorem dX12_dayCost_124 : decode cX12_dayCost 124 = .ok (.iaload, 1) := by decide +kernel
theorem dX12_dayCost_125 : decode cX12_dayCost 125 = .ok (.goto 9, 3) := by decide +kernel
theorem dX12_dayCost_128 : decode cX12_dayCost 128 = .ok (.aload_n 0, 1) := by decide +kernel
theorem dX12_dayCost_129 : decode cX12_dayCost 129 = .ok (.getfield 16, 3) := by decide +kernel
theorem dX12_dayCost_132 : decode cX12_dayCost 132 = .ok (.iload_n 1, 1) := by decide +kernel
theorem dX12_dayCost_133 : decode cX12_dayCost 133 = .ok (.iaload, 1) := by decide +kernel
theorem dX12_dayCost_134 : decode cX12_dayCost 134 = .ok (.istore 8, 2) := by decide +kernel
theorem dX12_dayCost_136 : decode cX12_dayCost 136 = .ok (.iload 7, 2) := by decide +kernel
theorem dX12_dayCost_138 : decode cX12_dayCost 138 = .ok (.iload_n 2, 1) := by decide +kernel
theorem dX12_dayCost_139 : decode cX12_dayCost 139 = .ok (.if_icmp .eq 32, 3) := by decide +kernel
theorem dX12_dayCost_142 : decode cX12_dayCost 142 = .ok (.aload_n 0, 1) := by decide +kernel
theorem dX12_dayCost_143 : decode cX12_dayCost 143 = .ok (.getfield 145, 3) := by decide +kernel
theorem dX12_dayCost_146 : decode cX12_dayCost 146 = .ok (.iload_n 2, 1) := by decide +kernel
theorem dX12_dayCost_147 : decode cX12_dayCost 147 = .ok (.iaload, 1) := by decide +kernel
theorem dX12_dayCost_148 : decode cX12_dayCost 148 = .ok (.iload 8, 2) := by decide +kernel
theorem dX12_dayCost_150 : decode cX12_dayCost 150 = .ok (.if_icmp .le 21, 3) := by decide +kernel
theorem dX12_dayCost_153 : decode cX12_dayCost 153 = .ok (.lload 5, 2) := by decide +kernel
theorem dX12_dayCost_155 : decode cX12_dayCost 155 = .ok (.aload_n 0, 1) := by decide +kernel
theorem dX12_dayCost_156 : decode cX12_dayCost 156 = .ok (.getfield 145, 3) := by decide +kernel
theorem dX12_dayCost_159 : decode cX12_dayCost 159 = .ok (.iload_n 2, 1) := by decide +kernel
theorem dX12_dayCost_160 : decode cX12_dayCost 160 = .ok (.iaload, 1) := by decide +kernel
theorem dX12_dayCost_161 : decode cX12_dayCost 161 = .ok (.iload 8, 2) := by decide +kernel
theorem dX12_dayCost_163 : decode cX12_dayCost 163 = .ok (.isub, 1) := by decide +kernel
theorem dX12_dayCost_164 : decode cX12_dayCost 164 = .ok (.i2l, 1) := by decide +kernel
theorem dX12_dayCost_165 : decode cX12_dayCost 165 = .ok (.iload_n 3, 1) := by decide +kernel
theorem dX12_dayCost_166 : decode cX12_dayCost 166 = .ok (.i2l, 1) := by decide +kernel
theorem dX12_dayCost_167 : decode cX12_dayCost 167 = .ok (.lmul, 1) := by decide +kernel
theorem dX12_dayCost_168 : decode cX12_dayCost 168 = .ok (.ladd, 1) := by decide +kernel
theorem dX12_dayCost_169 : decode cX12_dayCost 169 = .ok (.lstore 5, 2) := by decide +kernel
theorem dX12_dayCost_171 : decode cX12_dayCost 171 = .ok (.iinc 7 1, 3) := by decide +kernel
theorem dX12_dayCost_174 : decode cX12_dayCost 174 = .ok (.goto (-81), 3) := by decide +kernel
theorem dX12_dayCost_177 : decode cX12_dayCost 177 = .ok (.lload 5, 2) := by decide +kernel
theorem dX12_dayCost_179 : decode cX12_dayCost 179 = .ok (.lreturn, 1) := by decide +kernel
theorem dX12_allWith_0 : decode cX12_allWith 0 = .ok (.iconst 1, 1) := by decide +kernel
theorem dX12_allWith_1 : decode cX12_allWith 1 = .ok (.istore 5, 2) := by decide +kernel
theorem dX12_allWith_3 : decode cX12_allWith 3 = .ok (.iconst 0, 1) := by decide +kernel
theorem dX12_allWith_4 : decode cX12_allWith 4 = .ok (.istore 6, 2) := by decide +kernel
theorem dX12_allWith_6 : decode cX12_allWith 6 = .ok (.iload 6, 2) := by decide +kernel
theorem dX12_allWith_8 : decode cX12_allWith 8 = .ok (.aload_n 0, 1) := by decide +kernel
theorem dX12_allWith_9 : decode cX12_allWith 9 = .ok (.getfield 439, 3) := by decide +kernel
theorem dX12_allWith_12 : decode cX12_allWith 12 = .ok (.if_icmp .ge 25, 3) := by decide +kernel
theorem dX12_allWith_15 : decode cX12_allWith 15 = .ok (.iload 5, 2) := by decide +kernel
theorem dX12_allWith_17 : decode cX12_allWith 17 = .ok (.aload_n 0, 1) := by decide +kernel
theorem dX12_allWith_18 : decode cX12_allWith 18 = .ok (.aload_n 0, 1) := by decide +kernel
theorem dX12_allWith_19 : decode cX12_allWith 19 = .ok (.getfield 136, 3) := by decide +kernel
theorem dX12_allWith_22 : decode cX12_allWith 22 = .ok (.iload 6, 2) := by decide +kernel
theorem dX12_allWith_24 : decode cX12_allWith 24 = .ok (.iaload, 1) := by decide +kernel
theorem dX12_allWith_25 : decode cX12_allWith 25 = .ok (.invokevirtual 386, 3) := by decide +kernel
theorem dX12_allWith_28 : decode cX12_allWith 28 = .ok (.imul, 1) := by decide +kernel
theorem dX12_allWith_29 : decode cX12_allWith 29 = .ok (.istore 5, 2) := by decide +kernel
theorem dX12_allWith_31 : decode cX12_allWith 31 = .ok (.iinc 6 1, 3) := by decide +kernel
theorem dX12_allWith_34 : decode cX12_allWith 34 = .ok (.goto (-28), 3) := by decide +kernel
theorem dX12_allWith_37 : decode cX12_allWith 37 = .ok (.lconst 0, 1) := by decide +kernel
theorem dX12_allWith_38 : decode cX12_allWith 38 = .ok (.lstore 6, 2) := by decide +kernel
theorem dX12_allWith_40 : decode cX12_allWith 40 = .ok (.iconst 0, 1) := by decide +kernel
theorem dX12_allWith_41 : decode cX12_allWith 41 = .ok (.istore 8, 2) := by decide +kernel
theorem dX12_allWith_43 : decode cX12_allWith 43 = .ok (.iload 8, 2) := by decide +kernel
theorem dX12_allWith_45 : decode cX12_allWith 45 = .ok (.iload 5, 2) := by decide +kernel
theorem dX12_allWith_47 : decode cX12_allWith 47 = .ok (.if_icmp .ge 143, 3) := by decide +kernel
theorem dX12_allWith_50 : decode cX12_allWith 50 = .ok (.iload 8, 2) := by decide +kernel
theorem dX12_allWith_52 : decode cX12_allWith 52 = .ok (.istore 9, 2) := by decide +kernel
theorem dX12_allWith_54 : decode cX12_allWith 54 = .ok (.aload_n 0, 1) := by decide +kernel
theorem dX12_allWith_55 : decode cX12_allWith 55 = .ok (.iload 4, 2) := by decide +kernel
theorem dX12_allWith_57 : decode cX12_allWith 57 = .ok (.invokevirtual 396, 3) := by decide +kernel
theorem dX12_allWith_60 : decode cX12_allWith 60 = .ok (.i2l, 1) := by decide +kernel
theorem dX12_allWith_61 : decode cX12_allWith 61 = .ok (.lstore 10, 2) := by decide +kernel
theorem dX12_allWith_63 : decode cX12_allWith 63 = .ok (.iconst 0, 1) := by decide +kernel
theorem dX12_allWith_64 : decode cX12_allWith 64 = .ok (.istore 12, 2) := by decide +kernel
theorem dX12_allWith_66 : decode cX12_allWith 66 = .ok (.iload 12, 2) := by decide +kernel
theorem dX12_allWith_68 : decode cX12_allWith 68 = .ok (.aload_n 0, 1) := by decide +kernel
theorem dX12_allWith_69 : decode cX12_allWith 69 = .ok (.getfield 439, 3) := by decide +kernel
theorem dX12_allWith_72 : decode cX12_allWith 72 = .ok (.if_icmp .ge 97, 3) := by decide +kernel
theorem dX12_allWith_75 : decode cX12_allWith 75 = .ok (.iload 9, 2) := by decide +kernel
theorem dX12_allWith_77 : decode cX12_allWith 77 = .ok (.aload_n 0, 1) := by decide +kernel
theorem dX12_allWith_78 : decode cX12_allWith 78 = .ok (.aload_n 0, 1) := by decide +kernel
theorem dX12_allWith_79 : decode cX12_allWith 79 = .ok (.getfield 136, 3) := by decide +kernel
theorem dX12_allWith_82 : decode cX12_allWith 82 = .ok (.iload 12, 2) := by decide +kernel
theorem dX12_allWith_84 : decode cX12_allWith 84 = .ok (.iaload, 1) := by decide +kernel
theorem dX12_allWith_85 : decode cX12_allWith 85 = .ok (.invokevirtual 386, 3) := by decide +kernel
theorem dX12_allWith_88 : decode cX12_allWith 88 = .ok (.irem, 1) := by decide +kernel
theorem dX12_allWith_89 : decode cX12_allWith 89 = .ok (.istore 13, 2) := by decide +kernel
theorem dX12_allWith_91 : decode cX12_allWith 91 = .ok (.iload 9, 2) := by decide +kernel
theorem dX12_allWith_93 : decode cX12_allWith 93 = .ok (.aload_n 0, 1) := by decide +kernel
theorem dX12_allWith_94 : decode cX12_allWith 94 = .ok (.aload_n 0, 1) := by decide +kernel
theorem dX12_allWith_95 : decode cX12_allWith 95 = .ok (.getfield 136, 3) := by decide +kernel
theorem dX12_allWith_98 : decode cX12_allWith 98 = .ok (.iload 12, 2) := by decide +kernel
theorem dX12_allWith_100 : decode cX12_allWith 100 = .ok (.iaload, 1) := by decide +kernel
theorem dX12_allWith_101 : decode cX12_allWith 101 = .ok (.invokevirtual 386, 3) := by decide +kernel
theorem dX12_allWith_104 : decode cX12_allWith 104 = .ok (.idiv, 1) := by decide +kernel
theorem dX12_allWith_105 : decode cX12_allWith 105 = .ok (.istore 9, 2) := by decide +kernel
theorem dX12_allWith_107 : decode cX12_allWith 107 = .ok (.lload 10, 2) := by decide +kernel
theorem dX12_allWith_109 : decode cX12_allWith 109 = .ok (.aload_n 0, 1) := by decide +kernel
theorem dX12_allWith_110 : decode cX12_allWith 110 = .ok (.aload_n 0, 1) := by decide +kernel
theorem dX12_allWith_111 : decode cX12_allWith 111 = .ok (.getfield 136, 3) := by decide +kernel
theorem dX12_allWith_114 : decode cX12_allWith 114 = .ok (.iload 12, 2) := by decide +kernel
theorem dX12_allWith_116 : decode cX12_allWith 116 = .ok (.iaload, 1) := by decide +kernel
theorem dX12_allWith_117 : decode cX12_allWith 117 = .ok (.iload 13, 2) := by decide +kernel
theorem dX12_allWith_119 : decode cX12_allWith 119 = .ok (.invokevirtual 389, 3) := by decide +kernel
theorem dX12_allWith_122 : decode cX12_allWith 122 = .ok (.i2l, 1) := by decide +kernel
theorem dX12_allWith_123 : decode cX12_allWith 123 = .ok (.lmul, 1) := by decide +kernel
theorem dX12_allWith_124 : decode cX12_allWith 124 = .ok (.lstore 10, 2) := by decide +kernel
theorem dX12_allWith_126 : decode cX12_allWith 126 = .ok (.aload_n 0, 1) := by decide +kernel
theorem dX12_allWith_127 : decode cX12_allWith 127 = .ok (.getfield 145, 3) := by decide +kernel
theorem dX12_allWith_130 : decode cX12_allWith 130 = .ok (.iload 12, 2) := by decide +kernel
theorem dX12_allWith_132 : decode cX12_allWith 132 = .ok (.aload_n 0, 1) := by decide +kernel
theorem dX12_allWith_133 : decode cX12_allWith 133 = .ok (.getfield 16, 3) := by decide +kernel
theorem dX12_allWith_136 : decode cX12_allWith 136 = .ok (.iload_n 1, 1) := by decide +kernel
theorem dX12_allWith_137 : decode cX12_allWith 137 = .ok (.iaload, 1) := by decide +kernel
theorem dX12_allWith_138 : decode cX12_allWith 138 = .ok (.aload_n 0, 1) := by decide +kernel
theorem dX12_allWith_139 : decode cX12_allWith 139 = .ok (.getfield 139, 3) := by decide +kernel
theorem dX12_allWith_142 : decode cX12_allWith 142 = .ok (.iload 12, 2) := by decide +kernel
theorem dX12_allWith_144 : decode cX12_allWith 144 = .ok (.iaload, 1) := by decide +kernel
theorem dX12_allWith_145 : decode cX12_allWith 145 = .ok (.isub, 1) := by decide +kernel
theorem dX12_allWith_146 : decode cX12_allWith 146 = .ok (.aload_n 0, 1) := by decide +kernel
theorem dX12_allWith_147 : decode cX12_allWith 147 = .ok (.aload_n 0, 1) := by decide +kernel
theorem dX12_allWith_148 : decode cX12_allWith 148 = .ok (.getfield 136, 3) := by decide +kernel
theorem dX12_allWith_151 : decode cX12_allWith 151 = .ok (.iload 12, 2) := by decide +kernel
theorem dX12_allWith_153 : decode cX12_allWith 153 = .ok (.iaload, 1) := by decide +kernel
theorem dX12_allWith_154 : decode cX12_allWith 154 = .ok (.iload 13, 2) := by decide +kernel
theorem dX12_allWith_156 : decode cX12_allWith 156 = .ok (.iload 4, 2) := by decide +kernel
theorem dX12_allWith_158 : decode cX12_allWith 158 = .ok (.invokevirtual 392, 3) := by decide +kernel
theorem dX12_allWith_161 : decode cX12_allWith 161 = .ok (.iadd, 1) := by decide +kernel
theorem dX12_allWith_162 : decode cX12_allWith 162 = .ok (.iastore, 1) := by decide +kernel
theorem dX12_allWith_163 : decode cX12_allWith 163 = .ok (.iinc 12 1, 3) := by decide +kernel
theorem dX12_allWith_166 : decode cX12_allWith 166 = .ok (.goto (-100), 3) := by decide +kernel
theorem dX12_allWith_169 : decode cX12_allWith 169 = .ok (.lload 6, 2) := by decide +kernel
theorem dX12_allWith_171 : decode cX12_allWith 171 = .ok (.lload 10, 2) := by decide +kernel
theorem dX12_allWith_173 : decode cX12_allWith 173 = .ok (.aload_n 0, 1) := by decide +kernel
theorem dX12_allWith_174 : decode cX12_allWith 174 = .ok (.iload_n 1, 1) := by decide +kernel
theorem dX12_allWith_175 : decode cX12_allWith 175 = .ok (.iload_n 2, 1) := by decide +kernel
theorem dX12_allWith_176 : decode cX12_allWith 176 = .ok (.iload_n 3, 1) := by decide +kernel
theorem dX12_allWith_177 : decode cX12_allWith 177 = .ok (.invokevirtual 442, 3) := by decide +kernel
theorem dX12_allWith_180 : decode cX12_allWith 180 = .ok (.lmul, 1) := by decide +kernel
theorem dX12_allWith_181 : decode cX12_allWith 181 = .ok (.ladd, 1) := by decide +kernel
theorem dX12_allWith_182 : decode cX12_allWith 182 = .ok (.lstore 6, 2) := by decide +kernel
theorem dX12_allWith_184 : decode cX12_allWith 184 = .ok (.iinc 8 1, 3) := by decide +kernel
theorem dX12_allWith_187 : decode cX12_allWith 187 = .ok (.goto (-144), 3) := by decide +kernel
theorem dX12_allWith_190 : decode cX12_allWith 190 = .ok (.lload 6, 2) := by decide +kernel
theorem dX12_allWith_192 : decode cX12_allWith 192 = .ok (.lreturn, 1) := by decide +kernel
theorem dX12_changes_0 : decode cX12_changes 0 = .ok (.aload_n 0, 1) := by decide +kernel
theorem dX12_changes_1 : decode cX12_changes 1 = .ok (.getfield 139, 3) := by decide +kernel
theorem dX12_changes_4 : decode cX12_changes 4 = .ok (.iload_n 2, 1) := by decide +kernel
theorem dX12_changes_5 : decode cX12_changes 5 = .ok (.iaload, 1) := by decide +kernel
theorem dX12_changes_6 : decode cX12_changes 6 = .ok (.istore 4, 2) := by decide +kernel
theorem dX12_changes_8 : decode cX12_changes 8 = .ok (.iconst 0, 1) := by decide +kernel
theorem dX12_changes_9 : decode cX12_changes 9 = .ok (.istore 5, 2) := by decide +kernel
theorem dX12_changes_11 : decode cX12_changes 11 = .ok (.lconst 0, 1) := by decide +kernel
theorem dX12_changes_12 : decode cX12_changes 12 = .ok (.lstore 6, 2) := by decide +kernel
theorem dX12_changes_14 : decode cX12_changes 14 = .ok (.iconst 0, 1) := by decide +kernel
theorem dX12_changes_15 : decode cX12_changes 15 = .ok (.istore 8, 2) := by decide +kernel
theorem dX12_changes_17 : decode cX12_changes 17 = .ok (.iload 8, 2) := by decide +kernel
theorem dX12_changes_19 : decode cX12_changes 19 = .ok (.bipush 120, 2) := by decide +kernel
theorem dX12_changes_21 : decode cX12_changes 21 = .ok (.if_icmp .gt 63, 3) := by decide +kernel
theorem dX12_changes_24 : decode cX12_changes 24 = .ok (.aload_n 0, 1) := by decide +kernel
theorem dX12_changes_25 : decode cX12_changes 25 = .ok (.getfield 139, 3) := by decide +kernel
theorem dX12_changes_28 : decode cX12_changes 28 = .ok (.iload_n 2, 1) := by decide +kernel
theorem dX12_changes_29 : decode cX12_changes 29 = .ok (.iload 8, 2) := by decide +kernel
theorem dX12_changes_31 : decode cX12_changes 31 = .ok (.iastore, 1) := by decide +kernel
theorem dX12_changes_32 : decode cX12_changes 32 = .ok (.aload_n 0, 1) := by decide +kernel
theorem dX12_changes_33 : decode cX12_changes 33 = .ok (.iload_n 1, 1) := by decide +kernel
theorem dX12_changes_34 : decode cX12_changes 34 = .ok (.iload_n 2, 1) := by decide +kernel
theorem dX12_changes_35 : decode cX12_changes 35 = .ok (.iload_n 3, 1) := by decide +kernel
theorem dX12_changes_36 : decode cX12_changes 36 = .ok (.iconst 0, 1) := by decide +kernel
theorem dX12_changes_37 : decode cX12_changes 37 = .ok (.invokevirtual 446, 3) := by decide +kernel
theorem dX12_changes_40 : decode cX12_changes 40 = .ok (.aload_n 0, 1) := by decide +kernel
theorem dX12_changes_41 : decode cX12_changes 41 = .ok (.iload_n 1, 1) := by decide +kernel
theorem dX12_changes_42 : decode cX12_changes 42 = .ok (.iload_n 2, 1) := by decide +kernel
theorem dX12_changes_43 : decode cX12_changes 43 = .ok (.iload_n 3, 1) := by decide +kernel
theorem dX12_changes_44 : decode cX12_changes 44 = .ok (.iconst 1, 1) := by decide +kernel
theorem dX12_changes_45 : decode cX12_changes 45 = .ok (.invokevirtual 446, 3) := by decide +kernel
theorem dX12_changes_48 : decode cX12_changes 48 = .ok (.ladd, 1) := by decide +kernel
theorem dX12_changes_49 : decode cX12_changes 49 = .ok (.lstore 9, 2) := by decide +kernel
theorem dX12_changes_51 : decode cX12_changes 51 = .ok (.iload 8, 2) := by decide +kernel
theorem dX12_changes_53 : decode cX12_changes 53 = .ok (.ifCond .le 14, 3) := by decide +kernel
theorem dX12_changes_56 : decode cX12_changes 56 = .ok (.lload 9, 2) := by decide +kernel
theorem dX12_changes_58 : decode cX12_changes 58 = .ok (.lload 6, 2) := by decide +kernel
theorem dX12_changes_60 : decode cX12_changes 60 = .ok (.lcmp, 1) := by decide +kernel
theorem dX12_changes_61 : decode cX12_changes 61 = .ok (.ifCond .lt 6, 3) := by decide +kernel
theorem dX12_changes_64 : decode cX12_changes 64 = .ok (.goto 11, 3) := by decide +kernel
theorem dX12_changes_67 : decode cX12_changes 67 = .ok (.lload 9, 2) := by decide +kernel
theorem dX12_changes_69 : decode cX12_changes 69 = .ok (.lstore 6, 2) := by decide +kernel
theorem dX12_changes_71 : decode cX12_changes 71 = .ok (.iload 8, 2) := by decide +kernel
theorem dX12_changes_73 : decode cX12_changes 73 = .ok (.istore 5, 2) := by decide +kernel
theorem dX12_changes_75 : decode cX12_changes 75 = .ok (.iload 8, 2) := by decide +kernel
theorem dX12_changes_77 : decode cX12_changes 77 = .ok (.iconst 5, 1) := by decide +kernel
theorem dX12_changes_78 : decode cX12_changes 78 = .ok (.iadd, 1) := by decide +kernel
theorem dX12_changes_79 : decode cX12_changes 79 = .ok (.istore 8, 2) := by decide +kernel
theorem dX12_changes_81 : decode cX12_changes 81 = .ok (.goto (-64), 3) := by decide +kernel
theorem dX12_changes_84 : decode cX12_changes 84 = .ok (.aload_n 0, 1) := by decide +kernel
theorem dX12_changes_85 : decode cX12_changes 85 = .ok (.getfield 139, 3) := by decide +kernel
theorem dX12_changes_88 : decode cX12_changes 88 = .ok (.iload_n 2, 1) := by decide +kernel
theorem dX12_changes_89 : decode cX12_changes 89 = .ok (.iload 5, 2) := by decide +kernel
theorem dX12_changes_91 : decode cX12_changes 91 = .ok (.iastore, 1) := by decide +kernel
theorem dX12_changes_92 : decode cX12_changes 92 = .ok (.iload 5, 2) := by decide +kernel
theorem dX12_changes_94 : decode cX12_changes 94 = .ok (.iload 4, 2) := by decide +kernel
theorem dX12_changes_96 : decode cX12_changes 96 = .ok (.if_icmp .eq 7, 3) := by decide +kernel
theorem dX12_changes_99 : decode cX12_changes 99 = .ok (.iconst 1, 1) := by decide +kernel
theorem dX12_changes_100 : decode cX12_changes 100 = .ok (.goto 4, 3) := by decide +kernel
theorem dX12_changes_103 : decode cX12_changes 103 = .ok (.iconst 0, 1) := by decide +kernel
theorem dX12_changes_104 : decode cX12_changes 104 = .ok (.ireturn, 1) := by decide +kernel
theorem dX12_rest_0 : decode cX12_rest 0 = .ok (.aload_n 0, 1) := by decide +kernel
theorem dX12_rest_1 : decode cX12_rest 1 = .ok (.iload_n 1, 1) := by decide +kernel
theorem dX12_rest_2 : decode cX12_rest 2 = .ok (.invokevirtual 158, 3) := by decide +kernel
theorem dX12_rest_5 : decode cX12_rest 5 = .ok (.ifCond .eq 40, 3) := by decide +kernel
theorem dX12_rest_8 : decode cX12_rest 8 = .ok (.aload_n 0, 1) := by decide +kernel
theorem dX12_rest_9 : decode cX12_rest 9 = .ok (.getfield 19, 3) := by decide +kernel
theorem dX12_rest_12 : decode cX12_rest 12 = .ok (.iload_n 1, 1) := by decide +kernel
theorem dX12_rest_13 : decode cX12_rest 13 = .ok (.iaload, 1) := by decide +kernel
theorem dX12_rest_14 : decode cX12_rest 14 = .ok (.invokestatic 172, 3) := by decide +kernel
theorem dX12_rest_17 : decode cX12_rest 17 = .ok (.iconst 4, 1) := by decide +kernel
theorem dX12_rest_18 : decode cX12_rest 18 = .ok (.if_icmp .gt 27, 3) := by decide +kernel
theorem dX12_rest_21 : decode cX12_rest 21 = .ok (.iload_n 2, 1) := by decide +kernel
theorem dX12_rest_22 : decode cX12_rest 22 = .ok (.iconst 0, 1) := by decide +kernel
theorem dX12_rest_23 : decode cX12_rest 23 = .ok (.bipush 99, 2) := by decide +kernel
theorem dX12_rest_25 : decode cX12_rest 25 = .ok (.invokestatic 168, 3) := by decide +kernel
theorem dX12_rest_28 : decode cX12_rest 28 = .ok (.ifCond .eq 17, 3) := by decide +kernel
theorem dX12_rest_31 : decode cX12_rest 31 = .ok (.iload_n 3, 1) := by decide +kernel
theorem dX12_rest_32 : decode cX12_rest 32 = .ok (.iconst (-1), 1) := by decide +kernel
theorem dX12_rest_33 : decode cX12_rest 33 = .ok (.if_icmp .eq 15, 3) := by decide +kernel
theorem dX12_rest_36 : decode cX12_rest 36 = .ok (.aload_n 0, 1) := by decide +kernel
theorem dX12_rest_37 : decode cX12_rest 37 = .ok (.iload_n 1, 1) := by decide +kernel
theorem dX12_rest_38 : decode cX12_rest 38 = .ok (.iload_n 3, 1) := by decide +kernel
theorem dX12_rest_39 : decode cX12_rest 39 = .ok (.invokevirtual 176, 3) := by decide +kernel
theorem dX12_rest_42 : decode cX12_rest 42 = .ok (.ifCond .ne 6, 3) := by decide +kernel
theorem dX12_rest_45 : decode cX12_rest 45 = .ok (.bipush (-3), 2) := by decide +kernel
theorem dX12_rest_47 : decode cX12_rest 47 = .ok (.ireturn, 1) := by decide +kernel
theorem dX12_rest_48 : decode cX12_rest 48 = .ok (.aload_n 0, 1) := by decide +kernel
theorem dX12_rest_49 : decode cX12_rest 49 = .ok (.iload_n 1, 1) := by decide +kernel
theorem dX12_rest_50 : decode cX12_rest 50 = .ok (.invokevirtual 449, 3) := by decide +kernel
theorem dX12_rest_53 : decode cX12_rest 53 = .ok (.iconst 1, 1) := by decide +kernel
theorem dX12_rest_54 : decode cX12_rest 54 = .ok (.istore 4, 2) := by decide +kernel
theorem dX12_rest_56 : decode cX12_rest 56 = .ok (.iload 4, 2) := by decide +kernel
theorem dX12_rest_58 : decode cX12_rest 58 = .ok (.bipush 30, 2) := by decide +kernel
theorem dX12_rest_60 : decode cX12_rest 60 = .ok (.if_icmp .gt 106, 3) := by decide +kernel
theorem dX12_rest_63 : decode cX12_rest 63 = .ok (.iconst 0, 1) := by decide +kernel
theorem dX12_rest_64 : decode cX12_rest 64 = .ok (.istore 5, 2) := by decide +kernel
theorem dX12_rest_66 : decode cX12_rest 66 = .ok (.iconst 0, 1) := by decide +kernel
theorem dX12_rest_67 : decode cX12_rest 67 = .ok (.istore 6, 2) := by decide +kernel
theorem dX12_rest_69 : decode cX12_rest 69 = .ok (.iload 6, 2) := by decide +kernel
theorem dX12_rest_71 : decode cX12_rest 71 = .ok (.aload_n 0, 1) := by decide +kernel
theorem dX12_rest_72 : decode cX12_rest 72 = .ok (.getfield 439, 3) := by decide +kernel
theorem dX12_rest_75 : decode cX12_rest 75 = .ok (.if_icmp .ge 32, 3) := by decide +kernel
theorem dX12_rest_78 : decode cX12_rest 78 = .ok (.aload_n 0, 1) := by decide +kernel
theorem dX12_rest_79 : decode cX12_rest 79 = .ok (.iload_n 1, 1) := by decide +kernel
theorem dX12_rest_80 : decode cX12_rest 80 = .ok (.iload 6, 2) := by decide +kernel
theorem dX12_rest_82 : decode cX12_rest 82 = .ok (.iload_n 2, 1) := by decide +kernel
theorem dX12_rest_83 : decode cX12_rest 83 = .ok (.invokevirtual 452, 3) := by decide +kernel
theorem dX12_rest_86 : decode cX12_rest 86 = .ok (.ifCond .ne 8, 3) := by decide +kernel
theorem dX12_rest_89 : decode cX12_rest 89 = .ok (.iload 5, 2) := by decide +kernel
theorem dX12_rest_91 : decode cX12_rest 91 = .ok (.ifCond .eq 7, 3) := by decide +kernel
theorem dX12_rest_94 : decode cX12_rest 94 = .ok (.iconst 1, 1) := by decide +kernel
theorem dX12_rest_95 : decode cX12_rest 95 = .ok (.goto 4, 3) := by decide +kernel
theorem dX12_rest_98 : decode cX12_rest 98 = .ok (.iconst 0, 1) := by decide +kernel
theorem dX12_rest_99 : decode cX12_rest 99 = .ok (.istore 5, 2) := by decide +kernel
theorem dX12_rest_101 : decode cX12_rest 101 = .ok (.iinc 6 1, 3) := by decide +kernel
theorem dX12_rest_104 : decode cX12_rest 104 = .ok (.goto (-35), 3) := by decide +kernel
theorem dX12_rest_107 : decode cX12_rest 107 = .ok (.iload 5, 2) := by decide +kernel
theorem dX12_rest_109 : decode cX12_rest 109 = .ok (.ifCond .eq 6, 3) := by decide +kernel
theorem dX12_rest_112 : decode cX12_rest 112 = .ok (.goto 48, 3) := by decide +kernel
theorem dX12_rest_115 : decode cX12_rest 115 = .ok (.iload_n 3, 1) := by decide +kernel
theorem dX12_rest_116 : decode cX12_rest 116 = .ok (.iconst (-1), 1) := by decide +kernel
theorem dX12_rest_117 : decode cX12_rest 117 = .ok (.if_icmp .ne 6, 3) := by decide +kernel
theorem dX12_rest_120 : decode cX12_rest 120 = .ok (.iload 4, 2) := by decide +kernel
theorem dX12_rest_122 : decode cX12_rest 122 = .ok (.ireturn, 1) := by decide +kernel
theorem dX12_rest_123 : decode cX12_rest 123 = .ok (.iconst 0, 1) := by decide +kernel
theorem dX12_rest_124 : decode cX12_rest 124 = .ok (.istore 6, 2) := by decide +kernel
theorem dX12_rest_126 : decode cX12_rest 126 = .ok (.iload 6, 2) := by decide +kernel
theorem dX12_rest_128 : decode cX12_rest 128 = .ok (.aload_n 0, 1) := by decide +kernel
theorem dX12_rest_129 : decode cX12_rest 129 = .ok (.getfield 439, 3) := by decide +kernel
theorem dX12_rest_132 : decode cX12_rest 132 = .ok (.if_icmp .ge 28, 3) := by decide +kernel
theorem dX12_rest_135 : decode cX12_rest 135 = .ok (.aload_n 0, 1) := by decide +kernel
theorem dX12_rest_136 : decode cX12_rest 136 = .ok (.getfield 136, 3) := by decide +kernel
theorem dX12_rest_139 : decode cX12_rest 139 = .ok (.iload 6, 2) := by decide +kernel
theorem dX12_rest_141 : decode cX12_rest 141 = .ok (.iaload, 1) := by decide +kernel
theorem dX12_rest_142 : decode cX12_rest 142 = .ok (.iload_n 3, 1) := by decide +kernel
theorem dX12_rest_143 : decode cX12_rest 143 = .ok (.if_icmp .ne 11, 3) := by decide +kernel
theorem dX12_rest_146 : decode cX12_rest 146 = .ok (.aload_n 0, 1) := by decide +kernel
theorem dX12_rest_147 : decode cX12_rest 147 = .ok (.getfield 139, 3) := by decide +kernel
theorem dX12_rest_150 : decode cX12_rest 150 = .ok (.iload 6, 2) := by decide +kernel
theorem dX12_rest_152 : decode cX12_rest 152 = .ok (.iaload, 1) := by decide +kernel
theorem dX12_rest_153 : decode cX12_rest 153 = .ok (.ireturn, 1) := by decide +kernel
theorem dX12_rest_154 : decode cX12_rest 154 = .ok (.iinc 6 1, 3) := by decide +kernel
theorem dX12_rest_157 : decode cX12_rest 157 = .ok (.goto (-31), 3) := by decide +kernel
theorem dX12_rest_160 : decode cX12_rest 160 = .ok (.iinc 4 1, 3) := by decide +kernel
theorem dX12_rest_163 : decode cX12_rest 163 = .ok (.goto (-107), 3) := by decide +kernel
theorem dX12_rest_166 : decode cX12_rest 166 = .ok (.bipush (-2), 2) := by decide +kernel
theorem dX12_rest_168 : decode cX12_rest 168 = .ok (.ireturn, 1) := by decide +kernel
theorem dX12_lost_0 : decode cX12_lost 0 = .ok (.iconst 0, 1) := by decide +kernel
theorem dX12_lost_1 : decode cX12_lost 1 = .ok (.istore_n 1, 1) := by decide +kernel
theorem dX12_lost_2 : decode cX12_lost 2 = .ok (.iconst 0, 1) := by decide +kernel
theorem dX12_lost_3 : decode cX12_lost 3 = .ok (.istore_n 2, 1) := by decide +kernel
theorem dX12_lost_4 : decode cX12_lost 4 = .ok (.iload_n 2, 1) := by decide +kernel
theorem dX12_lost_5 : decode cX12_lost 5 = .ok (.aload_n 0, 1) := by decide +kernel
theorem dX12_lost_6 : decode cX12_lost 6 = .ok (.getfield 155, 3) := by decide +kernel
theorem dX12_lost_9 : decode cX12_lost 9 = .ok (.if_icmp .ge 97, 3) := by decide +kernel
theorem dX12_lost_12 : decode cX12_lost 12 = .ok (.iconst 0, 1) := by decide +kernel
theorem dX12_lost_13 : decode cX12_lost 13 = .ok (.istore_n 3, 1) := by decide +kernel
theorem dX12_lost_14 : decode cX12_lost 14 = .ok (.iload_n 3, 1) := by decide +kernel
theorem dX12_lost_15 : decode cX12_lost 15 = .ok (.bipush 8, 2) := by decide +kernel
theorem dX12_lost_17 : decode cX12_lost 17 = .ok (.if_icmp .ge 83, 3) := by decide +kernel
theorem dX12_lost_20 : decode cX12_lost 20 = .ok (.aload_n 0, 1) := by decide +kernel
theorem dX12_lost_21 : decode cX12_lost 21 = .ok (.getfield 25, 3) := by decide +kernel
theorem dX12_lost_24 : decode cX12_lost 24 = .ok (.iload_n 2, 1) := by decide +kernel
theorem dX12_lost_25 : decode cX12_lost 25 = .ok (.baload, 1) := by decide +kernel
theorem dX12_lost_26 : decode cX12_lost 26 = .ok (.ifCond .eq 68, 3) := by decide +kernel
theorem dX12_lost_29 : decode cX12_lost 29 = .ok (.aload_n 0, 1) := by decide +kernel
theorem dX12_lost_30 : decode cX12_lost 30 = .ok (.iload_n 2, 1) := by decide +kernel
theorem dX12_lost_31 : decode cX12_lost 31 = .ok (.iload_n 3, 1) := by decide +kernel
theorem dX12_lost_32 : decode cX12_lost 32 = .ok (.invokevirtual 176, 3) := by decide +kernel
theorem dX12_lost_35 : decode cX12_lost 35 = .ok (.ifCond .ne 6, 3) := by decide +kernel
theorem dX12_lost_38 : decode cX12_lost 38 = .ok (.goto 56, 3) := by decide +kernel
theorem dX12_lost_41 : decode cX12_lost 41 = .ok (.aload_n 0, 1) := by decide +kernel
theorem dX12_lost_42 : decode cX12_lost 42 = .ok (.getfield 22, 3) := by decide +kernel
theorem dX12_lost_45 : decode cX12_lost 45 = .ok (.bipush 8, 2) := by decide +kernel
theorem dX12_lost_47 : decode cX12_lost 47 = .ok (.iload_n 2, 1) := by decide +kernel
theorem dX12_lost_48 : decode cX12_lost 48 = .ok (.imul, 1) := by decide +kernel
theorem dX12_lost_49 : decode cX12_lost 49 = .ok (.iload_n 3, 1) := by decide +kernel
theorem dX12_lost_50 : decode cX12_lost 50 = .ok (.iadd, 1) := by decide +kernel
theorem dX12_lost_51 : decode cX12_lost 51 = .ok (.iaload, 1) := by decide +kernel
theorem dX12_lost_52 : decode cX12_lost 52 = .ok (.aload_n 0, 1) := by decide +kernel
theorem dX12_lost_53 : decode cX12_lost 53 = .ok (.getfield 16, 3) := by decide +kernel
theorem dX12_lost_56 : decode cX12_lost 56 = .ok (.iload_n 2, 1) := by decide +kernel
theorem dX12_lost_57 : decode cX12_lost 57 = .ok (.iaload, 1) := by decide +kernel
theorem dX12_lost_58 : decode cX12_lost 58 = .ok (.if_icmp .le 17, 3) := by decide +kernel
theorem dX12_lost_61 : decode cX12_lost 61 = .ok (.aload_n 0, 1) := by decide +kernel
theorem dX12_lost_62 : decode cX12_lost 62 = .ok (.getfield 22, 3) := by decide +kernel
theorem dX12_lost_65 : decode cX12_lost 65 = .ok (.bipush 8, 2) := by decide +kernel
theorem dX12_lost_67 : decode cX12_lost 67 = .ok (.iload_n 2, 1) := by decide +kernel
theorem dX12_lost_68 : decode cX12_lost 68 = .ok (.imul, 1) := by decide +kernel
theorem dX12_lost_69 : decode cX12_lost 69 = .ok (.iload_n 3, 1) := by decide +kernel
theorem dX12_lost_70 : decode cX12_lost 70 = .ok (.iadd, 1) := by decide +kernel
theorem dX12_lost_71 : decode cX12_lost 71 = .ok (.iaload, 1) := by decide +kernel
theorem dX12_lost_72 : decode cX12_lost 72 = .ok (.goto 9, 3) := by decide +kernel
theorem dX12_lost_75 : decode cX12_lost 75 = .ok (.aload_n 0, 1) := by decide +kernel
theorem dX12_lost_76 : decode cX12_lost 76 = .ok (.getfield 16, 3) := by decide +kernel
theorem dX12_lost_79 : decode cX12_lost 79 = .ok (.iload_n 2, 1) := by decide +kernel
theorem dX12_lost_80 : decode cX12_lost 80 = .ok (.iaload, 1) := by decide +kernel
theorem dX12_lost_81 : decode cX12_lost 81 = .ok (.istore 4, 2) := by decide +kernel
theorem dX12_lost_83 : decode cX12_lost 83 = .ok (.iload_n 1, 1) := by decide +kernel
theorem dX12_lost_84 : decode cX12_lost 84 = .ok (.aload_n 0, 1) := by decide +kernel
theorem dX12_lost_85 : decode cX12_lost 85 = .ok (.iload_n 2, 1) := by decide +kernel
theorem dX12_lost_86 : decode cX12_lost 86 = .ok (.invokevirtual 183, 3) := by decide +kernel
theorem dX12_lost_89 : decode cX12_lost 89 = .ok (.iadd, 1) := by decide +kernel
theorem dX12_lost_90 : decode cX12_lost 90 = .ok (.iload 4, 2) := by decide +kernel
theorem dX12_lost_92 : decode cX12_lost 92 = .ok (.isub, 1) := by decide +kernel
theorem dX12_lost_93 : decode cX12_lost 93 = .ok (.istore_n 1, 1) := by decide +kernel
theorem dX12_lost_94 : decode cX12_lost 94 = .ok (.iinc 3 1, 3) := by decide +kernel
theorem dX12_lost_97 : decode cX12_lost 97 = .ok (.goto (-83), 3) := by decide +kernel
theorem dX12_lost_100 : decode cX12_lost 100 = .ok (.iinc 2 1, 3) := by decide +kernel
theorem dX12_lost_103 : decode cX12_lost 103 = .ok (.goto (-99), 3) := by decide +kernel
theorem dX12_lost_106 : decode cX12_lost 106 = .ok (.iload_n 1, 1) := by decide +kernel
theorem dX12_lost_107 : decode cX12_lost 107 = .ok (.ireturn, 1) := by decide +kernel
theorem dX12_seed_0 : decode cX12_seed 0 = .ok (.iload_n 1, 1) := by decide +kernel
theorem dX12_seed_1 : decode cX12_seed 1 = .ok (.iconst 0, 1) := by decide +kernel
theorem dX12_seed_2 : decode cX12_seed 2 = .ok (.ldc_w 455, 3) := by decide +kernel
theorem dX12_seed_5 : decode cX12_seed 5 = .ok (.invokestatic 168, 3) := by decide +kernel
theorem dX12_seed_8 : decode cX12_seed 8 = .ok (.ifCond .ne 5, 3) := by decide +kernel
theorem dX12_seed_11 : decode cX12_seed 11 = .ok (.iconst 0, 1) := by decide +kernel
theorem dX12_seed_12 : decode cX12_seed 12 = .ok (.ireturn, 1) := by decide +kernel
theorem dX12_seed_13 : decode cX12_seed 13 = .ok (.aload_n 0, 1) := by decide +kernel
theorem dX12_seed_14 : decode cX12_seed 14 = .ok (.iload_n 1, 1) := by decide +kernel
theorem dX12_seed_15 : decode cX12_seed 15 = .ok (.putfield 152, 3) := by decide +kernel
theorem dX12_seed_18 : decode cX12_seed 18 = .ok (.iconst 1, 1) := by decide +kernel
theorem dX12_seed_19 : decode cX12_seed 19 = .ok (.ireturn, 1) := by decide +kernel
theorem dX12_draws_0 : decode cX12_draws 0 = .ok (.aload_n 0, 1) := by decide +kernel
theorem dX12_draws_1 : decode cX12_draws 1 = .ok (.sipush 25173, 3) := by decide +kernel
theorem dX12_draws_4 : decode cX12_draws 4 = .ok (.aload_n 0, 1) := by decide +kernel
theorem dX12_draws_5 : decode cX12_draws 5 = .ok (.getfield 152, 3) := by decide +kernel
theorem dX12_draws_8 : decode cX12_draws 8 = .ok (.imul, 1) := by decide +kernel
theorem dX12_draws_9 : decode cX12_draws 9 = .ok (.sipush 13849, 3) := by decide +kernel
theorem dX12_draws_12 : decode cX12_draws 12 = .ok (.iadd, 1) := by decide +kernel
theorem dX12_draws_13 : decode cX12_draws 13 = .ok (.ldc_w 456, 3) := by decide +kernel
theorem dX12_draws_16 : decode cX12_draws 16 = .ok (.irem, 1) := by decide +kernel
theorem dX12_draws_17 : decode cX12_draws 17 = .ok (.putfield 152, 3) := by decide +kernel
theorem dX12_draws_20 : decode cX12_draws 20 = .ok (.return_, 1) := by decide +kernel
theorem dX12_drawnEnd_0 : decode cX12_drawnEnd 0 = .ok (.aload_n 0, 1) := by decide +kernel
theorem dX12_drawnEnd_1 : decode cX12_drawnEnd 1 = .ok (.invokevirtual 457, 3) := by decide +kernel
theorem dX12_drawnEnd_4 : decode cX12_drawnEnd 4 = .ok (.aload_n 0, 1) := by decide +kernel
theorem dX12_drawnEnd_5 : decode cX12_drawnEnd 5 = .ok (.getfield 152, 3) := by decide +kernel
theorem dX12_drawnEnd_8 : decode cX12_drawnEnd 8 = .ok (.aload_n 0, 1) := by decide +kernel
theorem dX12_drawnEnd_9 : decode cX12_drawnEnd 9 = .ok (.iload_n 1, 1) := by decide +kernel
theorem dX12_drawnEnd_10 : decode cX12_drawnEnd 10 = .ok (.invokevirtual 403, 3) := by decide +kernel
theorem dX12_drawnEnd_13 : decode cX12_drawnEnd 13 = .ok (.irem, 1) := by decide +kernel
theorem dX12_drawnEnd_14 : decode cX12_drawnEnd 14 = .ok (.istore_n 2, 1) := by decide +kernel
theorem dX12_drawnEnd_15 : decode cX12_drawnEnd 15 = .ok (.iconst 0, 1) := by decide +kernel
theorem dX12_drawnEnd_16 : decode cX12_drawnEnd 16 = .ok (.istore_n 3, 1) := by decide +kernel
theorem dX12_drawnEnd_17 : decode cX12_drawnEnd 17 = .ok (.iload_n 2, 1) := by decide +kernel
theorem dX12_drawnEnd_18 : decode cX12_drawnEnd 18 = .ok (.aload_n 0, 1) := by decide +kernel
theorem dX12_drawnEnd_19 : decode cX12_drawnEnd 19 = .ok (.iload_n 1, 1) := by decide +kernel
theorem dX12_drawnEnd_20 : decode cX12_drawnEnd 20 = .ok (.iload_n 3, 1) := by decide +kernel
theorem dX12_drawnEnd_21 : decode cX12_drawnEnd 21 = .ok (.invokevirtual 389, 3) := by decide +kernel
theorem dX12_drawnEnd_24 : decode cX12_drawnEnd 24 = .ok (.if_icmp .lt 19, 3) := by decide +kernel
theorem dX12_drawnEnd_27 : decode cX12_drawnEnd 27 = .ok (.iload_n 2, 1) := by decide +kernel
theorem dX12_drawnEnd_28 : decode cX12_drawnEnd 28 = .ok (.aload_n 0, 1) := by decide +kernel
theorem dX12_drawnEnd_29 : decode cX12_drawnEnd 29 = .ok (.iload_n 1, 1) := by decide +kernel
theorem dX12_drawnEnd_30 : decode cX12_drawnEnd 30 = .ok (.iload_n 3, 1) := by decide +kernel
theorem dX12_drawnEnd_31 : decode cX12_drawnEnd 31 = .ok (.invokevirtual 389, 3) := by decide +kernel
theorem dX12_drawnEnd_34 : decode cX12_drawnEnd 34 = .ok (.isub, 1) := by decide +kernel
theorem dX12_drawnEnd_35 : decode cX12_drawnEnd 35 = .ok (.istore_n 2, 1) := by decide +kernel
theorem dX12_drawnEnd_36 : decode cX12_drawnEnd 36 = .ok (.iload_n 3, 1) := by decide +kernel
theorem dX12_drawnEnd_37 : decode cX12_drawnEnd 37 = .ok (.iconst 1, 1) := by decide +kernel
theorem dX12_drawnEnd_38 : decode cX12_drawnEnd 38 = .ok (.iadd, 1) := by decide +kernel
theorem dX12_drawnEnd_39 : decode cX12_drawnEnd 39 = .ok (.istore_n 3, 1) := by decide +kernel
theorem dX12_drawnEnd_40 : decode cX12_drawnEnd 40 = .ok (.goto (-23), 3) := by decide +kernel
theorem dX12_drawnEnd_43 : decode cX12_drawnEnd 43 = .ok (.iload_n 3, 1) := by decide +kernel
theorem dX12_drawnEnd_44 : decode cX12_drawnEnd 44 = .ok (.ireturn, 1) := by decide +kernel
theorem dX12_draw_0 : decode cX12_draw 0 = .ok (.aload_n 0, 1) := by decide +kernel
theorem dX12_draw_1 : decode cX12_draw 1 = .ok (.iload_n 1, 1) := by decide +kernel
theorem dX12_draw_2 : decode cX12_draw 2 = .ok (.invokevirtual 158, 3) := by decide +kernel
theorem dX12_draw_5 : decode cX12_draw 5 = .ok (.ifCond .eq 23, 3) := by decide +kernel
theorem dX12_draw_8 : decode cX12_draw 8 = .ok (.aload_n 0, 1) := by decide +kernel
theorem dX12_draw_9 : decode cX12_draw 9 = .ok (.getfield 25, 3) := by decide +kernel
theorem dX12_draw_12 : decode cX12_draw 12 = .ok (.iload_n 1, 1) := by decide +kernel
theorem dX12_draw_13 : decode cX12_draw 13 = .ok (.baload, 1) := by decide +kernel
theorem dX12_draw_14 : decode cX12_draw 14 = .ok (.ifCond .ne 14, 3) := by decide +kernel
theorem dX12_draw_17 : decode cX12_draw 17 = .ok (.iload_n 2, 1) := by decide +kernel
theorem dX12_draw_18 : decode cX12_draw 18 = .ok (.iconst 0, 1) := by decide +kernel
theorem dX12_draw_19 : decode cX12_draw 19 = .ok (.sipush 600, 3) := by decide +kernel
theorem dX12_draw_22 : decode cX12_draw 22 = .ok (.invokestatic 168, 3) := by decide +kernel
theorem dX12_draw_25 : decode cX12_draw 25 = .ok (.ifCond .ne 5, 3) := by decide +kernel
theorem dX12_draw_28 : decode cX12_draw 28 = .ok (.iconst (-1), 1) := by decide +kernel
theorem dX12_draw_29 : decode cX12_draw 29 = .ok (.ireturn, 1) := by decide +kernel
theorem dX12_draw_30 : decode cX12_draw 30 = .ok (.aload_n 0, 1) := by decide +kernel
theorem dX12_draw_31 : decode cX12_draw 31 = .ok (.invokevirtual 457, 3) := by decide +kernel
theorem dX12_draw_34 : decode cX12_draw 34 = .ok (.aload_n 0, 1) := by decide +kernel
theorem dX12_draw_35 : decode cX12_draw 35 = .ok (.getfield 152, 3) := by decide +kernel
theorem dX12_draw_38 : decode cX12_draw 38 = .ok (.aload_n 0, 1) := by decide +kernel
theorem dX12_draw_39 : decode cX12_draw 39 = .ok (.getfield 148, 3) := by decide +kernel
theorem dX12_draw_42 : decode cX12_draw 42 = .ok (.irem, 1) := by decide +kernel
theorem dX12_draw_43 : decode cX12_draw 43 = .ok (.aload_n 0, 1) := by decide +kernel
theorem dX12_draw_44 : decode cX12_draw 44 = .ok (.getfield 374, 3) := by decide +kernel
theorem dX12_draw_47 : decode cX12_draw 47 = .ok (.if_icmp .ge 7, 3) := by decide +kernel
theorem dX12_draw_50 : decode cX12_draw 50 = .ok (.iconst 1, 1) := by decide +kernel
theorem dX12_draw_51 : decode cX12_draw 51 = .ok (.goto 4, 3) := by decide +kernel
theorem dX12_draw_54 : decode cX12_draw 54 = .ok (.iconst 0, 1) := by decide +kernel
theorem dX12_draw_55 : decode cX12_draw 55 = .ok (.istore_n 3, 1) := by decide +kernel
theorem dX12_draw_56 : decode cX12_draw 56 = .ok (.iconst 0, 1) := by decide +kernel
theorem dX12_draw_57 : decode cX12_draw 57 = .ok (.istore 4, 2) := by decide +kernel
theorem dX12_draw_59 : decode cX12_draw 59 = .ok (.iload 4, 2) := by decide +kernel
theorem dX12_draw_61 : decode cX12_draw 61 = .ok (.bipush 8, 2) := by decide +kernel
theorem dX12_draw_63 : decode cX12_draw 63 = .ok (.if_icmp .ge 83, 3) := by decide +kernel
theorem dX12_draw_66 : decode cX12_draw 66 = .ok (.aload_n 0, 1) := by decide +kernel
theorem dX12_draw_67 : decode cX12_draw 67 = .ok (.iload_n 1, 1) := by decide +kernel
theorem dX12_draw_68 : decode cX12_draw 68 = .ok (.iload 4, 2) := by decide +kernel
theorem dX12_draw_70 : decode cX12_draw 70 = .ok (.invokevirtual 176, 3) := by decide +kernel
theorem dX12_draw_73 : decode cX12_draw 73 = .ok (.ifCond .ne 6, 3) := by decide +kernel
theorem dX12_draw_76 : decode cX12_draw 76 = .ok (.goto 64, 3) := by decide +kernel
theorem dX12_draw_79 : decode cX12_draw 79 = .ok (.aload_n 0, 1) := by decide +kernel
theorem dX12_draw_80 : decode cX12_draw 80 = .ok (.getfield 16, 3) := by decide +kernel
theorem dX12_draw_83 : decode cX12_draw 83 = .ok (.iload_n 1, 1) := by decide +kernel
theorem dX12_draw_84 : decode cX12_draw 84 = .ok (.iaload, 1) := by decide +kernel
theorem dX12_draw_85 : decode cX12_draw 85 = .ok (.iload_n 2, 1) := by decide +kernel
theorem dX12_draw_86 : decode cX12_draw 86 = .ok (.isub, 1) := by decide +kernel
theorem dX12_draw_87 : decode cX12_draw 87 = .ok (.aload_n 0, 1) := by decide +kernel
theorem dX12_draw_88 : decode cX12_draw 88 = .ok (.iload 4, 2) := by decide +kernel
theorem dX12_draw_90 : decode cX12_draw 90 = .ok (.aload_n 0, 1) := by decide +kernel
theorem dX12_draw_91 : decode cX12_draw 91 = .ok (.iload 4, 2) := by decide +kernel
theorem dX12_draw_93 : decode cX12_draw 93 = .ok (.invokevirtual 460, 3) := by decide +kernel
theorem dX12_draw_96 : decode cX12_draw 96 = .ok (.iload_n 3, 1) := by decide +kernel
theorem dX12_draw_97 : decode cX12_draw 97 = .ok (.invokevirtual 392, 3) := by decide +kernel
theorem dX12_draw_100 : decode cX12_draw 100 = .ok (.iadd, 1) := by decide +kernel
theorem dX12_draw_101 : decode cX12_draw 101 = .ok (.istore 5, 2) := by decide +kernel
theorem dX12_draw_103 : decode cX12_draw 103 = .ok (.aload_n 0, 1) := by decide +kernel
theorem dX12_draw_104 : decode cX12_draw 104 = .ok (.getfield 22, 3) := by decide +kernel
theorem dX12_draw_107 : decode cX12_draw 107 = .ok (.bipush 8, 2) := by decide +kernel
theorem dX12_draw_109 : decode cX12_draw 109 = .ok (.iload_n 1, 1) := by decide +kernel
theorem dX12_draw_110 : decode cX12_draw 110 = .ok (.imul, 1) := by decide +kernel
theorem dX12_draw_111 : decode cX12_draw 111 = .ok (.iload 4, 2) := by decide +kernel
theorem dX12_draw_113 : decode cX12_draw 113 = .ok (.iadd, 1) := by decide +kernel
theorem dX12_draw_114 : decode cX12_draw 114 = .ok (.iload 5, 2) := by decide +kernel
theorem dX12_draw_116 : decode cX12_draw 116 = .ok (.ifCond .ge 7, 3) := by decide +kernel
theorem dX12_draw_119 : decode cX12_draw 119 = .ok (.iconst 0, 1) := by decide +kernel
theorem dX12_draw_120 : decode cX12_draw 120 = .ok (.goto 19, 3) := by decide +kernel
theorem dX12_draw_123 : decode cX12_draw 123 = .ok (.iload 5, 2) := by decide +kernel
theorem dX12_draw_125 : decode cX12_draw 125 = .ok (.sipush 1439, 3) := by decide +kernel
theorem dX12_draw_128 : decode cX12_draw 128 = .ok (.if_icmp .le 9, 3) := by decide +kernel
theorem dX12_draw_131 : decode cX12_draw 131 = .ok (.sipush 1439, 3) := by decide +kernel
theorem dX12_draw_134 : decode cX12_draw 134 = .ok (.goto 5, 3) := by decide +kernel
theorem dX12_draw_137 : decode cX12_draw 137 = .ok (.iload 5, 2) := by decide +kernel
theorem dX12_draw_139 : decode cX12_draw 139 = .ok (.iastore, 1) := by decide +kernel
theorem dX12_draw_140 : decode cX12_draw 140 = .ok (.iinc 4 1, 3) := by decide +kernel
theorem dX12_draw_143 : decode cX12_draw 143 = .ok (.goto (-84), 3) := by decide +kernel
theorem dX12_draw_146 : decode cX12_draw 146 = .ok (.iload_n 3, 1) := by decide +kernel
theorem dX12_draw_147 : decode cX12_draw 147 = .ok (.ifCond .eq 7, 3) := by decide +kernel
theorem dX12_draw_150 : decode cX12_draw 150 = .ok (.iconst 1, 1) := by decide +kernel
theorem dX12_draw_151 : decode cX12_draw 151 = .ok (.goto 4, 3) := by decide +kernel
theorem dX12_draw_154 : decode cX12_draw 154 = .ok (.iconst 0, 1) := by decide +kernel
theorem dX12_draw_155 : decode cX12_draw 155 = .ok (.ireturn, 1) := by decide +kernel
theorem dX12_tapeNumber_0 : decode cX12_tapeNumber 0 = .ok (.iconst 0, 1) := by decide +kernel
theorem dX12_tapeNumber_1 : decode cX12_tapeNumber 1 = .ok (.istore_n 2, 1) := by decide +kernel
theorem dX12_tapeNumber_2 : decode cX12_tapeNumber 2 = .ok (.iconst 4, 1) := by decide +kernel
theorem dX12_tapeNumber_3 : decode cX12_tapeNumber 3 = .ok (.iload_n 1, 1) := by decide +kernel
theorem dX12_tapeNumber_4 : decode cX12_tapeNumber 4 = .ok (.imul, 1) := by decide +kernel
theorem dX12_tapeNumber_5 : decode cX12_tapeNumber 5 = .ok (.istore_n 3, 1) := by decide +kernel
theorem dX12_tapeNumber_6 : decode cX12_tapeNumber 6 = .ok (.iload_n 3, 1) := by decide +kernel
theorem dX12_tapeNumber_7 : decode cX12_tapeNumber 7 = .ok (.iconst 4, 1) := by decide +kernel
theorem dX12_tapeNumber_8 : decode cX12_tapeNumber 8 = .ok (.iload_n 1, 1) := by decide +kernel
theorem dX12_tapeNumber_9 : decode cX12_tapeNumber 9 = .ok (.imul, 1) := by decide +kernel
theorem dX12_tapeNumber_10 : decode cX12_tapeNumber 10 = .ok (.iconst 4, 1) := by decide +kernel
theorem dX12_tapeNumber_11 : decode cX12_tapeNumber 11 = .ok (.iadd, 1) := by decide +kernel
theorem dX12_tapeNumber_12 : decode cX12_tapeNumber 12 = .ok (.if_icmp .ge 25, 3) := by decide +kernel
theorem dX12_tapeNumber_15 : decode cX12_tapeNumber 15 = .ok (.iload_n 2, 1) := by decide +kernel
theorem dX12_tapeNumber_16 : decode cX12_tapeNumber 16 = .ok (.bipush 8, 2) := by decide +kernel
theorem dX12_tapeNumber_18 : decode cX12_tapeNumber 18 = .ok (.ishl, 1) := by decide +kernel
theorem dX12_tapeNumber_19 : decode cX12_tapeNumber 19 = .ok (.aload_n 0, 1) := by decide +kernel
theorem dX12_tapeNumber_20 : decode cX12_tapeNumber 20 = .ok (.getfield 29, 3) := by decide +kernel
theorem dX12_tapeNumber_23 : decode cX12_tapeNumber 23 = .ok (.iload_n 3, 1) := by decide +kernel
theorem dX12_tapeNumber_24 : decode cX12_tapeNumber 24 = .ok (.baload, 1) := by decide +kernel
theorem dX12_tapeNumber_25 : decode cX12_tapeNumber 25 = .ok (.sipush 255, 3) := by decide +kernel
theorem dX12_tapeNumber_28 : decode cX12_tapeNumber 28 = .ok (.iand, 1) := by decide +kernel
theorem dX12_tapeNumber_29 : decode cX12_tapeNumber 29 = .ok (.ior, 1) := by decide +kernel
theorem dX12_tapeNumber_30 : decode cX12_tapeNumber 30 = .ok (.istore_n 2, 1) := by decide +kernel
theorem dX12_tapeNumber_31 : decode cX12_tapeNumber 31 = .ok (.iinc 3 1, 3) := by decide +kernel
theorem dX12_tapeNumber_34 : decode cX12_tapeNumber 34 = .ok (.goto (-28), 3) := by decide +kernel
theorem dX12_tapeNumber_37 : decode cX12_tapeNumber 37 = .ok (.iload_n 2, 1) := by decide +kernel
theorem dX12_tapeNumber_38 : decode cX12_tapeNumber 38 = .ok (.ireturn, 1) := by decide +kernel
theorem dX12_noteNumber_0 : decode cX12_noteNumber 0 = .ok (.iload_n 2, 1) := by decide +kernel
theorem dX12_noteNumber_1 : decode cX12_noteNumber 1 = .ok (.ifCond .ne 7, 3) := by decide +kernel
theorem dX12_noteNumber_4 : decode cX12_noteNumber 4 = .ok (.iload_n 1, 1) := by decide +kernel
theorem dX12_noteNumber_5 : decode cX12_noteNumber 5 = .ok (.goto 37, 3) := by decide +kernel
theorem dX12_noteNumber_8 : decode cX12_noteNumber 8 = .ok (.iload_n 2, 1) := by decide +kernel
theorem dX12_noteNumber_9 : decode cX12_noteNumber 9 = .ok (.iconst 1, 1) := by decide +kernel
theorem dX12_noteNumber_10 : decode cX12_noteNumber 10 = .ok (.if_icmp .ne 12, 3) := by decide +kernel
theorem dX12_noteNumber_13 : decode cX12_noteNumber 13 = .ok (.aload_n 0, 1) := by decide +kernel
theorem dX12_noteNumber_14 : decode cX12_noteNumber 14 = .ok (.getfield 78, 3) := by decide +kernel
theorem dX12_noteNumber_17 : decode cX12_noteNumber 17 = .ok (.iload_n 1, 1) := by decide +kernel
theorem dX12_noteNumber_18 : decode cX12_noteNumber 18 = .ok (.iaload, 1) := by decide +kernel
theorem dX12_noteNumber_19 : decode cX12_noteNumber 19 = .ok (.goto 23, 3) := by decide +kernel
theorem dX12_noteNumber_22 : decode cX12_noteNumber 22 = .ok (.iload_n 2, 1) := by decide +kernel
theorem dX12_noteNumber_23 : decode cX12_noteNumber 23 = .ok (.iconst 2, 1) := by decide +kernel
theorem dX12_noteNumber_24 : decode cX12_noteNumber 24 = .ok (.if_icmp .ne 12, 3) := by decide +kernel
theorem dX12_noteNumber_27 : decode cX12_noteNumber 27 = .ok (.aload_n 0, 1) := by decide +kernel
theorem dX12_noteNumber_28 : decode cX12_noteNumber 28 = .ok (.getfield 81, 3) := by decide +kernel
theorem dX12_noteNumber_31 : decode cX12_noteNumber 31 = .ok (.iload_n 1, 1) := by decide +kernel
theorem dX12_noteNumber_32 : decode cX12_noteNumber 32 = .ok (.iaload, 1) := by decide +kernel
theorem dX12_noteNumber_33 : decode cX12_noteNumber 33 = .ok (.goto 9, 3) := by decide +kernel
theorem dX12_noteNumber_36 : decode cX12_noteNumber 36 = .ok (.aload_n 0, 1) := by decide +kernel
theorem dX12_noteNumber_37 : decode cX12_noteNumber 37 = .ok (.getfield 84, 3) := by decide +kernel
theorem dX12_noteNumber_40 : decode cX12_noteNumber 40 = .ok (.iload_n 1, 1) := by decide +kernel
theorem dX12_noteNumber_41 : decode cX12_noteNumber 41 = .ok (.iaload, 1) := by decide +kernel
theorem dX12_noteNumber_42 : decode cX12_noteNumber 42 = .ok (.ireturn, 1) := by decide +kernel
theorem dX12_check_0 : decode cX12_check 0 = .ok (.iload_n 1, 1) := by decide +kernel
theorem dX12_check_1 : decode cX12_check 1 = .ok (.ifCond .lt 14, 3) := by decide +kernel
theorem dX12_check_4 : decode cX12_check 4 = .ok (.iload_n 1, 1) := by decide +kernel
theorem dX12_check_5 : decode cX12_check 5 = .ok (.aload_n 0, 1) := by decide +kernel
theorem dX12_check_6 : decode cX12_check 6 = .ok (.getfield 203, 3) := by decide +kernel
theorem dX12_check_9 : decode cX12_check 9 = .ok (.bipush 16, 2) := by decide +kernel
theorem dX12_check_11 : decode cX12_check 11 = .ok (.idiv, 1) := by decide +kernel
theorem dX12_check_12 : decode cX12_check 12 = .ok (.if_icmp .le 6, 3) := by decide +kernel
theorem dX12_check_15 : decode cX12_check 15 = .ok (.bipush (-2), 2) := by decide +kernel
theorem dX12_check_17 : decode cX12_check 17 = .ok (.ireturn, 1) := by decide +kernel
theorem dX12_check_18 : decode cX12_check 18 = .ok (.aload_n 0, 1) := by decide +kernel
theorem dX12_check_19 : decode cX12_check 19 = .ok (.iconst 0, 1) := by decide +kernel
theorem dX12_check_20 : decode cX12_check 20 = .ok (.putfield 203, 3) := by decide +kernel
theorem dX12_check_23 : decode cX12_check 23 = .ok (.iconst 0, 1) := by decide +kernel
theorem dX12_check_24 : decode cX12_check 24 = .ok (.istore_n 2, 1) := by decide +kernel
theorem dX12_check_25 : decode cX12_check 25 = .ok (.iconst 0, 1) := by decide +kernel
theorem dX12_check_26 : decode cX12_check 26 = .ok (.istore_n 3, 1) := by decide +kernel
theorem dX12_check_27 : decode cX12_check 27 = .ok (.iload_n 3, 1) := by decide +kernel
theorem dX12_check_28 : decode cX12_check 28 = .ok (.aload_n 0, 1) := by decide +kernel
theorem dX12_check_29 : decode cX12_check 29 = .ok (.getfield 328, 3) := by decide +kernel
theorem dX12_check_32 : decode cX12_check 32 = .ok (.if_icmp .ge 71, 3) := by decide +kernel
theorem dX12_check_35 : decode cX12_check 35 = .ok (.aload_n 0, 1) := by decide +kernel
theorem dX12_check_36 : decode cX12_check 36 = .ok (.iload_n 3, 1) := by decide +kernel
theorem dX12_check_37 : decode cX12_check 37 = .ok (.invokevirtual 348, 3) := by decide +kernel
theorem dX12_check_40 : decode cX12_check 40 = .ok (.ifCond .ne 6, 3) := by decide +kernel
theorem dX12_check_43 : decode cX12_check 43 = .ok (.goto 54, 3) := by decide +kernel
theorem dX12_check_46 : decode cX12_check 46 = .ok (.iload_n 2, 1) := by decide +kernel
theorem dX12_check_47 : decode cX12_check 47 = .ok (.iconst 4, 1) := by decide +kernel
theorem dX12_check_48 : decode cX12_check 48 = .ok (.iload_n 1, 1) := by decide +kernel
theorem dX12_check_49 : decode cX12_check 49 = .ok (.imul, 1) := by decide +kernel
theorem dX12_check_50 : decode cX12_check 50 = .ok (.if_icmp .ne 5, 3) := by decide +kernel
theorem dX12_check_53 : decode cX12_check 53 = .ok (.iload_n 2, 1) := by decide +kernel
theorem dX12_check_54 : decode cX12_check 54 = .ok (.ireturn, 1) := by decide +kernel
theorem dX12_check_55 : decode cX12_check 55 = .ok (.iconst 0, 1) := by decide +kernel
theorem dX12_check_56 : decode cX12_check 56 = .ok (.istore 4, 2) := by decide +kernel
theorem dX12_check_58 : decode cX12_check 58 = .ok (.iload 4, 2) := by decide +kernel
theorem dX12_check_60 : decode cX12_check 60 = .ok (.iconst 4, 1) := by decide +kernel
theorem dX12_check_61 : decode cX12_check 61 = .ok (.if_icmp .ge 32, 3) := by decide +kernel
theorem dX12_check_64 : decode cX12_check 64 = .ok (.aload_n 0, 1) := by decide +kernel
theorem dX12_check_65 : decode cX12_check 65 = .ok (.iload_n 2, 1) := by decide +kernel
theorem dX12_check_66 : decode cX12_check 66 = .ok (.iload 4, 2) := by decide +kernel
theorem dX12_check_68 : decode cX12_check 68 = .ok (.iadd, 1) := by decide +kernel
theorem dX12_check_69 : decode cX12_check 69 = .ok (.invokevirtual 463, 3) := by decide +kernel
theorem dX12_check_72 : decode cX12_check 72 = .ok (.aload_n 0, 1) := by decide +kernel
theorem dX12_check_73 : decode cX12_check 73 = .ok (.iload_n 3, 1) := by decide +kernel
theorem dX12_check_74 : decode cX12_check 74 = .ok (.iload 4, 2) := by decide +kernel
theorem dX12_check_76 : decode cX12_check 76 = .ok (.invokevirtual 466, 3) := by decide +kernel
theorem dX12_check_79 : decode cX12_check 79 = .ok (.if_icmp .eq 8, 3) := by decide +kernel
theorem dX12_check_82 : decode cX12_check 82 = .ok (.iload_n 2, 1) := by decide +kernel
theorem dX12_check_83 : decode cX12_check 83 = .ok (.iload 4, 2) := by decide +kernel
theorem dX12_check_85 : decode cX12_check 85 = .ok (.iadd, 1) := by decide +kernel
theorem dX12_check_86 : decode cX12_check 86 = .ok (.ireturn, 1) := by decide +kernel
theorem dX12_check_87 : decode cX12_check 87 = .ok (.iinc 4 1, 3) := by decide +kernel
theorem dX12_check_90 : decode cX12_check 90 = .ok (.goto (-32), 3) := by decide +kernel
theorem dX12_check_93 : decode cX12_check 93 = .ok (.iload_n 2, 1) := by decide +kernel
theorem dX12_check_94 : decode cX12_check 94 = .ok (.iconst 4, 1) := by decide +kernel
theorem dX12_check_95 : decode cX12_check 95 = .ok (.iadd, 1) := by decide +kernel
theorem dX12_check_96 : decode cX12_check 96 = .ok (.istore_n 2, 1) := by decide +kernel
theorem dX12_check_97 : decode cX12_check 97 = .ok (.iinc 3 1, 3) := by decide +kernel
theorem dX12_check_100 : decode cX12_check 100 = .ok (.goto (-73), 3) := by decide +kernel
theorem dX12_check_103 : decode cX12_check 103 = .ok (.iload_n 2, 1) := by decide +kernel
theorem dX12_check_104 : decode cX12_check 104 = .ok (.iconst 4, 1) := by decide +kernel
theorem dX12_check_105 : decode cX12_check 105 = .ok (.iload_n 1, 1) := by decide +kernel
theorem dX12_check_106 : decode cX12_check 106 = .ok (.imul, 1) := by decide +kernel
theorem dX12_check_107 : decode cX12_check 107 = .ok (.if_icmp .ge 7, 3) := by decide +kernel
theorem dX12_check_110 : decode cX12_check 110 = .ok (.iload_n 2, 1) := by decide +kernel
theorem dX12_check_111 : decode cX12_check 111 = .ok (.goto 4, 3) := by decide +kernel
theorem dX12_check_114 : decode cX12_check 114 = .ok (.iconst (-1), 1) := by decide +kernel
theorem dX12_check_115 : decode cX12_check 115 = .ok (.ireturn, 1) := by decide +kernel
theorem dX12_count_0 : decode cX12_count 0 = .ok (.iload_n 1, 1) := by decide +kernel
theorem dX12_count_1 : decode cX12_count 1 = .ok (.tableswitch 78 0 6 #[43, 48, 53, 58, 63, 68, 73], 43) := by decide +kernel
theorem dX12_count_44 : decode cX12_count 44 = .ok (.aload_n 0, 1) := by decide +kernel
theorem dX12_count_45 : decode cX12_count 45 = .ok (.getfield 165, 3) := by decide +kernel
theorem dX12_count_48 : decode cX12_count 48 = .ok (.ireturn, 1) := by decide +kernel
theorem dX12_count_49 : decode cX12_count 49 = .ok (.aload_n 0, 1) := by decide +kernel
theorem dX12_count_50 : decode cX12_count 50 = .ok (.getfield 155, 3) := by decide +kernel
theorem dX12_count_53 : decode cX12_count 53 = .ok (.ireturn, 1) := by decide +kernel
theorem dX12_count_54 : decode cX12_count 54 = .ok (.aload_n 0, 1) := by decide +kernel
theorem dX12_count_55 : decode cX12_count 55 = .ok (.getfield 328, 3) := by decide +kernel
theorem dX12_count_58 : decode cX12_count 58 = .ok (.ireturn, 1) := by decide +kernel
theorem dX12_count_59 : decode cX12_count 59 = .ok (.aload_n 0, 1) := by decide +kernel
theorem dX12_count_60 : decode cX12_count 60 = .ok (.getfield 299, 3) := by decide +kernel
theorem dX12_count_63 : decode cX12_count 63 = .ok (.ireturn, 1) := by decide +kernel
theorem dX12_count_64 : decode cX12_count 64 = .ok (.aload_n 0, 1) := by decide +kernel
theorem dX12_count_65 : decode cX12_count 65 = .ok (.getfield 203, 3) := by decide +kernel
theorem dX12_count_68 : decode cX12_count 68 = .ok (.ireturn, 1) := by decide +kernel
theorem dX12_count_69 : decode cX12_count 69 = .ok (.aload_n 0, 1) := by decide +kernel
theorem dX12_count_70 : decode cX12_count 70 = .ok (.getfield 152, 3) := by decide +kernel
theorem dX12_count_73 : decode cX12_count 73 = .ok (.ireturn, 1) := by decide +kernel
theorem dX12_count_74 : decode cX12_count 74 = .ok (.aload_n 0, 1) := by decide +kernel
theorem dX12_count_75 : decode cX12_count 75 = .ok (.getfield 339, 3) := by decide +kernel
theorem dX12_count_78 : decode cX12_count 78 = .ok (.ireturn, 1) := by decide +kernel
theorem dX12_count_79 : decode cX12_count 79 = .ok (.iload_n 1, 1) := by decide +kernel
theorem dX12_count_80 : decode cX12_count 80 = .ok (.bipush 10, 2) := by decide +kernel
theorem dX12_count_82 : decode cX12_count 82 = .ok (.bipush 17, 2) := by decide +kernel
theorem dX12_count_84 : decode cX12_count 84 = .ok (.invokestatic 168, 3) := by decide +kernel
theorem dX12_count_87 : decode cX12_count 87 = .ok (.ifCond .eq 13, 3) := by decide +kernel
theorem dX12_count_90 : decode cX12_count 90 = .ok (.aload_n 0, 1) := by decide +kernel
theorem dX12_count_91 : decode cX12_count 91 = .ok (.getfield 123, 3) := by decide +kernel
theorem dX12_count_94 : decode cX12_count 94 = .ok (.iload_n 1, 1) := by decide +kernel
theorem dX12_count_95 : decode cX12_count 95 = .ok (.bipush 10, 2) := by decide +kernel
theorem dX12_count_97 : decode cX12_count 97 = .ok (.isub, 1) := by decide +kernel
theorem dX12_count_98 : decode cX12_count 98 = .ok (.iaload, 1) := by decide +kernel
theorem dX12_count_99 : decode cX12_count 99 = .ok (.ireturn, 1) := by decide +kernel
theorem dX12_count_100 : decode cX12_count 100 = .ok (.iload_n 1, 1) := by decide +kernel
theorem dX12_count_101 : decode cX12_count 101 = .ok (.bipush 20, 2) := by decide +kernel
theorem dX12_count_103 : decode cX12_count 103 = .ok (.bipush 19, 2) := by decide +kernel
theorem dX12_count_105 : decode cX12_count 105 = .ok (.aload_n 0, 1) := by decide +kernel
theorem dX12_count_106 : decode cX12_count 106 = .ok (.getfield 155, 3) := by decide +kernel
theorem dX12_count_109 : decode cX12_count 109 = .ok (.iadd, 1) := by decide +kernel
theorem dX12_count_110 : decode cX12_count 110 = .ok (.invokestatic 168, 3) := by decide +kernel
theorem dX12_count_113 : decode cX12_count 113 = .ok (.ifCond .eq 15, 3) := by decide +kernel
theorem dX12_count_116 : decode cX12_count 116 = .ok (.aload_n 0, 1) := by decide +kernel
theorem dX12_count_117 : decode cX12_count 117 = .ok (.getfield 16, 3) := by decide +kernel
theorem dX12_count_120 : decode cX12_count 120 = .ok (.iload_n 1, 1) := by decide +kernel
theorem dX12_count_121 : decode cX12_count 121 = .ok (.bipush 20, 2) := by decide +kernel
theorem dX12_count_123 : decode cX12_count 123 = .ok (.isub, 1) := by decide +kernel
theorem dX12_count_124 : decode cX12_count 124 = .ok (.iaload, 1) := by decide +kernel
theorem dX12_count_125 : decode cX12_count 125 = .ok (.goto 4, 3) := by decide +kernel
theorem dX12_count_128 : decode cX12_count 128 = .ok (.iconst (-1), 1) := by decide +kernel
theorem dX12_count_129 : decode cX12_count 129 = .ok (.ireturn, 1) := by decide +kernel
theorem dJ6_bitCount_0f7a4_0 : decode cJ6_bitCount_0f7a4 0 = .ok (.iload_n 0, 1) := by decide +kernel
theorem dJ6_bitCount_0f7a4_1 : decode cJ6_bitCount_0f7a4 1 = .ok (.iload_n 0, 1) := by decide +kernel
theorem dJ6_bitCount_0f7a4_2 : decode cJ6_bitCount_0f7a4 2 = .ok (.iconst 1, 1) := by decide +kernel
theorem dJ6_bitCount_0f7a4_3 : decode cJ6_bitCount_0f7a4 3 = .ok (.iushr, 1) := by decide +kernel
theorem dJ6_bitCount_0f7a4_4 : decode cJ6_bitCount_0f7a4 4 = .ok (.ldc_w 265, 3) := by decide +kernel
theorem dJ6_bitCount_0f7a4_7 : decode cJ6_bitCount_0f7a4 7 = .ok (.iand, 1) := by decide +kernel
theorem dJ6_bitCount_0f7a4_8 : decode cJ6_bitCount_0f7a4 8 = .ok (.isub, 1) := by decide +kernel
theorem dJ6_bitCount_0f7a4_9 : decode cJ6_bitCount_0f7a4 9 = .ok (.istore_n 0, 1) := by decide +kernel
theorem dJ6_bitCount_0f7a4_10 : decode cJ6_bitCount_0f7a4 10 = .ok (.iload_n 0, 1) := by decide +kernel
theorem dJ6_bitCount_0f7a4_11 : decode cJ6_bitCount_0f7a4 11 = .ok (.ldc_w 266, 3) := by decide +kernel
theorem dJ6_bitCount_0f7a4_14 : decode cJ6_bitCount_0f7a4 14 = .ok (.iand, 1) := by decide +kernel
theorem dJ6_bitCount_0f7a4_15 : decode cJ6_bitCount_0f7a4 15 = .ok (.iload_n 0, 1) := by decide +kernel
theorem dJ6_bitCount_0f7a4_16 : decode cJ6_bitCount_0f7a4 16 = .ok (.iconst 2, 1) := by decide +kernel
theorem dJ6_bitCount_0f7a4_17 : decode cJ6_bitCount_0f7a4 17 = .ok (.iushr, 1) := by decide +kernel
theorem dJ6_bitCount_0f7a4_18 : decode cJ6_bitCount_0f7a4 18 = .ok (.ldc_w 266, 3) := by decide +kernel
theorem dJ6_bitCount_0f7a4_21 : decode cJ6_bitCount_0f7a4 21 = .ok (.iand, 1) := by decide +kernel
theorem dJ6_bitCount_0f7a4_22 : decode cJ6_bitCount_0f7a4 22 = .ok (.iadd, 1) := by decide +kernel
theorem dJ6_bitCount_0f7a4_23 : decode cJ6_bitCount_0f7a4 23 = .ok (.istore_n 0, 1) := by decide +kernel
theorem dJ6_bitCount_0f7a4_24 : decode cJ6_bitCount_0f7a4 24 = .ok (.iload_n 0, 1) := by decide +kernel
theorem dJ6_bitCount_0f7a4_25 : decode cJ6_bitCount_0f7a4 25 = .ok (.iload_n 0, 1) := by decide +kernel
theorem dJ6_bitCount_0f7a4_26 : decode cJ6_bitCount_0f7a4 26 = .ok (.iconst 4, 1) := by decide +kernel
theorem dJ6_bitCount_0f7a4_27 : decode cJ6_bitCount_0f7a4 27 = .ok (.iushr, 1) := by decide +kernel
theorem dJ6_bitCount_0f7a4_28 : decode cJ6_bitCount_0f7a4 28 = .ok (.iadd, 1) := by decide +kernel
theorem dJ6_bitCount_0f7a4_29 : decode cJ6_bitCount_0f7a4 29 = .ok (.ldc_w 267, 3) := by decide +kernel
theorem dJ6_bitCount_0f7a4_32 : decode cJ6_bitCount_0f7a4 32 = .ok (.iand, 1) := by decide +kernel
theorem dJ6_bitCount_0f7a4_33 : decode cJ6_bitCount_0f7a4 33 = .ok (.istore_n 0, 1) := by decide +kernel
theorem dJ6_bitCount_0f7a4_34 : decode cJ6_bitCount_0f7a4 34 = .ok (.iload_n 0, 1) := by decide +kernel
theorem dJ6_bitCount_0f7a4_35 : decode cJ6_bitCount_0f7a4 35 = .ok (.iload_n 0, 1) := by decide +kernel
theorem dJ6_bitCount_0f7a4_36 : decode cJ6_bitCount_0f7a4 36 = .ok (.bipush 8, 2) := by decide +kernel
theorem dJ6_bitCount_0f7a4_38 : decode cJ6_bitCount_0f7a4 38 = .ok (.iushr, 1) := by decide +kernel
theorem dJ6_bitCount_0f7a4_39 : decode cJ6_bitCount_0f7a4 39 = .ok (.iadd, 1) := by decide +kernel
theorem dJ6_bitCount_0f7a4_40 : decode cJ6_bitCount_0f7a4 40 = .ok (.istore_n 0, 1) := by decide +kernel
theorem dJ6_bitCount_0f7a4_41 : decode cJ6_bitCount_0f7a4 41 = .ok (.iload_n 0, 1) := by decide +kernel
theorem dJ6_bitCount_0f7a4_42 : decode cJ6_bitCount_0f7a4 42 = .ok (.iload_n 0, 1) := by decide +kernel
theorem dJ6_bitCount_0f7a4_43 : decode cJ6_bitCount_0f7a4 43 = .ok (.bipush 16, 2) := by decide +kernel
theorem dJ6_bitCount_0f7a4_45 : decode cJ6_bitCount_0f7a4 45 = .ok (.iushr, 1) := by decide +kernel
theorem dJ6_bitCount_0f7a4_46 : decode cJ6_bitCount_0f7a4 46 = .ok (.iadd, 1) := by decide +kernel
theorem dJ6_bitCount_0f7a4_47 : decode cJ6_bitCount_0f7a4 47 = .ok (.istore_n 0, 1) := by decide +kernel
theorem dJ6_bitCount_0f7a4_48 : decode cJ6_bitCount_0f7a4 48 = .ok (.iload_n 0, 1) := by decide +kernel
theorem dJ6_bitCount_0f7a4_49 : decode cJ6_bitCount_0f7a4 49 = .ok (.bipush 63, 2) := by decide +kernel
theorem dJ6_bitCount_0f7a4_51 : decode cJ6_bitCount_0f7a4 51 = .ok (.iand, 1) := by decide +kernel
theorem dJ6_bitCount_0f7a4_52 : decode cJ6_bitCount_0f7a4 52 = .ok (.ireturn, 1) := by decide +kernel
theorem dJ9_max_7cf53_0 : decode cJ9_max_7cf53 0 = .ok (.iload_n 0, 1) := by decide +kernel
theorem dJ9_max_7cf53_1 : decode cJ9_max_7cf53 1 = .ok (.iload_n 1, 1) := by decide +kernel
theorem dJ9_max_7cf53_2 : decode cJ9_max_7cf53 2 = .ok (.if_icmp .lt 7, 3) := by decide +kernel
theorem dJ9_max_7cf53_5 : decode cJ9_max_7cf53 5 = .ok (.iload_n 0, 1) := by decide +kernel
theorem dJ9_max_7cf53_6 : decode cJ9_max_7cf53 6 = .ok (.goto 4, 3) := by decide +kernel
theorem dJ9_max_7cf53_9 : decode cJ9_max_7cf53 9 = .ok (.iload_n 1, 1) := by decide +kernel
theorem dJ9_max_7cf53_10 : decode cJ9_max_7cf53 10 = .ok (.ireturn, 1) := by decide +kernel
theorem dJ9_min_7cf53_0 : decode cJ9_min_7cf53 0 = .ok (.iload_n 0, 1) := by decide +kernel
theorem dJ9_min_7cf53_1 : decode cJ9_min_7cf53 1 = .ok (.iload_n 1, 1) := by decide +kernel
theorem dJ9_min_7cf53_2 : decode cJ9_min_7cf53 2 = .ok (.if_icmp .gt 7, 3) := by decide +kernel
theorem dJ9_min_7cf53_5 : decode cJ9_min_7cf53 5 = .ok (.iload_n 0, 1) := by decide +kernel
theorem dJ9_min_7cf53_6 : decode cJ9_min_7cf53 6 = .ok (.goto 4, 3) := by decide +kernel
theorem dJ9_min_7cf53_9 : decode cJ9_min_7cf53 9 = .ok (.iload_n 1, 1) := by decide +kernel
theorem dJ9_min_7cf53_10 : decode cJ9_min_7cf53 10 = .ok (.ireturn, 1) := by decide +kernel
theorem dJ7_fill_d0a16_0 : decode cJ7_fill_d0a16 0 = .ok (.iconst 0, 1) := by decide +kernel
theorem dJ7_fill_d0a16_1 : decode cJ7_fill_d0a16 1 = .ok (.istore_n 3, 1) := by decide +kernel
theorem dJ7_fill_d0a16_2 : decode cJ7_fill_d0a16 2 = .ok (.aload_n 0, 1) := by decide +kernel
theorem dJ7_fill_d0a16_3 : decode cJ7_fill_d0a16 3 = .ok (.arraylength, 1) := by decide +kernel
theorem dJ7_fill_d0a16_4 : decode cJ7_fill_d0a16 4 = .ok (.istore 4, 2) := by decide +kernel
theorem dJ7_fill_d0a16_6 : decode cJ7_fill_d0a16 6 = .ok (.iload_n 3, 1) := by decide +kernel
theorem dJ7_fill_d0a16_7 : decode cJ7_fill_d0a16 7 = .ok (.iload 4, 2) := by decide +kernel
theorem dJ7_fill_d0a16_9 : decode cJ7_fill_d0a16 9 = .ok (.if_icmp .ge 13, 3) := by decide +kernel
theorem dJ7_fill_d0a16_12 : decode cJ7_fill_d0a16 12 = .ok (.aload_n 0, 1) := by decide +kernel
theorem dJ7_fill_d0a16_13 : decode cJ7_fill_d0a16 13 = .ok (.iload_n 3, 1) := by decide +kernel
theorem dJ7_fill_d0a16_14 : decode cJ7_fill_d0a16 14 = .ok (.lload_n 1, 1) := by decide +kernel
theorem dJ7_fill_d0a16_15 : decode cJ7_fill_d0a16 15 = .ok (.lastore, 1) := by decide +kernel
theorem dJ7_fill_d0a16_16 : decode cJ7_fill_d0a16 16 = .ok (.iinc 3 1, 3) := by decide +kernel
theorem dJ7_fill_d0a16_19 : decode cJ7_fill_d0a16 19 = .ok (.goto (-13), 3) := by decide +kernel
theorem dJ7_fill_d0a16_22 : decode cJ7_fill_d0a16 22 = .ok (.return_, 1) := by decide +kernel
theorem dJ7_fill_53178_0 : decode cJ7_fill_53178 0 = .ok (.iconst 0, 1) := by decide +kernel
theorem dJ7_fill_53178_1 : decode cJ7_fill_53178 1 = .ok (.istore_n 2, 1) := by decide +kernel
theorem dJ7_fill_53178_2 : decode cJ7_fill_53178 2 = .ok (.aload_n 0, 1) := by decide +kernel
theorem dJ7_fill_53178_3 : decode cJ7_fill_53178 3 = .ok (.arraylength, 1) := by decide +kernel
theorem dJ7_fill_53178_4 : decode cJ7_fill_53178 4 = .ok (.istore_n 3, 1) := by decide +kernel
theorem dJ7_fill_53178_5 : decode cJ7_fill_53178 5 = .ok (.iload_n 2, 1) := by decide +kernel
theorem dJ7_fill_53178_6 : decode cJ7_fill_53178 6 = .ok (.iload_n 3, 1) := by decide +kernel
theorem dJ7_fill_53178_7 : decode cJ7_fill_53178 7 = .ok (.if_icmp .ge 13, 3) := by decide +kernel
theorem dJ7_fill_53178_10 : decode cJ7_fill_53178 10 = .ok (.aload_n 0, 1) := by decide +kernel
theorem dJ7_fill_53178_11 : decode cJ7_fill_53178 11 = .ok (.iload_n 2, 1) := by decide +kernel
theorem dJ7_fill_53178_12 : decode cJ7_fill_53178 12 = .ok (.iload_n 1, 1) := by decide +kernel
theorem dJ7_fill_53178_13 : decode cJ7_fill_53178 13 = .ok (.iastore, 1) := by decide +kernel
theorem dJ7_fill_53178_14 : decode cJ7_fill_53178 14 = .ok (.iinc 2 1, 3) := by decide +kernel
theorem dJ7_fill_53178_17 : decode cJ7_fill_53178 17 = .ok (.goto (-12), 3) := by decide +kernel
theorem dJ7_fill_53178_20 : decode cJ7_fill_53178 20 = .ok (.return_, 1) := by decide +kernel
theorem dL_law_0 : decode cL_law 0 = .ok (.new 7, 3) := by decide +kernel
theorem dL_law_3 : decode cL_law 3 = .ok (.dup, 1) := by decide +kernel
theorem dL_law_4 : decode cL_law 4 = .ok (.invokespecial 9, 3) := by decide +kernel
theorem dL_law_7 : decode cL_law 7 = .ok (.astore_n 1, 1) := by decide +kernel
theorem dL_law_8 : decode cL_law 8 = .ok (.new 10, 3) := by decide +kernel
theorem dL_law_11 : decode cL_law 11 = .ok (.dup, 1) := by decide +kernel
theorem dL_law_12 : decode cL_law 12 = .ok (.invokespecial 12, 3) := by decide +kernel
theorem dL_law_15 : decode cL_law 15 = .ok (.astore_n 2, 1) := by decide +kernel
theorem dL_law_16 : decode cL_law 16 = .ok (.iconst 0, 1) := by decide +kernel
theorem dL_law_17 : decode cL_law 17 = .ok (.istore_n 3, 1) := by decide +kernel
theorem dL_law_18 : decode cL_law 18 = .ok (.iload_n 3, 1) := by decide +kernel
theorem dL_law_19 : decode cL_law 19 = .ok (.aload_n 0, 1) := by decide +kernel
theorem dL_law_20 : decode cL_law 20 = .ok (.arraylength, 1) := by decide +kernel
theorem dL_law_21 : decode cL_law 21 = .ok (.bipush 7, 2) := by decide +kernel
theorem dL_law_23 : decode cL_law 23 = .ok (.isub, 1) := by decide +kernel
theorem dL_law_24 : decode cL_law 24 = .ok (.if_icmp .gt 1497, 3) := by decide +kernel
theorem dL_law_27 : decode cL_law 27 = .ok (.aload_n 0, 1) := by decide +kernel
theorem dL_law_28 : decode cL_law 28 = .ok (.iload_n 3, 1) := by decide +kernel
theorem dL_law_29 : decode cL_law 29 = .ok (.iaload, 1) := by decide +kernel
theorem dL_law_30 : decode cL_law 30 = .ok (.bipush 63, 2) := by decide +kernel
theorem dL_law_32 : decode cL_law 32 = .ok (.iand, 1) := by decide +kernel
theorem dL_law_33 : decode cL_law 33 = .ok (.tableswitch 1482 0 34 #[155, 178, 221, 264, 307, 370, 393, 416, 459, 502, 555, 608, 631, 664, 697, 730, 773, 806, 840, 853, 866, 909, 952, 1001, 1044, 1088, 1142, 1185, 1261, 1324, 1367, 1380, 1403, 1436, 1459], 155) := by decide +kernel
theorem dL_law_188 : decode cL_law 188 = .ok (.aload_n 1, 1) := by decide +kernel
theorem dL_law_189 : decode cL_law 189 = .ok (.aload_n 0, 1) := by decide +kernel
theorem dL_law_190 : decode cL_law 190 = .ok (.iload_n 3, 1) := by decide +kernel
theorem dL_law_191 : decode cL_law 191 = .ok (.iconst 1, 1) := by decide +kernel
theorem dL_law_192 : decode cL_law 192 = .ok (.iadd, 1) := by decide +kernel
theorem dL_law_193 : decode cL_law 193 = .ok (.iaload, 1) := by decide +kernel
theorem dL_law_194 : decode cL_law 194 = .ok (.invokevirtual 13, 3) := by decide +kernel
theorem dL_law_197 : decode cL_law 197 = .ok (.aload_n 2, 1) := by decide +kernel
theorem dL_law_198 : decode cL_law 198 = .ok (.aload_n 0, 1) := by decide +kernel
theorem dL_law_199 : decode cL_law 199 = .ok (.iload_n 3, 1) := by decide +kernel
theorem dL_law_200 : decode cL_law 200 = .ok (.iconst 1, 1) := by decide +kernel
theorem dL_law_201 : decode cL_law 201 = .ok (.iadd, 1) := by decide +kernel
theorem dL_law_202 : decode cL_law 202 = .ok (.iaload, 1) := by decide +kernel
theorem dL_law_203 : decode cL_law 203 = .ok (.invokevirtual 17, 3) := by decide +kernel
theorem dL_law_206 : decode cL_law 206 = .ok (.if_icmp .eq 1309, 3) := by decide +kernel
theorem dL_law_209 : decode cL_law 209 = .ok (.iconst 0, 1) := by decide +kernel
theorem dL_law_210 : decode cL_law 210 = .ok (.ireturn, 1) := by decide +kernel
theorem dL_law_211 : decode cL_law 211 = .ok (.aload_n 1, 1) := by decide +kernel
theorem dL_law_212 : decode cL_law 212 = .ok (.aload_n 0, 1) := by decide +kernel
theorem dL_law_213 : decode cL_law 213 = .ok (.iload_n 3, 1) := by decide +kernel
theorem dL_law_214 : decode cL_law 214 = .ok (.iconst 1, 1) := by decide +kernel
theorem dL_law_215 : decode cL_law 215 = .ok (.iadd, 1) := by decide +kernel
theorem dL_law_216 : decode cL_law 216 = .ok (.iaload, 1) := by decide +kernel
theorem dL_law_217 : decode cL_law 217 = .ok (.aload_n 0, 1) := by decide +kernel
theorem dL_law_218 : decode cL_law 218 = .ok (.iload_n 3, 1) := by decide +kernel
theorem dL_law_219 : decode cL_law 219 = .ok (.iconst 2, 1) := by decide +kernel
theorem dL_law_220 : decode cL_law 220 = .ok (.iadd, 1) := by decide +kernel
theorem dL_law_221 : decode cL_law 221 = .ok (.iaload, 1) := by decide +kernel
theorem dL_law_222 : decode cL_law 222 = .ok (.aload_n 0, 1) := by decide +kernel
theorem dL_law_223 : decode cL_law 223 = .ok (.iload_n 3, 1) := by decide +kernel
theorem dL_law_224 : decode cL_law 224 = .ok (.iconst 3, 1) := by decide +kernel
theorem dL_law_225 : decode cL_law 225 = .ok (.iadd, 1) := by decide +kernel
theorem dL_law_226 : decode cL_law 226 = .ok (.iaload, 1) := by decide +kernel
theorem dL_law_227 : decode cL_law 227 = .ok (.invokevirtual 18, 3) := by decide +kernel
theorem dL_law_230 : decode cL_law 230 = .ok (.aload_n 2, 1) := by decide +kernel
theorem dL_law_231 : decode cL_law 231 = .ok (.aload_n 0, 1) := by decide +kernel
theorem dL_law_232 : decode cL_law 232 = .ok (.iload_n 3, 1) := by decide +kernel
theorem dL_law_233 : decode cL_law 233 = .ok (.iconst 1, 1) := by decide +kernel
theorem dL_law_234 : decode cL_law 234 = .ok (.iadd, 1) := by decide +kernel
theorem dL_law_235 : decode cL_law 235 = .ok (.iaload, 1) := by decide +kernel
theorem dL_law_236 : decode cL_law 236 = .ok (.aload_n 0, 1) := by decide +kernel
theorem dL_law_237 : decode cL_law 237 = .ok (.iload_n 3, 1) := by decide +kernel
theorem dL_law_238 : decode cL_law 238 = .ok (.iconst 2, 1) := by decide +kernel
theorem dL_law_239 : decode cL_law 239 = .ok (.iadd, 1) := by decide +kernel
theorem dL_law_240 : decode cL_law 240 = .ok (.iaload, 1) := by decide +kernel
theorem dL_law_241 : decode cL_law 241 = .ok (.aload_n 0, 1) := by decide +kernel
theorem dL_law_242 : decode cL_law 242 = .ok (.iload_n 3, 1) := by decide +kernel
theorem dL_law_243 : decode cL_law 243 = .ok (.iconst 3, 1) := by decide +kernel
theorem dL_law_244 : decode cL_law 244 = .ok (.iadd, 1) := by decide +kernel
theorem dL_law_245 : decode cL_law 245 = .ok (.iaload, 1) := by decide +kernel
theorem dL_law_246 : decode cL_law 246 = .ok (.invokevirtual 22, 3) := by decide +kernel
theorem dL_law_249 : decode cL_law 249 = .ok (.if_icmp .eq 1266, 3) := by decide +kernel
theorem dL_law_252 : decode cL_law 252 = .ok (.iconst 0, 1) := by decide +kernel
theorem dL_law_253 : decode cL_law 253 = .ok (.ireturn, 1) := by decide +kernel
theorem dL_law_254 : decode cL_law 254 = .ok (.aload_n 1, 1) := by decide +kernel
theorem dL_law_255 : decode cL_law 255 = .ok (.aload_n 0, 1) := by decide +kernel
theorem dL_law_256 : decode cL_law 256 = .ok (.iload_n 3, 1) := by decide +kernel
theorem dL_law_257 : decode cL_law 257 = .ok (.iconst 1, 1) := by decide +kernel
theorem dL_law_258 : decode cL_law 258 = .ok (.iadd, 1) := by decide +kernel
theorem dL_law_259 : decode cL_law 259 = .ok (.iaload, 1) := by decide +kernel
theorem dL_law_260 : decode cL_law 260 = .ok (.aload_n 0, 1) := by decide +kernel
theorem dL_law_261 : decode cL_law 261 = .ok (.iload_n 3, 1) := by decide +kernel
theorem dL_law_262 : decode cL_law 262 = .ok (.iconst 2, 1) := by decide +kernel
theorem dL_law_263 : decode cL_law 263 = .ok (.iadd, 1) := by decide +kernel
theorem dL_law_264 : decode cL_law 264 = .ok (.iaload, 1) := by decide +kernel
theorem dL_law_265 : decode cL_law 265 = .ok (.aload_n 0, 1) := by decide +kernel
theorem dL_law_266 : decode cL_law 266 = .ok (.iload_n 3, 1) := by decide +kernel
theorem dL_law_267 : decode cL_law 267 = .ok (.iconst 3, 1) := by decide +kernel
theorem dL_law_268 : decode cL_law 268 = .ok (.iadd, 1) := by decide +kernel
theorem dL_law_269 : decode cL_law 269 = .ok (.iaload, 1) := by decide +kernel
theorem dL_law_270 : decode cL_law 270 = .ok (.invokevirtual 23, 3) := by decide +kernel
theorem dL_law_273 : decode cL_law 273 = .ok (.aload_n 2, 1) := by decide +kernel
theorem dL_law_274 : decode cL_law 274 = .ok (.aload_n 0, 1) := by decide +kernel
theorem dL_law_275 : decode cL_law 275 = .ok (.iload_n 3, 1) := by decide +kernel
theorem dL_law_276 : decode cL_law 276 = .ok (.iconst 1, 1) := by decide +kernel
theorem dL_law_277 : decode cL_law 277 = .ok (.iadd, 1) := by decide +kernel
theorem dL_law_278 : decode cL_law 278 = .ok (.iaload, 1) := by decide +kernel
theorem dL_law_279 : decode cL_law 279 = .ok (.aload_n 0, 1) := by decide +kernel
theorem dL_law_280 : decode cL_law 280 = .ok (.iload_n 3, 1) := by decide +kernel
theorem dL_law_281 : decode cL_law 281 = .ok (.iconst 2, 1) := by decide +kernel
theorem dL_law_282 : decode cL_law 282 = .ok (.iadd, 1) := by decide +kernel
theorem dL_law_283 : decode cL_law 283 = .ok (.iaload, 1) := by decide +kernel
theorem dL_law_284 : decode cL_law 284 = .ok (.aload_n 0, 1) := by decide +kernel
theorem dL_law_285 : decode cL_law 285 = .ok (.iload_n 3, 1) := by decide +kernel
theorem dL_law_286 : decode cL_law 286 = .ok (.iconst 3, 1) := by decide +kernel
theorem dL_law_287 : decode cL_law 287 = .ok (.iadd, 1) := by decide +kernel
theorem dL_law_288 : decode cL_law 288 = .ok (.iaload, 1) := by decide +kernel
theorem dL_law_289 : decode cL_law 289 = .ok (.invokevirtual 27, 3) := by decide +kernel
theorem dL_law_292 : decode cL_law 292 = .ok (.if_icmp .eq 1223, 3) := by decide +kernel
theorem dL_law_295 : decode cL_law 295 = .ok (.iconst 0, 1) := by decide +kernel
theorem dL_law_296 : decode cL_law 296 = .ok (.ireturn, 1) := by decide +kernel
theorem dL_law_297 : decode cL_law 297 = .ok (.aload_n 1, 1) := by decide +kernel
theorem dL_law_298 : decode cL_law 298 = .ok (.aload_n 0, 1) := by decide +kernel
theorem dL_law_299 : decode cL_law 299 = .ok (.iload_n 3, 1) := by decide +kernel
theorem dL_law_300 : decode cL_law 300 = .ok (.iconst 1, 1) := by decide +kernel
theorem dL_law_301 : decode cL_law 301 = .ok (.iadd, 1) := by decide +kernel
theorem dL_law_302 : decode cL_law 302 = .ok (.iaload, 1) := by decide +kernel
theorem dL_law_303 : decode cL_law 303 = .ok (.aload_n 0, 1) := by decide +kernel
theorem dL_law_304 : decode cL_law 304 = .ok (.iload_n 3, 1) := by decide +kernel
theorem dL_law_305 : decode cL_law 305 = .ok (.iconst 2, 1) := by decide +kernel
theorem dL_law_306 : decode cL_law 306 = .ok (.iadd, 1) := by decide +kernel
theorem dL_law_307 : decode cL_law 307 = .ok (.iaload, 1) := by decide +kernel
theorem dL_law_308 : decode cL_law 308 = .ok (.aload_n 0, 1) := by decide +kernel
theorem dL_law_309 : decode cL_law 309 = .ok (.iload_n 3, 1) := by decide +kernel
theorem dL_law_310 : decode cL_law 310 = .ok (.iconst 3, 1) := by decide +kernel
theorem dL_law_311 : decode cL_law 311 = .ok (.iadd, 1) := by decide +kernel
theorem dL_law_312 : decode cL_law 312 = .ok (.iaload, 1) := by decide +kernel
theorem dL_law_313 : decode cL_law 313 = .ok (.invokevirtual 28, 3) := by decide +kernel
theorem dL_law_316 : decode cL_law 316 = .ok (.aload_n 2, 1) := by decide +kernel
theorem dL_law_317 : decode cL_law 317 = .ok (.aload_n 0, 1) := by decide +kernel
theorem dL_law_318 : decode cL_law 318 = .ok (.iload_n 3, 1) := by decide +kernel
theorem dL_law_319 : decode cL_law 319 = .ok (.iconst 1, 1) := by decide +kernel
theorem dL_law_320 : decode cL_law 320 = .ok (.iadd, 1) := by decide +kernel
theorem dL_law_321 : decode cL_law 321 = .ok (.iaload, 1) := by decide +kernel
theorem dL_law_322 : decode cL_law 322 = .ok (.aload_n 0, 1) := by decide +kernel
theorem dL_law_323 : decode cL_law 323 = .ok (.iload_n 3, 1) := by decide +kernel
theorem dL_law_324 : decode cL_law 324 = .ok (.iconst 2, 1) := by decide +kernel
theorem dL_law_325 : decode cL_law 325 = .ok (.iadd, 1) := by decide +kernel
theorem dL_law_326 : decode cL_law 326 = .ok (.iaload, 1) := by decide +kernel
theorem dL_law_327 : decode cL_law 327 = .ok (.aload_n 0, 1) := by decide +kernel
theorem dL_law_328 : decode cL_law 328 = .ok (.iload_n 3, 1) := by decide +kernel
theorem dL_law_329 : decode cL_law 329 = .ok (.iconst 3, 1) := by decide +kernel
theorem dL_law_330 : decode cL_law 330 = .ok (.iadd, 1) := by decide +kernel
theorem dL_law_331 : decode cL_law 331 = .ok (.iaload, 1) := by decide +kernel
theorem dL_law_332 : decode cL_law 332 = .ok (.invokevirtual 31, 3) := by decide +kernel
theorem dL_law_335 : decode cL_law 335 = .ok (.if_icmp .eq 1180, 3) := by decide +kernel
theorem dL_law_338 : decode cL_law 338 = .ok (.iconst 0, 1) := by decide +kernel
theorem dL_law_339 : decode cL_law 339 = .ok (.ireturn, 1) := by decide +kernel
theorem dL_law_340 : decode cL_law 340 = .ok (.aload_n 1, 1) := by decide +kernel
theorem dL_law_341 : decode cL_law 341 = .ok (.aload_n 0, 1) := by decide +kernel
theorem dL_law_342 : decode cL_law 342 = .ok (.iload_n 3, 1) := by decide +kernel
theorem dL_law_343 : decode cL_law 343 = .ok (.iconst 1, 1) := by decide +kernel
theorem dL_law_344 : decode cL_law 344 = .ok (.iadd, 1) := by decide +kernel
theorem dL_law_345 : decode cL_law 345 = .ok (.iaload, 1) := by decide +kernel
theorem dL_law_346 : decode cL_law 346 = .ok (.aload_n 0, 1) := by decide +kernel
theorem dL_law_347 : decode cL_law 347 = .ok (.iload_n 3, 1) := by decide +kernel
theorem dL_law_348 : decode cL_law 348 = .ok (.iconst 2, 1) := by decide +kernel
theorem dL_law_349 : decode cL_law 349 = .ok (.iadd, 1) := by decide +kernel
theorem dL_law_350 : decode cL_law 350 = .ok (.iaload, 1) := by decide +kernel
theorem dL_law_351 : decode cL_law 351 = .ok (.aload_n 0, 1) := by decide +kernel
theorem dL_law_352 : decode cL_law 352 = .ok (.iload_n 3, 1) := by decide +kernel
theorem dL_law_353 : decode cL_law 353 = .ok (.iconst 3, 1) := by decide +kernel
theorem dL_law_354 : decode cL_law 354 = .ok (.iadd, 1) := by decide +kernel
theorem dL_law_355 : decode cL_law 355 = .ok (.iaload, 1) := by decide +kernel
theorem dL_law_356 : decode cL_law 356 = .ok (.aload_n 0, 1) := by decide +kernel
theorem dL_law_357 : decode cL_law 357 = .ok (.iload_n 3, 1) := by decide +kernel
theorem dL_law_358 : decode cL_law 358 = .ok (.iconst 4, 1) := by decide +kernel
theorem dL_law_359 : decode cL_law 359 = .ok (.iadd, 1) := by decide +kernel
theorem dL_law_360 : decode cL_law 360 = .ok (.iaload, 1) := by decide +kernel
theorem dL_law_361 : decode cL_law 361 = .ok (.aload_n 0, 1) := by decide +kernel
theorem dL_law_362 : decode cL_law 362 = .ok (.iload_n 3, 1) := by decide +kernel
theorem dL_law_363 : decode cL_law 363 = .ok (.iconst 5, 1) := by decide +kernel
theorem dL_law_364 : decode cL_law 364 = .ok (.iadd, 1) := by decide +kernel
theorem dL_law_365 : decode cL_law 365 = .ok (.iaload, 1) := by decide +kernel
theorem dL_law_366 : decode cL_law 366 = .ok (.invokevirtual 32, 3) := by decide +kernel
theorem dL_law_369 : decode cL_law 369 = .ok (.aload_n 2, 1) := by decide +kernel
theorem dL_law_370 : decode cL_law 370 = .ok (.aload_n 0, 1) := by decide +kernel
theorem dL_law_371 : decode cL_law 371 = .ok (.iload_n 3, 1) := by decide +kernel
theorem dL_law_372 : decode cL_law 372 = .ok (.iconst 1, 1) := by decide +kernel
theorem dL_law_373 : decode cL_law 373 = .ok (.iadd, 1) := by decide +kernel
theorem dL_law_374 : decode cL_law 374 = .ok (.iaload, 1) := by decide +kernel
theorem dL_law_375 : decode cL_law 375 = .ok (.aload_n 0, 1) := by decide +kernel
theorem dL_law_376 : decode cL_law 376 = .ok (.iload_n 3, 1) := by decide +kernel
theorem dL_law_377 : decode cL_law 377 = .ok (.iconst 2, 1) := by decide +kernel
theorem dL_law_378 : decode cL_law 378 = .ok (.iadd, 1) := by decide +kernel
theorem dL_law_379 : decode cL_law 379 = .ok (.iaload, 1) := by decide +kernel
theorem dL_law_380 : decode cL_law 380 = .ok (.aload_n 0, 1) := by decide +kernel
theorem dL_law_381 : decode cL_law 381 = .ok (.iload_n 3, 1) := by decide +kernel
theorem dL_law_382 : decode cL_law 382 = .ok (.iconst 3, 1) := by decide +kernel
theorem dL_law_383 : decode cL_law 383 = .ok (.iadd, 1) := by decide +kernel
theorem dL_law_384 : decode cL_law 384 = .ok (.iaload, 1) := by decide +kernel
theorem dL_law_385 : decode cL_law 385 = .ok (.aload_n 0, 1) := by decide +kernel
theorem dL_law_386 : decode cL_law 386 = .ok (.iload_n 3, 1) := by decide +kernel
theorem dL_law_387 : decode cL_law 387 = .ok (.iconst 4, 1) := by decide +kernel
theorem dL_law_388 : decode cL_law 388 = .ok (.iadd, 1) := by decide +kernel
theorem dL_law_389 : decode cL_law 389 = .ok (.iaload, 1) := by decide +kernel
theorem dL_law_390 : decode cL_law 390 = .ok (.aload_n 0, 1) := by decide +kernel
theorem dL_law_391 : decode cL_law 391 = .ok (.iload_n 3, 1) := by decide +kernel
theorem dL_law_392 : decode cL_law 392 = .ok (.iconst 5, 1) := by decide +kernel
theorem dL_law_393 : decode cL_law 393 = .ok (.iadd, 1) := by decide +kernel
theorem dL_law_394 : decode cL_law 394 = .ok (.iaload, 1) := by decide +kernel
theorem dL_law_395 : decode cL_law 395 = .ok (.invokevirtual 36, 3) := by decide +kernel
theorem dL_law_398 : decode cL_law 398 = .ok (.if_icmp .eq 1117, 3) := by decide +kernel
theorem dL_law_401 : decode cL_law 401 = .ok (.iconst 0, 1) := by decide +kernel
theorem dL_law_402 : decode cL_law 402 = .ok (.ireturn, 1) := by decide +kernel
theorem dL_law_403 : decode cL_law 403 = .ok (.aload_n 1, 1) := by decide +kernel
theorem dL_law_404 : decode cL_law 404 = .ok (.aload_n 0, 1) := by decide +kernel
theorem dL_law_405 : decode cL_law 405 = .ok (.iload_n 3, 1) := by decide +kernel
theorem dL_law_406 : decode cL_law 406 = .ok (.iconst 1, 1) := by decide +kernel
theorem dL_law_407 : decode cL_law 407 = .ok (.iadd, 1) := by decide +kernel
theorem dL_law_408 : decode cL_law 408 = .ok (.iaload, 1) := by decide +kernel
theorem dL_law_409 : decode cL_law 409 = .ok (.invokevirtual 37, 3) := by decide +kernel
theorem dL_law_412 : decode cL_law 412 = .ok (.aload_n 2, 1) := by decide +kernel
theorem dL_law_413 : decode cL_law 413 = .ok (.aload_n 0, 1) := by decide +kernel
theorem dL_law_414 : decode cL_law 414 = .ok (.iload_n 3, 1) := by decide +kernel
theorem dL_law_415 : decode cL_law 415 = .ok (.iconst 1, 1) := by decide +kernel
theorem dL_law_416 : decode cL_law 416 = .ok (.iadd, 1) := by decide +kernel
theorem dL_law_417 : decode cL_law 417 = .ok (.iaload, 1) := by decide +kernel
theorem dL_law_418 : decode cL_law 418 = .ok (.invokevirtual 41, 3) := by decide +kernel
theorem dL_law_421 : decode cL_law 421 = .ok (.if_icmp .eq 1094, 3) := by decide +kernel
theorem dL_law_424 : decode cL_law 424 = .ok (.iconst 0, 1) := by decide +kernel
theorem dL_law_425 : decode cL_law 425 = .ok (.ireturn, 1) := by decide +kernel
theorem dL_law_426 : decode cL_law 426 = .ok (.aload_n 1, 1) := by decide +kernel
theorem dL_law_427 : decode cL_law 427 = .ok (.aload_n 0, 1) := by decide +kernel
theorem dL_law_428 : decode cL_law 428 = .ok (.iload_n 3, 1) := by decide +kernel
theorem dL_law_429 : decode cL_law 429 = .ok (.iconst 1, 1) := by decide +kernel
theorem dL_law_430 : decode cL_law 430 = .ok (.iadd, 1) := by decide +kernel
theorem dL_law_431 : decode cL_law 431 = .ok (.iaload, 1) := by decide +kernel
theorem dL_law_432 : decode cL_law 432 = .ok (.invokevirtual 42, 3) := by decide +kernel
theorem dL_law_435 : decode cL_law 435 = .ok (.aload_n 2, 1) := by decide +kernel
theorem dL_law_436 : decode cL_law 436 = .ok (.aload_n 0, 1) := by decide +kernel
theorem dL_law_437 : decode cL_law 437 = .ok (.iload_n 3, 1) := by decide +kernel
theorem dL_law_438 : decode cL_law 438 = .ok (.iconst 1, 1) := by decide +kernel
theorem dL_law_439 : decode cL_law 439 = .ok (.iadd, 1) := by decide +kernel
theorem dL_law_440 : decode cL_law 440 = .ok (.iaload, 1) := by decide +kernel
theorem dL_law_441 : decode cL_law 441 = .ok (.invokevirtual 45, 3) := by decide +kernel
theorem dL_law_444 : decode cL_law 444 = .ok (.if_icmp .eq 1071, 3) := by decide +kernel
theorem dL_law_447 : decode cL_law 447 = .ok (.iconst 0, 1) := by decide +kernel
theorem dL_law_448 : decode cL_law 448 = .ok (.ireturn, 1) := by decide +kernel
theorem dL_law_449 : decode cL_law 449 = .ok (.aload_n 1, 1) := by decide +kernel
theorem dL_law_450 : decode cL_law 450 = .ok (.aload_n 0, 1) := by decide +kernel
theorem dL_law_451 : decode cL_law 451 = .ok (.iload_n 3, 1) := by decide +kernel
theorem dL_law_452 : decode cL_law 452 = .ok (.iconst 1, 1) := by decide +kernel
theorem dL_law_453 : decode cL_law 453 = .ok (.iadd, 1) := by decide +kernel
theorem dL_law_454 : decode cL_law 454 = .ok (.iaload, 1) := by decide +kernel
theorem dL_law_455 : decode cL_law 455 = .ok (.aload_n 0, 1) := by decide +kernel
theorem dL_law_456 : decode cL_law 456 = .ok (.iload_n 3, 1) := by decide +kernel
theorem dL_law_457 : decode cL_law 457 = .ok (.iconst 2, 1) := by decide +kernel
theorem dL_law_458 : decode cL_law 458 = .ok (.iadd, 1) := by decide +kernel
theorem dL_law_459 : decode cL_law 459 = .ok (.iaload, 1) := by decide +kernel
theorem dL_law_460 : decode cL_law 460 = .ok (.aload_n 0, 1) := by decide +kernel
theorem dL_law_461 : decode cL_law 461 = .ok (.iload_n 3, 1) := by decide +kernel
theorem dL_law_462 : decode cL_law 462 = .ok (.iconst 3, 1) := by decide +kernel
theorem dL_law_463 : decode cL_law 463 = .ok (.iadd, 1) := by decide +kernel
theorem dL_law_464 : decode cL_law 464 = .ok (.iaload, 1) := by decide +kernel
theorem dL_law_465 : decode cL_law 465 = .ok (.invokevirtual 46, 3) := by decide +kernel
theorem dL_law_468 : decode cL_law 468 = .ok (.aload_n 2, 1) := by decide +kernel
theorem dL_law_469 : decode cL_law 469 = .ok (.aload_n 0, 1) := by decide +kernel
theorem dL_law_470 : decode cL_law 470 = .ok (.iload_n 3, 1) := by decide +kernel
theorem dL_law_471 : decode cL_law 471 = .ok (.iconst 1, 1) := by decide +kernel
theorem dL_law_472 : decode cL_law 472 = .ok (.iadd, 1) := by decide +kernel
theorem dL_law_473 : decode cL_law 473 = .ok (.iaload, 1) := by decide +kernel
theorem dL_law_474 : decode cL_law 474 = .ok (.aload_n 0, 1) := by decide +kernel
theorem dL_law_475 : decode cL_law 475 = .ok (.iload_n 3, 1) := by decide +kernel
theorem dL_law_476 : decode cL_law 476 = .ok (.iconst 2, 1) := by decide +kernel
theorem dL_law_477 : decode cL_law 477 = .ok (.iadd, 1) := by decide +kernel
theorem dL_law_478 : decode cL_law 478 = .ok (.iaload, 1) := by decide +kernel
theorem dL_law_479 : decode cL_law 479 = .ok (.aload_n 0, 1) := by decide +kernel
theorem dL_law_480 : decode cL_law 480 = .ok (.iload_n 3, 1) := by decide +kernel
theorem dL_law_481 : decode cL_law 481 = .ok (.iconst 3, 1) := by decide +kernel
theorem dL_law_482 : decode cL_law 482 = .ok (.iadd, 1) := by decide +kernel
theorem dL_law_483 : decode cL_law 483 = .ok (.iaload, 1) := by decide +kernel
theorem dL_law_484 : decode cL_law 484 = .ok (.invokevirtual 49, 3) := by decide +kernel
theorem dL_law_487 : decode cL_law 487 = .ok (.if_icmp .eq 1028, 3) := by decide +kernel
theorem dL_law_490 : decode cL_law 490 = .ok (.iconst 0, 1) := by decide +kernel
theorem dL_law_491 : decode cL_law 491 = .ok (.ireturn, 1) := by decide +kernel
theorem dL_law_492 : decode cL_law 492 = .ok (.aload_n 1, 1) := by decide +kernel
theorem dL_law_493 : decode cL_law 493 = .ok (.aload_n 0, 1) := by decide +kernel
theorem dL_law_494 : decode cL_law 494 = .ok (.iload_n 3, 1) := by decide +kernel
theorem dL_law_495 : decode cL_law 495 = .ok (.iconst 1, 1) := by decide +kernel
theorem dL_law_496 : decode cL_law 496 = .ok (.iadd, 1) := by decide +kernel
theorem dL_law_497 : decode cL_law 497 = .ok (.iaload, 1) := by decide +kernel
theorem dL_law_498 : decode cL_law 498 = .ok (.aload_n 0, 1) := by decide +kernel
theorem dL_law_499 : decode cL_law 499 = .ok (.iload_n 3, 1) := by decide +kernel
theorem dL_law_500 : decode cL_law 500 = .ok (.iconst 2, 1) := by decide +kernel
theorem dL_law_501 : decode cL_law 501 = .ok (.iadd, 1) := by decide +kernel
theorem dL_law_502 : decode cL_law 502 = .ok (.iaload, 1) := by decide +kernel
theorem dL_law_503 : decode cL_law 503 = .ok (.aload_n 0, 1) := by decide +kernel
theorem dL_law_504 : decode cL_law 504 = .ok (.iload_n 3, 1) := by decide +kernel
theorem dL_law_505 : decode cL_law 505 = .ok (.iconst 3, 1) := by decide +kernel
theorem dL_law_506 : decode cL_law 506 = .ok (.iadd, 1) := by decide +kernel
theorem dL_law_507 : decode cL_law 507 = .ok (.iaload, 1) := by decide +kernel
theorem dL_law_508 : decode cL_law 508 = .ok (.invokevirtual 50, 3) := by decide +kernel
theorem dL_law_511 : decode cL_law 511 = .ok (.aload_n 2, 1) := by decide +kernel
theorem dL_law_512 : decode cL_law 512 = .ok (.aload_n 0, 1) := by decide +kernel
theorem dL_law_513 : decode cL_law 513 = .ok (.iload_n 3, 1) := by decide +kernel
theorem dL_law_514 : decode cL_law 514 = .ok (.iconst 1, 1) := by decide +kernel
theorem dL_law_515 : decode cL_law 515 = .ok (.iadd, 1) := by decide +kernel
theorem dL_law_516 : decode cL_law 516 = .ok (.iaload, 1) := by decide +kernel
theorem dL_law_517 : decode cL_law 517 = .ok (.aload_n 0, 1) := by decide +kernel
theorem dL_law_518 : decode cL_law 518 = .ok (.iload_n 3, 1) := by decide +kernel
theorem dL_law_519 : decode cL_law 519 = .ok (.iconst 2, 1) := by decide +kernel
theorem dL_law_520 : decode cL_law 520 = .ok (.iadd, 1) := by decide +kernel
theorem dL_law_521 : decode cL_law 521 = .ok (.iaload, 1) := by decide +kernel
theorem dL_law_522 : decode cL_law 522 = .ok (.aload_n 0, 1) := by decide +kernel
theorem dL_law_523 : decode cL_law 523 = .ok (.iload_n 3, 1) := by decide +kernel
theorem dL_law_524 : decode cL_law 524 = .ok (.iconst 3, 1) := by decide +kernel
theorem dL_law_525 : decode cL_law 525 = .ok (.iadd, 1) := by decide +kernel
theorem dL_law_526 : decode cL_law 526 = .ok (.iaload, 1) := by decide +kernel
theorem dL_law_527 : decode cL_law 527 = .ok (.invokevirtual 53, 3) := by decide +kernel
theorem dL_law_530 : decode cL_law 530 = .ok (.if_icmp .eq 985, 3) := by decide +kernel
theorem dL_law_533 : decode cL_law 533 = .ok (.iconst 0, 1) := by decide +kernel
theorem dL_law_534 : decode cL_law 534 = .ok (.ireturn, 1) := by decide +kernel
theorem dL_law_535 : decode cL_law 535 = .ok (.aload_n 1, 1) := by decide +kernel
theorem dL_law_536 : decode cL_law 536 = .ok (.aload_n 0, 1) := by decide +kernel
theorem dL_law_537 : decode cL_law 537 = .ok (.iload_n 3, 1) := by decide +kernel
theorem dL_law_538 : decode cL_law 538 = .ok (.iconst 1, 1) := by decide +kernel
theorem dL_law_539 : decode cL_law 539 = .ok (.iadd, 1) := by decide +kernel
theorem dL_law_540 : decode cL_law 540 = .ok (.iaload, 1) := by decide +kernel
theorem dL_law_541 : decode cL_law 541 = .ok (.aload_n 0, 1) := by decide +kernel
theorem dL_law_542 : decode cL_law 542 = .ok (.iload_n 3, 1) := by decide +kernel
theorem dL_law_543 : decode cL_law 543 = .ok (.iconst 2, 1) := by decide +kernel
theorem dL_law_544 : decode cL_law 544 = .ok (.iadd, 1) := by decide +kernel
theorem dL_law_545 : decode cL_law 545 = .ok (.iaload, 1) := by decide +kernel
theorem dL_law_546 : decode cL_law 546 = .ok (.aload_n 0, 1) := by decide +kernel
theorem dL_law_547 : decode cL_law 547 = .ok (.iload_n 3, 1) := by decide +kernel
theorem dL_law_548 : decode cL_law 548 = .ok (.iconst 3, 1) := by decide +kernel
theorem dL_law_549 : decode cL_law 549 = .ok (.iadd, 1) := by decide +kernel
theorem dL_law_550 : decode cL_law 550 = .ok (.iaload, 1) := by decide +kernel
theorem dL_law_551 : decode cL_law 551 = .ok (.aload_n 0, 1) := by decide +kernel
theorem dL_law_552 : decode cL_law 552 = .ok (.iload_n 3, 1) := by decide +kernel
theorem dL_law_553 : decode cL_law 553 = .ok (.iconst 4, 1) := by decide +kernel
theorem dL_law_554 : decode cL_law 554 = .ok (.iadd, 1) := by decide +kernel
theorem dL_law_555 : decode cL_law 555 = .ok (.iaload, 1) := by decide +kernel
theorem dL_law_556 : decode cL_law 556 = .ok (.invokevirtual 54, 3) := by decide +kernel
theorem dL_law_559 : decode cL_law 559 = .ok (.aload_n 2, 1) := by decide +kernel
theorem dL_law_560 : decode cL_law 560 = .ok (.aload_n 0, 1) := by decide +kernel
theorem dL_law_561 : decode cL_law 561 = .ok (.iload_n 3, 1) := by decide +kernel
theorem dL_law_562 : decode cL_law 562 = .ok (.iconst 1, 1) := by decide +kernel
theorem dL_law_563 : decode cL_law 563 = .ok (.iadd, 1) := by decide +kernel
theorem dL_law_564 : decode cL_law 564 = .ok (.iaload, 1) := by decide +kernel
theorem dL_law_565 : decode cL_law 565 = .ok (.aload_n 0, 1) := by decide +kernel
theorem dL_law_566 : decode cL_law 566 = .ok (.iload_n 3, 1) := by decide +kernel
theorem dL_law_567 : decode cL_law 567 = .ok (.iconst 2, 1) := by decide +kernel
theorem dL_law_568 : decode cL_law 568 = .ok (.iadd, 1) := by decide +kernel
theorem dL_law_569 : decode cL_law 569 = .ok (.iaload, 1) := by decide +kernel
theorem dL_law_570 : decode cL_law 570 = .ok (.aload_n 0, 1) := by decide +kernel
theorem dL_law_571 : decode cL_law 571 = .ok (.iload_n 3, 1) := by decide +kernel
theorem dL_law_572 : decode cL_law 572 = .ok (.iconst 3, 1) := by decide +kernel
theorem dL_law_573 : decode cL_law 573 = .ok (.iadd, 1) := by decide +kernel
theorem dL_law_574 : decode cL_law 574 = .ok (.iaload, 1) := by decide +kernel
theorem dL_law_575 : decode cL_law 575 = .ok (.aload_n 0, 1) := by decide +kernel
theorem dL_law_576 : decode cL_law 576 = .ok (.iload_n 3, 1) := by decide +kernel
theorem dL_law_577 : decode cL_law 577 = .ok (.iconst 4, 1) := by decide +kernel
theorem dL_law_578 : decode cL_law 578 = .ok (.iadd, 1) := by decide +kernel
theorem dL_law_579 : decode cL_law 579 = .ok (.iaload, 1) := by decide +kernel
theorem dL_law_580 : decode cL_law 580 = .ok (.invokevirtual 58, 3) := by decide +kernel
theorem dL_law_583 : decode cL_law 583 = .ok (.if_icmp .eq 932, 3) := by decide +kernel
theorem dL_law_586 : decode cL_law 586 = .ok (.iconst 0, 1) := by decide +kernel
theorem dL_law_587 : decode cL_law 587 = .ok (.ireturn, 1) := by decide +kernel
theorem dL_law_588 : decode cL_law 588 = .ok (.aload_n 1, 1) := by decide +kernel
theorem dL_law_589 : decode cL_law 589 = .ok (.aload_n 0, 1) := by decide +kernel
theorem dL_law_590 : decode cL_law 590 = .ok (.iload_n 3, 1) := by decide +kernel
theorem dL_law_591 : decode cL_law 591 = .ok (.iconst 1, 1) := by decide +kernel
theorem dL_law_592 : decode cL_law 592 = .ok (.iadd, 1) := by decide +kernel
theorem dL_law_593 : decode cL_law 593 = .ok (.iaload, 1) := by decide +kernel
theorem dL_law_594 : decode cL_law 594 = .ok (.aload_n 0, 1) := by decide +kernel
theorem dL_law_595 : decode cL_law 595 = .ok (.iload_n 3, 1) := by decide +kernel
theorem dL_law_596 : decode cL_law 596 = .ok (.iconst 2, 1) := by decide +kernel
theorem dL_law_597 : decode cL_law 597 = .ok (.iadd, 1) := by decide +kernel
theorem dL_law_598 : decode cL_law 598 = .ok (.iaload, 1) := by decide +kernel
theorem dL_law_599 : decode cL_law 599 = .ok (.aload_n 0, 1) := by decide +kernel
theorem dL_law_600 : decode cL_law 600 = .ok (.iload_n 3, 1) := by decide +kernel
theorem dL_law_601 : decode cL_law 601 = .ok (.iconst 3, 1) := by decide +kernel
theorem dL_law_602 : decode cL_law 602 = .ok (.iadd, 1) := by decide +kernel
theorem dL_law_603 : decode cL_law 603 = .ok (.iaload, 1) := by decide +kernel
theorem dL_law_604 : decode cL_law 604 = .ok (.aload_n 0, 1) := by decide +kernel
theorem dL_law_605 : decode cL_law 605 = .ok (.iload_n 3, 1) := by decide +kernel
theorem dL_law_606 : decode cL_law 606 = .ok (.iconst 4, 1) := by decide +kernel
theorem dL_law_607 : decode cL_law 607 = .ok (.iadd, 1) := by decide +kernel
theorem dL_law_608 : decode cL_law 608 = .ok (.iaload, 1) := by decide +kernel
theorem dL_law_609 : decode cL_law 609 = .ok (.invokevirtual 59, 3) := by decide +kernel
theorem dL_law_612 : decode cL_law 612 = .ok (.aload_n 2, 1) := by decide +kernel
theorem dL_law_613 : decode cL_law 613 = .ok (.aload_n 0, 1) := by decide +kernel
theorem dL_law_614 : decode cL_law 614 = .ok (.iload_n 3, 1) := by decide +kernel
theorem dL_law_615 : decode cL_law 615 = .ok (.iconst 1, 1) := by decide +kernel
theorem dL_law_616 : decode cL_law 616 = .ok (.iadd, 1) := by decide +kernel
theorem dL_law_617 : decode cL_law 617 = .ok (.iaload, 1) := by decide +kernel
theorem dL_law_618 : decode cL_law 618 = .ok (.aload_n 0, 1) := by decide +kernel
theorem dL_law_619 : decode cL_law 619 = .ok (.iload_n 3, 1) := by decide +kernel
theorem dL_law_620 : decode cL_law 620 = .ok (.iconst 2, 1) := by decide +kernel
theorem dL_law_621 : decode cL_law 621 = .ok (.iadd, 1) := by decide +kernel
theorem dL_law_622 : decode cL_law 622 = .ok (.iaload, 1) := by decide +kernel
theorem dL_law_623 : decode cL_law 623 = .ok (.aload_n 0, 1) := by decide +kernel
theorem dL_law_624 : decode cL_law 624 = .ok (.iload_n 3, 1) := by decide +kernel
theorem dL_law_625 : decode cL_law 625 = .ok (.iconst 3, 1) := by decide +kernel
theorem dL_law_626 : decode cL_law 626 = .ok (.iadd, 1) := by decide +kernel
theorem dL_law_627 : decode cL_law 627 = .ok (.iaload, 1) := by decide +kernel
theorem dL_law_628 : decode cL_law 628 = .ok (.aload_n 0, 1) := by decide +kernel
theorem dL_law_629 : decode cL_law 629 = .ok (.iload_n 3, 1) := by decide +kernel
theorem dL_law_630 : decode cL_law 630 = .ok (.iconst 4, 1) := by decide +kernel
theorem dL_law_631 : decode cL_law 631 = .ok (.iadd, 1) := by decide +kernel
theorem dL_law_632 : decode cL_law 632 = .ok (.iaload, 1) := by decide +kernel
theorem dL_law_633 : decode cL_law 633 = .ok (.invokevirtual 62, 3) := by decide +kernel
theorem dL_law_636 : decode cL_law 636 = .ok (.if_icmp .eq 879, 3) := by decide +kernel
theorem dL_law_639 : decode cL_law 639 = .ok (.iconst 0, 1) := by decide +kernel
theorem dL_law_640 : decode cL_law 640 = .ok (.ireturn, 1) := by decide +kernel
theorem dL_law_641 : decode cL_law 641 = .ok (.aload_n 1, 1) := by decide +kernel
theorem dL_law_642 : decode cL_law 642 = .ok (.aload_n 0, 1) := by decide +kernel
theorem dL_law_643 : decode cL_law 643 = .ok (.iload_n 3, 1) := by decide +kernel
theorem dL_law_644 : decode cL_law 644 = .ok (.iconst 1, 1) := by decide +kernel
theorem dL_law_645 : decode cL_law 645 = .ok (.iadd, 1) := by decide +kernel
theorem dL_law_646 : decode cL_law 646 = .ok (.iaload, 1) := by decide +kernel
theorem dL_law_647 : decode cL_law 647 = .ok (.invokevirtual 63, 3) := by decide +kernel
theorem dL_law_650 : decode cL_law 650 = .ok (.aload_n 2, 1) := by decide +kernel
theorem dL_law_651 : decode cL_law 651 = .ok (.aload_n 0, 1) := by decide +kernel
theorem dL_law_652 : decode cL_law 652 = .ok (.iload_n 3, 1) := by decide +kernel
theorem dL_law_653 : decode cL_law 653 = .ok (.iconst 1, 1) := by decide +kernel
theorem dL_law_654 : decode cL_law 654 = .ok (.iadd, 1) := by decide +kernel
theorem dL_law_655 : decode cL_law 655 = .ok (.iaload, 1) := by decide +kernel
theorem dL_law_656 : decode cL_law 656 = .ok (.invokevirtual 66, 3) := by decide +kernel
theorem dL_law_659 : decode cL_law 659 = .ok (.if_icmp .eq 856, 3) := by decide +kernel
theorem dL_law_662 : decode cL_law 662 = .ok (.iconst 0, 1) := by decide +kernel
theorem dL_law_663 : decode cL_law 663 = .ok (.ireturn, 1) := by decide +kernel
theorem dL_law_664 : decode cL_law 664 = .ok (.aload_n 1, 1) := by decide +kernel
theorem dL_law_665 : decode cL_law 665 = .ok (.aload_n 0, 1) := by decide +kernel
theorem dL_law_666 : decode cL_law 666 = .ok (.iload_n 3, 1) := by decide +kernel
theorem dL_law_667 : decode cL_law 667 = .ok (.iconst 1, 1) := by decide +kernel
theorem dL_law_668 : decode cL_law 668 = .ok (.iadd, 1) := by decide +kernel
theorem dL_law_669 : decode cL_law 669 = .ok (.iaload, 1) := by decide +kernel
theorem dL_law_670 : decode cL_law 670 = .ok (.aload_n 0, 1) := by decide +kernel
theorem dL_law_671 : decode cL_law 671 = .ok (.iload_n 3, 1) := by decide +kernel
theorem dL_law_672 : decode cL_law 672 = .ok (.iconst 2, 1) := by decide +kernel
theorem dL_law_673 : decode cL_law 673 = .ok (.iadd, 1) := by decide +kernel
theorem dL_law_674 : decode cL_law 674 = .ok (.iaload, 1) := by decide +kernel
theorem dL_law_675 : decode cL_law 675 = .ok (.invokevirtual 67, 3) := by decide +kernel
theorem dL_law_678 : decode cL_law 678 = .ok (.aload_n 2, 1) := by decide +kernel
theorem dL_law_679 : decode cL_law 679 = .ok (.aload_n 0, 1) := by decide +kernel
theorem dL_law_680 : decode cL_law 680 = .ok (.iload_n 3, 1) := by decide +kernel
theorem dL_law_681 : decode cL_law 681 = .ok (.iconst 1, 1) := by decide +kernel
theorem dL_law_682 : decode cL_law 682 = .ok (.iadd, 1) := by decide +kernel
theorem dL_law_683 : decode cL_law 683 = .ok (.iaload, 1) := by decide +kernel
theorem dL_law_684 : decode cL_law 684 = .ok (.aload_n 0, 1) := by decide +kernel
theorem dL_law_685 : decode cL_law 685 = .ok (.iload_n 3, 1) := by decide +kernel
theorem dL_law_686 : decode cL_law 686 = .ok (.iconst 2, 1) := by decide +kernel
theorem dL_law_687 : decode cL_law 687 = .ok (.iadd, 1) := by decide +kernel
theorem dL_law_688 : decode cL_law 688 = .ok (.iaload, 1) := by decide +kernel
theorem dL_law_689 : decode cL_law 689 = .ok (.invokevirtual 71, 3) := by decide +kernel
theorem dL_law_692 : decode cL_law 692 = .ok (.if_icmp .eq 823, 3) := by decide +kernel
theorem dL_law_695 : decode cL_law 695 = .ok (.iconst 0, 1) := by decide +kernel
theorem dL_law_696 : decode cL_law 696 = .ok (.ireturn, 1) := by decide +kernel
theorem dL_law_697 : decode cL_law 697 = .ok (.aload_n 1, 1) := by decide +kernel
theorem dL_law_698 : decode cL_law 698 = .ok (.aload_n 0, 1) := by decide +kernel
theorem dL_law_699 : decode cL_law 699 = .ok (.iload_n 3, 1) := by decide +kernel
theorem dL_law_700 : decode cL_law 700 = .ok (.iconst 1, 1) := by decide +kernel
theorem dL_law_701 : decode cL_law 701 = .ok (.iadd, 1) := by decide +kernel
theorem dL_law_702 : decode cL_law 702 = .ok (.iaload, 1) := by decide +kernel
theorem dL_law_703 : decode cL_law 703 = .ok (.aload_n 0, 1) := by decide +kernel
theorem dL_law_704 : decode cL_law 704 = .ok (.iload_n 3, 1) := by decide +kernel
theorem dL_law_705 : decode cL_law 705 = .ok (.iconst 2, 1) := by decide +kernel
theorem dL_law_706 : decode cL_law 706 = .ok (.iadd, 1) := by decide +kernel
theorem dL_law_707 : decode cL_law 707 = .ok (.iaload, 1) := by decide +kernel
theorem dL_law_708 : decode cL_law 708 = .ok (.invokevirtual 72, 3) := by decide +kernel
theorem dL_law_711 : decode cL_law 711 = .ok (.aload_n 2, 1) := by decide +kernel
theorem dL_law_712 : decode cL_law 712 = .ok (.aload_n 0, 1) := by decide +kernel
theorem dL_law_713 : decode cL_law 713 = .ok (.iload_n 3, 1) := by decide +kernel
theorem dL_law_714 : decode cL_law 714 = .ok (.iconst 1, 1) := by decide +kernel
theorem dL_law_715 : decode cL_law 715 = .ok (.iadd, 1) := by decide +kernel
theorem dL_law_716 : decode cL_law 716 = .ok (.iaload, 1) := by decide +kernel
theorem dL_law_717 : decode cL_law 717 = .ok (.aload_n 0, 1) := by decide +kernel
theorem dL_law_718 : decode cL_law 718 = .ok (.iload_n 3, 1) := by decide +kernel
theorem dL_law_719 : decode cL_law 719 = .ok (.iconst 2, 1) := by decide +kernel
theorem dL_law_720 : decode cL_law 720 = .ok (.iadd, 1) := by decide +kernel
theorem dL_law_721 : decode cL_law 721 = .ok (.iaload, 1) := by decide +kernel
theorem dL_law_722 : decode cL_law 722 = .ok (.invokevirtual 76, 3) := by decide +kernel
theorem dL_law_725 : decode cL_law 725 = .ok (.if_icmp .eq 790, 3) := by decide +kernel
theorem dL_law_728 : decode cL_law 728 = .ok (.iconst 0, 1) := by decide +kernel
theorem dL_law_729 : decode cL_law 729 = .ok (.ireturn, 1) := by decide +kernel
theorem dL_law_730 : decode cL_law 730 = .ok (.aload_n 1, 1) := by decide +kernel
theorem dL_law_731 : decode cL_law 731 = .ok (.aload_n 0, 1) := by decide +kernel
theorem dL_law_732 : decode cL_law 732 = .ok (.iload_n 3, 1) := by decide +kernel
theorem dL_law_733 : decode cL_law 733 = .ok (.iconst 1, 1) := by decide +kernel
theorem dL_law_734 : decode cL_law 734 = .ok (.iadd, 1) := by decide +kernel
theorem dL_law_735 : decode cL_law 735 = .ok (.iaload, 1) := by decide +kernel
theorem dL_law_736 : decode cL_law 736 = .ok (.aload_n 0, 1) := by decide +kernel
theorem dL_law_737 : decode cL_law 737 = .ok (.iload_n 3, 1) := by decide +kernel
theorem dL_law_738 : decode cL_law 738 = .ok (.iconst 2, 1) := by decide +kernel
theorem dL_law_739 : decode cL_law 739 = .ok (.iadd, 1) := by decide +kernel
theorem dL_law_740 : decode cL_law 740 = .ok (.iaload, 1) := by decide +kernel
theorem dL_law_741 : decode cL_law 741 = .ok (.invokevirtual 77, 3) := by decide +kernel
theorem dL_law_744 : decode cL_law 744 = .ok (.aload_n 2, 1) := by decide +kernel
theorem dL_law_745 : decode cL_law 745 = .ok (.aload_n 0, 1) := by decide +kernel
theorem dL_law_746 : decode cL_law 746 = .ok (.iload_n 3, 1) := by decide +kernel
theorem dL_law_747 : decode cL_law 747 = .ok (.iconst 1, 1) := by decide +kernel
theorem dL_law_748 : decode cL_law 748 = .ok (.iadd, 1) := by decide +kernel
theorem dL_law_749 : decode cL_law 749 = .ok (.iaload, 1) := by decide +kernel
theorem dL_law_750 : decode cL_law 750 = .ok (.aload_n 0, 1) := by decide +kernel
theorem dL_law_751 : decode cL_law 751 = .ok (.iload_n 3, 1) := by decide +kernel
theorem dL_law_752 : decode cL_law 752 = .ok (.iconst 2, 1) := by decide +kernel
theorem dL_law_753 : decode cL_law 753 = .ok (.iadd, 1) := by decide +kernel
theorem dL_law_754 : decode cL_law 754 = .ok (.iaload, 1) := by decide +kernel
theorem dL_law_755 : decode cL_law 755 = .ok (.invokevirtual 80, 3) := by decide +kernel
theorem dL_law_758 : decode cL_law 758 = .ok (.if_icmp .eq 757, 3) := by decide +kernel
theorem dL_law_761 : decode cL_law 761 = .ok (.iconst 0, 1) := by decide +kernel
theorem dL_law_762 : decode cL_law 762 = .ok (.ireturn, 1) := by decide +kernel
theorem dL_law_763 : decode cL_law 763 = .ok (.aload_n 1, 1) := by decide +kernel
theorem dL_law_764 : decode cL_law 764 = .ok (.aload_n 0, 1) := by decide +kernel
theorem dL_law_765 : decode cL_law 765 = .ok (.iload_n 3, 1) := by decide +kernel
theorem dL_law_766 : decode cL_law 766 = .ok (.iconst 1, 1) := by decide +kernel
theorem dL_law_767 : decode cL_law 767 = .ok (.iadd, 1) := by decide +kernel
theorem dL_law_768 : decode cL_law 768 = .ok (.iaload, 1) := by decide +kernel
theorem dL_law_769 : decode cL_law 769 = .ok (.aload_n 0, 1) := by decide +kernel
theorem dL_law_770 : decode cL_law 770 = .ok (.iload_n 3, 1) := by decide +kernel
theorem dL_law_771 : decode cL_law 771 = .ok (.iconst 2, 1) := by decide +kernel
theorem dL_law_772 : decode cL_law 772 = .ok (.iadd, 1) := by decide +kernel
theorem dL_law_773 : decode cL_law 773 = .ok (.iaload, 1) := by decide +kernel
theorem dL_law_774 : decode cL_law 774 = .ok (.aload_n 0, 1) := by decide +kernel
theorem dL_law_775 : decode cL_law 775 = .ok (.iload_n 3, 1) := by decide +kernel
theorem dL_law_776 : decode cL_law 776 = .ok (.iconst 3, 1) := by decide +kernel
theorem dL_law_777 : decode cL_law 777 = .ok (.iadd, 1) := by decide +kernel
theorem dL_law_778 : decode cL_law 778 = .ok (.iaload, 1) := by decide +kernel
theorem dL_law_779 : decode cL_law 779 = .ok (.invokevirtual 81, 3) := by decide +kernel
theorem dL_law_782 : decode cL_law 782 = .ok (.aload_n 2, 1) := by decide +kernel
theorem dL_law_783 : decode cL_law 783 = .ok (.aload_n 0, 1) := by decide +kernel
theorem dL_law_784 : decode cL_law 784 = .ok (.iload_n 3, 1) := by decide +kernel
theorem dL_law_785 : decode cL_law 785 = .ok (.iconst 1, 1) := by decide +kernel
theorem dL_law_786 : decode cL_law 786 = .ok (.iadd, 1) := by decide +kernel
theorem dL_law_787 : decode cL_law 787 = .ok (.iaload, 1) := by decide +kernel
theorem dL_law_788 : decode cL_law 788 = .ok (.aload_n 0, 1) := by decide +kernel
theorem dL_law_789 : decode cL_law 789 = .ok (.iload_n 3, 1) := by decide +kernel
theorem dL_law_790 : decode cL_law 790 = .ok (.iconst 2, 1) := by decide +kernel
theorem dL_law_791 : decode cL_law 791 = .ok (.iadd, 1) := by decide +kernel
theorem dL_law_792 : decode cL_law 792 = .ok (.iaload, 1) := by decide +kernel
theorem dL_law_793 : decode cL_law 793 = .ok (.aload_n 0, 1) := by decide +kernel
theorem dL_law_794 : decode cL_law 794 = .ok (.iload_n 3, 1) := by decide +kernel
theorem dL_law_795 : decode cL_law 795 = .ok (.iconst 3, 1) := by decide +kernel
theorem dL_law_796 : decode cL_law 796 = .ok (.iadd, 1) := by decide +kernel
theorem dL_law_797 : decode cL_law 797 = .ok (.iaload, 1) := by decide +kernel
theorem dL_law_798 : decode cL_law 798 = .ok (.invokevirtual 84, 3) := by decide +kernel
theorem dL_law_801 : decode cL_law 801 = .ok (.if_icmp .eq 714, 3) := by decide +kernel
theorem dL_law_804 : decode cL_law 804 = .ok (.iconst 0, 1) := by decide +kernel
theorem dL_law_805 : decode cL_law 805 = .ok (.ireturn, 1) := by decide +kernel
theorem dL_law_806 : decode cL_law 806 = .ok (.aload_n 1, 1) := by decide +kernel
theorem dL_law_807 : decode cL_law 807 = .ok (.aload_n 0, 1) := by decide +kernel
theorem dL_law_808 : decode cL_law 808 = .ok (.iload_n 3, 1) := by decide +kernel
theorem dL_law_809 : decode cL_law 809 = .ok (.iconst 1, 1) := by decide +kernel
theorem dL_law_810 : decode cL_law 810 = .ok (.iadd, 1) := by decide +kernel
theorem dL_law_811 : decode cL_law 811 = .ok (.iaload, 1) := by decide +kernel
theorem dL_law_812 : decode cL_law 812 = .ok (.aload_n 0, 1) := by decide +kernel
theorem dL_law_813 : decode cL_law 813 = .ok (.iload_n 3, 1) := by decide +kernel
theorem dL_law_814 : decode cL_law 814 = .ok (.iconst 2, 1) := by decide +kernel
theorem dL_law_815 : decode cL_law 815 = .ok (.iadd, 1) := by decide +kernel
theorem dL_law_816 : decode cL_law 816 = .ok (.iaload, 1) := by decide +kernel
theorem dL_law_817 : decode cL_law 817 = .ok (.invokevirtual 85, 3) := by decide +kernel
theorem dL_law_820 : decode cL_law 820 = .ok (.aload_n 2, 1) := by decide +kernel
theorem dL_law_821 : decode cL_law 821 = .ok (.aload_n 0, 1) := by decide +kernel
theorem dL_law_822 : decode cL_law 822 = .ok (.iload_n 3, 1) := by decide +kernel
theorem dL_law_823 : decode cL_law 823 = .ok (.iconst 1, 1) := by decide +kernel
theorem dL_law_824 : decode cL_law 824 = .ok (.iadd, 1) := by decide +kernel
theorem dL_law_825 : decode cL_law 825 = .ok (.iaload, 1) := by decide +kernel
theorem dL_law_826 : decode cL_law 826 = .ok (.aload_n 0, 1) := by decide +kernel
theorem dL_law_827 : decode cL_law 827 = .ok (.iload_n 3, 1) := by decide +kernel
theorem dL_law_828 : decode cL_law 828 = .ok (.iconst 2, 1) := by decide +kernel
theorem dL_law_829 : decode cL_law 829 = .ok (.iadd, 1) := by decide +kernel
theorem dL_law_830 : decode cL_law 830 = .ok (.iaload, 1) := by decide +kernel
theorem dL_law_831 : decode cL_law 831 = .ok (.invokevirtual 88, 3) := by decide +kernel
theorem dL_law_834 : decode cL_law 834 = .ok (.if_icmp .eq 681, 3) := by decide +kernel
theorem dL_law_837 : decode cL_law 837 = .ok (.iconst 0, 1) := by decide +kernel
theorem dL_law_838 : decode cL_law 838 = .ok (.ireturn, 1) := by decide +kernel
theorem dL_law_839 : decode cL_law 839 = .ok (.aload_n 1, 1) := by decide +kernel
theorem dL_law_840 : decode cL_law 840 = .ok (.aload_n 0, 1) := by decide +kernel
theorem dL_law_841 : decode cL_law 841 = .ok (.iload_n 3, 1) := by decide +kernel
theorem dL_law_842 : decode cL_law 842 = .ok (.iconst 1, 1) := by decide +kernel
theorem dL_law_843 : decode cL_law 843 = .ok (.iadd, 1) := by decide +kernel
theorem dL_law_844 : decode cL_law 844 = .ok (.iaload, 1) := by decide +kernel
theorem dL_law_845 : decode cL_law 845 = .ok (.aload_n 0, 1) := by decide +kernel
theorem dL_law_846 : decode cL_law 846 = .ok (.iload_n 3, 1) := by decide +kernel
theorem dL_law_847 : decode cL_law 847 = .ok (.iconst 2, 1) := by decide +kernel
theorem dL_law_848 : decode cL_law 848 = .ok (.iadd, 1) := by decide +kernel
theorem dL_law_849 : decode cL_law 849 = .ok (.iaload, 1) := by decide +kernel
theorem dL_law_850 : decode cL_law 850 = .ok (.invokevirtual 89, 3) := by decide +kernel
theorem dL_law_853 : decode cL_law 853 = .ok (.aload_n 2, 1) := by decide +kernel
theorem dL_law_854 : decode cL_law 854 = .ok (.aload_n 0, 1) := by decide +kernel
theorem dL_law_855 : decode cL_law 855 = .ok (.iload_n 3, 1) := by decide +kernel
theorem dL_law_856 : decode cL_law 856 = .ok (.iconst 1, 1) := by decide +kernel
theorem dL_law_857 : decode cL_law 857 = .ok (.iadd, 1) := by decide +kernel
theorem dL_law_858 : decode cL_law 858 = .ok (.iaload, 1) := by decide +kernel
theorem dL_law_859 : decode cL_law 859 = .ok (.aload_n 0, 1) := by decide +kernel
theorem dL_law_860 : decode cL_law 860 = .ok (.iload_n 3, 1) := by decide +kernel
theorem dL_law_861 : decode cL_law 861 = .ok (.iconst 2, 1) := by decide +kernel
theorem dL_law_862 : decode cL_law 862 = .ok (.iadd, 1) := by decide +kernel
theorem dL_law_863 : decode cL_law 863 = .ok (.iaload, 1) := by decide +kernel
theorem dL_law_864 : decode cL_law 864 = .ok (.invokevirtual 93, 3) := by decide +kernel
theorem dL_law_867 : decode cL_law 867 = .ok (.lcmp, 1) := by decide +kernel
theorem dL_law_868 : decode cL_law 868 = .ok (.ifCond .eq 647, 3) := by decide +kernel
theorem dL_law_871 : decode cL_law 871 = .ok (.iconst 0, 1) := by decide +kernel
theorem dL_law_872 : decode cL_law 872 = .ok (.ireturn, 1) := by decide +kernel
theorem dL_law_873 : decode cL_law 873 = .ok (.aload_n 1, 1) := by decide +kernel
theorem dL_law_874 : decode cL_law 874 = .ok (.invokevirtual 94, 3) := by decide +kernel
theorem dL_law_877 : decode cL_law 877 = .ok (.aload_n 2, 1) := by decide +kernel
theorem dL_law_878 : decode cL_law 878 = .ok (.invokevirtual 98, 3) := by decide +kernel
theorem dL_law_881 : decode cL_law 881 = .ok (.if_icmp .eq 634, 3) := by decide +kernel
theorem dL_law_884 : decode cL_law 884 = .ok (.iconst 0, 1) := by decide +kernel
theorem dL_law_885 : decode cL_law 885 = .ok (.ireturn, 1) := by decide +kernel
theorem dL_law_886 : decode cL_law 886 = .ok (.aload_n 1, 1) := by decide +kernel
theorem dL_law_887 : decode cL_law 887 = .ok (.invokevirtual 99, 3) := by decide +kernel
theorem dL_law_890 : decode cL_law 890 = .ok (.aload_n 2, 1) := by decide +kernel
theorem dL_law_891 : decode cL_law 891 = .ok (.invokevirtual 102, 3) := by decide +kernel
theorem dL_law_894 : decode cL_law 894 = .ok (.if_icmp .eq 621, 3) := by decide +kernel
theorem dL_law_897 : decode cL_law 897 = .ok (.iconst 0, 1) := by decide +kernel
theorem dL_law_898 : decode cL_law 898 = .ok (.ireturn, 1) := by decide +kernel
theorem dL_law_899 : decode cL_law 899 = .ok (.aload_n 1, 1) := by decide +kernel
theorem dL_law_900 : decode cL_law 900 = .ok (.aload_n 0, 1) := by decide +kernel
theorem dL_law_901 : decode cL_law 901 = .ok (.iload_n 3, 1) := by decide +kernel
theorem dL_law_902 : decode cL_law 902 = .ok (.iconst 1, 1) := by decide +kernel
theorem dL_law_903 : decode cL_law 903 = .ok (.iadd, 1) := by decide +kernel
theorem dL_law_904 : decode cL_law 904 = .ok (.iaload, 1) := by decide +kernel
theorem dL_law_905 : decode cL_law 905 = .ok (.aload_n 0, 1) := by decide +kernel
theorem dL_law_906 : decode cL_law 906 = .ok (.iload_n 3, 1) := by decide +kernel
theorem dL_law_907 : decode cL_law 907 = .ok (.iconst 2, 1) := by decide +kernel
theorem dL_law_908 : decode cL_law 908 = .ok (.iadd, 1) := by decide +kernel
theorem dL_law_909 : decode cL_law 909 = .ok (.iaload, 1) := by decide +kernel
theorem dL_law_910 : decode cL_law 910 = .ok (.aload_n 0, 1) := by decide +kernel
theorem dL_law_911 : decode cL_law 911 = .ok (.iload_n 3, 1) := by decide +kernel
theorem dL_law_912 : decode cL_law 912 = .ok (.iconst 3, 1) := by decide +kernel
theorem dL_law_913 : decode cL_law 913 = .ok (.iadd, 1) := by decide +kernel
theorem dL_law_914 : decode cL_law 914 = .ok (.iaload, 1) := by decide +kernel
theorem dL_law_915 : decode cL_law 915 = .ok (.invokevirtual 103, 3) := by decide +kernel
theorem dL_law_918 : decode cL_law 918 = .ok (.aload_n 2, 1) := by decide +kernel
theorem dL_law_919 : decode cL_law 919 = .ok (.aload_n 0, 1) := by decide +kernel
theorem dL_law_920 : decode cL_law 920 = .ok (.iload_n 3, 1) := by decide +kernel
theorem dL_law_921 : decode cL_law 921 = .ok (.iconst 1, 1) := by decide +kernel
theorem dL_law_922 : decode cL_law 922 = .ok (.iadd, 1) := by decide +kernel
theorem dL_law_923 : decode cL_law 923 = .ok (.iaload, 1) := by decide +kernel
theorem dL_law_924 : decode cL_law 924 = .ok (.aload_n 0, 1) := by decide +kernel
theorem dL_law_925 : decode cL_law 925 = .ok (.iload_n 3, 1) := by decide +kernel
theorem dL_law_926 : decode cL_law 926 = .ok (.iconst 2, 1) := by decide +kernel
theorem dL_law_927 : decode cL_law 927 = .ok (.iadd, 1) := by decide +kernel
theorem dL_law_928 : decode cL_law 928 = .ok (.iaload, 1) := by decide +kernel
theorem dL_law_929 : decode cL_law 929 = .ok (.aload_n 0, 1) := by decide +kernel
theorem dL_law_930 : decode cL_law 930 = .ok (.iload_n 3, 1) := by decide +kernel
theorem dL_law_931 : decode cL_law 931 = .ok (.iconst 3, 1) := by decide +kernel
theorem dL_law_932 : decode cL_law 932 = .ok (.iadd, 1) := by decide +kernel
theorem dL_law_933 : decode cL_law 933 = .ok (.iaload, 1) := by decide +kernel
theorem dL_law_934 : decode cL_law 934 = .ok (.invokevirtual 106, 3) := by decide +kernel
theorem dL_law_937 : decode cL_law 937 = .ok (.if_icmp .eq 578, 3) := by decide +kernel
theorem dL_law_940 : decode cL_law 940 = .ok (.iconst 0, 1) := by decide +kernel
theorem dL_law_941 : decode cL_law 941 = .ok (.ireturn, 1) := by decide +kernel
theorem dL_law_942 : decode cL_law 942 = .ok (.aload_n 1, 1) := by decide +kernel
theorem dL_law_943 : decode cL_law 943 = .ok (.aload_n 0, 1) := by decide +kernel
theorem dL_law_944 : decode cL_law 944 = .ok (.iload_n 3, 1) := by decide +kernel
theorem dL_law_945 : decode cL_law 945 = .ok (.iconst 1, 1) := by decide +kernel
theorem dL_law_946 : decode cL_law 946 = .ok (.iadd, 1) := by decide +kernel
theorem dL_law_947 : decode cL_law 947 = .ok (.iaload, 1) := by decide +kernel
theorem dL_law_948 : decode cL_law 948 = .ok (.aload_n 0, 1) := by decide +kernel
theorem dL_law_949 : decode cL_law 949 = .ok (.iload_n 3, 1) := by decide +kernel
theorem dL_law_950 : decode cL_law 950 = .ok (.iconst 2, 1) := by decide +kernel
theorem dL_law_951 : decode cL_law 951 = .ok (.iadd, 1) := by decide +kernel
theorem dL_law_952 : decode cL_law 952 = .ok (.iaload, 1) := by decide +kernel
theorem dL_law_953 : decode cL_law 953 = .ok (.aload_n 0, 1) := by decide +kernel
theorem dL_law_954 : decode cL_law 954 = .ok (.iload_n 3, 1) := by decide +kernel
theorem dL_law_955 : decode cL_law 955 = .ok (.iconst 3, 1) := by decide +kernel
theorem dL_law_956 : decode cL_law 956 = .ok (.iadd, 1) := by decide +kernel
theorem dL_law_957 : decode cL_law 957 = .ok (.iaload, 1) := by decide +kernel
theorem dL_law_958 : decode cL_law 958 = .ok (.invokevirtual 107, 3) := by decide +kernel
theorem dL_law_961 : decode cL_law 961 = .ok (.aload_n 2, 1) := by decide +kernel
theorem dL_law_962 : decode cL_law 962 = .ok (.aload_n 0, 1) := by decide +kernel
theorem dL_law_963 : decode cL_law 963 = .ok (.iload_n 3, 1) := by decide +kernel
theorem dL_law_964 : decode cL_law 964 = .ok (.iconst 1, 1) := by decide +kernel
theorem dL_law_965 : decode cL_law 965 = .ok (.iadd, 1) := by decide +kernel
theorem dL_law_966 : decode cL_law 966 = .ok (.iaload, 1) := by decide +kernel
theorem dL_law_967 : decode cL_law 967 = .ok (.aload_n 0, 1) := by decide +kernel
theorem dL_law_968 : decode cL_law 968 = .ok (.iload_n 3, 1) := by decide +kernel
theorem dL_law_969 : decode cL_law 969 = .ok (.iconst 2, 1) := by decide +kernel
theorem dL_law_970 : decode cL_law 970 = .ok (.iadd, 1) := by decide +kernel
theorem dL_law_971 : decode cL_law 971 = .ok (.iaload, 1) := by decide +kernel
theorem dL_law_972 : decode cL_law 972 = .ok (.aload_n 0, 1) := by decide +kernel
theorem dL_law_973 : decode cL_law 973 = .ok (.iload_n 3, 1) := by decide +kernel
theorem dL_law_974 : decode cL_law 974 = .ok (.iconst 3, 1) := by decide +kernel
theorem dL_law_975 : decode cL_law 975 = .ok (.iadd, 1) := by decide +kernel
theorem dL_law_976 : decode cL_law 976 = .ok (.iaload, 1) := by decide +kernel
theorem dL_law_977 : decode cL_law 977 = .ok (.invokevirtual 110, 3) := by decide +kernel
theorem dL_law_980 : decode cL_law 980 = .ok (.if_icmp .eq 535, 3) := by decide +kernel
theorem dL_law_983 : decode cL_law 983 = .ok (.iconst 0, 1) := by decide +kernel
theorem dL_law_984 : decode cL_law 984 = .ok (.ireturn, 1) := by decide +kernel
theorem dL_law_985 : decode cL_law 985 = .ok (.aload_n 1, 1) := by decide +kernel
theorem dL_law_986 : decode cL_law 986 = .ok (.aload_n 0, 1) := by decide +kernel
theorem dL_law_987 : decode cL_law 987 = .ok (.iload_n 3, 1) := by decide +kernel
theorem dL_law_988 : decode cL_law 988 = .ok (.iconst 1, 1) := by decide +kernel
theorem dL_law_989 : decode cL_law 989 = .ok (.iadd, 1) := by decide +kernel
theorem dL_law_990 : decode cL_law 990 = .ok (.iaload, 1) := by decide +kernel
theorem dL_law_991 : decode cL_law 991 = .ok (.aload_n 0, 1) := by decide +kernel
theorem dL_law_992 : decode cL_law 992 = .ok (.iload_n 3, 1) := by decide +kernel
theorem dL_law_993 : decode cL_law 993 = .ok (.iconst 2, 1) := by decide +kernel
theorem dL_law_994 : decode cL_law 994 = .ok (.iadd, 1) := by decide +kernel
theorem dL_law_995 : decode cL_law 995 = .ok (.iaload, 1) := by decide +kernel
theorem dL_law_996 : decode cL_law 996 = .ok (.ifCond .eq 7, 3) := by decide +kernel
theorem dL_law_999 : decode cL_law 999 = .ok (.iconst 1, 1) := by decide +kernel
theorem dL_law_1000 : decode cL_law 1000 = .ok (.goto 4, 3) := by decide +kernel
theorem dL_law_1003 : decode cL_law 1003 = .ok (.iconst 0, 1) := by decide +kernel
theorem dL_law_1004 : decode cL_law 1004 = .ok (.invokevirtual 111, 3) := by decide +kernel
theorem dL_law_1007 : decode cL_law 1007 = .ok (.aload_n 2, 1) := by decide +kernel
theorem dL_law_1008 : decode cL_law 1008 = .ok (.aload_n 0, 1) := by decide +kernel
theorem dL_law_1009 : decode cL_law 1009 = .ok (.iload_n 3, 1) := by decide +kernel
theorem dL_law_1010 : decode cL_law 1010 = .ok (.iconst 1, 1) := by decide +kernel
theorem dL_law_1011 : decode cL_law 1011 = .ok (.iadd, 1) := by decide +kernel
theorem dL_law_1012 : decode cL_law 1012 = .ok (.iaload, 1) := by decide +kernel
theorem dL_law_1013 : decode cL_law 1013 = .ok (.aload_n 0, 1) := by decide +kernel
theorem dL_law_1014 : decode cL_law 1014 = .ok (.iload_n 3, 1) := by decide +kernel
theorem dL_law_1015 : decode cL_law 1015 = .ok (.iconst 2, 1) := by decide +kernel
theorem dL_law_1016 : decode cL_law 1016 = .ok (.iadd, 1) := by decide +kernel
theorem dL_law_1017 : decode cL_law 1017 = .ok (.iaload, 1) := by decide +kernel
theorem dL_law_1018 : decode cL_law 1018 = .ok (.ifCond .eq 7, 3) := by decide +kernel
theorem dL_law_1021 : decode cL_law 1021 = .ok (.iconst 1, 1) := by decide +kernel
theorem dL_law_1022 : decode cL_law 1022 = .ok (.goto 4, 3) := by decide +kernel
theorem dL_law_1025 : decode cL_law 1025 = .ok (.iconst 0, 1) := by decide +kernel
theorem dL_law_1026 : decode cL_law 1026 = .ok (.invokevirtual 115, 3) := by decide +kernel
theorem dL_law_1029 : decode cL_law 1029 = .ok (.if_icmp .eq 486, 3) := by decide +kernel
theorem dL_law_1032 : decode cL_law 1032 = .ok (.iconst 0, 1) := by decide +kernel
theorem dL_law_1033 : decode cL_law 1033 = .ok (.ireturn, 1) := by decide +kernel
theorem dL_law_1034 : decode cL_law 1034 = .ok (.aload_n 1, 1) := by decide +kernel
theorem dL_law_1035 : decode cL_law 1035 = .ok (.aload_n 0, 1) := by decide +kernel
theorem dL_law_1036 : decode cL_law 1036 = .ok (.iload_n 3, 1) := by decide +kernel
theorem dL_law_1037 : decode cL_law 1037 = .ok (.iconst 1, 1) := by decide +kernel
theorem dL_law_1038 : decode cL_law 1038 = .ok (.iadd, 1) := by decide +kernel
theorem dL_law_1039 : decode cL_law 1039 = .ok (.iaload, 1) := by decide +kernel
theorem dL_law_1040 : decode cL_law 1040 = .ok (.aload_n 0, 1) := by decide +kernel
theorem dL_law_1041 : decode cL_law 1041 = .ok (.iload_n 3, 1) := by decide +kernel
theorem dL_law_1042 : decode cL_law 1042 = .ok (.iconst 2, 1) := by decide +kernel
theorem dL_law_1043 : decode cL_law 1043 = .ok (.iadd, 1) := by decide +kernel
theorem dL_law_1044 : decode cL_law 1044 = .ok (.iaload, 1) := by decide +kernel
theorem dL_law_1045 : decode cL_law 1045 = .ok (.aload_n 0, 1) := by decide +kernel
theorem dL_law_1046 : decode cL_law 1046 = .ok (.iload_n 3, 1) := by decide +kernel
theorem dL_law_1047 : decode cL_law 1047 = .ok (.iconst 3, 1) := by decide +kernel
theorem dL_law_1048 : decode cL_law 1048 = .ok (.iadd, 1) := by decide +kernel
theorem dL_law_1049 : decode cL_law 1049 = .ok (.iaload, 1) := by decide +kernel
theorem dL_law_1050 : decode cL_law 1050 = .ok (.invokevirtual 116, 3) := by decide +kernel
theorem dL_law_1053 : decode cL_law 1053 = .ok (.aload_n 2, 1) := by decide +kernel
theorem dL_law_1054 : decode cL_law 1054 = .ok (.aload_n 0, 1) := by decide +kernel
theorem dL_law_1055 : decode cL_law 1055 = .ok (.iload_n 3, 1) := by decide +kernel
theorem dL_law_1056 : decode cL_law 1056 = .ok (.iconst 1, 1) := by decide +kernel
theorem dL_law_1057 : decode cL_law 1057 = .ok (.iadd, 1) := by decide +kernel
theorem dL_law_1058 : decode cL_law 1058 = .ok (.iaload, 1) := by decide +kernel
theorem dL_law_1059 : decode cL_law 1059 = .ok (.aload_n 0, 1) := by decide +kernel
theorem dL_law_1060 : decode cL_law 1060 = .ok (.iload_n 3, 1) := by decide +kernel
theorem dL_law_1061 : decode cL_law 1061 = .ok (.iconst 2, 1) := by decide +kernel
theorem dL_law_1062 : decode cL_law 1062 = .ok (.iadd, 1) := by decide +kernel
theorem dL_law_1063 : decode cL_law 1063 = .ok (.iaload, 1) := by decide +kernel
theorem dL_law_1064 : decode cL_law 1064 = .ok (.aload_n 0, 1) := by decide +kernel
theorem dL_law_1065 : decode cL_law 1065 = .ok (.iload_n 3, 1) := by decide +kernel
theorem dL_law_1066 : decode cL_law 1066 = .ok (.iconst 3, 1) := by decide +kernel
theorem dL_law_1067 : decode cL_law 1067 = .ok (.iadd, 1) := by decide +kernel
theorem dL_law_1068 : decode cL_law 1068 = .ok (.iaload, 1) := by decide +kernel
theorem dL_law_1069 : decode cL_law 1069 = .ok (.invokevirtual 119, 3) := by decide +kernel
theorem dL_law_1072 : decode cL_law 1072 = .ok (.if_icmp .eq 443, 3) := by decide +kernel
theorem dL_law_1075 : decode cL_law 1075 = .ok (.iconst 0, 1) := by decide +kernel
theorem dL_law_1076 : decode cL_law 1076 = .ok (.ireturn, 1) := by decide +kernel
theorem dL_law_1077 : decode cL_law 1077 = .ok (.aload_n 1, 1) := by decide +kernel
theorem dL_law_1078 : decode cL_law 1078 = .ok (.aload_n 0, 1) := by decide +kernel
theorem dL_law_1079 : decode cL_law 1079 = .ok (.iload_n 3, 1) := by decide +kernel
theorem dL_law_1080 : decode cL_law 1080 = .ok (.iconst 1, 1) := by decide +kernel
theorem dL_law_1081 : decode cL_law 1081 = .ok (.iadd, 1) := by decide +kernel
theorem dL_law_1082 : decode cL_law 1082 = .ok (.iaload, 1) := by decide +kernel
theorem dL_law_1083 : decode cL_law 1083 = .ok (.aload_n 0, 1) := by decide +kernel
theorem dL_law_1084 : decode cL_law 1084 = .ok (.iload_n 3, 1) := by decide +kernel
theorem dL_law_1085 : decode cL_law 1085 = .ok (.iconst 2, 1) := by decide +kernel
theorem dL_law_1086 : decode cL_law 1086 = .ok (.iadd, 1) := by decide +kernel
theorem dL_law_1087 : decode cL_law 1087 = .ok (.iaload, 1) := by decide +kernel
theorem dL_law_1088 : decode cL_law 1088 = .ok (.aload_n 0, 1) := by decide +kernel
theorem dL_law_1089 : decode cL_law 1089 = .ok (.iload_n 3, 1) := by decide +kernel
theorem dL_law_1090 : decode cL_law 1090 = .ok (.iconst 3, 1) := by decide +kernel
theorem dL_law_1091 : decode cL_law 1091 = .ok (.iadd, 1) := by decide +kernel
theorem dL_law_1092 : decode cL_law 1092 = .ok (.iaload, 1) := by decide +kernel
theorem dL_law_1093 : decode cL_law 1093 = .ok (.invokevirtual 120, 3) := by decide +kernel
theorem dL_law_1096 : decode cL_law 1096 = .ok (.aload_n 2, 1) := by decide +kernel
theorem dL_law_1097 : decode cL_law 1097 = .ok (.aload_n 0, 1) := by decide +kernel
theorem dL_law_1098 : decode cL_law 1098 = .ok (.iload_n 3, 1) := by decide +kernel
theorem dL_law_1099 : decode cL_law 1099 = .ok (.iconst 1, 1) := by decide +kernel
theorem dL_law_1100 : decode cL_law 1100 = .ok (.iadd, 1) := by decide +kernel
theorem dL_law_1101 : decode cL_law 1101 = .ok (.iaload, 1) := by decide +kernel
theorem dL_law_1102 : decode cL_law 1102 = .ok (.aload_n 0, 1) := by decide +kernel
theorem dL_law_1103 : decode cL_law 1103 = .ok (.iload_n 3, 1) := by decide +kernel
theorem dL_law_1104 : decode cL_law 1104 = .ok (.iconst 2, 1) := by decide +kernel
theorem dL_law_1105 : decode cL_law 1105 = .ok (.iadd, 1) := by decide +kernel
theorem dL_law_1106 : decode cL_law 1106 = .ok (.iaload, 1) := by decide +kernel
theorem dL_law_1107 : decode cL_law 1107 = .ok (.aload_n 0, 1) := by decide +kernel
theorem dL_law_1108 : decode cL_law 1108 = .ok (.iload_n 3, 1) := by decide +kernel
theorem dL_law_1109 : decode cL_law 1109 = .ok (.iconst 3, 1) := by decide +kernel
theorem dL_law_1110 : decode cL_law 1110 = .ok (.iadd, 1) := by decide +kernel
theorem dL_law_1111 : decode cL_law 1111 = .ok (.iaload, 1) := by decide +kernel
theorem dL_law_1112 : decode cL_law 1112 = .ok (.invokevirtual 124, 3) := by decide +kernel
theorem dL_law_1115 : decode cL_law 1115 = .ok (.lcmp, 1) := by decide +kernel
theorem dL_law_1116 : decode cL_law 1116 = .ok (.ifCond .eq 399, 3) := by decide +kernel
theorem dL_law_1119 : decode cL_law 1119 = .ok (.iconst 0, 1) := by decide +kernel
theorem dL_law_1120 : decode cL_law 1120 = .ok (.ireturn, 1) := by decide +kernel
theorem dL_law_1121 : decode cL_law 1121 = .ok (.aload_n 1, 1) := by decide +kernel
theorem dL_law_1122 : decode cL_law 1122 = .ok (.aload_n 0, 1) := by decide +kernel
theorem dL_law_1123 : decode cL_law 1123 = .ok (.iload_n 3, 1) := by decide +kernel
theorem dL_law_1124 : decode cL_law 1124 = .ok (.iconst 1, 1) := by decide +kernel
theorem dL_law_1125 : decode cL_law 1125 = .ok (.iadd, 1) := by decide +kernel
theorem dL_law_1126 : decode cL_law 1126 = .ok (.iaload, 1) := by decide +kernel
theorem dL_law_1127 : decode cL_law 1127 = .ok (.aload_n 0, 1) := by decide +kernel
theorem dL_law_1128 : decode cL_law 1128 = .ok (.iload_n 3, 1) := by decide +kernel
theorem dL_law_1129 : decode cL_law 1129 = .ok (.iconst 2, 1) := by decide +kernel
theorem dL_law_1130 : decode cL_law 1130 = .ok (.iadd, 1) := by decide +kernel
theorem dL_law_1131 : decode cL_law 1131 = .ok (.iaload, 1) := by decide +kernel
theorem dL_law_1132 : decode cL_law 1132 = .ok (.aload_n 0, 1) := by decide +kernel
theorem dL_law_1133 : decode cL_law 1133 = .ok (.iload_n 3, 1) := by decide +kernel
theorem dL_law_1134 : decode cL_law 1134 = .ok (.iconst 3, 1) := by decide +kernel
theorem dL_law_1135 : decode cL_law 1135 = .ok (.iadd, 1) := by decide +kernel
theorem dL_law_1136 : decode cL_law 1136 = .ok (.iaload, 1) := by decide +kernel
theorem dL_law_1137 : decode cL_law 1137 = .ok (.aload_n 0, 1) := by decide +kernel
theorem dL_law_1138 : decode cL_law 1138 = .ok (.iload_n 3, 1) := by decide +kernel
theorem dL_law_1139 : decode cL_law 1139 = .ok (.iconst 4, 1) := by decide +kernel
theorem dL_law_1140 : decode cL_law 1140 = .ok (.iadd, 1) := by decide +kernel
theorem dL_law_1141 : decode cL_law 1141 = .ok (.iaload, 1) := by decide +kernel
theorem dL_law_1142 : decode cL_law 1142 = .ok (.invokevirtual 125, 3) := by decide +kernel
theorem dL_law_1145 : decode cL_law 1145 = .ok (.aload_n 2, 1) := by decide +kernel
theorem dL_law_1146 : decode cL_law 1146 = .ok (.aload_n 0, 1) := by decide +kernel
theorem dL_law_1147 : decode cL_law 1147 = .ok (.iload_n 3, 1) := by decide +kernel
theorem dL_law_1148 : decode cL_law 1148 = .ok (.iconst 1, 1) := by decide +kernel
theorem dL_law_1149 : decode cL_law 1149 = .ok (.iadd, 1) := by decide +kernel
theorem dL_law_1150 : decode cL_law 1150 = .ok (.iaload, 1) := by decide +kernel
theorem dL_law_1151 : decode cL_law 1151 = .ok (.aload_n 0, 1) := by decide +kernel
theorem dL_law_1152 : decode cL_law 1152 = .ok (.iload_n 3, 1) := by decide +kernel
theorem dL_law_1153 : decode cL_law 1153 = .ok (.iconst 2, 1) := by decide +kernel
theorem dL_law_1154 : decode cL_law 1154 = .ok (.iadd, 1) := by decide +kernel
theorem dL_law_1155 : decode cL_law 1155 = .ok (.iaload, 1) := by decide +kernel
theorem dL_law_1156 : decode cL_law 1156 = .ok (.aload_n 0, 1) := by decide +kernel
theorem dL_law_1157 : decode cL_law 1157 = .ok (.iload_n 3, 1) := by decide +kernel
theorem dL_law_1158 : decode cL_law 1158 = .ok (.iconst 3, 1) := by decide +kernel
theorem dL_law_1159 : decode cL_law 1159 = .ok (.iadd, 1) := by decide +kernel
theorem dL_law_1160 : decode cL_law 1160 = .ok (.iaload, 1) := by decide +kernel
theorem dL_law_1161 : decode cL_law 1161 = .ok (.aload_n 0, 1) := by decide +kernel
theorem dL_law_1162 : decode cL_law 1162 = .ok (.iload_n 3, 1) := by decide +kernel
theorem dL_law_1163 : decode cL_law 1163 = .ok (.iconst 4, 1) := by decide +kernel
theorem dL_law_1164 : decode cL_law 1164 = .ok (.iadd, 1) := by decide +kernel
theorem dL_law_1165 : decode cL_law 1165 = .ok (.iaload, 1) := by decide +kernel
theorem dL_law_1166 : decode cL_law 1166 = .ok (.invokevirtual 129, 3) := by decide +kernel
theorem dL_law_1169 : decode cL_law 1169 = .ok (.lcmp, 1) := by decide +kernel
theorem dL_law_1170 : decode cL_law 1170 = .ok (.ifCond .eq 345, 3) := by decide +kernel
theorem dL_law_1173 : decode cL_law 1173 = .ok (.iconst 0, 1) := by decide +kernel
theorem dL_law_1174 : decode cL_law 1174 = .ok (.ireturn, 1) := by decide +kernel
theorem dL_law_1175 : decode cL_law 1175 = .ok (.aload_n 1, 1) := by decide +kernel
theorem dL_law_1176 : decode cL_law 1176 = .ok (.aload_n 0, 1) := by decide +kernel
theorem dL_law_1177 : decode cL_law 1177 = .ok (.iload_n 3, 1) := by decide +kernel
theorem dL_law_1178 : decode cL_law 1178 = .ok (.iconst 1, 1) := by decide +kernel
theorem dL_law_1179 : decode cL_law 1179 = .ok (.iadd, 1) := by decide +kernel
theorem dL_law_1180 : decode cL_law 1180 = .ok (.iaload, 1) := by decide +kernel
theorem dL_law_1181 : decode cL_law 1181 = .ok (.aload_n 0, 1) := by decide +kernel
theorem dL_law_1182 : decode cL_law 1182 = .ok (.iload_n 3, 1) := by decide +kernel
theorem dL_law_1183 : decode cL_law 1183 = .ok (.iconst 2, 1) := by decide +kernel
theorem dL_law_1184 : decode cL_law 1184 = .ok (.iadd, 1) := by decide +kernel
theorem dL_law_1185 : decode cL_law 1185 = .ok (.iaload, 1) := by decide +kernel
theorem dL_law_1186 : decode cL_law 1186 = .ok (.aload_n 0, 1) := by decide +kernel
theorem dL_law_1187 : decode cL_law 1187 = .ok (.iload_n 3, 1) := by decide +kernel
theorem dL_law_1188 : decode cL_law 1188 = .ok (.iconst 3, 1) := by decide +kernel
theorem dL_law_1189 : decode cL_law 1189 = .ok (.iadd, 1) := by decide +kernel
theorem dL_law_1190 : decode cL_law 1190 = .ok (.iaload, 1) := by decide +kernel
theorem dL_law_1191 : decode cL_law 1191 = .ok (.invokevirtual 130, 3) := by decide +kernel
theorem dL_law_1194 : decode cL_law 1194 = .ok (.aload_n 2, 1) := by decide +kernel
theorem dL_law_1195 : decode cL_law 1195 = .ok (.aload_n 0, 1) := by decide +kernel
theorem dL_law_1196 : decode cL_law 1196 = .ok (.iload_n 3, 1) := by decide +kernel
theorem dL_law_1197 : decode cL_law 1197 = .ok (.iconst 1, 1) := by decide +kernel
theorem dL_law_1198 : decode cL_law 1198 = .ok (.iadd, 1) := by decide +kernel
theorem dL_law_1199 : decode cL_law 1199 = .ok (.iaload, 1) := by decide +kernel
theorem dL_law_1200 : decode cL_law 1200 = .ok (.aload_n 0, 1) := by decide +kernel
theorem dL_law_1201 : decode cL_law 1201 = .ok (.iload_n 3, 1) := by decide +kernel
theorem dL_law_1202 : decode cL_law 1202 = .ok (.iconst 2, 1) := by decide +kernel
theorem dL_law_1203 : decode cL_law 1203 = .ok (.iadd, 1) := by decide +kernel
theorem dL_law_1204 : decode cL_law 1204 = .ok (.iaload, 1) := by decide +kernel
theorem dL_law_1205 : decode cL_law 1205 = .ok (.aload_n 0, 1) := by decide +kernel
theorem dL_law_1206 : decode cL_law 1206 = .ok (.iload_n 3, 1) := by decide +kernel
theorem dL_law_1207 : decode cL_law 1207 = .ok (.iconst 3, 1) := by decide +kernel
theorem dL_law_1208 : decode cL_law 1208 = .ok (.iadd, 1) := by decide +kernel
theorem dL_law_1209 : decode cL_law 1209 = .ok (.iaload, 1) := by decide +kernel
theorem dL_law_1210 : decode cL_law 1210 = .ok (.invokevirtual 133, 3) := by decide +kernel
theorem dL_law_1213 : decode cL_law 1213 = .ok (.if_icmp .eq 302, 3) := by decide +kernel
theorem dL_law_1216 : decode cL_law 1216 = .ok (.iconst 0, 1) := by decide +kernel
theorem dL_law_1217 : decode cL_law 1217 = .ok (.ireturn, 1) := by decide +kernel
theorem dL_law_1218 : decode cL_law 1218 = .ok (.aload_n 1, 1) := by decide +kernel
theorem dL_law_1219 : decode cL_law 1219 = .ok (.aload_n 0, 1) := by decide +kernel
theorem dL_law_1220 : decode cL_law 1220 = .ok (.iload_n 3, 1) := by decide +kernel
theorem dL_law_1221 : decode cL_law 1221 = .ok (.iconst 1, 1) := by decide +kernel
theorem dL_law_1222 : decode cL_law 1222 = .ok (.iadd, 1) := by decide +kernel
theorem dL_law_1223 : decode cL_law 1223 = .ok (.iaload, 1) := by decide +kernel
theorem dL_law_1224 : decode cL_law 1224 = .ok (.aload_n 0, 1) := by decide +kernel
theorem dL_law_1225 : decode cL_law 1225 = .ok (.iload_n 3, 1) := by decide +kernel
theorem dL_law_1226 : decode cL_law 1226 = .ok (.iconst 2, 1) := by decide +kernel
theorem dL_law_1227 : decode cL_law 1227 = .ok (.iadd, 1) := by decide +kernel
theorem dL_law_1228 : decode cL_law 1228 = .ok (.iaload, 1) := by decide +kernel
theorem dL_law_1229 : decode cL_law 1229 = .ok (.aload_n 0, 1) := by decide +kernel
theorem dL_law_1230 : decode cL_law 1230 = .ok (.iload_n 3, 1) := by decide +kernel
theorem dL_law_1231 : decode cL_law 1231 = .ok (.iconst 3, 1) := by decide +kernel
theorem dL_law_1232 : decode cL_law 1232 = .ok (.iadd, 1) := by decide +kernel
theorem dL_law_1233 : decode cL_law 1233 = .ok (.iaload, 1) := by decide +kernel
theorem dL_law_1234 : decode cL_law 1234 = .ok (.aload_n 0, 1) := by decide +kernel
theorem dL_law_1235 : decode cL_law 1235 = .ok (.iload_n 3, 1) := by decide +kernel
theorem dL_law_1236 : decode cL_law 1236 = .ok (.iconst 4, 1) := by decide +kernel
theorem dL_law_1237 : decode cL_law 1237 = .ok (.iadd, 1) := by decide +kernel
theorem dL_law_1238 : decode cL_law 1238 = .ok (.iaload, 1) := by decide +kernel
theorem dL_law_1239 : decode cL_law 1239 = .ok (.aload_n 0, 1) := by decide +kernel
theorem dL_law_1240 : decode cL_law 1240 = .ok (.iload_n 3, 1) := by decide +kernel
theorem dL_law_1241 : decode cL_law 1241 = .ok (.iconst 5, 1) := by decide +kernel
theorem dL_law_1242 : decode cL_law 1242 = .ok (.iadd, 1) := by decide +kernel
theorem dL_law_1243 : decode cL_law 1243 = .ok (.iaload, 1) := by decide +kernel
theorem dL_law_1244 : decode cL_law 1244 = .ok (.aload_n 0, 1) := by decide +kernel
theorem dL_law_1245 : decode cL_law 1245 = .ok (.iload_n 3, 1) := by decide +kernel
theorem dL_law_1246 : decode cL_law 1246 = .ok (.bipush 6, 2) := by decide +kernel
theorem dL_law_1248 : decode cL_law 1248 = .ok (.iadd, 1) := by decide +kernel
theorem dL_law_1249 : decode cL_law 1249 = .ok (.iaload, 1) := by decide +kernel
theorem dL_law_1250 : decode cL_law 1250 = .ok (.invokevirtual 134, 3) := by decide +kernel
theorem dL_law_1253 : decode cL_law 1253 = .ok (.aload_n 2, 1) := by decide +kernel
theorem dL_law_1254 : decode cL_law 1254 = .ok (.aload_n 0, 1) := by decide +kernel
theorem dL_law_1255 : decode cL_law 1255 = .ok (.iload_n 3, 1) := by decide +kernel
theorem dL_law_1256 : decode cL_law 1256 = .ok (.iconst 1, 1) := by decide +kernel
theorem dL_law_1257 : decode cL_law 1257 = .ok (.iadd, 1) := by decide +kernel
theorem dL_law_1258 : decode cL_law 1258 = .ok (.iaload, 1) := by decide +kernel
theorem dL_law_1259 : decode cL_law 1259 = .ok (.aload_n 0, 1) := by decide +kernel
theorem dL_law_1260 : decode cL_law 1260 = .ok (.iload_n 3, 1) := by decide +kernel
theorem dL_law_1261 : decode cL_law 1261 = .ok (.iconst 2, 1) := by decide +kernel
theorem dL_law_1262 : decode cL_law 1262 = .ok (.iadd, 1) := by decide +kernel
theorem dL_law_1263 : decode cL_law 1263 = .ok (.iaload, 1) := by decide +kernel
theorem dL_law_1264 : decode cL_law 1264 = .ok (.aload_n 0, 1) := by decide +kernel
theorem dL_law_1265 : decode cL_law 1265 = .ok (.iload_n 3, 1) := by decide +kernel
theorem dL_law_1266 : decode cL_law 1266 = .ok (.iconst 3, 1) := by decide +kernel
theorem dL_law_1267 : decode cL_law 1267 = .ok (.iadd, 1) := by decide +kernel
theorem dL_law_1268 : decode cL_law 1268 = .ok (.iaload, 1) := by decide +kernel
theorem dL_law_1269 : decode cL_law 1269 = .ok (.aload_n 0, 1) := by decide +kernel
theorem dL_law_1270 : decode cL_law 1270 = .ok (.iload_n 3, 1) := by decide +kernel
theorem dL_law_1271 : decode cL_law 1271 = .ok (.iconst 4, 1) := by decide +kernel
theorem dL_law_1272 : decode cL_law 1272 = .ok (.iadd, 1) := by decide +kernel
theorem dL_law_1273 : decode cL_law 1273 = .ok (.iaload, 1) := by decide +kernel
theorem dL_law_1274 : decode cL_law 1274 = .ok (.aload_n 0, 1) := by decide +kernel
theorem dL_law_1275 : decode cL_law 1275 = .ok (.iload_n 3, 1) := by decide +kernel
theorem dL_law_1276 : decode cL_law 1276 = .ok (.iconst 5, 1) := by decide +kernel
theorem dL_law_1277 : decode cL_law 1277 = .ok (.iadd, 1) := by decide +kernel
theorem dL_law_1278 : decode cL_law 1278 = .ok (.iaload, 1) := by decide +kernel
theorem dL_law_1279 : decode cL_law 1279 = .ok (.aload_n 0, 1) := by decide +kernel
theorem dL_law_1280 : decode cL_law 1280 = .ok (.iload_n 3, 1) := by decide +kernel
theorem dL_law_1281 : decode cL_law 1281 = .ok (.bipush 6, 2) := by decide +kernel
theorem dL_law_1283 : decode cL_law 1283 = .ok (.iadd, 1) := by decide +kernel
theorem dL_law_1284 : decode cL_law 1284 = .ok (.iaload, 1) := by decide +kernel
theorem dL_law_1285 : decode cL_law 1285 = .ok (.invokevirtual 138, 3) := by decide +kernel
theorem dL_law_1288 : decode cL_law 1288 = .ok (.lcmp, 1) := by decide +kernel
theorem dL_law_1289 : decode cL_law 1289 = .ok (.ifCond .eq 226, 3) := by decide +kernel
theorem dL_law_1292 : decode cL_law 1292 = .ok (.iconst 0, 1) := by decide +kernel
theorem dL_law_1293 : decode cL_law 1293 = .ok (.ireturn, 1) := by decide +kernel
theorem dL_law_1294 : decode cL_law 1294 = .ok (.aload_n 1, 1) := by decide +kernel
theorem dL_law_1295 : decode cL_law 1295 = .ok (.aload_n 0, 1) := by decide +kernel
theorem dL_law_1296 : decode cL_law 1296 = .ok (.iload_n 3, 1) := by decide +kernel
theorem dL_law_1297 : decode cL_law 1297 = .ok (.iconst 1, 1) := by decide +kernel
theorem dL_law_1298 : decode cL_law 1298 = .ok (.iadd, 1) := by decide +kernel
theorem dL_law_1299 : decode cL_law 1299 = .ok (.iaload, 1) := by decide +kernel
theorem dL_law_1300 : decode cL_law 1300 = .ok (.aload_n 0, 1) := by decide +kernel
theorem dL_law_1301 : decode cL_law 1301 = .ok (.iload_n 3, 1) := by decide +kernel
theorem dL_law_1302 : decode cL_law 1302 = .ok (.iconst 2, 1) := by decide +kernel
theorem dL_law_1303 : decode cL_law 1303 = .ok (.iadd, 1) := by decide +kernel
theorem dL_law_1304 : decode cL_law 1304 = .ok (.iaload, 1) := by decide +kernel
theorem dL_law_1305 : decode cL_law 1305 = .ok (.aload_n 0, 1) := by decide +kernel
theorem dL_law_1306 : decode cL_law 1306 = .ok (.iload_n 3, 1) := by decide +kernel
theorem dL_law_1307 : decode cL_law 1307 = .ok (.iconst 3, 1) := by decide +kernel
theorem dL_law_1308 : decode cL_law 1308 = .ok (.iadd, 1) := by decide +kernel
theorem dL_law_1309 : decode cL_law 1309 = .ok (.iaload, 1) := by decide +kernel
theorem dL_law_1310 : decode cL_law 1310 = .ok (.aload_n 0, 1) := by decide +kernel
theorem dL_law_1311 : decode cL_law 1311 = .ok (.iload_n 3, 1) := by decide +kernel
theorem dL_law_1312 : decode cL_law 1312 = .ok (.iconst 4, 1) := by decide +kernel
theorem dL_law_1313 : decode cL_law 1313 = .ok (.iadd, 1) := by decide +kernel
theorem dL_law_1314 : decode cL_law 1314 = .ok (.iaload, 1) := by decide +kernel
theorem dL_law_1315 : decode cL_law 1315 = .ok (.aload_n 0, 1) := by decide +kernel
theorem dL_law_1316 : decode cL_law 1316 = .ok (.iload_n 3, 1) := by decide +kernel
theorem dL_law_1317 : decode cL_law 1317 = .ok (.iconst 5, 1) := by decide +kernel
theorem dL_law_1318 : decode cL_law 1318 = .ok (.iadd, 1) := by decide +kernel
theorem dL_law_1319 : decode cL_law 1319 = .ok (.iaload, 1) := by decide +kernel
theorem dL_law_1320 : decode cL_law 1320 = .ok (.invokevirtual 139, 3) := by decide +kernel
theorem dL_law_1323 : decode cL_law 1323 = .ok (.aload_n 2, 1) := by decide +kernel
theorem dL_law_1324 : decode cL_law 1324 = .ok (.aload_n 0, 1) := by decide +kernel
theorem dL_law_1325 : decode cL_law 1325 = .ok (.iload_n 3, 1) := by decide +kernel
theorem dL_law_1326 : decode cL_law 1326 = .ok (.iconst 1, 1) := by decide +kernel
theorem dL_law_1327 : decode cL_law 1327 = .ok (.iadd, 1) := by decide +kernel
theorem dL_law_1328 : decode cL_law 1328 = .ok (.iaload, 1) := by decide +kernel
theorem dL_law_1329 : decode cL_law 1329 = .ok (.aload_n 0, 1) := by decide +kernel
theorem dL_law_1330 : decode cL_law 1330 = .ok (.iload_n 3, 1) := by decide +kernel
theorem dL_law_1331 : decode cL_law 1331 = .ok (.iconst 2, 1) := by decide +kernel
theorem dL_law_1332 : decode cL_law 1332 = .ok (.iadd, 1) := by decide +kernel
theorem dL_law_1333 : decode cL_law 1333 = .ok (.iaload, 1) := by decide +kernel
theorem dL_law_1334 : decode cL_law 1334 = .ok (.aload_n 0, 1) := by decide +kernel
theorem dL_law_1335 : decode cL_law 1335 = .ok (.iload_n 3, 1) := by decide +kernel
theorem dL_law_1336 : decode cL_law 1336 = .ok (.iconst 3, 1) := by decide +kernel
theorem dL_law_1337 : decode cL_law 1337 = .ok (.iadd, 1) := by decide +kernel
theorem dL_law_1338 : decode cL_law 1338 = .ok (.iaload, 1) := by decide +kernel
theorem dL_law_1339 : decode cL_law 1339 = .ok (.aload_n 0, 1) := by decide +kernel
theorem dL_law_1340 : decode cL_law 1340 = .ok (.iload_n 3, 1) := by decide +kernel
theorem dL_law_1341 : decode cL_law 1341 = .ok (.iconst 4, 1) := by decide +kernel
theorem dL_law_1342 : decode cL_law 1342 = .ok (.iadd, 1) := by decide +kernel
theorem dL_law_1343 : decode cL_law 1343 = .ok (.iaload, 1) := by decide +kernel
theorem dL_law_1344 : decode cL_law 1344 = .ok (.aload_n 0, 1) := by decide +kernel
theorem dL_law_1345 : decode cL_law 1345 = .ok (.iload_n 3, 1) := by decide +kernel
theorem dL_law_1346 : decode cL_law 1346 = .ok (.iconst 5, 1) := by decide +kernel
theorem dL_law_1347 : decode cL_law 1347 = .ok (.iadd, 1) := by decide +kernel
theorem dL_law_1348 : decode cL_law 1348 = .ok (.iaload, 1) := by decide +kernel
theorem dL_law_1349 : decode cL_law 1349 = .ok (.invokevirtual 142, 3) := by decide +kernel
theorem dL_law_1352 : decode cL_law 1352 = .ok (.if_icmp .eq 163, 3) := by decide +kernel
theorem dL_law_1355 : decode cL_law 1355 = .ok (.iconst 0, 1) := by decide +kernel
theorem dL_law_1356 : decode cL_law 1356 = .ok (.ireturn, 1) := by decide +kernel
theorem dL_law_1357 : decode cL_law 1357 = .ok (.aload_n 1, 1) := by decide +kernel
theorem dL_law_1358 : decode cL_law 1358 = .ok (.aload_n 0, 1) := by decide +kernel
theorem dL_law_1359 : decode cL_law 1359 = .ok (.iload_n 3, 1) := by decide +kernel
theorem dL_law_1360 : decode cL_law 1360 = .ok (.iconst 1, 1) := by decide +kernel
theorem dL_law_1361 : decode cL_law 1361 = .ok (.iadd, 1) := by decide +kernel
theorem dL_law_1362 : decode cL_law 1362 = .ok (.iaload, 1) := by decide +kernel
theorem dL_law_1363 : decode cL_law 1363 = .ok (.aload_n 0, 1) := by decide +kernel
theorem dL_law_1364 : decode cL_law 1364 = .ok (.iload_n 3, 1) := by decide +kernel
theorem dL_law_1365 : decode cL_law 1365 = .ok (.iconst 2, 1) := by decide +kernel
theorem dL_law_1366 : decode cL_law 1366 = .ok (.iadd, 1) := by decide +kernel
theorem dL_law_1367 : decode cL_law 1367 = .ok (.iaload, 1) := by decide +kernel
theorem dL_law_1368 : decode cL_law 1368 = .ok (.aload_n 0, 1) := by decide +kernel
theorem dL_law_1369 : decode cL_law 1369 = .ok (.iload_n 3, 1) := by decide +kernel
theorem dL_law_1370 : decode cL_law 1370 = .ok (.iconst 3, 1) := by decide +kernel
theorem dL_law_1371 : decode cL_law 1371 = .ok (.iadd, 1) := by decide +kernel
theorem dL_law_1372 : decode cL_law 1372 = .ok (.iaload, 1) := by decide +kernel
theorem dL_law_1373 : decode cL_law 1373 = .ok (.invokevirtual 143, 3) := by decide +kernel
theorem dL_law_1376 : decode cL_law 1376 = .ok (.aload_n 2, 1) := by decide +kernel
theorem dL_law_1377 : decode cL_law 1377 = .ok (.aload_n 0, 1) := by decide +kernel
theorem dL_law_1378 : decode cL_law 1378 = .ok (.iload_n 3, 1) := by decide +kernel
theorem dL_law_1379 : decode cL_law 1379 = .ok (.iconst 1, 1) := by decide +kernel
theorem dL_law_1380 : decode cL_law 1380 = .ok (.iadd, 1) := by decide +kernel
theorem dL_law_1381 : decode cL_law 1381 = .ok (.iaload, 1) := by decide +kernel
theorem dL_law_1382 : decode cL_law 1382 = .ok (.aload_n 0, 1) := by decide +kernel
theorem dL_law_1383 : decode cL_law 1383 = .ok (.iload_n 3, 1) := by decide +kernel
theorem dL_law_1384 : decode cL_law 1384 = .ok (.iconst 2, 1) := by decide +kernel
theorem dL_law_1385 : decode cL_law 1385 = .ok (.iadd, 1) := by decide +kernel
theorem dL_law_1386 : decode cL_law 1386 = .ok (.iaload, 1) := by decide +kernel
theorem dL_law_1387 : decode cL_law 1387 = .ok (.aload_n 0, 1) := by decide +kernel
theorem dL_law_1388 : decode cL_law 1388 = .ok (.iload_n 3, 1) := by decide +kernel
theorem dL_law_1389 : decode cL_law 1389 = .ok (.iconst 3, 1) := by decide +kernel
theorem dL_law_1390 : decode cL_law 1390 = .ok (.iadd, 1) := by decide +kernel
theorem dL_law_1391 : decode cL_law 1391 = .ok (.iaload, 1) := by decide +kernel
theorem dL_law_1392 : decode cL_law 1392 = .ok (.invokevirtual 146, 3) := by decide +kernel
theorem dL_law_1395 : decode cL_law 1395 = .ok (.if_icmp .eq 120, 3) := by decide +kernel
theorem dL_law_1398 : decode cL_law 1398 = .ok (.iconst 0, 1) := by decide +kernel
theorem dL_law_1399 : decode cL_law 1399 = .ok (.ireturn, 1) := by decide +kernel
theorem dL_law_1400 : decode cL_law 1400 = .ok (.aload_n 1, 1) := by decide +kernel
theorem dL_law_1401 : decode cL_law 1401 = .ok (.invokevirtual 147, 3) := by decide +kernel
theorem dL_law_1404 : decode cL_law 1404 = .ok (.aload_n 2, 1) := by decide +kernel
theorem dL_law_1405 : decode cL_law 1405 = .ok (.invokevirtual 150, 3) := by decide +kernel
theorem dL_law_1408 : decode cL_law 1408 = .ok (.if_icmp .eq 107, 3) := by decide +kernel
theorem dL_law_1411 : decode cL_law 1411 = .ok (.iconst 0, 1) := by decide +kernel
theorem dL_law_1412 : decode cL_law 1412 = .ok (.ireturn, 1) := by decide +kernel
theorem dL_law_1413 : decode cL_law 1413 = .ok (.aload_n 1, 1) := by decide +kernel
theorem dL_law_1414 : decode cL_law 1414 = .ok (.aload_n 0, 1) := by decide +kernel
theorem dL_law_1415 : decode cL_law 1415 = .ok (.iload_n 3, 1) := by decide +kernel
theorem dL_law_1416 : decode cL_law 1416 = .ok (.iconst 1, 1) := by decide +kernel
theorem dL_law_1417 : decode cL_law 1417 = .ok (.iadd, 1) := by decide +kernel
theorem dL_law_1418 : decode cL_law 1418 = .ok (.iaload, 1) := by decide +kernel
theorem dL_law_1419 : decode cL_law 1419 = .ok (.invokevirtual 151, 3) := by decide +kernel
theorem dL_law_1422 : decode cL_law 1422 = .ok (.aload_n 2, 1) := by decide +kernel
theorem dL_law_1423 : decode cL_law 1423 = .ok (.aload_n 0, 1) := by decide +kernel
theorem dL_law_1424 : decode cL_law 1424 = .ok (.iload_n 3, 1) := by decide +kernel
theorem dL_law_1425 : decode cL_law 1425 = .ok (.iconst 1, 1) := by decide +kernel
theorem dL_law_1426 : decode cL_law 1426 = .ok (.iadd, 1) := by decide +kernel
theorem dL_law_1427 : decode cL_law 1427 = .ok (.iaload, 1) := by decide +kernel
theorem dL_law_1428 : decode cL_law 1428 = .ok (.invokevirtual 154, 3) := by decide +kernel
theorem dL_law_1431 : decode cL_law 1431 = .ok (.if_icmp .eq 84, 3) := by decide +kernel
theorem dL_law_1434 : decode cL_law 1434 = .ok (.iconst 0, 1) := by decide +kernel
theorem dL_law_1435 : decode cL_law 1435 = .ok (.ireturn, 1) := by decide +kernel
theorem dL_law_1436 : decode cL_law 1436 = .ok (.aload_n 1, 1) := by decide +kernel
theorem dL_law_1437 : decode cL_law 1437 = .ok (.aload_n 0, 1) := by decide +kernel
theorem dL_law_1438 : decode cL_law 1438 = .ok (.iload_n 3, 1) := by decide +kernel
theorem dL_law_1439 : decode cL_law 1439 = .ok (.iconst 1, 1) := by decide +kernel
