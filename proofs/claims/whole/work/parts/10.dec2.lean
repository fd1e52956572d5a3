theorem dX4_callIn_143 : decode cX4_callIn 143 = .ok (.ifCond .ne 8, 3) := by decide +kernel
theorem dX4_callIn_146 : decode cX4_callIn 146 = .ok (.iload 10, 2) := by decide +kernel
theorem dX4_callIn_148 : decode cX4_callIn 148 = .ok (.goto 5, 3) := by decide +kernel
theorem dX4_callIn_151 : decode cX4_callIn 151 = .ok (.bipush 60, 2) := by decide +kernel
theorem dX4_callIn_153 : decode cX4_callIn 153 = .ok (.invokevirtual 67, 3) := by decide +kernel
theorem dX4_callIn_156 : decode cX4_callIn 156 = .ok (.i2l, 1) := by decide +kernel
theorem dX4_callIn_157 : decode cX4_callIn 157 = .ok (.lmul, 1) := by decide +kernel
theorem dX4_callIn_158 : decode cX4_callIn 158 = .ok (.ladd, 1) := by decide +kernel
theorem dX4_callIn_159 : decode cX4_callIn 159 = .ok (.lstore 6, 2) := by decide +kernel
theorem dX4_callIn_161 : decode cX4_callIn 161 = .ok (.iinc 11 1, 3) := by decide +kernel
theorem dX4_callIn_164 : decode cX4_callIn 164 = .ok (.goto (-48), 3) := by decide +kernel
theorem dX4_callIn_167 : decode cX4_callIn 167 = .ok (.iinc 9 1, 3) := by decide +kernel
theorem dX4_callIn_170 : decode cX4_callIn 170 = .ok (.goto (-93), 3) := by decide +kernel
theorem dX4_callIn_173 : decode cX4_callIn 173 = .ok (.iinc 8 (-1), 3) := by decide +kernel
theorem dX4_callIn_176 : decode cX4_callIn 176 = .ok (.goto (-116), 3) := by decide +kernel
theorem dX4_callIn_179 : decode cX4_callIn 179 = .ok (.lload 6, 2) := by decide +kernel
theorem dX4_callIn_181 : decode cX4_callIn 181 = .ok (.lreturn, 1) := by decide +kernel
theorem dX4_useOn_0 : decode cX4_useOn 0 = .ok (.iload_n 2, 1) := by decide +kernel
theorem dX4_useOn_1 : decode cX4_useOn 1 = .ok (.istore_n 3, 1) := by decide +kernel
theorem dX4_useOn_2 : decode cX4_useOn 2 = .ok (.iconst 0, 1) := by decide +kernel
theorem dX4_useOn_3 : decode cX4_useOn 3 = .ok (.istore 4, 2) := by decide +kernel
theorem dX4_useOn_5 : decode cX4_useOn 5 = .ok (.iload 4, 2) := by decide +kernel
theorem dX4_useOn_7 : decode cX4_useOn 7 = .ok (.iload_n 1, 1) := by decide +kernel
theorem dX4_useOn_8 : decode cX4_useOn 8 = .ok (.if_icmp .gt 31, 3) := by decide +kernel
theorem dX4_useOn_11 : decode cX4_useOn 11 = .ok (.iload 4, 2) := by decide +kernel
theorem dX4_useOn_13 : decode cX4_useOn 13 = .ok (.aload_n 0, 1) := by decide +kernel
theorem dX4_useOn_14 : decode cX4_useOn 14 = .ok (.getfield 27, 3) := by decide +kernel
theorem dX4_useOn_17 : decode cX4_useOn 17 = .ok (.arraylength, 1) := by decide +kernel
theorem dX4_useOn_18 : decode cX4_useOn 18 = .ok (.if_icmp .ge 21, 3) := by decide +kernel
theorem dX4_useOn_21 : decode cX4_useOn 21 = .ok (.iload_n 3, 1) := by decide +kernel
theorem dX4_useOn_22 : decode cX4_useOn 22 = .ok (.aload_n 0, 1) := by decide +kernel
theorem dX4_useOn_23 : decode cX4_useOn 23 = .ok (.getfield 27, 3) := by decide +kernel
theorem dX4_useOn_26 : decode cX4_useOn 26 = .ok (.iload 4, 2) := by decide +kernel
theorem dX4_useOn_28 : decode cX4_useOn 28 = .ok (.iaload, 1) := by decide +kernel
theorem dX4_useOn_29 : decode cX4_useOn 29 = .ok (.invokestatic 50, 3) := by decide +kernel
theorem dX4_useOn_32 : decode cX4_useOn 32 = .ok (.istore_n 3, 1) := by decide +kernel
theorem dX4_useOn_33 : decode cX4_useOn 33 = .ok (.iinc 4 1, 3) := by decide +kernel
theorem dX4_useOn_36 : decode cX4_useOn 36 = .ok (.goto (-31), 3) := by decide +kernel
theorem dX4_useOn_39 : decode cX4_useOn 39 = .ok (.iconst 0, 1) := by decide +kernel
theorem dX4_useOn_40 : decode cX4_useOn 40 = .ok (.istore 4, 2) := by decide +kernel
theorem dX4_useOn_42 : decode cX4_useOn 42 = .ok (.iload 4, 2) := by decide +kernel
theorem dX4_useOn_44 : decode cX4_useOn 44 = .ok (.iload_n 1, 1) := by decide +kernel
theorem dX4_useOn_45 : decode cX4_useOn 45 = .ok (.if_icmp .gt 30, 3) := by decide +kernel
theorem dX4_useOn_48 : decode cX4_useOn 48 = .ok (.iload 4, 2) := by decide +kernel
theorem dX4_useOn_50 : decode cX4_useOn 50 = .ok (.aload_n 0, 1) := by decide +kernel
theorem dX4_useOn_51 : decode cX4_useOn 51 = .ok (.getfield 27, 3) := by decide +kernel
theorem dX4_useOn_54 : decode cX4_useOn 54 = .ok (.arraylength, 1) := by decide +kernel
theorem dX4_useOn_55 : decode cX4_useOn 55 = .ok (.if_icmp .ge 20, 3) := by decide +kernel
theorem dX4_useOn_58 : decode cX4_useOn 58 = .ok (.aload_n 0, 1) := by decide +kernel
theorem dX4_useOn_59 : decode cX4_useOn 59 = .ok (.getfield 27, 3) := by decide +kernel
theorem dX4_useOn_62 : decode cX4_useOn 62 = .ok (.iload 4, 2) := by decide +kernel
theorem dX4_useOn_64 : decode cX4_useOn 64 = .ok (.dup2, 1) := by decide +kernel
theorem dX4_useOn_65 : decode cX4_useOn 65 = .ok (.iaload, 1) := by decide +kernel
theorem dX4_useOn_66 : decode cX4_useOn 66 = .ok (.iload_n 3, 1) := by decide +kernel
theorem dX4_useOn_67 : decode cX4_useOn 67 = .ok (.isub, 1) := by decide +kernel
theorem dX4_useOn_68 : decode cX4_useOn 68 = .ok (.iastore, 1) := by decide +kernel
theorem dX4_useOn_69 : decode cX4_useOn 69 = .ok (.iinc 4 1, 3) := by decide +kernel
theorem dX4_useOn_72 : decode cX4_useOn 72 = .ok (.goto (-30), 3) := by decide +kernel
theorem dX4_useOn_75 : decode cX4_useOn 75 = .ok (.iload_n 3, 1) := by decide +kernel
theorem dX4_useOn_76 : decode cX4_useOn 76 = .ok (.ireturn, 1) := by decide +kernel
theorem dX4_firstWrong_0 : decode cX4_firstWrong 0 = .ok (.iconst 0, 1) := by decide +kernel
theorem dX4_firstWrong_1 : decode cX4_firstWrong 1 = .ok (.istore 4, 2) := by decide +kernel
theorem dX4_firstWrong_3 : decode cX4_firstWrong 3 = .ok (.iconst 0, 1) := by decide +kernel
theorem dX4_firstWrong_4 : decode cX4_firstWrong 4 = .ok (.istore 5, 2) := by decide +kernel
theorem dX4_firstWrong_6 : decode cX4_firstWrong 6 = .ok (.iload 5, 2) := by decide +kernel
theorem dX4_firstWrong_8 : decode cX4_firstWrong 8 = .ok (.aload_n 0, 1) := by decide +kernel
theorem dX4_firstWrong_9 : decode cX4_firstWrong 9 = .ok (.getfield 30, 3) := by decide +kernel
theorem dX4_firstWrong_12 : decode cX4_firstWrong 12 = .ok (.if_icmp .ge 123, 3) := by decide +kernel
theorem dX4_firstWrong_15 : decode cX4_firstWrong 15 = .ok (.iload 5, 2) := by decide +kernel
theorem dX4_firstWrong_17 : decode cX4_firstWrong 17 = .ok (.bipush 60, 2) := by decide +kernel
theorem dX4_firstWrong_19 : decode cX4_firstWrong 19 = .ok (.if_icmp .ge 116, 3) := by decide +kernel
theorem dX4_firstWrong_22 : decode cX4_firstWrong 22 = .ok (.aload_n 0, 1) := by decide +kernel
theorem dX4_firstWrong_23 : decode cX4_firstWrong 23 = .ok (.iload 5, 2) := by decide +kernel
theorem dX4_firstWrong_25 : decode cX4_firstWrong 25 = .ok (.iload_n 3, 1) := by decide +kernel
theorem dX4_firstWrong_26 : decode cX4_firstWrong 26 = .ok (.invokevirtual 46, 3) := by decide +kernel
theorem dX4_firstWrong_29 : decode cX4_firstWrong 29 = .ok (.ifCond .ne 6, 3) := by decide +kernel
theorem dX4_firstWrong_32 : decode cX4_firstWrong 32 = .ok (.goto 97, 3) := by decide +kernel
theorem dX4_firstWrong_35 : decode cX4_firstWrong 35 = .ok (.iload 4, 2) := by decide +kernel
theorem dX4_firstWrong_37 : decode cX4_firstWrong 37 = .ok (.iload_n 2, 1) := by decide +kernel
theorem dX4_firstWrong_38 : decode cX4_firstWrong 38 = .ok (.iconst 4, 1) := by decide +kernel
theorem dX4_firstWrong_39 : decode cX4_firstWrong 39 = .ok (.imul, 1) := by decide +kernel
theorem dX4_firstWrong_40 : decode cX4_firstWrong 40 = .ok (.if_icmp .ge 14, 3) := by decide +kernel
theorem dX4_firstWrong_43 : decode cX4_firstWrong 43 = .ok (.aload_n 1, 1) := by decide +kernel
theorem dX4_firstWrong_44 : decode cX4_firstWrong 44 = .ok (.iload 4, 2) := by decide +kernel
theorem dX4_firstWrong_46 : decode cX4_firstWrong 46 = .ok (.invokevirtual 70, 3) := by decide +kernel
theorem dX4_firstWrong_49 : decode cX4_firstWrong 49 = .ok (.iload 5, 2) := by decide +kernel
theorem dX4_firstWrong_51 : decode cX4_firstWrong 51 = .ok (.if_icmp .eq 6, 3) := by decide +kernel
theorem dX4_firstWrong_54 : decode cX4_firstWrong 54 = .ok (.iload 4, 2) := by decide +kernel
theorem dX4_firstWrong_56 : decode cX4_firstWrong 56 = .ok (.ireturn, 1) := by decide +kernel
theorem dX4_firstWrong_57 : decode cX4_firstWrong 57 = .ok (.aload_n 1, 1) := by decide +kernel
theorem dX4_firstWrong_58 : decode cX4_firstWrong 58 = .ok (.iload 4, 2) := by decide +kernel
theorem dX4_firstWrong_60 : decode cX4_firstWrong 60 = .ok (.iconst 1, 1) := by decide +kernel
theorem dX4_firstWrong_61 : decode cX4_firstWrong 61 = .ok (.iadd, 1) := by decide +kernel
theorem dX4_firstWrong_62 : decode cX4_firstWrong 62 = .ok (.invokevirtual 70, 3) := by decide +kernel
theorem dX4_firstWrong_65 : decode cX4_firstWrong 65 = .ok (.aload_n 0, 1) := by decide +kernel
theorem dX4_firstWrong_66 : decode cX4_firstWrong 66 = .ok (.getfield 9, 3) := by decide +kernel
theorem dX4_firstWrong_69 : decode cX4_firstWrong 69 = .ok (.iload 5, 2) := by decide +kernel
theorem dX4_firstWrong_71 : decode cX4_firstWrong 71 = .ok (.iaload, 1) := by decide +kernel
theorem dX4_firstWrong_72 : decode cX4_firstWrong 72 = .ok (.if_icmp .eq 8, 3) := by decide +kernel
theorem dX4_firstWrong_75 : decode cX4_firstWrong 75 = .ok (.iload 4, 2) := by decide +kernel
theorem dX4_firstWrong_77 : decode cX4_firstWrong 77 = .ok (.iconst 1, 1) := by decide +kernel
theorem dX4_firstWrong_78 : decode cX4_firstWrong 78 = .ok (.iadd, 1) := by decide +kernel
theorem dX4_firstWrong_79 : decode cX4_firstWrong 79 = .ok (.ireturn, 1) := by decide +kernel
theorem dX4_firstWrong_80 : decode cX4_firstWrong 80 = .ok (.aload_n 1, 1) := by decide +kernel
theorem dX4_firstWrong_81 : decode cX4_firstWrong 81 = .ok (.iload 4, 2) := by decide +kernel
theorem dX4_firstWrong_83 : decode cX4_firstWrong 83 = .ok (.iconst 2, 1) := by decide +kernel
theorem dX4_firstWrong_84 : decode cX4_firstWrong 84 = .ok (.iadd, 1) := by decide +kernel
theorem dX4_firstWrong_85 : decode cX4_firstWrong 85 = .ok (.invokevirtual 70, 3) := by decide +kernel
theorem dX4_firstWrong_88 : decode cX4_firstWrong 88 = .ok (.aload_n 0, 1) := by decide +kernel
theorem dX4_firstWrong_89 : decode cX4_firstWrong 89 = .ok (.getfield 15, 3) := by decide +kernel
theorem dX4_firstWrong_92 : decode cX4_firstWrong 92 = .ok (.iload 5, 2) := by decide +kernel
theorem dX4_firstWrong_94 : decode cX4_firstWrong 94 = .ok (.iaload, 1) := by decide +kernel
theorem dX4_firstWrong_95 : decode cX4_firstWrong 95 = .ok (.if_icmp .eq 8, 3) := by decide +kernel
theorem dX4_firstWrong_98 : decode cX4_firstWrong 98 = .ok (.iload 4, 2) := by decide +kernel
theorem dX4_firstWrong_100 : decode cX4_firstWrong 100 = .ok (.iconst 2, 1) := by decide +kernel
theorem dX4_firstWrong_101 : decode cX4_firstWrong 101 = .ok (.iadd, 1) := by decide +kernel
theorem dX4_firstWrong_102 : decode cX4_firstWrong 102 = .ok (.ireturn, 1) := by decide +kernel
theorem dX4_firstWrong_103 : decode cX4_firstWrong 103 = .ok (.aload_n 1, 1) := by decide +kernel
theorem dX4_firstWrong_104 : decode cX4_firstWrong 104 = .ok (.iload 4, 2) := by decide +kernel
theorem dX4_firstWrong_106 : decode cX4_firstWrong 106 = .ok (.iconst 3, 1) := by decide +kernel
theorem dX4_firstWrong_107 : decode cX4_firstWrong 107 = .ok (.iadd, 1) := by decide +kernel
theorem dX4_firstWrong_108 : decode cX4_firstWrong 108 = .ok (.invokevirtual 70, 3) := by decide +kernel
theorem dX4_firstWrong_111 : decode cX4_firstWrong 111 = .ok (.aload_n 0, 1) := by decide +kernel
theorem dX4_firstWrong_112 : decode cX4_firstWrong 112 = .ok (.getfield 18, 3) := by decide +kernel
theorem dX4_firstWrong_115 : decode cX4_firstWrong 115 = .ok (.iload 5, 2) := by decide +kernel
theorem dX4_firstWrong_117 : decode cX4_firstWrong 117 = .ok (.iaload, 1) := by decide +kernel
theorem dX4_firstWrong_118 : decode cX4_firstWrong 118 = .ok (.if_icmp .eq 8, 3) := by decide +kernel
theorem dX4_firstWrong_121 : decode cX4_firstWrong 121 = .ok (.iload 4, 2) := by decide +kernel
theorem dX4_firstWrong_123 : decode cX4_firstWrong 123 = .ok (.iconst 3, 1) := by decide +kernel
theorem dX4_firstWrong_124 : decode cX4_firstWrong 124 = .ok (.iadd, 1) := by decide +kernel
theorem dX4_firstWrong_125 : decode cX4_firstWrong 125 = .ok (.ireturn, 1) := by decide +kernel
theorem dX4_firstWrong_126 : decode cX4_firstWrong 126 = .ok (.iinc 4 4, 3) := by decide +kernel
theorem dX4_firstWrong_129 : decode cX4_firstWrong 129 = .ok (.iinc 5 1, 3) := by decide +kernel
theorem dX4_firstWrong_132 : decode cX4_firstWrong 132 = .ok (.goto (-126), 3) := by decide +kernel
theorem dX4_firstWrong_135 : decode cX4_firstWrong 135 = .ok (.iload 4, 2) := by decide +kernel
theorem dX4_firstWrong_137 : decode cX4_firstWrong 137 = .ok (.iload_n 2, 1) := by decide +kernel
theorem dX4_firstWrong_138 : decode cX4_firstWrong 138 = .ok (.iconst 4, 1) := by decide +kernel
theorem dX4_firstWrong_139 : decode cX4_firstWrong 139 = .ok (.imul, 1) := by decide +kernel
theorem dX4_firstWrong_140 : decode cX4_firstWrong 140 = .ok (.if_icmp .ge 8, 3) := by decide +kernel
theorem dX4_firstWrong_143 : decode cX4_firstWrong 143 = .ok (.iload 4, 2) := by decide +kernel
theorem dX4_firstWrong_145 : decode cX4_firstWrong 145 = .ok (.goto 4, 3) := by decide +kernel
theorem dX4_firstWrong_148 : decode cX4_firstWrong 148 = .ok (.iconst (-1), 1) := by decide +kernel
theorem dX4_firstWrong_149 : decode cX4_firstWrong 149 = .ok (.ireturn, 1) := by decide +kernel
theorem dX5_init_0 : decode cX5_init 0 = .ok (.aload_n 0, 1) := by decide +kernel
theorem dX5_init_1 : decode cX5_init 1 = .ok (.invokespecial 3, 3) := by decide +kernel
theorem dX5_init_4 : decode cX5_init 4 = .ok (.aload_n 0, 1) := by decide +kernel
theorem dX5_init_5 : decode cX5_init 5 = .ok (.sipush 192, 3) := by decide +kernel
theorem dX5_init_8 : decode cX5_init 8 = .ok (.newarray .int, 2) := by decide +kernel
theorem dX5_init_10 : decode cX5_init 10 = .ok (.putfield 9, 3) := by decide +kernel
theorem dX5_init_13 : decode cX5_init 13 = .ok (.aload_n 0, 1) := by decide +kernel
theorem dX5_init_14 : decode cX5_init 14 = .ok (.sipush 192, 3) := by decide +kernel
theorem dX5_init_17 : decode cX5_init 17 = .ok (.newarray .int, 2) := by decide +kernel
theorem dX5_init_19 : decode cX5_init 19 = .ok (.putfield 15, 3) := by decide +kernel
theorem dX5_init_22 : decode cX5_init 22 = .ok (.aload_n 0, 1) := by decide +kernel
theorem dX5_init_23 : decode cX5_init 23 = .ok (.sipush 192, 3) := by decide +kernel
theorem dX5_init_26 : decode cX5_init 26 = .ok (.newarray .int, 2) := by decide +kernel
theorem dX5_init_28 : decode cX5_init 28 = .ok (.putfield 18, 3) := by decide +kernel
theorem dX5_init_31 : decode cX5_init 31 = .ok (.aload_n 0, 1) := by decide +kernel
theorem dX5_init_32 : decode cX5_init 32 = .ok (.getfield 9, 3) := by decide +kernel
theorem dX5_init_35 : decode cX5_init 35 = .ok (.iconst 1, 1) := by decide +kernel
theorem dX5_init_36 : decode cX5_init 36 = .ok (.invokestatic 21, 3) := by decide +kernel
theorem dX5_init_39 : decode cX5_init 39 = .ok (.return_, 1) := by decide +kernel
theorem dX5_slot_0 : decode cX5_slot 0 = .ok (.iload_n 0, 1) := by decide +kernel
theorem dX5_slot_1 : decode cX5_slot 1 = .ok (.ifCond .lt 28, 3) := by decide +kernel
theorem dX5_slot_4 : decode cX5_slot 4 = .ok (.iload_n 0, 1) := by decide +kernel
theorem dX5_slot_5 : decode cX5_slot 5 = .ok (.bipush 8, 2) := by decide +kernel
theorem dX5_slot_7 : decode cX5_slot 7 = .ok (.if_icmp .ge 22, 3) := by decide +kernel
theorem dX5_slot_10 : decode cX5_slot 10 = .ok (.iload_n 1, 1) := by decide +kernel
theorem dX5_slot_11 : decode cX5_slot 11 = .ok (.ifCond .lt 18, 3) := by decide +kernel
theorem dX5_slot_14 : decode cX5_slot 14 = .ok (.iload_n 1, 1) := by decide +kernel
theorem dX5_slot_15 : decode cX5_slot 15 = .ok (.bipush 24, 2) := by decide +kernel
theorem dX5_slot_17 : decode cX5_slot 17 = .ok (.if_icmp .ge 12, 3) := by decide +kernel
theorem dX5_slot_20 : decode cX5_slot 20 = .ok (.iload_n 0, 1) := by decide +kernel
theorem dX5_slot_21 : decode cX5_slot 21 = .ok (.bipush 24, 2) := by decide +kernel
theorem dX5_slot_23 : decode cX5_slot 23 = .ok (.imul, 1) := by decide +kernel
theorem dX5_slot_24 : decode cX5_slot 24 = .ok (.iload_n 1, 1) := by decide +kernel
theorem dX5_slot_25 : decode cX5_slot 25 = .ok (.iadd, 1) := by decide +kernel
theorem dX5_slot_26 : decode cX5_slot 26 = .ok (.goto 4, 3) := by decide +kernel
theorem dX5_slot_29 : decode cX5_slot 29 = .ok (.iconst (-1), 1) := by decide +kernel
theorem dX5_slot_30 : decode cX5_slot 30 = .ok (.ireturn, 1) := by decide +kernel
theorem dX5_add_0 : decode cX5_add 0 = .ok (.iload_n 1, 1) := by decide +kernel
theorem dX5_add_1 : decode cX5_add 1 = .ok (.ifCond .lt 16, 3) := by decide +kernel
theorem dX5_add_4 : decode cX5_add 4 = .ok (.iload_n 1, 1) := by decide +kernel
theorem dX5_add_5 : decode cX5_add 5 = .ok (.aload_n 0, 1) := by decide +kernel
theorem dX5_add_6 : decode cX5_add 6 = .ok (.arraylength, 1) := by decide +kernel
theorem dX5_add_7 : decode cX5_add 7 = .ok (.if_icmp .ge 10, 3) := by decide +kernel
theorem dX5_add_10 : decode cX5_add 10 = .ok (.aload_n 0, 1) := by decide +kernel
theorem dX5_add_11 : decode cX5_add 11 = .ok (.iload_n 1, 1) := by decide +kernel
theorem dX5_add_12 : decode cX5_add 12 = .ok (.dup2, 1) := by decide +kernel
theorem dX5_add_13 : decode cX5_add 13 = .ok (.iaload, 1) := by decide +kernel
theorem dX5_add_14 : decode cX5_add 14 = .ok (.iload_n 2, 1) := by decide +kernel
theorem dX5_add_15 : decode cX5_add 15 = .ok (.iadd, 1) := by decide +kernel
theorem dX5_add_16 : decode cX5_add 16 = .ok (.iastore, 1) := by decide +kernel
theorem dX5_add_17 : decode cX5_add 17 = .ok (.return_, 1) := by decide +kernel
theorem dX5_setWorth_0 : decode cX5_setWorth 0 = .ok (.iload_n 1, 1) := by decide +kernel
theorem dX5_setWorth_1 : decode cX5_setWorth 1 = .ok (.iload_n 2, 1) := by decide +kernel
theorem dX5_setWorth_2 : decode cX5_setWorth 2 = .ok (.invokestatic 27, 3) := by decide +kernel
theorem dX5_setWorth_5 : decode cX5_setWorth 5 = .ok (.istore 4, 2) := by decide +kernel
theorem dX5_setWorth_7 : decode cX5_setWorth 7 = .ok (.iload 4, 2) := by decide +kernel
theorem dX5_setWorth_9 : decode cX5_setWorth 9 = .ok (.ifCond .lt 21, 3) := by decide +kernel
theorem dX5_setWorth_12 : decode cX5_setWorth 12 = .ok (.iload 4, 2) := by decide +kernel
theorem dX5_setWorth_14 : decode cX5_setWorth 14 = .ok (.aload_n 0, 1) := by decide +kernel
theorem dX5_setWorth_15 : decode cX5_setWorth 15 = .ok (.getfield 9, 3) := by decide +kernel
theorem dX5_setWorth_18 : decode cX5_setWorth 18 = .ok (.arraylength, 1) := by decide +kernel
theorem dX5_setWorth_19 : decode cX5_setWorth 19 = .ok (.if_icmp .ge 11, 3) := by decide +kernel
theorem dX5_setWorth_22 : decode cX5_setWorth 22 = .ok (.aload_n 0, 1) := by decide +kernel
theorem dX5_setWorth_23 : decode cX5_setWorth 23 = .ok (.getfield 9, 3) := by decide +kernel
theorem dX5_setWorth_26 : decode cX5_setWorth 26 = .ok (.iload 4, 2) := by decide +kernel
theorem dX5_setWorth_28 : decode cX5_setWorth 28 = .ok (.iload_n 3, 1) := by decide +kernel
theorem dX5_setWorth_29 : decode cX5_setWorth 29 = .ok (.iastore, 1) := by decide +kernel
theorem dX5_setWorth_30 : decode cX5_setWorth 30 = .ok (.return_, 1) := by decide +kernel
theorem dX5_worthAt_0 : decode cX5_worthAt 0 = .ok (.iload_n 1, 1) := by decide +kernel
theorem dX5_worthAt_1 : decode cX5_worthAt 1 = .ok (.iload_n 2, 1) := by decide +kernel
theorem dX5_worthAt_2 : decode cX5_worthAt 2 = .ok (.invokestatic 27, 3) := by decide +kernel
theorem dX5_worthAt_5 : decode cX5_worthAt 5 = .ok (.istore_n 3, 1) := by decide +kernel
theorem dX5_worthAt_6 : decode cX5_worthAt 6 = .ok (.iload_n 3, 1) := by decide +kernel
theorem dX5_worthAt_7 : decode cX5_worthAt 7 = .ok (.ifCond .lt 21, 3) := by decide +kernel
theorem dX5_worthAt_10 : decode cX5_worthAt 10 = .ok (.iload_n 3, 1) := by decide +kernel
theorem dX5_worthAt_11 : decode cX5_worthAt 11 = .ok (.aload_n 0, 1) := by decide +kernel
theorem dX5_worthAt_12 : decode cX5_worthAt 12 = .ok (.getfield 9, 3) := by decide +kernel
theorem dX5_worthAt_15 : decode cX5_worthAt 15 = .ok (.arraylength, 1) := by decide +kernel
theorem dX5_worthAt_16 : decode cX5_worthAt 16 = .ok (.if_icmp .ge 12, 3) := by decide +kernel
theorem dX5_worthAt_19 : decode cX5_worthAt 19 = .ok (.aload_n 0, 1) := by decide +kernel
theorem dX5_worthAt_20 : decode cX5_worthAt 20 = .ok (.getfield 9, 3) := by decide +kernel
theorem dX5_worthAt_23 : decode cX5_worthAt 23 = .ok (.iload_n 3, 1) := by decide +kernel
theorem dX5_worthAt_24 : decode cX5_worthAt 24 = .ok (.iaload, 1) := by decide +kernel
theorem dX5_worthAt_25 : decode cX5_worthAt 25 = .ok (.goto 4, 3) := by decide +kernel
theorem dX5_worthAt_28 : decode cX5_worthAt 28 = .ok (.iconst 0, 1) := by decide +kernel
theorem dX5_worthAt_29 : decode cX5_worthAt 29 = .ok (.ireturn, 1) := by decide +kernel
theorem dX5_givenIn_0 : decode cX5_givenIn 0 = .ok (.iload_n 1, 1) := by decide +kernel
theorem dX5_givenIn_1 : decode cX5_givenIn 1 = .ok (.iload_n 2, 1) := by decide +kernel
theorem dX5_givenIn_2 : decode cX5_givenIn 2 = .ok (.invokestatic 27, 3) := by decide +kernel
theorem dX5_givenIn_5 : decode cX5_givenIn 5 = .ok (.istore_n 3, 1) := by decide +kernel
theorem dX5_givenIn_6 : decode cX5_givenIn 6 = .ok (.iload_n 3, 1) := by decide +kernel
theorem dX5_givenIn_7 : decode cX5_givenIn 7 = .ok (.ifCond .lt 21, 3) := by decide +kernel
theorem dX5_givenIn_10 : decode cX5_givenIn 10 = .ok (.iload_n 3, 1) := by decide +kernel
theorem dX5_givenIn_11 : decode cX5_givenIn 11 = .ok (.aload_n 0, 1) := by decide +kernel
theorem dX5_givenIn_12 : decode cX5_givenIn 12 = .ok (.getfield 15, 3) := by decide +kernel
theorem dX5_givenIn_15 : decode cX5_givenIn 15 = .ok (.arraylength, 1) := by decide +kernel
theorem dX5_givenIn_16 : decode cX5_givenIn 16 = .ok (.if_icmp .ge 12, 3) := by decide +kernel
theorem dX5_givenIn_19 : decode cX5_givenIn 19 = .ok (.aload_n 0, 1) := by decide +kernel
theorem dX5_givenIn_20 : decode cX5_givenIn 20 = .ok (.getfield 15, 3) := by decide +kernel
theorem dX5_givenIn_23 : decode cX5_givenIn 23 = .ok (.iload_n 3, 1) := by decide +kernel
theorem dX5_givenIn_24 : decode cX5_givenIn 24 = .ok (.iaload, 1) := by decide +kernel
theorem dX5_givenIn_25 : decode cX5_givenIn 25 = .ok (.goto 4, 3) := by decide +kernel
theorem dX5_givenIn_28 : decode cX5_givenIn 28 = .ok (.iconst 0, 1) := by decide +kernel
theorem dX5_givenIn_29 : decode cX5_givenIn 29 = .ok (.ireturn, 1) := by decide +kernel
theorem dX5_takenIn_0 : decode cX5_takenIn 0 = .ok (.iload_n 1, 1) := by decide +kernel
theorem dX5_takenIn_1 : decode cX5_takenIn 1 = .ok (.iload_n 2, 1) := by decide +kernel
theorem dX5_takenIn_2 : decode cX5_takenIn 2 = .ok (.invokestatic 27, 3) := by decide +kernel
theorem dX5_takenIn_5 : decode cX5_takenIn 5 = .ok (.istore_n 3, 1) := by decide +kernel
theorem dX5_takenIn_6 : decode cX5_takenIn 6 = .ok (.iload_n 3, 1) := by decide +kernel
theorem dX5_takenIn_7 : decode cX5_takenIn 7 = .ok (.ifCond .lt 21, 3) := by decide +kernel
theorem dX5_takenIn_10 : decode cX5_takenIn 10 = .ok (.iload_n 3, 1) := by decide +kernel
theorem dX5_takenIn_11 : decode cX5_takenIn 11 = .ok (.aload_n 0, 1) := by decide +kernel
theorem dX5_takenIn_12 : decode cX5_takenIn 12 = .ok (.getfield 18, 3) := by decide +kernel
theorem dX5_takenIn_15 : decode cX5_takenIn 15 = .ok (.arraylength, 1) := by decide +kernel
theorem dX5_takenIn_16 : decode cX5_takenIn 16 = .ok (.if_icmp .ge 12, 3) := by decide +kernel
theorem dX5_takenIn_19 : decode cX5_takenIn 19 = .ok (.aload_n 0, 1) := by decide +kernel
theorem dX5_takenIn_20 : decode cX5_takenIn 20 = .ok (.getfield 18, 3) := by decide +kernel
theorem dX5_takenIn_23 : decode cX5_takenIn 23 = .ok (.iload_n 3, 1) := by decide +kernel
theorem dX5_takenIn_24 : decode cX5_takenIn 24 = .ok (.iaload, 1) := by decide +kernel
theorem dX5_takenIn_25 : decode cX5_takenIn 25 = .ok (.goto 4, 3) := by decide +kernel
theorem dX5_takenIn_28 : decode cX5_takenIn 28 = .ok (.iconst 0, 1) := by decide +kernel
theorem dX5_takenIn_29 : decode cX5_takenIn 29 = .ok (.ireturn, 1) := by decide +kernel
theorem dX5_countTaking_0 : decode cX5_countTaking 0 = .ok (.aload_n 0, 1) := by decide +kernel
theorem dX5_countTaking_1 : decode cX5_countTaking 1 = .ok (.getfield 15, 3) := by decide +kernel
theorem dX5_countTaking_4 : decode cX5_countTaking 4 = .ok (.iload_n 1, 1) := by decide +kernel
theorem dX5_countTaking_5 : decode cX5_countTaking 5 = .ok (.iload_n 3, 1) := by decide +kernel
theorem dX5_countTaking_6 : decode cX5_countTaking 6 = .ok (.invokestatic 27, 3) := by decide +kernel
theorem dX5_countTaking_9 : decode cX5_countTaking 9 = .ok (.iload 4, 2) := by decide +kernel
theorem dX5_countTaking_11 : decode cX5_countTaking 11 = .ok (.invokestatic 31, 3) := by decide +kernel
theorem dX5_countTaking_14 : decode cX5_countTaking 14 = .ok (.aload_n 0, 1) := by decide +kernel
theorem dX5_countTaking_15 : decode cX5_countTaking 15 = .ok (.getfield 18, 3) := by decide +kernel
theorem dX5_countTaking_18 : decode cX5_countTaking 18 = .ok (.iload_n 2, 1) := by decide +kernel
theorem dX5_countTaking_19 : decode cX5_countTaking 19 = .ok (.iload_n 3, 1) := by decide +kernel
theorem dX5_countTaking_20 : decode cX5_countTaking 20 = .ok (.invokestatic 27, 3) := by decide +kernel
theorem dX5_countTaking_23 : decode cX5_countTaking 23 = .ok (.iload 4, 2) := by decide +kernel
theorem dX5_countTaking_25 : decode cX5_countTaking 25 = .ok (.invokestatic 31, 3) := by decide +kernel
theorem dX5_countTaking_28 : decode cX5_countTaking 28 = .ok (.return_, 1) := by decide +kernel
theorem dX5_emptyHours_0 : decode cX5_emptyHours 0 = .ok (.aload_n 0, 1) := by decide +kernel
theorem dX5_emptyHours_1 : decode cX5_emptyHours 1 = .ok (.getfield 15, 3) := by decide +kernel
theorem dX5_emptyHours_4 : decode cX5_emptyHours 4 = .ok (.iconst 0, 1) := by decide +kernel
theorem dX5_emptyHours_5 : decode cX5_emptyHours 5 = .ok (.invokestatic 21, 3) := by decide +kernel
theorem dX5_emptyHours_8 : decode cX5_emptyHours 8 = .ok (.aload_n 0, 1) := by decide +kernel
theorem dX5_emptyHours_9 : decode cX5_emptyHours 9 = .ok (.getfield 18, 3) := by decide +kernel
theorem dX5_emptyHours_12 : decode cX5_emptyHours 12 = .ok (.iconst 0, 1) := by decide +kernel
theorem dX5_emptyHours_13 : decode cX5_emptyHours 13 = .ok (.invokestatic 21, 3) := by decide +kernel
theorem dX5_emptyHours_16 : decode cX5_emptyHours 16 = .ok (.return_, 1) := by decide +kernel
theorem dX6_init_0 : decode cX6_init 0 = .ok (.aload_n 0, 1) := by decide +kernel
theorem dX6_init_1 : decode cX6_init 1 = .ok (.invokespecial 3, 3) := by decide +kernel
theorem dX6_init_4 : decode cX6_init 4 = .ok (.aload_n 0, 1) := by decide +kernel
theorem dX6_init_5 : decode cX6_init 5 = .ok (.bipush 8, 2) := by decide +kernel
theorem dX6_init_7 : decode cX6_init 7 = .ok (.newarray .int, 2) := by decide +kernel
theorem dX6_init_9 : decode cX6_init 9 = .ok (.putfield 9, 3) := by decide +kernel
theorem dX6_init_12 : decode cX6_init 12 = .ok (.aload_n 0, 1) := by decide +kernel
theorem dX6_init_13 : decode cX6_init 13 = .ok (.bipush 25, 2) := by decide +kernel
theorem dX6_init_15 : decode cX6_init 15 = .ok (.newarray .long, 2) := by decide +kernel
theorem dX6_init_17 : decode cX6_init 17 = .ok (.putfield 15, 3) := by decide +kernel
theorem dX6_init_20 : decode cX6_init 20 = .ok (.aload_n 0, 1) := by decide +kernel
theorem dX6_init_21 : decode cX6_init 21 = .ok (.new 19, 3) := by decide +kernel
theorem dX6_init_24 : decode cX6_init 24 = .ok (.dup, 1) := by decide +kernel
theorem dX6_init_25 : decode cX6_init 25 = .ok (.invokespecial 21, 3) := by decide +kernel
theorem dX6_init_28 : decode cX6_init 28 = .ok (.putfield 22, 3) := by decide +kernel
theorem dX6_init_31 : decode cX6_init 31 = .ok (.aload_n 0, 1) := by decide +kernel
theorem dX6_init_32 : decode cX6_init 32 = .ok (.new 19, 3) := by decide +kernel
theorem dX6_init_35 : decode cX6_init 35 = .ok (.dup, 1) := by decide +kernel
theorem dX6_init_36 : decode cX6_init 36 = .ok (.invokespecial 21, 3) := by decide +kernel
theorem dX6_init_39 : decode cX6_init 39 = .ok (.putfield 26, 3) := by decide +kernel
theorem dX6_init_42 : decode cX6_init 42 = .ok (.aload_n 0, 1) := by decide +kernel
theorem dX6_init_43 : decode cX6_init 43 = .ok (.new 19, 3) := by decide +kernel
theorem dX6_init_46 : decode cX6_init 46 = .ok (.dup, 1) := by decide +kernel
theorem dX6_init_47 : decode cX6_init 47 = .ok (.invokespecial 21, 3) := by decide +kernel
theorem dX6_init_50 : decode cX6_init 50 = .ok (.putfield 29, 3) := by decide +kernel
theorem dX6_init_53 : decode cX6_init 53 = .ok (.aload_n 0, 1) := by decide +kernel
theorem dX6_init_54 : decode cX6_init 54 = .ok (.aload_n 1, 1) := by decide +kernel
theorem dX6_init_55 : decode cX6_init 55 = .ok (.putfield 32, 3) := by decide +kernel
theorem dX6_init_58 : decode cX6_init 58 = .ok (.aload_n 0, 1) := by decide +kernel
theorem dX6_init_59 : decode cX6_init 59 = .ok (.aload_n 2, 1) := by decide +kernel
theorem dX6_init_60 : decode cX6_init 60 = .ok (.putfield 36, 3) := by decide +kernel
theorem dX6_init_63 : decode cX6_init 63 = .ok (.return_, 1) := by decide +kernel
theorem dX6_aheadOf_0 : decode cX6_aheadOf 0 = .ok (.iload_n 1, 1) := by decide +kernel
theorem dX6_aheadOf_1 : decode cX6_aheadOf 1 = .ok (.ifCond .lt 21, 3) := by decide +kernel
theorem dX6_aheadOf_4 : decode cX6_aheadOf 4 = .ok (.iload_n 1, 1) := by decide +kernel
theorem dX6_aheadOf_5 : decode cX6_aheadOf 5 = .ok (.aload_n 0, 1) := by decide +kernel
theorem dX6_aheadOf_6 : decode cX6_aheadOf 6 = .ok (.getfield 9, 3) := by decide +kernel
theorem dX6_aheadOf_9 : decode cX6_aheadOf 9 = .ok (.arraylength, 1) := by decide +kernel
theorem dX6_aheadOf_10 : decode cX6_aheadOf 10 = .ok (.if_icmp .ge 12, 3) := by decide +kernel
theorem dX6_aheadOf_13 : decode cX6_aheadOf 13 = .ok (.aload_n 0, 1) := by decide +kernel
theorem dX6_aheadOf_14 : decode cX6_aheadOf 14 = .ok (.getfield 9, 3) := by decide +kernel
theorem dX6_aheadOf_17 : decode cX6_aheadOf 17 = .ok (.iload_n 1, 1) := by decide +kernel
theorem dX6_aheadOf_18 : decode cX6_aheadOf 18 = .ok (.iaload, 1) := by decide +kernel
theorem dX6_aheadOf_19 : decode cX6_aheadOf 19 = .ok (.goto 4, 3) := by decide +kernel
theorem dX6_aheadOf_22 : decode cX6_aheadOf 22 = .ok (.iconst (-1), 1) := by decide +kernel
theorem dX6_aheadOf_23 : decode cX6_aheadOf 23 = .ok (.ireturn, 1) := by decide +kernel
theorem dX6_comeToRest_0 : decode cX6_comeToRest 0 = .ok (.aload_n 0, 1) := by decide +kernel
theorem dX6_comeToRest_1 : decode cX6_comeToRest 1 = .ok (.getfield 9, 3) := by decide +kernel
theorem dX6_comeToRest_4 : decode cX6_comeToRest 4 = .ok (.iconst 0, 1) := by decide +kernel
theorem dX6_comeToRest_5 : decode cX6_comeToRest 5 = .ok (.invokestatic 40, 3) := by decide +kernel
theorem dX6_comeToRest_8 : decode cX6_comeToRest 8 = .ok (.iconst 1, 1) := by decide +kernel
theorem dX6_comeToRest_9 : decode cX6_comeToRest 9 = .ok (.istore_n 3, 1) := by decide +kernel
theorem dX6_comeToRest_10 : decode cX6_comeToRest 10 = .ok (.iload_n 3, 1) := by decide +kernel
theorem dX6_comeToRest_11 : decode cX6_comeToRest 11 = .ok (.bipush 30, 2) := by decide +kernel
theorem dX6_comeToRest_13 : decode cX6_comeToRest 13 = .ok (.if_icmp .gt 84, 3) := by decide +kernel
theorem dX6_comeToRest_16 : decode cX6_comeToRest 16 = .ok (.iconst 0, 1) := by decide +kernel
theorem dX6_comeToRest_17 : decode cX6_comeToRest 17 = .ok (.istore 4, 2) := by decide +kernel
theorem dX6_comeToRest_19 : decode cX6_comeToRest 19 = .ok (.iconst 0, 1) := by decide +kernel
theorem dX6_comeToRest_20 : decode cX6_comeToRest 20 = .ok (.istore 5, 2) := by decide +kernel
theorem dX6_comeToRest_22 : decode cX6_comeToRest 22 = .ok (.iload 5, 2) := by decide +kernel
theorem dX6_comeToRest_24 : decode cX6_comeToRest 24 = .ok (.aload_n 0, 1) := by decide +kernel
theorem dX6_comeToRest_25 : decode cX6_comeToRest 25 = .ok (.getfield 9, 3) := by decide +kernel
theorem dX6_comeToRest_28 : decode cX6_comeToRest 28 = .ok (.arraylength, 1) := by decide +kernel
theorem dX6_comeToRest_29 : decode cX6_comeToRest 29 = .ok (.if_icmp .ge 55, 3) := by decide +kernel
theorem dX6_comeToRest_32 : decode cX6_comeToRest 32 = .ok (.aload_n 1, 1) := by decide +kernel
theorem dX6_comeToRest_33 : decode cX6_comeToRest 33 = .ok (.iload 5, 2) := by decide +kernel
theorem dX6_comeToRest_35 : decode cX6_comeToRest 35 = .ok (.invokevirtual 46, 3) := by decide +kernel
theorem dX6_comeToRest_38 : decode cX6_comeToRest 38 = .ok (.ifCond .ne 6, 3) := by decide +kernel
theorem dX6_comeToRest_41 : decode cX6_comeToRest 41 = .ok (.goto 37, 3) := by decide +kernel
theorem dX6_comeToRest_44 : decode cX6_comeToRest 44 = .ok (.aload_n 0, 1) := by decide +kernel
theorem dX6_comeToRest_45 : decode cX6_comeToRest 45 = .ok (.aload_n 1, 1) := by decide +kernel
theorem dX6_comeToRest_46 : decode cX6_comeToRest 46 = .ok (.iload 5, 2) := by decide +kernel
theorem dX6_comeToRest_48 : decode cX6_comeToRest 48 = .ok (.iload_n 2, 1) := by decide +kernel
theorem dX6_comeToRest_49 : decode cX6_comeToRest 49 = .ok (.invokevirtual 52, 3) := by decide +kernel
theorem dX6_comeToRest_52 : decode cX6_comeToRest 52 = .ok (.istore 6, 2) := by decide +kernel
theorem dX6_comeToRest_54 : decode cX6_comeToRest 54 = .ok (.iload 6, 2) := by decide +kernel
theorem dX6_comeToRest_56 : decode cX6_comeToRest 56 = .ok (.aload_n 0, 1) := by decide +kernel
theorem dX6_comeToRest_57 : decode cX6_comeToRest 57 = .ok (.getfield 9, 3) := by decide +kernel
theorem dX6_comeToRest_60 : decode cX6_comeToRest 60 = .ok (.iload 5, 2) := by decide +kernel
theorem dX6_comeToRest_62 : decode cX6_comeToRest 62 = .ok (.iaload, 1) := by decide +kernel
theorem dX6_comeToRest_63 : decode cX6_comeToRest 63 = .ok (.if_icmp .eq 6, 3) := by decide +kernel
theorem dX6_comeToRest_66 : decode cX6_comeToRest 66 = .ok (.iconst 1, 1) := by decide +kernel
theorem dX6_comeToRest_67 : decode cX6_comeToRest 67 = .ok (.istore 4, 2) := by decide +kernel
theorem dX6_comeToRest_69 : decode cX6_comeToRest 69 = .ok (.aload_n 0, 1) := by decide +kernel
theorem dX6_comeToRest_70 : decode cX6_comeToRest 70 = .ok (.getfield 9, 3) := by decide +kernel
theorem dX6_comeToRest_73 : decode cX6_comeToRest 73 = .ok (.iload 5, 2) := by decide +kernel
theorem dX6_comeToRest_75 : decode cX6_comeToRest 75 = .ok (.iload 6, 2) := by decide +kernel
theorem dX6_comeToRest_77 : decode cX6_comeToRest 77 = .ok (.iastore, 1) := by decide +kernel
theorem dX6_comeToRest_78 : decode cX6_comeToRest 78 = .ok (.iinc 5 1, 3) := by decide +kernel
theorem dX6_comeToRest_81 : decode cX6_comeToRest 81 = .ok (.goto (-59), 3) := by decide +kernel
theorem dX6_comeToRest_84 : decode cX6_comeToRest 84 = .ok (.iload 4, 2) := by decide +kernel
theorem dX6_comeToRest_86 : decode cX6_comeToRest 86 = .ok (.ifCond .ne 5, 3) := by decide +kernel
theorem dX6_comeToRest_89 : decode cX6_comeToRest 89 = .ok (.iload_n 3, 1) := by decide +kernel
theorem dX6_comeToRest_90 : decode cX6_comeToRest 90 = .ok (.ireturn, 1) := by decide +kernel
theorem dX6_comeToRest_91 : decode cX6_comeToRest 91 = .ok (.iinc 3 1, 3) := by decide +kernel
theorem dX6_comeToRest_94 : decode cX6_comeToRest 94 = .ok (.goto (-84), 3) := by decide +kernel
theorem dX6_comeToRest_97 : decode cX6_comeToRest 97 = .ok (.bipush (-2), 2) := by decide +kernel
theorem dX6_comeToRest_99 : decode cX6_comeToRest 99 = .ok (.ireturn, 1) := by decide +kernel
theorem dX6_cheapest_0 : decode cX6_cheapest 0 = .ok (.aload_n 0, 1) := by decide +kernel
theorem dX6_cheapest_1 : decode cX6_cheapest 1 = .ok (.getfield 15, 3) := by decide +kernel
theorem dX6_cheapest_4 : decode cX6_cheapest 4 = .ok (.lconst 0, 1) := by decide +kernel
theorem dX6_cheapest_5 : decode cX6_cheapest 5 = .ok (.invokestatic 56, 3) := by decide +kernel
theorem dX6_cheapest_8 : decode cX6_cheapest 8 = .ok (.iconst 0, 1) := by decide +kernel
theorem dX6_cheapest_9 : decode cX6_cheapest 9 = .ok (.istore 4, 2) := by decide +kernel
theorem dX6_cheapest_11 : decode cX6_cheapest 11 = .ok (.iload 4, 2) := by decide +kernel
theorem dX6_cheapest_13 : decode cX6_cheapest 13 = .ok (.iconst 2, 1) := by decide +kernel
theorem dX6_cheapest_14 : decode cX6_cheapest 14 = .ok (.if_icmp .ge 87, 3) := by decide +kernel
theorem dX6_cheapest_17 : decode cX6_cheapest 17 = .ok (.aload_n 0, 1) := by decide +kernel
theorem dX6_cheapest_18 : decode cX6_cheapest 18 = .ok (.getfield 36, 3) := by decide +kernel
theorem dX6_cheapest_21 : decode cX6_cheapest 21 = .ok (.iload 4, 2) := by decide +kernel
theorem dX6_cheapest_23 : decode cX6_cheapest 23 = .ok (.invokevirtual 59, 3) := by decide +kernel
theorem dX6_cheapest_26 : decode cX6_cheapest 26 = .ok (.istore 5, 2) := by decide +kernel
theorem dX6_cheapest_28 : decode cX6_cheapest 28 = .ok (.iload 5, 2) := by decide +kernel
theorem dX6_cheapest_30 : decode cX6_cheapest 30 = .ok (.ifCond .gt 6, 3) := by decide +kernel
theorem dX6_cheapest_33 : decode cX6_cheapest 33 = .ok (.goto 62, 3) := by decide +kernel
theorem dX6_cheapest_36 : decode cX6_cheapest 36 = .ok (.aload_n 0, 1) := by decide +kernel
theorem dX6_cheapest_37 : decode cX6_cheapest 37 = .ok (.aload_n 1, 1) := by decide +kernel
theorem dX6_cheapest_38 : decode cX6_cheapest 38 = .ok (.iload_n 2, 1) := by decide +kernel
theorem dX6_cheapest_39 : decode cX6_cheapest 39 = .ok (.iload 4, 2) := by decide +kernel
theorem dX6_cheapest_41 : decode cX6_cheapest 41 = .ok (.invokevirtual 65, 3) := by decide +kernel
theorem dX6_cheapest_44 : decode cX6_cheapest 44 = .ok (.iconst 0, 1) := by decide +kernel
theorem dX6_cheapest_45 : decode cX6_cheapest 45 = .ok (.istore 6, 2) := by decide +kernel
theorem dX6_cheapest_47 : decode cX6_cheapest 47 = .ok (.iload 6, 2) := by decide +kernel
theorem dX6_cheapest_49 : decode cX6_cheapest 49 = .ok (.aload_n 0, 1) := by decide +kernel
theorem dX6_cheapest_50 : decode cX6_cheapest 50 = .ok (.getfield 15, 3) := by decide +kernel
theorem dX6_cheapest_53 : decode cX6_cheapest 53 = .ok (.arraylength, 1) := by decide +kernel
theorem dX6_cheapest_54 : decode cX6_cheapest 54 = .ok (.if_icmp .ge 41, 3) := by decide +kernel
theorem dX6_cheapest_57 : decode cX6_cheapest 57 = .ok (.aload_n 0, 1) := by decide +kernel
theorem dX6_cheapest_58 : decode cX6_cheapest 58 = .ok (.getfield 15, 3) := by decide +kernel
theorem dX6_cheapest_61 : decode cX6_cheapest 61 = .ok (.iload 6, 2) := by decide +kernel
theorem dX6_cheapest_63 : decode cX6_cheapest 63 = .ok (.dup2, 1) := by decide +kernel
theorem dX6_cheapest_64 : decode cX6_cheapest 64 = .ok (.laload, 1) := by decide +kernel
theorem dX6_cheapest_65 : decode cX6_cheapest 65 = .ok (.iload 5, 2) := by decide +kernel
theorem dX6_cheapest_67 : decode cX6_cheapest 67 = .ok (.i2l, 1) := by decide +kernel
theorem dX6_cheapest_68 : decode cX6_cheapest 68 = .ok (.aload_n 0, 1) := by decide +kernel
theorem dX6_cheapest_69 : decode cX6_cheapest 69 = .ok (.aload_n 1, 1) := by decide +kernel
theorem dX6_cheapest_70 : decode cX6_cheapest 70 = .ok (.iload_n 2, 1) := by decide +kernel
theorem dX6_cheapest_71 : decode cX6_cheapest 71 = .ok (.aload_n 1, 1) := by decide +kernel
theorem dX6_cheapest_72 : decode cX6_cheapest 72 = .ok (.getfield 69, 3) := by decide +kernel
theorem dX6_cheapest_75 : decode cX6_cheapest 75 = .ok (.iload 6, 2) := by decide +kernel
theorem dX6_cheapest_77 : decode cX6_cheapest 77 = .ok (.iconst 5, 1) := by decide +kernel
theorem dX6_cheapest_78 : decode cX6_cheapest 78 = .ok (.imul, 1) := by decide +kernel
theorem dX6_cheapest_79 : decode cX6_cheapest 79 = .ok (.isub, 1) := by decide +kernel
theorem dX6_cheapest_80 : decode cX6_cheapest 80 = .ok (.iload 4, 2) := by decide +kernel
theorem dX6_cheapest_82 : decode cX6_cheapest 82 = .ok (.iload_n 3, 1) := by decide +kernel
theorem dX6_cheapest_83 : decode cX6_cheapest 83 = .ok (.invokevirtual 73, 3) := by decide +kernel
theorem dX6_cheapest_86 : decode cX6_cheapest 86 = .ok (.lmul, 1) := by decide +kernel
theorem dX6_cheapest_87 : decode cX6_cheapest 87 = .ok (.ladd, 1) := by decide +kernel
theorem dX6_cheapest_88 : decode cX6_cheapest 88 = .ok (.lastore, 1) := by decide +kernel
theorem dX6_cheapest_89 : decode cX6_cheapest 89 = .ok (.iinc 6 1, 3) := by decide +kernel
theorem dX6_cheapest_92 : decode cX6_cheapest 92 = .ok (.goto (-45), 3) := by decide +kernel
theorem dX6_cheapest_95 : decode cX6_cheapest 95 = .ok (.iinc 4 1, 3) := by decide +kernel
theorem dX6_cheapest_98 : decode cX6_cheapest 98 = .ok (.goto (-87), 3) := by decide +kernel
theorem dX6_cheapest_101 : decode cX6_cheapest 101 = .ok (.iconst 0, 1) := by decide +kernel
theorem dX6_cheapest_102 : decode cX6_cheapest 102 = .ok (.istore 4, 2) := by decide +kernel
theorem dX6_cheapest_104 : decode cX6_cheapest 104 = .ok (.iconst 1, 1) := by decide +kernel
theorem dX6_cheapest_105 : decode cX6_cheapest 105 = .ok (.istore 5, 2) := by decide +kernel
theorem dX6_cheapest_107 : decode cX6_cheapest 107 = .ok (.iload 5, 2) := by decide +kernel
theorem dX6_cheapest_109 : decode cX6_cheapest 109 = .ok (.aload_n 0, 1) := by decide +kernel
theorem dX6_cheapest_110 : decode cX6_cheapest 110 = .ok (.getfield 15, 3) := by decide +kernel
theorem dX6_cheapest_113 : decode cX6_cheapest 113 = .ok (.arraylength, 1) := by decide +kernel
theorem dX6_cheapest_114 : decode cX6_cheapest 114 = .ok (.if_icmp .ge 31, 3) := by decide +kernel
theorem dX6_cheapest_117 : decode cX6_cheapest 117 = .ok (.aload_n 0, 1) := by decide +kernel
theorem dX6_cheapest_118 : decode cX6_cheapest 118 = .ok (.getfield 15, 3) := by decide +kernel
theorem dX6_cheapest_121 : decode cX6_cheapest 121 = .ok (.iload 5, 2) := by decide +kernel
theorem dX6_cheapest_123 : decode cX6_cheapest 123 = .ok (.laload, 1) := by decide +kernel
theorem dX6_cheapest_124 : decode cX6_cheapest 124 = .ok (.aload_n 0, 1) := by decide +kernel
theorem dX6_cheapest_125 : decode cX6_cheapest 125 = .ok (.getfield 15, 3) := by decide +kernel
theorem dX6_cheapest_128 : decode cX6_cheapest 128 = .ok (.iload 4, 2) := by decide +kernel
theorem dX6_cheapest_130 : decode cX6_cheapest 130 = .ok (.laload, 1) := by decide +kernel
theorem dX6_cheapest_131 : decode cX6_cheapest 131 = .ok (.lcmp, 1) := by decide +kernel
theorem dX6_cheapest_132 : decode cX6_cheapest 132 = .ok (.ifCond .ge 7, 3) := by decide +kernel
theorem dX6_cheapest_135 : decode cX6_cheapest 135 = .ok (.iload 5, 2) := by decide +kernel
theorem dX6_cheapest_137 : decode cX6_cheapest 137 = .ok (.istore 4, 2) := by decide +kernel
theorem dX6_cheapest_139 : decode cX6_cheapest 139 = .ok (.iinc 5 1, 3) := by decide +kernel
theorem dX6_cheapest_142 : decode cX6_cheapest 142 = .ok (.goto (-35), 3) := by decide +kernel
theorem dX6_cheapest_145 : decode cX6_cheapest 145 = .ok (.iload 4, 2) := by decide +kernel
theorem dX6_cheapest_147 : decode cX6_cheapest 147 = .ok (.iconst 5, 1) := by decide +kernel
theorem dX6_cheapest_148 : decode cX6_cheapest 148 = .ok (.imul, 1) := by decide +kernel
theorem dX6_cheapest_149 : decode cX6_cheapest 149 = .ok (.ireturn, 1) := by decide +kernel
theorem dX6_gatherOthers_0 : decode cX6_gatherOthers 0 = .ok (.aload_n 0, 1) := by decide +kernel
theorem dX6_gatherOthers_1 : decode cX6_gatherOthers 1 = .ok (.getfield 22, 3) := by decide +kernel
theorem dX6_gatherOthers_4 : decode cX6_gatherOthers 4 = .ok (.invokevirtual 77, 3) := by decide +kernel
theorem dX6_gatherOthers_7 : decode cX6_gatherOthers 7 = .ok (.aload_n 0, 1) := by decide +kernel
theorem dX6_gatherOthers_8 : decode cX6_gatherOthers 8 = .ok (.getfield 22, 3) := by decide +kernel
theorem dX6_gatherOthers_11 : decode cX6_gatherOthers 11 = .ok (.aload_n 1, 1) := by decide +kernel
theorem dX6_gatherOthers_12 : decode cX6_gatherOthers 12 = .ok (.getfield 69, 3) := by decide +kernel
theorem dX6_gatherOthers_15 : decode cX6_gatherOthers 15 = .ok (.lconst 1, 1) := by decide +kernel
theorem dX6_gatherOthers_16 : decode cX6_gatherOthers 16 = .ok (.invokevirtual 80, 3) := by decide +kernel
theorem dX6_gatherOthers_19 : decode cX6_gatherOthers 19 = .ok (.aload_n 0, 1) := by decide +kernel
theorem dX6_gatherOthers_20 : decode cX6_gatherOthers 20 = .ok (.getfield 29, 3) := by decide +kernel
theorem dX6_gatherOthers_23 : decode cX6_gatherOthers 23 = .ok (.invokevirtual 77, 3) := by decide +kernel
theorem dX6_gatherOthers_26 : decode cX6_gatherOthers 26 = .ok (.iconst 0, 1) := by decide +kernel
theorem dX6_gatherOthers_27 : decode cX6_gatherOthers 27 = .ok (.istore 4, 2) := by decide +kernel
theorem dX6_gatherOthers_29 : decode cX6_gatherOthers 29 = .ok (.iload 4, 2) := by decide +kernel
theorem dX6_gatherOthers_31 : decode cX6_gatherOthers 31 = .ok (.aload_n 0, 1) := by decide +kernel
theorem dX6_gatherOthers_32 : decode cX6_gatherOthers 32 = .ok (.getfield 9, 3) := by decide +kernel
theorem dX6_gatherOthers_35 : decode cX6_gatherOthers 35 = .ok (.arraylength, 1) := by decide +kernel
theorem dX6_gatherOthers_36 : decode cX6_gatherOthers 36 = .ok (.if_icmp .ge 162, 3) := by decide +kernel
theorem dX6_gatherOthers_39 : decode cX6_gatherOthers 39 = .ok (.iload 4, 2) := by decide +kernel
theorem dX6_gatherOthers_41 : decode cX6_gatherOthers 41 = .ok (.iload_n 2, 1) := by decide +kernel
theorem dX6_gatherOthers_42 : decode cX6_gatherOthers 42 = .ok (.if_icmp .eq 150, 3) := by decide +kernel
theorem dX6_gatherOthers_45 : decode cX6_gatherOthers 45 = .ok (.aload_n 1, 1) := by decide +kernel
theorem dX6_gatherOthers_46 : decode cX6_gatherOthers 46 = .ok (.iload 4, 2) := by decide +kernel
theorem dX6_gatherOthers_48 : decode cX6_gatherOthers 48 = .ok (.invokevirtual 46, 3) := by decide +kernel
theorem dX6_gatherOthers_51 : decode cX6_gatherOthers 51 = .ok (.ifCond .ne 6, 3) := by decide +kernel
theorem dX6_gatherOthers_54 : decode cX6_gatherOthers 54 = .ok (.goto 138, 3) := by decide +kernel
theorem dX6_gatherOthers_57 : decode cX6_gatherOthers 57 = .ok (.aload_n 0, 1) := by decide +kernel
theorem dX6_gatherOthers_58 : decode cX6_gatherOthers 58 = .ok (.aload_n 1, 1) := by decide +kernel
theorem dX6_gatherOthers_59 : decode cX6_gatherOthers 59 = .ok (.iload_n 2, 1) := by decide +kernel
theorem dX6_gatherOthers_60 : decode cX6_gatherOthers 60 = .ok (.iload 4, 2) := by decide +kernel
theorem dX6_gatherOthers_62 : decode cX6_gatherOthers 62 = .ok (.invokevirtual 84, 3) := by decide +kernel
theorem dX6_gatherOthers_65 : decode cX6_gatherOthers 65 = .ok (.lstore 5, 2) := by decide +kernel
theorem dX6_gatherOthers_67 : decode cX6_gatherOthers 67 = .ok (.aload_n 0, 1) := by decide +kernel
theorem dX6_gatherOthers_68 : decode cX6_gatherOthers 68 = .ok (.getfield 26, 3) := by decide +kernel
theorem dX6_gatherOthers_71 : decode cX6_gatherOthers 71 = .ok (.invokevirtual 77, 3) := by decide +kernel
theorem dX6_gatherOthers_74 : decode cX6_gatherOthers 74 = .ok (.iconst 0, 1) := by decide +kernel
theorem dX6_gatherOthers_75 : decode cX6_gatherOthers 75 = .ok (.istore 7, 2) := by decide +kernel
theorem dX6_gatherOthers_77 : decode cX6_gatherOthers 77 = .ok (.iload 7, 2) := by decide +kernel
theorem dX6_gatherOthers_79 : decode cX6_gatherOthers 79 = .ok (.aload_n 0, 1) := by decide +kernel
theorem dX6_gatherOthers_80 : decode cX6_gatherOthers 80 = .ok (.getfield 36, 3) := by decide +kernel
theorem dX6_gatherOthers_83 : decode cX6_gatherOthers 83 = .ok (.iload 4, 2) := by decide +kernel
theorem dX6_gatherOthers_85 : decode cX6_gatherOthers 85 = .ok (.invokevirtual 88, 3) := by decide +kernel
theorem dX6_gatherOthers_88 : decode cX6_gatherOthers 88 = .ok (.if_icmp .ge 84, 3) := by decide +kernel
theorem dX6_gatherOthers_91 : decode cX6_gatherOthers 91 = .ok (.aload_n 1, 1) := by decide +kernel
theorem dX6_gatherOthers_92 : decode cX6_gatherOthers 92 = .ok (.getfield 69, 3) := by decide +kernel
theorem dX6_gatherOthers_95 : decode cX6_gatherOthers 95 = .ok (.aload_n 1, 1) := by decide +kernel
theorem dX6_gatherOthers_96 : decode cX6_gatherOthers 96 = .ok (.getfield 69, 3) := by decide +kernel
theorem dX6_gatherOthers_99 : decode cX6_gatherOthers 99 = .ok (.aload_n 0, 1) := by decide +kernel
theorem dX6_gatherOthers_100 : decode cX6_gatherOthers 100 = .ok (.getfield 9, 3) := by decide +kernel
theorem dX6_gatherOthers_103 : decode cX6_gatherOthers 103 = .ok (.iload 4, 2) := by decide +kernel
theorem dX6_gatherOthers_105 : decode cX6_gatherOthers 105 = .ok (.iaload, 1) := by decide +kernel
theorem dX6_gatherOthers_106 : decode cX6_gatherOthers 106 = .ok (.isub, 1) := by decide +kernel
theorem dX6_gatherOthers_107 : decode cX6_gatherOthers 107 = .ok (.aload_n 0, 1) := by decide +kernel
theorem dX6_gatherOthers_108 : decode cX6_gatherOthers 108 = .ok (.getfield 36, 3) := by decide +kernel
theorem dX6_gatherOthers_111 : decode cX6_gatherOthers 111 = .ok (.iload 4, 2) := by decide +kernel
theorem dX6_gatherOthers_113 : decode cX6_gatherOthers 113 = .ok (.iload 7, 2) := by decide +kernel
theorem dX6_gatherOthers_115 : decode cX6_gatherOthers 115 = .ok (.iload_n 3, 1) := by decide +kernel
theorem dX6_gatherOthers_116 : decode cX6_gatherOthers 116 = .ok (.invokevirtual 91, 3) := by decide +kernel
theorem dX6_gatherOthers_119 : decode cX6_gatherOthers 119 = .ok (.iadd, 1) := by decide +kernel
theorem dX6_gatherOthers_120 : decode cX6_gatherOthers 120 = .ok (.invokestatic 95, 3) := by decide +kernel
theorem dX6_gatherOthers_123 : decode cX6_gatherOthers 123 = .ok (.istore 8, 2) := by decide +kernel
theorem dX6_gatherOthers_125 : decode cX6_gatherOthers 125 = .ok (.aload_n 0, 1) := by decide +kernel
theorem dX6_gatherOthers_126 : decode cX6_gatherOthers 126 = .ok (.getfield 29, 3) := by decide +kernel
theorem dX6_gatherOthers_129 : decode cX6_gatherOthers 129 = .ok (.iload 8, 2) := by decide +kernel
theorem dX6_gatherOthers_131 : decode cX6_gatherOthers 131 = .ok (.lload 5, 2) := by decide +kernel
theorem dX6_gatherOthers_133 : decode cX6_gatherOthers 133 = .ok (.aload_n 0, 1) := by decide +kernel
theorem dX6_gatherOthers_134 : decode cX6_gatherOthers 134 = .ok (.getfield 36, 3) := by decide +kernel
theorem dX6_gatherOthers_137 : decode cX6_gatherOthers 137 = .ok (.iload 4, 2) := by decide +kernel
theorem dX6_gatherOthers_139 : decode cX6_gatherOthers 139 = .ok (.iload 7, 2) := by decide +kernel
theorem dX6_gatherOthers_141 : decode cX6_gatherOthers 141 = .ok (.invokevirtual 101, 3) := by decide +kernel
theorem dX6_gatherOthers_144 : decode cX6_gatherOthers 144 = .ok (.i2l, 1) := by decide +kernel
theorem dX6_gatherOthers_145 : decode cX6_gatherOthers 145 = .ok (.lmul, 1) := by decide +kernel
theorem dX6_gatherOthers_146 : decode cX6_gatherOthers 146 = .ok (.invokevirtual 80, 3) := by decide +kernel
theorem dX6_gatherOthers_149 : decode cX6_gatherOthers 149 = .ok (.aload_n 0, 1) := by decide +kernel
theorem dX6_gatherOthers_150 : decode cX6_gatherOthers 150 = .ok (.iload 8, 2) := by decide +kernel
theorem dX6_gatherOthers_152 : decode cX6_gatherOthers 152 = .ok (.aload_n 0, 1) := by decide +kernel
theorem dX6_gatherOthers_153 : decode cX6_gatherOthers 153 = .ok (.getfield 36, 3) := by decide +kernel
theorem dX6_gatherOthers_156 : decode cX6_gatherOthers 156 = .ok (.iload 4, 2) := by decide +kernel
theorem dX6_gatherOthers_158 : decode cX6_gatherOthers 158 = .ok (.iload 7, 2) := by decide +kernel
theorem dX6_gatherOthers_160 : decode cX6_gatherOthers 160 = .ok (.invokevirtual 101, 3) := by decide +kernel
theorem dX6_gatherOthers_163 : decode cX6_gatherOthers 163 = .ok (.invokevirtual 104, 3) := by decide +kernel
theorem dX6_gatherOthers_166 : decode cX6_gatherOthers 166 = .ok (.iinc 7 1, 3) := by decide +kernel
theorem dX6_gatherOthers_169 : decode cX6_gatherOthers 169 = .ok (.goto (-92), 3) := by decide +kernel
theorem dX6_gatherOthers_172 : decode cX6_gatherOthers 172 = .ok (.aload_n 0, 1) := by decide +kernel
theorem dX6_gatherOthers_173 : decode cX6_gatherOthers 173 = .ok (.getfield 22, 3) := by decide +kernel
theorem dX6_gatherOthers_176 : decode cX6_gatherOthers 176 = .ok (.astore 7, 2) := by decide +kernel
theorem dX6_gatherOthers_178 : decode cX6_gatherOthers 178 = .ok (.aload_n 0, 1) := by decide +kernel
theorem dX6_gatherOthers_179 : decode cX6_gatherOthers 179 = .ok (.aload_n 0, 1) := by decide +kernel
theorem dX6_gatherOthers_180 : decode cX6_gatherOthers 180 = .ok (.getfield 26, 3) := by decide +kernel
theorem dX6_gatherOthers_183 : decode cX6_gatherOthers 183 = .ok (.putfield 22, 3) := by decide +kernel
theorem dX6_gatherOthers_186 : decode cX6_gatherOthers 186 = .ok (.aload_n 0, 1) := by decide +kernel
theorem dX6_gatherOthers_187 : decode cX6_gatherOthers 187 = .ok (.aload 7, 2) := by decide +kernel
theorem dX6_gatherOthers_189 : decode cX6_gatherOthers 189 = .ok (.putfield 26, 3) := by decide +kernel
theorem dX6_gatherOthers_192 : decode cX6_gatherOthers 192 = .ok (.iinc 4 1, 3) := by decide +kernel
theorem dX6_gatherOthers_195 : decode cX6_gatherOthers 195 = .ok (.goto (-166), 3) := by decide +kernel
theorem dX6_gatherOthers_198 : decode cX6_gatherOthers 198 = .ok (.return_, 1) := by decide +kernel
theorem dX6_spreadLasts_0 : decode cX6_spreadLasts 0 = .ok (.iconst 0, 1) := by decide +kernel
theorem dX6_spreadLasts_1 : decode cX6_spreadLasts 1 = .ok (.istore_n 3, 1) := by decide +kernel
theorem dX6_spreadLasts_2 : decode cX6_spreadLasts 2 = .ok (.iload_n 3, 1) := by decide +kernel
theorem dX6_spreadLasts_3 : decode cX6_spreadLasts 3 = .ok (.aload_n 0, 1) := by decide +kernel
theorem dX6_spreadLasts_4 : decode cX6_spreadLasts 4 = .ok (.getfield 22, 3) := by decide +kernel
theorem dX6_spreadLasts_7 : decode cX6_spreadLasts 7 = .ok (.invokevirtual 108, 3) := by decide +kernel
theorem dX6_spreadLasts_10 : decode cX6_spreadLasts 10 = .ok (.if_icmp .ge 39, 3) := by decide +kernel
theorem dX6_spreadLasts_13 : decode cX6_spreadLasts 13 = .ok (.aload_n 0, 1) := by decide +kernel
theorem dX6_spreadLasts_14 : decode cX6_spreadLasts 14 = .ok (.getfield 26, 3) := by decide +kernel
theorem dX6_spreadLasts_17 : decode cX6_spreadLasts 17 = .ok (.iload_n 1, 1) := by decide +kernel
theorem dX6_spreadLasts_18 : decode cX6_spreadLasts 18 = .ok (.aload_n 0, 1) := by decide +kernel
theorem dX6_spreadLasts_19 : decode cX6_spreadLasts 19 = .ok (.getfield 22, 3) := by decide +kernel
theorem dX6_spreadLasts_22 : decode cX6_spreadLasts 22 = .ok (.iload_n 3, 1) := by decide +kernel
theorem dX6_spreadLasts_23 : decode cX6_spreadLasts 23 = .ok (.invokevirtual 112, 3) := by decide +kernel
theorem dX6_spreadLasts_26 : decode cX6_spreadLasts 26 = .ok (.invokestatic 95, 3) := by decide +kernel
theorem dX6_spreadLasts_29 : decode cX6_spreadLasts 29 = .ok (.iload_n 2, 1) := by decide +kernel
theorem dX6_spreadLasts_30 : decode cX6_spreadLasts 30 = .ok (.i2l, 1) := by decide +kernel
theorem dX6_spreadLasts_31 : decode cX6_spreadLasts 31 = .ok (.aload_n 0, 1) := by decide +kernel
theorem dX6_spreadLasts_32 : decode cX6_spreadLasts 32 = .ok (.getfield 22, 3) := by decide +kernel
theorem dX6_spreadLasts_35 : decode cX6_spreadLasts 35 = .ok (.iload_n 3, 1) := by decide +kernel
theorem dX6_spreadLasts_36 : decode cX6_spreadLasts 36 = .ok (.invokevirtual 115, 3) := by decide +kernel
theorem dX6_spreadLasts_39 : decode cX6_spreadLasts 39 = .ok (.lmul, 1) := by decide +kernel
theorem dX6_spreadLasts_40 : decode cX6_spreadLasts 40 = .ok (.invokevirtual 80, 3) := by decide +kernel
theorem dX6_spreadLasts_43 : decode cX6_spreadLasts 43 = .ok (.iinc 3 1, 3) := by decide +kernel
theorem dX6_spreadLasts_46 : decode cX6_spreadLasts 46 = .ok (.goto (-44), 3) := by decide +kernel
theorem dX6_spreadLasts_49 : decode cX6_spreadLasts 49 = .ok (.return_, 1) := by decide +kernel
theorem dX6_weightsWithout_0 : decode cX6_weightsWithout 0 = .ok (.lconst 1, 1) := by decide +kernel
theorem dX6_weightsWithout_1 : decode cX6_weightsWithout 1 = .ok (.lstore 4, 2) := by decide +kernel
theorem dX6_weightsWithout_3 : decode cX6_weightsWithout 3 = .ok (.iconst 0, 1) := by decide +kernel
theorem dX6_weightsWithout_4 : decode cX6_weightsWithout 4 = .ok (.istore 6, 2) := by decide +kernel
theorem dX6_weightsWithout_6 : decode cX6_weightsWithout 6 = .ok (.iload 6, 2) := by decide +kernel
theorem dX6_weightsWithout_8 : decode cX6_weightsWithout 8 = .ok (.bipush 8, 2) := by decide +kernel
theorem dX6_weightsWithout_10 : decode cX6_weightsWithout 10 = .ok (.if_icmp .ge 45, 3) := by decide +kernel
theorem dX6_weightsWithout_13 : decode cX6_weightsWithout 13 = .ok (.iload 6, 2) := by decide +kernel
theorem dX6_weightsWithout_15 : decode cX6_weightsWithout 15 = .ok (.iload_n 2, 1) := by decide +kernel
theorem dX6_weightsWithout_16 : decode cX6_weightsWithout 16 = .ok (.if_icmp .eq 33, 3) := by decide +kernel
theorem dX6_weightsWithout_19 : decode cX6_weightsWithout 19 = .ok (.iload 6, 2) := by decide +kernel
theorem dX6_weightsWithout_21 : decode cX6_weightsWithout 21 = .ok (.iload_n 3, 1) := by decide +kernel
theorem dX6_weightsWithout_22 : decode cX6_weightsWithout 22 = .ok (.if_icmp .eq 27, 3) := by decide +kernel
theorem dX6_weightsWithout_25 : decode cX6_weightsWithout 25 = .ok (.aload_n 1, 1) := by decide +kernel
theorem dX6_weightsWithout_26 : decode cX6_weightsWithout 26 = .ok (.iload 6, 2) := by decide +kernel
theorem dX6_weightsWithout_28 : decode cX6_weightsWithout 28 = .ok (.invokevirtual 46, 3) := by decide +kernel
theorem dX6_weightsWithout_31 : decode cX6_weightsWithout 31 = .ok (.ifCond .eq 18, 3) := by decide +kernel
theorem dX6_weightsWithout_34 : decode cX6_weightsWithout 34 = .ok (.lload 4, 2) := by decide +kernel
theorem dX6_weightsWithout_36 : decode cX6_weightsWithout 36 = .ok (.aload_n 0, 1) := by decide +kernel
theorem dX6_weightsWithout_37 : decode cX6_weightsWithout 37 = .ok (.getfield 36, 3) := by decide +kernel
theorem dX6_weightsWithout_40 : decode cX6_weightsWithout 40 = .ok (.iload 6, 2) := by decide +kernel
theorem dX6_weightsWithout_42 : decode cX6_weightsWithout 42 = .ok (.invokevirtual 119, 3) := by decide +kernel
theorem dX6_weightsWithout_45 : decode cX6_weightsWithout 45 = .ok (.i2l, 1) := by decide +kernel
theorem dX6_weightsWithout_46 : decode cX6_weightsWithout 46 = .ok (.lmul, 1) := by decide +kernel
theorem dX6_weightsWithout_47 : decode cX6_weightsWithout 47 = .ok (.lstore 4, 2) := by decide +kernel
theorem dX6_weightsWithout_49 : decode cX6_weightsWithout 49 = .ok (.iinc 6 1, 3) := by decide +kernel
theorem dX6_weightsWithout_52 : decode cX6_weightsWithout 52 = .ok (.goto (-46), 3) := by decide +kernel
theorem dX6_weightsWithout_55 : decode cX6_weightsWithout 55 = .ok (.lload 4, 2) := by decide +kernel
theorem dX6_weightsWithout_57 : decode cX6_weightsWithout 57 = .ok (.lreturn, 1) := by decide +kernel
theorem dX6_costOf_0 : decode cX6_costOf 0 = .ok (.aload_n 0, 1) := by decide +kernel
theorem dX6_costOf_1 : decode cX6_costOf 1 = .ok (.getfield 32, 3) := by decide +kernel
theorem dX6_costOf_4 : decode cX6_costOf 4 = .ok (.iload_n 2, 1) := by decide +kernel
theorem dX6_costOf_5 : decode cX6_costOf 5 = .ok (.aload_n 1, 1) := by decide +kernel
theorem dX6_costOf_6 : decode cX6_costOf 6 = .ok (.invokevirtual 122, 3) := by decide +kernel
theorem dX6_costOf_9 : decode cX6_costOf 9 = .ok (.invokevirtual 125, 3) := by decide +kernel
theorem dX6_costOf_12 : decode cX6_costOf 12 = .ok (.istore 6, 2) := by decide +kernel
theorem dX6_costOf_14 : decode cX6_costOf 14 = .ok (.lconst 0, 1) := by decide +kernel
theorem dX6_costOf_15 : decode cX6_costOf 15 = .ok (.lstore 7, 2) := by decide +kernel
theorem dX6_costOf_17 : decode cX6_costOf 17 = .ok (.iconst 0, 1) := by decide +kernel
theorem dX6_costOf_18 : decode cX6_costOf 18 = .ok (.istore 9, 2) := by decide +kernel
theorem dX6_costOf_20 : decode cX6_costOf 20 = .ok (.iload 9, 2) := by decide +kernel
theorem dX6_costOf_22 : decode cX6_costOf 22 = .ok (.aload_n 0, 1) := by decide +kernel
theorem dX6_costOf_23 : decode cX6_costOf 23 = .ok (.getfield 36, 3) := by decide +kernel
theorem dX6_costOf_26 : decode cX6_costOf 26 = .ok (.iload_n 2, 1) := by decide +kernel
theorem dX6_costOf_27 : decode cX6_costOf 27 = .ok (.invokevirtual 88, 3) := by decide +kernel
theorem dX6_costOf_30 : decode cX6_costOf 30 = .ok (.if_icmp .ge 69, 3) := by decide +kernel
theorem dX6_costOf_33 : decode cX6_costOf 33 = .ok (.iload_n 3, 1) := by decide +kernel
theorem dX6_costOf_34 : decode cX6_costOf 34 = .ok (.aload_n 0, 1) := by decide +kernel
theorem dX6_costOf_35 : decode cX6_costOf 35 = .ok (.getfield 36, 3) := by decide +kernel
theorem dX6_costOf_38 : decode cX6_costOf 38 = .ok (.iload_n 2, 1) := by decide +kernel
theorem dX6_costOf_39 : decode cX6_costOf 39 = .ok (.iload 9, 2) := by decide +kernel
theorem dX6_costOf_41 : decode cX6_costOf 41 = .ok (.iload 4, 2) := by decide +kernel
theorem dX6_costOf_43 : decode cX6_costOf 43 = .ok (.invokevirtual 91, 3) := by decide +kernel
theorem dX6_costOf_46 : decode cX6_costOf 46 = .ok (.iadd, 1) := by decide +kernel
theorem dX6_costOf_47 : decode cX6_costOf 47 = .ok (.istore 10, 2) := by decide +kernel
theorem dX6_costOf_49 : decode cX6_costOf 49 = .ok (.lload 7, 2) := by decide +kernel
theorem dX6_costOf_51 : decode cX6_costOf 51 = .ok (.aload_n 0, 1) := by decide +kernel
theorem dX6_costOf_52 : decode cX6_costOf 52 = .ok (.getfield 36, 3) := by decide +kernel
theorem dX6_costOf_55 : decode cX6_costOf 55 = .ok (.iload_n 2, 1) := by decide +kernel
theorem dX6_costOf_56 : decode cX6_costOf 56 = .ok (.iload 9, 2) := by decide +kernel
theorem dX6_costOf_58 : decode cX6_costOf 58 = .ok (.invokevirtual 101, 3) := by decide +kernel
theorem dX6_costOf_61 : decode cX6_costOf 61 = .ok (.i2l, 1) := by decide +kernel
theorem dX6_costOf_62 : decode cX6_costOf 62 = .ok (.iload 6, 2) := by decide +kernel
theorem dX6_costOf_64 : decode cX6_costOf 64 = .ok (.i2l, 1) := by decide +kernel
theorem dX6_costOf_65 : decode cX6_costOf 65 = .ok (.aload_n 0, 1) := by decide +kernel
theorem dX6_costOf_66 : decode cX6_costOf 66 = .ok (.getfield 22, 3) := by decide +kernel
theorem dX6_costOf_69 : decode cX6_costOf 69 = .ok (.iload 10, 2) := by decide +kernel
theorem dX6_costOf_71 : decode cX6_costOf 71 = .ok (.invokevirtual 130, 3) := by decide +kernel
theorem dX6_costOf_74 : decode cX6_costOf 74 = .ok (.lmul, 1) := by decide +kernel
theorem dX6_costOf_75 : decode cX6_costOf 75 = .ok (.iload 5, 2) := by decide +kernel
theorem dX6_costOf_77 : decode cX6_costOf 77 = .ok (.i2l, 1) := by decide +kernel
theorem dX6_costOf_78 : decode cX6_costOf 78 = .ok (.aload_n 0, 1) := by decide +kernel
theorem dX6_costOf_79 : decode cX6_costOf 79 = .ok (.getfield 29, 3) := by decide +kernel
theorem dX6_costOf_82 : decode cX6_costOf 82 = .ok (.iload 10, 2) := by decide +kernel
theorem dX6_costOf_84 : decode cX6_costOf 84 = .ok (.invokevirtual 133, 3) := by decide +kernel
theorem dX6_costOf_87 : decode cX6_costOf 87 = .ok (.lmul, 1) := by decide +kernel
theorem dX6_costOf_88 : decode cX6_costOf 88 = .ok (.ladd, 1) := by decide +kernel
theorem dX6_costOf_89 : decode cX6_costOf 89 = .ok (.lmul, 1) := by decide +kernel
theorem dX6_costOf_90 : decode cX6_costOf 90 = .ok (.ladd, 1) := by decide +kernel
theorem dX6_costOf_91 : decode cX6_costOf 91 = .ok (.lstore 7, 2) := by decide +kernel
theorem dX6_costOf_93 : decode cX6_costOf 93 = .ok (.iinc 9 1, 3) := by decide +kernel
theorem dX6_costOf_96 : decode cX6_costOf 96 = .ok (.goto (-76), 3) := by decide +kernel
theorem dX6_costOf_99 : decode cX6_costOf 99 = .ok (.lload 7, 2) := by decide +kernel
theorem dX6_costOf_101 : decode cX6_costOf 101 = .ok (.lreturn, 1) := by decide +kernel
theorem dX7_init_0 : decode cX7_init 0 = .ok (.aload_n 0, 1) := by decide +kernel
theorem dX7_init_1 : decode cX7_init 1 = .ok (.invokespecial 3, 3) := by decide +kernel
theorem dX7_init_4 : decode cX7_init 4 = .ok (.aload_n 0, 1) := by decide +kernel
theorem dX7_init_5 : decode cX7_init 5 = .ok (.bipush 64, 2) := by decide +kernel
theorem dX7_init_7 : decode cX7_init 7 = .ok (.newarray .int, 2) := by decide +kernel
theorem dX7_init_9 : decode cX7_init 9 = .ok (.putfield 11, 3) := by decide +kernel
theorem dX7_init_12 : decode cX7_init 12 = .ok (.aload_n 0, 1) := by decide +kernel
theorem dX7_init_13 : decode cX7_init 13 = .ok (.bipush 64, 2) := by decide +kernel
theorem dX7_init_15 : decode cX7_init 15 = .ok (.newarray .int, 2) := by decide +kernel
theorem dX7_init_17 : decode cX7_init 17 = .ok (.putfield 15, 3) := by decide +kernel
theorem dX7_init_20 : decode cX7_init 20 = .ok (.aload_n 0, 1) := by decide +kernel
theorem dX7_init_21 : decode cX7_init 21 = .ok (.bipush 8, 2) := by decide +kernel
theorem dX7_init_23 : decode cX7_init 23 = .ok (.newarray .int, 2) := by decide +kernel
theorem dX7_init_25 : decode cX7_init 25 = .ok (.putfield 18, 3) := by decide +kernel
theorem dX7_init_28 : decode cX7_init 28 = .ok (.aload_n 0, 1) := by decide +kernel
theorem dX7_init_29 : decode cX7_init 29 = .ok (.bipush 8, 2) := by decide +kernel
theorem dX7_init_31 : decode cX7_init 31 = .ok (.newarray .int, 2) := by decide +kernel
theorem dX7_init_33 : decode cX7_init 33 = .ok (.putfield 21, 3) := by decide +kernel
theorem dX7_init_36 : decode cX7_init 36 = .ok (.aload_n 0, 1) := by decide +kernel
theorem dX7_init_37 : decode cX7_init 37 = .ok (.bipush 8, 2) := by decide +kernel
theorem dX7_init_39 : decode cX7_init 39 = .ok (.newarray .int, 2) := by decide +kernel
theorem dX7_init_41 : decode cX7_init 41 = .ok (.putfield 24, 3) := by decide +kernel
theorem dX7_init_44 : decode cX7_init 44 = .ok (.aload_n 0, 1) := by decide +kernel
theorem dX7_init_45 : decode cX7_init 45 = .ok (.sipush 256, 3) := by decide +kernel
theorem dX7_init_48 : decode cX7_init 48 = .ok (.newarray .int, 2) := by decide +kernel
theorem dX7_init_50 : decode cX7_init 50 = .ok (.putfield 27, 3) := by decide +kernel
theorem dX7_init_53 : decode cX7_init 53 = .ok (.return_, 1) := by decide +kernel
theorem dX7_load_0 : decode cX7_load 0 = .ok (.aload_n 0, 1) := by decide +kernel
theorem dX7_load_1 : decode cX7_load 1 = .ok (.getfield 11, 3) := by decide +kernel
theorem dX7_load_4 : decode cX7_load 4 = .ok (.iconst 0, 1) := by decide +kernel
theorem dX7_load_5 : decode cX7_load 5 = .ok (.invokestatic 30, 3) := by decide +kernel
theorem dX7_load_8 : decode cX7_load 8 = .ok (.aload_n 0, 1) := by decide +kernel
theorem dX7_load_9 : decode cX7_load 9 = .ok (.getfield 15, 3) := by decide +kernel
theorem dX7_load_12 : decode cX7_load 12 = .ok (.iconst 0, 1) := by decide +kernel
theorem dX7_load_13 : decode cX7_load 13 = .ok (.invokestatic 30, 3) := by decide +kernel
theorem dX7_load_16 : decode cX7_load 16 = .ok (.aload_n 0, 1) := by decide +kernel
theorem dX7_load_17 : decode cX7_load 17 = .ok (.getfield 18, 3) := by decide +kernel
theorem dX7_load_20 : decode cX7_load 20 = .ok (.iconst 0, 1) := by decide +kernel
theorem dX7_load_21 : decode cX7_load 21 = .ok (.invokestatic 30, 3) := by decide +kernel
theorem dX7_load_24 : decode cX7_load 24 = .ok (.iconst 0, 1) := by decide +kernel
theorem dX7_load_25 : decode cX7_load 25 = .ok (.istore_n 3, 1) := by decide +kernel
theorem dX7_load_26 : decode cX7_load 26 = .ok (.iload_n 3, 1) := by decide +kernel
theorem dX7_load_27 : decode cX7_load 27 = .ok (.aload_n 1, 1) := by decide +kernel
theorem dX7_load_28 : decode cX7_load 28 = .ok (.invokevirtual 36, 3) := by decide +kernel
theorem dX7_load_31 : decode cX7_load 31 = .ok (.if_icmp .ge 108, 3) := by decide +kernel
theorem dX7_load_34 : decode cX7_load 34 = .ok (.iload_n 3, 1) := by decide +kernel
theorem dX7_load_35 : decode cX7_load 35 = .ok (.bipush 60, 2) := by decide +kernel
theorem dX7_load_37 : decode cX7_load 37 = .ok (.if_icmp .ge 102, 3) := by decide +kernel
theorem dX7_load_40 : decode cX7_load 40 = .ok (.aload_n 1, 1) := by decide +kernel
theorem dX7_load_41 : decode cX7_load 41 = .ok (.iload_n 3, 1) := by decide +kernel
theorem dX7_load_42 : decode cX7_load 42 = .ok (.invokevirtual 42, 3) := by decide +kernel
theorem dX7_load_45 : decode cX7_load 45 = .ok (.istore 4, 2) := by decide +kernel
theorem dX7_load_47 : decode cX7_load 47 = .ok (.aload_n 1, 1) := by decide +kernel
theorem dX7_load_48 : decode cX7_load 48 = .ok (.iload_n 3, 1) := by decide +kernel
theorem dX7_load_49 : decode cX7_load 49 = .ok (.invokevirtual 46, 3) := by decide +kernel
theorem dX7_load_52 : decode cX7_load 52 = .ok (.istore 5, 2) := by decide +kernel
theorem dX7_load_54 : decode cX7_load 54 = .ok (.aload_n 1, 1) := by decide +kernel
theorem dX7_load_55 : decode cX7_load 55 = .ok (.iload_n 3, 1) := by decide +kernel
theorem dX7_load_56 : decode cX7_load 56 = .ok (.iload_n 2, 1) := by decide +kernel
theorem dX7_load_57 : decode cX7_load 57 = .ok (.invokevirtual 49, 3) := by decide +kernel
theorem dX7_load_60 : decode cX7_load 60 = .ok (.ifCond .eq 73, 3) := by decide +kernel
theorem dX7_load_63 : decode cX7_load 63 = .ok (.iload 4, 2) := by decide +kernel
theorem dX7_load_65 : decode cX7_load 65 = .ok (.invokestatic 53, 3) := by decide +kernel
theorem dX7_load_68 : decode cX7_load 68 = .ok (.ifCond .eq 65, 3) := by decide +kernel
theorem dX7_load_71 : decode cX7_load 71 = .ok (.iload 5, 2) := by decide +kernel
theorem dX7_load_73 : decode cX7_load 73 = .ok (.invokestatic 53, 3) := by decide +kernel
theorem dX7_load_76 : decode cX7_load 76 = .ok (.ifCond .ne 6, 3) := by decide +kernel
theorem dX7_load_79 : decode cX7_load 79 = .ok (.goto 54, 3) := by decide +kernel
theorem dX7_load_82 : decode cX7_load 82 = .ok (.aload_n 0, 1) := by decide +kernel
theorem dX7_load_83 : decode cX7_load 83 = .ok (.getfield 11, 3) := by decide +kernel
theorem dX7_load_86 : decode cX7_load 86 = .ok (.iload 4, 2) := by decide +kernel
theorem dX7_load_88 : decode cX7_load 88 = .ok (.bipush 8, 2) := by decide +kernel
theorem dX7_load_90 : decode cX7_load 90 = .ok (.imul, 1) := by decide +kernel
theorem dX7_load_91 : decode cX7_load 91 = .ok (.iload 5, 2) := by decide +kernel
theorem dX7_load_93 : decode cX7_load 93 = .ok (.iadd, 1) := by decide +kernel
theorem dX7_load_94 : decode cX7_load 94 = .ok (.dup2, 1) := by decide +kernel
theorem dX7_load_95 : decode cX7_load 95 = .ok (.iaload, 1) := by decide +kernel
theorem dX7_load_96 : decode cX7_load 96 = .ok (.aload_n 1, 1) := by decide +kernel
theorem dX7_load_97 : decode cX7_load 97 = .ok (.iload_n 3, 1) := by decide +kernel
theorem dX7_load_98 : decode cX7_load 98 = .ok (.invokevirtual 57, 3) := by decide +kernel
theorem dX7_load_101 : decode cX7_load 101 = .ok (.iadd, 1) := by decide +kernel
theorem dX7_load_102 : decode cX7_load 102 = .ok (.iastore, 1) := by decide +kernel
theorem dX7_load_103 : decode cX7_load 103 = .ok (.aload_n 0, 1) := by decide +kernel
theorem dX7_load_104 : decode cX7_load 104 = .ok (.getfield 18, 3) := by decide +kernel
theorem dX7_load_107 : decode cX7_load 107 = .ok (.iload 4, 2) := by decide +kernel
theorem dX7_load_109 : decode cX7_load 109 = .ok (.dup2, 1) := by decide +kernel
theorem dX7_load_110 : decode cX7_load 110 = .ok (.iaload, 1) := by decide +kernel
theorem dX7_load_111 : decode cX7_load 111 = .ok (.aload_n 1, 1) := by decide +kernel
theorem dX7_load_112 : decode cX7_load 112 = .ok (.iload_n 3, 1) := by decide +kernel
theorem dX7_load_113 : decode cX7_load 113 = .ok (.invokevirtual 57, 3) := by decide +kernel
theorem dX7_load_116 : decode cX7_load 116 = .ok (.iadd, 1) := by decide +kernel
theorem dX7_load_117 : decode cX7_load 117 = .ok (.iastore, 1) := by decide +kernel
theorem dX7_load_118 : decode cX7_load 118 = .ok (.aload_n 0, 1) := by decide +kernel
theorem dX7_load_119 : decode cX7_load 119 = .ok (.getfield 18, 3) := by decide +kernel
theorem dX7_load_122 : decode cX7_load 122 = .ok (.iload 5, 2) := by decide +kernel
theorem dX7_load_124 : decode cX7_load 124 = .ok (.dup2, 1) := by decide +kernel
theorem dX7_load_125 : decode cX7_load 125 = .ok (.iaload, 1) := by decide +kernel
theorem dX7_load_126 : decode cX7_load 126 = .ok (.aload_n 1, 1) := by decide +kernel
theorem dX7_load_127 : decode cX7_load 127 = .ok (.iload_n 3, 1) := by decide +kernel
theorem dX7_load_128 : decode cX7_load 128 = .ok (.invokevirtual 57, 3) := by decide +kernel
theorem dX7_load_131 : decode cX7_load 131 = .ok (.isub, 1) := by decide +kernel
theorem dX7_load_132 : decode cX7_load 132 = .ok (.iastore, 1) := by decide +kernel
theorem dX7_load_133 : decode cX7_load 133 = .ok (.iinc 3 1, 3) := by decide +kernel
theorem dX7_load_136 : decode cX7_load 136 = .ok (.goto (-110), 3) := by decide +kernel
theorem dX7_load_139 : decode cX7_load 139 = .ok (.return_, 1) := by decide +kernel
theorem dX7_leastLeft_0 : decode cX7_leastLeft 0 = .ok (.iconst 0, 1) := by decide +kernel
theorem dX7_leastLeft_1 : decode cX7_leastLeft 1 = .ok (.istore_n 1, 1) := by decide +kernel
theorem dX7_leastLeft_2 : decode cX7_leastLeft 2 = .ok (.iconst 0, 1) := by decide +kernel
theorem dX7_leastLeft_3 : decode cX7_leastLeft 3 = .ok (.istore_n 2, 1) := by decide +kernel
theorem dX7_leastLeft_4 : decode cX7_leastLeft 4 = .ok (.iload_n 2, 1) := by decide +kernel
theorem dX7_leastLeft_5 : decode cX7_leastLeft 5 = .ok (.ldc 60, 2) := by decide +kernel
theorem dX7_leastLeft_7 : decode cX7_leastLeft 7 = .ok (.if_icmp .ge 40, 3) := by decide +kernel
theorem dX7_leastLeft_10 : decode cX7_leastLeft 10 = .ok (.aload_n 0, 1) := by decide +kernel
theorem dX7_leastLeft_11 : decode cX7_leastLeft 11 = .ok (.invokevirtual 61, 3) := by decide +kernel
theorem dX7_leastLeft_14 : decode cX7_leastLeft 14 = .ok (.aload_n 0, 1) := by decide +kernel
theorem dX7_leastLeft_15 : decode cX7_leastLeft 15 = .ok (.invokevirtual 64, 3) := by decide +kernel
theorem dX7_leastLeft_18 : decode cX7_leastLeft 18 = .ok (.istore_n 3, 1) := by decide +kernel
theorem dX7_leastLeft_19 : decode cX7_leastLeft 19 = .ok (.iload_n 3, 1) := by decide +kernel
theorem dX7_leastLeft_20 : decode cX7_leastLeft 20 = .ok (.iconst (-1), 1) := by decide +kernel
theorem dX7_leastLeft_21 : decode cX7_leastLeft 21 = .ok (.if_icmp .ne 5, 3) := by decide +kernel
theorem dX7_leastLeft_24 : decode cX7_leastLeft 24 = .ok (.iload_n 1, 1) := by decide +kernel
theorem dX7_leastLeft_25 : decode cX7_leastLeft 25 = .ok (.ireturn, 1) := by decide +kernel
theorem dX7_leastLeft_26 : decode cX7_leastLeft 26 = .ok (.iload_n 1, 1) := by decide +kernel
theorem dX7_leastLeft_27 : decode cX7_leastLeft 27 = .ok (.aload_n 0, 1) := by decide +kernel
theorem dX7_leastLeft_28 : decode cX7_leastLeft 28 = .ok (.getfield 21, 3) := by decide +kernel
theorem dX7_leastLeft_31 : decode cX7_leastLeft 31 = .ok (.iload_n 3, 1) := by decide +kernel
theorem dX7_leastLeft_32 : decode cX7_leastLeft 32 = .ok (.iaload, 1) := by decide +kernel
theorem dX7_leastLeft_33 : decode cX7_leastLeft 33 = .ok (.aload_n 0, 1) := by decide +kernel
theorem dX7_leastLeft_34 : decode cX7_leastLeft 34 = .ok (.iload_n 3, 1) := by decide +kernel
theorem dX7_leastLeft_35 : decode cX7_leastLeft 35 = .ok (.invokevirtual 67, 3) := by decide +kernel
theorem dX7_leastLeft_38 : decode cX7_leastLeft 38 = .ok (.imul, 1) := by decide +kernel
theorem dX7_leastLeft_39 : decode cX7_leastLeft 39 = .ok (.iadd, 1) := by decide +kernel
theorem dX7_leastLeft_40 : decode cX7_leastLeft 40 = .ok (.istore_n 1, 1) := by decide +kernel
theorem dX7_leastLeft_41 : decode cX7_leastLeft 41 = .ok (.iinc 2 1, 3) := by decide +kernel
theorem dX7_leastLeft_44 : decode cX7_leastLeft 44 = .ok (.goto (-40), 3) := by decide +kernel
theorem dX7_leastLeft_47 : decode cX7_leastLeft 47 = .ok (.iload_n 1, 1) := by decide +kernel
theorem dX7_leastLeft_48 : decode cX7_leastLeft 48 = .ok (.ireturn, 1) := by decide +kernel
theorem dX7_measure_0 : decode cX7_measure 0 = .ok (.iconst 0, 1) := by decide +kernel
theorem dX7_measure_1 : decode cX7_measure 1 = .ok (.istore_n 1, 1) := by decide +kernel
theorem dX7_measure_2 : decode cX7_measure 2 = .ok (.iload_n 1, 1) := by decide +kernel
theorem dX7_measure_3 : decode cX7_measure 3 = .ok (.bipush 8, 2) := by decide +kernel
theorem dX7_measure_5 : decode cX7_measure 5 = .ok (.if_icmp .ge 38, 3) := by decide +kernel
theorem dX7_measure_8 : decode cX7_measure 8 = .ok (.aload_n 0, 1) := by decide +kernel
theorem dX7_measure_9 : decode cX7_measure 9 = .ok (.getfield 21, 3) := by decide +kernel
theorem dX7_measure_12 : decode cX7_measure 12 = .ok (.iload_n 1, 1) := by decide +kernel
theorem dX7_measure_13 : decode cX7_measure 13 = .ok (.aload_n 0, 1) := by decide +kernel
theorem dX7_measure_14 : decode cX7_measure 14 = .ok (.getfield 18, 3) := by decide +kernel
theorem dX7_measure_17 : decode cX7_measure 17 = .ok (.iload_n 1, 1) := by decide +kernel
theorem dX7_measure_18 : decode cX7_measure 18 = .ok (.iaload, 1) := by decide +kernel
theorem dX7_measure_19 : decode cX7_measure 19 = .ok (.ifCond .le 7, 3) := by decide +kernel
theorem dX7_measure_22 : decode cX7_measure 22 = .ok (.iconst 0, 1) := by decide +kernel
theorem dX7_measure_23 : decode cX7_measure 23 = .ok (.goto 6, 3) := by decide +kernel
theorem dX7_measure_26 : decode cX7_measure 26 = .ok (.sipush 1000, 3) := by decide +kernel
theorem dX7_measure_29 : decode cX7_measure 29 = .ok (.iastore, 1) := by decide +kernel
theorem dX7_measure_30 : decode cX7_measure 30 = .ok (.aload_n 0, 1) := by decide +kernel
theorem dX7_measure_31 : decode cX7_measure 31 = .ok (.getfield 24, 3) := by decide +kernel
theorem dX7_measure_34 : decode cX7_measure 34 = .ok (.iload_n 1, 1) := by decide +kernel
theorem dX7_measure_35 : decode cX7_measure 35 = .ok (.iconst (-1), 1) := by decide +kernel
theorem dX7_measure_36 : decode cX7_measure 36 = .ok (.iastore, 1) := by decide +kernel
theorem dX7_measure_37 : decode cX7_measure 37 = .ok (.iinc 1 1, 3) := by decide +kernel
theorem dX7_measure_40 : decode cX7_measure 40 = .ok (.goto (-38), 3) := by decide +kernel
theorem dX7_measure_43 : decode cX7_measure 43 = .ok (.iconst 1, 1) := by decide +kernel
theorem dX7_measure_44 : decode cX7_measure 44 = .ok (.istore_n 1, 1) := by decide +kernel
theorem dX7_measure_45 : decode cX7_measure 45 = .ok (.iconst 0, 1) := by decide +kernel
theorem dX7_measure_46 : decode cX7_measure 46 = .ok (.istore_n 2, 1) := by decide +kernel
theorem dX7_measure_47 : decode cX7_measure 47 = .ok (.iload_n 2, 1) := by decide +kernel
theorem dX7_measure_48 : decode cX7_measure 48 = .ok (.bipush 8, 2) := by decide +kernel
theorem dX7_measure_50 : decode cX7_measure 50 = .ok (.if_icmp .ge 51, 3) := by decide +kernel
theorem dX7_measure_53 : decode cX7_measure 53 = .ok (.iload_n 1, 1) := by decide +kernel
theorem dX7_measure_54 : decode cX7_measure 54 = .ok (.ifCond .eq 47, 3) := by decide +kernel
theorem dX7_measure_57 : decode cX7_measure 57 = .ok (.iconst 0, 1) := by decide +kernel
theorem dX7_measure_58 : decode cX7_measure 58 = .ok (.istore_n 1, 1) := by decide +kernel
theorem dX7_measure_59 : decode cX7_measure 59 = .ok (.iconst 0, 1) := by decide +kernel
theorem dX7_measure_60 : decode cX7_measure 60 = .ok (.istore_n 3, 1) := by decide +kernel
theorem dX7_measure_61 : decode cX7_measure 61 = .ok (.iload_n 3, 1) := by decide +kernel
theorem dX7_measure_62 : decode cX7_measure 62 = .ok (.bipush 8, 2) := by decide +kernel
theorem dX7_measure_64 : decode cX7_measure 64 = .ok (.if_icmp .ge 31, 3) := by decide +kernel
theorem dX7_measure_67 : decode cX7_measure 67 = .ok (.aload_n 0, 1) := by decide +kernel
theorem dX7_measure_68 : decode cX7_measure 68 = .ok (.getfield 21, 3) := by decide +kernel
theorem dX7_measure_71 : decode cX7_measure 71 = .ok (.iload_n 3, 1) := by decide +kernel
theorem dX7_measure_72 : decode cX7_measure 72 = .ok (.iaload, 1) := by decide +kernel
theorem dX7_measure_73 : decode cX7_measure 73 = .ok (.sipush 1000, 3) := by decide +kernel
theorem dX7_measure_76 : decode cX7_measure 76 = .ok (.if_icmp .ge 13, 3) := by decide +kernel
theorem dX7_measure_79 : decode cX7_measure 79 = .ok (.aload_n 0, 1) := by decide +kernel
theorem dX7_measure_80 : decode cX7_measure 80 = .ok (.iload_n 3, 1) := by decide +kernel
theorem dX7_measure_81 : decode cX7_measure 81 = .ok (.invokevirtual 70, 3) := by decide +kernel
theorem dX7_measure_84 : decode cX7_measure 84 = .ok (.ifCond .eq 5, 3) := by decide +kernel
theorem dX7_measure_87 : decode cX7_measure 87 = .ok (.iconst 1, 1) := by decide +kernel
theorem dX7_measure_88 : decode cX7_measure 88 = .ok (.istore_n 1, 1) := by decide +kernel
theorem dX7_measure_89 : decode cX7_measure 89 = .ok (.iinc 3 1, 3) := by decide +kernel
theorem dX7_measure_92 : decode cX7_measure 92 = .ok (.goto (-31), 3) := by decide +kernel
theorem dX7_measure_95 : decode cX7_measure 95 = .ok (.iinc 2 1, 3) := by decide +kernel
theorem dX7_measure_98 : decode cX7_measure 98 = .ok (.goto (-51), 3) := by decide +kernel
theorem dX7_measure_101 : decode cX7_measure 101 = .ok (.return_, 1) := by decide +kernel
theorem dX7_widen_0 : decode cX7_widen 0 = .ok (.iload_n 1, 1) := by decide +kernel
theorem dX7_widen_1 : decode cX7_widen 1 = .ok (.invokestatic 53, 3) := by decide +kernel
theorem dX7_widen_4 : decode cX7_widen 4 = .ok (.ifCond .ne 5, 3) := by decide +kernel
theorem dX7_widen_7 : decode cX7_widen 7 = .ok (.iconst 0, 1) := by decide +kernel
theorem dX7_widen_8 : decode cX7_widen 8 = .ok (.ireturn, 1) := by decide +kernel
theorem dX7_widen_9 : decode cX7_widen 9 = .ok (.iconst 0, 1) := by decide +kernel
theorem dX7_widen_10 : decode cX7_widen 10 = .ok (.istore_n 2, 1) := by decide +kernel
theorem dX7_widen_11 : decode cX7_widen 11 = .ok (.iconst 0, 1) := by decide +kernel
theorem dX7_widen_12 : decode cX7_widen 12 = .ok (.istore_n 3, 1) := by decide +kernel
theorem dX7_widen_13 : decode cX7_widen 13 = .ok (.iload_n 3, 1) := by decide +kernel
theorem dX7_widen_14 : decode cX7_widen 14 = .ok (.bipush 8, 2) := by decide +kernel
theorem dX7_widen_16 : decode cX7_widen 16 = .ok (.if_icmp .ge 71, 3) := by decide +kernel
theorem dX7_widen_19 : decode cX7_widen 19 = .ok (.aload_n 0, 1) := by decide +kernel
theorem dX7_widen_20 : decode cX7_widen 20 = .ok (.iload_n 1, 1) := by decide +kernel
theorem dX7_widen_21 : decode cX7_widen 21 = .ok (.iload_n 3, 1) := by decide +kernel
theorem dX7_widen_22 : decode cX7_widen 22 = .ok (.invokevirtual 73, 3) := by decide +kernel
theorem dX7_widen_25 : decode cX7_widen 25 = .ok (.ifCond .le 56, 3) := by decide +kernel
theorem dX7_widen_28 : decode cX7_widen 28 = .ok (.aload_n 0, 1) := by decide +kernel
theorem dX7_widen_29 : decode cX7_widen 29 = .ok (.getfield 21, 3) := by decide +kernel
theorem dX7_widen_32 : decode cX7_widen 32 = .ok (.iload_n 1, 1) := by decide +kernel
theorem dX7_widen_33 : decode cX7_widen 33 = .ok (.iaload, 1) := by decide +kernel
theorem dX7_widen_34 : decode cX7_widen 34 = .ok (.aload_n 0, 1) := by decide +kernel
theorem dX7_widen_35 : decode cX7_widen 35 = .ok (.iload_n 1, 1) := by decide +kernel
theorem dX7_widen_36 : decode cX7_widen 36 = .ok (.iload_n 3, 1) := by decide +kernel
theorem dX7_widen_37 : decode cX7_widen 37 = .ok (.invokevirtual 77, 3) := by decide +kernel
theorem dX7_widen_40 : decode cX7_widen 40 = .ok (.iadd, 1) := by decide +kernel
theorem dX7_widen_41 : decode cX7_widen 41 = .ok (.aload_n 0, 1) := by decide +kernel
theorem dX7_widen_42 : decode cX7_widen 42 = .ok (.getfield 21, 3) := by decide +kernel
theorem dX7_widen_45 : decode cX7_widen 45 = .ok (.iload_n 3, 1) := by decide +kernel
theorem dX7_widen_46 : decode cX7_widen 46 = .ok (.iaload, 1) := by decide +kernel
theorem dX7_widen_47 : decode cX7_widen 47 = .ok (.if_icmp .lt 6, 3) := by decide +kernel
theorem dX7_widen_50 : decode cX7_widen 50 = .ok (.goto 31, 3) := by decide +kernel
theorem dX7_widen_53 : decode cX7_widen 53 = .ok (.aload_n 0, 1) := by decide +kernel
theorem dX7_widen_54 : decode cX7_widen 54 = .ok (.getfield 21, 3) := by decide +kernel
theorem dX7_widen_57 : decode cX7_widen 57 = .ok (.iload_n 3, 1) := by decide +kernel
theorem dX7_widen_58 : decode cX7_widen 58 = .ok (.aload_n 0, 1) := by decide +kernel
theorem dX7_widen_59 : decode cX7_widen 59 = .ok (.getfield 21, 3) := by decide +kernel
theorem dX7_widen_62 : decode cX7_widen 62 = .ok (.iload_n 1, 1) := by decide +kernel
theorem dX7_widen_63 : decode cX7_widen 63 = .ok (.iaload, 1) := by decide +kernel
theorem dX7_widen_64 : decode cX7_widen 64 = .ok (.aload_n 0, 1) := by decide +kernel
theorem dX7_widen_65 : decode cX7_widen 65 = .ok (.iload_n 1, 1) := by decide +kernel
theorem dX7_widen_66 : decode cX7_widen 66 = .ok (.iload_n 3, 1) := by decide +kernel
theorem dX7_widen_67 : decode cX7_widen 67 = .ok (.invokevirtual 77, 3) := by decide +kernel
theorem dX7_widen_70 : decode cX7_widen 70 = .ok (.iadd, 1) := by decide +kernel
theorem dX7_widen_71 : decode cX7_widen 71 = .ok (.iastore, 1) := by decide +kernel
theorem dX7_widen_72 : decode cX7_widen 72 = .ok (.aload_n 0, 1) := by decide +kernel
theorem dX7_widen_73 : decode cX7_widen 73 = .ok (.getfield 24, 3) := by decide +kernel
theorem dX7_widen_76 : decode cX7_widen 76 = .ok (.iload_n 3, 1) := by decide +kernel
theorem dX7_widen_77 : decode cX7_widen 77 = .ok (.iload_n 1, 1) := by decide +kernel
theorem dX7_widen_78 : decode cX7_widen 78 = .ok (.iastore, 1) := by decide +kernel
theorem dX7_widen_79 : decode cX7_widen 79 = .ok (.iconst 1, 1) := by decide +kernel
theorem dX7_widen_80 : decode cX7_widen 80 = .ok (.istore_n 2, 1) := by decide +kernel
theorem dX7_widen_81 : decode cX7_widen 81 = .ok (.iinc 3 1, 3) := by decide +kernel
theorem dX7_widen_84 : decode cX7_widen 84 = .ok (.goto (-71), 3) := by decide +kernel
theorem dX7_widen_87 : decode cX7_widen 87 = .ok (.iload_n 2, 1) := by decide +kernel
theorem dX7_widen_88 : decode cX7_widen 88 = .ok (.ireturn, 1) := by decide +kernel
theorem dX7_length_0 : decode cX7_length 0 = .ok (.aload_n 0, 1) := by decide +kernel
theorem dX7_length_1 : decode cX7_length 1 = .ok (.iload_n 2, 1) := by decide +kernel
theorem dX7_length_2 : decode cX7_length 2 = .ok (.iload_n 1, 1) := by decide +kernel
theorem dX7_length_3 : decode cX7_length 3 = .ok (.invokevirtual 79, 3) := by decide +kernel
theorem dX7_length_6 : decode cX7_length 6 = .ok (.ifCond .le 7, 3) := by decide +kernel
theorem dX7_length_9 : decode cX7_length 9 = .ok (.iconst (-1), 1) := by decide +kernel
theorem dX7_length_10 : decode cX7_length 10 = .ok (.goto 4, 3) := by decide +kernel
theorem dX7_length_13 : decode cX7_length 13 = .ok (.iconst 1, 1) := by decide +kernel
theorem dX7_length_14 : decode cX7_length 14 = .ok (.ireturn, 1) := by decide +kernel
theorem dX7_room_0 : decode cX7_room 0 = .ok (.aload_n 0, 1) := by decide +kernel
theorem dX7_room_1 : decode cX7_room 1 = .ok (.iload_n 2, 1) := by decide +kernel
theorem dX7_room_2 : decode cX7_room 2 = .ok (.iload_n 1, 1) := by decide +kernel
theorem dX7_room_3 : decode cX7_room 3 = .ok (.invokevirtual 79, 3) := by decide +kernel
theorem dX7_room_6 : decode cX7_room 6 = .ok (.istore_n 3, 1) := by decide +kernel
theorem dX7_room_7 : decode cX7_room 7 = .ok (.iload_n 3, 1) := by decide +kernel
theorem dX7_room_8 : decode cX7_room 8 = .ok (.ifCond .le 7, 3) := by decide +kernel
theorem dX7_room_11 : decode cX7_room 11 = .ok (.iload_n 3, 1) := by decide +kernel
theorem dX7_room_12 : decode cX7_room 12 = .ok (.goto 16, 3) := by decide +kernel
theorem dX7_room_15 : decode cX7_room 15 = .ok (.aload_n 0, 1) := by decide +kernel
theorem dX7_room_16 : decode cX7_room 16 = .ok (.iload_n 1, 1) := by decide +kernel
theorem dX7_room_17 : decode cX7_room 17 = .ok (.iload_n 2, 1) := by decide +kernel
theorem dX7_room_18 : decode cX7_room 18 = .ok (.invokevirtual 82, 3) := by decide +kernel
theorem dX7_room_21 : decode cX7_room 21 = .ok (.aload_n 0, 1) := by decide +kernel
theorem dX7_room_22 : decode cX7_room 22 = .ok (.iload_n 1, 1) := by decide +kernel
theorem dX7_room_23 : decode cX7_room 23 = .ok (.iload_n 2, 1) := by decide +kernel
theorem dX7_room_24 : decode cX7_room 24 = .ok (.invokevirtual 79, 3) := by decide +kernel
theorem dX7_room_27 : decode cX7_room 27 = .ok (.isub, 1) := by decide +kernel
theorem dX7_room_28 : decode cX7_room 28 = .ok (.ireturn, 1) := by decide +kernel
theorem dX7_leftFrom_0 : decode cX7_leftFrom 0 = .ok (.iload_n 1, 1) := by decide +kernel
theorem dX7_leftFrom_1 : decode cX7_leftFrom 1 = .ok (.invokestatic 53, 3) := by decide +kernel
theorem dX7_leftFrom_4 : decode cX7_leftFrom 4 = .ok (.ifCond .eq 24, 3) := by decide +kernel
theorem dX7_leftFrom_7 : decode cX7_leftFrom 7 = .ok (.iload_n 2, 1) := by decide +kernel
theorem dX7_leftFrom_8 : decode cX7_leftFrom 8 = .ok (.invokestatic 53, 3) := by decide +kernel
theorem dX7_leftFrom_11 : decode cX7_leftFrom 11 = .ok (.ifCond .eq 17, 3) := by decide +kernel
theorem dX7_leftFrom_14 : decode cX7_leftFrom 14 = .ok (.aload_n 0, 1) := by decide +kernel
theorem dX7_leftFrom_15 : decode cX7_leftFrom 15 = .ok (.getfield 15, 3) := by decide +kernel
theorem dX7_leftFrom_18 : decode cX7_leftFrom 18 = .ok (.iload_n 1, 1) := by decide +kernel
theorem dX7_leftFrom_19 : decode cX7_leftFrom 19 = .ok (.bipush 8, 2) := by decide +kernel
theorem dX7_leftFrom_21 : decode cX7_leftFrom 21 = .ok (.imul, 1) := by decide +kernel
theorem dX7_leftFrom_22 : decode cX7_leftFrom 22 = .ok (.iload_n 2, 1) := by decide +kernel
theorem dX7_leftFrom_23 : decode cX7_leftFrom 23 = .ok (.iadd, 1) := by decide +kernel
theorem dX7_leftFrom_24 : decode cX7_leftFrom 24 = .ok (.iaload, 1) := by decide +kernel
theorem dX7_leftFrom_25 : decode cX7_leftFrom 25 = .ok (.goto 4, 3) := by decide +kernel
theorem dX7_leftFrom_28 : decode cX7_leftFrom 28 = .ok (.iconst 0, 1) := by decide +kernel
theorem dX7_leftFrom_29 : decode cX7_leftFrom 29 = .ok (.ireturn, 1) := by decide +kernel
theorem dX7_dueFrom_0 : decode cX7_dueFrom 0 = .ok (.iload_n 1, 1) := by decide +kernel
theorem dX7_dueFrom_1 : decode cX7_dueFrom 1 = .ok (.invokestatic 53, 3) := by decide +kernel
theorem dX7_dueFrom_4 : decode cX7_dueFrom 4 = .ok (.ifCond .eq 24, 3) := by decide +kernel
theorem dX7_dueFrom_7 : decode cX7_dueFrom 7 = .ok (.iload_n 2, 1) := by decide +kernel
theorem dX7_dueFrom_8 : decode cX7_dueFrom 8 = .ok (.invokestatic 53, 3) := by decide +kernel
theorem dX7_dueFrom_11 : decode cX7_dueFrom 11 = .ok (.ifCond .eq 17, 3) := by decide +kernel
theorem dX7_dueFrom_14 : decode cX7_dueFrom 14 = .ok (.aload_n 0, 1) := by decide +kernel
theorem dX7_dueFrom_15 : decode cX7_dueFrom 15 = .ok (.getfield 11, 3) := by decide +kernel
theorem dX7_dueFrom_18 : decode cX7_dueFrom 18 = .ok (.iload_n 1, 1) := by decide +kernel
theorem dX7_dueFrom_19 : decode cX7_dueFrom 19 = .ok (.bipush 8, 2) := by decide +kernel
theorem dX7_dueFrom_21 : decode cX7_dueFrom 21 = .ok (.imul, 1) := by decide +kernel
theorem dX7_dueFrom_22 : decode cX7_dueFrom 22 = .ok (.iload_n 2, 1) := by decide +kernel
theorem dX7_dueFrom_23 : decode cX7_dueFrom 23 = .ok (.iadd, 1) := by decide +kernel
theorem dX7_dueFrom_24 : decode cX7_dueFrom 24 = .ok (.iaload, 1) := by decide +kernel
theorem dX7_dueFrom_25 : decode cX7_dueFrom 25 = .ok (.goto 4, 3) := by decide +kernel
theorem dX7_dueFrom_28 : decode cX7_dueFrom 28 = .ok (.iconst 0, 1) := by decide +kernel
theorem dX7_dueFrom_29 : decode cX7_dueFrom 29 = .ok (.ireturn, 1) := by decide +kernel
theorem dX7_nearestTaker_0 : decode cX7_nearestTaker 0 = .ok (.iconst (-1), 1) := by decide +kernel
theorem dX7_nearestTaker_1 : decode cX7_nearestTaker 1 = .ok (.istore_n 1, 1) := by decide +kernel
theorem dX7_nearestTaker_2 : decode cX7_nearestTaker 2 = .ok (.sipush 1000, 3) := by decide +kernel
theorem dX7_nearestTaker_5 : decode cX7_nearestTaker 5 = .ok (.istore_n 2, 1) := by decide +kernel
theorem dX7_nearestTaker_6 : decode cX7_nearestTaker 6 = .ok (.iconst 0, 1) := by decide +kernel
theorem dX7_nearestTaker_7 : decode cX7_nearestTaker 7 = .ok (.istore_n 3, 1) := by decide +kernel
theorem dX7_nearestTaker_8 : decode cX7_nearestTaker 8 = .ok (.iload_n 3, 1) := by decide +kernel
theorem dX7_nearestTaker_9 : decode cX7_nearestTaker 9 = .ok (.bipush 8, 2) := by decide +kernel
theorem dX7_nearestTaker_11 : decode cX7_nearestTaker 11 = .ok (.if_icmp .ge 37, 3) := by decide +kernel
theorem dX7_nearestTaker_14 : decode cX7_nearestTaker 14 = .ok (.aload_n 0, 1) := by decide +kernel
theorem dX7_nearestTaker_15 : decode cX7_nearestTaker 15 = .ok (.getfield 18, 3) := by decide +kernel
theorem dX7_nearestTaker_18 : decode cX7_nearestTaker 18 = .ok (.iload_n 3, 1) := by decide +kernel
theorem dX7_nearestTaker_19 : decode cX7_nearestTaker 19 = .ok (.iaload, 1) := by decide +kernel
theorem dX7_nearestTaker_20 : decode cX7_nearestTaker 20 = .ok (.ifCond .ge 22, 3) := by decide +kernel
theorem dX7_nearestTaker_23 : decode cX7_nearestTaker 23 = .ok (.aload_n 0, 1) := by decide +kernel
theorem dX7_nearestTaker_24 : decode cX7_nearestTaker 24 = .ok (.getfield 21, 3) := by decide +kernel
theorem dX7_nearestTaker_27 : decode cX7_nearestTaker 27 = .ok (.iload_n 3, 1) := by decide +kernel
theorem dX7_nearestTaker_28 : decode cX7_nearestTaker 28 = .ok (.iaload, 1) := by decide +kernel
theorem dX7_nearestTaker_29 : decode cX7_nearestTaker 29 = .ok (.iload_n 2, 1) := by decide +kernel
theorem dX7_nearestTaker_30 : decode cX7_nearestTaker 30 = .ok (.if_icmp .ge 12, 3) := by decide +kernel
theorem dX7_nearestTaker_33 : decode cX7_nearestTaker 33 = .ok (.iload_n 3, 1) := by decide +kernel
theorem dX7_nearestTaker_34 : decode cX7_nearestTaker 34 = .ok (.istore_n 1, 1) := by decide +kernel
theorem dX7_nearestTaker_35 : decode cX7_nearestTaker 35 = .ok (.aload_n 0, 1) := by decide +kernel
theorem dX7_nearestTaker_36 : decode cX7_nearestTaker 36 = .ok (.getfield 21, 3) := by decide +kernel
theorem dX7_nearestTaker_39 : decode cX7_nearestTaker 39 = .ok (.iload_n 3, 1) := by decide +kernel
theorem dX7_nearestTaker_40 : decode cX7_nearestTaker 40 = .ok (.iaload, 1) := by decide +kernel
theorem dX7_nearestTaker_41 : decode cX7_nearestTaker 41 = .ok (.istore_n 2, 1) := by decide +kernel
theorem dX7_nearestTaker_42 : decode cX7_nearestTaker 42 = .ok (.iinc 3 1, 3) := by decide +kernel
theorem dX7_nearestTaker_45 : decode cX7_nearestTaker 45 = .ok (.goto (-37), 3) := by decide +kernel
theorem dX7_nearestTaker_48 : decode cX7_nearestTaker 48 = .ok (.iload_n 1, 1) := by decide +kernel
theorem dX7_nearestTaker_49 : decode cX7_nearestTaker 49 = .ok (.ireturn, 1) := by decide +kernel
theorem dX7_send_0 : decode cX7_send 0 = .ok (.iload_n 1, 1) := by decide +kernel
theorem dX7_send_1 : decode cX7_send 1 = .ok (.invokestatic 53, 3) := by decide +kernel
theorem dX7_send_4 : decode cX7_send 4 = .ok (.ifCond .ne 5, 3) := by decide +kernel
theorem dX7_send_7 : decode cX7_send 7 = .ok (.iconst 0, 1) := by decide +kernel
theorem dX7_send_8 : decode cX7_send 8 = .ok (.ireturn, 1) := by decide +kernel
theorem dX7_send_9 : decode cX7_send 9 = .ok (.aload_n 0, 1) := by decide +kernel
theorem dX7_send_10 : decode cX7_send 10 = .ok (.getfield 18, 3) := by decide +kernel
theorem dX7_send_13 : decode cX7_send 13 = .ok (.iload_n 1, 1) := by decide +kernel
theorem dX7_send_14 : decode cX7_send 14 = .ok (.iaload, 1) := by decide +kernel
theorem dX7_send_15 : decode cX7_send 15 = .ok (.ineg, 1) := by decide +kernel
theorem dX7_send_16 : decode cX7_send 16 = .ok (.istore_n 2, 1) := by decide +kernel
theorem dX7_send_17 : decode cX7_send 17 = .ok (.iload_n 1, 1) := by decide +kernel
theorem dX7_send_18 : decode cX7_send 18 = .ok (.istore_n 3, 1) := by decide +kernel
theorem dX7_send_19 : decode cX7_send 19 = .ok (.iconst 0, 1) := by decide +kernel
theorem dX7_send_20 : decode cX7_send 20 = .ok (.istore 4, 2) := by decide +kernel
theorem dX7_send_22 : decode cX7_send 22 = .ok (.iload 4, 2) := by decide +kernel
theorem dX7_send_24 : decode cX7_send 24 = .ok (.bipush 8, 2) := by decide +kernel
theorem dX7_send_26 : decode cX7_send 26 = .ok (.if_icmp .ge 52, 3) := by decide +kernel
theorem dX7_send_29 : decode cX7_send 29 = .ok (.aload_n 0, 1) := by decide +kernel
theorem dX7_send_30 : decode cX7_send 30 = .ok (.getfield 24, 3) := by decide +kernel
theorem dX7_send_33 : decode cX7_send 33 = .ok (.iload_n 3, 1) := by decide +kernel
theorem dX7_send_34 : decode cX7_send 34 = .ok (.iaload, 1) := by decide +kernel
theorem dX7_send_35 : decode cX7_send 35 = .ok (.iconst (-1), 1) := by decide +kernel
theorem dX7_send_36 : decode cX7_send 36 = .ok (.if_icmp .eq 42, 3) := by decide +kernel
theorem dX7_send_39 : decode cX7_send 39 = .ok (.aload_n 0, 1) := by decide +kernel
theorem dX7_send_40 : decode cX7_send 40 = .ok (.getfield 24, 3) := by decide +kernel
theorem dX7_send_43 : decode cX7_send 43 = .ok (.iload_n 3, 1) := by decide +kernel
theorem dX7_send_44 : decode cX7_send 44 = .ok (.iaload, 1) := by decide +kernel
theorem dX7_send_45 : decode cX7_send 45 = .ok (.istore 5, 2) := by decide +kernel
theorem dX7_send_47 : decode cX7_send 47 = .ok (.iload 5, 2) := by decide +kernel
theorem dX7_send_49 : decode cX7_send 49 = .ok (.invokestatic 53, 3) := by decide +kernel
theorem dX7_send_52 : decode cX7_send 52 = .ok (.ifCond .ne 5, 3) := by decide +kernel
theorem dX7_send_55 : decode cX7_send 55 = .ok (.iconst 0, 1) := by decide +kernel
theorem dX7_send_56 : decode cX7_send 56 = .ok (.ireturn, 1) := by decide +kernel
theorem dX7_send_57 : decode cX7_send 57 = .ok (.iload_n 2, 1) := by decide +kernel
theorem dX7_send_58 : decode cX7_send 58 = .ok (.aload_n 0, 1) := by decide +kernel
theorem dX7_send_59 : decode cX7_send 59 = .ok (.iload 5, 2) := by decide +kernel
theorem dX7_send_61 : decode cX7_send 61 = .ok (.iload_n 3, 1) := by decide +kernel
theorem dX7_send_62 : decode cX7_send 62 = .ok (.invokevirtual 73, 3) := by decide +kernel
theorem dX7_send_65 : decode cX7_send 65 = .ok (.invokestatic 85, 3) := by decide +kernel
theorem dX7_send_68 : decode cX7_send 68 = .ok (.istore_n 2, 1) := by decide +kernel
theorem dX7_send_69 : decode cX7_send 69 = .ok (.iload 5, 2) := by decide +kernel
theorem dX7_send_71 : decode cX7_send 71 = .ok (.istore_n 3, 1) := by decide +kernel
theorem dX7_send_72 : decode cX7_send 72 = .ok (.iinc 4 1, 3) := by decide +kernel
theorem dX7_send_75 : decode cX7_send 75 = .ok (.goto (-53), 3) := by decide +kernel
theorem dX7_send_78 : decode cX7_send 78 = .ok (.iload_n 2, 1) := by decide +kernel
theorem dX7_send_79 : decode cX7_send 79 = .ok (.aload_n 0, 1) := by decide +kernel
theorem dX7_send_80 : decode cX7_send 80 = .ok (.getfield 18, 3) := by decide +kernel
theorem dX7_send_83 : decode cX7_send 83 = .ok (.iload_n 3, 1) := by decide +kernel
theorem dX7_send_84 : decode cX7_send 84 = .ok (.iaload, 1) := by decide +kernel
theorem dX7_send_85 : decode cX7_send 85 = .ok (.invokestatic 85, 3) := by decide +kernel
theorem dX7_send_88 : decode cX7_send 88 = .ok (.istore_n 2, 1) := by decide +kernel
theorem dX7_send_89 : decode cX7_send 89 = .ok (.aload_n 0, 1) := by decide +kernel
theorem dX7_send_90 : decode cX7_send 90 = .ok (.getfield 18, 3) := by decide +kernel
theorem dX7_send_93 : decode cX7_send 93 = .ok (.iload_n 3, 1) := by decide +kernel
theorem dX7_send_94 : decode cX7_send 94 = .ok (.dup2, 1) := by decide +kernel
theorem dX7_send_95 : decode cX7_send 95 = .ok (.iaload, 1) := by decide +kernel
theorem dX7_send_96 : decode cX7_send 96 = .ok (.iload_n 2, 1) := by decide +kernel
theorem dX7_send_97 : decode cX7_send 97 = .ok (.isub, 1) := by decide +kernel
theorem dX7_send_98 : decode cX7_send 98 = .ok (.iastore, 1) := by decide +kernel
theorem dX7_send_99 : decode cX7_send 99 = .ok (.aload_n 0, 1) := by decide +kernel
theorem dX7_send_100 : decode cX7_send 100 = .ok (.getfield 18, 3) := by decide +kernel
theorem dX7_send_103 : decode cX7_send 103 = .ok (.iload_n 1, 1) := by decide +kernel
theorem dX7_send_104 : decode cX7_send 104 = .ok (.dup2, 1) := by decide +kernel
theorem dX7_send_105 : decode cX7_send 105 = .ok (.iaload, 1) := by decide +kernel
theorem dX7_send_106 : decode cX7_send 106 = .ok (.iload_n 2, 1) := by decide +kernel
theorem dX7_send_107 : decode cX7_send 107 = .ok (.iadd, 1) := by decide +kernel
theorem dX7_send_108 : decode cX7_send 108 = .ok (.iastore, 1) := by decide +kernel
theorem dX7_send_109 : decode cX7_send 109 = .ok (.aload_n 0, 1) := by decide +kernel
theorem dX7_send_110 : decode cX7_send 110 = .ok (.iload_n 1, 1) := by decide +kernel
theorem dX7_send_111 : decode cX7_send 111 = .ok (.iload_n 2, 1) := by decide +kernel
theorem dX7_send_112 : decode cX7_send 112 = .ok (.invokevirtual 90, 3) := by decide +kernel
theorem dX7_send_115 : decode cX7_send 115 = .ok (.iload_n 2, 1) := by decide +kernel
theorem dX7_send_116 : decode cX7_send 116 = .ok (.ireturn, 1) := by decide +kernel
theorem dX7_moveAlong_0 : decode cX7_moveAlong 0 = .ok (.iload_n 1, 1) := by decide +kernel
theorem dX7_moveAlong_1 : decode cX7_moveAlong 1 = .ok (.istore_n 3, 1) := by decide +kernel
theorem dX7_moveAlong_2 : decode cX7_moveAlong 2 = .ok (.iconst 0, 1) := by decide +kernel
theorem dX7_moveAlong_3 : decode cX7_moveAlong 3 = .ok (.istore 4, 2) := by decide +kernel
theorem dX7_moveAlong_5 : decode cX7_moveAlong 5 = .ok (.iload 4, 2) := by decide +kernel
theorem dX7_moveAlong_7 : decode cX7_moveAlong 7 = .ok (.bipush 8, 2) := by decide +kernel
theorem dX7_moveAlong_9 : decode cX7_moveAlong 9 = .ok (.if_icmp .ge 81, 3) := by decide +kernel
theorem dX7_moveAlong_12 : decode cX7_moveAlong 12 = .ok (.iload_n 3, 1) := by decide +kernel
theorem dX7_moveAlong_13 : decode cX7_moveAlong 13 = .ok (.invokestatic 53, 3) := by decide +kernel
theorem dX7_moveAlong_16 : decode cX7_moveAlong 16 = .ok (.ifCond .eq 74, 3) := by decide +kernel
theorem dX7_moveAlong_19 : decode cX7_moveAlong 19 = .ok (.aload_n 0, 1) := by decide +kernel
theorem dX7_moveAlong_20 : decode cX7_moveAlong 20 = .ok (.getfield 24, 3) := by decide +kernel
theorem dX7_moveAlong_23 : decode cX7_moveAlong 23 = .ok (.iload_n 3, 1) := by decide +kernel
theorem dX7_moveAlong_24 : decode cX7_moveAlong 24 = .ok (.iaload, 1) := by decide +kernel
theorem dX7_moveAlong_25 : decode cX7_moveAlong 25 = .ok (.istore 5, 2) := by decide +kernel
theorem dX7_moveAlong_27 : decode cX7_moveAlong 27 = .ok (.iload 5, 2) := by decide +kernel
theorem dX7_moveAlong_29 : decode cX7_moveAlong 29 = .ok (.invokestatic 53, 3) := by decide +kernel
theorem dX7_moveAlong_32 : decode cX7_moveAlong 32 = .ok (.ifCond .ne 4, 3) := by decide +kernel
theorem dX7_moveAlong_35 : decode cX7_moveAlong 35 = .ok (.return_, 1) := by decide +kernel
theorem dX7_moveAlong_36 : decode cX7_moveAlong 36 = .ok (.aload_n 0, 1) := by decide +kernel
theorem dX7_moveAlong_37 : decode cX7_moveAlong 37 = .ok (.iload_n 3, 1) := by decide +kernel
theorem dX7_moveAlong_38 : decode cX7_moveAlong 38 = .ok (.iload 5, 2) := by decide +kernel
theorem dX7_moveAlong_40 : decode cX7_moveAlong 40 = .ok (.invokevirtual 79, 3) := by decide +kernel
theorem dX7_moveAlong_43 : decode cX7_moveAlong 43 = .ok (.ifCond .le 22, 3) := by decide +kernel
theorem dX7_moveAlong_46 : decode cX7_moveAlong 46 = .ok (.aload_n 0, 1) := by decide +kernel
theorem dX7_moveAlong_47 : decode cX7_moveAlong 47 = .ok (.getfield 15, 3) := by decide +kernel
theorem dX7_moveAlong_50 : decode cX7_moveAlong 50 = .ok (.iload_n 3, 1) := by decide +kernel
theorem dX7_moveAlong_51 : decode cX7_moveAlong 51 = .ok (.bipush 8, 2) := by decide +kernel
theorem dX7_moveAlong_53 : decode cX7_moveAlong 53 = .ok (.imul, 1) := by decide +kernel
theorem dX7_moveAlong_54 : decode cX7_moveAlong 54 = .ok (.iload 5, 2) := by decide +kernel
theorem dX7_moveAlong_56 : decode cX7_moveAlong 56 = .ok (.iadd, 1) := by decide +kernel
theorem dX7_moveAlong_57 : decode cX7_moveAlong 57 = .ok (.dup2, 1) := by decide +kernel
theorem dX7_moveAlong_58 : decode cX7_moveAlong 58 = .ok (.iaload, 1) := by decide +kernel
theorem dX7_moveAlong_59 : decode cX7_moveAlong 59 = .ok (.iload_n 2, 1) := by decide +kernel
theorem dX7_moveAlong_60 : decode cX7_moveAlong 60 = .ok (.isub, 1) := by decide +kernel
theorem dX7_moveAlong_61 : decode cX7_moveAlong 61 = .ok (.iastore, 1) := by decide +kernel
theorem dX7_moveAlong_62 : decode cX7_moveAlong 62 = .ok (.goto 19, 3) := by decide +kernel
theorem dX7_moveAlong_65 : decode cX7_moveAlong 65 = .ok (.aload_n 0, 1) := by decide +kernel
theorem dX7_moveAlong_66 : decode cX7_moveAlong 66 = .ok (.getfield 15, 3) := by decide +kernel
theorem dX7_moveAlong_69 : decode cX7_moveAlong 69 = .ok (.iload 5, 2) := by decide +kernel
theorem dX7_moveAlong_71 : decode cX7_moveAlong 71 = .ok (.bipush 8, 2) := by decide +kernel
theorem dX7_moveAlong_73 : decode cX7_moveAlong 73 = .ok (.imul, 1) := by decide +kernel
theorem dX7_moveAlong_74 : decode cX7_moveAlong 74 = .ok (.iload_n 3, 1) := by decide +kernel
theorem dX7_moveAlong_75 : decode cX7_moveAlong 75 = .ok (.iadd, 1) := by decide +kernel
theorem dX7_moveAlong_76 : decode cX7_moveAlong 76 = .ok (.dup2, 1) := by decide +kernel
theorem dX7_moveAlong_77 : decode cX7_moveAlong 77 = .ok (.iaload, 1) := by decide +kernel
theorem dX7_moveAlong_78 : decode cX7_moveAlong 78 = .ok (.iload_n 2, 1) := by decide +kernel
theorem dX7_moveAlong_79 : decode cX7_moveAlong 79 = .ok (.iadd, 1) := by decide +kernel
theorem dX7_moveAlong_80 : decode cX7_moveAlong 80 = .ok (.iastore, 1) := by decide +kernel
theorem dX7_moveAlong_81 : decode cX7_moveAlong 81 = .ok (.iload 5, 2) := by decide +kernel
theorem dX7_moveAlong_83 : decode cX7_moveAlong 83 = .ok (.istore_n 3, 1) := by decide +kernel
theorem dX7_moveAlong_84 : decode cX7_moveAlong 84 = .ok (.iinc 4 1, 3) := by decide +kernel
theorem dX7_moveAlong_87 : decode cX7_moveAlong 87 = .ok (.goto (-82), 3) := by decide +kernel
theorem dX7_moveAlong_90 : decode cX7_moveAlong 90 = .ok (.return_, 1) := by decide +kernel
theorem dX7_fewestPayments_0 : decode cX7_fewestPayments 0 = .ok (.iconst 1, 1) := by decide +kernel
theorem dX7_fewestPayments_1 : decode cX7_fewestPayments 1 = .ok (.istore_n 1, 1) := by decide +kernel
theorem dX7_fewestPayments_2 : decode cX7_fewestPayments 2 = .ok (.iload_n 1, 1) := by decide +kernel
theorem dX7_fewestPayments_3 : decode cX7_fewestPayments 3 = .ok (.aload_n 0, 1) := by decide +kernel
theorem dX7_fewestPayments_4 : decode cX7_fewestPayments 4 = .ok (.getfield 27, 3) := by decide +kernel
theorem dX7_fewestPayments_7 : decode cX7_fewestPayments 7 = .ok (.arraylength, 1) := by decide +kernel
theorem dX7_fewestPayments_8 : decode cX7_fewestPayments 8 = .ok (.if_icmp .ge 102, 3) := by decide +kernel
theorem dX7_fewestPayments_11 : decode cX7_fewestPayments 11 = .ok (.iconst 0, 1) := by decide +kernel
theorem dX7_fewestPayments_12 : decode cX7_fewestPayments 12 = .ok (.istore_n 2, 1) := by decide +kernel
theorem dX7_fewestPayments_13 : decode cX7_fewestPayments 13 = .ok (.iconst 0, 1) := by decide +kernel
theorem dX7_fewestPayments_14 : decode cX7_fewestPayments 14 = .ok (.istore_n 3, 1) := by decide +kernel
theorem dX7_fewestPayments_15 : decode cX7_fewestPayments 15 = .ok (.iconst 0, 1) := by decide +kernel
theorem dX7_fewestPayments_16 : decode cX7_fewestPayments 16 = .ok (.istore 4, 2) := by decide +kernel
theorem dX7_fewestPayments_18 : decode cX7_fewestPayments 18 = .ok (.iload 4, 2) := by decide +kernel
theorem dX7_fewestPayments_20 : decode cX7_fewestPayments 20 = .ok (.bipush 8, 2) := by decide +kernel
theorem dX7_fewestPayments_22 : decode cX7_fewestPayments 22 = .ok (.if_icmp .ge 65, 3) := by decide +kernel
theorem dX7_fewestPayments_25 : decode cX7_fewestPayments 25 = .ok (.iload_n 1, 1) := by decide +kernel
theorem dX7_fewestPayments_26 : decode cX7_fewestPayments 26 = .ok (.iconst 1, 1) := by decide +kernel
theorem dX7_fewestPayments_27 : decode cX7_fewestPayments 27 = .ok (.iload 4, 2) := by decide +kernel
theorem dX7_fewestPayments_29 : decode cX7_fewestPayments 29 = .ok (.ishl, 1) := by decide +kernel
theorem dX7_fewestPayments_30 : decode cX7_fewestPayments 30 = .ok (.iconst (-1), 1) := by decide +kernel
theorem dX7_fewestPayments_31 : decode cX7_fewestPayments 31 = .ok (.ixor, 1) := by decide +kernel
theorem dX7_fewestPayments_32 : decode cX7_fewestPayments 32 = .ok (.iand, 1) := by decide +kernel
theorem dX7_fewestPayments_33 : decode cX7_fewestPayments 33 = .ok (.istore 5, 2) := by decide +kernel
theorem dX7_fewestPayments_35 : decode cX7_fewestPayments 35 = .ok (.iload 5, 2) := by decide +kernel
theorem dX7_fewestPayments_37 : decode cX7_fewestPayments 37 = .ok (.iload_n 1, 1) := by decide +kernel
theorem dX7_fewestPayments_38 : decode cX7_fewestPayments 38 = .ok (.if_icmp .eq 43, 3) := by decide +kernel
theorem dX7_fewestPayments_41 : decode cX7_fewestPayments 41 = .ok (.iload 5, 2) := by decide +kernel
theorem dX7_fewestPayments_43 : decode cX7_fewestPayments 43 = .ok (.ifCond .lt 38, 3) := by decide +kernel
theorem dX7_fewestPayments_46 : decode cX7_fewestPayments 46 = .ok (.iload 5, 2) := by decide +kernel
theorem dX7_fewestPayments_48 : decode cX7_fewestPayments 48 = .ok (.aload_n 0, 1) := by decide +kernel
theorem dX7_fewestPayments_49 : decode cX7_fewestPayments 49 = .ok (.getfield 27, 3) := by decide +kernel
theorem dX7_fewestPayments_52 : decode cX7_fewestPayments 52 = .ok (.arraylength, 1) := by decide +kernel
theorem dX7_fewestPayments_53 : decode cX7_fewestPayments 53 = .ok (.if_icmp .lt 6, 3) := by decide +kernel
theorem dX7_fewestPayments_56 : decode cX7_fewestPayments 56 = .ok (.goto 25, 3) := by decide +kernel
theorem dX7_fewestPayments_59 : decode cX7_fewestPayments 59 = .ok (.iload_n 2, 1) := by decide +kernel
theorem dX7_fewestPayments_60 : decode cX7_fewestPayments 60 = .ok (.aload_n 0, 1) := by decide +kernel
theorem dX7_fewestPayments_61 : decode cX7_fewestPayments 61 = .ok (.getfield 18, 3) := by decide +kernel
theorem dX7_fewestPayments_64 : decode cX7_fewestPayments 64 = .ok (.iload 4, 2) := by decide +kernel
theorem dX7_fewestPayments_66 : decode cX7_fewestPayments 66 = .ok (.iaload, 1) := by decide +kernel
theorem dX7_fewestPayments_67 : decode cX7_fewestPayments 67 = .ok (.iadd, 1) := by decide +kernel
theorem dX7_fewestPayments_68 : decode cX7_fewestPayments 68 = .ok (.istore_n 2, 1) := by decide +kernel
theorem dX7_fewestPayments_69 : decode cX7_fewestPayments 69 = .ok (.iload_n 3, 1) := by decide +kernel
theorem dX7_fewestPayments_70 : decode cX7_fewestPayments 70 = .ok (.aload_n 0, 1) := by decide +kernel
theorem dX7_fewestPayments_71 : decode cX7_fewestPayments 71 = .ok (.getfield 27, 3) := by decide +kernel
theorem dX7_fewestPayments_74 : decode cX7_fewestPayments 74 = .ok (.iload 5, 2) := by decide +kernel
theorem dX7_fewestPayments_76 : decode cX7_fewestPayments 76 = .ok (.iaload, 1) := by decide +kernel
theorem dX7_fewestPayments_77 : decode cX7_fewestPayments 77 = .ok (.invokestatic 94, 3) := by decide +kernel
theorem dX7_fewestPayments_80 : decode cX7_fewestPayments 80 = .ok (.istore_n 3, 1) := by decide +kernel
theorem dX7_fewestPayments_81 : decode cX7_fewestPayments 81 = .ok (.iinc 4 1, 3) := by decide +kernel
theorem dX7_fewestPayments_84 : decode cX7_fewestPayments 84 = .ok (.goto (-66), 3) := by decide +kernel
theorem dX7_fewestPayments_87 : decode cX7_fewestPayments 87 = .ok (.aload_n 0, 1) := by decide +kernel
theorem dX7_fewestPayments_88 : decode cX7_fewestPayments 88 = .ok (.getfield 27, 3) := by decide +kernel
theorem dX7_fewestPayments_91 : decode cX7_fewestPayments 91 = .ok (.iload_n 1, 1) := by decide +kernel
theorem dX7_fewestPayments_92 : decode cX7_fewestPayments 92 = .ok (.iload_n 3, 1) := by decide +kernel
theorem dX7_fewestPayments_93 : decode cX7_fewestPayments 93 = .ok (.iload_n 2, 1) := by decide +kernel
theorem dX7_fewestPayments_94 : decode cX7_fewestPayments 94 = .ok (.ifCond .ne 7, 3) := by decide +kernel
theorem dX7_fewestPayments_97 : decode cX7_fewestPayments 97 = .ok (.iconst 1, 1) := by decide +kernel
theorem dX7_fewestPayments_98 : decode cX7_fewestPayments 98 = .ok (.goto 4, 3) := by decide +kernel
theorem dX7_fewestPayments_101 : decode cX7_fewestPayments 101 = .ok (.iconst 0, 1) := by decide +kernel
theorem dX7_fewestPayments_102 : decode cX7_fewestPayments 102 = .ok (.iadd, 1) := by decide +kernel
theorem dX7_fewestPayments_103 : decode cX7_fewestPayments 103 = .ok (.iastore, 1) := by decide +kernel
theorem dX7_fewestPayments_104 : decode cX7_fewestPayments 104 = .ok (.iinc 1 1, 3) := by decide +kernel
theorem dX7_fewestPayments_107 : decode cX7_fewestPayments 107 = .ok (.goto (-105), 3) := by decide +kernel
theorem dX7_fewestPayments_110 : decode cX7_fewestPayments 110 = .ok (.bipush 8, 2) := by decide +kernel
theorem dX7_fewestPayments_112 : decode cX7_fewestPayments 112 = .ok (.aload_n 0, 1) := by decide +kernel
theorem dX7_fewestPayments_113 : decode cX7_fewestPayments 113 = .ok (.getfield 27, 3) := by decide +kernel
theorem dX7_fewestPayments_116 : decode cX7_fewestPayments 116 = .ok (.sipush 255, 3) := by decide +kernel
theorem dX7_fewestPayments_119 : decode cX7_fewestPayments 119 = .ok (.iaload, 1) := by decide +kernel
theorem dX7_fewestPayments_120 : decode cX7_fewestPayments 120 = .ok (.isub, 1) := by decide +kernel
theorem dX7_fewestPayments_121 : decode cX7_fewestPayments 121 = .ok (.ireturn, 1) := by decide +kernel
theorem dX8_init_0 : decode cX8_init 0 = .ok (.aload_n 0, 1) := by decide +kernel
theorem dX8_init_1 : decode cX8_init 1 = .ok (.invokespecial 3, 3) := by decide +kernel
theorem dX8_init_4 : decode cX8_init 4 = .ok (.aload_n 0, 1) := by decide +kernel
theorem dX8_init_5 : decode cX8_init 5 = .ok (.bipush 21, 2) := by decide +kernel
theorem dX8_init_7 : decode cX8_init 7 = .ok (.newarray .int, 2) := by decide +kernel
theorem dX8_init_9 : decode cX8_init 9 = .ok (.putfield 11, 3) := by decide +kernel
theorem dX8_init_12 : decode cX8_init 12 = .ok (.aload_n 0, 1) := by decide +kernel
theorem dX8_init_13 : decode cX8_init 13 = .ok (.bipush 21, 2) := by decide +kernel
theorem dX8_init_15 : decode cX8_init 15 = .ok (.newarray .long, 2) := by decide +kernel
theorem dX8_init_17 : decode cX8_init 17 = .ok (.putfield 15, 3) := by decide +kernel
theorem dX8_init_20 : decode cX8_init 20 = .ok (.return_, 1) := by decide +kernel
theorem dX8_empty_0 : decode cX8_empty 0 = .ok (.aload_n 0, 1) := by decide +kernel
theorem dX8_empty_1 : decode cX8_empty 1 = .ok (.iconst 0, 1) := by decide +kernel
theorem dX8_empty_2 : decode cX8_empty 2 = .ok (.putfield 19, 3) := by decide +kernel
theorem dX8_empty_5 : decode cX8_empty 5 = .ok (.return_, 1) := by decide +kernel
theorem dX8_length_0 : decode cX8_length 0 = .ok (.aload_n 0, 1) := by decide +kernel
theorem dX8_length_1 : decode cX8_length 1 = .ok (.getfield 19, 3) := by decide +kernel
theorem dX8_length_4 : decode cX8_length 4 = .ok (.ireturn, 1) := by decide +kernel
theorem dX8_minuteAt_0 : decode cX8_minuteAt 0 = .ok (.iload_n 1, 1) := by decide +kernel
theorem dX8_minuteAt_1 : decode cX8_minuteAt 1 = .ok (.ifCond .lt 26, 3) := by decide +kernel
theorem dX8_minuteAt_4 : decode cX8_minuteAt 4 = .ok (.iload_n 1, 1) := by decide +kernel
theorem dX8_minuteAt_5 : decode cX8_minuteAt 5 = .ok (.aload_n 0, 1) := by decide +kernel
theorem dX8_minuteAt_6 : decode cX8_minuteAt 6 = .ok (.getfield 19, 3) := by decide +kernel
theorem dX8_minuteAt_9 : decode cX8_minuteAt 9 = .ok (.if_icmp .ge 18, 3) := by decide +kernel
theorem dX8_minuteAt_12 : decode cX8_minuteAt 12 = .ok (.iload_n 1, 1) := by decide +kernel
theorem dX8_minuteAt_13 : decode cX8_minuteAt 13 = .ok (.bipush 21, 2) := by decide +kernel
theorem dX8_minuteAt_15 : decode cX8_minuteAt 15 = .ok (.if_icmp .ge 12, 3) := by decide +kernel
theorem dX8_minuteAt_18 : decode cX8_minuteAt 18 = .ok (.aload_n 0, 1) := by decide +kernel
theorem dX8_minuteAt_19 : decode cX8_minuteAt 19 = .ok (.getfield 11, 3) := by decide +kernel
theorem dX8_minuteAt_22 : decode cX8_minuteAt 22 = .ok (.iload_n 1, 1) := by decide +kernel
theorem dX8_minuteAt_23 : decode cX8_minuteAt 23 = .ok (.iaload, 1) := by decide +kernel
theorem dX8_minuteAt_24 : decode cX8_minuteAt 24 = .ok (.goto 4, 3) := by decide +kernel
theorem dX8_minuteAt_27 : decode cX8_minuteAt 27 = .ok (.iconst 0, 1) := by decide +kernel
theorem dX8_minuteAt_28 : decode cX8_minuteAt 28 = .ok (.ireturn, 1) := by decide +kernel
theorem dX8_weightAt_0 : decode cX8_weightAt 0 = .ok (.iload_n 1, 1) := by decide +kernel
theorem dX8_weightAt_1 : decode cX8_weightAt 1 = .ok (.ifCond .lt 26, 3) := by decide +kernel
theorem dX8_weightAt_4 : decode cX8_weightAt 4 = .ok (.iload_n 1, 1) := by decide +kernel
theorem dX8_weightAt_5 : decode cX8_weightAt 5 = .ok (.aload_n 0, 1) := by decide +kernel
theorem dX8_weightAt_6 : decode cX8_weightAt 6 = .ok (.getfield 19, 3) := by decide +kernel
theorem dX8_weightAt_9 : decode cX8_weightAt 9 = .ok (.if_icmp .ge 18, 3) := by decide +kernel
theorem dX8_weightAt_12 : decode cX8_weightAt 12 = .ok (.iload_n 1, 1) := by decide +kernel
theorem dX8_weightAt_13 : decode cX8_weightAt 13 = .ok (.bipush 21, 2) := by decide +kernel
theorem dX8_weightAt_15 : decode cX8_weightAt 15 = .ok (.if_icmp .ge 12, 3) := by decide +kernel
theorem dX8_weightAt_18 : decode cX8_weightAt 18 = .ok (.aload_n 0, 1) := by decide +kernel
theorem dX8_weightAt_19 : decode cX8_weightAt 19 = .ok (.getfield 15, 3) := by decide +kernel
theorem dX8_weightAt_22 : decode cX8_weightAt 22 = .ok (.iload_n 1, 1) := by decide +kernel
theorem dX8_weightAt_23 : decode cX8_weightAt 23 = .ok (.laload, 1) := by decide +kernel
theorem dX8_weightAt_24 : decode cX8_weightAt 24 = .ok (.goto 4, 3) := by decide +kernel
theorem dX8_weightAt_27 : decode cX8_weightAt 27 = .ok (.lconst 0, 1) := by decide +kernel
theorem dX8_weightAt_28 : decode cX8_weightAt 28 = .ok (.lreturn, 1) := by decide +kernel
theorem dX8_add_0 : decode cX8_add 0 = .ok (.iconst 0, 1) := by decide +kernel
theorem dX8_add_1 : decode cX8_add 1 = .ok (.istore 4, 2) := by decide +kernel
theorem dX8_add_3 : decode cX8_add 3 = .ok (.iload 4, 2) := by decide +kernel
theorem dX8_add_5 : decode cX8_add 5 = .ok (.aload_n 0, 1) := by decide +kernel
theorem dX8_add_6 : decode cX8_add 6 = .ok (.getfield 19, 3) := by decide +kernel
theorem dX8_add_9 : decode cX8_add 9 = .ok (.if_icmp .ge 39, 3) := by decide +kernel
theorem dX8_add_12 : decode cX8_add 12 = .ok (.iload 4, 2) := by decide +kernel
theorem dX8_add_14 : decode cX8_add 14 = .ok (.bipush 21, 2) := by decide +kernel
theorem dX8_add_16 : decode cX8_add 16 = .ok (.if_icmp .ge 32, 3) := by decide +kernel
theorem dX8_add_19 : decode cX8_add 19 = .ok (.aload_n 0, 1) := by decide +kernel
theorem dX8_add_20 : decode cX8_add 20 = .ok (.getfield 11, 3) := by decide +kernel
theorem dX8_add_23 : decode cX8_add 23 = .ok (.iload 4, 2) := by decide +kernel
theorem dX8_add_25 : decode cX8_add 25 = .ok (.iaload, 1) := by decide +kernel
theorem dX8_add_26 : decode cX8_add 26 = .ok (.iload_n 1, 1) := by decide +kernel
theorem dX8_add_27 : decode cX8_add 27 = .ok (.if_icmp .ne 15, 3) := by decide +kernel
theorem dX8_add_30 : decode cX8_add 30 = .ok (.aload_n 0, 1) := by decide +kernel
theorem dX8_add_31 : decode cX8_add 31 = .ok (.getfield 15, 3) := by decide +kernel
theorem dX8_add_34 : decode cX8_add 34 = .ok (.iload 4, 2) := by decide +kernel
theorem dX8_add_36 : decode cX8_add 36 = .ok (.dup2, 1) := by decide +kernel
theorem dX8_add_37 : decode cX8_add 37 = .ok (.laload, 1) := by decide +kernel
theorem dX8_add_38 : decode cX8_add 38 = .ok (.lload_n 2, 1) := by decide +kernel
theorem dX8_add_39 : decode cX8_add 39 = .ok (.ladd, 1) := by decide +kernel
theorem dX8_add_40 : decode cX8_add 40 = .ok (.lastore, 1) := by decide +kernel
theorem dX8_add_41 : decode cX8_add 41 = .ok (.return_, 1) := by decide +kernel
theorem dX8_add_42 : decode cX8_add 42 = .ok (.iinc 4 1, 3) := by decide +kernel
theorem dX8_add_45 : decode cX8_add 45 = .ok (.goto (-42), 3) := by decide +kernel
theorem dX8_add_48 : decode cX8_add 48 = .ok (.aload_n 0, 1) := by decide +kernel
theorem dX8_add_49 : decode cX8_add 49 = .ok (.getfield 19, 3) := by decide +kernel
theorem dX8_add_52 : decode cX8_add 52 = .ok (.ifCond .lt 12, 3) := by decide +kernel
theorem dX8_add_55 : decode cX8_add 55 = .ok (.aload_n 0, 1) := by decide +kernel
theorem dX8_add_56 : decode cX8_add 56 = .ok (.getfield 19, 3) := by decide +kernel
theorem dX8_add_59 : decode cX8_add 59 = .ok (.bipush 21, 2) := by decide +kernel
theorem dX8_add_61 : decode cX8_add 61 = .ok (.if_icmp .lt 4, 3) := by decide +kernel
theorem dX8_add_64 : decode cX8_add 64 = .ok (.return_, 1) := by decide +kernel
theorem dX8_add_65 : decode cX8_add 65 = .ok (.aload_n 0, 1) := by decide +kernel
theorem dX8_add_66 : decode cX8_add 66 = .ok (.getfield 11, 3) := by decide +kernel
theorem dX8_add_69 : decode cX8_add 69 = .ok (.aload_n 0, 1) := by decide +kernel
theorem dX8_add_70 : decode cX8_add 70 = .ok (.getfield 19, 3) := by decide +kernel
theorem dX8_add_73 : decode cX8_add 73 = .ok (.iload_n 1, 1) := by decide +kernel
theorem dX8_add_74 : decode cX8_add 74 = .ok (.iastore, 1) := by decide +kernel
theorem dX8_add_75 : decode cX8_add 75 = .ok (.aload_n 0, 1) := by decide +kernel
theorem dX8_add_76 : decode cX8_add 76 = .ok (.getfield 15, 3) := by decide +kernel
theorem dX8_add_79 : decode cX8_add 79 = .ok (.aload_n 0, 1) := by decide +kernel
theorem dX8_add_80 : decode cX8_add 80 = .ok (.getfield 19, 3) := by decide +kernel
theorem dX8_add_83 : decode cX8_add 83 = .ok (.lload_n 2, 1) := by decide +kernel
theorem dX8_add_84 : decode cX8_add 84 = .ok (.lastore, 1) := by decide +kernel
theorem dX8_add_85 : decode cX8_add 85 = .ok (.aload_n 0, 1) := by decide +kernel
theorem dX8_add_86 : decode cX8_add 86 = .ok (.dup, 1) := by decide +kernel
theorem dX8_add_87 : decode cX8_add 87 = .ok (.getfield 19, 3) := by decide +kernel
theorem dX8_add_90 : decode cX8_add 90 = .ok (.iconst 1, 1) := by decide +kernel
theorem dX8_add_91 : decode cX8_add 91 = .ok (.iadd, 1) := by decide +kernel
theorem dX8_add_92 : decode cX8_add 92 = .ok (.putfield 19, 3) := by decide +kernel
theorem dX8_add_95 : decode cX8_add 95 = .ok (.return_, 1) := by decide +kernel
theorem dX8_above_0 : decode cX8_above 0 = .ok (.lconst 0, 1) := by decide +kernel
theorem dX8_above_1 : decode cX8_above 1 = .ok (.lstore_n 2, 1) := by decide +kernel
theorem dX8_above_2 : decode cX8_above 2 = .ok (.iconst 0, 1) := by decide +kernel
theorem dX8_above_3 : decode cX8_above 3 = .ok (.istore 4, 2) := by decide +kernel
theorem dX8_above_5 : decode cX8_above 5 = .ok (.iload 4, 2) := by decide +kernel
theorem dX8_above_7 : decode cX8_above 7 = .ok (.aload_n 0, 1) := by decide +kernel
theorem dX8_above_8 : decode cX8_above 8 = .ok (.getfield 19, 3) := by decide +kernel
theorem dX8_above_11 : decode cX8_above 11 = .ok (.if_icmp .ge 48, 3) := by decide +kernel
theorem dX8_above_14 : decode cX8_above 14 = .ok (.iload 4, 2) := by decide +kernel
theorem dX8_above_16 : decode cX8_above 16 = .ok (.bipush 21, 2) := by decide +kernel
theorem dX8_above_18 : decode cX8_above 18 = .ok (.if_icmp .ge 41, 3) := by decide +kernel
theorem dX8_above_21 : decode cX8_above 21 = .ok (.aload_n 0, 1) := by decide +kernel
theorem dX8_above_22 : decode cX8_above 22 = .ok (.getfield 11, 3) := by decide +kernel
theorem dX8_above_25 : decode cX8_above 25 = .ok (.iload 4, 2) := by decide +kernel
theorem dX8_above_27 : decode cX8_above 27 = .ok (.iaload, 1) := by decide +kernel
theorem dX8_above_28 : decode cX8_above 28 = .ok (.iload_n 1, 1) := by decide +kernel
theorem dX8_above_29 : decode cX8_above 29 = .ok (.if_icmp .le 24, 3) := by decide +kernel
theorem dX8_above_32 : decode cX8_above 32 = .ok (.lload_n 2, 1) := by decide +kernel
theorem dX8_above_33 : decode cX8_above 33 = .ok (.aload_n 0, 1) := by decide +kernel
theorem dX8_above_34 : decode cX8_above 34 = .ok (.getfield 15, 3) := by decide +kernel
theorem dX8_above_37 : decode cX8_above 37 = .ok (.iload 4, 2) := by decide +kernel
theorem dX8_above_39 : decode cX8_above 39 = .ok (.laload, 1) := by decide +kernel
theorem dX8_above_40 : decode cX8_above 40 = .ok (.aload_n 0, 1) := by decide +kernel
theorem dX8_above_41 : decode cX8_above 41 = .ok (.getfield 11, 3) := by decide +kernel
theorem dX8_above_44 : decode cX8_above 44 = .ok (.iload 4, 2) := by decide +kernel
theorem dX8_above_46 : decode cX8_above 46 = .ok (.iaload, 1) := by decide +kernel
theorem dX8_above_47 : decode cX8_above 47 = .ok (.iload_n 1, 1) := by decide +kernel
theorem dX8_above_48 : decode cX8_above 48 = .ok (.isub, 1) := by decide +kernel
theorem dX8_above_49 : decode cX8_above 49 = .ok (.i2l, 1) := by decide +kernel
theorem dX8_above_50 : decode cX8_above 50 = .ok (.lmul, 1) := by decide +kernel
theorem dX8_above_51 : decode cX8_above 51 = .ok (.ladd, 1) := by decide +kernel
theorem dX8_above_52 : decode cX8_above 52 = .ok (.lstore_n 2, 1) := by decide +kernel
theorem dX8_above_53 : decode cX8_above 53 = .ok (.iinc 4 1, 3) := by decide +kernel
theorem dX8_above_56 : decode cX8_above 56 = .ok (.goto (-51), 3) := by decide +kernel
theorem dX8_above_59 : decode cX8_above 59 = .ok (.lload_n 2, 1) := by decide +kernel
theorem dX8_above_60 : decode cX8_above 60 = .ok (.lreturn, 1) := by decide +kernel
theorem dX8_below_0 : decode cX8_below 0 = .ok (.lconst 0, 1) := by decide +kernel
theorem dX8_below_1 : decode cX8_below 1 = .ok (.lstore_n 2, 1) := by decide +kernel
theorem dX8_below_2 : decode cX8_below 2 = .ok (.iconst 0, 1) := by decide +kernel
theorem dX8_below_3 : decode cX8_below 3 = .ok (.istore 4, 2) := by decide +kernel
theorem dX8_below_5 : decode cX8_below 5 = .ok (.iload 4, 2) := by decide +kernel
theorem dX8_below_7 : decode cX8_below 7 = .ok (.aload_n 0, 1) := by decide +kernel
theorem dX8_below_8 : decode cX8_below 8 = .ok (.getfield 19, 3) := by decide +kernel
theorem dX8_below_11 : decode cX8_below 11 = .ok (.if_icmp .ge 48, 3) := by decide +kernel
theorem dX8_below_14 : decode cX8_below 14 = .ok (.iload 4, 2) := by decide +kernel
theorem dX8_below_16 : decode cX8_below 16 = .ok (.bipush 21, 2) := by decide +kernel
theorem dX8_below_18 : decode cX8_below 18 = .ok (.if_icmp .ge 41, 3) := by decide +kernel
theorem dX8_below_21 : decode cX8_below 21 = .ok (.aload_n 0, 1) := by decide +kernel
theorem dX8_below_22 : decode cX8_below 22 = .ok (.getfield 11, 3) := by decide +kernel
theorem dX8_below_25 : decode cX8_below 25 = .ok (.iload 4, 2) := by decide +kernel
theorem dX8_below_27 : decode cX8_below 27 = .ok (.iaload, 1) := by decide +kernel
theorem dX8_below_28 : decode cX8_below 28 = .ok (.iload_n 1, 1) := by decide +kernel
theorem dX8_below_29 : decode cX8_below 29 = .ok (.if_icmp .ge 24, 3) := by decide +kernel
theorem dX8_below_32 : decode cX8_below 32 = .ok (.lload_n 2, 1) := by decide +kernel
theorem dX8_below_33 : decode cX8_below 33 = .ok (.aload_n 0, 1) := by decide +kernel
theorem dX8_below_34 : decode cX8_below 34 = .ok (.getfield 15, 3) := by decide +kernel
theorem dX8_below_37 : decode cX8_below 37 = .ok (.iload 4, 2) := by decide +kernel
theorem dX8_below_39 : decode cX8_below 39 = .ok (.laload, 1) := by decide +kernel
theorem dX8_below_40 : decode cX8_below 40 = .ok (.iload_n 1, 1) := by decide +kernel
theorem dX8_below_41 : decode cX8_below 41 = .ok (.aload_n 0, 1) := by decide +kernel
theorem dX8_below_42 : decode cX8_below 42 = .ok (.getfield 11, 3) := by decide +kernel
theorem dX8_below_45 : decode cX8_below 45 = .ok (.iload 4, 2) := by decide +kernel
theorem dX8_below_47 : decode cX8_below 47 = .ok (.iaload, 1) := by decide +kernel
theorem dX8_below_48 : decode cX8_below 48 = .ok (.isub, 1) := by decide +kernel
theorem dX8_below_49 : decode cX8_below 49 = .ok (.i2l, 1) := by decide +kernel
theorem dX8_below_50 : decode cX8_below 50 = .ok (.lmul, 1) := by decide +kernel
theorem dX8_below_51 : decode cX8_below 51 = .ok (.ladd, 1) := by decide +kernel
theorem dX8_below_52 : decode cX8_below 52 = .ok (.lstore_n 2, 1) := by decide +kernel
theorem dX8_below_53 : decode cX8_below 53 = .ok (.iinc 4 1, 3) := by decide +kernel
theorem dX8_below_56 : decode cX8_below 56 = .ok (.goto (-51), 3) := by decide +kernel
theorem dX8_below_59 : decode cX8_below 59 = .ok (.lload_n 2, 1) := by decide +kernel
theorem dX8_below_60 : decode cX8_below 60 = .ok (.lreturn, 1) := by decide +kernel
theorem dX9_init_0 : decode cX9_init 0 = .ok (.aload_n 0, 1) := by decide +kernel
theorem dX9_init_1 : decode cX9_init 1 = .ok (.invokespecial 3, 3) := by decide +kernel
theorem dX9_init_4 : decode cX9_init 4 = .ok (.aload_n 0, 1) := by decide +kernel
theorem dX9_init_5 : decode cX9_init 5 = .ok (.sipush 400, 3) := by decide +kernel
theorem dX9_init_8 : decode cX9_init 8 = .ok (.newarray .byte, 2) := by decide +kernel
theorem dX9_init_10 : decode cX9_init 10 = .ok (.putfield 9, 3) := by decide +kernel
theorem dX9_init_13 : decode cX9_init 13 = .ok (.return_, 1) := by decide +kernel
theorem dX9_length_0 : decode cX9_length 0 = .ok (.aload_n 0, 1) := by decide +kernel
theorem dX9_length_1 : decode cX9_length 1 = .ok (.getfield 15, 3) := by decide +kernel
theorem dX9_length_4 : decode cX9_length 4 = .ok (.ireturn, 1) := by decide +kernel
theorem dX9_put_0 : decode cX9_put 0 = .ok (.bipush 24, 2) := by decide +kernel
theorem dX9_put_2 : decode cX9_put 2 = .ok (.istore_n 2, 1) := by decide +kernel
theorem dX9_put_3 : decode cX9_put 3 = .ok (.iload_n 2, 1) := by decide +kernel
theorem dX9_put_4 : decode cX9_put 4 = .ok (.ifCond .lt 51, 3) := by decide +kernel
theorem dX9_put_7 : decode cX9_put 7 = .ok (.aload_n 0, 1) := by decide +kernel
theorem dX9_put_8 : decode cX9_put 8 = .ok (.getfield 15, 3) := by decide +kernel
theorem dX9_put_11 : decode cX9_put 11 = .ok (.ifCond .lt 38, 3) := by decide +kernel
theorem dX9_put_14 : decode cX9_put 14 = .ok (.aload_n 0, 1) := by decide +kernel
theorem dX9_put_15 : decode cX9_put 15 = .ok (.getfield 15, 3) := by decide +kernel
theorem dX9_put_18 : decode cX9_put 18 = .ok (.aload_n 0, 1) := by decide +kernel
theorem dX9_put_19 : decode cX9_put 19 = .ok (.getfield 9, 3) := by decide +kernel
theorem dX9_put_22 : decode cX9_put 22 = .ok (.arraylength, 1) := by decide +kernel
theorem dX9_put_23 : decode cX9_put 23 = .ok (.if_icmp .ge 26, 3) := by decide +kernel
theorem dX9_put_26 : decode cX9_put 26 = .ok (.aload_n 0, 1) := by decide +kernel
theorem dX9_put_27 : decode cX9_put 27 = .ok (.getfield 9, 3) := by decide +kernel
theorem dX9_put_30 : decode cX9_put 30 = .ok (.aload_n 0, 1) := by decide +kernel
theorem dX9_put_31 : decode cX9_put 31 = .ok (.getfield 15, 3) := by decide +kernel
theorem dX9_put_34 : decode cX9_put 34 = .ok (.iload_n 1, 1) := by decide +kernel
theorem dX9_put_35 : decode cX9_put 35 = .ok (.iload_n 2, 1) := by decide +kernel
theorem dX9_put_36 : decode cX9_put 36 = .ok (.ishr, 1) := by decide +kernel
theorem dX9_put_37 : decode cX9_put 37 = .ok (.i2b, 1) := by decide +kernel
theorem dX9_put_38 : decode cX9_put 38 = .ok (.bastore, 1) := by decide +kernel
theorem dX9_put_39 : decode cX9_put 39 = .ok (.aload_n 0, 1) := by decide +kernel
theorem dX9_put_40 : decode cX9_put 40 = .ok (.dup, 1) := by decide +kernel
theorem dX9_put_41 : decode cX9_put 41 = .ok (.getfield 15, 3) := by decide +kernel
theorem dX9_put_44 : decode cX9_put 44 = .ok (.iconst 1, 1) := by decide +kernel
theorem dX9_put_45 : decode cX9_put 45 = .ok (.iadd, 1) := by decide +kernel
theorem dX9_put_46 : decode cX9_put 46 = .ok (.putfield 15, 3) := by decide +kernel
theorem dX9_put_49 : decode cX9_put 49 = .ok (.iinc 2 (-8), 3) := by decide +kernel
theorem dX9_put_52 : decode cX9_put 52 = .ok (.goto (-49), 3) := by decide +kernel
theorem dX9_put_55 : decode cX9_put 55 = .ok (.return_, 1) := by decide +kernel
theorem dX9_empty_0 : decode cX9_empty 0 = .ok (.aload_n 0, 1) := by decide +kernel
theorem dX9_empty_1 : decode cX9_empty 1 = .ok (.iconst 0, 1) := by decide +kernel
theorem dX9_empty_2 : decode cX9_empty 2 = .ok (.putfield 15, 3) := by decide +kernel
theorem dX9_empty_5 : decode cX9_empty 5 = .ok (.return_, 1) := by decide +kernel
theorem dX9_byteAt_0 : decode cX9_byteAt 0 = .ok (.iload_n 1, 1) := by decide +kernel
theorem dX9_byteAt_1 : decode cX9_byteAt 1 = .ok (.ifCond .lt 33, 3) := by decide +kernel
theorem dX9_byteAt_4 : decode cX9_byteAt 4 = .ok (.iload_n 1, 1) := by decide +kernel
theorem dX9_byteAt_5 : decode cX9_byteAt 5 = .ok (.aload_n 0, 1) := by decide +kernel
theorem dX9_byteAt_6 : decode cX9_byteAt 6 = .ok (.getfield 15, 3) := by decide +kernel
theorem dX9_byteAt_9 : decode cX9_byteAt 9 = .ok (.if_icmp .ge 25, 3) := by decide +kernel
theorem dX9_byteAt_12 : decode cX9_byteAt 12 = .ok (.iload_n 1, 1) := by decide +kernel
theorem dX9_byteAt_13 : decode cX9_byteAt 13 = .ok (.aload_n 0, 1) := by decide +kernel
theorem dX9_byteAt_14 : decode cX9_byteAt 14 = .ok (.getfield 9, 3) := by decide +kernel
theorem dX9_byteAt_17 : decode cX9_byteAt 17 = .ok (.arraylength, 1) := by decide +kernel
theorem dX9_byteAt_18 : decode cX9_byteAt 18 = .ok (.if_icmp .ge 16, 3) := by decide +kernel
theorem dX9_byteAt_21 : decode cX9_byteAt 21 = .ok (.aload_n 0, 1) := by decide +kernel
theorem dX9_byteAt_22 : decode cX9_byteAt 22 = .ok (.getfield 9, 3) := by decide +kernel
theorem dX9_byteAt_25 : decode cX9_byteAt 25 = .ok (.iload_n 1, 1) := by decide +kernel
theorem dX9_byteAt_26 : decode cX9_byteAt 26 = .ok (.baload, 1) := by decide +kernel
theorem dX9_byteAt_27 : decode cX9_byteAt 27 = .ok (.sipush 255, 3) := by decide +kernel
theorem dX9_byteAt_30 : decode cX9_byteAt 30 = .ok (.iand, 1) := by decide +kernel
theorem dX9_byteAt_31 : decode cX9_byteAt 31 = .ok (.goto 4, 3) := by decide +kernel
theorem dX9_byteAt_34 : decode cX9_byteAt 34 = .ok (.iconst (-1), 1) := by decide +kernel
theorem dX9_byteAt_35 : decode cX9_byteAt 35 = .ok (.ireturn, 1) := by decide +kernel
theorem dX9_wordAt_0 : decode cX9_wordAt 0 = .ok (.iconst 0, 1) := by decide +kernel
theorem dX9_wordAt_1 : decode cX9_wordAt 1 = .ok (.istore_n 2, 1) := by decide +kernel
theorem dX9_wordAt_2 : decode cX9_wordAt 2 = .ok (.iconst 0, 1) := by decide +kernel
theorem dX9_wordAt_3 : decode cX9_wordAt 3 = .ok (.istore_n 3, 1) := by decide +kernel
theorem dX9_wordAt_4 : decode cX9_wordAt 4 = .ok (.iload_n 3, 1) := by decide +kernel
theorem dX9_wordAt_5 : decode cX9_wordAt 5 = .ok (.iconst 4, 1) := by decide +kernel
theorem dX9_wordAt_6 : decode cX9_wordAt 6 = .ok (.if_icmp .ge 28, 3) := by decide +kernel
theorem dX9_wordAt_9 : decode cX9_wordAt 9 = .ok (.iload_n 2, 1) := by decide +kernel
theorem dX9_wordAt_10 : decode cX9_wordAt 10 = .ok (.bipush 8, 2) := by decide +kernel
theorem dX9_wordAt_12 : decode cX9_wordAt 12 = .ok (.ishl, 1) := by decide +kernel
theorem dX9_wordAt_13 : decode cX9_wordAt 13 = .ok (.aload_n 0, 1) := by decide +kernel
theorem dX9_wordAt_14 : decode cX9_wordAt 14 = .ok (.iload_n 1, 1) := by decide +kernel
theorem dX9_wordAt_15 : decode cX9_wordAt 15 = .ok (.iconst 4, 1) := by decide +kernel
theorem dX9_wordAt_16 : decode cX9_wordAt 16 = .ok (.imul, 1) := by decide +kernel
theorem dX9_wordAt_17 : decode cX9_wordAt 17 = .ok (.iload_n 3, 1) := by decide +kernel
theorem dX9_wordAt_18 : decode cX9_wordAt 18 = .ok (.iadd, 1) := by decide +kernel
theorem dX9_wordAt_19 : decode cX9_wordAt 19 = .ok (.invokevirtual 19, 3) := by decide +kernel
theorem dX9_wordAt_22 : decode cX9_wordAt 22 = .ok (.sipush 255, 3) := by decide +kernel
theorem dX9_wordAt_25 : decode cX9_wordAt 25 = .ok (.iand, 1) := by decide +kernel
theorem dX9_wordAt_26 : decode cX9_wordAt 26 = .ok (.ior, 1) := by decide +kernel
theorem dX9_wordAt_27 : decode cX9_wordAt 27 = .ok (.istore_n 2, 1) := by decide +kernel
theorem dX9_wordAt_28 : decode cX9_wordAt 28 = .ok (.iinc 3 1, 3) := by decide +kernel
theorem dX9_wordAt_31 : decode cX9_wordAt 31 = .ok (.goto (-27), 3) := by decide +kernel
theorem dX9_wordAt_34 : decode cX9_wordAt 34 = .ok (.iload_n 2, 1) := by decide +kernel
theorem dX9_wordAt_35 : decode cX9_wordAt 35 = .ok (.ireturn, 1) := by decide +kernel
theorem dX10_init_0 : decode cX10_init 0 = .ok (.aload_n 0, 1) := by decide +kernel
theorem dX10_init_1 : decode cX10_init 1 = .ok (.invokespecial 3, 3) := by decide +kernel
theorem dX10_init_4 : decode cX10_init 4 = .ok (.aload_n 0, 1) := by decide +kernel
theorem dX10_init_5 : decode cX10_init 5 = .ok (.bipush 8, 2) := by decide +kernel
theorem dX10_init_7 : decode cX10_init 7 = .ok (.newarray .int, 2) := by decide +kernel
theorem dX10_init_9 : decode cX10_init 9 = .ok (.putfield 9, 3) := by decide +kernel
theorem dX10_init_12 : decode cX10_init 12 = .ok (.aload_n 0, 1) := by decide +kernel
theorem dX10_init_13 : decode cX10_init 13 = .ok (.bipush 40, 2) := by decide +kernel
theorem dX10_init_15 : decode cX10_init 15 = .ok (.newarray .int, 2) := by decide +kernel
theorem dX10_init_17 : decode cX10_init 17 = .ok (.putfield 15, 3) := by decide +kernel
theorem dX10_init_20 : decode cX10_init 20 = .ok (.aload_n 0, 1) := by decide +kernel
theorem dX10_init_21 : decode cX10_init 21 = .ok (.bipush 40, 2) := by decide +kernel
theorem dX10_init_23 : decode cX10_init 23 = .ok (.newarray .int, 2) := by decide +kernel
theorem dX10_init_25 : decode cX10_init 25 = .ok (.putfield 18, 3) := by decide +kernel
theorem dX10_init_28 : decode cX10_init 28 = .ok (.aload_n 0, 1) := by decide +kernel
theorem dX10_init_29 : decode cX10_init 29 = .ok (.bipush 8, 2) := by decide +kernel
theorem dX10_init_31 : decode cX10_init 31 = .ok (.newarray .int, 2) := by decide +kernel
theorem dX10_init_33 : decode cX10_init 33 = .ok (.putfield 21, 3) := by decide +kernel
theorem dX10_init_36 : decode cX10_init 36 = .ok (.aload_n 0, 1) := by decide +kernel
theorem dX10_init_37 : decode cX10_init 37 = .ok (.bipush 8, 2) := by decide +kernel
theorem dX10_init_39 : decode cX10_init 39 = .ok (.newarray .boolean, 2) := by decide +kernel
theorem dX10_init_41 : decode cX10_init 41 = .ok (.putfield 24, 3) := by decide +kernel
theorem dX10_init_44 : decode cX10_init 44 = .ok (.aload_n 0, 1) := by decide +kernel
theorem dX10_init_45 : decode cX10_init 45 = .ok (.bipush 9, 2) := by decide +kernel
theorem dX10_init_47 : decode cX10_init 47 = .ok (.newarray .long, 2) := by decide +kernel
theorem dX10_init_49 : decode cX10_init 49 = .ok (.putfield 28, 3) := by decide +kernel
theorem dX10_init_52 : decode cX10_init 52 = .ok (.aload_n 0, 1) := by decide +kernel
theorem dX10_init_53 : decode cX10_init 53 = .ok (.iconst 1, 1) := by decide +kernel
theorem dX10_init_54 : decode cX10_init 54 = .ok (.putfield 32, 3) := by decide +kernel
theorem dX10_init_57 : decode cX10_init 57 = .ok (.aload_n 0, 1) := by decide +kernel
theorem dX10_init_58 : decode cX10_init 58 = .ok (.iconst 1, 1) := by decide +kernel
theorem dX10_init_59 : decode cX10_init 59 = .ok (.putfield 36, 3) := by decide +kernel
theorem dX10_init_62 : decode cX10_init 62 = .ok (.aload_n 0, 1) := by decide +kernel
theorem dX10_init_63 : decode cX10_init 63 = .ok (.aload_n 1, 1) := by decide +kernel
theorem dX10_init_64 : decode cX10_init 64 = .ok (.putfield 39, 3) := by decide +kernel
theorem dX10_init_67 : decode cX10_init 67 = .ok (.iconst 0, 1) := by decide +kernel
theorem dX10_init_68 : decode cX10_init 68 = .ok (.istore_n 2, 1) := by decide +kernel
theorem dX10_init_69 : decode cX10_init 69 = .ok (.iload_n 2, 1) := by decide +kernel
theorem dX10_init_70 : decode cX10_init 70 = .ok (.bipush 8, 2) := by decide +kernel
theorem dX10_init_72 : decode cX10_init 72 = .ok (.if_icmp .ge 25, 3) := by decide +kernel
theorem dX10_init_75 : decode cX10_init 75 = .ok (.aload_n 0, 1) := by decide +kernel
theorem dX10_init_76 : decode cX10_init 76 = .ok (.getfield 18, 3) := by decide +kernel
theorem dX10_init_79 : decode cX10_init 79 = .ok (.iload_n 2, 1) := by decide +kernel
theorem dX10_init_80 : decode cX10_init 80 = .ok (.iconst 5, 1) := by decide +kernel
theorem dX10_init_81 : decode cX10_init 81 = .ok (.imul, 1) := by decide +kernel
theorem dX10_init_82 : decode cX10_init 82 = .ok (.iconst 1, 1) := by decide +kernel
theorem dX10_init_83 : decode cX10_init 83 = .ok (.iastore, 1) := by decide +kernel
theorem dX10_init_84 : decode cX10_init 84 = .ok (.aload_n 0, 1) := by decide +kernel
theorem dX10_init_85 : decode cX10_init 85 = .ok (.getfield 21, 3) := by decide +kernel
theorem dX10_init_88 : decode cX10_init 88 = .ok (.iload_n 2, 1) := by decide +kernel
theorem dX10_init_89 : decode cX10_init 89 = .ok (.iconst 1, 1) := by decide +kernel
theorem dX10_init_90 : decode cX10_init 90 = .ok (.iastore, 1) := by decide +kernel
theorem dX10_init_91 : decode cX10_init 91 = .ok (.iinc 2 1, 3) := by decide +kernel
theorem dX10_init_94 : decode cX10_init 94 = .ok (.goto (-25), 3) := by decide +kernel
theorem dX10_init_97 : decode cX10_init 97 = .ok (.return_, 1) := by decide +kernel
theorem dX10_tell_0 : decode cX10_tell 0 = .ok (.iload_n 1, 1) := by decide +kernel
theorem dX10_tell_1 : decode cX10_tell 1 = .ok (.invokestatic 43, 3) := by decide +kernel
theorem dX10_tell_4 : decode cX10_tell 4 = .ok (.ifCond .eq 22, 3) := by decide +kernel
theorem dX10_tell_7 : decode cX10_tell 7 = .ok (.aload_n 0, 1) := by decide +kernel
theorem dX10_tell_8 : decode cX10_tell 8 = .ok (.getfield 9, 3) := by decide +kernel
theorem dX10_tell_11 : decode cX10_tell 11 = .ok (.iload_n 1, 1) := by decide +kernel
theorem dX10_tell_12 : decode cX10_tell 12 = .ok (.iaload, 1) := by decide +kernel
theorem dX10_tell_13 : decode cX10_tell 13 = .ok (.ifCond .lt 13, 3) := by decide +kernel
theorem dX10_tell_16 : decode cX10_tell 16 = .ok (.aload_n 0, 1) := by decide +kernel
theorem dX10_tell_17 : decode cX10_tell 17 = .ok (.getfield 9, 3) := by decide +kernel
theorem dX10_tell_20 : decode cX10_tell 20 = .ok (.iload_n 1, 1) := by decide +kernel
theorem dX10_tell_21 : decode cX10_tell 21 = .ok (.iaload, 1) := by decide +kernel
theorem dX10_tell_22 : decode cX10_tell 22 = .ok (.iconst 5, 1) := by decide +kernel
theorem dX10_tell_23 : decode cX10_tell 23 = .ok (.if_icmp .lt 5, 3) := by decide +kernel
theorem dX10_tell_26 : decode cX10_tell 26 = .ok (.iconst (-1), 1) := by decide +kernel
theorem dX10_tell_27 : decode cX10_tell 27 = .ok (.ireturn, 1) := by decide +kernel
theorem dX10_tell_28 : decode cX10_tell 28 = .ok (.aload_n 0, 1) := by decide +kernel
theorem dX10_tell_29 : decode cX10_tell 29 = .ok (.getfield 15, 3) := by decide +kernel
theorem dX10_tell_32 : decode cX10_tell 32 = .ok (.iload_n 1, 1) := by decide +kernel
theorem dX10_tell_33 : decode cX10_tell 33 = .ok (.iconst 5, 1) := by decide +kernel
theorem dX10_tell_34 : decode cX10_tell 34 = .ok (.imul, 1) := by decide +kernel
theorem dX10_tell_35 : decode cX10_tell 35 = .ok (.aload_n 0, 1) := by decide +kernel
theorem dX10_tell_36 : decode cX10_tell 36 = .ok (.getfield 9, 3) := by decide +kernel
theorem dX10_tell_39 : decode cX10_tell 39 = .ok (.iload_n 1, 1) := by decide +kernel
theorem dX10_tell_40 : decode cX10_tell 40 = .ok (.iaload, 1) := by decide +kernel
theorem dX10_tell_41 : decode cX10_tell 41 = .ok (.iadd, 1) := by decide +kernel
theorem dX10_tell_42 : decode cX10_tell 42 = .ok (.iload_n 2, 1) := by decide +kernel
theorem dX10_tell_43 : decode cX10_tell 43 = .ok (.iastore, 1) := by decide +kernel
theorem dX10_tell_44 : decode cX10_tell 44 = .ok (.aload_n 0, 1) := by decide +kernel
theorem dX10_tell_45 : decode cX10_tell 45 = .ok (.getfield 18, 3) := by decide +kernel
theorem dX10_tell_48 : decode cX10_tell 48 = .ok (.iload_n 1, 1) := by decide +kernel
theorem dX10_tell_49 : decode cX10_tell 49 = .ok (.iconst 5, 1) := by decide +kernel
theorem dX10_tell_50 : decode cX10_tell 50 = .ok (.imul, 1) := by decide +kernel
theorem dX10_tell_51 : decode cX10_tell 51 = .ok (.aload_n 0, 1) := by decide +kernel
theorem dX10_tell_52 : decode cX10_tell 52 = .ok (.getfield 9, 3) := by decide +kernel
theorem dX10_tell_55 : decode cX10_tell 55 = .ok (.iload_n 1, 1) := by decide +kernel
theorem dX10_tell_56 : decode cX10_tell 56 = .ok (.iaload, 1) := by decide +kernel
theorem dX10_tell_57 : decode cX10_tell 57 = .ok (.iadd, 1) := by decide +kernel
theorem dX10_tell_58 : decode cX10_tell 58 = .ok (.iload_n 3, 1) := by decide +kernel
theorem dX10_tell_59 : decode cX10_tell 59 = .ok (.iastore, 1) := by decide +kernel
theorem dX10_tell_60 : decode cX10_tell 60 = .ok (.aload_n 0, 1) := by decide +kernel
theorem dX10_tell_61 : decode cX10_tell 61 = .ok (.getfield 21, 3) := by decide +kernel
theorem dX10_tell_64 : decode cX10_tell 64 = .ok (.iload_n 1, 1) := by decide +kernel
theorem dX10_tell_65 : decode cX10_tell 65 = .ok (.aload_n 0, 1) := by decide +kernel
theorem dX10_tell_66 : decode cX10_tell 66 = .ok (.getfield 9, 3) := by decide +kernel
theorem dX10_tell_69 : decode cX10_tell 69 = .ok (.iload_n 1, 1) := by decide +kernel
theorem dX10_tell_70 : decode cX10_tell 70 = .ok (.iaload, 1) := by decide +kernel
theorem dX10_tell_71 : decode cX10_tell 71 = .ok (.ifCond .ne 7, 3) := by decide +kernel
theorem dX10_tell_74 : decode cX10_tell 74 = .ok (.iload_n 3, 1) := by decide +kernel
theorem dX10_tell_75 : decode cX10_tell 75 = .ok (.goto 11, 3) := by decide +kernel
theorem dX10_tell_78 : decode cX10_tell 78 = .ok (.aload_n 0, 1) := by decide +kernel
theorem dX10_tell_79 : decode cX10_tell 79 = .ok (.getfield 21, 3) := by decide +kernel
theorem dX10_tell_82 : decode cX10_tell 82 = .ok (.iload_n 1, 1) := by decide +kernel
theorem dX10_tell_83 : decode cX10_tell 83 = .ok (.iaload, 1) := by decide +kernel
theorem dX10_tell_84 : decode cX10_tell 84 = .ok (.iload_n 3, 1) := by decide +kernel
theorem dX10_tell_85 : decode cX10_tell 85 = .ok (.iadd, 1) := by decide +kernel
theorem dX10_tell_86 : decode cX10_tell 86 = .ok (.iastore, 1) := by decide +kernel
theorem dX10_tell_87 : decode cX10_tell 87 = .ok (.aload_n 0, 1) := by decide +kernel
theorem dX10_tell_88 : decode cX10_tell 88 = .ok (.getfield 9, 3) := by decide +kernel
theorem dX10_tell_91 : decode cX10_tell 91 = .ok (.iload_n 1, 1) := by decide +kernel
theorem dX10_tell_92 : decode cX10_tell 92 = .ok (.dup2, 1) := by decide +kernel
theorem dX10_tell_93 : decode cX10_tell 93 = .ok (.iaload, 1) := by decide +kernel
theorem dX10_tell_94 : decode cX10_tell 94 = .ok (.iconst 1, 1) := by decide +kernel
theorem dX10_tell_95 : decode cX10_tell 95 = .ok (.iadd, 1) := by decide +kernel
theorem dX10_tell_96 : decode cX10_tell 96 = .ok (.iastore, 1) := by decide +kernel
theorem dX10_tell_97 : decode cX10_tell 97 = .ok (.aload_n 0, 1) := by decide +kernel
theorem dX10_tell_98 : decode cX10_tell 98 = .ok (.getfield 9, 3) := by decide +kernel
theorem dX10_tell_101 : decode cX10_tell 101 = .ok (.iload_n 1, 1) := by decide +kernel
theorem dX10_tell_102 : decode cX10_tell 102 = .ok (.iaload, 1) := by decide +kernel
theorem dX10_tell_103 : decode cX10_tell 103 = .ok (.ireturn, 1) := by decide +kernel
theorem dX10_toldBy_0 : decode cX10_toldBy 0 = .ok (.iload_n 1, 1) := by decide +kernel
theorem dX10_toldBy_1 : decode cX10_toldBy 1 = .ok (.invokestatic 43, 3) := by decide +kernel
theorem dX10_toldBy_4 : decode cX10_toldBy 4 = .ok (.ifCond .eq 12, 3) := by decide +kernel
theorem dX10_toldBy_7 : decode cX10_toldBy 7 = .ok (.aload_n 0, 1) := by decide +kernel
theorem dX10_toldBy_8 : decode cX10_toldBy 8 = .ok (.getfield 9, 3) := by decide +kernel
theorem dX10_toldBy_11 : decode cX10_toldBy 11 = .ok (.iload_n 1, 1) := by decide +kernel
theorem dX10_toldBy_12 : decode cX10_toldBy 12 = .ok (.iaload, 1) := by decide +kernel
theorem dX10_toldBy_13 : decode cX10_toldBy 13 = .ok (.goto 4, 3) := by decide +kernel
theorem dX10_toldBy_16 : decode cX10_toldBy 16 = .ok (.iconst (-1), 1) := by decide +kernel
theorem dX10_toldBy_17 : decode cX10_toldBy 17 = .ok (.ireturn, 1) := by decide +kernel
theorem dX10_endsOf_0 : decode cX10_endsOf 0 = .ok (.iload_n 1, 1) := by decide +kernel
theorem dX10_endsOf_1 : decode cX10_endsOf 1 = .ok (.invokestatic 43, 3) := by decide +kernel
theorem dX10_endsOf_4 : decode cX10_endsOf 4 = .ok (.ifCond .eq 16, 3) := by decide +kernel
theorem dX10_endsOf_7 : decode cX10_endsOf 7 = .ok (.iconst 1, 1) := by decide +kernel
theorem dX10_endsOf_8 : decode cX10_endsOf 8 = .ok (.aload_n 0, 1) := by decide +kernel
theorem dX10_endsOf_9 : decode cX10_endsOf 9 = .ok (.getfield 9, 3) := by decide +kernel
theorem dX10_endsOf_12 : decode cX10_endsOf 12 = .ok (.iload_n 1, 1) := by decide +kernel
theorem dX10_endsOf_13 : decode cX10_endsOf 13 = .ok (.iaload, 1) := by decide +kernel
theorem dX10_endsOf_14 : decode cX10_endsOf 14 = .ok (.invokestatic 47, 3) := by decide +kernel
theorem dX10_endsOf_17 : decode cX10_endsOf 17 = .ok (.goto 4, 3) := by decide +kernel
theorem dX10_endsOf_20 : decode cX10_endsOf 20 = .ok (.iconst 0, 1) := by decide +kernel
theorem dX10_endsOf_21 : decode cX10_endsOf 21 = .ok (.ireturn, 1) := by decide +kernel
theorem dX10_weightOf_0 : decode cX10_weightOf 0 = .ok (.iload_n 1, 1) := by decide +kernel
theorem dX10_weightOf_1 : decode cX10_weightOf 1 = .ok (.invokestatic 43, 3) := by decide +kernel
theorem dX10_weightOf_4 : decode cX10_weightOf 4 = .ok (.ifCond .eq 25, 3) := by decide +kernel
theorem dX10_weightOf_7 : decode cX10_weightOf 7 = .ok (.iload_n 2, 1) := by decide +kernel
theorem dX10_weightOf_8 : decode cX10_weightOf 8 = .ok (.iconst 0, 1) := by decide +kernel
theorem dX10_weightOf_9 : decode cX10_weightOf 9 = .ok (.iconst 4, 1) := by decide +kernel
theorem dX10_weightOf_10 : decode cX10_weightOf 10 = .ok (.invokestatic 53, 3) := by decide +kernel
theorem dX10_weightOf_13 : decode cX10_weightOf 13 = .ok (.ifCond .eq 16, 3) := by decide +kernel
theorem dX10_weightOf_16 : decode cX10_weightOf 16 = .ok (.aload_n 0, 1) := by decide +kernel
theorem dX10_weightOf_17 : decode cX10_weightOf 17 = .ok (.getfield 18, 3) := by decide +kernel
theorem dX10_weightOf_20 : decode cX10_weightOf 20 = .ok (.iload_n 1, 1) := by decide +kernel
theorem dX10_weightOf_21 : decode cX10_weightOf 21 = .ok (.iconst 5, 1) := by decide +kernel
theorem dX10_weightOf_22 : decode cX10_weightOf 22 = .ok (.imul, 1) := by decide +kernel
theorem dX10_weightOf_23 : decode cX10_weightOf 23 = .ok (.iload_n 2, 1) := by decide +kernel
theorem dX10_weightOf_24 : decode cX10_weightOf 24 = .ok (.iadd, 1) := by decide +kernel
theorem dX10_weightOf_25 : decode cX10_weightOf 25 = .ok (.iaload, 1) := by decide +kernel
theorem dX10_weightOf_26 : decode cX10_weightOf 26 = .ok (.goto 4, 3) := by decide +kernel
theorem dX10_weightOf_29 : decode cX10_weightOf 29 = .ok (.iconst 0, 1) := by decide +kernel
theorem dX10_weightOf_30 : decode cX10_weightOf 30 = .ok (.ireturn, 1) := by decide +kernel
theorem dX10_weightsOf_0 : decode cX10_weightsOf 0 = .ok (.iload_n 1, 1) := by decide +kernel
theorem dX10_weightsOf_1 : decode cX10_weightsOf 1 = .ok (.invokestatic 43, 3) := by decide +kernel
theorem dX10_weightsOf_4 : decode cX10_weightsOf 4 = .ok (.ifCond .eq 12, 3) := by decide +kernel
theorem dX10_weightsOf_7 : decode cX10_weightsOf 7 = .ok (.aload_n 0, 1) := by decide +kernel
theorem dX10_weightsOf_8 : decode cX10_weightsOf 8 = .ok (.getfield 21, 3) := by decide +kernel
theorem dX10_weightsOf_11 : decode cX10_weightsOf 11 = .ok (.iload_n 1, 1) := by decide +kernel
theorem dX10_weightsOf_12 : decode cX10_weightsOf 12 = .ok (.iaload, 1) := by decide +kernel
theorem dX10_weightsOf_13 : decode cX10_weightsOf 13 = .ok (.goto 4, 3) := by decide +kernel
theorem dX10_weightsOf_16 : decode cX10_weightsOf 16 = .ok (.iconst 0, 1) := by decide +kernel
theorem dX10_weightsOf_17 : decode cX10_weightsOf 17 = .ok (.ireturn, 1) := by decide +kernel
theorem dX10_takes_0 : decode cX10_takes 0 = .ok (.iload_n 1, 1) := by decide +kernel
theorem dX10_takes_1 : decode cX10_takes 1 = .ok (.invokestatic 43, 3) := by decide +kernel
theorem dX10_takes_4 : decode cX10_takes 4 = .ok (.ifCond .eq 12, 3) := by decide +kernel
theorem dX10_takes_7 : decode cX10_takes 7 = .ok (.iload_n 2, 1) := by decide +kernel
theorem dX10_takes_8 : decode cX10_takes 8 = .ok (.iconst 0, 1) := by decide +kernel
theorem dX10_takes_9 : decode cX10_takes 9 = .ok (.iconst 4, 1) := by decide +kernel
theorem dX10_takes_10 : decode cX10_takes 10 = .ok (.invokestatic 53, 3) := by decide +kernel
theorem dX10_takes_13 : decode cX10_takes 13 = .ok (.ifCond .ne 5, 3) := by decide +kernel
theorem dX10_takes_16 : decode cX10_takes 16 = .ok (.iconst 0, 1) := by decide +kernel
theorem dX10_takes_17 : decode cX10_takes 17 = .ok (.ireturn, 1) := by decide +kernel
theorem dX10_takes_18 : decode cX10_takes 18 = .ok (.aload_n 0, 1) := by decide +kernel
theorem dX10_takes_19 : decode cX10_takes 19 = .ok (.getfield 15, 3) := by decide +kernel
theorem dX10_takes_22 : decode cX10_takes 22 = .ok (.iload_n 1, 1) := by decide +kernel
theorem dX10_takes_23 : decode cX10_takes 23 = .ok (.iconst 5, 1) := by decide +kernel
theorem dX10_takes_24 : decode cX10_takes 24 = .ok (.imul, 1) := by decide +kernel
theorem dX10_takes_25 : decode cX10_takes 25 = .ok (.iload_n 2, 1) := by decide +kernel
theorem dX10_takes_26 : decode cX10_takes 26 = .ok (.iadd, 1) := by decide +kernel
theorem dX10_takes_27 : decode cX10_takes 27 = .ok (.iaload, 1) := by decide +kernel
theorem dX10_takes_28 : decode cX10_takes 28 = .ok (.iload_n 3, 1) := by decide +kernel
theorem dX10_takes_29 : decode cX10_takes 29 = .ok (.iconst 1, 1) := by decide +kernel
theorem dX10_takes_30 : decode cX10_takes 30 = .ok (.if_icmp .ne 19, 3) := by decide +kernel
theorem dX10_takes_33 : decode cX10_takes 33 = .ok (.aload_n 0, 1) := by decide +kernel
theorem dX10_takes_34 : decode cX10_takes 34 = .ok (.getfield 24, 3) := by decide +kernel
theorem dX10_takes_37 : decode cX10_takes 37 = .ok (.iload_n 1, 1) := by decide +kernel
theorem dX10_takes_38 : decode cX10_takes 38 = .ok (.baload, 1) := by decide +kernel
theorem dX10_takes_39 : decode cX10_takes 39 = .ok (.ifCond .eq 10, 3) := by decide +kernel
theorem dX10_takes_42 : decode cX10_takes 42 = .ok (.aload_n 0, 1) := by decide +kernel
theorem dX10_takes_43 : decode cX10_takes 43 = .ok (.getfield 57, 3) := by decide +kernel
theorem dX10_takes_46 : decode cX10_takes 46 = .ok (.goto 4, 3) := by decide +kernel
theorem dX10_takes_49 : decode cX10_takes 49 = .ok (.iconst 0, 1) := by decide +kernel
theorem dX10_takes_50 : decode cX10_takes 50 = .ok (.iadd, 1) := by decide +kernel
theorem dX10_takes_51 : decode cX10_takes 51 = .ok (.ireturn, 1) := by decide +kernel
theorem dX10_setBridge_0 : decode cX10_setBridge 0 = .ok (.aload_n 0, 1) := by decide +kernel
theorem dX10_setBridge_1 : decode cX10_setBridge 1 = .ok (.iload_n 1, 1) := by decide +kernel
theorem dX10_setBridge_2 : decode cX10_setBridge 2 = .ok (.putfield 60, 3) := by decide +kernel
theorem dX10_setBridge_5 : decode cX10_setBridge 5 = .ok (.aload_n 0, 1) := by decide +kernel
theorem dX10_setBridge_6 : decode cX10_setBridge 6 = .ok (.iload_n 2, 1) := by decide +kernel
theorem dX10_setBridge_7 : decode cX10_setBridge 7 = .ok (.putfield 32, 3) := by decide +kernel
theorem dX10_setBridge_10 : decode cX10_setBridge 10 = .ok (.aload_n 0, 1) := by decide +kernel
theorem dX10_setBridge_11 : decode cX10_setBridge 11 = .ok (.iload_n 3, 1) := by decide +kernel
theorem dX10_setBridge_12 : decode cX10_setBridge 12 = .ok (.putfield 57, 3) := by decide +kernel
theorem dX10_setBridge_15 : decode cX10_setBridge 15 = .ok (.return_, 1) := by decide +kernel
theorem dX10_allOfBridge_0 : decode cX10_allOfBridge 0 = .ok (.aload_n 0, 1) := by decide +kernel
theorem dX10_allOfBridge_1 : decode cX10_allOfBridge 1 = .ok (.getfield 32, 3) := by decide +kernel
theorem dX10_allOfBridge_4 : decode cX10_allOfBridge 4 = .ok (.ireturn, 1) := by decide +kernel
theorem dX10_bridgeWeight_0 : decode cX10_bridgeWeight 0 = .ok (.iload_n 1, 1) := by decide +kernel
theorem dX10_bridgeWeight_1 : decode cX10_bridgeWeight 1 = .ok (.iconst 1, 1) := by decide +kernel
theorem dX10_bridgeWeight_2 : decode cX10_bridgeWeight 2 = .ok (.if_icmp .ne 10, 3) := by decide +kernel
theorem dX10_bridgeWeight_5 : decode cX10_bridgeWeight 5 = .ok (.aload_n 0, 1) := by decide +kernel
theorem dX10_bridgeWeight_6 : decode cX10_bridgeWeight 6 = .ok (.getfield 60, 3) := by decide +kernel
theorem dX10_bridgeWeight_9 : decode cX10_bridgeWeight 9 = .ok (.goto 12, 3) := by decide +kernel
theorem dX10_bridgeWeight_12 : decode cX10_bridgeWeight 12 = .ok (.aload_n 0, 1) := by decide +kernel
theorem dX10_bridgeWeight_13 : decode cX10_bridgeWeight 13 = .ok (.getfield 32, 3) := by decide +kernel
theorem dX10_bridgeWeight_16 : decode cX10_bridgeWeight 16 = .ok (.aload_n 0, 1) := by decide +kernel
theorem dX10_bridgeWeight_17 : decode cX10_bridgeWeight 17 = .ok (.getfield 60, 3) := by decide +kernel
theorem dX10_bridgeWeight_20 : decode cX10_bridgeWeight 20 = .ok (.isub, 1) := by decide +kernel
theorem dX10_bridgeWeight_21 : decode cX10_bridgeWeight 21 = .ok (.ireturn, 1) := by decide +kernel
theorem dX10_isCrossing_0 : decode cX10_isCrossing 0 = .ok (.iload_n 1, 1) := by decide +kernel
theorem dX10_isCrossing_1 : decode cX10_isCrossing 1 = .ok (.invokestatic 43, 3) := by decide +kernel
theorem dX10_isCrossing_4 : decode cX10_isCrossing 4 = .ok (.ifCond .eq 16, 3) := by decide +kernel
theorem dX10_isCrossing_7 : decode cX10_isCrossing 7 = .ok (.aload_n 0, 1) := by decide +kernel
theorem dX10_isCrossing_8 : decode cX10_isCrossing 8 = .ok (.getfield 24, 3) := by decide +kernel
theorem dX10_isCrossing_11 : decode cX10_isCrossing 11 = .ok (.iload_n 1, 1) := by decide +kernel
theorem dX10_isCrossing_12 : decode cX10_isCrossing 12 = .ok (.baload, 1) := by decide +kernel
theorem dX10_isCrossing_13 : decode cX10_isCrossing 13 = .ok (.ifCond .eq 7, 3) := by decide +kernel
theorem dX10_isCrossing_16 : decode cX10_isCrossing 16 = .ok (.iconst 1, 1) := by decide +kernel
theorem dX10_isCrossing_17 : decode cX10_isCrossing 17 = .ok (.goto 4, 3) := by decide +kernel
theorem dX10_isCrossing_20 : decode cX10_isCrossing 20 = .ok (.iconst 0, 1) := by decide +kernel
theorem dX10_isCrossing_21 : decode cX10_isCrossing 21 = .ok (.ireturn, 1) := by decide +kernel
theorem dX10_setCrossing_0 : decode cX10_setCrossing 0 = .ok (.iload_n 1, 1) := by decide +kernel
theorem dX10_setCrossing_1 : decode cX10_setCrossing 1 = .ok (.invokestatic 43, 3) := by decide +kernel
theorem dX10_setCrossing_4 : decode cX10_setCrossing 4 = .ok (.ifCond .eq 10, 3) := by decide +kernel
theorem dX10_setCrossing_7 : decode cX10_setCrossing 7 = .ok (.aload_n 0, 1) := by decide +kernel
theorem dX10_setCrossing_8 : decode cX10_setCrossing 8 = .ok (.getfield 24, 3) := by decide +kernel
theorem dX10_setCrossing_11 : decode cX10_setCrossing 11 = .ok (.iload_n 1, 1) := by decide +kernel
theorem dX10_setCrossing_12 : decode cX10_setCrossing 12 = .ok (.iload_n 2, 1) := by decide +kernel
theorem dX10_setCrossing_13 : decode cX10_setCrossing 13 = .ok (.bastore, 1) := by decide +kernel
theorem dX10_setCrossing_14 : decode cX10_setCrossing 14 = .ok (.return_, 1) := by decide +kernel
theorem dX10_lateWeights_0 : decode cX10_lateWeights 0 = .ok (.iconst 0, 1) := by decide +kernel
theorem dX10_lateWeights_1 : decode cX10_lateWeights 1 = .ok (.istore_n 3, 1) := by decide +kernel
theorem dX10_lateWeights_2 : decode cX10_lateWeights 2 = .ok (.iconst 0, 1) := by decide +kernel
theorem dX10_lateWeights_3 : decode cX10_lateWeights 3 = .ok (.istore 4, 2) := by decide +kernel
theorem dX10_lateWeights_5 : decode cX10_lateWeights 5 = .ok (.iload 4, 2) := by decide +kernel
theorem dX10_lateWeights_7 : decode cX10_lateWeights 7 = .ok (.iconst 2, 1) := by decide +kernel
theorem dX10_lateWeights_8 : decode cX10_lateWeights 8 = .ok (.if_icmp .ge 27, 3) := by decide +kernel
theorem dX10_lateWeights_11 : decode cX10_lateWeights 11 = .ok (.iload_n 3, 1) := by decide +kernel
theorem dX10_lateWeights_12 : decode cX10_lateWeights 12 = .ok (.aload_n 0, 1) := by decide +kernel
theorem dX10_lateWeights_13 : decode cX10_lateWeights 13 = .ok (.iload 4, 2) := by decide +kernel
theorem dX10_lateWeights_15 : decode cX10_lateWeights 15 = .ok (.invokevirtual 63, 3) := by decide +kernel
theorem dX10_lateWeights_18 : decode cX10_lateWeights 18 = .ok (.aload_n 0, 1) := by decide +kernel
theorem dX10_lateWeights_19 : decode cX10_lateWeights 19 = .ok (.iload_n 1, 1) := by decide +kernel
theorem dX10_lateWeights_20 : decode cX10_lateWeights 20 = .ok (.iload_n 2, 1) := by decide +kernel
theorem dX10_lateWeights_21 : decode cX10_lateWeights 21 = .ok (.iload 4, 2) := by decide +kernel
theorem dX10_lateWeights_23 : decode cX10_lateWeights 23 = .ok (.invokevirtual 67, 3) := by decide +kernel
theorem dX10_lateWeights_26 : decode cX10_lateWeights 26 = .ok (.imul, 1) := by decide +kernel
theorem dX10_lateWeights_27 : decode cX10_lateWeights 27 = .ok (.iadd, 1) := by decide +kernel
theorem dX10_lateWeights_28 : decode cX10_lateWeights 28 = .ok (.istore_n 3, 1) := by decide +kernel
theorem dX10_lateWeights_29 : decode cX10_lateWeights 29 = .ok (.iinc 4 1, 3) := by decide +kernel
theorem dX10_lateWeights_32 : decode cX10_lateWeights 32 = .ok (.goto (-27), 3) := by decide +kernel
theorem dX10_lateWeights_35 : decode cX10_lateWeights 35 = .ok (.iload_n 3, 1) := by decide +kernel
theorem dX10_lateWeights_36 : decode cX10_lateWeights 36 = .ok (.ireturn, 1) := by decide +kernel
theorem dX10_lateEnds_0 : decode cX10_lateEnds 0 = .ok (.iconst 0, 1) := by decide +kernel
theorem dX10_lateEnds_1 : decode cX10_lateEnds 1 = .ok (.istore 4, 2) := by decide +kernel
theorem dX10_lateEnds_3 : decode cX10_lateEnds 3 = .ok (.iconst 0, 1) := by decide +kernel
theorem dX10_lateEnds_4 : decode cX10_lateEnds 4 = .ok (.istore 5, 2) := by decide +kernel
theorem dX10_lateEnds_6 : decode cX10_lateEnds 6 = .ok (.iload 5, 2) := by decide +kernel
theorem dX10_lateEnds_8 : decode cX10_lateEnds 8 = .ok (.aload_n 0, 1) := by decide +kernel
theorem dX10_lateEnds_9 : decode cX10_lateEnds 9 = .ok (.iload_n 1, 1) := by decide +kernel
theorem dX10_lateEnds_10 : decode cX10_lateEnds 10 = .ok (.invokevirtual 71, 3) := by decide +kernel
theorem dX10_lateEnds_13 : decode cX10_lateEnds 13 = .ok (.if_icmp .ge 33, 3) := by decide +kernel
theorem dX10_lateEnds_16 : decode cX10_lateEnds 16 = .ok (.aload_n 0, 1) := by decide +kernel
theorem dX10_lateEnds_17 : decode cX10_lateEnds 17 = .ok (.iload_n 1, 1) := by decide +kernel
theorem dX10_lateEnds_18 : decode cX10_lateEnds 18 = .ok (.iload 5, 2) := by decide +kernel
theorem dX10_lateEnds_20 : decode cX10_lateEnds 20 = .ok (.iload_n 3, 1) := by decide +kernel
theorem dX10_lateEnds_21 : decode cX10_lateEnds 21 = .ok (.invokevirtual 74, 3) := by decide +kernel
theorem dX10_lateEnds_24 : decode cX10_lateEnds 24 = .ok (.iload_n 2, 1) := by decide +kernel
theorem dX10_lateEnds_25 : decode cX10_lateEnds 25 = .ok (.if_icmp .le 15, 3) := by decide +kernel
theorem dX10_lateEnds_28 : decode cX10_lateEnds 28 = .ok (.iload 4, 2) := by decide +kernel
theorem dX10_lateEnds_30 : decode cX10_lateEnds 30 = .ok (.aload_n 0, 1) := by decide +kernel
theorem dX10_lateEnds_31 : decode cX10_lateEnds 31 = .ok (.iload_n 1, 1) := by decide +kernel
theorem dX10_lateEnds_32 : decode cX10_lateEnds 32 = .ok (.iload 5, 2) := by decide +kernel
theorem dX10_lateEnds_34 : decode cX10_lateEnds 34 = .ok (.invokevirtual 77, 3) := by decide +kernel
theorem dX10_lateEnds_37 : decode cX10_lateEnds 37 = .ok (.iadd, 1) := by decide +kernel
theorem dX10_lateEnds_38 : decode cX10_lateEnds 38 = .ok (.istore 4, 2) := by decide +kernel
theorem dX10_lateEnds_40 : decode cX10_lateEnds 40 = .ok (.iinc 5 1, 3) := by decide +kernel
theorem dX10_lateEnds_43 : decode cX10_lateEnds 43 = .ok (.goto (-37), 3) := by decide +kernel
theorem dX10_lateEnds_46 : decode cX10_lateEnds 46 = .ok (.iload 4, 2) := by decide +kernel
theorem dX10_lateEnds_48 : decode cX10_lateEnds 48 = .ok (.ireturn, 1) := by decide +kernel
theorem dX10_lateTogether_0 : decode cX10_lateTogether 0 = .ok (.lconst 0, 1) := by decide +kernel
theorem dX10_lateTogether_1 : decode cX10_lateTogether 1 = .ok (.lstore 4, 2) := by decide +kernel
theorem dX10_lateTogether_3 : decode cX10_lateTogether 3 = .ok (.iconst 0, 1) := by decide +kernel
theorem dX10_lateTogether_4 : decode cX10_lateTogether 4 = .ok (.istore 6, 2) := by decide +kernel
theorem dX10_lateTogether_6 : decode cX10_lateTogether 6 = .ok (.iload 6, 2) := by decide +kernel
theorem dX10_lateTogether_8 : decode cX10_lateTogether 8 = .ok (.iconst 2, 1) := by decide +kernel
theorem dX10_lateTogether_9 : decode cX10_lateTogether 9 = .ok (.if_icmp .ge 49, 3) := by decide +kernel
theorem dX10_lateTogether_12 : decode cX10_lateTogether 12 = .ok (.aload_n 0, 1) := by decide +kernel
theorem dX10_lateTogether_13 : decode cX10_lateTogether 13 = .ok (.iload_n 1, 1) := by decide +kernel
theorem dX10_lateTogether_14 : decode cX10_lateTogether 14 = .ok (.iload_n 2, 1) := by decide +kernel
theorem dX10_lateTogether_15 : decode cX10_lateTogether 15 = .ok (.iload 6, 2) := by decide +kernel
theorem dX10_lateTogether_17 : decode cX10_lateTogether 17 = .ok (.invokevirtual 80, 3) := by decide +kernel
theorem dX10_lateTogether_20 : decode cX10_lateTogether 20 = .ok (.iload_n 3, 1) := by decide +kernel
theorem dX10_lateTogether_21 : decode cX10_lateTogether 21 = .ok (.ifCond .lt 31, 3) := by decide +kernel
theorem dX10_lateTogether_24 : decode cX10_lateTogether 24 = .ok (.iload_n 3, 1) := by decide +kernel
theorem dX10_lateTogether_25 : decode cX10_lateTogether 25 = .ok (.aload_n 0, 1) := by decide +kernel
theorem dX10_lateTogether_26 : decode cX10_lateTogether 26 = .ok (.getfield 28, 3) := by decide +kernel
theorem dX10_lateTogether_29 : decode cX10_lateTogether 29 = .ok (.arraylength, 1) := by decide +kernel
theorem dX10_lateTogether_30 : decode cX10_lateTogether 30 = .ok (.if_icmp .ge 22, 3) := by decide +kernel
theorem dX10_lateTogether_33 : decode cX10_lateTogether 33 = .ok (.lload 4, 2) := by decide +kernel
theorem dX10_lateTogether_35 : decode cX10_lateTogether 35 = .ok (.aload_n 0, 1) := by decide +kernel
theorem dX10_lateTogether_36 : decode cX10_lateTogether 36 = .ok (.iload 6, 2) := by decide +kernel
theorem dX10_lateTogether_38 : decode cX10_lateTogether 38 = .ok (.invokevirtual 63, 3) := by decide +kernel
theorem dX10_lateTogether_41 : decode cX10_lateTogether 41 = .ok (.i2l, 1) := by decide +kernel
theorem dX10_lateTogether_42 : decode cX10_lateTogether 42 = .ok (.aload_n 0, 1) := by decide +kernel
theorem dX10_lateTogether_43 : decode cX10_lateTogether 43 = .ok (.getfield 28, 3) := by decide +kernel
theorem dX10_lateTogether_46 : decode cX10_lateTogether 46 = .ok (.iload_n 3, 1) := by decide +kernel
theorem dX10_lateTogether_47 : decode cX10_lateTogether 47 = .ok (.laload, 1) := by decide +kernel
theorem dX10_lateTogether_48 : decode cX10_lateTogether 48 = .ok (.lmul, 1) := by decide +kernel
theorem dX10_lateTogether_49 : decode cX10_lateTogether 49 = .ok (.ladd, 1) := by decide +kernel
theorem dX10_lateTogether_50 : decode cX10_lateTogether 50 = .ok (.lstore 4, 2) := by decide +kernel
theorem dX10_lateTogether_52 : decode cX10_lateTogether 52 = .ok (.iinc 6 1, 3) := by decide +kernel
theorem dX10_lateTogether_55 : decode cX10_lateTogether 55 = .ok (.goto (-49), 3) := by decide +kernel
theorem dX10_lateTogether_58 : decode cX10_lateTogether 58 = .ok (.lload 4, 2) := by decide +kernel
theorem dX10_lateTogether_60 : decode cX10_lateTogether 60 = .ok (.lreturn, 1) := by decide +kernel
theorem dX10_countLate_0 : decode cX10_countLate 0 = .ok (.aload_n 0, 1) := by decide +kernel
theorem dX10_countLate_1 : decode cX10_countLate 1 = .ok (.getfield 28, 3) := by decide +kernel
theorem dX10_countLate_4 : decode cX10_countLate 4 = .ok (.lconst 0, 1) := by decide +kernel
theorem dX10_countLate_5 : decode cX10_countLate 5 = .ok (.invokestatic 84, 3) := by decide +kernel
theorem dX10_countLate_8 : decode cX10_countLate 8 = .ok (.aload_n 0, 1) := by decide +kernel
theorem dX10_countLate_9 : decode cX10_countLate 9 = .ok (.getfield 28, 3) := by decide +kernel
theorem dX10_countLate_12 : decode cX10_countLate 12 = .ok (.iconst 0, 1) := by decide +kernel
theorem dX10_countLate_13 : decode cX10_countLate 13 = .ok (.lconst 1, 1) := by decide +kernel
theorem dX10_countLate_14 : decode cX10_countLate 14 = .ok (.lastore, 1) := by decide +kernel
theorem dX10_countLate_15 : decode cX10_countLate 15 = .ok (.iconst 0, 1) := by decide +kernel
theorem dX10_countLate_16 : decode cX10_countLate 16 = .ok (.istore 4, 2) := by decide +kernel
theorem dX10_countLate_18 : decode cX10_countLate 18 = .ok (.iload 4, 2) := by decide +kernel
theorem dX10_countLate_20 : decode cX10_countLate 20 = .ok (.bipush 8, 2) := by decide +kernel
theorem dX10_countLate_22 : decode cX10_countLate 22 = .ok (.if_icmp .ge 105, 3) := by decide +kernel
theorem dX10_countLate_25 : decode cX10_countLate 25 = .ok (.iload_n 1, 1) := by decide +kernel
theorem dX10_countLate_26 : decode cX10_countLate 26 = .ok (.iload 4, 2) := by decide +kernel
theorem dX10_countLate_28 : decode cX10_countLate 28 = .ok (.ishr, 1) := by decide +kernel
theorem dX10_countLate_29 : decode cX10_countLate 29 = .ok (.iconst 1, 1) := by decide +kernel
theorem dX10_countLate_30 : decode cX10_countLate 30 = .ok (.iand, 1) := by decide +kernel
theorem dX10_countLate_31 : decode cX10_countLate 31 = .ok (.ifCond .ne 6, 3) := by decide +kernel
theorem dX10_countLate_34 : decode cX10_countLate 34 = .ok (.goto 87, 3) := by decide +kernel
theorem dX10_countLate_37 : decode cX10_countLate 37 = .ok (.aload_n 0, 1) := by decide +kernel
theorem dX10_countLate_38 : decode cX10_countLate 38 = .ok (.iload 4, 2) := by decide +kernel
theorem dX10_countLate_40 : decode cX10_countLate 40 = .ok (.iload_n 2, 1) := by decide +kernel
theorem dX10_countLate_41 : decode cX10_countLate 41 = .ok (.iload_n 3, 1) := by decide +kernel
theorem dX10_countLate_42 : decode cX10_countLate 42 = .ok (.invokevirtual 67, 3) := by decide +kernel
theorem dX10_countLate_45 : decode cX10_countLate 45 = .ok (.i2l, 1) := by decide +kernel
theorem dX10_countLate_46 : decode cX10_countLate 46 = .ok (.lstore 5, 2) := by decide +kernel
theorem dX10_countLate_48 : decode cX10_countLate 48 = .ok (.aload_n 0, 1) := by decide +kernel
theorem dX10_countLate_49 : decode cX10_countLate 49 = .ok (.iload 4, 2) := by decide +kernel
theorem dX10_countLate_51 : decode cX10_countLate 51 = .ok (.invokevirtual 90, 3) := by decide +kernel
theorem dX10_countLate_54 : decode cX10_countLate 54 = .ok (.i2l, 1) := by decide +kernel
theorem dX10_countLate_55 : decode cX10_countLate 55 = .ok (.lload 5, 2) := by decide +kernel
theorem dX10_countLate_57 : decode cX10_countLate 57 = .ok (.lsub, 1) := by decide +kernel
theorem dX10_countLate_58 : decode cX10_countLate 58 = .ok (.lstore 7, 2) := by decide +kernel
theorem dX10_countLate_60 : decode cX10_countLate 60 = .ok (.aload_n 0, 1) := by decide +kernel
theorem dX10_countLate_61 : decode cX10_countLate 61 = .ok (.getfield 28, 3) := by decide +kernel
theorem dX10_countLate_64 : decode cX10_countLate 64 = .ok (.arraylength, 1) := by decide +kernel
theorem dX10_countLate_65 : decode cX10_countLate 65 = .ok (.iconst 1, 1) := by decide +kernel
theorem dX10_countLate_66 : decode cX10_countLate 66 = .ok (.isub, 1) := by decide +kernel
theorem dX10_countLate_67 : decode cX10_countLate 67 = .ok (.istore 9, 2) := by decide +kernel
theorem dX10_countLate_69 : decode cX10_countLate 69 = .ok (.iload 9, 2) := by decide +kernel
theorem dX10_countLate_71 : decode cX10_countLate 71 = .ok (.ifCond .le 39, 3) := by decide +kernel
theorem dX10_countLate_74 : decode cX10_countLate 74 = .ok (.aload_n 0, 1) := by decide +kernel
theorem dX10_countLate_75 : decode cX10_countLate 75 = .ok (.getfield 28, 3) := by decide +kernel
theorem dX10_countLate_78 : decode cX10_countLate 78 = .ok (.iload 9, 2) := by decide +kernel
theorem dX10_countLate_80 : decode cX10_countLate 80 = .ok (.aload_n 0, 1) := by decide +kernel
theorem dX10_countLate_81 : decode cX10_countLate 81 = .ok (.getfield 28, 3) := by decide +kernel
theorem dX10_countLate_84 : decode cX10_countLate 84 = .ok (.iload 9, 2) := by decide +kernel
theorem dX10_countLate_86 : decode cX10_countLate 86 = .ok (.laload, 1) := by decide +kernel
theorem dX10_countLate_87 : decode cX10_countLate 87 = .ok (.lload 7, 2) := by decide +kernel
theorem dX10_countLate_89 : decode cX10_countLate 89 = .ok (.lmul, 1) := by decide +kernel
theorem dX10_countLate_90 : decode cX10_countLate 90 = .ok (.aload_n 0, 1) := by decide +kernel
theorem dX10_countLate_91 : decode cX10_countLate 91 = .ok (.getfield 28, 3) := by decide +kernel
theorem dX10_countLate_94 : decode cX10_countLate 94 = .ok (.iload 9, 2) := by decide +kernel
theorem dX10_countLate_96 : decode cX10_countLate 96 = .ok (.iconst 1, 1) := by decide +kernel
theorem dX10_countLate_97 : decode cX10_countLate 97 = .ok (.isub, 1) := by decide +kernel
theorem dX10_countLate_98 : decode cX10_countLate 98 = .ok (.laload, 1) := by decide +kernel
theorem dX10_countLate_99 : decode cX10_countLate 99 = .ok (.lload 5, 2) := by decide +kernel
theorem dX10_countLate_101 : decode cX10_countLate 101 = .ok (.lmul, 1) := by decide +kernel
theorem dX10_countLate_102 : decode cX10_countLate 102 = .ok (.ladd, 1) := by decide +kernel
theorem dX10_countLate_103 : decode cX10_countLate 103 = .ok (.lastore, 1) := by decide +kernel
theorem dX10_countLate_104 : decode cX10_countLate 104 = .ok (.iinc 9 (-1), 3) := by decide +kernel
theorem dX10_countLate_107 : decode cX10_countLate 107 = .ok (.goto (-38), 3) := by decide +kernel
theorem dX10_countLate_110 : decode cX10_countLate 110 = .ok (.aload_n 0, 1) := by decide +kernel
theorem dX10_countLate_111 : decode cX10_countLate 111 = .ok (.getfield 28, 3) := by decide +kernel
theorem dX10_countLate_114 : decode cX10_countLate 114 = .ok (.iconst 0, 1) := by decide +kernel
theorem dX10_countLate_115 : decode cX10_countLate 115 = .ok (.dup2, 1) := by decide +kernel
theorem dX10_countLate_116 : decode cX10_countLate 116 = .ok (.laload, 1) := by decide +kernel
theorem dX10_countLate_117 : decode cX10_countLate 117 = .ok (.lload 7, 2) := by decide +kernel
theorem dX10_countLate_119 : decode cX10_countLate 119 = .ok (.lmul, 1) := by decide +kernel
theorem dX10_countLate_120 : decode cX10_countLate 120 = .ok (.lastore, 1) := by decide +kernel
theorem dX10_countLate_121 : decode cX10_countLate 121 = .ok (.iinc 4 1, 3) := by decide +kernel
theorem dX10_countLate_124 : decode cX10_countLate 124 = .ok (.goto (-106), 3) := by decide +kernel
theorem dX10_countLate_127 : decode cX10_countLate 127 = .ok (.return_, 1) := by decide +kernel
theorem dX10_costOfComing_0 : decode cX10_costOfComing 0 = .ok (.aload_n 1, 1) := by decide +kernel
theorem dX10_costOfComing_1 : decode cX10_costOfComing 1 = .ok (.getfield 93, 3) := by decide +kernel
theorem dX10_costOfComing_4 : decode cX10_costOfComing 4 = .ok (.iload_n 3, 1) := by decide +kernel
theorem dX10_costOfComing_5 : decode cX10_costOfComing 5 = .ok (.isub, 1) := by decide +kernel
theorem dX10_costOfComing_6 : decode cX10_costOfComing 6 = .ok (.istore 5, 2) := by decide +kernel
theorem dX10_costOfComing_8 : decode cX10_costOfComing 8 = .ok (.iload 5, 2) := by decide +kernel
theorem dX10_costOfComing_10 : decode cX10_costOfComing 10 = .ok (.ifCond .gt 20, 3) := by decide +kernel
theorem dX10_costOfComing_13 : decode cX10_costOfComing 13 = .ok (.iload 5, 2) := by decide +kernel
theorem dX10_costOfComing_15 : decode cX10_costOfComing 15 = .ok (.ineg, 1) := by decide +kernel
theorem dX10_costOfComing_16 : decode cX10_costOfComing 16 = .ok (.i2l, 1) := by decide +kernel
theorem dX10_costOfComing_17 : decode cX10_costOfComing 17 = .ok (.aload_n 1, 1) := by decide +kernel
theorem dX10_costOfComing_18 : decode cX10_costOfComing 18 = .ok (.invokevirtual 98, 3) := by decide +kernel
theorem dX10_costOfComing_21 : decode cX10_costOfComing 21 = .ok (.iconst 1, 1) := by decide +kernel
theorem dX10_costOfComing_22 : decode cX10_costOfComing 22 = .ok (.isub, 1) := by decide +kernel
theorem dX10_costOfComing_23 : decode cX10_costOfComing 23 = .ok (.i2l, 1) := by decide +kernel
theorem dX10_costOfComing_24 : decode cX10_costOfComing 24 = .ok (.lmul, 1) := by decide +kernel
theorem dX10_costOfComing_25 : decode cX10_costOfComing 25 = .ok (.iload 4, 2) := by decide +kernel
theorem dX10_costOfComing_27 : decode cX10_costOfComing 27 = .ok (.i2l, 1) := by decide +kernel
theorem dX10_costOfComing_28 : decode cX10_costOfComing 28 = .ok (.lmul, 1) := by decide +kernel
theorem dX10_costOfComing_29 : decode cX10_costOfComing 29 = .ok (.lreturn, 1) := by decide +kernel
theorem dX10_costOfComing_30 : decode cX10_costOfComing 30 = .ok (.iload 5, 2) := by decide +kernel
theorem dX10_costOfComing_32 : decode cX10_costOfComing 32 = .ok (.i2l, 1) := by decide +kernel
theorem dX10_costOfComing_33 : decode cX10_costOfComing 33 = .ok (.aload_n 0, 1) := by decide +kernel
theorem dX10_costOfComing_34 : decode cX10_costOfComing 34 = .ok (.getfield 39, 3) := by decide +kernel
theorem dX10_costOfComing_37 : decode cX10_costOfComing 37 = .ok (.iload_n 2, 1) := by decide +kernel
theorem dX10_costOfComing_38 : decode cX10_costOfComing 38 = .ok (.iload_n 3, 1) := by decide +kernel
theorem dX10_costOfComing_39 : decode cX10_costOfComing 39 = .ok (.bipush 60, 2) := by decide +kernel
theorem dX10_costOfComing_41 : decode cX10_costOfComing 41 = .ok (.idiv, 1) := by decide +kernel
theorem dX10_costOfComing_42 : decode cX10_costOfComing 42 = .ok (.iconst 0, 1) := by decide +kernel
theorem dX10_costOfComing_43 : decode cX10_costOfComing 43 = .ok (.bipush 23, 2) := by decide +kernel
theorem dX10_costOfComing_45 : decode cX10_costOfComing 45 = .ok (.invokestatic 102, 3) := by decide +kernel
theorem dX10_costOfComing_48 : decode cX10_costOfComing 48 = .ok (.invokevirtual 105, 3) := by decide +kernel
theorem dX10_costOfComing_51 : decode cX10_costOfComing 51 = .ok (.i2l, 1) := by decide +kernel
theorem dX10_costOfComing_52 : decode cX10_costOfComing 52 = .ok (.lmul, 1) := by decide +kernel
theorem dX10_costOfComing_53 : decode cX10_costOfComing 53 = .ok (.lreturn, 1) := by decide +kernel
theorem dX10_costOfWay_0 : decode cX10_costOfWay 0 = .ok (.lconst 0, 1) := by decide +kernel
theorem dX10_costOfWay_1 : decode cX10_costOfWay 1 = .ok (.lstore 6, 2) := by decide +kernel
theorem dX10_costOfWay_3 : decode cX10_costOfWay 3 = .ok (.iconst 0, 1) := by decide +kernel
theorem dX10_costOfWay_4 : decode cX10_costOfWay 4 = .ok (.istore 8, 2) := by decide +kernel
theorem dX10_costOfWay_6 : decode cX10_costOfWay 6 = .ok (.iload 8, 2) := by decide +kernel
theorem dX10_costOfWay_8 : decode cX10_costOfWay 8 = .ok (.aload_n 0, 1) := by decide +kernel
theorem dX10_costOfWay_9 : decode cX10_costOfWay 9 = .ok (.iload_n 2, 1) := by decide +kernel
theorem dX10_costOfWay_10 : decode cX10_costOfWay 10 = .ok (.invokevirtual 71, 3) := by decide +kernel
theorem dX10_costOfWay_13 : decode cX10_costOfWay 13 = .ok (.if_icmp .ge 42, 3) := by decide +kernel
theorem dX10_costOfWay_16 : decode cX10_costOfWay 16 = .ok (.lload 6, 2) := by decide +kernel
theorem dX10_costOfWay_18 : decode cX10_costOfWay 18 = .ok (.aload_n 0, 1) := by decide +kernel
theorem dX10_costOfWay_19 : decode cX10_costOfWay 19 = .ok (.iload_n 2, 1) := by decide +kernel
theorem dX10_costOfWay_20 : decode cX10_costOfWay 20 = .ok (.iload 8, 2) := by decide +kernel
theorem dX10_costOfWay_22 : decode cX10_costOfWay 22 = .ok (.invokevirtual 77, 3) := by decide +kernel
theorem dX10_costOfWay_25 : decode cX10_costOfWay 25 = .ok (.i2l, 1) := by decide +kernel
theorem dX10_costOfWay_26 : decode cX10_costOfWay 26 = .ok (.aload_n 0, 1) := by decide +kernel
theorem dX10_costOfWay_27 : decode cX10_costOfWay 27 = .ok (.aload_n 1, 1) := by decide +kernel
theorem dX10_costOfWay_28 : decode cX10_costOfWay 28 = .ok (.iload_n 2, 1) := by decide +kernel
theorem dX10_costOfWay_29 : decode cX10_costOfWay 29 = .ok (.iload_n 3, 1) := by decide +kernel
theorem dX10_costOfWay_30 : decode cX10_costOfWay 30 = .ok (.aload_n 0, 1) := by decide +kernel
theorem dX10_costOfWay_31 : decode cX10_costOfWay 31 = .ok (.iload_n 2, 1) := by decide +kernel
theorem dX10_costOfWay_32 : decode cX10_costOfWay 32 = .ok (.iload 8, 2) := by decide +kernel
theorem dX10_costOfWay_34 : decode cX10_costOfWay 34 = .ok (.iload 4, 2) := by decide +kernel
theorem dX10_costOfWay_36 : decode cX10_costOfWay 36 = .ok (.invokevirtual 74, 3) := by decide +kernel
theorem dX10_costOfWay_39 : decode cX10_costOfWay 39 = .ok (.iadd, 1) := by decide +kernel
theorem dX10_costOfWay_40 : decode cX10_costOfWay 40 = .ok (.iload 5, 2) := by decide +kernel
theorem dX10_costOfWay_42 : decode cX10_costOfWay 42 = .ok (.invokevirtual 110, 3) := by decide +kernel
theorem dX10_costOfWay_45 : decode cX10_costOfWay 45 = .ok (.lmul, 1) := by decide +kernel
theorem dX10_costOfWay_46 : decode cX10_costOfWay 46 = .ok (.ladd, 1) := by decide +kernel
theorem dX10_costOfWay_47 : decode cX10_costOfWay 47 = .ok (.lstore 6, 2) := by decide +kernel
theorem dX10_costOfWay_49 : decode cX10_costOfWay 49 = .ok (.iinc 8 1, 3) := by decide +kernel
theorem dX10_costOfWay_52 : decode cX10_costOfWay 52 = .ok (.goto (-46), 3) := by decide +kernel
theorem dX10_costOfWay_55 : decode cX10_costOfWay 55 = .ok (.lload 6, 2) := by decide +kernel
theorem dX10_costOfWay_57 : decode cX10_costOfWay 57 = .ok (.lreturn, 1) := by decide +kernel
theorem dX10_costOfOne_0 : decode cX10_costOfOne 0 = .ok (.lconst 0, 1) := by decide +kernel
theorem dX10_costOfOne_1 : decode cX10_costOfOne 1 = .ok (.lstore 5, 2) := by decide +kernel
theorem dX10_costOfOne_3 : decode cX10_costOfOne 3 = .ok (.iconst 0, 1) := by decide +kernel
theorem dX10_costOfOne_4 : decode cX10_costOfOne 4 = .ok (.istore 7, 2) := by decide +kernel
theorem dX10_costOfOne_6 : decode cX10_costOfOne 6 = .ok (.iload 7, 2) := by decide +kernel
theorem dX10_costOfOne_8 : decode cX10_costOfOne 8 = .ok (.iconst 2, 1) := by decide +kernel
theorem dX10_costOfOne_9 : decode cX10_costOfOne 9 = .ok (.if_icmp .ge 47, 3) := by decide +kernel
theorem dX10_costOfOne_12 : decode cX10_costOfOne 12 = .ok (.aload_n 0, 1) := by decide +kernel
theorem dX10_costOfOne_13 : decode cX10_costOfOne 13 = .ok (.iload 7, 2) := by decide +kernel
theorem dX10_costOfOne_15 : decode cX10_costOfOne 15 = .ok (.invokevirtual 63, 3) := by decide +kernel
theorem dX10_costOfOne_18 : decode cX10_costOfOne 18 = .ok (.istore 8, 2) := by decide +kernel
theorem dX10_costOfOne_20 : decode cX10_costOfOne 20 = .ok (.iload 8, 2) := by decide +kernel
theorem dX10_costOfOne_22 : decode cX10_costOfOne 22 = .ok (.ifCond .le 28, 3) := by decide +kernel
theorem dX10_costOfOne_25 : decode cX10_costOfOne 25 = .ok (.lload 5, 2) := by decide +kernel
theorem dX10_costOfOne_27 : decode cX10_costOfOne 27 = .ok (.iload 8, 2) := by decide +kernel
theorem dX10_costOfOne_29 : decode cX10_costOfOne 29 = .ok (.i2l, 1) := by decide +kernel
theorem dX10_costOfOne_30 : decode cX10_costOfOne 30 = .ok (.aload_n 0, 1) := by decide +kernel
theorem dX10_costOfOne_31 : decode cX10_costOfOne 31 = .ok (.aload_n 1, 1) := by decide +kernel
theorem dX10_costOfOne_32 : decode cX10_costOfOne 32 = .ok (.iload_n 2, 1) := by decide +kernel
theorem dX10_costOfOne_33 : decode cX10_costOfOne 33 = .ok (.aload_n 1, 1) := by decide +kernel
theorem dX10_costOfOne_34 : decode cX10_costOfOne 34 = .ok (.getfield 93, 3) := by decide +kernel
theorem dX10_costOfOne_37 : decode cX10_costOfOne 37 = .ok (.iload_n 3, 1) := by decide +kernel
theorem dX10_costOfOne_38 : decode cX10_costOfOne 38 = .ok (.isub, 1) := by decide +kernel
theorem dX10_costOfOne_39 : decode cX10_costOfOne 39 = .ok (.iload 7, 2) := by decide +kernel
theorem dX10_costOfOne_41 : decode cX10_costOfOne 41 = .ok (.iload 4, 2) := by decide +kernel
theorem dX10_costOfOne_43 : decode cX10_costOfOne 43 = .ok (.invokevirtual 114, 3) := by decide +kernel
theorem dX10_costOfOne_46 : decode cX10_costOfOne 46 = .ok (.lmul, 1) := by decide +kernel
theorem dX10_costOfOne_47 : decode cX10_costOfOne 47 = .ok (.ladd, 1) := by decide +kernel
theorem dX10_costOfOne_48 : decode cX10_costOfOne 48 = .ok (.lstore 5, 2) := by decide +kernel
theorem dX10_costOfOne_50 : decode cX10_costOfOne 50 = .ok (.iinc 7 1, 3) := by decide +kernel
theorem dX10_costOfOne_53 : decode cX10_costOfOne 53 = .ok (.goto (-47), 3) := by decide +kernel
theorem dX10_costOfOne_56 : decode cX10_costOfOne 56 = .ok (.lload 5, 2) := by decide +kernel
theorem dX10_costOfOne_58 : decode cX10_costOfOne 58 = .ok (.lreturn, 1) := by decide +kernel
theorem dX10_costOfRow_0 : decode cX10_costOfRow 0 = .ok (.lconst 0, 1) := by decide +kernel
