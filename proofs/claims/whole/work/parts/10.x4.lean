theorem dX12_allWith_192 : decode cX12_allWith 192 = .ok (.lreturn, 1) := by decide +kernel
theorem dX12_changes_0 : decode cX12_changes 0 = .ok (.aload_n 0, 1) := by decide +kernel
theorem dX12_changes_1 : decode cX12_changes 1 = .ok (.getfield 139, 3) := by decide +kernel
theorem dX12_changes_4 : decode cX12_changes 4 = .ok (.iload_n 2, 1) := by decide +kernel
theorem dX12_changes_5 : decode cX12_changes 5 = .ok (.iaload, 1) := by decide +kernel
theorem dX12_changes_6 : decode cX12_changes 6 = .ok (.istore 4, 2) := by decide +kernel
theorem dX12_changes_8 : decode cX12_changes 8 = .ok (.iconst 0, 1) := by decide +kernel
theorem dX12_changes_9 : decode cX12_changes 9 = .ok (.istore 5, 2) := by decide +kernel
theorem dX12_changes_11 : decode cX12_changes 11 = .ok (.lconst 0, 1) := by decide +kernel
theorem dX12_changes_12 : decode cX12_changes 12 = .ok (.lstore 6, 2) := by decide +kernel
theorem dX12_changes_14 : decode cX12_changes 14 = .ok (.iconst 0, 1) := by decide +kernel
theorem dX12_changes_15 : decode cX12_changes 15 = .ok (.istore 8, 2) := by decide +kernel
theorem dX12_changes_17 : decode cX12_changes 17 = .ok (.iload 8, 2) := by decide +kernel
theorem dX12_changes_19 : decode cX12_changes 19 = .ok (.bipush 120, 2) := by decide +kernel
theorem dX12_changes_21 : decode cX12_changes 21 = .ok (.if_icmp .gt 63, 3) := by decide +kernel
theorem dX12_changes_24 : decode cX12_changes 24 = .ok (.aload_n 0, 1) := by decide +kernel
theorem dX12_changes_25 : decode cX12_changes 25 = .ok (.getfield 139, 3) := by decide +kernel
theorem dX12_changes_28 : decode cX12_changes 28 = .ok (.iload_n 2, 1) := by decide +kernel
theorem dX12_changes_29 : decode cX12_changes 29 = .ok (.iload 8, 2) := by decide +kernel
theorem dX12_changes_31 : decode cX12_changes 31 = .ok (.iastore, 1) := by decide +kernel
theorem dX12_changes_32 : decode cX12_changes 32 = .ok (.aload_n 0, 1) := by decide +kernel
theorem dX12_changes_33 : decode cX12_changes 33 = .ok (.iload_n 1, 1) := by decide +kernel
theorem dX12_changes_34 : decode cX12_changes 34 = .ok (.iload_n 2, 1) := by decide +kernel
theorem dX12_changes_35 : decode cX12_changes 35 = .ok (.iload_n 3, 1) := by decide +kernel
theorem dX12_changes_36 : decode cX12_changes 36 = .ok (.iconst 0, 1) := by decide +kernel
theorem dX12_changes_37 : decode cX12_changes 37 = .ok (.invokevirtual 446, 3) := by decide +kernel
theorem dX12_changes_40 : decode cX12_changes 40 = .ok (.aload_n 0, 1) := by decide +kernel
theorem dX12_changes_41 : decode cX12_changes 41 = .ok (.iload_n 1, 1) := by decide +kernel
theorem dX12_changes_42 : decode cX12_changes 42 = .ok (.iload_n 2, 1) := by decide +kernel
theorem dX12_changes_43 : decode cX12_changes 43 = .ok (.iload_n 3, 1) := by decide +kernel
theorem dX12_changes_44 : decode cX12_changes 44 = .ok (.iconst 1, 1) := by decide +kernel
theorem dX12_changes_45 : decode cX12_changes 45 = .ok (.invokevirtual 446, 3) := by decide +kernel
theorem dX12_changes_48 : decode cX12_changes 48 = .ok (.ladd, 1) := by decide +kernel
theorem dX12_changes_49 : decode cX12_changes 49 = .ok (.lstore 9, 2) := by decide +kernel
theorem dX12_changes_51 : decode cX12_changes 51 = .ok (.iload 8, 2) := by decide +kernel
theorem dX12_changes_53 : decode cX12_changes 53 = .ok (.ifCond .le 14, 3) := by decide +kernel
theorem dX12_changes_56 : decode cX12_changes 56 = .ok (.lload 9, 2) := by decide +kernel
theorem dX12_changes_58 : decode cX12_changes 58 = .ok (.lload 6, 2) := by decide +kernel
theorem dX12_changes_60 : decode cX12_changes 60 = .ok (.lcmp, 1) := by decide +kernel
theorem dX12_changes_61 : decode cX12_changes 61 = .ok (.ifCond .lt 6, 3) := by decide +kernel
theorem dX12_changes_64 : decode cX12_changes 64 = .ok (.goto 11, 3) := by decide +kernel
theorem dX12_changes_67 : decode cX12_changes 67 = .ok (.lload 9, 2) := by decide +kernel
theorem dX12_changes_69 : decode cX12_changes 69 = .ok (.lstore 6, 2) := by decide +kernel
theorem dX12_changes_71 : decode cX12_changes 71 = .ok (.iload 8, 2) := by decide +kernel
theorem dX12_changes_73 : decode cX12_changes 73 = .ok (.istore 5, 2) := by decide +kernel
theorem dX12_changes_75 : decode cX12_changes 75 = .ok (.iload 8, 2) := by decide +kernel
theorem dX12_changes_77 : decode cX12_changes 77 = .ok (.iconst 5, 1) := by decide +kernel
theorem dX12_changes_78 : decode cX12_changes 78 = .ok (.iadd, 1) := by decide +kernel
theorem dX12_changes_79 : decode cX12_changes 79 = .ok (.istore 8, 2) := by decide +kernel
theorem dX12_changes_81 : decode cX12_changes 81 = .ok (.goto (-64), 3) := by decide +kernel
theorem dX12_changes_84 : decode cX12_changes 84 = .ok (.aload_n 0, 1) := by decide +kernel
theorem dX12_changes_85 : decode cX12_changes 85 = .ok (.getfield 139, 3) := by decide +kernel
theorem dX12_changes_88 : decode cX12_changes 88 = .ok (.iload_n 2, 1) := by decide +kernel
theorem dX12_changes_89 : decode cX12_changes 89 = .ok (.iload 5, 2) := by decide +kernel
theorem dX12_changes_91 : decode cX12_changes 91 = .ok (.iastore, 1) := by decide +kernel
theorem dX12_changes_92 : decode cX12_changes 92 = .ok (.iload 5, 2) := by decide +kernel
theorem dX12_changes_94 : decode cX12_changes 94 = .ok (.iload 4, 2) := by decide +kernel
theorem dX12_changes_96 : decode cX12_changes 96 = .ok (.if_icmp .eq 7, 3) := by decide +kernel
theorem dX12_changes_99 : decode cX12_changes 99 = .ok (.iconst 1, 1) := by decide +kernel
theorem dX12_changes_100 : decode cX12_changes 100 = .ok (.goto 4, 3) := by decide +kernel
theorem dX12_changes_103 : decode cX12_changes 103 = .ok (.iconst 0, 1) := by decide +kernel
theorem dX12_changes_104 : decode cX12_changes 104 = .ok (.ireturn, 1) := by decide +kernel
theorem dX12_rest_0 : decode cX12_rest 0 = .ok (.aload_n 0, 1) := by decide +kernel
theorem dX12_rest_1 : decode cX12_rest 1 = .ok (.iload_n 1, 1) := by decide +kernel
theorem dX12_rest_2 : decode cX12_rest 2 = .ok (.invokevirtual 158, 3) := by decide +kernel
theorem dX12_rest_5 : decode cX12_rest 5 = .ok (.ifCond .eq 40, 3) := by decide +kernel
theorem dX12_rest_8 : decode cX12_rest 8 = .ok (.aload_n 0, 1) := by decide +kernel
theorem dX12_rest_9 : decode cX12_rest 9 = .ok (.getfield 19, 3) := by decide +kernel
theorem dX12_rest_12 : decode cX12_rest 12 = .ok (.iload_n 1, 1) := by decide +kernel
theorem dX12_rest_13 : decode cX12_rest 13 = .ok (.iaload, 1) := by decide +kernel
theorem dX12_rest_14 : decode cX12_rest 14 = .ok (.invokestatic 172, 3) := by decide +kernel
theorem dX12_rest_17 : decode cX12_rest 17 = .ok (.iconst 4, 1) := by decide +kernel
theorem dX12_rest_18 : decode cX12_rest 18 = .ok (.if_icmp .gt 27, 3) := by decide +kernel
theorem dX12_rest_21 : decode cX12_rest 21 = .ok (.iload_n 2, 1) := by decide +kernel
theorem dX12_rest_22 : decode cX12_rest 22 = .ok (.iconst 0, 1) := by decide +kernel
theorem dX12_rest_23 : decode cX12_rest 23 = .ok (.bipush 99, 2) := by decide +kernel
theorem dX12_rest_25 : decode cX12_rest 25 = .ok (.invokestatic 168, 3) := by decide +kernel
theorem dX12_rest_28 : decode cX12_rest 28 = .ok (.ifCond .eq 17, 3) := by decide +kernel
theorem dX12_rest_31 : decode cX12_rest 31 = .ok (.iload_n 3, 1) := by decide +kernel
theorem dX12_rest_32 : decode cX12_rest 32 = .ok (.iconst (-1), 1) := by decide +kernel
theorem dX12_rest_33 : decode cX12_rest 33 = .ok (.if_icmp .eq 15, 3) := by decide +kernel
theorem dX12_rest_36 : decode cX12_rest 36 = .ok (.aload_n 0, 1) := by decide +kernel
theorem dX12_rest_37 : decode cX12_rest 37 = .ok (.iload_n 1, 1) := by decide +kernel
theorem dX12_rest_38 : decode cX12_rest 38 = .ok (.iload_n 3, 1) := by decide +kernel
theorem dX12_rest_39 : decode cX12_rest 39 = .ok (.invokevirtual 176, 3) := by decide +kernel
theorem dX12_rest_42 : decode cX12_rest 42 = .ok (.ifCond .ne 6, 3) := by decide +kernel
theorem dX12_rest_45 : decode cX12_rest 45 = .ok (.bipush (-3), 2) := by decide +kernel
theorem dX12_rest_47 : decode cX12_rest 47 = .ok (.ireturn, 1) := by decide +kernel
theorem dX12_rest_48 : decode cX12_rest 48 = .ok (.aload_n 0, 1) := by decide +kernel
theorem dX12_rest_49 : decode cX12_rest 49 = .ok (.iload_n 1, 1) := by decide +kernel
theorem dX12_rest_50 : decode cX12_rest 50 = .ok (.invokevirtual 449, 3) := by decide +kernel
theorem dX12_rest_53 : decode cX12_rest 53 = .ok (.iconst 1, 1) := by decide +kernel
theorem dX12_rest_54 : decode cX12_rest 54 = .ok (.istore 4, 2) := by decide +kernel
theorem dX12_rest_56 : decode cX12_rest 56 = .ok (.iload 4, 2) := by decide +kernel
theorem dX12_rest_58 : decode cX12_rest 58 = .ok (.bipush 30, 2) := by decide +kernel
theorem dX12_rest_60 : decode cX12_rest 60 = .ok (.if_icmp .gt 106, 3) := by decide +kernel
theorem dX12_rest_63 : decode cX12_rest 63 = .ok (.iconst 0, 1) := by decide +kernel
theorem dX12_rest_64 : decode cX12_rest 64 = .ok (.istore 5, 2) := by decide +kernel
theorem dX12_rest_66 : decode cX12_rest 66 = .ok (.iconst 0, 1) := by decide +kernel
theorem dX12_rest_67 : decode cX12_rest 67 = .ok (.istore 6, 2) := by decide +kernel
theorem dX12_rest_69 : decode cX12_rest 69 = .ok (.iload 6, 2) := by decide +kernel
theorem dX12_rest_71 : decode cX12_rest 71 = .ok (.aload_n 0, 1) := by decide +kernel
theorem dX12_rest_72 : decode cX12_rest 72 = .ok (.getfield 439, 3) := by decide +kernel
theorem dX12_rest_75 : decode cX12_rest 75 = .ok (.if_icmp .ge 32, 3) := by decide +kernel
theorem dX12_rest_78 : decode cX12_rest 78 = .ok (.aload_n 0, 1) := by decide +kernel
theorem dX12_rest_79 : decode cX12_rest 79 = .ok (.iload_n 1, 1) := by decide +kernel
theorem dX12_rest_80 : decode cX12_rest 80 = .ok (.iload 6, 2) := by decide +kernel
theorem dX12_rest_82 : decode cX12_rest 82 = .ok (.iload_n 2, 1) := by decide +kernel
theorem dX12_rest_83 : decode cX12_rest 83 = .ok (.invokevirtual 452, 3) := by decide +kernel
theorem dX12_rest_86 : decode cX12_rest 86 = .ok (.ifCond .ne 8, 3) := by decide +kernel
theorem dX12_rest_89 : decode cX12_rest 89 = .ok (.iload 5, 2) := by decide +kernel
theorem dX12_rest_91 : decode cX12_rest 91 = .ok (.ifCond .eq 7, 3) := by decide +kernel
theorem dX12_rest_94 : decode cX12_rest 94 = .ok (.iconst 1, 1) := by decide +kernel
theorem dX12_rest_95 : decode cX12_rest 95 = .ok (.goto 4, 3) := by decide +kernel
theorem dX12_rest_98 : decode cX12_rest 98 = .ok (.iconst 0, 1) := by decide +kernel
theorem dX12_rest_99 : decode cX12_rest 99 = .ok (.istore 5, 2) := by decide +kernel
theorem dX12_rest_101 : decode cX12_rest 101 = .ok (.iinc 6 1, 3) := by decide +kernel
theorem dX12_rest_104 : decode cX12_rest 104 = .ok (.goto (-35), 3) := by decide +kernel
theorem dX12_rest_107 : decode cX12_rest 107 = .ok (.iload 5, 2) := by decide +kernel
theorem dX12_rest_109 : decode cX12_rest 109 = .ok (.ifCond .eq 6, 3) := by decide +kernel
theorem dX12_rest_112 : decode cX12_rest 112 = .ok (.goto 48, 3) := by decide +kernel
theorem dX12_rest_115 : decode cX12_rest 115 = .ok (.iload_n 3, 1) := by decide +kernel
theorem dX12_rest_116 : decode cX12_rest 116 = .ok (.iconst (-1), 1) := by decide +kernel
theorem dX12_rest_117 : decode cX12_rest 117 = .ok (.if_icmp .ne 6, 3) := by decide +kernel
theorem dX12_rest_120 : decode cX12_rest 120 = .ok (.iload 4, 2) := by decide +kernel
theorem dX12_rest_122 : decode cX12_rest 122 = .ok (.ireturn, 1) := by decide +kernel
theorem dX12_rest_123 : decode cX12_rest 123 = .ok (.iconst 0, 1) := by decide +kernel
theorem dX12_rest_124 : decode cX12_rest 124 = .ok (.istore 6, 2) := by decide +kernel
theorem dX12_rest_126 : decode cX12_rest 126 = .ok (.iload 6, 2) := by decide +kernel
theorem dX12_rest_128 : decode cX12_rest 128 = .ok (.aload_n 0, 1) := by decide +kernel
theorem dX12_rest_129 : decode cX12_rest 129 = .ok (.getfield 439, 3) := by decide +kernel
theorem dX12_rest_132 : decode cX12_rest 132 = .ok (.if_icmp .ge 28, 3) := by decide +kernel
theorem dX12_rest_135 : decode cX12_rest 135 = .ok (.aload_n 0, 1) := by decide +kernel
theorem dX12_rest_136 : decode cX12_rest 136 = .ok (.getfield 136, 3) := by decide +kernel
theorem dX12_rest_139 : decode cX12_rest 139 = .ok (.iload 6, 2) := by decide +kernel
theorem dX12_rest_141 : decode cX12_rest 141 = .ok (.iaload, 1) := by decide +kernel
theorem dX12_rest_142 : decode cX12_rest 142 = .ok (.iload_n 3, 1) := by decide +kernel
theorem dX12_rest_143 : decode cX12_rest 143 = .ok (.if_icmp .ne 11, 3) := by decide +kernel
theorem dX12_rest_146 : decode cX12_rest 146 = .ok (.aload_n 0, 1) := by decide +kernel
theorem dX12_rest_147 : decode cX12_rest 147 = .ok (.getfield 139, 3) := by decide +kernel
theorem dX12_rest_150 : decode cX12_rest 150 = .ok (.iload 6, 2) := by decide +kernel
theorem dX12_rest_152 : decode cX12_rest 152 = .ok (.iaload, 1) := by decide +kernel
theorem dX12_rest_153 : decode cX12_rest 153 = .ok (.ireturn, 1) := by decide +kernel
theorem dX12_rest_154 : decode cX12_rest 154 = .ok (.iinc 6 1, 3) := by decide +kernel
theorem dX12_rest_157 : decode cX12_rest 157 = .ok (.goto (-31), 3) := by decide +kernel
theorem dX12_rest_160 : decode cX12_rest 160 = .ok (.iinc 4 1, 3) := by decide +kernel
theorem dX12_rest_163 : decode cX12_rest 163 = .ok (.goto (-107), 3) := by decide +kernel
theorem dX12_rest_166 : decode cX12_rest 166 = .ok (.bipush (-2), 2) := by decide +kernel
theorem dX12_rest_168 : decode cX12_rest 168 = .ok (.ireturn, 1) := by decide +kernel
theorem dX12_lost_0 : decode cX12_lost 0 = .ok (.iconst 0, 1) := by decide +kernel
theorem dX12_lost_1 : decode cX12_lost 1 = .ok (.istore_n 1, 1) := by decide +kernel
theorem dX12_lost_2 : decode cX12_lost 2 = .ok (.iconst 0, 1) := by decide +kernel
theorem dX12_lost_3 : decode cX12_lost 3 = .ok (.istore_n 2, 1) := by decide +kernel
theorem dX12_lost_4 : decode cX12_lost 4 = .ok (.iload_n 2, 1) := by decide +kernel
theorem dX12_lost_5 : decode cX12_lost 5 = .ok (.aload_n 0, 1) := by decide +kernel
theorem dX12_lost_6 : decode cX12_lost 6 = .ok (.getfield 155, 3) := by decide +kernel
theorem dX12_lost_9 : decode cX12_lost 9 = .ok (.if_icmp .ge 97, 3) := by decide +kernel
theorem dX12_lost_12 : decode cX12_lost 12 = .ok (.iconst 0, 1) := by decide +kernel
theorem dX12_lost_13 : decode cX12_lost 13 = .ok (.istore_n 3, 1) := by decide +kernel
theorem dX12_lost_14 : decode cX12_lost 14 = .ok (.iload_n 3, 1) := by decide +kernel
theorem dX12_lost_15 : decode cX12_lost 15 = .ok (.bipush 8, 2) := by decide +kernel
theorem dX12_lost_17 : decode cX12_lost 17 = .ok (.if_icmp .ge 83, 3) := by decide +kernel
theorem dX12_lost_20 : decode cX12_lost 20 = .ok (.aload_n 0, 1) := by decide +kernel
theorem dX12_lost_21 : decode cX12_lost 21 = .ok (.getfield 25, 3) := by decide +kernel
theorem dX12_lost_24 : decode cX12_lost 24 = .ok (.iload_n 2, 1) := by decide +kernel
theorem dX12_lost_25 : decode cX12_lost 25 = .ok (.baload, 1) := by decide +kernel
theorem dX12_lost_26 : decode cX12_lost 26 = .ok (.ifCond .eq 68, 3) := by decide +kernel
theorem dX12_lost_29 : decode cX12_lost 29 = .ok (.aload_n 0, 1) := by decide +kernel
theorem dX12_lost_30 : decode cX12_lost 30 = .ok (.iload_n 2, 1) := by decide +kernel
theorem dX12_lost_31 : decode cX12_lost 31 = .ok (.iload_n 3, 1) := by decide +kernel
theorem dX12_lost_32 : decode cX12_lost 32 = .ok (.invokevirtual 176, 3) := by decide +kernel
theorem dX12_lost_35 : decode cX12_lost 35 = .ok (.ifCond .ne 6, 3) := by decide +kernel
theorem dX12_lost_38 : decode cX12_lost 38 = .ok (.goto 56, 3) := by decide +kernel
theorem dX12_lost_41 : decode cX12_lost 41 = .ok (.aload_n 0, 1) := by decide +kernel
theorem dX12_lost_42 : decode cX12_lost 42 = .ok (.getfield 22, 3) := by decide +kernel
theorem dX12_lost_45 : decode cX12_lost 45 = .ok (.bipush 8, 2) := by decide +kernel
theorem dX12_lost_47 : decode cX12_lost 47 = .ok (.iload_n 2, 1) := by decide +kernel
theorem dX12_lost_48 : decode cX12_lost 48 = .ok (.imul, 1) := by decide +kernel
theorem dX12_lost_49 : decode cX12_lost 49 = .ok (.iload_n 3, 1) := by decide +kernel
theorem dX12_lost_50 : decode cX12_lost 50 = .ok (.iadd, 1) := by decide +kernel
theorem dX12_lost_51 : decode cX12_lost 51 = .ok (.iaload, 1) := by decide +kernel
theorem dX12_lost_52 : decode cX12_lost 52 = .ok (.aload_n 0, 1) := by decide +kernel
theorem dX12_lost_53 : decode cX12_lost 53 = .ok (.getfield 16, 3) := by decide +kernel
theorem dX12_lost_56 : decode cX12_lost 56 = .ok (.iload_n 2, 1) := by decide +kernel
theorem dX12_lost_57 : decode cX12_lost 57 = .ok (.iaload, 1) := by decide +kernel
theorem dX12_lost_58 : decode cX12_lost 58 = .ok (.if_icmp .le 17, 3) := by decide +kernel
theorem dX12_lost_61 : decode cX12_lost 61 = .ok (.aload_n 0, 1) := by decide +kernel
theorem dX12_lost_62 : decode cX12_lost 62 = .ok (.getfield 22, 3) := by decide +kernel
theorem dX12_lost_65 : decode cX12_lost 65 = .ok (.bipush 8, 2) := by decide +kernel
theorem dX12_lost_67 : decode cX12_lost 67 = .ok (.iload_n 2, 1) := by decide +kernel
theorem dX12_lost_68 : decode cX12_lost 68 = .ok (.imul, 1) := by decide +kernel
theorem dX12_lost_69 : decode cX12_lost 69 = .ok (.iload_n 3, 1) := by decide +kernel
theorem dX12_lost_70 : decode cX12_lost 70 = .ok (.iadd, 1) := by decide +kernel
theorem dX12_lost_71 : decode cX12_lost 71 = .ok (.iaload, 1) := by decide +kernel
theorem dX12_lost_72 : decode cX12_lost 72 = .ok (.goto 9, 3) := by decide +kernel
theorem dX12_lost_75 : decode cX12_lost 75 = .ok (.aload_n 0, 1) := by decide +kernel
theorem dX12_lost_76 : decode cX12_lost 76 = .ok (.getfield 16, 3) := by decide +kernel
theorem dX12_lost_79 : decode cX12_lost 79 = .ok (.iload_n 2, 1) := by decide +kernel
theorem dX12_lost_80 : decode cX12_lost 80 = .ok (.iaload, 1) := by decide +kernel
theorem dX12_lost_81 : decode cX12_lost 81 = .ok (.istore 4, 2) := by decide +kernel
theorem dX12_lost_83 : decode cX12_lost 83 = .ok (.iload_n 1, 1) := by decide +kernel
theorem dX12_lost_84 : decode cX12_lost 84 = .ok (.aload_n 0, 1) := by decide +kernel
theorem dX12_lost_85 : decode cX12_lost 85 = .ok (.iload_n 2, 1) := by decide +kernel
theorem dX12_lost_86 : decode cX12_lost 86 = .ok (.invokevirtual 183, 3) := by decide +kernel
theorem dX12_lost_89 : decode cX12_lost 89 = .ok (.iadd, 1) := by decide +kernel
theorem dX12_lost_90 : decode cX12_lost 90 = .ok (.iload 4, 2) := by decide +kernel
theorem dX12_lost_92 : decode cX12_lost 92 = .ok (.isub, 1) := by decide +kernel
theorem dX12_lost_93 : decode cX12_lost 93 = .ok (.istore_n 1, 1) := by decide +kernel
theorem dX12_lost_94 : decode cX12_lost 94 = .ok (.iinc 3 1, 3) := by decide +kernel
theorem dX12_lost_97 : decode cX12_lost 97 = .ok (.goto (-83), 3) := by decide +kernel
theorem dX12_lost_100 : decode cX12_lost 100 = .ok (.iinc 2 1, 3) := by decide +kernel
theorem dX12_lost_103 : decode cX12_lost 103 = .ok (.goto (-99), 3) := by decide +kernel
theorem dX12_lost_106 : decode cX12_lost 106 = .ok (.iload_n 1, 1) := by decide +kernel
theorem dX12_lost_107 : decode cX12_lost 107 = .ok (.ireturn, 1) := by decide +kernel
theorem dX12_seed_0 : decode cX12_seed 0 = .ok (.iload_n 1, 1) := by decide +kernel
theorem dX12_seed_1 : decode cX12_seed 1 = .ok (.iconst 0, 1) := by decide +kernel
theorem dX12_seed_2 : decode cX12_seed 2 = .ok (.ldc_w 455, 3) := by decide +kernel
theorem dX12_seed_5 : decode cX12_seed 5 = .ok (.invokestatic 168, 3) := by decide +kernel
theorem dX12_seed_8 : decode cX12_seed 8 = .ok (.ifCond .ne 5, 3) := by decide +kernel
theorem dX12_seed_11 : decode cX12_seed 11 = .ok (.iconst 0, 1) := by decide +kernel
theorem dX12_seed_12 : decode cX12_seed 12 = .ok (.ireturn, 1) := by decide +kernel
theorem dX12_seed_13 : decode cX12_seed 13 = .ok (.aload_n 0, 1) := by decide +kernel
theorem dX12_seed_14 : decode cX12_seed 14 = .ok (.iload_n 1, 1) := by decide +kernel
theorem dX12_seed_15 : decode cX12_seed 15 = .ok (.putfield 152, 3) := by decide +kernel
theorem dX12_seed_18 : decode cX12_seed 18 = .ok (.iconst 1, 1) := by decide +kernel
theorem dX12_seed_19 : decode cX12_seed 19 = .ok (.ireturn, 1) := by decide +kernel
theorem dX12_draws_0 : decode cX12_draws 0 = .ok (.aload_n 0, 1) := by decide +kernel
theorem dX12_draws_1 : decode cX12_draws 1 = .ok (.sipush 25173, 3) := by decide +kernel
theorem dX12_draws_4 : decode cX12_draws 4 = .ok (.aload_n 0, 1) := by decide +kernel
theorem dX12_draws_5 : decode cX12_draws 5 = .ok (.getfield 152, 3) := by decide +kernel
theorem dX12_draws_8 : decode cX12_draws 8 = .ok (.imul, 1) := by decide +kernel
theorem dX12_draws_9 : decode cX12_draws 9 = .ok (.sipush 13849, 3) := by decide +kernel
theorem dX12_draws_12 : decode cX12_draws 12 = .ok (.iadd, 1) := by decide +kernel
theorem dX12_draws_13 : decode cX12_draws 13 = .ok (.ldc_w 456, 3) := by decide +kernel
theorem dX12_draws_16 : decode cX12_draws 16 = .ok (.irem, 1) := by decide +kernel
theorem dX12_draws_17 : decode cX12_draws 17 = .ok (.putfield 152, 3) := by decide +kernel
theorem dX12_draws_20 : decode cX12_draws 20 = .ok (.return_, 1) := by decide +kernel
theorem dX12_drawnEnd_0 : decode cX12_drawnEnd 0 = .ok (.aload_n 0, 1) := by decide +kernel
theorem dX12_drawnEnd_1 : decode cX12_drawnEnd 1 = .ok (.invokevirtual 457, 3) := by decide +kernel
theorem dX12_drawnEnd_4 : decode cX12_drawnEnd 4 = .ok (.aload_n 0, 1) := by decide +kernel
theorem dX12_drawnEnd_5 : decode cX12_drawnEnd 5 = .ok (.getfield 152, 3) := by decide +kernel
theorem dX12_drawnEnd_8 : decode cX12_drawnEnd 8 = .ok (.aload_n 0, 1) := by decide +kernel
theorem dX12_drawnEnd_9 : decode cX12_drawnEnd 9 = .ok (.iload_n 1, 1) := by decide +kernel
theorem dX12_drawnEnd_10 : decode cX12_drawnEnd 10 = .ok (.invokevirtual 403, 3) := by decide +kernel
theorem dX12_drawnEnd_13 : decode cX12_drawnEnd 13 = .ok (.irem, 1) := by decide +kernel
theorem dX12_drawnEnd_14 : decode cX12_drawnEnd 14 = .ok (.istore_n 2, 1) := by decide +kernel
theorem dX12_drawnEnd_15 : decode cX12_drawnEnd 15 = .ok (.iconst 0, 1) := by decide +kernel
theorem dX12_drawnEnd_16 : decode cX12_drawnEnd 16 = .ok (.istore_n 3, 1) := by decide +kernel
theorem dX12_drawnEnd_17 : decode cX12_drawnEnd 17 = .ok (.iload_n 2, 1) := by decide +kernel
theorem dX12_drawnEnd_18 : decode cX12_drawnEnd 18 = .ok (.aload_n 0, 1) := by decide +kernel
theorem dX12_drawnEnd_19 : decode cX12_drawnEnd 19 = .ok (.iload_n 1, 1) := by decide +kernel
theorem dX12_drawnEnd_20 : decode cX12_drawnEnd 20 = .ok (.iload_n 3, 1) := by decide +kernel
theorem dX12_drawnEnd_21 : decode cX12_drawnEnd 21 = .ok (.invokevirtual 389, 3) := by decide +kernel
theorem dX12_drawnEnd_24 : decode cX12_drawnEnd 24 = .ok (.if_icmp .lt 19, 3) := by decide +kernel
theorem dX12_drawnEnd_27 : decode cX12_drawnEnd 27 = .ok (.iload_n 2, 1) := by decide +kernel
theorem dX12_drawnEnd_28 : decode cX12_drawnEnd 28 = .ok (.aload_n 0, 1) := by decide +kernel
theorem dX12_drawnEnd_29 : decode cX12_drawnEnd 29 = .ok (.iload_n 1, 1) := by decide +kernel
theorem dX12_drawnEnd_30 : decode cX12_drawnEnd 30 = .ok (.iload_n 3, 1) := by decide +kernel
theorem dX12_drawnEnd_31 : decode cX12_drawnEnd 31 = .ok (.invokevirtual 389, 3) := by decide +kernel
theorem dX12_drawnEnd_34 : decode cX12_drawnEnd 34 = .ok (.isub, 1) := by decide +kernel
theorem dX12_drawnEnd_35 : decode cX12_drawnEnd 35 = .ok (.istore_n 2, 1) := by decide +kernel
theorem dX12_drawnEnd_36 : decode cX12_drawnEnd 36 = .ok (.iload_n 3, 1) := by decide +kernel
theorem dX12_drawnEnd_37 : decode cX12_drawnEnd 37 = .ok (.iconst 1, 1) := by decide +kernel
theorem dX12_drawnEnd_38 : decode cX12_drawnEnd 38 = .ok (.iadd, 1) := by decide +kernel
theorem dX12_drawnEnd_39 : decode cX12_drawnEnd 39 = .ok (.istore_n 3, 1) := by decide +kernel
theorem dX12_drawnEnd_40 : decode cX12_drawnEnd 40 = .ok (.goto (-23), 3) := by decide +kernel
theorem dX12_drawnEnd_43 : decode cX12_drawnEnd 43 = .ok (.iload_n 3, 1) := by decide +kernel
theorem dX12_drawnEnd_44 : decode cX12_drawnEnd 44 = .ok (.ireturn, 1) := by decide +kernel
theorem dX12_draw_0 : decode cX12_draw 0 = .ok (.aload_n 0, 1) := by decide +kernel
theorem dX12_draw_1 : decode cX12_draw 1 = .ok (.iload_n 1, 1) := by decide +kernel
theorem dX12_draw_2 : decode cX12_draw 2 = .ok (.invokevirtual 158, 3) := by decide +kernel
theorem dX12_draw_5 : decode cX12_draw 5 = .ok (.ifCond .eq 23, 3) := by decide +kernel
theorem dX12_draw_8 : decode cX12_draw 8 = .ok (.aload_n 0, 1) := by decide +kernel
theorem dX12_draw_9 : decode cX12_draw 9 = .ok (.getfield 25, 3) := by decide +kernel
theorem dX12_draw_12 : decode cX12_draw 12 = .ok (.iload_n 1, 1) := by decide +kernel
theorem dX12_draw_13 : decode cX12_draw 13 = .ok (.baload, 1) := by decide +kernel
theorem dX12_draw_14 : decode cX12_draw 14 = .ok (.ifCond .ne 14, 3) := by decide +kernel
theorem dX12_draw_17 : decode cX12_draw 17 = .ok (.iload_n 2, 1) := by decide +kernel
theorem dX12_draw_18 : decode cX12_draw 18 = .ok (.iconst 0, 1) := by decide +kernel
theorem dX12_draw_19 : decode cX12_draw 19 = .ok (.sipush 600, 3) := by decide +kernel
theorem dX12_draw_22 : decode cX12_draw 22 = .ok (.invokestatic 168, 3) := by decide +kernel
theorem dX12_draw_25 : decode cX12_draw 25 = .ok (.ifCond .ne 5, 3) := by decide +kernel
theorem dX12_draw_28 : decode cX12_draw 28 = .ok (.iconst (-1), 1) := by decide +kernel
theorem dX12_draw_29 : decode cX12_draw 29 = .ok (.ireturn, 1) := by decide +kernel
theorem dX12_draw_30 : decode cX12_draw 30 = .ok (.aload_n 0, 1) := by decide +kernel
theorem dX12_draw_31 : decode cX12_draw 31 = .ok (.invokevirtual 457, 3) := by decide +kernel
theorem dX12_draw_34 : decode cX12_draw 34 = .ok (.aload_n 0, 1) := by decide +kernel
theorem dX12_draw_35 : decode cX12_draw 35 = .ok (.getfield 152, 3) := by decide +kernel
theorem dX12_draw_38 : decode cX12_draw 38 = .ok (.aload_n 0, 1) := by decide +kernel
theorem dX12_draw_39 : decode cX12_draw 39 = .ok (.getfield 148, 3) := by decide +kernel
theorem dX12_draw_42 : decode cX12_draw 42 = .ok (.irem, 1) := by decide +kernel
theorem dX12_draw_43 : decode cX12_draw 43 = .ok (.aload_n 0, 1) := by decide +kernel
theorem dX12_draw_44 : decode cX12_draw 44 = .ok (.getfield 374, 3) := by decide +kernel
theorem dX12_draw_47 : decode cX12_draw 47 = .ok (.if_icmp .ge 7, 3) := by decide +kernel
theorem dX12_draw_50 : decode cX12_draw 50 = .ok (.iconst 1, 1) := by decide +kernel
theorem dX12_draw_51 : decode cX12_draw 51 = .ok (.goto 4, 3) := by decide +kernel
theorem dX12_draw_54 : decode cX12_draw 54 = .ok (.iconst 0, 1) := by decide +kernel
theorem dX12_draw_55 : decode cX12_draw 55 = .ok (.istore_n 3, 1) := by decide +kernel
theorem dX12_draw_56 : decode cX12_draw 56 = .ok (.iconst 0, 1) := by decide +kernel
theorem dX12_draw_57 : decode cX12_draw 57 = .ok (.istore 4, 2) := by decide +kernel
theorem dX12_draw_59 : decode cX12_draw 59 = .ok (.iload 4, 2) := by decide +kernel
theorem dX12_draw_61 : decode cX12_draw 61 = .ok (.bipush 8, 2) := by decide +kernel
theorem dX12_draw_63 : decode cX12_draw 63 = .ok (.if_icmp .ge 83, 3) := by decide +kernel
theorem dX12_draw_66 : decode cX12_draw 66 = .ok (.aload_n 0, 1) := by decide +kernel
theorem dX12_draw_67 : decode cX12_draw 67 = .ok (.iload_n 1, 1) := by decide +kernel
theorem dX12_draw_68 : decode cX12_draw 68 = .ok (.iload 4, 2) := by decide +kernel
theorem dX12_draw_70 : decode cX12_draw 70 = .ok (.invokevirtual 176, 3) := by decide +kernel
theorem dX12_draw_73 : decode cX12_draw 73 = .ok (.ifCond .ne 6, 3) := by decide +kernel
theorem dX12_draw_76 : decode cX12_draw 76 = .ok (.goto 64, 3) := by decide +kernel
theorem dX12_draw_79 : decode cX12_draw 79 = .ok (.aload_n 0, 1) := by decide +kernel
theorem dX12_draw_80 : decode cX12_draw 80 = .ok (.getfield 16, 3) := by decide +kernel
theorem dX12_draw_83 : decode cX12_draw 83 = .ok (.iload_n 1, 1) := by decide +kernel
theorem dX12_draw_84 : decode cX12_draw 84 = .ok (.iaload, 1) := by decide +kernel
theorem dX12_draw_85 : decode cX12_draw 85 = .ok (.iload_n 2, 1) := by decide +kernel
theorem dX12_draw_86 : decode cX12_draw 86 = .ok (.isub, 1) := by decide +kernel
theorem dX12_draw_87 : decode cX12_draw 87 = .ok (.aload_n 0, 1) := by decide +kernel
theorem dX12_draw_88 : decode cX12_draw 88 = .ok (.iload 4, 2) := by decide +kernel
theorem dX12_draw_90 : decode cX12_draw 90 = .ok (.aload_n 0, 1) := by decide +kernel
theorem dX12_draw_91 : decode cX12_draw 91 = .ok (.iload 4, 2) := by decide +kernel
theorem dX12_draw_93 : decode cX12_draw 93 = .ok (.invokevirtual 460, 3) := by decide +kernel
theorem dX12_draw_96 : decode cX12_draw 96 = .ok (.iload_n 3, 1) := by decide +kernel
theorem dX12_draw_97 : decode cX12_draw 97 = .ok (.invokevirtual 392, 3) := by decide +kernel
theorem dX12_draw_100 : decode cX12_draw 100 = .ok (.iadd, 1) := by decide +kernel
theorem dX12_draw_101 : decode cX12_draw 101 = .ok (.istore 5, 2) := by decide +kernel
theorem dX12_draw_103 : decode cX12_draw 103 = .ok (.aload_n 0, 1) := by decide +kernel
theorem dX12_draw_104 : decode cX12_draw 104 = .ok (.getfield 22, 3) := by decide +kernel
theorem dX12_draw_107 : decode cX12_draw 107 = .ok (.bipush 8, 2) := by decide +kernel
theorem dX12_draw_109 : decode cX12_draw 109 = .ok (.iload_n 1, 1) := by decide +kernel
theorem dX12_draw_110 : decode cX12_draw 110 = .ok (.imul, 1) := by decide +kernel
theorem dX12_draw_111 : decode cX12_draw 111 = .ok (.iload 4, 2) := by decide +kernel
theorem dX12_draw_113 : decode cX12_draw 113 = .ok (.iadd, 1) := by decide +kernel
theorem dX12_draw_114 : decode cX12_draw 114 = .ok (.iload 5, 2) := by decide +kernel
theorem dX12_draw_116 : decode cX12_draw 116 = .ok (.ifCond .ge 7, 3) := by decide +kernel
theorem dX12_draw_119 : decode cX12_draw 119 = .ok (.iconst 0, 1) := by decide +kernel
theorem dX12_draw_120 : decode cX12_draw 120 = .ok (.goto 19, 3) := by decide +kernel
theorem dX12_draw_123 : decode cX12_draw 123 = .ok (.iload 5, 2) := by decide +kernel
theorem dX12_draw_125 : decode cX12_draw 125 = .ok (.sipush 1439, 3) := by decide +kernel
theorem dX12_draw_128 : decode cX12_draw 128 = .ok (.if_icmp .le 9, 3) := by decide +kernel
theorem dX12_draw_131 : decode cX12_draw 131 = .ok (.sipush 1439, 3) := by decide +kernel
theorem dX12_draw_134 : decode cX12_draw 134 = .ok (.goto 5, 3) := by decide +kernel
theorem dX12_draw_137 : decode cX12_draw 137 = .ok (.iload 5, 2) := by decide +kernel
theorem dX12_draw_139 : decode cX12_draw 139 = .ok (.iastore, 1) := by decide +kernel
theorem dX12_draw_140 : decode cX12_draw 140 = .ok (.iinc 4 1, 3) := by decide +kernel
theorem dX12_draw_143 : decode cX12_draw 143 = .ok (.goto (-84), 3) := by decide +kernel
theorem dX12_draw_146 : decode cX12_draw 146 = .ok (.iload_n 3, 1) := by decide +kernel
theorem dX12_draw_147 : decode cX12_draw 147 = .ok (.ifCond .eq 7, 3) := by decide +kernel
theorem dX12_draw_150 : decode cX12_draw 150 = .ok (.iconst 1, 1) := by decide +kernel
theorem dX12_draw_151 : decode cX12_draw 151 = .ok (.goto 4, 3) := by decide +kernel
theorem dX12_draw_154 : decode cX12_draw 154 = .ok (.iconst 0, 1) := by decide +kernel
theorem dX12_draw_155 : decode cX12_draw 155 = .ok (.ireturn, 1) := by decide +kernel
theorem dX12_tapeNumber_0 : decode cX12_tapeNumber 0 = .ok (.iconst 0, 1) := by decide +kernel
theorem dX12_tapeNumber_1 : decode cX12_tapeNumber 1 = .ok (.istore_n 2, 1) := by decide +kernel
theorem dX12_tapeNumber_2 : decode cX12_tapeNumber 2 = .ok (.iconst 4, 1) := by decide +kernel
theorem dX12_tapeNumber_3 : decode cX12_tapeNumber 3 = .ok (.iload_n 1, 1) := by decide +kernel
theorem dX12_tapeNumber_4 : decode cX12_tapeNumber 4 = .ok (.imul, 1) := by decide +kernel
theorem dX12_tapeNumber_5 : decode cX12_tapeNumber 5 = .ok (.istore_n 3, 1) := by decide +kernel
theorem dX12_tapeNumber_6 : decode cX12_tapeNumber 6 = .ok (.iload_n 3, 1) := by decide +kernel
theorem dX12_tapeNumber_7 : decode cX12_tapeNumber 7 = .ok (.iconst 4, 1) := by decide +kernel
theorem dX12_tapeNumber_8 : decode cX12_tapeNumber 8 = .ok (.iload_n 1, 1) := by decide +kernel
theorem dX12_tapeNumber_9 : decode cX12_tapeNumber 9 = .ok (.imul, 1) := by decide +kernel
theorem dX12_tapeNumber_10 : decode cX12_tapeNumber 10 = .ok (.iconst 4, 1) := by decide +kernel
theorem dX12_tapeNumber_11 : decode cX12_tapeNumber 11 = .ok (.iadd, 1) := by decide +kernel
theorem dX12_tapeNumber_12 : decode cX12_tapeNumber 12 = .ok (.if_icmp .ge 25, 3) := by decide +kernel
theorem dX12_tapeNumber_15 : decode cX12_tapeNumber 15 = .ok (.iload_n 2, 1) := by decide +kernel
theorem dX12_tapeNumber_16 : decode cX12_tapeNumber 16 = .ok (.bipush 8, 2) := by decide +kernel
theorem dX12_tapeNumber_18 : decode cX12_tapeNumber 18 = .ok (.ishl, 1) := by decide +kernel
theorem dX12_tapeNumber_19 : decode cX12_tapeNumber 19 = .ok (.aload_n 0, 1) := by decide +kernel
theorem dX12_tapeNumber_20 : decode cX12_tapeNumber 20 = .ok (.getfield 29, 3) := by decide +kernel
theorem dX12_tapeNumber_23 : decode cX12_tapeNumber 23 = .ok (.iload_n 3, 1) := by decide +kernel
theorem dX12_tapeNumber_24 : decode cX12_tapeNumber 24 = .ok (.baload, 1) := by decide +kernel
theorem dX12_tapeNumber_25 : decode cX12_tapeNumber 25 = .ok (.sipush 255, 3) := by decide +kernel
theorem dX12_tapeNumber_28 : decode cX12_tapeNumber 28 = .ok (.iand, 1) := by decide +kernel
theorem dX12_tapeNumber_29 : decode cX12_tapeNumber 29 = .ok (.ior, 1) := by decide +kernel
theorem dX12_tapeNumber_30 : decode cX12_tapeNumber 30 = .ok (.istore_n 2, 1) := by decide +kernel
theorem dX12_tapeNumber_31 : decode cX12_tapeNumber 31 = .ok (.iinc 3 1, 3) := by decide +kernel
theorem dX12_tapeNumber_34 : decode cX12_tapeNumber 34 = .ok (.goto (-28), 3) := by decide +kernel
theorem dX12_tapeNumber_37 : decode cX12_tapeNumber 37 = .ok (.iload_n 2, 1) := by decide +kernel
theorem dX12_tapeNumber_38 : decode cX12_tapeNumber 38 = .ok (.ireturn, 1) := by decide +kernel
theorem dX12_noteNumber_0 : decode cX12_noteNumber 0 = .ok (.iload_n 2, 1) := by decide +kernel
theorem dX12_noteNumber_1 : decode cX12_noteNumber 1 = .ok (.ifCond .ne 7, 3) := by decide +kernel
theorem dX12_noteNumber_4 : decode cX12_noteNumber 4 = .ok (.iload_n 1, 1) := by decide +kernel
theorem dX12_noteNumber_5 : decode cX12_noteNumber 5 = .ok (.goto 37, 3) := by decide +kernel
theorem dX12_noteNumber_8 : decode cX12_noteNumber 8 = .ok (.iload_n 2, 1) := by decide +kernel
theorem dX12_noteNumber_9 : decode cX12_noteNumber 9 = .ok (.iconst 1, 1) := by decide +kernel
theorem dX12_noteNumber_10 : decode cX12_noteNumber 10 = .ok (.if_icmp .ne 12, 3) := by decide +kernel
theorem dX12_noteNumber_13 : decode cX12_noteNumber 13 = .ok (.aload_n 0, 1) := by decide +kernel
theorem dX12_noteNumber_14 : decode cX12_noteNumber 14 = .ok (.getfield 78, 3) := by decide +kernel
theorem dX12_noteNumber_17 : decode cX12_noteNumber 17 = .ok (.iload_n 1, 1) := by decide +kernel
theorem dX12_noteNumber_18 : decode cX12_noteNumber 18 = .ok (.iaload, 1) := by decide +kernel
theorem dX12_noteNumber_19 : decode cX12_noteNumber 19 = .ok (.goto 23, 3) := by decide +kernel
theorem dX12_noteNumber_22 : decode cX12_noteNumber 22 = .ok (.iload_n 2, 1) := by decide +kernel
theorem dX12_noteNumber_23 : decode cX12_noteNumber 23 = .ok (.iconst 2, 1) := by decide +kernel
theorem dX12_noteNumber_24 : decode cX12_noteNumber 24 = .ok (.if_icmp .ne 12, 3) := by decide +kernel
theorem dX12_noteNumber_27 : decode cX12_noteNumber 27 = .ok (.aload_n 0, 1) := by decide +kernel
theorem dX12_noteNumber_28 : decode cX12_noteNumber 28 = .ok (.getfield 81, 3) := by decide +kernel
theorem dX12_noteNumber_31 : decode cX12_noteNumber 31 = .ok (.iload_n 1, 1) := by decide +kernel
theorem dX12_noteNumber_32 : decode cX12_noteNumber 32 = .ok (.iaload, 1) := by decide +kernel
theorem dX12_noteNumber_33 : decode cX12_noteNumber 33 = .ok (.goto 9, 3) := by decide +kernel
theorem dX12_noteNumber_36 : decode cX12_noteNumber 36 = .ok (.aload_n 0, 1) := by decide +kernel
theorem dX12_noteNumber_37 : decode cX12_noteNumber 37 = .ok (.getfield 84, 3) := by decide +kernel
theorem dX12_noteNumber_40 : decode cX12_noteNumber 40 = .ok (.iload_n 1, 1) := by decide +kernel
theorem dX12_noteNumber_41 : decode cX12_noteNumber 41 = .ok (.iaload, 1) := by decide +kernel
theorem dX12_noteNumber_42 : decode cX12_noteNumber 42 = .ok (.ireturn, 1) := by decide +kernel
theorem dX12_check_0 : decode cX12_check 0 = .ok (.iload_n 1, 1) := by decide +kernel
theorem dX12_check_1 : decode cX12_check 1 = .ok (.ifCond .lt 14, 3) := by decide +kernel
theorem dX12_check_4 : decode cX12_check 4 = .ok (.iload_n 1, 1) := by decide +kernel
theorem dX12_check_5 : decode cX12_check 5 = .ok (.aload_n 0, 1) := by decide +kernel
theorem dX12_check_6 : decode cX12_check 6 = .ok (.getfield 203, 3) := by decide +kernel
theorem dX12_check_9 : decode cX12_check 9 = .ok (.bipush 16, 2) := by decide +kernel
theorem dX12_check_11 : decode cX12_check 11 = .ok (.idiv, 1) := by decide +kernel
theorem dX12_check_12 : decode cX12_check 12 = .ok (.if_icmp .le 6, 3) := by decide +kernel
theorem dX12_check_15 : decode cX12_check 15 = .ok (.bipush (-2), 2) := by decide +kernel
theorem dX12_check_17 : decode cX12_check 17 = .ok (.ireturn, 1) := by decide +kernel
theorem dX12_check_18 : decode cX12_check 18 = .ok (.aload_n 0, 1) := by decide +kernel
theorem dX12_check_19 : decode cX12_check 19 = .ok (.iconst 0, 1) := by decide +kernel
theorem dX12_check_20 : decode cX12_check 20 = .ok (.putfield 203, 3) := by decide +kernel
theorem dX12_check_23 : decode cX12_check 23 = .ok (.iconst 0, 1) := by decide +kernel
theorem dX12_check_24 : decode cX12_check 24 = .ok (.istore_n 2, 1) := by decide +kernel
theorem dX12_check_25 : decode cX12_check 25 = .ok (.iconst 0, 1) := by decide +kernel
theorem dX12_check_26 : decode cX12_check 26 = .ok (.istore_n 3, 1) := by decide +kernel
theorem dX12_check_27 : decode cX12_check 27 = .ok (.iload_n 3, 1) := by decide +kernel
theorem dX12_check_28 : decode cX12_check 28 = .ok (.aload_n 0, 1) := by decide +kernel
theorem dX12_check_29 : decode cX12_check 29 = .ok (.getfield 328, 3) := by decide +kernel
theorem dX12_check_32 : decode cX12_check 32 = .ok (.if_icmp .ge 71, 3) := by decide +kernel
theorem dX12_check_35 : decode cX12_check 35 = .ok (.aload_n 0, 1) := by decide +kernel
theorem dX12_check_36 : decode cX12_check 36 = .ok (.iload_n 3, 1) := by decide +kernel
theorem dX12_check_37 : decode cX12_check 37 = .ok (.invokevirtual 348, 3) := by decide +kernel
theorem dX12_check_40 : decode cX12_check 40 = .ok (.ifCond .ne 6, 3) := by decide +kernel
theorem dX12_check_43 : decode cX12_check 43 = .ok (.goto 54, 3) := by decide +kernel
theorem dX12_check_46 : decode cX12_check 46 = .ok (.iload_n 2, 1) := by decide +kernel
theorem dX12_check_47 : decode cX12_check 47 = .ok (.iconst 4, 1) := by decide +kernel
theorem dX12_check_48 : decode cX12_check 48 = .ok (.iload_n 1, 1) := by decide +kernel
theorem dX12_check_49 : decode cX12_check 49 = .ok (.imul, 1) := by decide +kernel
theorem dX12_check_50 : decode cX12_check 50 = .ok (.if_icmp .ne 5, 3) := by decide +kernel
theorem dX12_check_53 : decode cX12_check 53 = .ok (.iload_n 2, 1) := by decide +kernel
theorem dX12_check_54 : decode cX12_check 54 = .ok (.ireturn, 1) := by decide +kernel
theorem dX12_check_55 : decode cX12_check 55 = .ok (.iconst 0, 1) := by decide +kernel
theorem dX12_check_56 : decode cX12_check 56 = .ok (.istore 4, 2) := by decide +kernel
theorem dX12_check_58 : decode cX12_check 58 = .ok (.iload 4, 2) := by decide +kernel
theorem dX12_check_60 : decode cX12_check 60 = .ok (.iconst 4, 1) := by decide +kernel
theorem dX12_check_61 : decode cX12_check 61 = .ok (.if_icmp .ge 32, 3) := by decide +kernel
theorem dX12_check_64 : decode cX12_check 64 = .ok (.aload_n 0, 1) := by decide +kernel
theorem dX12_check_65 : decode cX12_check 65 = .ok (.iload_n 2, 1) := by decide +kernel
theorem dX12_check_66 : decode cX12_check 66 = .ok (.iload 4, 2) := by decide +kernel
theorem dX12_check_68 : decode cX12_check 68 = .ok (.iadd, 1) := by decide +kernel
theorem dX12_check_69 : decode cX12_check 69 = .ok (.invokevirtual 463, 3) := by decide +kernel
theorem dX12_check_72 : decode cX12_check 72 = .ok (.aload_n 0, 1) := by decide +kernel
theorem dX12_check_73 : decode cX12_check 73 = .ok (.iload_n 3, 1) := by decide +kernel
theorem dX12_check_74 : decode cX12_check 74 = .ok (.iload 4, 2) := by decide +kernel
theorem dX12_check_76 : decode cX12_check 76 = .ok (.invokevirtual 466, 3) := by decide +kernel
theorem dX12_check_79 : decode cX12_check 79 = .ok (.if_icmp .eq 8, 3) := by decide +kernel
theorem dX12_check_82 : decode cX12_check 82 = .ok (.iload_n 2, 1) := by decide +kernel
theorem dX12_check_83 : decode cX12_check 83 = .ok (.iload 4, 2) := by decide +kernel
theorem dX12_check_85 : decode cX12_check 85 = .ok (.iadd, 1) := by decide +kernel
theorem dX12_check_86 : decode cX12_check 86 = .ok (.ireturn, 1) := by decide +kernel
theorem dX12_check_87 : decode cX12_check 87 = .ok (.iinc 4 1, 3) := by decide +kernel
theorem dX12_check_90 : decode cX12_check 90 = .ok (.goto (-32), 3) := by decide +kernel
theorem dX12_check_93 : decode cX12_check 93 = .ok (.iload_n 2, 1) := by decide +kernel
theorem dX12_check_94 : decode cX12_check 94 = .ok (.iconst 4, 1) := by decide +kernel
theorem dX12_check_95 : decode cX12_check 95 = .ok (.iadd, 1) := by decide +kernel
theorem dX12_check_96 : decode cX12_check 96 = .ok (.istore_n 2, 1) := by decide +kernel
theorem dX12_check_97 : decode cX12_check 97 = .ok (.iinc 3 1, 3) := by decide +kernel
theorem dX12_check_100 : decode cX12_check 100 = .ok (.goto (-73), 3) := by decide +kernel
theorem dX12_check_103 : decode cX12_check 103 = .ok (.iload_n 2, 1) := by decide +kernel
theorem dX12_check_104 : decode cX12_check 104 = .ok (.iconst 4, 1) := by decide +kernel
theorem dX12_check_105 : decode cX12_check 105 = .ok (.iload_n 1, 1) := by decide +kernel
theorem dX12_check_106 : decode cX12_check 106 = .ok (.imul, 1) := by decide +kernel
theorem dX12_check_107 : decode cX12_check 107 = .ok (.if_icmp .ge 7, 3) := by decide +kernel
theorem dX12_check_110 : decode cX12_check 110 = .ok (.iload_n 2, 1) := by decide +kernel
theorem dX12_check_111 : decode cX12_check 111 = .ok (.goto 4, 3) := by decide +kernel
theorem dX12_check_114 : decode cX12_check 114 = .ok (.iconst (-1), 1) := by decide +kernel
theorem dX12_check_115 : decode cX12_check 115 = .ok (.ireturn, 1) := by decide +kernel
theorem dX12_count_0 : decode cX12_count 0 = .ok (.iload_n 1, 1) := by decide +kernel
theorem dX12_count_1 : decode cX12_count 1 = .ok (.tableswitch 78 0 6 #[43, 48, 53, 58, 63, 68, 73], 43) := by decide +kernel
theorem dX12_count_44 : decode cX12_count 44 = .ok (.aload_n 0, 1) := by decide +kernel
theorem dX12_count_45 : decode cX12_count 45 = .ok (.getfield 165, 3) := by decide +kernel
theorem dX12_count_48 : decode cX12_count 48 = .ok (.ireturn, 1) := by decide +kernel
theorem dX12_count_49 : decode cX12_count 49 = .ok (.aload_n 0, 1) := by decide +kernel
theorem dX12_count_50 : decode cX12_count 50 = .ok (.getfield 155, 3) := by decide +kernel
theorem dX12_count_53 : decode cX12_count 53 = .ok (.ireturn, 1) := by decide +kernel
theorem dX12_count_54 : decode cX12_count 54 = .ok (.aload_n 0, 1) := by decide +kernel
theorem dX12_count_55 : decode cX12_count 55 = .ok (.getfield 328, 3) := by decide +kernel
theorem dX12_count_58 : decode cX12_count 58 = .ok (.ireturn, 1) := by decide +kernel
theorem dX12_count_59 : decode cX12_count 59 = .ok (.aload_n 0, 1) := by decide +kernel
theorem dX12_count_60 : decode cX12_count 60 = .ok (.getfield 299, 3) := by decide +kernel
theorem dX12_count_63 : decode cX12_count 63 = .ok (.ireturn, 1) := by decide +kernel
theorem dX12_count_64 : decode cX12_count 64 = .ok (.aload_n 0, 1) := by decide +kernel
theorem dX12_count_65 : decode cX12_count 65 = .ok (.getfield 203, 3) := by decide +kernel
theorem dX12_count_68 : decode cX12_count 68 = .ok (.ireturn, 1) := by decide +kernel
theorem dX12_count_69 : decode cX12_count 69 = .ok (.aload_n 0, 1) := by decide +kernel
theorem dX12_count_70 : decode cX12_count 70 = .ok (.getfield 152, 3) := by decide +kernel
theorem dX12_count_73 : decode cX12_count 73 = .ok (.ireturn, 1) := by decide +kernel
theorem dX12_count_74 : decode cX12_count 74 = .ok (.aload_n 0, 1) := by decide +kernel
theorem dX12_count_75 : decode cX12_count 75 = .ok (.getfield 339, 3) := by decide +kernel
theorem dX12_count_78 : decode cX12_count 78 = .ok (.ireturn, 1) := by decide +kernel
theorem dX12_count_79 : decode cX12_count 79 = .ok (.iload_n 1, 1) := by decide +kernel
theorem dX12_count_80 : decode cX12_count 80 = .ok (.bipush 10, 2) := by decide +kernel
theorem dX12_count_82 : decode cX12_count 82 = .ok (.bipush 17, 2) := by decide +kernel
theorem dX12_count_84 : decode cX12_count 84 = .ok (.invokestatic 168, 3) := by decide +kernel
theorem dX12_count_87 : decode cX12_count 87 = .ok (.ifCond .eq 13, 3) := by decide +kernel
theorem dX12_count_90 : decode cX12_count 90 = .ok (.aload_n 0, 1) := by decide +kernel
theorem dX12_count_91 : decode cX12_count 91 = .ok (.getfield 123, 3) := by decide +kernel
theorem dX12_count_94 : decode cX12_count 94 = .ok (.iload_n 1, 1) := by decide +kernel
theorem dX12_count_95 : decode cX12_count 95 = .ok (.bipush 10, 2) := by decide +kernel
theorem dX12_count_97 : decode cX12_count 97 = .ok (.isub, 1) := by decide +kernel
theorem dX12_count_98 : decode cX12_count 98 = .ok (.iaload, 1) := by decide +kernel
theorem dX12_count_99 : decode cX12_count 99 = .ok (.ireturn, 1) := by decide +kernel
theorem dX12_count_100 : decode cX12_count 100 = .ok (.iload_n 1, 1) := by decide +kernel
theorem dX12_count_101 : decode cX12_count 101 = .ok (.bipush 20, 2) := by decide +kernel
theorem dX12_count_103 : decode cX12_count 103 = .ok (.bipush 19, 2) := by decide +kernel
theorem dX12_count_105 : decode cX12_count 105 = .ok (.aload_n 0, 1) := by decide +kernel
theorem dX12_count_106 : decode cX12_count 106 = .ok (.getfield 155, 3) := by decide +kernel
theorem dX12_count_109 : decode cX12_count 109 = .ok (.iadd, 1) := by decide +kernel
theorem dX12_count_110 : decode cX12_count 110 = .ok (.invokestatic 168, 3) := by decide +kernel
theorem dX12_count_113 : decode cX12_count 113 = .ok (.ifCond .eq 15, 3) := by decide +kernel
theorem dX12_count_116 : decode cX12_count 116 = .ok (.aload_n 0, 1) := by decide +kernel
theorem dX12_count_117 : decode cX12_count 117 = .ok (.getfield 16, 3) := by decide +kernel
theorem dX12_count_120 : decode cX12_count 120 = .ok (.iload_n 1, 1) := by decide +kernel
theorem dX12_count_121 : decode cX12_count 121 = .ok (.bipush 20, 2) := by decide +kernel
theorem dX12_count_123 : decode cX12_count 123 = .ok (.isub, 1) := by decide +kernel
theorem dX12_count_124 : decode cX12_count 124 = .ok (.iaload, 1) := by decide +kernel
theorem dX12_count_125 : decode cX12_count 125 = .ok (.goto 4, 3) := by decide +kernel
theorem dX12_count_128 : decode cX12_count 128 = .ok (.iconst (-1), 1) := by decide +kernel
theorem dX12_count_129 : decode cX12_count 129 = .ok (.ireturn, 1) := by decide +kernel
theorem dJ6_bitCount_0f7a4_0 : decode cJ6_bitCount_0f7a4 0 = .ok (.iload_n 0, 1) := by decide +kernel
theorem dJ6_bitCount_0f7a4_1 : decode cJ6_bitCount_0f7a4 1 = .ok (.iload_n 0, 1) := by decide +kernel
theorem dJ6_bitCount_0f7a4_2 : decode cJ6_bitCount_0f7a4 2 = .ok (.iconst 1, 1) := by decide +kernel
theorem dJ6_bitCount_0f7a4_3 : decode cJ6_bitCount_0f7a4 3 = .ok (.iushr, 1) := by decide +kernel
theorem dJ6_bitCount_0f7a4_4 : decode cJ6_bitCount_0f7a4 4 = .ok (.ldc_w 265, 3) := by decide +kernel
theorem dJ6_bitCount_0f7a4_7 : decode cJ6_bitCount_0f7a4 7 = .ok (.iand, 1) := by decide +kernel
theorem dJ6_bitCount_0f7a4_8 : decode cJ6_bitCount_0f7a4 8 = .ok (.isub, 1) := by decide +kernel
theorem dJ6_bitCount_0f7a4_9 : decode cJ6_bitCount_0f7a4 9 = .ok (.istore_n 0, 1) := by decide +kernel
theorem dJ6_bitCount_0f7a4_10 : decode cJ6_bitCount_0f7a4 10 = .ok (.iload_n 0, 1) := by decide +kernel
theorem dJ6_bitCount_0f7a4_11 : decode cJ6_bitCount_0f7a4 11 = .ok (.ldc_w 266, 3) := by decide +kernel
theorem dJ6_bitCount_0f7a4_14 : decode cJ6_bitCount_0f7a4 14 = .ok (.iand, 1) := by decide +kernel
theorem dJ6_bitCount_0f7a4_15 : decode cJ6_bitCount_0f7a4 15 = .ok (.iload_n 0, 1) := by decide +kernel
theorem dJ6_bitCount_0f7a4_16 : decode cJ6_bitCount_0f7a4 16 = .ok (.iconst 2, 1) := by decide +kernel
theorem dJ6_bitCount_0f7a4_17 : decode cJ6_bitCount_0f7a4 17 = .ok (.iushr, 1) := by decide +kernel
theorem dJ6_bitCount_0f7a4_18 : decode cJ6_bitCount_0f7a4 18 = .ok (.ldc_w 266, 3) := by decide +kernel
theorem dJ6_bitCount_0f7a4_21 : decode cJ6_bitCount_0f7a4 21 = .ok (.iand, 1) := by decide +kernel
theorem dJ6_bitCount_0f7a4_22 : decode cJ6_bitCount_0f7a4 22 = .ok (.iadd, 1) := by decide +kernel
theorem dJ6_bitCount_0f7a4_23 : decode cJ6_bitCount_0f7a4 23 = .ok (.istore_n 0, 1) := by decide +kernel
theorem dJ6_bitCount_0f7a4_24 : decode cJ6_bitCount_0f7a4 24 = .ok (.iload_n 0, 1) := by decide +kernel
theorem dJ6_bitCount_0f7a4_25 : decode cJ6_bitCount_0f7a4 25 = .ok (.iload_n 0, 1) := by decide +kernel
theorem dJ6_bitCount_0f7a4_26 : decode cJ6_bitCount_0f7a4 26 = .ok (.iconst 4, 1) := by decide +kernel
theorem dJ6_bitCount_0f7a4_27 : decode cJ6_bitCount_0f7a4 27 = .ok (.iushr, 1) := by decide +kernel
theorem dJ6_bitCount_0f7a4_28 : decode cJ6_bitCount_0f7a4 28 = .ok (.iadd, 1) := by decide +kernel
theorem dJ6_bitCount_0f7a4_29 : decode cJ6_bitCount_0f7a4 29 = .ok (.ldc_w 267, 3) := by decide +kernel
theorem dJ6_bitCount_0f7a4_32 : decode cJ6_bitCount_0f7a4 32 = .ok (.iand, 1) := by decide +kernel
theorem dJ6_bitCount_0f7a4_33 : decode cJ6_bitCount_0f7a4 33 = .ok (.istore_n 0, 1) := by decide +kernel
theorem dJ6_bitCount_0f7a4_34 : decode cJ6_bitCount_0f7a4 34 = .ok (.iload_n 0, 1) := by decide +kernel
theorem dJ6_bitCount_0f7a4_35 : decode cJ6_bitCount_0f7a4 35 = .ok (.iload_n 0, 1) := by decide +kernel
theorem dJ6_bitCount_0f7a4_36 : decode cJ6_bitCount_0f7a4 36 = .ok (.bipush 8, 2) := by decide +kernel
theorem dJ6_bitCount_0f7a4_38 : decode cJ6_bitCount_0f7a4 38 = .ok (.iushr, 1) := by decide +kernel
theorem dJ6_bitCount_0f7a4_39 : decode cJ6_bitCount_0f7a4 39 = .ok (.iadd, 1) := by decide +kernel
theorem dJ6_bitCount_0f7a4_40 : decode cJ6_bitCount_0f7a4 40 = .ok (.istore_n 0, 1) := by decide +kernel
theorem dJ6_bitCount_0f7a4_41 : decode cJ6_bitCount_0f7a4 41 = .ok (.iload_n 0, 1) := by decide +kernel
theorem dJ6_bitCount_0f7a4_42 : decode cJ6_bitCount_0f7a4 42 = .ok (.iload_n 0, 1) := by decide +kernel
theorem dJ6_bitCount_0f7a4_43 : decode cJ6_bitCount_0f7a4 43 = .ok (.bipush 16, 2) := by decide +kernel
theorem dJ6_bitCount_0f7a4_45 : decode cJ6_bitCount_0f7a4 45 = .ok (.iushr, 1) := by decide +kernel
theorem dJ6_bitCount_0f7a4_46 : decode cJ6_bitCount_0f7a4 46 = .ok (.iadd, 1) := by decide +kernel
theorem dJ6_bitCount_0f7a4_47 : decode cJ6_bitCount_0f7a4 47 = .ok (.istore_n 0, 1) := by decide +kernel
theorem dJ6_bitCount_0f7a4_48 : decode cJ6_bitCount_0f7a4 48 = .ok (.iload_n 0, 1) := by decide +kernel
theorem dJ6_bitCount_0f7a4_49 : decode cJ6_bitCount_0f7a4 49 = .ok (.bipush 63, 2) := by decide +kernel
theorem dJ6_bitCount_0f7a4_51 : decode cJ6_bitCount_0f7a4 51 = .ok (.iand, 1) := by decide +kernel
theorem dJ6_bitCount_0f7a4_52 : decode cJ6_bitCount_0f7a4 52 = .ok (.ireturn, 1) := by decide +kernel
theorem dJ7_fill_d0a16_0 : decode cJ7_fill_d0a16 0 = .ok (.iconst 0, 1) := by decide +kernel
theorem dJ7_fill_d0a16_1 : decode cJ7_fill_d0a16 1 = .ok (.istore_n 3, 1) := by decide +kernel
theorem dJ7_fill_d0a16_2 : decode cJ7_fill_d0a16 2 = .ok (.aload_n 0, 1) := by decide +kernel
theorem dJ7_fill_d0a16_3 : decode cJ7_fill_d0a16 3 = .ok (.arraylength, 1) := by decide +kernel
theorem dJ7_fill_d0a16_4 : decode cJ7_fill_d0a16 4 = .ok (.istore 4, 2) := by decide +kernel
theorem dJ7_fill_d0a16_6 : decode cJ7_fill_d0a16 6 = .ok (.iload_n 3, 1) := by decide +kernel
theorem dJ7_fill_d0a16_7 : decode cJ7_fill_d0a16 7 = .ok (.iload 4, 2) := by decide +kernel
theorem dJ7_fill_d0a16_9 : decode cJ7_fill_d0a16 9 = .ok (.if_icmp .ge 13, 3) := by decide +kernel
theorem dJ7_fill_d0a16_12 : decode cJ7_fill_d0a16 12 = .ok (.aload_n 0, 1) := by decide +kernel
theorem dJ7_fill_d0a16_13 : decode cJ7_fill_d0a16 13 = .ok (.iload_n 3, 1) := by decide +kernel
theorem dJ7_fill_d0a16_14 : decode cJ7_fill_d0a16 14 = .ok (.lload_n 1, 1) := by decide +kernel
theorem dJ7_fill_d0a16_15 : decode cJ7_fill_d0a16 15 = .ok (.lastore, 1) := by decide +kernel
theorem dJ7_fill_d0a16_16 : decode cJ7_fill_d0a16 16 = .ok (.iinc 3 1, 3) := by decide +kernel
theorem dJ7_fill_d0a16_19 : decode cJ7_fill_d0a16 19 = .ok (.goto (-13), 3) := by decide +kernel
theorem dJ7_fill_d0a16_22 : decode cJ7_fill_d0a16 22 = .ok (.return_, 1) := by decide +kernel
theorem dJ7_fill_53178_0 : decode cJ7_fill_53178 0 = .ok (.iconst 0, 1) := by decide +kernel
theorem dJ7_fill_53178_1 : decode cJ7_fill_53178 1 = .ok (.istore_n 2, 1) := by decide +kernel
theorem dJ7_fill_53178_2 : decode cJ7_fill_53178 2 = .ok (.aload_n 0, 1) := by decide +kernel
theorem dJ7_fill_53178_3 : decode cJ7_fill_53178 3 = .ok (.arraylength, 1) := by decide +kernel
theorem dJ7_fill_53178_4 : decode cJ7_fill_53178 4 = .ok (.istore_n 3, 1) := by decide +kernel
theorem dJ7_fill_53178_5 : decode cJ7_fill_53178 5 = .ok (.iload_n 2, 1) := by decide +kernel
theorem dJ7_fill_53178_6 : decode cJ7_fill_53178 6 = .ok (.iload_n 3, 1) := by decide +kernel
theorem dJ7_fill_53178_7 : decode cJ7_fill_53178 7 = .ok (.if_icmp .ge 13, 3) := by decide +kernel
theorem dJ7_fill_53178_10 : decode cJ7_fill_53178 10 = .ok (.aload_n 0, 1) := by decide +kernel
theorem dJ7_fill_53178_11 : decode cJ7_fill_53178 11 = .ok (.iload_n 2, 1) := by decide +kernel
theorem dJ7_fill_53178_12 : decode cJ7_fill_53178 12 = .ok (.iload_n 1, 1) := by decide +kernel
theorem dJ7_fill_53178_13 : decode cJ7_fill_53178 13 = .ok (.iastore, 1) := by decide +kernel
theorem dJ7_fill_53178_14 : decode cJ7_fill_53178 14 = .ok (.iinc 2 1, 3) := by decide +kernel
theorem dJ7_fill_53178_17 : decode cJ7_fill_53178 17 = .ok (.goto (-12), 3) := by decide +kernel
theorem dJ7_fill_53178_20 : decode cJ7_fill_53178 20 = .ok (.return_, 1) := by decide +kernel
