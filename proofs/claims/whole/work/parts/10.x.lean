theorem dX12_in_0 : decode cX12_in 0 = .ok (.iload_n 0, 1) := by decide +kernel
theorem dX12_in_1 : decode cX12_in 1 = .ok (.iload_n 1, 1) := by decide +kernel
theorem dX12_in_2 : decode cX12_in 2 = .ok (.if_icmp .lt 12, 3) := by decide +kernel
theorem dX12_in_5 : decode cX12_in 5 = .ok (.iload_n 0, 1) := by decide +kernel
theorem dX12_in_6 : decode cX12_in 6 = .ok (.iload_n 2, 1) := by decide +kernel
theorem dX12_in_7 : decode cX12_in 7 = .ok (.if_icmp .gt 7, 3) := by decide +kernel
theorem dX12_in_10 : decode cX12_in 10 = .ok (.iconst 1, 1) := by decide +kernel
theorem dX12_in_11 : decode cX12_in 11 = .ok (.goto 4, 3) := by decide +kernel
theorem dX12_in_14 : decode cX12_in 14 = .ok (.iconst 0, 1) := by decide +kernel
theorem dX12_in_15 : decode cX12_in 15 = .ok (.ireturn, 1) := by decide +kernel
theorem dX12_isPerson_0 : decode cX12_isPerson 0 = .ok (.iload_n 0, 1) := by decide +kernel
theorem dX12_isPerson_1 : decode cX12_isPerson 1 = .ok (.ifCond .lt 13, 3) := by decide +kernel
theorem dX12_isPerson_4 : decode cX12_isPerson 4 = .ok (.iload_n 0, 1) := by decide +kernel
theorem dX12_isPerson_5 : decode cX12_isPerson 5 = .ok (.bipush 8, 2) := by decide +kernel
theorem dX12_isPerson_7 : decode cX12_isPerson 7 = .ok (.if_icmp .ge 7, 3) := by decide +kernel
theorem dX12_isPerson_10 : decode cX12_isPerson 10 = .ok (.iconst 1, 1) := by decide +kernel
theorem dX12_isPerson_11 : decode cX12_isPerson 11 = .ok (.goto 4, 3) := by decide +kernel
theorem dX12_isPerson_14 : decode cX12_isPerson 14 = .ok (.iconst 0, 1) := by decide +kernel
theorem dX12_isPerson_15 : decode cX12_isPerson 15 = .ok (.ireturn, 1) := by decide +kernel
theorem dX12_isMeeting_0 : decode cX12_isMeeting 0 = .ok (.iload_n 1, 1) := by decide +kernel
theorem dX12_isMeeting_1 : decode cX12_isMeeting 1 = .ok (.ifCond .lt 15, 3) := by decide +kernel
theorem dX12_isMeeting_4 : decode cX12_isMeeting 4 = .ok (.iload_n 1, 1) := by decide +kernel
theorem dX12_isMeeting_5 : decode cX12_isMeeting 5 = .ok (.aload_n 0, 1) := by decide +kernel
theorem dX12_isMeeting_6 : decode cX12_isMeeting 6 = .ok (.getfield 155, 3) := by decide +kernel
theorem dX12_isMeeting_9 : decode cX12_isMeeting 9 = .ok (.if_icmp .ge 7, 3) := by decide +kernel
theorem dX12_isMeeting_12 : decode cX12_isMeeting 12 = .ok (.iconst 1, 1) := by decide +kernel
theorem dX12_isMeeting_13 : decode cX12_isMeeting 13 = .ok (.goto 4, 3) := by decide +kernel
theorem dX12_isMeeting_16 : decode cX12_isMeeting 16 = .ok (.iconst 0, 1) := by decide +kernel
theorem dX12_isMeeting_17 : decode cX12_isMeeting 17 = .ok (.ireturn, 1) := by decide +kernel
theorem dX12_bits_0 : decode cX12_bits 0 = .ok (.iconst 0, 1) := by decide +kernel
theorem dX12_bits_1 : decode cX12_bits 1 = .ok (.istore_n 1, 1) := by decide +kernel
theorem dX12_bits_2 : decode cX12_bits 2 = .ok (.iconst 0, 1) := by decide +kernel
theorem dX12_bits_3 : decode cX12_bits 3 = .ok (.istore_n 2, 1) := by decide +kernel
theorem dX12_bits_4 : decode cX12_bits 4 = .ok (.iload_n 2, 1) := by decide +kernel
theorem dX12_bits_5 : decode cX12_bits 5 = .ok (.bipush 8, 2) := by decide +kernel
theorem dX12_bits_7 : decode cX12_bits 7 = .ok (.if_icmp .ge 17, 3) := by decide +kernel
theorem dX12_bits_10 : decode cX12_bits 10 = .ok (.iload_n 1, 1) := by decide +kernel
theorem dX12_bits_11 : decode cX12_bits 11 = .ok (.iload_n 0, 1) := by decide +kernel
theorem dX12_bits_12 : decode cX12_bits 12 = .ok (.iload_n 2, 1) := by decide +kernel
theorem dX12_bits_13 : decode cX12_bits 13 = .ok (.ishr, 1) := by decide +kernel
theorem dX12_bits_14 : decode cX12_bits 14 = .ok (.iconst 1, 1) := by decide +kernel
theorem dX12_bits_15 : decode cX12_bits 15 = .ok (.iand, 1) := by decide +kernel
theorem dX12_bits_16 : decode cX12_bits 16 = .ok (.iadd, 1) := by decide +kernel
theorem dX12_bits_17 : decode cX12_bits 17 = .ok (.istore_n 1, 1) := by decide +kernel
theorem dX12_bits_18 : decode cX12_bits 18 = .ok (.iinc 2 1, 3) := by decide +kernel
theorem dX12_bits_21 : decode cX12_bits 21 = .ok (.goto (-17), 3) := by decide +kernel
theorem dX12_bits_24 : decode cX12_bits 24 = .ok (.iload_n 1, 1) := by decide +kernel
theorem dX12_bits_25 : decode cX12_bits 25 = .ok (.ireturn, 1) := by decide +kernel
theorem dX12_lateAt_0 : decode cX12_lateAt 0 = .ok (.aload_n 0, 1) := by decide +kernel
theorem dX12_lateAt_1 : decode cX12_lateAt 1 = .ok (.getfield 22, 3) := by decide +kernel
theorem dX12_lateAt_4 : decode cX12_lateAt 4 = .ok (.bipush 8, 2) := by decide +kernel
theorem dX12_lateAt_6 : decode cX12_lateAt 6 = .ok (.iload_n 1, 1) := by decide +kernel
theorem dX12_lateAt_7 : decode cX12_lateAt 7 = .ok (.imul, 1) := by decide +kernel
theorem dX12_lateAt_8 : decode cX12_lateAt 8 = .ok (.iload_n 2, 1) := by decide +kernel
theorem dX12_lateAt_9 : decode cX12_lateAt 9 = .ok (.iadd, 1) := by decide +kernel
theorem dX12_lateAt_10 : decode cX12_lateAt 10 = .ok (.iaload, 1) := by decide +kernel
theorem dX12_lateAt_11 : decode cX12_lateAt 11 = .ok (.aload_n 0, 1) := by decide +kernel
theorem dX12_lateAt_12 : decode cX12_lateAt 12 = .ok (.getfield 16, 3) := by decide +kernel
theorem dX12_lateAt_15 : decode cX12_lateAt 15 = .ok (.iload_n 1, 1) := by decide +kernel
theorem dX12_lateAt_16 : decode cX12_lateAt 16 = .ok (.iaload, 1) := by decide +kernel
theorem dX12_lateAt_17 : decode cX12_lateAt 17 = .ok (.if_icmp .le 24, 3) := by decide +kernel
theorem dX12_lateAt_20 : decode cX12_lateAt 20 = .ok (.aload_n 0, 1) := by decide +kernel
theorem dX12_lateAt_21 : decode cX12_lateAt 21 = .ok (.getfield 22, 3) := by decide +kernel
theorem dX12_lateAt_24 : decode cX12_lateAt 24 = .ok (.bipush 8, 2) := by decide +kernel
theorem dX12_lateAt_26 : decode cX12_lateAt 26 = .ok (.iload_n 1, 1) := by decide +kernel
theorem dX12_lateAt_27 : decode cX12_lateAt 27 = .ok (.imul, 1) := by decide +kernel
theorem dX12_lateAt_28 : decode cX12_lateAt 28 = .ok (.iload_n 2, 1) := by decide +kernel
theorem dX12_lateAt_29 : decode cX12_lateAt 29 = .ok (.iadd, 1) := by decide +kernel
theorem dX12_lateAt_30 : decode cX12_lateAt 30 = .ok (.iaload, 1) := by decide +kernel
theorem dX12_lateAt_31 : decode cX12_lateAt 31 = .ok (.aload_n 0, 1) := by decide +kernel
theorem dX12_lateAt_32 : decode cX12_lateAt 32 = .ok (.getfield 16, 3) := by decide +kernel
theorem dX12_lateAt_35 : decode cX12_lateAt 35 = .ok (.iload_n 1, 1) := by decide +kernel
theorem dX12_lateAt_36 : decode cX12_lateAt 36 = .ok (.iaload, 1) := by decide +kernel
theorem dX12_lateAt_37 : decode cX12_lateAt 37 = .ok (.isub, 1) := by decide +kernel
theorem dX12_lateAt_38 : decode cX12_lateAt 38 = .ok (.goto 4, 3) := by decide +kernel
theorem dX12_lateAt_41 : decode cX12_lateAt 41 = .ok (.iconst 0, 1) := by decide +kernel
theorem dX12_lateAt_42 : decode cX12_lateAt 42 = .ok (.ireturn, 1) := by decide +kernel
theorem dX12_keepsAt_0 : decode cX12_keepsAt 0 = .ok (.aload_n 0, 1) := by decide +kernel
theorem dX12_keepsAt_1 : decode cX12_keepsAt 1 = .ok (.getfield 22, 3) := by decide +kernel
theorem dX12_keepsAt_4 : decode cX12_keepsAt 4 = .ok (.bipush 8, 2) := by decide +kernel
theorem dX12_keepsAt_6 : decode cX12_keepsAt 6 = .ok (.iload_n 1, 1) := by decide +kernel
theorem dX12_keepsAt_7 : decode cX12_keepsAt 7 = .ok (.imul, 1) := by decide +kernel
theorem dX12_keepsAt_8 : decode cX12_keepsAt 8 = .ok (.iload_n 3, 1) := by decide +kernel
theorem dX12_keepsAt_9 : decode cX12_keepsAt 9 = .ok (.iadd, 1) := by decide +kernel
theorem dX12_keepsAt_10 : decode cX12_keepsAt 10 = .ok (.iaload, 1) := by decide +kernel
theorem dX12_keepsAt_11 : decode cX12_keepsAt 11 = .ok (.aload_n 0, 1) := by decide +kernel
theorem dX12_keepsAt_12 : decode cX12_keepsAt 12 = .ok (.getfield 16, 3) := by decide +kernel
theorem dX12_keepsAt_15 : decode cX12_keepsAt 15 = .ok (.iload_n 1, 1) := by decide +kernel
theorem dX12_keepsAt_16 : decode cX12_keepsAt 16 = .ok (.iaload, 1) := by decide +kernel
theorem dX12_keepsAt_17 : decode cX12_keepsAt 17 = .ok (.if_icmp .le 17, 3) := by decide +kernel
theorem dX12_keepsAt_20 : decode cX12_keepsAt 20 = .ok (.aload_n 0, 1) := by decide +kernel
theorem dX12_keepsAt_21 : decode cX12_keepsAt 21 = .ok (.getfield 22, 3) := by decide +kernel
theorem dX12_keepsAt_24 : decode cX12_keepsAt 24 = .ok (.bipush 8, 2) := by decide +kernel
theorem dX12_keepsAt_26 : decode cX12_keepsAt 26 = .ok (.iload_n 1, 1) := by decide +kernel
theorem dX12_keepsAt_27 : decode cX12_keepsAt 27 = .ok (.imul, 1) := by decide +kernel
theorem dX12_keepsAt_28 : decode cX12_keepsAt 28 = .ok (.iload_n 3, 1) := by decide +kernel
theorem dX12_keepsAt_29 : decode cX12_keepsAt 29 = .ok (.iadd, 1) := by decide +kernel
theorem dX12_keepsAt_30 : decode cX12_keepsAt 30 = .ok (.iaload, 1) := by decide +kernel
theorem dX12_keepsAt_31 : decode cX12_keepsAt 31 = .ok (.goto 9, 3) := by decide +kernel
theorem dX12_keepsAt_34 : decode cX12_keepsAt 34 = .ok (.aload_n 0, 1) := by decide +kernel
theorem dX12_keepsAt_35 : decode cX12_keepsAt 35 = .ok (.getfield 16, 3) := by decide +kernel
theorem dX12_keepsAt_38 : decode cX12_keepsAt 38 = .ok (.iload_n 1, 1) := by decide +kernel
theorem dX12_keepsAt_39 : decode cX12_keepsAt 39 = .ok (.iaload, 1) := by decide +kernel
theorem dX12_keepsAt_40 : decode cX12_keepsAt 40 = .ok (.istore 4, 2) := by decide +kernel
theorem dX12_keepsAt_42 : decode cX12_keepsAt 42 = .ok (.aload_n 0, 1) := by decide +kernel
theorem dX12_keepsAt_43 : decode cX12_keepsAt 43 = .ok (.getfield 22, 3) := by decide +kernel
theorem dX12_keepsAt_46 : decode cX12_keepsAt 46 = .ok (.bipush 8, 2) := by decide +kernel
theorem dX12_keepsAt_48 : decode cX12_keepsAt 48 = .ok (.iload_n 1, 1) := by decide +kernel
theorem dX12_keepsAt_49 : decode cX12_keepsAt 49 = .ok (.imul, 1) := by decide +kernel
theorem dX12_keepsAt_50 : decode cX12_keepsAt 50 = .ok (.iload_n 2, 1) := by decide +kernel
theorem dX12_keepsAt_51 : decode cX12_keepsAt 51 = .ok (.iadd, 1) := by decide +kernel
theorem dX12_keepsAt_52 : decode cX12_keepsAt 52 = .ok (.iaload, 1) := by decide +kernel
theorem dX12_keepsAt_53 : decode cX12_keepsAt 53 = .ok (.iload 4, 2) := by decide +kernel
theorem dX12_keepsAt_55 : decode cX12_keepsAt 55 = .ok (.if_icmp .le 20, 3) := by decide +kernel
theorem dX12_keepsAt_58 : decode cX12_keepsAt 58 = .ok (.aload_n 0, 1) := by decide +kernel
theorem dX12_keepsAt_59 : decode cX12_keepsAt 59 = .ok (.getfield 22, 3) := by decide +kernel
theorem dX12_keepsAt_62 : decode cX12_keepsAt 62 = .ok (.bipush 8, 2) := by decide +kernel
theorem dX12_keepsAt_64 : decode cX12_keepsAt 64 = .ok (.iload_n 1, 1) := by decide +kernel
theorem dX12_keepsAt_65 : decode cX12_keepsAt 65 = .ok (.imul, 1) := by decide +kernel
theorem dX12_keepsAt_66 : decode cX12_keepsAt 66 = .ok (.iload_n 2, 1) := by decide +kernel
theorem dX12_keepsAt_67 : decode cX12_keepsAt 67 = .ok (.iadd, 1) := by decide +kernel
theorem dX12_keepsAt_68 : decode cX12_keepsAt 68 = .ok (.iaload, 1) := by decide +kernel
theorem dX12_keepsAt_69 : decode cX12_keepsAt 69 = .ok (.iload 4, 2) := by decide +kernel
theorem dX12_keepsAt_71 : decode cX12_keepsAt 71 = .ok (.isub, 1) := by decide +kernel
theorem dX12_keepsAt_72 : decode cX12_keepsAt 72 = .ok (.goto 4, 3) := by decide +kernel
theorem dX12_keepsAt_75 : decode cX12_keepsAt 75 = .ok (.iconst 0, 1) := by decide +kernel
theorem dX12_keepsAt_76 : decode cX12_keepsAt 76 = .ok (.ireturn, 1) := by decide +kernel
theorem dX12_here_0 : decode cX12_here 0 = .ok (.aload_n 0, 1) := by decide +kernel
theorem dX12_here_1 : decode cX12_here 1 = .ok (.getfield 210, 3) := by decide +kernel
theorem dX12_here_4 : decode cX12_here 4 = .ok (.aload_n 0, 1) := by decide +kernel
theorem dX12_here_5 : decode cX12_here 5 = .ok (.getfield 213, 3) := by decide +kernel
theorem dX12_here_8 : decode cX12_here 8 = .ok (.if_icmp .ge 19, 3) := by decide +kernel
theorem dX12_here_11 : decode cX12_here 11 = .ok (.aload_n 0, 1) := by decide +kernel
theorem dX12_here_12 : decode cX12_here 12 = .ok (.getfield 29, 3) := by decide +kernel
theorem dX12_here_15 : decode cX12_here 15 = .ok (.aload_n 0, 1) := by decide +kernel
theorem dX12_here_16 : decode cX12_here 16 = .ok (.getfield 210, 3) := by decide +kernel
theorem dX12_here_19 : decode cX12_here 19 = .ok (.baload, 1) := by decide +kernel
theorem dX12_here_20 : decode cX12_here 20 = .ok (.sipush 255, 3) := by decide +kernel
theorem dX12_here_23 : decode cX12_here 23 = .ok (.iand, 1) := by decide +kernel
theorem dX12_here_24 : decode cX12_here 24 = .ok (.goto 4, 3) := by decide +kernel
theorem dX12_here_27 : decode cX12_here 27 = .ok (.iconst (-1), 1) := by decide +kernel
theorem dX12_here_28 : decode cX12_here 28 = .ok (.ireturn, 1) := by decide +kernel
theorem dX12_factOf_0 : decode cX12_factOf 0 = .ok (.iload_n 0, 1) := by decide +kernel
theorem dX12_factOf_1 : decode cX12_factOf 1 = .ok (.tableswitch 145 97 121 #[117, 119, 145, 133, 145, 145, 123, 130, 145, 145, 125, 145, 145, 121, 145, 145, 145, 127, 145, 145, 145, 142, 115, 136, 139], 115) := by decide +kernel
theorem dX12_factOf_116 : decode cX12_factOf 116 = .ok (.iconst 0, 1) := by decide +kernel
theorem dX12_factOf_117 : decode cX12_factOf 117 = .ok (.ireturn, 1) := by decide +kernel
theorem dX12_factOf_118 : decode cX12_factOf 118 = .ok (.iconst 1, 1) := by decide +kernel
theorem dX12_factOf_119 : decode cX12_factOf 119 = .ok (.ireturn, 1) := by decide +kernel
theorem dX12_factOf_120 : decode cX12_factOf 120 = .ok (.iconst 2, 1) := by decide +kernel
theorem dX12_factOf_121 : decode cX12_factOf 121 = .ok (.ireturn, 1) := by decide +kernel
theorem dX12_factOf_122 : decode cX12_factOf 122 = .ok (.iconst 3, 1) := by decide +kernel
theorem dX12_factOf_123 : decode cX12_factOf 123 = .ok (.ireturn, 1) := by decide +kernel
theorem dX12_factOf_124 : decode cX12_factOf 124 = .ok (.iconst 4, 1) := by decide +kernel
theorem dX12_factOf_125 : decode cX12_factOf 125 = .ok (.ireturn, 1) := by decide +kernel
theorem dX12_factOf_126 : decode cX12_factOf 126 = .ok (.iconst 5, 1) := by decide +kernel
theorem dX12_factOf_127 : decode cX12_factOf 127 = .ok (.ireturn, 1) := by decide +kernel
theorem dX12_factOf_128 : decode cX12_factOf 128 = .ok (.bipush 6, 2) := by decide +kernel
theorem dX12_factOf_130 : decode cX12_factOf 130 = .ok (.ireturn, 1) := by decide +kernel
theorem dX12_factOf_131 : decode cX12_factOf 131 = .ok (.bipush 7, 2) := by decide +kernel
theorem dX12_factOf_133 : decode cX12_factOf 133 = .ok (.ireturn, 1) := by decide +kernel
theorem dX12_factOf_134 : decode cX12_factOf 134 = .ok (.bipush 8, 2) := by decide +kernel
theorem dX12_factOf_136 : decode cX12_factOf 136 = .ok (.ireturn, 1) := by decide +kernel
theorem dX12_factOf_137 : decode cX12_factOf 137 = .ok (.bipush 9, 2) := by decide +kernel
theorem dX12_factOf_139 : decode cX12_factOf 139 = .ok (.ireturn, 1) := by decide +kernel
theorem dX12_factOf_140 : decode cX12_factOf 140 = .ok (.bipush 10, 2) := by decide +kernel
theorem dX12_factOf_142 : decode cX12_factOf 142 = .ok (.ireturn, 1) := by decide +kernel
theorem dX12_factOf_143 : decode cX12_factOf 143 = .ok (.bipush 11, 2) := by decide +kernel
theorem dX12_factOf_145 : decode cX12_factOf 145 = .ok (.ireturn, 1) := by decide +kernel
theorem dX12_factOf_146 : decode cX12_factOf 146 = .ok (.iconst (-1), 1) := by decide +kernel
theorem dX12_factOf_147 : decode cX12_factOf 147 = .ok (.ireturn, 1) := by decide +kernel
theorem dX12_hasOpenSum_0 : decode cX12_hasOpenSum 0 = .ok (.iload_n 1, 1) := by decide +kernel
theorem dX12_hasOpenSum_1 : decode cX12_hasOpenSum 1 = .ok (.istore_n 2, 1) := by decide +kernel
theorem dX12_hasOpenSum_2 : decode cX12_hasOpenSum 2 = .ok (.iload_n 2, 1) := by decide +kernel
theorem dX12_hasOpenSum_3 : decode cX12_hasOpenSum 3 = .ok (.aload_n 0, 1) := by decide +kernel
theorem dX12_hasOpenSum_4 : decode cX12_hasOpenSum 4 = .ok (.getfield 240, 3) := by decide +kernel
theorem dX12_hasOpenSum_7 : decode cX12_hasOpenSum 7 = .ok (.if_icmp .ge 25, 3) := by decide +kernel
theorem dX12_hasOpenSum_10 : decode cX12_hasOpenSum 10 = .ok (.aload_n 0, 1) := by decide +kernel
theorem dX12_hasOpenSum_11 : decode cX12_hasOpenSum 11 = .ok (.getfield 36, 3) := by decide +kernel
theorem dX12_hasOpenSum_14 : decode cX12_hasOpenSum 14 = .ok (.iload_n 2, 1) := by decide +kernel
theorem dX12_hasOpenSum_15 : decode cX12_hasOpenSum 15 = .ok (.iaload, 1) := by decide +kernel
theorem dX12_hasOpenSum_16 : decode cX12_hasOpenSum 16 = .ok (.ldc 236, 2) := by decide +kernel
theorem dX12_hasOpenSum_18 : decode cX12_hasOpenSum 18 = .ok (.idiv, 1) := by decide +kernel
theorem dX12_hasOpenSum_19 : decode cX12_hasOpenSum 19 = .ok (.bipush 14, 2) := by decide +kernel
theorem dX12_hasOpenSum_21 : decode cX12_hasOpenSum 21 = .ok (.if_icmp .ne 5, 3) := by decide +kernel
theorem dX12_hasOpenSum_24 : decode cX12_hasOpenSum 24 = .ok (.iconst 1, 1) := by decide +kernel
theorem dX12_hasOpenSum_25 : decode cX12_hasOpenSum 25 = .ok (.ireturn, 1) := by decide +kernel
theorem dX12_hasOpenSum_26 : decode cX12_hasOpenSum 26 = .ok (.iinc 2 1, 3) := by decide +kernel
theorem dX12_hasOpenSum_29 : decode cX12_hasOpenSum 29 = .ok (.goto (-27), 3) := by decide +kernel
theorem dX12_hasOpenSum_32 : decode cX12_hasOpenSum 32 = .ok (.iconst 0, 1) := by decide +kernel
theorem dX12_hasOpenSum_33 : decode cX12_hasOpenSum 33 = .ok (.ireturn, 1) := by decide +kernel
theorem dX12_makes_0 : decode cX12_makes 0 = .ok (.aload_n 0, 1) := by decide +kernel
theorem dX12_makes_1 : decode cX12_makes 1 = .ok (.getfield 78, 3) := by decide +kernel
theorem dX12_makes_4 : decode cX12_makes 4 = .ok (.aload_n 0, 1) := by decide +kernel
theorem dX12_makes_5 : decode cX12_makes 5 = .ok (.getfield 328, 3) := by decide +kernel
theorem dX12_makes_8 : decode cX12_makes 8 = .ok (.iload_n 1, 1) := by decide +kernel
theorem dX12_makes_9 : decode cX12_makes 9 = .ok (.iastore, 1) := by decide +kernel
theorem dX12_makes_10 : decode cX12_makes 10 = .ok (.aload_n 0, 1) := by decide +kernel
theorem dX12_makes_11 : decode cX12_makes 11 = .ok (.getfield 81, 3) := by decide +kernel
theorem dX12_makes_14 : decode cX12_makes 14 = .ok (.aload_n 0, 1) := by decide +kernel
theorem dX12_makes_15 : decode cX12_makes 15 = .ok (.getfield 328, 3) := by decide +kernel
theorem dX12_makes_18 : decode cX12_makes 18 = .ok (.iload_n 2, 1) := by decide +kernel
theorem dX12_makes_19 : decode cX12_makes 19 = .ok (.iastore, 1) := by decide +kernel
theorem dX12_makes_20 : decode cX12_makes 20 = .ok (.aload_n 0, 1) := by decide +kernel
theorem dX12_makes_21 : decode cX12_makes 21 = .ok (.getfield 84, 3) := by decide +kernel
theorem dX12_makes_24 : decode cX12_makes 24 = .ok (.aload_n 0, 1) := by decide +kernel
theorem dX12_makes_25 : decode cX12_makes 25 = .ok (.getfield 328, 3) := by decide +kernel
theorem dX12_makes_28 : decode cX12_makes 28 = .ok (.iload_n 3, 1) := by decide +kernel
theorem dX12_makes_29 : decode cX12_makes 29 = .ok (.iastore, 1) := by decide +kernel
theorem dX12_makes_30 : decode cX12_makes 30 = .ok (.aload_n 0, 1) := by decide +kernel
theorem dX12_makes_31 : decode cX12_makes 31 = .ok (.getfield 87, 3) := by decide +kernel
theorem dX12_makes_34 : decode cX12_makes 34 = .ok (.aload_n 0, 1) := by decide +kernel
theorem dX12_makes_35 : decode cX12_makes 35 = .ok (.getfield 328, 3) := by decide +kernel
theorem dX12_makes_38 : decode cX12_makes 38 = .ok (.iload 4, 2) := by decide +kernel
theorem dX12_makes_40 : decode cX12_makes 40 = .ok (.iastore, 1) := by decide +kernel
theorem dX12_makes_41 : decode cX12_makes 41 = .ok (.aload_n 0, 1) := by decide +kernel
theorem dX12_makes_42 : decode cX12_makes 42 = .ok (.getfield 90, 3) := by decide +kernel
theorem dX12_makes_45 : decode cX12_makes 45 = .ok (.aload_n 0, 1) := by decide +kernel
theorem dX12_makes_46 : decode cX12_makes 46 = .ok (.getfield 328, 3) := by decide +kernel
theorem dX12_makes_49 : decode cX12_makes 49 = .ok (.iload 5, 2) := by decide +kernel
theorem dX12_makes_51 : decode cX12_makes 51 = .ok (.iastore, 1) := by decide +kernel
theorem dX12_makes_52 : decode cX12_makes 52 = .ok (.aload_n 0, 1) := by decide +kernel
theorem dX12_makes_53 : decode cX12_makes 53 = .ok (.aload_n 0, 1) := by decide +kernel
theorem dX12_makes_54 : decode cX12_makes 54 = .ok (.getfield 328, 3) := by decide +kernel
theorem dX12_makes_57 : decode cX12_makes 57 = .ok (.iconst 1, 1) := by decide +kernel
theorem dX12_makes_58 : decode cX12_makes 58 = .ok (.iadd, 1) := by decide +kernel
theorem dX12_makes_59 : decode cX12_makes 59 = .ok (.putfield 328, 3) := by decide +kernel
theorem dX12_makes_62 : decode cX12_makes 62 = .ok (.return_, 1) := by decide +kernel
theorem dX12_isNote_0 : decode cX12_isNote 0 = .ok (.iload_n 1, 1) := by decide +kernel
theorem dX12_isNote_1 : decode cX12_isNote 1 = .ok (.ifCond .lt 15, 3) := by decide +kernel
theorem dX12_isNote_4 : decode cX12_isNote 4 = .ok (.iload_n 1, 1) := by decide +kernel
theorem dX12_isNote_5 : decode cX12_isNote 5 = .ok (.aload_n 0, 1) := by decide +kernel
theorem dX12_isNote_6 : decode cX12_isNote 6 = .ok (.getfield 328, 3) := by decide +kernel
theorem dX12_isNote_9 : decode cX12_isNote 9 = .ok (.if_icmp .ge 7, 3) := by decide +kernel
theorem dX12_isNote_12 : decode cX12_isNote 12 = .ok (.iconst 1, 1) := by decide +kernel
theorem dX12_isNote_13 : decode cX12_isNote 13 = .ok (.goto 4, 3) := by decide +kernel
theorem dX12_isNote_16 : decode cX12_isNote 16 = .ok (.iconst 0, 1) := by decide +kernel
theorem dX12_isNote_17 : decode cX12_isNote 17 = .ok (.ireturn, 1) := by decide +kernel
theorem dX12_isLiveOn_0 : decode cX12_isLiveOn 0 = .ok (.aload_n 0, 1) := by decide +kernel
theorem dX12_isLiveOn_1 : decode cX12_isLiveOn 1 = .ok (.getfield 84, 3) := by decide +kernel
theorem dX12_isLiveOn_4 : decode cX12_isLiveOn 4 = .ok (.iload_n 1, 1) := by decide +kernel
theorem dX12_isLiveOn_5 : decode cX12_isLiveOn 5 = .ok (.iaload, 1) := by decide +kernel
theorem dX12_isLiveOn_6 : decode cX12_isLiveOn 6 = .ok (.ifCond .le 27, 3) := by decide +kernel
theorem dX12_isLiveOn_9 : decode cX12_isLiveOn 9 = .ok (.aload_n 0, 1) := by decide +kernel
theorem dX12_isLiveOn_10 : decode cX12_isLiveOn 10 = .ok (.getfield 90, 3) := by decide +kernel
theorem dX12_isLiveOn_13 : decode cX12_isLiveOn 13 = .ok (.iload_n 1, 1) := by decide +kernel
theorem dX12_isLiveOn_14 : decode cX12_isLiveOn 14 = .ok (.iaload, 1) := by decide +kernel
theorem dX12_isLiveOn_15 : decode cX12_isLiveOn 15 = .ok (.iconst (-1), 1) := by decide +kernel
theorem dX12_isLiveOn_16 : decode cX12_isLiveOn 16 = .ok (.if_icmp .eq 13, 3) := by decide +kernel
theorem dX12_isLiveOn_19 : decode cX12_isLiveOn 19 = .ok (.iload_n 2, 1) := by decide +kernel
theorem dX12_isLiveOn_20 : decode cX12_isLiveOn 20 = .ok (.aload_n 0, 1) := by decide +kernel
theorem dX12_isLiveOn_21 : decode cX12_isLiveOn 21 = .ok (.getfield 90, 3) := by decide +kernel
theorem dX12_isLiveOn_24 : decode cX12_isLiveOn 24 = .ok (.iload_n 1, 1) := by decide +kernel
theorem dX12_isLiveOn_25 : decode cX12_isLiveOn 25 = .ok (.iaload, 1) := by decide +kernel
theorem dX12_isLiveOn_26 : decode cX12_isLiveOn 26 = .ok (.if_icmp .ge 7, 3) := by decide +kernel
theorem dX12_isLiveOn_29 : decode cX12_isLiveOn 29 = .ok (.iconst 1, 1) := by decide +kernel
theorem dX12_isLiveOn_30 : decode cX12_isLiveOn 30 = .ok (.goto 4, 3) := by decide +kernel
theorem dX12_isLiveOn_33 : decode cX12_isLiveOn 33 = .ok (.iconst 0, 1) := by decide +kernel
theorem dX12_isLiveOn_34 : decode cX12_isLiveOn 34 = .ok (.ireturn, 1) := by decide +kernel
theorem dX12_dearest_0 : decode cX12_dearest 0 = .ok (.iconst (-1), 1) := by decide +kernel
theorem dX12_dearest_1 : decode cX12_dearest 1 = .ok (.istore_n 3, 1) := by decide +kernel
theorem dX12_dearest_2 : decode cX12_dearest 2 = .ok (.iconst 0, 1) := by decide +kernel
theorem dX12_dearest_3 : decode cX12_dearest 3 = .ok (.istore 4, 2) := by decide +kernel
theorem dX12_dearest_5 : decode cX12_dearest 5 = .ok (.iload 4, 2) := by decide +kernel
theorem dX12_dearest_7 : decode cX12_dearest 7 = .ok (.bipush 24, 2) := by decide +kernel
theorem dX12_dearest_9 : decode cX12_dearest 9 = .ok (.iload_n 2, 1) := by decide +kernel
theorem dX12_dearest_10 : decode cX12_dearest 10 = .ok (.imul, 1) := by decide +kernel
theorem dX12_dearest_11 : decode cX12_dearest 11 = .ok (.if_icmp .ge 59, 3) := by decide +kernel
theorem dX12_dearest_14 : decode cX12_dearest 14 = .ok (.aload_n 0, 1) := by decide +kernel
theorem dX12_dearest_15 : decode cX12_dearest 15 = .ok (.getfield 102, 3) := by decide +kernel
theorem dX12_dearest_18 : decode cX12_dearest 18 = .ok (.iload 4, 2) := by decide +kernel
theorem dX12_dearest_20 : decode cX12_dearest 20 = .ok (.baload, 1) := by decide +kernel
theorem dX12_dearest_21 : decode cX12_dearest 21 = .ok (.ifCond .ne 43, 3) := by decide +kernel
theorem dX12_dearest_24 : decode cX12_dearest 24 = .ok (.iload_n 3, 1) := by decide +kernel
theorem dX12_dearest_25 : decode cX12_dearest 25 = .ok (.iconst (-1), 1) := by decide +kernel
theorem dX12_dearest_26 : decode cX12_dearest 26 = .ok (.if_icmp .eq 35, 3) := by decide +kernel
theorem dX12_dearest_29 : decode cX12_dearest 29 = .ok (.aload_n 0, 1) := by decide +kernel
theorem dX12_dearest_30 : decode cX12_dearest 30 = .ok (.getfield 7, 3) := by decide +kernel
theorem dX12_dearest_33 : decode cX12_dearest 33 = .ok (.bipush 24, 2) := by decide +kernel
theorem dX12_dearest_35 : decode cX12_dearest 35 = .ok (.iload_n 1, 1) := by decide +kernel
theorem dX12_dearest_36 : decode cX12_dearest 36 = .ok (.imul, 1) := by decide +kernel
theorem dX12_dearest_37 : decode cX12_dearest 37 = .ok (.iload 4, 2) := by decide +kernel
theorem dX12_dearest_39 : decode cX12_dearest 39 = .ok (.bipush 24, 2) := by decide +kernel
theorem dX12_dearest_41 : decode cX12_dearest 41 = .ok (.irem, 1) := by decide +kernel
theorem dX12_dearest_42 : decode cX12_dearest 42 = .ok (.iadd, 1) := by decide +kernel
theorem dX12_dearest_43 : decode cX12_dearest 43 = .ok (.iaload, 1) := by decide +kernel
theorem dX12_dearest_44 : decode cX12_dearest 44 = .ok (.aload_n 0, 1) := by decide +kernel
theorem dX12_dearest_45 : decode cX12_dearest 45 = .ok (.getfield 7, 3) := by decide +kernel
theorem dX12_dearest_48 : decode cX12_dearest 48 = .ok (.bipush 24, 2) := by decide +kernel
theorem dX12_dearest_50 : decode cX12_dearest 50 = .ok (.iload_n 1, 1) := by decide +kernel
theorem dX12_dearest_51 : decode cX12_dearest 51 = .ok (.imul, 1) := by decide +kernel
theorem dX12_dearest_52 : decode cX12_dearest 52 = .ok (.iload_n 3, 1) := by decide +kernel
theorem dX12_dearest_53 : decode cX12_dearest 53 = .ok (.bipush 24, 2) := by decide +kernel
theorem dX12_dearest_55 : decode cX12_dearest 55 = .ok (.irem, 1) := by decide +kernel
theorem dX12_dearest_56 : decode cX12_dearest 56 = .ok (.iadd, 1) := by decide +kernel
theorem dX12_dearest_57 : decode cX12_dearest 57 = .ok (.iaload, 1) := by decide +kernel
theorem dX12_dearest_58 : decode cX12_dearest 58 = .ok (.if_icmp .le 6, 3) := by decide +kernel
theorem dX12_dearest_61 : decode cX12_dearest 61 = .ok (.iload 4, 2) := by decide +kernel
theorem dX12_dearest_63 : decode cX12_dearest 63 = .ok (.istore_n 3, 1) := by decide +kernel
theorem dX12_dearest_64 : decode cX12_dearest 64 = .ok (.iinc 4 1, 3) := by decide +kernel
theorem dX12_dearest_67 : decode cX12_dearest 67 = .ok (.goto (-62), 3) := by decide +kernel
theorem dX12_dearest_70 : decode cX12_dearest 70 = .ok (.iload_n 3, 1) := by decide +kernel
theorem dX12_dearest_71 : decode cX12_dearest 71 = .ok (.ireturn, 1) := by decide +kernel
theorem dX12_isCrossing_0 : decode cX12_isCrossing 0 = .ok (.aload_n 0, 1) := by decide +kernel
theorem dX12_isCrossing_1 : decode cX12_isCrossing 1 = .ok (.getfield 380, 3) := by decide +kernel
theorem dX12_isCrossing_4 : decode cX12_isCrossing 4 = .ok (.iload_n 1, 1) := by decide +kernel
theorem dX12_isCrossing_5 : decode cX12_isCrossing 5 = .ok (.ishr, 1) := by decide +kernel
theorem dX12_isCrossing_6 : decode cX12_isCrossing 6 = .ok (.iconst 1, 1) := by decide +kernel
theorem dX12_isCrossing_7 : decode cX12_isCrossing 7 = .ok (.iand, 1) := by decide +kernel
theorem dX12_isCrossing_8 : decode cX12_isCrossing 8 = .ok (.iconst 1, 1) := by decide +kernel
theorem dX12_isCrossing_9 : decode cX12_isCrossing 9 = .ok (.if_icmp .ne 7, 3) := by decide +kernel
theorem dX12_isCrossing_12 : decode cX12_isCrossing 12 = .ok (.iconst 1, 1) := by decide +kernel
theorem dX12_isCrossing_13 : decode cX12_isCrossing 13 = .ok (.goto 4, 3) := by decide +kernel
theorem dX12_isCrossing_16 : decode cX12_isCrossing 16 = .ok (.iconst 0, 1) := by decide +kernel
theorem dX12_isCrossing_17 : decode cX12_isCrossing 17 = .ok (.ireturn, 1) := by decide +kernel
theorem dX12_endsOf_0 : decode cX12_endsOf 0 = .ok (.aload_n 0, 1) := by decide +kernel
theorem dX12_endsOf_1 : decode cX12_endsOf 1 = .ok (.getfield 123, 3) := by decide +kernel
theorem dX12_endsOf_4 : decode cX12_endsOf 4 = .ok (.iload_n 1, 1) := by decide +kernel
theorem dX12_endsOf_5 : decode cX12_endsOf 5 = .ok (.iaload, 1) := by decide +kernel
theorem dX12_endsOf_6 : decode cX12_endsOf 6 = .ok (.ifCond .ne 7, 3) := by decide +kernel
theorem dX12_endsOf_9 : decode cX12_endsOf 9 = .ok (.iconst 1, 1) := by decide +kernel
theorem dX12_endsOf_10 : decode cX12_endsOf 10 = .ok (.goto 9, 3) := by decide +kernel
theorem dX12_endsOf_13 : decode cX12_endsOf 13 = .ok (.aload_n 0, 1) := by decide +kernel
theorem dX12_endsOf_14 : decode cX12_endsOf 14 = .ok (.getfield 123, 3) := by decide +kernel
theorem dX12_endsOf_17 : decode cX12_endsOf 17 = .ok (.iload_n 1, 1) := by decide +kernel
theorem dX12_endsOf_18 : decode cX12_endsOf 18 = .ok (.iaload, 1) := by decide +kernel
theorem dX12_endsOf_19 : decode cX12_endsOf 19 = .ok (.ireturn, 1) := by decide +kernel
theorem dX12_bridgeWeight_0 : decode cX12_bridgeWeight 0 = .ok (.iload_n 1, 1) := by decide +kernel
theorem dX12_bridgeWeight_1 : decode cX12_bridgeWeight 1 = .ok (.ifCond .eq 10, 3) := by decide +kernel
theorem dX12_bridgeWeight_4 : decode cX12_bridgeWeight 4 = .ok (.aload_n 0, 1) := by decide +kernel
theorem dX12_bridgeWeight_5 : decode cX12_bridgeWeight 5 = .ok (.getfield 374, 3) := by decide +kernel
theorem dX12_bridgeWeight_8 : decode cX12_bridgeWeight 8 = .ok (.goto 12, 3) := by decide +kernel
theorem dX12_bridgeWeight_11 : decode cX12_bridgeWeight 11 = .ok (.aload_n 0, 1) := by decide +kernel
theorem dX12_bridgeWeight_12 : decode cX12_bridgeWeight 12 = .ok (.getfield 148, 3) := by decide +kernel
theorem dX12_bridgeWeight_15 : decode cX12_bridgeWeight 15 = .ok (.aload_n 0, 1) := by decide +kernel
theorem dX12_bridgeWeight_16 : decode cX12_bridgeWeight 16 = .ok (.getfield 374, 3) := by decide +kernel
theorem dX12_bridgeWeight_19 : decode cX12_bridgeWeight 19 = .ok (.isub, 1) := by decide +kernel
theorem dX12_bridgeWeight_20 : decode cX12_bridgeWeight 20 = .ok (.ireturn, 1) := by decide +kernel
theorem dX12_gcd_0 : decode cX12_gcd 0 = .ok (.iload_n 0, 1) := by decide +kernel
theorem dX12_gcd_1 : decode cX12_gcd 1 = .ok (.istore_n 2, 1) := by decide +kernel
theorem dX12_gcd_2 : decode cX12_gcd 2 = .ok (.iload_n 1, 1) := by decide +kernel
theorem dX12_gcd_3 : decode cX12_gcd 3 = .ok (.istore_n 3, 1) := by decide +kernel
theorem dX12_gcd_4 : decode cX12_gcd 4 = .ok (.iload_n 3, 1) := by decide +kernel
theorem dX12_gcd_5 : decode cX12_gcd 5 = .ok (.ifCond .eq 16, 3) := by decide +kernel
theorem dX12_gcd_8 : decode cX12_gcd 8 = .ok (.iload_n 2, 1) := by decide +kernel
theorem dX12_gcd_9 : decode cX12_gcd 9 = .ok (.iload_n 3, 1) := by decide +kernel
theorem dX12_gcd_10 : decode cX12_gcd 10 = .ok (.irem, 1) := by decide +kernel
theorem dX12_gcd_11 : decode cX12_gcd 11 = .ok (.istore 4, 2) := by decide +kernel
theorem dX12_gcd_13 : decode cX12_gcd 13 = .ok (.iload_n 3, 1) := by decide +kernel
theorem dX12_gcd_14 : decode cX12_gcd 14 = .ok (.istore_n 2, 1) := by decide +kernel
theorem dX12_gcd_15 : decode cX12_gcd 15 = .ok (.iload 4, 2) := by decide +kernel
theorem dX12_gcd_17 : decode cX12_gcd 17 = .ok (.istore_n 3, 1) := by decide +kernel
theorem dX12_gcd_18 : decode cX12_gcd 18 = .ok (.goto (-14), 3) := by decide +kernel
theorem dX12_gcd_21 : decode cX12_gcd 21 = .ok (.iload_n 2, 1) := by decide +kernel
theorem dX12_gcd_22 : decode cX12_gcd 22 = .ok (.ireturn, 1) := by decide +kernel
theorem dX12_dayCost_0 : decode cX12_dayCost 0 = .ok (.aload_n 0, 1) := by decide +kernel
theorem dX12_dayCost_1 : decode cX12_dayCost 1 = .ok (.getfield 16, 3) := by decide +kernel
theorem dX12_dayCost_4 : decode cX12_dayCost 4 = .ok (.iload_n 1, 1) := by decide +kernel
theorem dX12_dayCost_5 : decode cX12_dayCost 5 = .ok (.iaload, 1) := by decide +kernel
theorem dX12_dayCost_6 : decode cX12_dayCost 6 = .ok (.istore 4, 2) := by decide +kernel
theorem dX12_dayCost_8 : decode cX12_dayCost 8 = .ok (.iconst 0, 1) := by decide +kernel
theorem dX12_dayCost_9 : decode cX12_dayCost 9 = .ok (.istore 5, 2) := by decide +kernel
theorem dX12_dayCost_11 : decode cX12_dayCost 11 = .ok (.iload 5, 2) := by decide +kernel
theorem dX12_dayCost_13 : decode cX12_dayCost 13 = .ok (.aload_n 0, 1) := by decide +kernel
theorem dX12_dayCost_14 : decode cX12_dayCost 14 = .ok (.getfield 439, 3) := by decide +kernel
theorem dX12_dayCost_17 : decode cX12_dayCost 17 = .ok (.if_icmp .ge 35, 3) := by decide +kernel
theorem dX12_dayCost_20 : decode cX12_dayCost 20 = .ok (.aload_n 0, 1) := by decide +kernel
theorem dX12_dayCost_21 : decode cX12_dayCost 21 = .ok (.getfield 145, 3) := by decide +kernel
theorem dX12_dayCost_24 : decode cX12_dayCost 24 = .ok (.iload 5, 2) := by decide +kernel
theorem dX12_dayCost_26 : decode cX12_dayCost 26 = .ok (.iaload, 1) := by decide +kernel
theorem dX12_dayCost_27 : decode cX12_dayCost 27 = .ok (.iload 4, 2) := by decide +kernel
theorem dX12_dayCost_29 : decode cX12_dayCost 29 = .ok (.if_icmp .le 13, 3) := by decide +kernel
theorem dX12_dayCost_32 : decode cX12_dayCost 32 = .ok (.aload_n 0, 1) := by decide +kernel
theorem dX12_dayCost_33 : decode cX12_dayCost 33 = .ok (.getfield 145, 3) := by decide +kernel
theorem dX12_dayCost_36 : decode cX12_dayCost 36 = .ok (.iload 5, 2) := by decide +kernel
theorem dX12_dayCost_38 : decode cX12_dayCost 38 = .ok (.iaload, 1) := by decide +kernel
theorem dX12_dayCost_39 : decode cX12_dayCost 39 = .ok (.goto 5, 3) := by decide +kernel
theorem dX12_dayCost_42 : decode cX12_dayCost 42 = .ok (.iload 4, 2) := by decide +kernel
theorem dX12_dayCost_44 : decode cX12_dayCost 44 = .ok (.istore 4, 2) := by decide +kernel
theorem dX12_dayCost_46 : decode cX12_dayCost 46 = .ok (.iinc 5 1, 3) := by decide +kernel
theorem dX12_dayCost_49 : decode cX12_dayCost 49 = .ok (.goto (-38), 3) := by decide +kernel
theorem dX12_dayCost_52 : decode cX12_dayCost 52 = .ok (.iload 4, 2) := by decide +kernel
theorem dX12_dayCost_54 : decode cX12_dayCost 54 = .ok (.aload_n 0, 1) := by decide +kernel
theorem dX12_dayCost_55 : decode cX12_dayCost 55 = .ok (.getfield 145, 3) := by decide +kernel
theorem dX12_dayCost_58 : decode cX12_dayCost 58 = .ok (.iload_n 2, 1) := by decide +kernel
theorem dX12_dayCost_59 : decode cX12_dayCost 59 = .ok (.iaload, 1) := by decide +kernel
theorem dX12_dayCost_60 : decode cX12_dayCost 60 = .ok (.isub, 1) := by decide +kernel
theorem dX12_dayCost_61 : decode cX12_dayCost 61 = .ok (.i2l, 1) := by decide +kernel
theorem dX12_dayCost_62 : decode cX12_dayCost 62 = .ok (.aload_n 0, 1) := by decide +kernel
theorem dX12_dayCost_63 : decode cX12_dayCost 63 = .ok (.getfield 7, 3) := by decide +kernel
theorem dX12_dayCost_66 : decode cX12_dayCost 66 = .ok (.bipush 24, 2) := by decide +kernel
theorem dX12_dayCost_68 : decode cX12_dayCost 68 = .ok (.aload_n 0, 1) := by decide +kernel
theorem dX12_dayCost_69 : decode cX12_dayCost 69 = .ok (.getfield 136, 3) := by decide +kernel
theorem dX12_dayCost_72 : decode cX12_dayCost 72 = .ok (.iload_n 2, 1) := by decide +kernel
theorem dX12_dayCost_73 : decode cX12_dayCost 73 = .ok (.iaload, 1) := by decide +kernel
theorem dX12_dayCost_74 : decode cX12_dayCost 74 = .ok (.imul, 1) := by decide +kernel
theorem dX12_dayCost_75 : decode cX12_dayCost 75 = .ok (.aload_n 0, 1) := by decide +kernel
theorem dX12_dayCost_76 : decode cX12_dayCost 76 = .ok (.getfield 16, 3) := by decide +kernel
theorem dX12_dayCost_79 : decode cX12_dayCost 79 = .ok (.iload_n 1, 1) := by decide +kernel
theorem dX12_dayCost_80 : decode cX12_dayCost 80 = .ok (.iaload, 1) := by decide +kernel
theorem dX12_dayCost_81 : decode cX12_dayCost 81 = .ok (.bipush 60, 2) := by decide +kernel
theorem dX12_dayCost_83 : decode cX12_dayCost 83 = .ok (.idiv, 1) := by decide +kernel
theorem dX12_dayCost_84 : decode cX12_dayCost 84 = .ok (.iadd, 1) := by decide +kernel
theorem dX12_dayCost_85 : decode cX12_dayCost 85 = .ok (.iaload, 1) := by decide +kernel
theorem dX12_dayCost_86 : decode cX12_dayCost 86 = .ok (.i2l, 1) := by decide +kernel
theorem dX12_dayCost_87 : decode cX12_dayCost 87 = .ok (.lmul, 1) := by decide +kernel
theorem dX12_dayCost_88 : decode cX12_dayCost 88 = .ok (.lstore 5, 2) := by decide +kernel
theorem dX12_dayCost_90 : decode cX12_dayCost 90 = .ok (.iconst 0, 1) := by decide +kernel
theorem dX12_dayCost_91 : decode cX12_dayCost 91 = .ok (.istore 7, 2) := by decide +kernel
theorem dX12_dayCost_93 : decode cX12_dayCost 93 = .ok (.iload 7, 2) := by decide +kernel
theorem dX12_dayCost_95 : decode cX12_dayCost 95 = .ok (.aload_n 0, 1) := by decide +kernel
theorem dX12_dayCost_96 : decode cX12_dayCost 96 = .ok (.getfield 439, 3) := by decide +kernel
theorem dX12_dayCost_99 : decode cX12_dayCost 99 = .ok (.if_icmp .ge 78, 3) := by decide +kernel
theorem dX12_dayCost_102 : decode cX12_dayCost 102 = .ok (.aload_n 0, 1) := by decide +kernel
theorem dX12_dayCost_103 : decode cX12_dayCost 103 = .ok (.getfield 145, 3) := by decide +kernel
theorem dX12_dayCost_106 : decode cX12_dayCost 106 = .ok (.iload 7, 2) := by decide +kernel
theorem dX12_dayCost_108 : decode cX12_dayCost 108 = .ok (.iaload, 1) := by decide +kernel
theorem dX12_dayCost_109 : decode cX12_dayCost 109 = .ok (.aload_n 0, 1) := by decide +kernel
theorem dX12_dayCost_110 : decode cX12_dayCost 110 = .ok (.getfield 16, 3) := by decide +kernel
theorem dX12_dayCost_113 : decode cX12_dayCost 113 = .ok (.iload_n 1, 1) := by decide +kernel
theorem dX12_dayCost_114 : decode cX12_dayCost 114 = .ok (.iaload, 1) := by decide +kernel
theorem dX12_dayCost_115 : decode cX12_dayCost 115 = .ok (.if_icmp .le 13, 3) := by decide +kernel
theorem dX12_dayCost_118 : decode cX12_dayCost 118 = .ok (.aload_n 0, 1) := by decide +kernel
theorem dX12_dayCost_119 : decode cX12_dayCost 119 = .ok (.getfield 145, 3) := by decide +kernel
theorem dX12_dayCost_122 : decode cX12_dayCost 122 = .ok (.iload 7, 2) := by decide +kernel
theorem dX12_dayCost_124 : decode cX12_dayCost 124 = .ok (.iaload, 1) := by decide +kernel
theorem dX12_dayCost_125 : decode cX12_dayCost 125 = .ok (.goto 9, 3) := by decide +kernel
theorem dX12_dayCost_128 : decode cX12_dayCost 128 = .ok (.aload_n 0, 1) := by decide +kernel
theorem dX12_dayCost_129 : decode cX12_dayCost 129 = .ok (.getfield 16, 3) := by decide +kernel
theorem dX12_dayCost_132 : decode cX12_dayCost 132 = .ok (.iload_n 1, 1) := by decide +kernel
theorem dX12_dayCost_133 : decode cX12_dayCost 133 = .ok (.iaload, 1) := by decide +kernel
theorem dX12_dayCost_134 : decode cX12_dayCost 134 = .ok (.istore 8, 2) := by decide +kernel
theorem dX12_dayCost_136 : decode cX12_dayCost 136 = .ok (.iload 7, 2) := by decide +kernel
theorem dX12_dayCost_138 : decode cX12_dayCost 138 = .ok (.iload_n 2, 1) := by decide +kernel
theorem dX12_dayCost_139 : decode cX12_dayCost 139 = .ok (.if_icmp .eq 32, 3) := by decide +kernel
theorem dX12_dayCost_142 : decode cX12_dayCost 142 = .ok (.aload_n 0, 1) := by decide +kernel
theorem dX12_dayCost_143 : decode cX12_dayCost 143 = .ok (.getfield 145, 3) := by decide +kernel
theorem dX12_dayCost_146 : decode cX12_dayCost 146 = .ok (.iload_n 2, 1) := by decide +kernel
theorem dX12_dayCost_147 : decode cX12_dayCost 147 = .ok (.iaload, 1) := by decide +kernel
theorem dX12_dayCost_148 : decode cX12_dayCost 148 = .ok (.iload 8, 2) := by decide +kernel
theorem dX12_dayCost_150 : decode cX12_dayCost 150 = .ok (.if_icmp .le 21, 3) := by decide +kernel
theorem dX12_dayCost_153 : decode cX12_dayCost 153 = .ok (.lload 5, 2) := by decide +kernel
theorem dX12_dayCost_155 : decode cX12_dayCost 155 = .ok (.aload_n 0, 1) := by decide +kernel
theorem dX12_dayCost_156 : decode cX12_dayCost 156 = .ok (.getfield 145, 3) := by decide +kernel
theorem dX12_dayCost_159 : decode cX12_dayCost 159 = .ok (.iload_n 2, 1) := by decide +kernel
theorem dX12_dayCost_160 : decode cX12_dayCost 160 = .ok (.iaload, 1) := by decide +kernel
theorem dX12_dayCost_161 : decode cX12_dayCost 161 = .ok (.iload 8, 2) := by decide +kernel
theorem dX12_dayCost_163 : decode cX12_dayCost 163 = .ok (.isub, 1) := by decide +kernel
theorem dX12_dayCost_164 : decode cX12_dayCost 164 = .ok (.i2l, 1) := by decide +kernel
theorem dX12_dayCost_165 : decode cX12_dayCost 165 = .ok (.iload_n 3, 1) := by decide +kernel
theorem dX12_dayCost_166 : decode cX12_dayCost 166 = .ok (.i2l, 1) := by decide +kernel
theorem dX12_dayCost_167 : decode cX12_dayCost 167 = .ok (.lmul, 1) := by decide +kernel
theorem dX12_dayCost_168 : decode cX12_dayCost 168 = .ok (.ladd, 1) := by decide +kernel
theorem dX12_dayCost_169 : decode cX12_dayCost 169 = .ok (.lstore 5, 2) := by decide +kernel
theorem dX12_dayCost_171 : decode cX12_dayCost 171 = .ok (.iinc 7 1, 3) := by decide +kernel
theorem dX12_dayCost_174 : decode cX12_dayCost 174 = .ok (.goto (-81), 3) := by decide +kernel
theorem dX12_dayCost_177 : decode cX12_dayCost 177 = .ok (.lload 5, 2) := by decide +kernel
theorem dX12_dayCost_179 : decode cX12_dayCost 179 = .ok (.lreturn, 1) := by decide +kernel
theorem dX12_draws_0 : decode cX12_draws 0 = .ok (.aload_n 0, 1) := by decide +kernel
theorem dX12_draws_1 : decode cX12_draws 1 = .ok (.sipush 25173, 3) := by decide +kernel
theorem dX12_draws_4 : decode cX12_draws 4 = .ok (.aload_n 0, 1) := by decide +kernel
theorem dX12_draws_5 : decode cX12_draws 5 = .ok (.getfield 152, 3) := by decide +kernel
theorem dX12_draws_8 : decode cX12_draws 8 = .ok (.imul, 1) := by decide +kernel
theorem dX12_draws_9 : decode cX12_draws 9 = .ok (.sipush 13849, 3) := by decide +kernel
theorem dX12_draws_12 : decode cX12_draws 12 = .ok (.iadd, 1) := by decide +kernel
theorem dX12_draws_13 : decode cX12_draws 13 = .ok (.ldc_w 456, 3) := by decide +kernel
theorem dX12_draws_16 : decode cX12_draws 16 = .ok (.irem, 1) := by decide +kernel
theorem dX12_draws_17 : decode cX12_draws 17 = .ok (.putfield 152, 3) := by decide +kernel
theorem dX12_draws_20 : decode cX12_draws 20 = .ok (.return_, 1) := by decide +kernel
theorem dJ6_bitCount_0f7a4_0 : decode cJ6_bitCount_0f7a4 0 = .ok (.iload_n 0, 1) := by decide +kernel
theorem dJ6_bitCount_0f7a4_1 : decode cJ6_bitCount_0f7a4 1 = .ok (.iload_n 0, 1) := by decide +kernel
theorem dJ6_bitCount_0f7a4_2 : decode cJ6_bitCount_0f7a4 2 = .ok (.iconst 1, 1) := by decide +kernel
theorem dJ6_bitCount_0f7a4_3 : decode cJ6_bitCount_0f7a4 3 = .ok (.iushr, 1) := by decide +kernel
theorem dJ6_bitCount_0f7a4_4 : decode cJ6_bitCount_0f7a4 4 = .ok (.ldc_w 265, 3) := by decide +kernel
theorem dJ6_bitCount_0f7a4_7 : decode cJ6_bitCount_0f7a4 7 = .ok (.iand, 1) := by decide +kernel
theorem dJ6_bitCount_0f7a4_8 : decode cJ6_bitCount_0f7a4 8 = .ok (.isub, 1) := by decide +kernel
theorem dJ6_bitCount_0f7a4_9 : decode cJ6_bitCount_0f7a4 9 = .ok (.istore_n 0, 1) := by decide +kernel
theorem dJ6_bitCount_0f7a4_10 : decode cJ6_bitCount_0f7a4 10 = .ok (.iload_n 0, 1) := by decide +kernel
theorem dJ6_bitCount_0f7a4_11 : decode cJ6_bitCount_0f7a4 11 = .ok (.ldc_w 266, 3) := by decide +kernel
theorem dJ6_bitCount_0f7a4_14 : decode cJ6_bitCount_0f7a4 14 = .ok (.iand, 1) := by decide +kernel
theorem dJ6_bitCount_0f7a4_15 : decode cJ6_bitCount_0f7a4 15 = .ok (.iload_n 0, 1) := by decide +kernel
theorem dJ6_bitCount_0f7a4_16 : decode cJ6_bitCount_0f7a4 16 = .ok (.iconst 2, 1) := by decide +kernel
theorem dJ6_bitCount_0f7a4_17 : decode cJ6_bitCount_0f7a4 17 = .ok (.iushr, 1) := by decide +kernel
theorem dJ6_bitCount_0f7a4_18 : decode cJ6_bitCount_0f7a4 18 = .ok (.ldc_w 266, 3) := by decide +kernel
theorem dJ6_bitCount_0f7a4_21 : decode cJ6_bitCount_0f7a4 21 = .ok (.iand, 1) := by decide +kernel
theorem dJ6_bitCount_0f7a4_22 : decode cJ6_bitCount_0f7a4 22 = .ok (.iadd, 1) := by decide +kernel
theorem dJ6_bitCount_0f7a4_23 : decode cJ6_bitCount_0f7a4 23 = .ok (.istore_n 0, 1) := by decide +kernel
theorem dJ6_bitCount_0f7a4_24 : decode cJ6_bitCount_0f7a4 24 = .ok (.iload_n 0, 1) := by decide +kernel
theorem dJ6_bitCount_0f7a4_25 : decode cJ6_bitCount_0f7a4 25 = .ok (.iload_n 0, 1) := by decide +kernel
theorem dJ6_bitCount_0f7a4_26 : decode cJ6_bitCount_0f7a4 26 = .ok (.iconst 4, 1) := by decide +kernel
theorem dJ6_bitCount_0f7a4_27 : decode cJ6_bitCount_0f7a4 27 = .ok (.iushr, 1) := by decide +kernel
theorem dJ6_bitCount_0f7a4_28 : decode cJ6_bitCount_0f7a4 28 = .ok (.iadd, 1) := by decide +kernel
theorem dJ6_bitCount_0f7a4_29 : decode cJ6_bitCount_0f7a4 29 = .ok (.ldc_w 267, 3) := by decide +kernel
theorem dJ6_bitCount_0f7a4_32 : decode cJ6_bitCount_0f7a4 32 = .ok (.iand, 1) := by decide +kernel
theorem dJ6_bitCount_0f7a4_33 : decode cJ6_bitCount_0f7a4 33 = .ok (.istore_n 0, 1) := by decide +kernel
theorem dJ6_bitCount_0f7a4_34 : decode cJ6_bitCount_0f7a4 34 = .ok (.iload_n 0, 1) := by decide +kernel
theorem dJ6_bitCount_0f7a4_35 : decode cJ6_bitCount_0f7a4 35 = .ok (.iload_n 0, 1) := by decide +kernel
theorem dJ6_bitCount_0f7a4_36 : decode cJ6_bitCount_0f7a4 36 = .ok (.bipush 8, 2) := by decide +kernel
theorem dJ6_bitCount_0f7a4_38 : decode cJ6_bitCount_0f7a4 38 = .ok (.iushr, 1) := by decide +kernel
theorem dJ6_bitCount_0f7a4_39 : decode cJ6_bitCount_0f7a4 39 = .ok (.iadd, 1) := by decide +kernel
theorem dJ6_bitCount_0f7a4_40 : decode cJ6_bitCount_0f7a4 40 = .ok (.istore_n 0, 1) := by decide +kernel
theorem dJ6_bitCount_0f7a4_41 : decode cJ6_bitCount_0f7a4 41 = .ok (.iload_n 0, 1) := by decide +kernel
theorem dJ6_bitCount_0f7a4_42 : decode cJ6_bitCount_0f7a4 42 = .ok (.iload_n 0, 1) := by decide +kernel
theorem dJ6_bitCount_0f7a4_43 : decode cJ6_bitCount_0f7a4 43 = .ok (.bipush 16, 2) := by decide +kernel
theorem dJ6_bitCount_0f7a4_45 : decode cJ6_bitCount_0f7a4 45 = .ok (.iushr, 1) := by decide +kernel
theorem dJ6_bitCount_0f7a4_46 : decode cJ6_bitCount_0f7a4 46 = .ok (.iadd, 1) := by decide +kernel
theorem dJ6_bitCount_0f7a4_47 : decode cJ6_bitCount_0f7a4 47 = .ok (.istore_n 0, 1) := by decide +kernel
theorem dJ6_bitCount_0f7a4_48 : decode cJ6_bitCount_0f7a4 48 = .ok (.iload_n 0, 1) := by decide +kernel
theorem dJ6_bitCount_0f7a4_49 : decode cJ6_bitCount_0f7a4 49 = .ok (.bipush 63, 2) := by decide +kernel
theorem dJ6_bitCount_0f7a4_51 : decode cJ6_bitCount_0f7a4 51 = .ok (.iand, 1) := by decide +kernel
theorem dJ6_bitCount_0f7a4_52 : decode cJ6_bitCount_0f7a4 52 = .ok (.ireturn, 1) := by decide +kernel
theorem dJ7_fill_d0a16_0 : decode cJ7_fill_d0a16 0 = .ok (.iconst 0, 1) := by decide +kernel
theorem dJ7_fill_d0a16_1 : decode cJ7_fill_d0a16 1 = .ok (.istore_n 3, 1) := by decide +kernel
theorem dJ7_fill_d0a16_2 : decode cJ7_fill_d0a16 2 = .ok (.aload_n 0, 1) := by decide +kernel
theorem dJ7_fill_d0a16_3 : decode cJ7_fill_d0a16 3 = .ok (.arraylength, 1) := by decide +kernel
theorem dJ7_fill_d0a16_4 : decode cJ7_fill_d0a16 4 = .ok (.istore 4, 2) := by decide +kernel
theorem dJ7_fill_d0a16_6 : decode cJ7_fill_d0a16 6 = .ok (.iload_n 3, 1) := by decide +kernel
theorem dJ7_fill_d0a16_7 : decode cJ7_fill_d0a16 7 = .ok (.iload 4, 2) := by decide +kernel
theorem dJ7_fill_d0a16_9 : decode cJ7_fill_d0a16 9 = .ok (.if_icmp .ge 13, 3) := by decide +kernel
theorem dJ7_fill_d0a16_12 : decode cJ7_fill_d0a16 12 = .ok (.aload_n 0, 1) := by decide +kernel
theorem dJ7_fill_d0a16_13 : decode cJ7_fill_d0a16 13 = .ok (.iload_n 3, 1) := by decide +kernel
theorem dJ7_fill_d0a16_14 : decode cJ7_fill_d0a16 14 = .ok (.lload_n 1, 1) := by decide +kernel
theorem dJ7_fill_d0a16_15 : decode cJ7_fill_d0a16 15 = .ok (.lastore, 1) := by decide +kernel
theorem dJ7_fill_d0a16_16 : decode cJ7_fill_d0a16 16 = .ok (.iinc 3 1, 3) := by decide +kernel
theorem dJ7_fill_d0a16_19 : decode cJ7_fill_d0a16 19 = .ok (.goto (-13), 3) := by decide +kernel
theorem dJ7_fill_d0a16_22 : decode cJ7_fill_d0a16 22 = .ok (.return_, 1) := by decide +kernel
theorem dJ7_fill_53178_0 : decode cJ7_fill_53178 0 = .ok (.iconst 0, 1) := by decide +kernel
theorem dJ7_fill_53178_1 : decode cJ7_fill_53178 1 = .ok (.istore_n 2, 1) := by decide +kernel
theorem dJ7_fill_53178_2 : decode cJ7_fill_53178 2 = .ok (.aload_n 0, 1) := by decide +kernel
theorem dJ7_fill_53178_3 : decode cJ7_fill_53178 3 = .ok (.arraylength, 1) := by decide +kernel
theorem dJ7_fill_53178_4 : decode cJ7_fill_53178 4 = .ok (.istore_n 3, 1) := by decide +kernel
theorem dJ7_fill_53178_5 : decode cJ7_fill_53178 5 = .ok (.iload_n 2, 1) := by decide +kernel
theorem dJ7_fill_53178_6 : decode cJ7_fill_53178 6 = .ok (.iload_n 3, 1) := by decide +kernel
theorem dJ7_fill_53178_7 : decode cJ7_fill_53178 7 = .ok (.if_icmp .ge 13, 3) := by decide +kernel
theorem dJ7_fill_53178_10 : decode cJ7_fill_53178 10 = .ok (.aload_n 0, 1) := by decide +kernel
theorem dJ7_fill_53178_11 : decode cJ7_fill_53178 11 = .ok (.iload_n 2, 1) := by decide +kernel
theorem dJ7_fill_53178_12 : decode cJ7_fill_53178 12 = .ok (.iload_n 1, 1) := by decide +kernel
theorem dJ7_fill_53178_13 : decode cJ7_fill_53178 13 = .ok (.iastore, 1) := by decide +kernel
theorem dJ7_fill_53178_14 : decode cJ7_fill_53178 14 = .ok (.iinc 2 1, 3) := by decide +kernel
theorem dJ7_fill_53178_17 : decode cJ7_fill_53178 17 = .ok (.goto (-12), 3) := by decide +kernel
theorem dJ7_fill_53178_20 : decode cJ7_fill_53178 20 = .ok (.return_, 1) := by decide +kernel
