theorem dX12_in_0 : decode cX12_in 0 = .ok (.iload_n 0, 1) := by decide +kernel
theorem dX12_in_1 : decode cX12_in 1 = .ok (.iload_n 1, 1) := by decide +kernel
theorem dX12_in_2 : decode cX12_in 2 = .ok (.if_icmp .lt 12, 3) := by decide +kernel
theorem dX12_in_5 : decode cX12_in 5 = .ok (.iload_n 0, 1) := by decide +kernel
theorem dX12_in_6 : decode cX12_in 6 = .ok (.iload_n 2, 1) := by decide +kernel
theorem dX12_in_7 : decode cX12_in 7 = .ok (.if_icmp .gt 7, 3) := by decide +kernel
theorem dX12_in_10 : decode cX12_in 10 = .ok (.iconst 1, 1) := by decide +kernel
theorem dX12_in_11 : decode cX12_in 11 = .ok (.goto 4, 3) := by decide +kernel
theorem dX12_in_14 : decode cX12_in 14 = .ok (.iconst 0, 1) := by decide +kernel
theorem dX12_in_15 : decode cX12_in 15 = .ok (.ireturn, 1) := by decide +kernel
theorem dX12_isPerson_0 : decode cX12_isPerson 0 = .ok (.iload_n 0, 1) := by decide +kernel
theorem dX12_isPerson_1 : decode cX12_isPerson 1 = .ok (.ifCond .lt 13, 3) := by decide +kernel
theorem dX12_isPerson_4 : decode cX12_isPerson 4 = .ok (.iload_n 0, 1) := by decide +kernel
theorem dX12_isPerson_5 : decode cX12_isPerson 5 = .ok (.bipush 8, 2) := by decide +kernel
theorem dX12_isPerson_7 : decode cX12_isPerson 7 = .ok (.if_icmp .ge 7, 3) := by decide +kernel
theorem dX12_isPerson_10 : decode cX12_isPerson 10 = .ok (.iconst 1, 1) := by decide +kernel
theorem dX12_isPerson_11 : decode cX12_isPerson 11 = .ok (.goto 4, 3) := by decide +kernel
theorem dX12_isPerson_14 : decode cX12_isPerson 14 = .ok (.iconst 0, 1) := by decide +kernel
theorem dX12_isPerson_15 : decode cX12_isPerson 15 = .ok (.ireturn, 1) := by decide +kernel
theorem dX12_isMeeting_0 : decode cX12_isMeeting 0 = .ok (.iload_n 1, 1) := by decide +kernel
theorem dX12_isMeeting_1 : decode cX12_isMeeting 1 = .ok (.ifCond .lt 15, 3) := by decide +kernel
theorem dX12_isMeeting_4 : decode cX12_isMeeting 4 = .ok (.iload_n 1, 1) := by decide +kernel
theorem dX12_isMeeting_5 : decode cX12_isMeeting 5 = .ok (.aload_n 0, 1) := by decide +kernel
theorem dX12_isMeeting_6 : decode cX12_isMeeting 6 = .ok (.getfield 155, 3) := by decide +kernel
theorem dX12_isMeeting_9 : decode cX12_isMeeting 9 = .ok (.if_icmp .ge 7, 3) := by decide +kernel
theorem dX12_isMeeting_12 : decode cX12_isMeeting 12 = .ok (.iconst 1, 1) := by decide +kernel
theorem dX12_isMeeting_13 : decode cX12_isMeeting 13 = .ok (.goto 4, 3) := by decide +kernel
theorem dX12_isMeeting_16 : decode cX12_isMeeting 16 = .ok (.iconst 0, 1) := by decide +kernel
theorem dX12_isMeeting_17 : decode cX12_isMeeting 17 = .ok (.ireturn, 1) := by decide +kernel
theorem dX12_isOf_0 : decode cX12_isOf 0 = .ok (.aload_n 0, 1) := by decide +kernel
theorem dX12_isOf_1 : decode cX12_isOf 1 = .ok (.iload_n 1, 1) := by decide +kernel
theorem dX12_isOf_2 : decode cX12_isOf 2 = .ok (.invokevirtual 158, 3) := by decide +kernel
theorem dX12_isOf_5 : decode cX12_isOf 5 = .ok (.ifCond .eq 28, 3) := by decide +kernel
theorem dX12_isOf_8 : decode cX12_isOf 8 = .ok (.iload_n 2, 1) := by decide +kernel
theorem dX12_isOf_9 : decode cX12_isOf 9 = .ok (.invokestatic 162, 3) := by decide +kernel
theorem dX12_isOf_12 : decode cX12_isOf 12 = .ok (.ifCond .eq 21, 3) := by decide +kernel
theorem dX12_isOf_15 : decode cX12_isOf 15 = .ok (.aload_n 0, 1) := by decide +kernel
theorem dX12_isOf_16 : decode cX12_isOf 16 = .ok (.getfield 19, 3) := by decide +kernel
theorem dX12_isOf_19 : decode cX12_isOf 19 = .ok (.iload_n 1, 1) := by decide +kernel
theorem dX12_isOf_20 : decode cX12_isOf 20 = .ok (.iaload, 1) := by decide +kernel
theorem dX12_isOf_21 : decode cX12_isOf 21 = .ok (.iload_n 2, 1) := by decide +kernel
theorem dX12_isOf_22 : decode cX12_isOf 22 = .ok (.ishr, 1) := by decide +kernel
theorem dX12_isOf_23 : decode cX12_isOf 23 = .ok (.iconst 1, 1) := by decide +kernel
theorem dX12_isOf_24 : decode cX12_isOf 24 = .ok (.iand, 1) := by decide +kernel
theorem dX12_isOf_25 : decode cX12_isOf 25 = .ok (.iconst 1, 1) := by decide +kernel
theorem dX12_isOf_26 : decode cX12_isOf 26 = .ok (.if_icmp .ne 7, 3) := by decide +kernel
theorem dX12_isOf_29 : decode cX12_isOf 29 = .ok (.iconst 1, 1) := by decide +kernel
theorem dX12_isOf_30 : decode cX12_isOf 30 = .ok (.goto 4, 3) := by decide +kernel
theorem dX12_isOf_33 : decode cX12_isOf 33 = .ok (.iconst 0, 1) := by decide +kernel
theorem dX12_isOf_34 : decode cX12_isOf 34 = .ok (.ireturn, 1) := by decide +kernel
theorem dX12_bits_0 : decode cX12_bits 0 = .ok (.iconst 0, 1) := by decide +kernel
theorem dX12_bits_1 : decode cX12_bits 1 = .ok (.istore_n 1, 1) := by decide +kernel
theorem dX12_bits_2 : decode cX12_bits 2 = .ok (.iconst 0, 1) := by decide +kernel
theorem dX12_bits_3 : decode cX12_bits 3 = .ok (.istore_n 2, 1) := by decide +kernel
theorem dX12_bits_4 : decode cX12_bits 4 = .ok (.iload_n 2, 1) := by decide +kernel
theorem dX12_bits_5 : decode cX12_bits 5 = .ok (.bipush 8, 2) := by decide +kernel
theorem dX12_bits_7 : decode cX12_bits 7 = .ok (.if_icmp .ge 17, 3) := by decide +kernel
theorem dX12_bits_10 : decode cX12_bits 10 = .ok (.iload_n 1, 1) := by decide +kernel
theorem dX12_bits_11 : decode cX12_bits 11 = .ok (.iload_n 0, 1) := by decide +kernel
theorem dX12_bits_12 : decode cX12_bits 12 = .ok (.iload_n 2, 1) := by decide +kernel
theorem dX12_bits_13 : decode cX12_bits 13 = .ok (.ishr, 1) := by decide +kernel
theorem dX12_bits_14 : decode cX12_bits 14 = .ok (.iconst 1, 1) := by decide +kernel
theorem dX12_bits_15 : decode cX12_bits 15 = .ok (.iand, 1) := by decide +kernel
theorem dX12_bits_16 : decode cX12_bits 16 = .ok (.iadd, 1) := by decide +kernel
theorem dX12_bits_17 : decode cX12_bits 17 = .ok (.istore_n 1, 1) := by decide +kernel
theorem dX12_bits_18 : decode cX12_bits 18 = .ok (.iinc 2 1, 3) := by decide +kernel
theorem dX12_bits_21 : decode cX12_bits 21 = .ok (.goto (-17), 3) := by decide +kernel
theorem dX12_bits_24 : decode cX12_bits 24 = .ok (.iload_n 1, 1) := by decide +kernel
theorem dX12_bits_25 : decode cX12_bits 25 = .ok (.ireturn, 1) := by decide +kernel
theorem dX12_lateAt_0 : decode cX12_lateAt 0 = .ok (.aload_n 0, 1) := by decide +kernel
theorem dX12_lateAt_1 : decode cX12_lateAt 1 = .ok (.getfield 22, 3) := by decide +kernel
theorem dX12_lateAt_4 : decode cX12_lateAt 4 = .ok (.bipush 8, 2) := by decide +kernel
theorem dX12_lateAt_6 : decode cX12_lateAt 6 = .ok (.iload_n 1, 1) := by decide +kernel
theorem dX12_lateAt_7 : decode cX12_lateAt 7 = .ok (.imul, 1) := by decide +kernel
theorem dX12_lateAt_8 : decode cX12_lateAt 8 = .ok (.iload_n 2, 1) := by decide +kernel
theorem dX12_lateAt_9 : decode cX12_lateAt 9 = .ok (.iadd, 1) := by decide +kernel
theorem dX12_lateAt_10 : decode cX12_lateAt 10 = .ok (.iaload, 1) := by decide +kernel
theorem dX12_lateAt_11 : decode cX12_lateAt 11 = .ok (.aload_n 0, 1) := by decide +kernel
theorem dX12_lateAt_12 : decode cX12_lateAt 12 = .ok (.getfield 16, 3) := by decide +kernel
theorem dX12_lateAt_15 : decode cX12_lateAt 15 = .ok (.iload_n 1, 1) := by decide +kernel
theorem dX12_lateAt_16 : decode cX12_lateAt 16 = .ok (.iaload, 1) := by decide +kernel
theorem dX12_lateAt_17 : decode cX12_lateAt 17 = .ok (.if_icmp .le 24, 3) := by decide +kernel
theorem dX12_lateAt_20 : decode cX12_lateAt 20 = .ok (.aload_n 0, 1) := by decide +kernel
theorem dX12_lateAt_21 : decode cX12_lateAt 21 = .ok (.getfield 22, 3) := by decide +kernel
theorem dX12_lateAt_24 : decode cX12_lateAt 24 = .ok (.bipush 8, 2) := by decide +kernel
theorem dX12_lateAt_26 : decode cX12_lateAt 26 = .ok (.iload_n 1, 1) := by decide +kernel
theorem dX12_lateAt_27 : decode cX12_lateAt 27 = .ok (.imul, 1) := by decide +kernel
theorem dX12_lateAt_28 : decode cX12_lateAt 28 = .ok (.iload_n 2, 1) := by decide +kernel
theorem dX12_lateAt_29 : decode cX12_lateAt 29 = .ok (.iadd, 1) := by decide +kernel
theorem dX12_lateAt_30 : decode cX12_lateAt 30 = .ok (.iaload, 1) := by decide +kernel
theorem dX12_lateAt_31 : decode cX12_lateAt 31 = .ok (.aload_n 0, 1) := by decide +kernel
theorem dX12_lateAt_32 : decode cX12_lateAt 32 = .ok (.getfield 16, 3) := by decide +kernel
theorem dX12_lateAt_35 : decode cX12_lateAt 35 = .ok (.iload_n 1, 1) := by decide +kernel
theorem dX12_lateAt_36 : decode cX12_lateAt 36 = .ok (.iaload, 1) := by decide +kernel
theorem dX12_lateAt_37 : decode cX12_lateAt 37 = .ok (.isub, 1) := by decide +kernel
theorem dX12_lateAt_38 : decode cX12_lateAt 38 = .ok (.goto 4, 3) := by decide +kernel
theorem dX12_lateAt_41 : decode cX12_lateAt 41 = .ok (.iconst 0, 1) := by decide +kernel
theorem dX12_lateAt_42 : decode cX12_lateAt 42 = .ok (.ireturn, 1) := by decide +kernel
theorem dX12_keepsAt_0 : decode cX12_keepsAt 0 = .ok (.aload_n 0, 1) := by decide +kernel
theorem dX12_keepsAt_1 : decode cX12_keepsAt 1 = .ok (.getfield 22, 3) := by decide +kernel
theorem dX12_keepsAt_4 : decode cX12_keepsAt 4 = .ok (.bipush 8, 2) := by decide +kernel
theorem dX12_keepsAt_6 : decode cX12_keepsAt 6 = .ok (.iload_n 1, 1) := by decide +kernel
theorem dX12_keepsAt_7 : decode cX12_keepsAt 7 = .ok (.imul, 1) := by decide +kernel
theorem dX12_keepsAt_8 : decode cX12_keepsAt 8 = .ok (.iload_n 3, 1) := by decide +kernel
theorem dX12_keepsAt_9 : decode cX12_keepsAt 9 = .ok (.iadd, 1) := by decide +kernel
theorem dX12_keepsAt_10 : decode cX12_keepsAt 10 = .ok (.iaload, 1) := by decide +kernel
theorem dX12_keepsAt_11 : decode cX12_keepsAt 11 = .ok (.aload_n 0, 1) := by decide +kernel
theorem dX12_keepsAt_12 : decode cX12_keepsAt 12 = .ok (.getfield 16, 3) := by decide +kernel
theorem dX12_keepsAt_15 : decode cX12_keepsAt 15 = .ok (.iload_n 1, 1) := by decide +kernel
theorem dX12_keepsAt_16 : decode cX12_keepsAt 16 = .ok (.iaload, 1) := by decide +kernel
theorem dX12_keepsAt_17 : decode cX12_keepsAt 17 = .ok (.if_icmp .le 17, 3) := by decide +kernel
theorem dX12_keepsAt_20 : decode cX12_keepsAt 20 = .ok (.aload_n 0, 1) := by decide +kernel
theorem dX12_keepsAt_21 : decode cX12_keepsAt 21 = .ok (.getfield 22, 3) := by decide +kernel
theorem dX12_keepsAt_24 : decode cX12_keepsAt 24 = .ok (.bipush 8, 2) := by decide +kernel
theorem dX12_keepsAt_26 : decode cX12_keepsAt 26 = .ok (.iload_n 1, 1) := by decide +kernel
theorem dX12_keepsAt_27 : decode cX12_keepsAt 27 = .ok (.imul, 1) := by decide +kernel
theorem dX12_keepsAt_28 : decode cX12_keepsAt 28 = .ok (.iload_n 3, 1) := by decide +kernel
theorem dX12_keepsAt_29 : decode cX12_keepsAt 29 = .ok (.iadd, 1) := by decide +kernel
theorem dX12_keepsAt_30 : decode cX12_keepsAt 30 = .ok (.iaload, 1) := by decide +kernel
theorem dX12_keepsAt_31 : decode cX12_keepsAt 31 = .ok (.goto 9, 3) := by decide +kernel
theorem dX12_keepsAt_34 : decode cX12_keepsAt 34 = .ok (.aload_n 0, 1) := by decide +kernel
theorem dX12_keepsAt_35 : decode cX12_keepsAt 35 = .ok (.getfield 16, 3) := by decide +kernel
theorem dX12_keepsAt_38 : decode cX12_keepsAt 38 = .ok (.iload_n 1, 1) := by decide +kernel
theorem dX12_keepsAt_39 : decode cX12_keepsAt 39 = .ok (.iaload, 1) := by decide +kernel
theorem dX12_keepsAt_40 : decode cX12_keepsAt 40 = .ok (.istore 4, 2) := by decide +kernel
theorem dX12_keepsAt_42 : decode cX12_keepsAt 42 = .ok (.aload_n 0, 1) := by decide +kernel
theorem dX12_keepsAt_43 : decode cX12_keepsAt 43 = .ok (.getfield 22, 3) := by decide +kernel
theorem dX12_keepsAt_46 : decode cX12_keepsAt 46 = .ok (.bipush 8, 2) := by decide +kernel
theorem dX12_keepsAt_48 : decode cX12_keepsAt 48 = .ok (.iload_n 1, 1) := by decide +kernel
theorem dX12_keepsAt_49 : decode cX12_keepsAt 49 = .ok (.imul, 1) := by decide +kernel
theorem dX12_keepsAt_50 : decode cX12_keepsAt 50 = .ok (.iload_n 2, 1) := by decide +kernel
theorem dX12_keepsAt_51 : decode cX12_keepsAt 51 = .ok (.iadd, 1) := by decide +kernel
theorem dX12_keepsAt_52 : decode cX12_keepsAt 52 = .ok (.iaload, 1) := by decide +kernel
theorem dX12_keepsAt_53 : decode cX12_keepsAt 53 = .ok (.iload 4, 2) := by decide +kernel
theorem dX12_keepsAt_55 : decode cX12_keepsAt 55 = .ok (.if_icmp .le 20, 3) := by decide +kernel
theorem dX12_keepsAt_58 : decode cX12_keepsAt 58 = .ok (.aload_n 0, 1) := by decide +kernel
theorem dX12_keepsAt_59 : decode cX12_keepsAt 59 = .ok (.getfield 22, 3) := by decide +kernel
theorem dX12_keepsAt_62 : decode cX12_keepsAt 62 = .ok (.bipush 8, 2) := by decide +kernel
theorem dX12_keepsAt_64 : decode cX12_keepsAt 64 = .ok (.iload_n 1, 1) := by decide +kernel
theorem dX12_keepsAt_65 : decode cX12_keepsAt 65 = .ok (.imul, 1) := by decide +kernel
theorem dX12_keepsAt_66 : decode cX12_keepsAt 66 = .ok (.iload_n 2, 1) := by decide +kernel
theorem dX12_keepsAt_67 : decode cX12_keepsAt 67 = .ok (.iadd, 1) := by decide +kernel
theorem dX12_keepsAt_68 : decode cX12_keepsAt 68 = .ok (.iaload, 1) := by decide +kernel
theorem dX12_keepsAt_69 : decode cX12_keepsAt 69 = .ok (.iload 4, 2) := by decide +kernel
theorem dX12_keepsAt_71 : decode cX12_keepsAt 71 = .ok (.isub, 1) := by decide +kernel
theorem dX12_keepsAt_72 : decode cX12_keepsAt 72 = .ok (.goto 4, 3) := by decide +kernel
theorem dX12_keepsAt_75 : decode cX12_keepsAt 75 = .ok (.iconst 0, 1) := by decide +kernel
theorem dX12_keepsAt_76 : decode cX12_keepsAt 76 = .ok (.ireturn, 1) := by decide +kernel
theorem dX12_types_0 : decode cX12_types 0 = .ok (.iconst 3, 1) := by decide +kernel
theorem dX12_types_1 : decode cX12_types 1 = .ok (.istore_n 2, 1) := by decide +kernel
theorem dX12_types_2 : decode cX12_types 2 = .ok (.iload_n 2, 1) := by decide +kernel
theorem dX12_types_3 : decode cX12_types 3 = .ok (.ifCond .lt 35, 3) := by decide +kernel
theorem dX12_types_6 : decode cX12_types 6 = .ok (.aload_n 0, 1) := by decide +kernel
theorem dX12_types_7 : decode cX12_types 7 = .ok (.getfield 29, 3) := by decide +kernel
theorem dX12_types_10 : decode cX12_types 10 = .ok (.aload_n 0, 1) := by decide +kernel
theorem dX12_types_11 : decode cX12_types 11 = .ok (.getfield 203, 3) := by decide +kernel
theorem dX12_types_14 : decode cX12_types 14 = .ok (.iload_n 1, 1) := by decide +kernel
theorem dX12_types_15 : decode cX12_types 15 = .ok (.bipush 8, 2) := by decide +kernel
theorem dX12_types_17 : decode cX12_types 17 = .ok (.iload_n 2, 1) := by decide +kernel
theorem dX12_types_18 : decode cX12_types 18 = .ok (.imul, 1) := by decide +kernel
theorem dX12_types_19 : decode cX12_types 19 = .ok (.ishr, 1) := by decide +kernel
theorem dX12_types_20 : decode cX12_types 20 = .ok (.i2b, 1) := by decide +kernel
theorem dX12_types_21 : decode cX12_types 21 = .ok (.bastore, 1) := by decide +kernel
theorem dX12_types_22 : decode cX12_types 22 = .ok (.aload_n 0, 1) := by decide +kernel
theorem dX12_types_23 : decode cX12_types 23 = .ok (.aload_n 0, 1) := by decide +kernel
theorem dX12_types_24 : decode cX12_types 24 = .ok (.getfield 203, 3) := by decide +kernel
theorem dX12_types_27 : decode cX12_types 27 = .ok (.iconst 1, 1) := by decide +kernel
theorem dX12_types_28 : decode cX12_types 28 = .ok (.iadd, 1) := by decide +kernel
theorem dX12_types_29 : decode cX12_types 29 = .ok (.putfield 203, 3) := by decide +kernel
theorem dX12_types_32 : decode cX12_types 32 = .ok (.iinc 2 (-1), 3) := by decide +kernel
theorem dX12_types_35 : decode cX12_types 35 = .ok (.goto (-33), 3) := by decide +kernel
theorem dX12_types_38 : decode cX12_types 38 = .ok (.return_, 1) := by decide +kernel
theorem dX12_feed_0 : decode cX12_feed 0 = .ok (.aload_n 0, 1) := by decide +kernel
theorem dX12_feed_1 : decode cX12_feed 1 = .ok (.getfield 203, 3) := by decide +kernel
theorem dX12_feed_4 : decode cX12_feed 4 = .ok (.bipush 20, 2) := by decide +kernel
theorem dX12_feed_6 : decode cX12_feed 6 = .ok (.iadd, 1) := by decide +kernel
theorem dX12_feed_7 : decode cX12_feed 7 = .ok (.sipush 400, 3) := by decide +kernel
theorem dX12_feed_10 : decode cX12_feed 10 = .ok (.if_icmp .le 5, 3) := by decide +kernel
theorem dX12_feed_13 : decode cX12_feed 13 = .ok (.iconst (-1), 1) := by decide +kernel
theorem dX12_feed_14 : decode cX12_feed 14 = .ok (.ireturn, 1) := by decide +kernel
theorem dX12_feed_15 : decode cX12_feed 15 = .ok (.aload_n 0, 1) := by decide +kernel
theorem dX12_feed_16 : decode cX12_feed 16 = .ok (.iload_n 1, 1) := by decide +kernel
theorem dX12_feed_17 : decode cX12_feed 17 = .ok (.invokevirtual 206, 3) := by decide +kernel
theorem dX12_feed_20 : decode cX12_feed 20 = .ok (.aload_n 0, 1) := by decide +kernel
theorem dX12_feed_21 : decode cX12_feed 21 = .ok (.iload_n 2, 1) := by decide +kernel
theorem dX12_feed_22 : decode cX12_feed 22 = .ok (.invokevirtual 206, 3) := by decide +kernel
theorem dX12_feed_25 : decode cX12_feed 25 = .ok (.aload_n 0, 1) := by decide +kernel
theorem dX12_feed_26 : decode cX12_feed 26 = .ok (.iload_n 3, 1) := by decide +kernel
theorem dX12_feed_27 : decode cX12_feed 27 = .ok (.invokevirtual 206, 3) := by decide +kernel
theorem dX12_feed_30 : decode cX12_feed 30 = .ok (.aload_n 0, 1) := by decide +kernel
theorem dX12_feed_31 : decode cX12_feed 31 = .ok (.iload 4, 2) := by decide +kernel
theorem dX12_feed_33 : decode cX12_feed 33 = .ok (.invokevirtual 206, 3) := by decide +kernel
theorem dX12_feed_36 : decode cX12_feed 36 = .ok (.aload_n 0, 1) := by decide +kernel
theorem dX12_feed_37 : decode cX12_feed 37 = .ok (.iload 5, 2) := by decide +kernel
theorem dX12_feed_39 : decode cX12_feed 39 = .ok (.invokevirtual 206, 3) := by decide +kernel
theorem dX12_feed_42 : decode cX12_feed 42 = .ok (.aload_n 0, 1) := by decide +kernel
theorem dX12_feed_43 : decode cX12_feed 43 = .ok (.getfield 203, 3) := by decide +kernel
theorem dX12_feed_46 : decode cX12_feed 46 = .ok (.ireturn, 1) := by decide +kernel
theorem dX12_here_0 : decode cX12_here 0 = .ok (.aload_n 0, 1) := by decide +kernel
theorem dX12_here_1 : decode cX12_here 1 = .ok (.getfield 210, 3) := by decide +kernel
theorem dX12_here_4 : decode cX12_here 4 = .ok (.aload_n 0, 1) := by decide +kernel
theorem dX12_here_5 : decode cX12_here 5 = .ok (.getfield 213, 3) := by decide +kernel
theorem dX12_here_8 : decode cX12_here 8 = .ok (.if_icmp .ge 19, 3) := by decide +kernel
theorem dX12_here_11 : decode cX12_here 11 = .ok (.aload_n 0, 1) := by decide +kernel
theorem dX12_here_12 : decode cX12_here 12 = .ok (.getfield 29, 3) := by decide +kernel
theorem dX12_here_15 : decode cX12_here 15 = .ok (.aload_n 0, 1) := by decide +kernel
theorem dX12_here_16 : decode cX12_here 16 = .ok (.getfield 210, 3) := by decide +kernel
theorem dX12_here_19 : decode cX12_here 19 = .ok (.baload, 1) := by decide +kernel
theorem dX12_here_20 : decode cX12_here 20 = .ok (.sipush 255, 3) := by decide +kernel
theorem dX12_here_23 : decode cX12_here 23 = .ok (.iand, 1) := by decide +kernel
theorem dX12_here_24 : decode cX12_here 24 = .ok (.goto 4, 3) := by decide +kernel
theorem dX12_here_27 : decode cX12_here 27 = .ok (.iconst (-1), 1) := by decide +kernel
theorem dX12_here_28 : decode cX12_here 28 = .ok (.ireturn, 1) := by decide +kernel
theorem dX12_isDigit_0 : decode cX12_isDigit 0 = .ok (.aload_n 0, 1) := by decide +kernel
theorem dX12_isDigit_1 : decode cX12_isDigit 1 = .ok (.invokevirtual 216, 3) := by decide +kernel
theorem dX12_isDigit_4 : decode cX12_isDigit 4 = .ok (.bipush 48, 2) := by decide +kernel
theorem dX12_isDigit_6 : decode cX12_isDigit 6 = .ok (.if_icmp .lt 16, 3) := by decide +kernel
theorem dX12_isDigit_9 : decode cX12_isDigit 9 = .ok (.aload_n 0, 1) := by decide +kernel
theorem dX12_isDigit_10 : decode cX12_isDigit 10 = .ok (.invokevirtual 216, 3) := by decide +kernel
theorem dX12_isDigit_13 : decode cX12_isDigit 13 = .ok (.bipush 57, 2) := by decide +kernel
theorem dX12_isDigit_15 : decode cX12_isDigit 15 = .ok (.if_icmp .gt 7, 3) := by decide +kernel
theorem dX12_isDigit_18 : decode cX12_isDigit 18 = .ok (.iconst 1, 1) := by decide +kernel
theorem dX12_isDigit_19 : decode cX12_isDigit 19 = .ok (.goto 4, 3) := by decide +kernel
theorem dX12_isDigit_22 : decode cX12_isDigit 22 = .ok (.iconst 0, 1) := by decide +kernel
theorem dX12_isDigit_23 : decode cX12_isDigit 23 = .ok (.ireturn, 1) := by decide +kernel
theorem dX12_wrongAt_0 : decode cX12_wrongAt 0 = .ok (.aload_n 0, 1) := by decide +kernel
theorem dX12_wrongAt_1 : decode cX12_wrongAt 1 = .ok (.sipush (-1000), 3) := by decide +kernel
theorem dX12_wrongAt_4 : decode cX12_wrongAt 4 = .ok (.iload_n 1, 1) := by decide +kernel
theorem dX12_wrongAt_5 : decode cX12_wrongAt 5 = .ok (.imul, 1) := by decide +kernel
theorem dX12_wrongAt_6 : decode cX12_wrongAt 6 = .ok (.iload_n 2, 1) := by decide +kernel
theorem dX12_wrongAt_7 : decode cX12_wrongAt 7 = .ok (.isub, 1) := by decide +kernel
theorem dX12_wrongAt_8 : decode cX12_wrongAt 8 = .ok (.putfield 220, 3) := by decide +kernel
theorem dX12_wrongAt_11 : decode cX12_wrongAt 11 = .ok (.iconst 0, 1) := by decide +kernel
theorem dX12_wrongAt_12 : decode cX12_wrongAt 12 = .ok (.ireturn, 1) := by decide +kernel
theorem dX12_notes_0 : decode cX12_notes 0 = .ok (.aload_n 0, 1) := by decide +kernel
theorem dX12_notes_1 : decode cX12_notes 1 = .ok (.getfield 33, 3) := by decide +kernel
theorem dX12_notes_4 : decode cX12_notes 4 = .ok (.aload_n 0, 1) := by decide +kernel
theorem dX12_notes_5 : decode cX12_notes 5 = .ok (.getfield 233, 3) := by decide +kernel
theorem dX12_notes_8 : decode cX12_notes 8 = .ok (.ldc 236, 2) := by decide +kernel
theorem dX12_notes_10 : decode cX12_notes 10 = .ok (.iload_n 1, 1) := by decide +kernel
theorem dX12_notes_11 : decode cX12_notes 11 = .ok (.imul, 1) := by decide +kernel
theorem dX12_notes_12 : decode cX12_notes 12 = .ok (.iload_n 2, 1) := by decide +kernel
theorem dX12_notes_13 : decode cX12_notes 13 = .ok (.iadd, 1) := by decide +kernel
theorem dX12_notes_14 : decode cX12_notes 14 = .ok (.iastore, 1) := by decide +kernel
theorem dX12_notes_15 : decode cX12_notes 15 = .ok (.aload_n 0, 1) := by decide +kernel
theorem dX12_notes_16 : decode cX12_notes 16 = .ok (.aload_n 0, 1) := by decide +kernel
theorem dX12_notes_17 : decode cX12_notes 17 = .ok (.getfield 233, 3) := by decide +kernel
theorem dX12_notes_20 : decode cX12_notes 20 = .ok (.iconst 1, 1) := by decide +kernel
theorem dX12_notes_21 : decode cX12_notes 21 = .ok (.iadd, 1) := by decide +kernel
theorem dX12_notes_22 : decode cX12_notes 22 = .ok (.putfield 233, 3) := by decide +kernel
theorem dX12_notes_25 : decode cX12_notes 25 = .ok (.return_, 1) := by decide +kernel
theorem dX12_top_0 : decode cX12_top 0 = .ok (.aload_n 0, 1) := by decide +kernel
theorem dX12_top_1 : decode cX12_top 1 = .ok (.getfield 240, 3) := by decide +kernel
theorem dX12_top_4 : decode cX12_top 4 = .ok (.ifCond .ne 7, 3) := by decide +kernel
theorem dX12_top_7 : decode cX12_top 7 = .ok (.iconst (-1), 1) := by decide +kernel
theorem dX12_top_8 : decode cX12_top 8 = .ok (.goto 17, 3) := by decide +kernel
theorem dX12_top_11 : decode cX12_top 11 = .ok (.aload_n 0, 1) := by decide +kernel
theorem dX12_top_12 : decode cX12_top 12 = .ok (.getfield 36, 3) := by decide +kernel
theorem dX12_top_15 : decode cX12_top 15 = .ok (.aload_n 0, 1) := by decide +kernel
theorem dX12_top_16 : decode cX12_top 16 = .ok (.getfield 240, 3) := by decide +kernel
theorem dX12_top_19 : decode cX12_top 19 = .ok (.iconst 1, 1) := by decide +kernel
theorem dX12_top_20 : decode cX12_top 20 = .ok (.isub, 1) := by decide +kernel
theorem dX12_top_21 : decode cX12_top 21 = .ok (.iaload, 1) := by decide +kernel
theorem dX12_top_22 : decode cX12_top 22 = .ok (.ldc 236, 2) := by decide +kernel
theorem dX12_top_24 : decode cX12_top 24 = .ok (.idiv, 1) := by decide +kernel
theorem dX12_top_25 : decode cX12_top 25 = .ok (.ireturn, 1) := by decide +kernel
theorem dX12_factOf_0 : decode cX12_factOf 0 = .ok (.iload_n 0, 1) := by decide +kernel
theorem dX12_factOf_1 : decode cX12_factOf 1 = .ok (.tableswitch 145 97 121 #[117, 119, 145, 133, 145, 145, 123, 130, 145, 145, 125, 145, 145, 121, 145, 145, 145, 127, 145, 145, 145, 142, 115, 136, 139], 115) := by decide +kernel
theorem dX12_factOf_116 : decode cX12_factOf 116 = .ok (.iconst 0, 1) := by decide +kernel
theorem dX12_factOf_117 : decode cX12_factOf 117 = .ok (.ireturn, 1) := by decide +kernel
theorem dX12_factOf_118 : decode cX12_factOf 118 = .ok (.iconst 1, 1) := by decide +kernel
theorem dX12_factOf_119 : decode cX12_factOf 119 = .ok (.ireturn, 1) := by decide +kernel
theorem dX12_factOf_120 : decode cX12_factOf 120 = .ok (.iconst 2, 1) := by decide +kernel
theorem dX12_factOf_121 : decode cX12_factOf 121 = .ok (.ireturn, 1) := by decide +kernel
theorem dX12_factOf_122 : decode cX12_factOf 122 = .ok (.iconst 3, 1) := by decide +kernel
theorem dX12_factOf_123 : decode cX12_factOf 123 = .ok (.ireturn, 1) := by decide +kernel
theorem dX12_factOf_124 : decode cX12_factOf 124 = .ok (.iconst 4, 1) := by decide +kernel
theorem dX12_factOf_125 : decode cX12_factOf 125 = .ok (.ireturn, 1) := by decide +kernel
theorem dX12_factOf_126 : decode cX12_factOf 126 = .ok (.iconst 5, 1) := by decide +kernel
theorem dX12_factOf_127 : decode cX12_factOf 127 = .ok (.ireturn, 1) := by decide +kernel
theorem dX12_factOf_128 : decode cX12_factOf 128 = .ok (.bipush 6, 2) := by decide +kernel
theorem dX12_factOf_130 : decode cX12_factOf 130 = .ok (.ireturn, 1) := by decide +kernel
theorem dX12_factOf_131 : decode cX12_factOf 131 = .ok (.bipush 7, 2) := by decide +kernel
theorem dX12_factOf_133 : decode cX12_factOf 133 = .ok (.ireturn, 1) := by decide +kernel
theorem dX12_factOf_134 : decode cX12_factOf 134 = .ok (.bipush 8, 2) := by decide +kernel
theorem dX12_factOf_136 : decode cX12_factOf 136 = .ok (.ireturn, 1) := by decide +kernel
theorem dX12_factOf_137 : decode cX12_factOf 137 = .ok (.bipush 9, 2) := by decide +kernel
theorem dX12_factOf_139 : decode cX12_factOf 139 = .ok (.ireturn, 1) := by decide +kernel
theorem dX12_factOf_140 : decode cX12_factOf 140 = .ok (.bipush 10, 2) := by decide +kernel
theorem dX12_factOf_142 : decode cX12_factOf 142 = .ok (.ireturn, 1) := by decide +kernel
theorem dX12_factOf_143 : decode cX12_factOf 143 = .ok (.bipush 11, 2) := by decide +kernel
theorem dX12_factOf_145 : decode cX12_factOf 145 = .ok (.ireturn, 1) := by decide +kernel
theorem dX12_factOf_146 : decode cX12_factOf 146 = .ok (.iconst (-1), 1) := by decide +kernel
theorem dX12_factOf_147 : decode cX12_factOf 147 = .ok (.ireturn, 1) := by decide +kernel
theorem dX12_sumSign_0 : decode cX12_sumSign 0 = .ok (.iload_n 0, 1) := by decide +kernel
theorem dX12_sumSign_1 : decode cX12_sumSign 1 = .ok (.bipush 43, 2) := by decide +kernel
theorem dX12_sumSign_3 : decode cX12_sumSign 3 = .ok (.if_icmp .ne 7, 3) := by decide +kernel
theorem dX12_sumSign_6 : decode cX12_sumSign 6 = .ok (.iconst 2, 1) := by decide +kernel
theorem dX12_sumSign_7 : decode cX12_sumSign 7 = .ok (.goto 45, 3) := by decide +kernel
theorem dX12_sumSign_10 : decode cX12_sumSign 10 = .ok (.iload_n 0, 1) := by decide +kernel
theorem dX12_sumSign_11 : decode cX12_sumSign 11 = .ok (.bipush 45, 2) := by decide +kernel
theorem dX12_sumSign_13 : decode cX12_sumSign 13 = .ok (.if_icmp .ne 7, 3) := by decide +kernel
theorem dX12_sumSign_16 : decode cX12_sumSign 16 = .ok (.iconst 3, 1) := by decide +kernel
theorem dX12_sumSign_17 : decode cX12_sumSign 17 = .ok (.goto 35, 3) := by decide +kernel
theorem dX12_sumSign_20 : decode cX12_sumSign 20 = .ok (.iload_n 0, 1) := by decide +kernel
theorem dX12_sumSign_21 : decode cX12_sumSign 21 = .ok (.bipush 42, 2) := by decide +kernel
theorem dX12_sumSign_23 : decode cX12_sumSign 23 = .ok (.if_icmp .ne 7, 3) := by decide +kernel
theorem dX12_sumSign_26 : decode cX12_sumSign 26 = .ok (.iconst 4, 1) := by decide +kernel
theorem dX12_sumSign_27 : decode cX12_sumSign 27 = .ok (.goto 25, 3) := by decide +kernel
theorem dX12_sumSign_30 : decode cX12_sumSign 30 = .ok (.iload_n 0, 1) := by decide +kernel
theorem dX12_sumSign_31 : decode cX12_sumSign 31 = .ok (.bipush 47, 2) := by decide +kernel
theorem dX12_sumSign_33 : decode cX12_sumSign 33 = .ok (.if_icmp .ne 7, 3) := by decide +kernel
theorem dX12_sumSign_36 : decode cX12_sumSign 36 = .ok (.iconst 5, 1) := by decide +kernel
theorem dX12_sumSign_37 : decode cX12_sumSign 37 = .ok (.goto 15, 3) := by decide +kernel
theorem dX12_sumSign_40 : decode cX12_sumSign 40 = .ok (.iload_n 0, 1) := by decide +kernel
theorem dX12_sumSign_41 : decode cX12_sumSign 41 = .ok (.bipush 37, 2) := by decide +kernel
theorem dX12_sumSign_43 : decode cX12_sumSign 43 = .ok (.if_icmp .ne 8, 3) := by decide +kernel
theorem dX12_sumSign_46 : decode cX12_sumSign 46 = .ok (.bipush 6, 2) := by decide +kernel
theorem dX12_sumSign_48 : decode cX12_sumSign 48 = .ok (.goto 4, 3) := by decide +kernel
theorem dX12_sumSign_51 : decode cX12_sumSign 51 = .ok (.iconst (-1), 1) := by decide +kernel
theorem dX12_sumSign_52 : decode cX12_sumSign 52 = .ok (.ireturn, 1) := by decide +kernel
theorem dX12_closesSums_0 : decode cX12_closesSums 0 = .ok (.aload_n 0, 1) := by decide +kernel
theorem dX12_closesSums_1 : decode cX12_closesSums 1 = .ok (.invokevirtual 243, 3) := by decide +kernel
theorem dX12_closesSums_4 : decode cX12_closesSums 4 = .ok (.iconst 4, 1) := by decide +kernel
theorem dX12_closesSums_5 : decode cX12_closesSums 5 = .ok (.if_icmp .lt 12, 3) := by decide +kernel
theorem dX12_closesSums_8 : decode cX12_closesSums 8 = .ok (.aload_n 0, 1) := by decide +kernel
theorem dX12_closesSums_9 : decode cX12_closesSums 9 = .ok (.invokevirtual 243, 3) := by decide +kernel
theorem dX12_closesSums_12 : decode cX12_closesSums 12 = .ok (.bipush 6, 2) := by decide +kernel
theorem dX12_closesSums_14 : decode cX12_closesSums 14 = .ok (.if_icmp .le 23, 3) := by decide +kernel
theorem dX12_closesSums_17 : decode cX12_closesSums 17 = .ok (.iload_n 1, 1) := by decide +kernel
theorem dX12_closesSums_18 : decode cX12_closesSums 18 = .ok (.ifCond .eq 41, 3) := by decide +kernel
theorem dX12_closesSums_21 : decode cX12_closesSums 21 = .ok (.aload_n 0, 1) := by decide +kernel
theorem dX12_closesSums_22 : decode cX12_closesSums 22 = .ok (.invokevirtual 243, 3) := by decide +kernel
theorem dX12_closesSums_25 : decode cX12_closesSums 25 = .ok (.iconst 2, 1) := by decide +kernel
theorem dX12_closesSums_26 : decode cX12_closesSums 26 = .ok (.if_icmp .eq 11, 3) := by decide +kernel
theorem dX12_closesSums_29 : decode cX12_closesSums 29 = .ok (.aload_n 0, 1) := by decide +kernel
theorem dX12_closesSums_30 : decode cX12_closesSums 30 = .ok (.invokevirtual 243, 3) := by decide +kernel
theorem dX12_closesSums_33 : decode cX12_closesSums 33 = .ok (.iconst 3, 1) := by decide +kernel
theorem dX12_closesSums_34 : decode cX12_closesSums 34 = .ok (.if_icmp .ne 25, 3) := by decide +kernel
theorem dX12_closesSums_37 : decode cX12_closesSums 37 = .ok (.aload_n 0, 1) := by decide +kernel
theorem dX12_closesSums_38 : decode cX12_closesSums 38 = .ok (.aload_n 0, 1) := by decide +kernel
theorem dX12_closesSums_39 : decode cX12_closesSums 39 = .ok (.invokevirtual 243, 3) := by decide +kernel
theorem dX12_closesSums_42 : decode cX12_closesSums 42 = .ok (.iconst 0, 1) := by decide +kernel
theorem dX12_closesSums_43 : decode cX12_closesSums 43 = .ok (.invokevirtual 246, 3) := by decide +kernel
theorem dX12_closesSums_46 : decode cX12_closesSums 46 = .ok (.aload_n 0, 1) := by decide +kernel
theorem dX12_closesSums_47 : decode cX12_closesSums 47 = .ok (.aload_n 0, 1) := by decide +kernel
theorem dX12_closesSums_48 : decode cX12_closesSums 48 = .ok (.getfield 240, 3) := by decide +kernel
theorem dX12_closesSums_51 : decode cX12_closesSums 51 = .ok (.iconst 1, 1) := by decide +kernel
theorem dX12_closesSums_52 : decode cX12_closesSums 52 = .ok (.isub, 1) := by decide +kernel
theorem dX12_closesSums_53 : decode cX12_closesSums 53 = .ok (.putfield 240, 3) := by decide +kernel
theorem dX12_closesSums_56 : decode cX12_closesSums 56 = .ok (.goto (-56), 3) := by decide +kernel
theorem dX12_closesSums_59 : decode cX12_closesSums 59 = .ok (.return_, 1) := by decide +kernel
theorem dX12_hasOpenSum_0 : decode cX12_hasOpenSum 0 = .ok (.iload_n 1, 1) := by decide +kernel
theorem dX12_hasOpenSum_1 : decode cX12_hasOpenSum 1 = .ok (.istore_n 2, 1) := by decide +kernel
theorem dX12_hasOpenSum_2 : decode cX12_hasOpenSum 2 = .ok (.iload_n 2, 1) := by decide +kernel
theorem dX12_hasOpenSum_3 : decode cX12_hasOpenSum 3 = .ok (.aload_n 0, 1) := by decide +kernel
theorem dX12_hasOpenSum_4 : decode cX12_hasOpenSum 4 = .ok (.getfield 240, 3) := by decide +kernel
theorem dX12_hasOpenSum_7 : decode cX12_hasOpenSum 7 = .ok (.if_icmp .ge 25, 3) := by decide +kernel
theorem dX12_hasOpenSum_10 : decode cX12_hasOpenSum 10 = .ok (.aload_n 0, 1) := by decide +kernel
theorem dX12_hasOpenSum_11 : decode cX12_hasOpenSum 11 = .ok (.getfield 36, 3) := by decide +kernel
theorem dX12_hasOpenSum_14 : decode cX12_hasOpenSum 14 = .ok (.iload_n 2, 1) := by decide +kernel
theorem dX12_hasOpenSum_15 : decode cX12_hasOpenSum 15 = .ok (.iaload, 1) := by decide +kernel
theorem dX12_hasOpenSum_16 : decode cX12_hasOpenSum 16 = .ok (.ldc 236, 2) := by decide +kernel
theorem dX12_hasOpenSum_18 : decode cX12_hasOpenSum 18 = .ok (.idiv, 1) := by decide +kernel
theorem dX12_hasOpenSum_19 : decode cX12_hasOpenSum 19 = .ok (.bipush 14, 2) := by decide +kernel
theorem dX12_hasOpenSum_21 : decode cX12_hasOpenSum 21 = .ok (.if_icmp .ne 5, 3) := by decide +kernel
theorem dX12_hasOpenSum_24 : decode cX12_hasOpenSum 24 = .ok (.iconst 1, 1) := by decide +kernel
theorem dX12_hasOpenSum_25 : decode cX12_hasOpenSum 25 = .ok (.ireturn, 1) := by decide +kernel
theorem dX12_hasOpenSum_26 : decode cX12_hasOpenSum 26 = .ok (.iinc 2 1, 3) := by decide +kernel
theorem dX12_hasOpenSum_29 : decode cX12_hasOpenSum 29 = .ok (.goto (-27), 3) := by decide +kernel
theorem dX12_hasOpenSum_32 : decode cX12_hasOpenSum 32 = .ok (.iconst 0, 1) := by decide +kernel
theorem dX12_hasOpenSum_33 : decode cX12_hasOpenSum 33 = .ok (.ireturn, 1) := by decide +kernel
theorem dX12_endsPiece_0 : decode cX12_endsPiece 0 = .ok (.aload_n 0, 1) := by decide +kernel
theorem dX12_endsPiece_1 : decode cX12_endsPiece 1 = .ok (.invokevirtual 243, 3) := by decide +kernel
theorem dX12_endsPiece_4 : decode cX12_endsPiece 4 = .ok (.bipush 10, 2) := by decide +kernel
theorem dX12_endsPiece_6 : decode cX12_endsPiece 6 = .ok (.if_icmp .ne 33, 3) := by decide +kernel
theorem dX12_endsPiece_9 : decode cX12_endsPiece 9 = .ok (.aload_n 0, 1) := by decide +kernel
theorem dX12_endsPiece_10 : decode cX12_endsPiece 10 = .ok (.bipush 10, 2) := by decide +kernel
theorem dX12_endsPiece_12 : decode cX12_endsPiece 12 = .ok (.iconst 0, 1) := by decide +kernel
theorem dX12_endsPiece_13 : decode cX12_endsPiece 13 = .ok (.invokevirtual 246, 3) := by decide +kernel
theorem dX12_endsPiece_16 : decode cX12_endsPiece 16 = .ok (.aload_n 0, 1) := by decide +kernel
theorem dX12_endsPiece_17 : decode cX12_endsPiece 17 = .ok (.aload_n 0, 1) := by decide +kernel
theorem dX12_endsPiece_18 : decode cX12_endsPiece 18 = .ok (.getfield 240, 3) := by decide +kernel
theorem dX12_endsPiece_21 : decode cX12_endsPiece 21 = .ok (.iconst 1, 1) := by decide +kernel
theorem dX12_endsPiece_22 : decode cX12_endsPiece 22 = .ok (.isub, 1) := by decide +kernel
theorem dX12_endsPiece_23 : decode cX12_endsPiece 23 = .ok (.putfield 240, 3) := by decide +kernel
theorem dX12_endsPiece_26 : decode cX12_endsPiece 26 = .ok (.aload_n 0, 1) := by decide +kernel
theorem dX12_endsPiece_27 : decode cX12_endsPiece 27 = .ok (.aload_n 0, 1) := by decide +kernel
theorem dX12_endsPiece_28 : decode cX12_endsPiece 28 = .ok (.getfield 237, 3) := by decide +kernel
theorem dX12_endsPiece_31 : decode cX12_endsPiece 31 = .ok (.iconst 1, 1) := by decide +kernel
theorem dX12_endsPiece_32 : decode cX12_endsPiece 32 = .ok (.isub, 1) := by decide +kernel
theorem dX12_endsPiece_33 : decode cX12_endsPiece 33 = .ok (.putfield 237, 3) := by decide +kernel
theorem dX12_endsPiece_36 : decode cX12_endsPiece 36 = .ok (.goto (-36), 3) := by decide +kernel
theorem dX12_endsPiece_39 : decode cX12_endsPiece 39 = .ok (.return_, 1) := by decide +kernel
theorem dX12_jumps_0 : decode cX12_jumps 0 = .ok (.aload_n 0, 1) := by decide +kernel
theorem dX12_jumps_1 : decode cX12_jumps 1 = .ok (.getfield 36, 3) := by decide +kernel
theorem dX12_jumps_4 : decode cX12_jumps 4 = .ok (.aload_n 0, 1) := by decide +kernel
theorem dX12_jumps_5 : decode cX12_jumps 5 = .ok (.getfield 240, 3) := by decide +kernel
theorem dX12_jumps_8 : decode cX12_jumps 8 = .ok (.ldc 236, 2) := by decide +kernel
theorem dX12_jumps_10 : decode cX12_jumps 10 = .ok (.iload_n 1, 1) := by decide +kernel
theorem dX12_jumps_11 : decode cX12_jumps 11 = .ok (.imul, 1) := by decide +kernel
theorem dX12_jumps_12 : decode cX12_jumps 12 = .ok (.aload_n 0, 1) := by decide +kernel
theorem dX12_jumps_13 : decode cX12_jumps 13 = .ok (.getfield 233, 3) := by decide +kernel
theorem dX12_jumps_16 : decode cX12_jumps 16 = .ok (.iadd, 1) := by decide +kernel
theorem dX12_jumps_17 : decode cX12_jumps 17 = .ok (.iastore, 1) := by decide +kernel
theorem dX12_jumps_18 : decode cX12_jumps 18 = .ok (.aload_n 0, 1) := by decide +kernel
theorem dX12_jumps_19 : decode cX12_jumps 19 = .ok (.aload_n 0, 1) := by decide +kernel
theorem dX12_jumps_20 : decode cX12_jumps 20 = .ok (.getfield 240, 3) := by decide +kernel
theorem dX12_jumps_23 : decode cX12_jumps 23 = .ok (.iconst 1, 1) := by decide +kernel
theorem dX12_jumps_24 : decode cX12_jumps 24 = .ok (.iadd, 1) := by decide +kernel
theorem dX12_jumps_25 : decode cX12_jumps 25 = .ok (.putfield 240, 3) := by decide +kernel
theorem dX12_jumps_28 : decode cX12_jumps 28 = .ok (.aload_n 0, 1) := by decide +kernel
theorem dX12_jumps_29 : decode cX12_jumps 29 = .ok (.iload_n 1, 1) := by decide +kernel
theorem dX12_jumps_30 : decode cX12_jumps 30 = .ok (.iconst 0, 1) := by decide +kernel
theorem dX12_jumps_31 : decode cX12_jumps 31 = .ok (.invokevirtual 246, 3) := by decide +kernel
theorem dX12_jumps_34 : decode cX12_jumps 34 = .ok (.aload_n 0, 1) := by decide +kernel
theorem dX12_jumps_35 : decode cX12_jumps 35 = .ok (.aload_n 0, 1) := by decide +kernel
theorem dX12_jumps_36 : decode cX12_jumps 36 = .ok (.getfield 210, 3) := by decide +kernel
theorem dX12_jumps_39 : decode cX12_jumps 39 = .ok (.iconst 1, 1) := by decide +kernel
theorem dX12_jumps_40 : decode cX12_jumps 40 = .ok (.iadd, 1) := by decide +kernel
theorem dX12_jumps_41 : decode cX12_jumps 41 = .ok (.putfield 210, 3) := by decide +kernel
theorem dX12_jumps_44 : decode cX12_jumps 44 = .ok (.return_, 1) := by decide +kernel
theorem dX12_reckon_0 : decode cX12_reckon 0 = .ok (.iload_n 0, 1) := by decide +kernel
theorem dX12_reckon_1 : decode cX12_reckon 1 = .ok (.tableswitch 85 2 8 #[43, 47, 51, 55, 59, 63, 74], 43) := by decide +kernel
theorem dX12_reckon_44 : decode cX12_reckon 44 = .ok (.iload_n 1, 1) := by decide +kernel
theorem dX12_reckon_45 : decode cX12_reckon 45 = .ok (.iload_n 2, 1) := by decide +kernel
theorem dX12_reckon_46 : decode cX12_reckon 46 = .ok (.iadd, 1) := by decide +kernel
theorem dX12_reckon_47 : decode cX12_reckon 47 = .ok (.ireturn, 1) := by decide +kernel
theorem dX12_reckon_48 : decode cX12_reckon 48 = .ok (.iload_n 1, 1) := by decide +kernel
theorem dX12_reckon_49 : decode cX12_reckon 49 = .ok (.iload_n 2, 1) := by decide +kernel
theorem dX12_reckon_50 : decode cX12_reckon 50 = .ok (.isub, 1) := by decide +kernel
theorem dX12_reckon_51 : decode cX12_reckon 51 = .ok (.ireturn, 1) := by decide +kernel
theorem dX12_reckon_52 : decode cX12_reckon 52 = .ok (.iload_n 1, 1) := by decide +kernel
theorem dX12_reckon_53 : decode cX12_reckon 53 = .ok (.iload_n 2, 1) := by decide +kernel
theorem dX12_reckon_54 : decode cX12_reckon 54 = .ok (.imul, 1) := by decide +kernel
theorem dX12_reckon_55 : decode cX12_reckon 55 = .ok (.ireturn, 1) := by decide +kernel
theorem dX12_reckon_56 : decode cX12_reckon 56 = .ok (.iload_n 1, 1) := by decide +kernel
theorem dX12_reckon_57 : decode cX12_reckon 57 = .ok (.iload_n 2, 1) := by decide +kernel
theorem dX12_reckon_58 : decode cX12_reckon 58 = .ok (.idiv, 1) := by decide +kernel
theorem dX12_reckon_59 : decode cX12_reckon 59 = .ok (.ireturn, 1) := by decide +kernel
theorem dX12_reckon_60 : decode cX12_reckon 60 = .ok (.iload_n 1, 1) := by decide +kernel
theorem dX12_reckon_61 : decode cX12_reckon 61 = .ok (.iload_n 2, 1) := by decide +kernel
theorem dX12_reckon_62 : decode cX12_reckon 62 = .ok (.irem, 1) := by decide +kernel
theorem dX12_reckon_63 : decode cX12_reckon 63 = .ok (.ireturn, 1) := by decide +kernel
theorem dX12_reckon_64 : decode cX12_reckon 64 = .ok (.iload_n 1, 1) := by decide +kernel
theorem dX12_reckon_65 : decode cX12_reckon 65 = .ok (.iload_n 2, 1) := by decide +kernel
theorem dX12_reckon_66 : decode cX12_reckon 66 = .ok (.if_icmp .ge 7, 3) := by decide +kernel
theorem dX12_reckon_69 : decode cX12_reckon 69 = .ok (.iconst 1, 1) := by decide +kernel
theorem dX12_reckon_70 : decode cX12_reckon 70 = .ok (.goto 4, 3) := by decide +kernel
theorem dX12_reckon_73 : decode cX12_reckon 73 = .ok (.iconst 0, 1) := by decide +kernel
theorem dX12_reckon_74 : decode cX12_reckon 74 = .ok (.ireturn, 1) := by decide +kernel
theorem dX12_reckon_75 : decode cX12_reckon 75 = .ok (.iload_n 1, 1) := by decide +kernel
theorem dX12_reckon_76 : decode cX12_reckon 76 = .ok (.iload_n 2, 1) := by decide +kernel
theorem dX12_reckon_77 : decode cX12_reckon 77 = .ok (.if_icmp .le 7, 3) := by decide +kernel
theorem dX12_reckon_80 : decode cX12_reckon 80 = .ok (.iconst 1, 1) := by decide +kernel
theorem dX12_reckon_81 : decode cX12_reckon 81 = .ok (.goto 4, 3) := by decide +kernel
theorem dX12_reckon_84 : decode cX12_reckon 84 = .ok (.iconst 0, 1) := by decide +kernel
theorem dX12_reckon_85 : decode cX12_reckon 85 = .ok (.ireturn, 1) := by decide +kernel
theorem dX12_reckon_86 : decode cX12_reckon 86 = .ok (.iload_n 1, 1) := by decide +kernel
theorem dX12_reckon_87 : decode cX12_reckon 87 = .ok (.iload_n 2, 1) := by decide +kernel
theorem dX12_reckon_88 : decode cX12_reckon 88 = .ok (.if_icmp .ne 7, 3) := by decide +kernel
theorem dX12_reckon_91 : decode cX12_reckon 91 = .ok (.iconst 1, 1) := by decide +kernel
theorem dX12_reckon_92 : decode cX12_reckon 92 = .ok (.goto 4, 3) := by decide +kernel
theorem dX12_reckon_95 : decode cX12_reckon 95 = .ok (.iconst 0, 1) := by decide +kernel
theorem dX12_reckon_96 : decode cX12_reckon 96 = .ok (.ireturn, 1) := by decide +kernel
theorem dX12_comesTo_0 : decode cX12_comesTo 0 = .ok (.iconst 0, 1) := by decide +kernel
theorem dX12_comesTo_1 : decode cX12_comesTo 1 = .ok (.istore_n 3, 1) := by decide +kernel
theorem dX12_comesTo_2 : decode cX12_comesTo 2 = .ok (.sipush 220, 3) := by decide +kernel
theorem dX12_comesTo_5 : decode cX12_comesTo 5 = .ok (.iload_n 1, 1) := by decide +kernel
theorem dX12_comesTo_6 : decode cX12_comesTo 6 = .ok (.sipush 220, 3) := by decide +kernel
theorem dX12_comesTo_9 : decode cX12_comesTo 9 = .ok (.idiv, 1) := by decide +kernel
theorem dX12_comesTo_10 : decode cX12_comesTo 10 = .ok (.imul, 1) := by decide +kernel
theorem dX12_comesTo_11 : decode cX12_comesTo 11 = .ok (.istore 4, 2) := by decide +kernel
theorem dX12_comesTo_13 : decode cX12_comesTo 13 = .ok (.iload_n 1, 1) := by decide +kernel
theorem dX12_comesTo_14 : decode cX12_comesTo 14 = .ok (.istore 5, 2) := by decide +kernel
theorem dX12_comesTo_16 : decode cX12_comesTo 16 = .ok (.iload 5, 2) := by decide +kernel
theorem dX12_comesTo_18 : decode cX12_comesTo 18 = .ok (.iload_n 2, 1) := by decide +kernel
theorem dX12_comesTo_19 : decode cX12_comesTo 19 = .ok (.if_icmp .ge 214, 3) := by decide +kernel
theorem dX12_comesTo_22 : decode cX12_comesTo 22 = .ok (.aload_n 0, 1) := by decide +kernel
theorem dX12_comesTo_23 : decode cX12_comesTo 23 = .ok (.getfield 51, 3) := by decide +kernel
theorem dX12_comesTo_26 : decode cX12_comesTo 26 = .ok (.iload 5, 2) := by decide +kernel
theorem dX12_comesTo_28 : decode cX12_comesTo 28 = .ok (.iaload, 1) := by decide +kernel
theorem dX12_comesTo_29 : decode cX12_comesTo 29 = .ok (.ldc 236, 2) := by decide +kernel
theorem dX12_comesTo_31 : decode cX12_comesTo 31 = .ok (.idiv, 1) := by decide +kernel
theorem dX12_comesTo_32 : decode cX12_comesTo 32 = .ok (.istore 6, 2) := by decide +kernel
theorem dX12_comesTo_34 : decode cX12_comesTo 34 = .ok (.aload_n 0, 1) := by decide +kernel
theorem dX12_comesTo_35 : decode cX12_comesTo 35 = .ok (.getfield 51, 3) := by decide +kernel
theorem dX12_comesTo_38 : decode cX12_comesTo 38 = .ok (.iload 5, 2) := by decide +kernel
theorem dX12_comesTo_40 : decode cX12_comesTo 40 = .ok (.iaload, 1) := by decide +kernel
theorem dX12_comesTo_41 : decode cX12_comesTo 41 = .ok (.ldc 236, 2) := by decide +kernel
theorem dX12_comesTo_43 : decode cX12_comesTo 43 = .ok (.irem, 1) := by decide +kernel
theorem dX12_comesTo_44 : decode cX12_comesTo 44 = .ok (.istore 7, 2) := by decide +kernel
theorem dX12_comesTo_46 : decode cX12_comesTo 46 = .ok (.iload 5, 2) := by decide +kernel
theorem dX12_comesTo_48 : decode cX12_comesTo 48 = .ok (.iconst 1, 1) := by decide +kernel
theorem dX12_comesTo_49 : decode cX12_comesTo 49 = .ok (.iadd, 1) := by decide +kernel
theorem dX12_comesTo_50 : decode cX12_comesTo 50 = .ok (.istore 5, 2) := by decide +kernel
theorem dX12_comesTo_52 : decode cX12_comesTo 52 = .ok (.iload 6, 2) := by decide +kernel
theorem dX12_comesTo_54 : decode cX12_comesTo 54 = .ok (.ifCond .eq 9, 3) := by decide +kernel
theorem dX12_comesTo_57 : decode cX12_comesTo 57 = .ok (.iload 6, 2) := by decide +kernel
theorem dX12_comesTo_59 : decode cX12_comesTo 59 = .ok (.iconst 1, 1) := by decide +kernel
theorem dX12_comesTo_60 : decode cX12_comesTo 60 = .ok (.if_icmp .ne 33, 3) := by decide +kernel
theorem dX12_comesTo_63 : decode cX12_comesTo 63 = .ok (.aload_n 0, 1) := by decide +kernel
theorem dX12_comesTo_64 : decode cX12_comesTo 64 = .ok (.getfield 66, 3) := by decide +kernel
theorem dX12_comesTo_67 : decode cX12_comesTo 67 = .ok (.iload_n 3, 1) := by decide +kernel
theorem dX12_comesTo_68 : decode cX12_comesTo 68 = .ok (.iload 6, 2) := by decide +kernel
theorem dX12_comesTo_70 : decode cX12_comesTo 70 = .ok (.ifCond .ne 8, 3) := by decide +kernel
theorem dX12_comesTo_73 : decode cX12_comesTo 73 = .ok (.iload 7, 2) := by decide +kernel
theorem dX12_comesTo_75 : decode cX12_comesTo 75 = .ok (.goto 10, 3) := by decide +kernel
theorem dX12_comesTo_78 : decode cX12_comesTo 78 = .ok (.aload_n 0, 1) := by decide +kernel
theorem dX12_comesTo_79 : decode cX12_comesTo 79 = .ok (.getfield 69, 3) := by decide +kernel
theorem dX12_comesTo_82 : decode cX12_comesTo 82 = .ok (.iload 7, 2) := by decide +kernel
theorem dX12_comesTo_84 : decode cX12_comesTo 84 = .ok (.iaload, 1) := by decide +kernel
theorem dX12_comesTo_85 : decode cX12_comesTo 85 = .ok (.iastore, 1) := by decide +kernel
theorem dX12_comesTo_86 : decode cX12_comesTo 86 = .ok (.iload_n 3, 1) := by decide +kernel
theorem dX12_comesTo_87 : decode cX12_comesTo 87 = .ok (.iconst 1, 1) := by decide +kernel
theorem dX12_comesTo_88 : decode cX12_comesTo 88 = .ok (.iadd, 1) := by decide +kernel
theorem dX12_comesTo_89 : decode cX12_comesTo 89 = .ok (.istore_n 3, 1) := by decide +kernel
theorem dX12_comesTo_90 : decode cX12_comesTo 90 = .ok (.goto 140, 3) := by decide +kernel
theorem dX12_comesTo_93 : decode cX12_comesTo 93 = .ok (.iload 6, 2) := by decide +kernel
theorem dX12_comesTo_95 : decode cX12_comesTo 95 = .ok (.bipush 10, 2) := by decide +kernel
theorem dX12_comesTo_97 : decode cX12_comesTo 97 = .ok (.if_icmp .ne 24, 3) := by decide +kernel
theorem dX12_comesTo_100 : decode cX12_comesTo 100 = .ok (.aload_n 0, 1) := by decide +kernel
theorem dX12_comesTo_101 : decode cX12_comesTo 101 = .ok (.getfield 66, 3) := by decide +kernel
theorem dX12_comesTo_104 : decode cX12_comesTo 104 = .ok (.iload_n 3, 1) := by decide +kernel
theorem dX12_comesTo_105 : decode cX12_comesTo 105 = .ok (.iconst 1, 1) := by decide +kernel
theorem dX12_comesTo_106 : decode cX12_comesTo 106 = .ok (.isub, 1) := by decide +kernel
theorem dX12_comesTo_107 : decode cX12_comesTo 107 = .ok (.iconst 1, 1) := by decide +kernel
theorem dX12_comesTo_108 : decode cX12_comesTo 108 = .ok (.aload_n 0, 1) := by decide +kernel
theorem dX12_comesTo_109 : decode cX12_comesTo 109 = .ok (.getfield 66, 3) := by decide +kernel
theorem dX12_comesTo_112 : decode cX12_comesTo 112 = .ok (.iload_n 3, 1) := by decide +kernel
theorem dX12_comesTo_113 : decode cX12_comesTo 113 = .ok (.iconst 1, 1) := by decide +kernel
theorem dX12_comesTo_114 : decode cX12_comesTo 114 = .ok (.isub, 1) := by decide +kernel
theorem dX12_comesTo_115 : decode cX12_comesTo 115 = .ok (.iaload, 1) := by decide +kernel
theorem dX12_comesTo_116 : decode cX12_comesTo 116 = .ok (.isub, 1) := by decide +kernel
theorem dX12_comesTo_117 : decode cX12_comesTo 117 = .ok (.iastore, 1) := by decide +kernel
theorem dX12_comesTo_118 : decode cX12_comesTo 118 = .ok (.goto 112, 3) := by decide +kernel
theorem dX12_comesTo_121 : decode cX12_comesTo 121 = .ok (.iload 6, 2) := by decide +kernel
theorem dX12_comesTo_123 : decode cX12_comesTo 123 = .ok (.bipush 11, 2) := by decide +kernel
theorem dX12_comesTo_125 : decode cX12_comesTo 125 = .ok (.if_icmp .eq 10, 3) := by decide +kernel
theorem dX12_comesTo_128 : decode cX12_comesTo 128 = .ok (.iload 6, 2) := by decide +kernel
theorem dX12_comesTo_130 : decode cX12_comesTo 130 = .ok (.bipush 12, 2) := by decide +kernel
theorem dX12_comesTo_132 : decode cX12_comesTo 132 = .ok (.if_icmp .ne 43, 3) := by decide +kernel
theorem dX12_comesTo_135 : decode cX12_comesTo 135 = .ok (.aload_n 0, 1) := by decide +kernel
theorem dX12_comesTo_136 : decode cX12_comesTo 136 = .ok (.getfield 66, 3) := by decide +kernel
theorem dX12_comesTo_139 : decode cX12_comesTo 139 = .ok (.iload_n 3, 1) := by decide +kernel
theorem dX12_comesTo_140 : decode cX12_comesTo 140 = .ok (.iconst 1, 1) := by decide +kernel
theorem dX12_comesTo_141 : decode cX12_comesTo 141 = .ok (.isub, 1) := by decide +kernel
theorem dX12_comesTo_142 : decode cX12_comesTo 142 = .ok (.iaload, 1) := by decide +kernel
theorem dX12_comesTo_143 : decode cX12_comesTo 143 = .ok (.iload 6, 2) := by decide +kernel
theorem dX12_comesTo_145 : decode cX12_comesTo 145 = .ok (.bipush 12, 2) := by decide +kernel
theorem dX12_comesTo_147 : decode cX12_comesTo 147 = .ok (.if_icmp .ne 7, 3) := by decide +kernel
theorem dX12_comesTo_150 : decode cX12_comesTo 150 = .ok (.iconst 1, 1) := by decide +kernel
theorem dX12_comesTo_151 : decode cX12_comesTo 151 = .ok (.goto 4, 3) := by decide +kernel
theorem dX12_comesTo_154 : decode cX12_comesTo 154 = .ok (.iconst 0, 1) := by decide +kernel
theorem dX12_comesTo_155 : decode cX12_comesTo 155 = .ok (.if_icmp .ne 13, 3) := by decide +kernel
theorem dX12_comesTo_158 : decode cX12_comesTo 158 = .ok (.iload 4, 2) := by decide +kernel
theorem dX12_comesTo_160 : decode cX12_comesTo 160 = .ok (.iload 7, 2) := by decide +kernel
theorem dX12_comesTo_162 : decode cX12_comesTo 162 = .ok (.iadd, 1) := by decide +kernel
theorem dX12_comesTo_163 : decode cX12_comesTo 163 = .ok (.istore 5, 2) := by decide +kernel
theorem dX12_comesTo_165 : decode cX12_comesTo 165 = .ok (.goto 65, 3) := by decide +kernel
theorem dX12_comesTo_168 : decode cX12_comesTo 168 = .ok (.iload_n 3, 1) := by decide +kernel
theorem dX12_comesTo_169 : decode cX12_comesTo 169 = .ok (.iconst 1, 1) := by decide +kernel
theorem dX12_comesTo_170 : decode cX12_comesTo 170 = .ok (.isub, 1) := by decide +kernel
theorem dX12_comesTo_171 : decode cX12_comesTo 171 = .ok (.istore_n 3, 1) := by decide +kernel
theorem dX12_comesTo_172 : decode cX12_comesTo 172 = .ok (.goto 58, 3) := by decide +kernel
theorem dX12_comesTo_175 : decode cX12_comesTo 175 = .ok (.iload_n 3, 1) := by decide +kernel
theorem dX12_comesTo_176 : decode cX12_comesTo 176 = .ok (.iconst 1, 1) := by decide +kernel
theorem dX12_comesTo_177 : decode cX12_comesTo 177 = .ok (.isub, 1) := by decide +kernel
theorem dX12_comesTo_178 : decode cX12_comesTo 178 = .ok (.istore_n 3, 1) := by decide +kernel
theorem dX12_comesTo_179 : decode cX12_comesTo 179 = .ok (.iload 6, 2) := by decide +kernel
theorem dX12_comesTo_181 : decode cX12_comesTo 181 = .ok (.iconst 5, 1) := by decide +kernel
theorem dX12_comesTo_182 : decode cX12_comesTo 182 = .ok (.if_icmp .eq 10, 3) := by decide +kernel
theorem dX12_comesTo_185 : decode cX12_comesTo 185 = .ok (.iload 6, 2) := by decide +kernel
theorem dX12_comesTo_187 : decode cX12_comesTo 187 = .ok (.bipush 6, 2) := by decide +kernel
theorem dX12_comesTo_189 : decode cX12_comesTo 189 = .ok (.if_icmp .ne 14, 3) := by decide +kernel
theorem dX12_comesTo_192 : decode cX12_comesTo 192 = .ok (.aload_n 0, 1) := by decide +kernel
theorem dX12_comesTo_193 : decode cX12_comesTo 193 = .ok (.getfield 66, 3) := by decide +kernel
theorem dX12_comesTo_196 : decode cX12_comesTo 196 = .ok (.iload_n 3, 1) := by decide +kernel
theorem dX12_comesTo_197 : decode cX12_comesTo 197 = .ok (.iaload, 1) := by decide +kernel
theorem dX12_comesTo_198 : decode cX12_comesTo 198 = .ok (.ifCond .ne 5, 3) := by decide +kernel
theorem dX12_comesTo_201 : decode cX12_comesTo 201 = .ok (.iconst 0, 1) := by decide +kernel
theorem dX12_comesTo_202 : decode cX12_comesTo 202 = .ok (.ireturn, 1) := by decide +kernel
theorem dX12_comesTo_203 : decode cX12_comesTo 203 = .ok (.aload_n 0, 1) := by decide +kernel
theorem dX12_comesTo_204 : decode cX12_comesTo 204 = .ok (.getfield 66, 3) := by decide +kernel
theorem dX12_comesTo_207 : decode cX12_comesTo 207 = .ok (.iload_n 3, 1) := by decide +kernel
theorem dX12_comesTo_208 : decode cX12_comesTo 208 = .ok (.iconst 1, 1) := by decide +kernel
theorem dX12_comesTo_209 : decode cX12_comesTo 209 = .ok (.isub, 1) := by decide +kernel
theorem dX12_comesTo_210 : decode cX12_comesTo 210 = .ok (.iload 6, 2) := by decide +kernel
theorem dX12_comesTo_212 : decode cX12_comesTo 212 = .ok (.aload_n 0, 1) := by decide +kernel
theorem dX12_comesTo_213 : decode cX12_comesTo 213 = .ok (.getfield 66, 3) := by decide +kernel
theorem dX12_comesTo_216 : decode cX12_comesTo 216 = .ok (.iload_n 3, 1) := by decide +kernel
theorem dX12_comesTo_217 : decode cX12_comesTo 217 = .ok (.iconst 1, 1) := by decide +kernel
theorem dX12_comesTo_218 : decode cX12_comesTo 218 = .ok (.isub, 1) := by decide +kernel
theorem dX12_comesTo_219 : decode cX12_comesTo 219 = .ok (.iaload, 1) := by decide +kernel
theorem dX12_comesTo_220 : decode cX12_comesTo 220 = .ok (.aload_n 0, 1) := by decide +kernel
theorem dX12_comesTo_221 : decode cX12_comesTo 221 = .ok (.getfield 66, 3) := by decide +kernel
theorem dX12_comesTo_224 : decode cX12_comesTo 224 = .ok (.iload_n 3, 1) := by decide +kernel
theorem dX12_comesTo_225 : decode cX12_comesTo 225 = .ok (.iaload, 1) := by decide +kernel
theorem dX12_comesTo_226 : decode cX12_comesTo 226 = .ok (.invokestatic 302, 3) := by decide +kernel
theorem dX12_comesTo_229 : decode cX12_comesTo 229 = .ok (.iastore, 1) := by decide +kernel
theorem dX12_comesTo_230 : decode cX12_comesTo 230 = .ok (.goto (-214), 3) := by decide +kernel
theorem dX12_comesTo_233 : decode cX12_comesTo 233 = .ok (.aload_n 0, 1) := by decide +kernel
theorem dX12_comesTo_234 : decode cX12_comesTo 234 = .ok (.getfield 66, 3) := by decide +kernel
theorem dX12_comesTo_237 : decode cX12_comesTo 237 = .ok (.iconst 0, 1) := by decide +kernel
theorem dX12_comesTo_238 : decode cX12_comesTo 238 = .ok (.iaload, 1) := by decide +kernel
theorem dX12_comesTo_239 : decode cX12_comesTo 239 = .ok (.ireturn, 1) := by decide +kernel
theorem dX12_makes_0 : decode cX12_makes 0 = .ok (.aload_n 0, 1) := by decide +kernel
theorem dX12_makes_1 : decode cX12_makes 1 = .ok (.getfield 78, 3) := by decide +kernel
theorem dX12_makes_4 : decode cX12_makes 4 = .ok (.aload_n 0, 1) := by decide +kernel
theorem dX12_makes_5 : decode cX12_makes 5 = .ok (.getfield 328, 3) := by decide +kernel
theorem dX12_makes_8 : decode cX12_makes 8 = .ok (.iload_n 1, 1) := by decide +kernel
theorem dX12_makes_9 : decode cX12_makes 9 = .ok (.iastore, 1) := by decide +kernel
theorem dX12_makes_10 : decode cX12_makes 10 = .ok (.aload_n 0, 1) := by decide +kernel
theorem dX12_makes_11 : decode cX12_makes 11 = .ok (.getfield 81, 3) := by decide +kernel
theorem dX12_makes_14 : decode cX12_makes 14 = .ok (.aload_n 0, 1) := by decide +kernel
theorem dX12_makes_15 : decode cX12_makes 15 = .ok (.getfield 328, 3) := by decide +kernel
theorem dX12_makes_18 : decode cX12_makes 18 = .ok (.iload_n 2, 1) := by decide +kernel
theorem dX12_makes_19 : decode cX12_makes 19 = .ok (.iastore, 1) := by decide +kernel
theorem dX12_makes_20 : decode cX12_makes 20 = .ok (.aload_n 0, 1) := by decide +kernel
theorem dX12_makes_21 : decode cX12_makes 21 = .ok (.getfield 84, 3) := by decide +kernel
theorem dX12_makes_24 : decode cX12_makes 24 = .ok (.aload_n 0, 1) := by decide +kernel
theorem dX12_makes_25 : decode cX12_makes 25 = .ok (.getfield 328, 3) := by decide +kernel
theorem dX12_makes_28 : decode cX12_makes 28 = .ok (.iload_n 3, 1) := by decide +kernel
theorem dX12_makes_29 : decode cX12_makes 29 = .ok (.iastore, 1) := by decide +kernel
theorem dX12_makes_30 : decode cX12_makes 30 = .ok (.aload_n 0, 1) := by decide +kernel
theorem dX12_makes_31 : decode cX12_makes 31 = .ok (.getfield 87, 3) := by decide +kernel
theorem dX12_makes_34 : decode cX12_makes 34 = .ok (.aload_n 0, 1) := by decide +kernel
theorem dX12_makes_35 : decode cX12_makes 35 = .ok (.getfield 328, 3) := by decide +kernel
theorem dX12_makes_38 : decode cX12_makes 38 = .ok (.iload 4, 2) := by decide +kernel
theorem dX12_makes_40 : decode cX12_makes 40 = .ok (.iastore, 1) := by decide +kernel
theorem dX12_makes_41 : decode cX12_makes 41 = .ok (.aload_n 0, 1) := by decide +kernel
theorem dX12_makes_42 : decode cX12_makes 42 = .ok (.getfield 90, 3) := by decide +kernel
theorem dX12_makes_45 : decode cX12_makes 45 = .ok (.aload_n 0, 1) := by decide +kernel
theorem dX12_makes_46 : decode cX12_makes 46 = .ok (.getfield 328, 3) := by decide +kernel
theorem dX12_makes_49 : decode cX12_makes 49 = .ok (.iload 5, 2) := by decide +kernel
theorem dX12_makes_51 : decode cX12_makes 51 = .ok (.iastore, 1) := by decide +kernel
theorem dX12_makes_52 : decode cX12_makes 52 = .ok (.aload_n 0, 1) := by decide +kernel
theorem dX12_makes_53 : decode cX12_makes 53 = .ok (.aload_n 0, 1) := by decide +kernel
theorem dX12_makes_54 : decode cX12_makes 54 = .ok (.getfield 328, 3) := by decide +kernel
theorem dX12_makes_57 : decode cX12_makes 57 = .ok (.iconst 1, 1) := by decide +kernel
theorem dX12_makes_58 : decode cX12_makes 58 = .ok (.iadd, 1) := by decide +kernel
theorem dX12_makes_59 : decode cX12_makes 59 = .ok (.putfield 328, 3) := by decide +kernel
theorem dX12_makes_62 : decode cX12_makes 62 = .ok (.return_, 1) := by decide +kernel
theorem dX12_isNote_0 : decode cX12_isNote 0 = .ok (.iload_n 1, 1) := by decide +kernel
theorem dX12_isNote_1 : decode cX12_isNote 1 = .ok (.ifCond .lt 15, 3) := by decide +kernel
theorem dX12_isNote_4 : decode cX12_isNote 4 = .ok (.iload_n 1, 1) := by decide +kernel
theorem dX12_isNote_5 : decode cX12_isNote 5 = .ok (.aload_n 0, 1) := by decide +kernel
theorem dX12_isNote_6 : decode cX12_isNote 6 = .ok (.getfield 328, 3) := by decide +kernel
theorem dX12_isNote_9 : decode cX12_isNote 9 = .ok (.if_icmp .ge 7, 3) := by decide +kernel
theorem dX12_isNote_12 : decode cX12_isNote 12 = .ok (.iconst 1, 1) := by decide +kernel
theorem dX12_isNote_13 : decode cX12_isNote 13 = .ok (.goto 4, 3) := by decide +kernel
theorem dX12_isNote_16 : decode cX12_isNote 16 = .ok (.iconst 0, 1) := by decide +kernel
theorem dX12_isNote_17 : decode cX12_isNote 17 = .ok (.ireturn, 1) := by decide +kernel
theorem dX12_isLiveOn_0 : decode cX12_isLiveOn 0 = .ok (.aload_n 0, 1) := by decide +kernel
theorem dX12_isLiveOn_1 : decode cX12_isLiveOn 1 = .ok (.getfield 84, 3) := by decide +kernel
theorem dX12_isLiveOn_4 : decode cX12_isLiveOn 4 = .ok (.iload_n 1, 1) := by decide +kernel
theorem dX12_isLiveOn_5 : decode cX12_isLiveOn 5 = .ok (.iaload, 1) := by decide +kernel
theorem dX12_isLiveOn_6 : decode cX12_isLiveOn 6 = .ok (.ifCond .le 27, 3) := by decide +kernel
theorem dX12_isLiveOn_9 : decode cX12_isLiveOn 9 = .ok (.aload_n 0, 1) := by decide +kernel
theorem dX12_isLiveOn_10 : decode cX12_isLiveOn 10 = .ok (.getfield 90, 3) := by decide +kernel
theorem dX12_isLiveOn_13 : decode cX12_isLiveOn 13 = .ok (.iload_n 1, 1) := by decide +kernel
theorem dX12_isLiveOn_14 : decode cX12_isLiveOn 14 = .ok (.iaload, 1) := by decide +kernel
theorem dX12_isLiveOn_15 : decode cX12_isLiveOn 15 = .ok (.iconst (-1), 1) := by decide +kernel
theorem dX12_isLiveOn_16 : decode cX12_isLiveOn 16 = .ok (.if_icmp .eq 13, 3) := by decide +kernel
theorem dX12_isLiveOn_19 : decode cX12_isLiveOn 19 = .ok (.iload_n 2, 1) := by decide +kernel
theorem dX12_isLiveOn_20 : decode cX12_isLiveOn 20 = .ok (.aload_n 0, 1) := by decide +kernel
theorem dX12_isLiveOn_21 : decode cX12_isLiveOn 21 = .ok (.getfield 90, 3) := by decide +kernel
theorem dX12_isLiveOn_24 : decode cX12_isLiveOn 24 = .ok (.iload_n 1, 1) := by decide +kernel
theorem dX12_isLiveOn_25 : decode cX12_isLiveOn 25 = .ok (.iaload, 1) := by decide +kernel
theorem dX12_isLiveOn_26 : decode cX12_isLiveOn 26 = .ok (.if_icmp .ge 7, 3) := by decide +kernel
theorem dX12_isLiveOn_29 : decode cX12_isLiveOn 29 = .ok (.iconst 1, 1) := by decide +kernel
theorem dX12_isLiveOn_30 : decode cX12_isLiveOn 30 = .ok (.goto 4, 3) := by decide +kernel
theorem dX12_isLiveOn_33 : decode cX12_isLiveOn 33 = .ok (.iconst 0, 1) := by decide +kernel
theorem dX12_isLiveOn_34 : decode cX12_isLiveOn 34 = .ok (.ireturn, 1) := by decide +kernel
theorem dX12_isLive_0 : decode cX12_isLive 0 = .ok (.aload_n 0, 1) := by decide +kernel
theorem dX12_isLive_1 : decode cX12_isLive 1 = .ok (.iload_n 1, 1) := by decide +kernel
theorem dX12_isLive_2 : decode cX12_isLive 2 = .ok (.invokevirtual 342, 3) := by decide +kernel
theorem dX12_isLive_5 : decode cX12_isLive 5 = .ok (.ifCond .eq 19, 3) := by decide +kernel
theorem dX12_isLive_8 : decode cX12_isLive 8 = .ok (.aload_n 0, 1) := by decide +kernel
theorem dX12_isLive_9 : decode cX12_isLive 9 = .ok (.iload_n 1, 1) := by decide +kernel
theorem dX12_isLive_10 : decode cX12_isLive 10 = .ok (.aload_n 0, 1) := by decide +kernel
theorem dX12_isLive_11 : decode cX12_isLive 11 = .ok (.getfield 165, 3) := by decide +kernel
theorem dX12_isLive_14 : decode cX12_isLive 14 = .ok (.invokevirtual 345, 3) := by decide +kernel
theorem dX12_isLive_17 : decode cX12_isLive 17 = .ok (.ifCond .eq 7, 3) := by decide +kernel
theorem dX12_isLive_20 : decode cX12_isLive 20 = .ok (.iconst 1, 1) := by decide +kernel
theorem dX12_isLive_21 : decode cX12_isLive 21 = .ok (.goto 4, 3) := by decide +kernel
theorem dX12_isLive_24 : decode cX12_isLive 24 = .ok (.iconst 0, 1) := by decide +kernel
theorem dX12_isLive_25 : decode cX12_isLive 25 = .ok (.ireturn, 1) := by decide +kernel
theorem dX12_dearest_0 : decode cX12_dearest 0 = .ok (.iconst (-1), 1) := by decide +kernel
theorem dX12_dearest_1 : decode cX12_dearest 1 = .ok (.istore_n 3, 1) := by decide +kernel
theorem dX12_dearest_2 : decode cX12_dearest 2 = .ok (.iconst 0, 1) := by decide +kernel
theorem dX12_dearest_3 : decode cX12_dearest 3 = .ok (.istore 4, 2) := by decide +kernel
theorem dX12_dearest_5 : decode cX12_dearest 5 = .ok (.iload 4, 2) := by decide +kernel
theorem dX12_dearest_7 : decode cX12_dearest 7 = .ok (.bipush 24, 2) := by decide +kernel
theorem dX12_dearest_9 : decode cX12_dearest 9 = .ok (.iload_n 2, 1) := by decide +kernel
theorem dX12_dearest_10 : decode cX12_dearest 10 = .ok (.imul, 1) := by decide +kernel
theorem dX12_dearest_11 : decode cX12_dearest 11 = .ok (.if_icmp .ge 59, 3) := by decide +kernel
theorem dX12_dearest_14 : decode cX12_dearest 14 = .ok (.aload_n 0, 1) := by decide +kernel
theorem dX12_dearest_15 : decode cX12_dearest 15 = .ok (.getfield 102, 3) := by decide +kernel
theorem dX12_dearest_18 : decode cX12_dearest 18 = .ok (.iload 4, 2) := by decide +kernel
theorem dX12_dearest_20 : decode cX12_dearest 20 = .ok (.baload, 1) := by decide +kernel
theorem dX12_dearest_21 : decode cX12_dearest 21 = .ok (.ifCond .ne 43, 3) := by decide +kernel
theorem dX12_dearest_24 : decode cX12_dearest 24 = .ok (.iload_n 3, 1) := by decide +kernel
theorem dX12_dearest_25 : decode cX12_dearest 25 = .ok (.iconst (-1), 1) := by decide +kernel
theorem dX12_dearest_26 : decode cX12_dearest 26 = .ok (.if_icmp .eq 35, 3) := by decide +kernel
theorem dX12_dearest_29 : decode cX12_dearest 29 = .ok (.aload_n 0, 1) := by decide +kernel
theorem dX12_dearest_30 : decode cX12_dearest 30 = .ok (.getfield 7, 3) := by decide +kernel
theorem dX12_dearest_33 : decode cX12_dearest 33 = .ok (.bipush 24, 2) := by decide +kernel
theorem dX12_dearest_35 : decode cX12_dearest 35 = .ok (.iload_n 1, 1) := by decide +kernel
theorem dX12_dearest_36 : decode cX12_dearest 36 = .ok (.imul, 1) := by decide +kernel
theorem dX12_dearest_37 : decode cX12_dearest 37 = .ok (.iload 4, 2) := by decide +kernel
theorem dX12_dearest_39 : decode cX12_dearest 39 = .ok (.bipush 24, 2) := by decide +kernel
theorem dX12_dearest_41 : decode cX12_dearest 41 = .ok (.irem, 1) := by decide +kernel
theorem dX12_dearest_42 : decode cX12_dearest 42 = .ok (.iadd, 1) := by decide +kernel
theorem dX12_dearest_43 : decode cX12_dearest 43 = .ok (.iaload, 1) := by decide +kernel
theorem dX12_dearest_44 : decode cX12_dearest 44 = .ok (.aload_n 0, 1) := by decide +kernel
theorem dX12_dearest_45 : decode cX12_dearest 45 = .ok (.getfield 7, 3) := by decide +kernel
theorem dX12_dearest_48 : decode cX12_dearest 48 = .ok (.bipush 24, 2) := by decide +kernel
theorem dX12_dearest_50 : decode cX12_dearest 50 = .ok (.iload_n 1, 1) := by decide +kernel
theorem dX12_dearest_51 : decode cX12_dearest 51 = .ok (.imul, 1) := by decide +kernel
theorem dX12_dearest_52 : decode cX12_dearest 52 = .ok (.iload_n 3, 1) := by decide +kernel
theorem dX12_dearest_53 : decode cX12_dearest 53 = .ok (.bipush 24, 2) := by decide +kernel
theorem dX12_dearest_55 : decode cX12_dearest 55 = .ok (.irem, 1) := by decide +kernel
theorem dX12_dearest_56 : decode cX12_dearest 56 = .ok (.iadd, 1) := by decide +kernel
theorem dX12_dearest_57 : decode cX12_dearest 57 = .ok (.iaload, 1) := by decide +kernel
theorem dX12_dearest_58 : decode cX12_dearest 58 = .ok (.if_icmp .le 6, 3) := by decide +kernel
theorem dX12_dearest_61 : decode cX12_dearest 61 = .ok (.iload 4, 2) := by decide +kernel
theorem dX12_dearest_63 : decode cX12_dearest 63 = .ok (.istore_n 3, 1) := by decide +kernel
theorem dX12_dearest_64 : decode cX12_dearest 64 = .ok (.iinc 4 1, 3) := by decide +kernel
theorem dX12_dearest_67 : decode cX12_dearest 67 = .ok (.goto (-62), 3) := by decide +kernel
theorem dX12_dearest_70 : decode cX12_dearest 70 = .ok (.iload_n 3, 1) := by decide +kernel
theorem dX12_dearest_71 : decode cX12_dearest 71 = .ok (.ireturn, 1) := by decide +kernel
theorem dX12_measures_0 : decode cX12_measures 0 = .ok (.iconst 0, 1) := by decide +kernel
theorem dX12_measures_1 : decode cX12_measures 1 = .ok (.istore_n 1, 1) := by decide +kernel
theorem dX12_measures_2 : decode cX12_measures 2 = .ok (.iload_n 1, 1) := by decide +kernel
theorem dX12_measures_3 : decode cX12_measures 3 = .ok (.bipush 8, 2) := by decide +kernel
theorem dX12_measures_5 : decode cX12_measures 5 = .ok (.if_icmp .ge 38, 3) := by decide +kernel
theorem dX12_measures_8 : decode cX12_measures 8 = .ok (.aload_n 0, 1) := by decide +kernel
theorem dX12_measures_9 : decode cX12_measures 9 = .ok (.getfield 114, 3) := by decide +kernel
theorem dX12_measures_12 : decode cX12_measures 12 = .ok (.iload_n 1, 1) := by decide +kernel
theorem dX12_measures_13 : decode cX12_measures 13 = .ok (.aload_n 0, 1) := by decide +kernel
theorem dX12_measures_14 : decode cX12_measures 14 = .ok (.getfield 111, 3) := by decide +kernel
theorem dX12_measures_17 : decode cX12_measures 17 = .ok (.iload_n 1, 1) := by decide +kernel
theorem dX12_measures_18 : decode cX12_measures 18 = .ok (.iaload, 1) := by decide +kernel
theorem dX12_measures_19 : decode cX12_measures 19 = .ok (.ifCond .le 7, 3) := by decide +kernel
theorem dX12_measures_22 : decode cX12_measures 22 = .ok (.iconst 0, 1) := by decide +kernel
theorem dX12_measures_23 : decode cX12_measures 23 = .ok (.goto 6, 3) := by decide +kernel
theorem dX12_measures_26 : decode cX12_measures 26 = .ok (.sipush 1000, 3) := by decide +kernel
theorem dX12_measures_29 : decode cX12_measures 29 = .ok (.iastore, 1) := by decide +kernel
theorem dX12_measures_30 : decode cX12_measures 30 = .ok (.aload_n 0, 1) := by decide +kernel
theorem dX12_measures_31 : decode cX12_measures 31 = .ok (.getfield 117, 3) := by decide +kernel
theorem dX12_measures_34 : decode cX12_measures 34 = .ok (.iload_n 1, 1) := by decide +kernel
theorem dX12_measures_35 : decode cX12_measures 35 = .ok (.iconst (-1), 1) := by decide +kernel
theorem dX12_measures_36 : decode cX12_measures 36 = .ok (.iastore, 1) := by decide +kernel
theorem dX12_measures_37 : decode cX12_measures 37 = .ok (.iinc 1 1, 3) := by decide +kernel
theorem dX12_measures_40 : decode cX12_measures 40 = .ok (.goto (-38), 3) := by decide +kernel
theorem dX12_measures_43 : decode cX12_measures 43 = .ok (.iconst 0, 1) := by decide +kernel
theorem dX12_measures_44 : decode cX12_measures 44 = .ok (.istore_n 1, 1) := by decide +kernel
theorem dX12_measures_45 : decode cX12_measures 45 = .ok (.iload_n 1, 1) := by decide +kernel
theorem dX12_measures_46 : decode cX12_measures 46 = .ok (.bipush 8, 2) := by decide +kernel
theorem dX12_measures_48 : decode cX12_measures 48 = .ok (.if_icmp .ge 160, 3) := by decide +kernel
theorem dX12_measures_51 : decode cX12_measures 51 = .ok (.iconst 0, 1) := by decide +kernel
theorem dX12_measures_52 : decode cX12_measures 52 = .ok (.istore_n 2, 1) := by decide +kernel
theorem dX12_measures_53 : decode cX12_measures 53 = .ok (.iload_n 2, 1) := by decide +kernel
theorem dX12_measures_54 : decode cX12_measures 54 = .ok (.bipush 8, 2) := by decide +kernel
theorem dX12_measures_56 : decode cX12_measures 56 = .ok (.if_icmp .ge 146, 3) := by decide +kernel
theorem dX12_measures_59 : decode cX12_measures 59 = .ok (.iconst 0, 1) := by decide +kernel
theorem dX12_measures_60 : decode cX12_measures 60 = .ok (.istore_n 3, 1) := by decide +kernel
theorem dX12_measures_61 : decode cX12_measures 61 = .ok (.iload_n 3, 1) := by decide +kernel
theorem dX12_measures_62 : decode cX12_measures 62 = .ok (.bipush 8, 2) := by decide +kernel
theorem dX12_measures_64 : decode cX12_measures 64 = .ok (.if_icmp .ge 132, 3) := by decide +kernel
theorem dX12_measures_67 : decode cX12_measures 67 = .ok (.aload_n 0, 1) := by decide +kernel
theorem dX12_measures_68 : decode cX12_measures 68 = .ok (.getfield 114, 3) := by decide +kernel
theorem dX12_measures_71 : decode cX12_measures 71 = .ok (.iload_n 2, 1) := by decide +kernel
theorem dX12_measures_72 : decode cX12_measures 72 = .ok (.iaload, 1) := by decide +kernel
theorem dX12_measures_73 : decode cX12_measures 73 = .ok (.sipush 1000, 3) := by decide +kernel
theorem dX12_measures_76 : decode cX12_measures 76 = .ok (.if_icmp .eq 114, 3) := by decide +kernel
theorem dX12_measures_79 : decode cX12_measures 79 = .ok (.iload_n 2, 1) := by decide +kernel
theorem dX12_measures_80 : decode cX12_measures 80 = .ok (.iload_n 3, 1) := by decide +kernel
theorem dX12_measures_81 : decode cX12_measures 81 = .ok (.if_icmp .ne 6, 3) := by decide +kernel
theorem dX12_measures_84 : decode cX12_measures 84 = .ok (.goto 106, 3) := by decide +kernel
theorem dX12_measures_87 : decode cX12_measures 87 = .ok (.aload_n 0, 1) := by decide +kernel
theorem dX12_measures_88 : decode cX12_measures 88 = .ok (.getfield 105, 3) := by decide +kernel
theorem dX12_measures_91 : decode cX12_measures 91 = .ok (.bipush 8, 2) := by decide +kernel
theorem dX12_measures_93 : decode cX12_measures 93 = .ok (.iload_n 3, 1) := by decide +kernel
theorem dX12_measures_94 : decode cX12_measures 94 = .ok (.imul, 1) := by decide +kernel
theorem dX12_measures_95 : decode cX12_measures 95 = .ok (.iload_n 2, 1) := by decide +kernel
theorem dX12_measures_96 : decode cX12_measures 96 = .ok (.iadd, 1) := by decide +kernel
theorem dX12_measures_97 : decode cX12_measures 97 = .ok (.iaload, 1) := by decide +kernel
theorem dX12_measures_98 : decode cX12_measures 98 = .ok (.ifCond .le 7, 3) := by decide +kernel
theorem dX12_measures_101 : decode cX12_measures 101 = .ok (.iconst (-1), 1) := by decide +kernel
theorem dX12_measures_102 : decode cX12_measures 102 = .ok (.goto 35, 3) := by decide +kernel
theorem dX12_measures_105 : decode cX12_measures 105 = .ok (.aload_n 0, 1) := by decide +kernel
theorem dX12_measures_106 : decode cX12_measures 106 = .ok (.getfield 105, 3) := by decide +kernel
theorem dX12_measures_109 : decode cX12_measures 109 = .ok (.bipush 8, 2) := by decide +kernel
theorem dX12_measures_111 : decode cX12_measures 111 = .ok (.iload_n 2, 1) := by decide +kernel
theorem dX12_measures_112 : decode cX12_measures 112 = .ok (.imul, 1) := by decide +kernel
theorem dX12_measures_113 : decode cX12_measures 113 = .ok (.iload_n 3, 1) := by decide +kernel
theorem dX12_measures_114 : decode cX12_measures 114 = .ok (.iadd, 1) := by decide +kernel
theorem dX12_measures_115 : decode cX12_measures 115 = .ok (.iaload, 1) := by decide +kernel
theorem dX12_measures_116 : decode cX12_measures 116 = .ok (.aload_n 0, 1) := by decide +kernel
theorem dX12_measures_117 : decode cX12_measures 117 = .ok (.getfield 108, 3) := by decide +kernel
theorem dX12_measures_120 : decode cX12_measures 120 = .ok (.bipush 8, 2) := by decide +kernel
theorem dX12_measures_122 : decode cX12_measures 122 = .ok (.iload_n 2, 1) := by decide +kernel
theorem dX12_measures_123 : decode cX12_measures 123 = .ok (.imul, 1) := by decide +kernel
theorem dX12_measures_124 : decode cX12_measures 124 = .ok (.iload_n 3, 1) := by decide +kernel
theorem dX12_measures_125 : decode cX12_measures 125 = .ok (.iadd, 1) := by decide +kernel
theorem dX12_measures_126 : decode cX12_measures 126 = .ok (.iaload, 1) := by decide +kernel
theorem dX12_measures_127 : decode cX12_measures 127 = .ok (.if_icmp .ge 7, 3) := by decide +kernel
theorem dX12_measures_130 : decode cX12_measures 130 = .ok (.iconst 1, 1) := by decide +kernel
theorem dX12_measures_131 : decode cX12_measures 131 = .ok (.goto 6, 3) := by decide +kernel
theorem dX12_measures_134 : decode cX12_measures 134 = .ok (.sipush 2000, 3) := by decide +kernel
theorem dX12_measures_137 : decode cX12_measures 137 = .ok (.istore 4, 2) := by decide +kernel
theorem dX12_measures_139 : decode cX12_measures 139 = .ok (.iload 4, 2) := by decide +kernel
theorem dX12_measures_141 : decode cX12_measures 141 = .ok (.sipush 2000, 3) := by decide +kernel
theorem dX12_measures_144 : decode cX12_measures 144 = .ok (.if_icmp .eq 46, 3) := by decide +kernel
theorem dX12_measures_147 : decode cX12_measures 147 = .ok (.aload_n 0, 1) := by decide +kernel
theorem dX12_measures_148 : decode cX12_measures 148 = .ok (.getfield 114, 3) := by decide +kernel
theorem dX12_measures_151 : decode cX12_measures 151 = .ok (.iload_n 2, 1) := by decide +kernel
theorem dX12_measures_152 : decode cX12_measures 152 = .ok (.iaload, 1) := by decide +kernel
theorem dX12_measures_153 : decode cX12_measures 153 = .ok (.iload 4, 2) := by decide +kernel
theorem dX12_measures_155 : decode cX12_measures 155 = .ok (.iadd, 1) := by decide +kernel
theorem dX12_measures_156 : decode cX12_measures 156 = .ok (.aload_n 0, 1) := by decide +kernel
theorem dX12_measures_157 : decode cX12_measures 157 = .ok (.getfield 114, 3) := by decide +kernel
theorem dX12_measures_160 : decode cX12_measures 160 = .ok (.iload_n 3, 1) := by decide +kernel
theorem dX12_measures_161 : decode cX12_measures 161 = .ok (.iaload, 1) := by decide +kernel
theorem dX12_measures_162 : decode cX12_measures 162 = .ok (.if_icmp .lt 6, 3) := by decide +kernel
theorem dX12_measures_165 : decode cX12_measures 165 = .ok (.goto 25, 3) := by decide +kernel
theorem dX12_measures_168 : decode cX12_measures 168 = .ok (.aload_n 0, 1) := by decide +kernel
theorem dX12_measures_169 : decode cX12_measures 169 = .ok (.getfield 114, 3) := by decide +kernel
theorem dX12_measures_172 : decode cX12_measures 172 = .ok (.iload_n 3, 1) := by decide +kernel
theorem dX12_measures_173 : decode cX12_measures 173 = .ok (.aload_n 0, 1) := by decide +kernel
theorem dX12_measures_174 : decode cX12_measures 174 = .ok (.getfield 114, 3) := by decide +kernel
theorem dX12_measures_177 : decode cX12_measures 177 = .ok (.iload_n 2, 1) := by decide +kernel
theorem dX12_measures_178 : decode cX12_measures 178 = .ok (.iaload, 1) := by decide +kernel
theorem dX12_measures_179 : decode cX12_measures 179 = .ok (.iload 4, 2) := by decide +kernel
theorem dX12_measures_181 : decode cX12_measures 181 = .ok (.iadd, 1) := by decide +kernel
theorem dX12_measures_182 : decode cX12_measures 182 = .ok (.iastore, 1) := by decide +kernel
theorem dX12_measures_183 : decode cX12_measures 183 = .ok (.aload_n 0, 1) := by decide +kernel
theorem dX12_measures_184 : decode cX12_measures 184 = .ok (.getfield 117, 3) := by decide +kernel
theorem dX12_measures_187 : decode cX12_measures 187 = .ok (.iload_n 3, 1) := by decide +kernel
theorem dX12_measures_188 : decode cX12_measures 188 = .ok (.iload_n 2, 1) := by decide +kernel
theorem dX12_measures_189 : decode cX12_measures 189 = .ok (.iastore, 1) := by decide +kernel
theorem dX12_measures_190 : decode cX12_measures 190 = .ok (.iinc 3 1, 3) := by decide +kernel
theorem dX12_measures_193 : decode cX12_measures 193 = .ok (.goto (-132), 3) := by decide +kernel
theorem dX12_measures_196 : decode cX12_measures 196 = .ok (.iinc 2 1, 3) := by decide +kernel
theorem dX12_measures_199 : decode cX12_measures 199 = .ok (.goto (-146), 3) := by decide +kernel
theorem dX12_measures_202 : decode cX12_measures 202 = .ok (.iinc 1 1, 3) := by decide +kernel
theorem dX12_measures_205 : decode cX12_measures 205 = .ok (.goto (-160), 3) := by decide +kernel
theorem dX12_measures_208 : decode cX12_measures 208 = .ok (.return_, 1) := by decide +kernel
theorem dX12_stepOn_0 : decode cX12_stepOn 0 = .ok (.aload_n 0, 1) := by decide +kernel
theorem dX12_stepOn_1 : decode cX12_stepOn 1 = .ok (.getfield 105, 3) := by decide +kernel
theorem dX12_stepOn_4 : decode cX12_stepOn 4 = .ok (.bipush 8, 2) := by decide +kernel
theorem dX12_stepOn_6 : decode cX12_stepOn 6 = .ok (.iload_n 2, 1) := by decide +kernel
theorem dX12_stepOn_7 : decode cX12_stepOn 7 = .ok (.imul, 1) := by decide +kernel
theorem dX12_stepOn_8 : decode cX12_stepOn 8 = .ok (.iload_n 1, 1) := by decide +kernel
theorem dX12_stepOn_9 : decode cX12_stepOn 9 = .ok (.iadd, 1) := by decide +kernel
theorem dX12_stepOn_10 : decode cX12_stepOn 10 = .ok (.iaload, 1) := by decide +kernel
theorem dX12_stepOn_11 : decode cX12_stepOn 11 = .ok (.ifCond .le 17, 3) := by decide +kernel
theorem dX12_stepOn_14 : decode cX12_stepOn 14 = .ok (.aload_n 0, 1) := by decide +kernel
theorem dX12_stepOn_15 : decode cX12_stepOn 15 = .ok (.getfield 105, 3) := by decide +kernel
theorem dX12_stepOn_18 : decode cX12_stepOn 18 = .ok (.bipush 8, 2) := by decide +kernel
theorem dX12_stepOn_20 : decode cX12_stepOn 20 = .ok (.iload_n 2, 1) := by decide +kernel
theorem dX12_stepOn_21 : decode cX12_stepOn 21 = .ok (.imul, 1) := by decide +kernel
theorem dX12_stepOn_22 : decode cX12_stepOn 22 = .ok (.iload_n 1, 1) := by decide +kernel
theorem dX12_stepOn_23 : decode cX12_stepOn 23 = .ok (.iadd, 1) := by decide +kernel
theorem dX12_stepOn_24 : decode cX12_stepOn 24 = .ok (.iaload, 1) := by decide +kernel
theorem dX12_stepOn_25 : decode cX12_stepOn 25 = .ok (.goto 26, 3) := by decide +kernel
theorem dX12_stepOn_28 : decode cX12_stepOn 28 = .ok (.aload_n 0, 1) := by decide +kernel
theorem dX12_stepOn_29 : decode cX12_stepOn 29 = .ok (.getfield 108, 3) := by decide +kernel
theorem dX12_stepOn_32 : decode cX12_stepOn 32 = .ok (.bipush 8, 2) := by decide +kernel
theorem dX12_stepOn_34 : decode cX12_stepOn 34 = .ok (.iload_n 1, 1) := by decide +kernel
theorem dX12_stepOn_35 : decode cX12_stepOn 35 = .ok (.imul, 1) := by decide +kernel
theorem dX12_stepOn_36 : decode cX12_stepOn 36 = .ok (.iload_n 2, 1) := by decide +kernel
theorem dX12_stepOn_37 : decode cX12_stepOn 37 = .ok (.iadd, 1) := by decide +kernel
theorem dX12_stepOn_38 : decode cX12_stepOn 38 = .ok (.iaload, 1) := by decide +kernel
theorem dX12_stepOn_39 : decode cX12_stepOn 39 = .ok (.aload_n 0, 1) := by decide +kernel
theorem dX12_stepOn_40 : decode cX12_stepOn 40 = .ok (.getfield 105, 3) := by decide +kernel
theorem dX12_stepOn_43 : decode cX12_stepOn 43 = .ok (.bipush 8, 2) := by decide +kernel
theorem dX12_stepOn_45 : decode cX12_stepOn 45 = .ok (.iload_n 1, 1) := by decide +kernel
theorem dX12_stepOn_46 : decode cX12_stepOn 46 = .ok (.imul, 1) := by decide +kernel
theorem dX12_stepOn_47 : decode cX12_stepOn 47 = .ok (.iload_n 2, 1) := by decide +kernel
theorem dX12_stepOn_48 : decode cX12_stepOn 48 = .ok (.iadd, 1) := by decide +kernel
theorem dX12_stepOn_49 : decode cX12_stepOn 49 = .ok (.iaload, 1) := by decide +kernel
theorem dX12_stepOn_50 : decode cX12_stepOn 50 = .ok (.isub, 1) := by decide +kernel
theorem dX12_stepOn_51 : decode cX12_stepOn 51 = .ok (.ireturn, 1) := by decide +kernel
theorem dX12_goesTo_0 : decode cX12_goesTo 0 = .ok (.aload_n 0, 1) := by decide +kernel
theorem dX12_goesTo_1 : decode cX12_goesTo 1 = .ok (.getfield 111, 3) := by decide +kernel
theorem dX12_goesTo_4 : decode cX12_goesTo 4 = .ok (.iload_n 1, 1) := by decide +kernel
theorem dX12_goesTo_5 : decode cX12_goesTo 5 = .ok (.iaload, 1) := by decide +kernel
theorem dX12_goesTo_6 : decode cX12_goesTo 6 = .ok (.ineg, 1) := by decide +kernel
theorem dX12_goesTo_7 : decode cX12_goesTo 7 = .ok (.istore_n 2, 1) := by decide +kernel
theorem dX12_goesTo_8 : decode cX12_goesTo 8 = .ok (.iload_n 1, 1) := by decide +kernel
theorem dX12_goesTo_9 : decode cX12_goesTo 9 = .ok (.istore_n 3, 1) := by decide +kernel
theorem dX12_goesTo_10 : decode cX12_goesTo 10 = .ok (.aload_n 0, 1) := by decide +kernel
theorem dX12_goesTo_11 : decode cX12_goesTo 11 = .ok (.getfield 117, 3) := by decide +kernel
theorem dX12_goesTo_14 : decode cX12_goesTo 14 = .ok (.iload_n 3, 1) := by decide +kernel
theorem dX12_goesTo_15 : decode cX12_goesTo 15 = .ok (.iaload, 1) := by decide +kernel
theorem dX12_goesTo_16 : decode cX12_goesTo 16 = .ok (.iconst (-1), 1) := by decide +kernel
theorem dX12_goesTo_17 : decode cX12_goesTo 17 = .ok (.if_icmp .eq 39, 3) := by decide +kernel
theorem dX12_goesTo_20 : decode cX12_goesTo 20 = .ok (.aload_n 0, 1) := by decide +kernel
theorem dX12_goesTo_21 : decode cX12_goesTo 21 = .ok (.aload_n 0, 1) := by decide +kernel
theorem dX12_goesTo_22 : decode cX12_goesTo 22 = .ok (.getfield 117, 3) := by decide +kernel
theorem dX12_goesTo_25 : decode cX12_goesTo 25 = .ok (.iload_n 3, 1) := by decide +kernel
theorem dX12_goesTo_26 : decode cX12_goesTo 26 = .ok (.iaload, 1) := by decide +kernel
theorem dX12_goesTo_27 : decode cX12_goesTo 27 = .ok (.iload_n 3, 1) := by decide +kernel
theorem dX12_goesTo_28 : decode cX12_goesTo 28 = .ok (.invokevirtual 359, 3) := by decide +kernel
theorem dX12_goesTo_31 : decode cX12_goesTo 31 = .ok (.istore 4, 2) := by decide +kernel
theorem dX12_goesTo_33 : decode cX12_goesTo 33 = .ok (.iload 4, 2) := by decide +kernel
theorem dX12_goesTo_35 : decode cX12_goesTo 35 = .ok (.iload_n 2, 1) := by decide +kernel
theorem dX12_goesTo_36 : decode cX12_goesTo 36 = .ok (.if_icmp .ge 8, 3) := by decide +kernel
theorem dX12_goesTo_39 : decode cX12_goesTo 39 = .ok (.iload 4, 2) := by decide +kernel
theorem dX12_goesTo_41 : decode cX12_goesTo 41 = .ok (.goto 4, 3) := by decide +kernel
theorem dX12_goesTo_44 : decode cX12_goesTo 44 = .ok (.iload_n 2, 1) := by decide +kernel
theorem dX12_goesTo_45 : decode cX12_goesTo 45 = .ok (.istore_n 2, 1) := by decide +kernel
theorem dX12_goesTo_46 : decode cX12_goesTo 46 = .ok (.aload_n 0, 1) := by decide +kernel
theorem dX12_goesTo_47 : decode cX12_goesTo 47 = .ok (.getfield 117, 3) := by decide +kernel
theorem dX12_goesTo_50 : decode cX12_goesTo 50 = .ok (.iload_n 3, 1) := by decide +kernel
theorem dX12_goesTo_51 : decode cX12_goesTo 51 = .ok (.iaload, 1) := by decide +kernel
theorem dX12_goesTo_52 : decode cX12_goesTo 52 = .ok (.istore_n 3, 1) := by decide +kernel
theorem dX12_goesTo_53 : decode cX12_goesTo 53 = .ok (.goto (-43), 3) := by decide +kernel
theorem dX12_goesTo_56 : decode cX12_goesTo 56 = .ok (.aload_n 0, 1) := by decide +kernel
theorem dX12_goesTo_57 : decode cX12_goesTo 57 = .ok (.getfield 111, 3) := by decide +kernel
theorem dX12_goesTo_60 : decode cX12_goesTo 60 = .ok (.iload_n 3, 1) := by decide +kernel
theorem dX12_goesTo_61 : decode cX12_goesTo 61 = .ok (.iaload, 1) := by decide +kernel
theorem dX12_goesTo_62 : decode cX12_goesTo 62 = .ok (.iload_n 2, 1) := by decide +kernel
theorem dX12_goesTo_63 : decode cX12_goesTo 63 = .ok (.if_icmp .ge 12, 3) := by decide +kernel
theorem dX12_goesTo_66 : decode cX12_goesTo 66 = .ok (.aload_n 0, 1) := by decide +kernel
theorem dX12_goesTo_67 : decode cX12_goesTo 67 = .ok (.getfield 111, 3) := by decide +kernel
theorem dX12_goesTo_70 : decode cX12_goesTo 70 = .ok (.iload_n 3, 1) := by decide +kernel
theorem dX12_goesTo_71 : decode cX12_goesTo 71 = .ok (.iaload, 1) := by decide +kernel
theorem dX12_goesTo_72 : decode cX12_goesTo 72 = .ok (.goto 4, 3) := by decide +kernel
theorem dX12_goesTo_75 : decode cX12_goesTo 75 = .ok (.iload_n 2, 1) := by decide +kernel
theorem dX12_goesTo_76 : decode cX12_goesTo 76 = .ok (.istore_n 2, 1) := by decide +kernel
theorem dX12_goesTo_77 : decode cX12_goesTo 77 = .ok (.aload_n 0, 1) := by decide +kernel
theorem dX12_goesTo_78 : decode cX12_goesTo 78 = .ok (.getfield 111, 3) := by decide +kernel
theorem dX12_goesTo_81 : decode cX12_goesTo 81 = .ok (.iload_n 3, 1) := by decide +kernel
theorem dX12_goesTo_82 : decode cX12_goesTo 82 = .ok (.aload_n 0, 1) := by decide +kernel
theorem dX12_goesTo_83 : decode cX12_goesTo 83 = .ok (.getfield 111, 3) := by decide +kernel
theorem dX12_goesTo_86 : decode cX12_goesTo 86 = .ok (.iload_n 3, 1) := by decide +kernel
theorem dX12_goesTo_87 : decode cX12_goesTo 87 = .ok (.iaload, 1) := by decide +kernel
theorem dX12_goesTo_88 : decode cX12_goesTo 88 = .ok (.iload_n 2, 1) := by decide +kernel
theorem dX12_goesTo_89 : decode cX12_goesTo 89 = .ok (.isub, 1) := by decide +kernel
theorem dX12_goesTo_90 : decode cX12_goesTo 90 = .ok (.iastore, 1) := by decide +kernel
theorem dX12_goesTo_91 : decode cX12_goesTo 91 = .ok (.aload_n 0, 1) := by decide +kernel
theorem dX12_goesTo_92 : decode cX12_goesTo 92 = .ok (.getfield 111, 3) := by decide +kernel
theorem dX12_goesTo_95 : decode cX12_goesTo 95 = .ok (.iload_n 1, 1) := by decide +kernel
theorem dX12_goesTo_96 : decode cX12_goesTo 96 = .ok (.aload_n 0, 1) := by decide +kernel
theorem dX12_goesTo_97 : decode cX12_goesTo 97 = .ok (.getfield 111, 3) := by decide +kernel
theorem dX12_goesTo_100 : decode cX12_goesTo 100 = .ok (.iload_n 1, 1) := by decide +kernel
theorem dX12_goesTo_101 : decode cX12_goesTo 101 = .ok (.iaload, 1) := by decide +kernel
theorem dX12_goesTo_102 : decode cX12_goesTo 102 = .ok (.iload_n 2, 1) := by decide +kernel
theorem dX12_goesTo_103 : decode cX12_goesTo 103 = .ok (.iadd, 1) := by decide +kernel
theorem dX12_goesTo_104 : decode cX12_goesTo 104 = .ok (.iastore, 1) := by decide +kernel
theorem dX12_goesTo_105 : decode cX12_goesTo 105 = .ok (.iload_n 1, 1) := by decide +kernel
theorem dX12_goesTo_106 : decode cX12_goesTo 106 = .ok (.istore 4, 2) := by decide +kernel
theorem dX12_goesTo_108 : decode cX12_goesTo 108 = .ok (.aload_n 0, 1) := by decide +kernel
theorem dX12_goesTo_109 : decode cX12_goesTo 109 = .ok (.getfield 117, 3) := by decide +kernel
theorem dX12_goesTo_112 : decode cX12_goesTo 112 = .ok (.iload 4, 2) := by decide +kernel
theorem dX12_goesTo_114 : decode cX12_goesTo 114 = .ok (.iaload, 1) := by decide +kernel
theorem dX12_goesTo_115 : decode cX12_goesTo 115 = .ok (.iconst (-1), 1) := by decide +kernel
theorem dX12_goesTo_116 : decode cX12_goesTo 116 = .ok (.if_icmp .eq 99, 3) := by decide +kernel
theorem dX12_goesTo_119 : decode cX12_goesTo 119 = .ok (.aload_n 0, 1) := by decide +kernel
theorem dX12_goesTo_120 : decode cX12_goesTo 120 = .ok (.getfield 117, 3) := by decide +kernel
theorem dX12_goesTo_123 : decode cX12_goesTo 123 = .ok (.iload 4, 2) := by decide +kernel
theorem dX12_goesTo_125 : decode cX12_goesTo 125 = .ok (.iaload, 1) := by decide +kernel
theorem dX12_goesTo_126 : decode cX12_goesTo 126 = .ok (.istore 5, 2) := by decide +kernel
theorem dX12_goesTo_128 : decode cX12_goesTo 128 = .ok (.aload_n 0, 1) := by decide +kernel
theorem dX12_goesTo_129 : decode cX12_goesTo 129 = .ok (.getfield 105, 3) := by decide +kernel
theorem dX12_goesTo_132 : decode cX12_goesTo 132 = .ok (.bipush 8, 2) := by decide +kernel
theorem dX12_goesTo_134 : decode cX12_goesTo 134 = .ok (.iload 4, 2) := by decide +kernel
theorem dX12_goesTo_136 : decode cX12_goesTo 136 = .ok (.imul, 1) := by decide +kernel
theorem dX12_goesTo_137 : decode cX12_goesTo 137 = .ok (.iload 5, 2) := by decide +kernel
theorem dX12_goesTo_139 : decode cX12_goesTo 139 = .ok (.iadd, 1) := by decide +kernel
theorem dX12_goesTo_140 : decode cX12_goesTo 140 = .ok (.iaload, 1) := by decide +kernel
theorem dX12_goesTo_141 : decode cX12_goesTo 141 = .ok (.ifCond .le 34, 3) := by decide +kernel
theorem dX12_goesTo_144 : decode cX12_goesTo 144 = .ok (.aload_n 0, 1) := by decide +kernel
theorem dX12_goesTo_145 : decode cX12_goesTo 145 = .ok (.getfield 105, 3) := by decide +kernel
theorem dX12_goesTo_148 : decode cX12_goesTo 148 = .ok (.bipush 8, 2) := by decide +kernel
theorem dX12_goesTo_150 : decode cX12_goesTo 150 = .ok (.iload 4, 2) := by decide +kernel
theorem dX12_goesTo_152 : decode cX12_goesTo 152 = .ok (.imul, 1) := by decide +kernel
theorem dX12_goesTo_153 : decode cX12_goesTo 153 = .ok (.iload 5, 2) := by decide +kernel
theorem dX12_goesTo_155 : decode cX12_goesTo 155 = .ok (.iadd, 1) := by decide +kernel
theorem dX12_goesTo_156 : decode cX12_goesTo 156 = .ok (.aload_n 0, 1) := by decide +kernel
theorem dX12_goesTo_157 : decode cX12_goesTo 157 = .ok (.getfield 105, 3) := by decide +kernel
theorem dX12_goesTo_160 : decode cX12_goesTo 160 = .ok (.bipush 8, 2) := by decide +kernel
theorem dX12_goesTo_162 : decode cX12_goesTo 162 = .ok (.iload 4, 2) := by decide +kernel
theorem dX12_goesTo_164 : decode cX12_goesTo 164 = .ok (.imul, 1) := by decide +kernel
theorem dX12_goesTo_165 : decode cX12_goesTo 165 = .ok (.iload 5, 2) := by decide +kernel
theorem dX12_goesTo_167 : decode cX12_goesTo 167 = .ok (.iadd, 1) := by decide +kernel
theorem dX12_goesTo_168 : decode cX12_goesTo 168 = .ok (.iaload, 1) := by decide +kernel
theorem dX12_goesTo_169 : decode cX12_goesTo 169 = .ok (.iload_n 2, 1) := by decide +kernel
theorem dX12_goesTo_170 : decode cX12_goesTo 170 = .ok (.isub, 1) := by decide +kernel
theorem dX12_goesTo_171 : decode cX12_goesTo 171 = .ok (.iastore, 1) := by decide +kernel
theorem dX12_goesTo_172 : decode cX12_goesTo 172 = .ok (.goto 31, 3) := by decide +kernel
theorem dX12_goesTo_175 : decode cX12_goesTo 175 = .ok (.aload_n 0, 1) := by decide +kernel
theorem dX12_goesTo_176 : decode cX12_goesTo 176 = .ok (.getfield 105, 3) := by decide +kernel
theorem dX12_goesTo_179 : decode cX12_goesTo 179 = .ok (.bipush 8, 2) := by decide +kernel
theorem dX12_goesTo_181 : decode cX12_goesTo 181 = .ok (.iload 5, 2) := by decide +kernel
theorem dX12_goesTo_183 : decode cX12_goesTo 183 = .ok (.imul, 1) := by decide +kernel
theorem dX12_goesTo_184 : decode cX12_goesTo 184 = .ok (.iload 4, 2) := by decide +kernel
theorem dX12_goesTo_186 : decode cX12_goesTo 186 = .ok (.iadd, 1) := by decide +kernel
theorem dX12_goesTo_187 : decode cX12_goesTo 187 = .ok (.aload_n 0, 1) := by decide +kernel
theorem dX12_goesTo_188 : decode cX12_goesTo 188 = .ok (.getfield 105, 3) := by decide +kernel
theorem dX12_goesTo_191 : decode cX12_goesTo 191 = .ok (.bipush 8, 2) := by decide +kernel
theorem dX12_goesTo_193 : decode cX12_goesTo 193 = .ok (.iload 5, 2) := by decide +kernel
theorem dX12_goesTo_195 : decode cX12_goesTo 195 = .ok (.imul, 1) := by decide +kernel
theorem dX12_goesTo_196 : decode cX12_goesTo 196 = .ok (.iload 4, 2) := by decide +kernel
theorem dX12_goesTo_198 : decode cX12_goesTo 198 = .ok (.iadd, 1) := by decide +kernel
theorem dX12_goesTo_199 : decode cX12_goesTo 199 = .ok (.iaload, 1) := by decide +kernel
theorem dX12_goesTo_200 : decode cX12_goesTo 200 = .ok (.iload_n 2, 1) := by decide +kernel
theorem dX12_goesTo_201 : decode cX12_goesTo 201 = .ok (.iadd, 1) := by decide +kernel
theorem dX12_goesTo_202 : decode cX12_goesTo 202 = .ok (.iastore, 1) := by decide +kernel
theorem dX12_goesTo_203 : decode cX12_goesTo 203 = .ok (.aload_n 0, 1) := by decide +kernel
theorem dX12_goesTo_204 : decode cX12_goesTo 204 = .ok (.getfield 117, 3) := by decide +kernel
theorem dX12_goesTo_207 : decode cX12_goesTo 207 = .ok (.iload 4, 2) := by decide +kernel
theorem dX12_goesTo_209 : decode cX12_goesTo 209 = .ok (.iaload, 1) := by decide +kernel
theorem dX12_goesTo_210 : decode cX12_goesTo 210 = .ok (.istore 4, 2) := by decide +kernel
theorem dX12_goesTo_212 : decode cX12_goesTo 212 = .ok (.goto (-104), 3) := by decide +kernel
theorem dX12_goesTo_215 : decode cX12_goesTo 215 = .ok (.return_, 1) := by decide +kernel
theorem dX12_nearestGetter_0 : decode cX12_nearestGetter 0 = .ok (.iconst (-1), 1) := by decide +kernel
theorem dX12_nearestGetter_1 : decode cX12_nearestGetter 1 = .ok (.istore_n 1, 1) := by decide +kernel
theorem dX12_nearestGetter_2 : decode cX12_nearestGetter 2 = .ok (.iconst 0, 1) := by decide +kernel
theorem dX12_nearestGetter_3 : decode cX12_nearestGetter 3 = .ok (.istore_n 2, 1) := by decide +kernel
theorem dX12_nearestGetter_4 : decode cX12_nearestGetter 4 = .ok (.iload_n 2, 1) := by decide +kernel
theorem dX12_nearestGetter_5 : decode cX12_nearestGetter 5 = .ok (.bipush 8, 2) := by decide +kernel
theorem dX12_nearestGetter_7 : decode cX12_nearestGetter 7 = .ok (.if_icmp .ge 52, 3) := by decide +kernel
theorem dX12_nearestGetter_10 : decode cX12_nearestGetter 10 = .ok (.aload_n 0, 1) := by decide +kernel
theorem dX12_nearestGetter_11 : decode cX12_nearestGetter 11 = .ok (.getfield 111, 3) := by decide +kernel
theorem dX12_nearestGetter_14 : decode cX12_nearestGetter 14 = .ok (.iload_n 2, 1) := by decide +kernel
theorem dX12_nearestGetter_15 : decode cX12_nearestGetter 15 = .ok (.iaload, 1) := by decide +kernel
theorem dX12_nearestGetter_16 : decode cX12_nearestGetter 16 = .ok (.ifCond .ge 37, 3) := by decide +kernel
theorem dX12_nearestGetter_19 : decode cX12_nearestGetter 19 = .ok (.aload_n 0, 1) := by decide +kernel
theorem dX12_nearestGetter_20 : decode cX12_nearestGetter 20 = .ok (.getfield 114, 3) := by decide +kernel
theorem dX12_nearestGetter_23 : decode cX12_nearestGetter 23 = .ok (.iload_n 2, 1) := by decide +kernel
theorem dX12_nearestGetter_24 : decode cX12_nearestGetter 24 = .ok (.iaload, 1) := by decide +kernel
theorem dX12_nearestGetter_25 : decode cX12_nearestGetter 25 = .ok (.sipush 1000, 3) := by decide +kernel
theorem dX12_nearestGetter_28 : decode cX12_nearestGetter 28 = .ok (.if_icmp .ge 25, 3) := by decide +kernel
theorem dX12_nearestGetter_31 : decode cX12_nearestGetter 31 = .ok (.iload_n 1, 1) := by decide +kernel
theorem dX12_nearestGetter_32 : decode cX12_nearestGetter 32 = .ok (.iconst (-1), 1) := by decide +kernel
theorem dX12_nearestGetter_33 : decode cX12_nearestGetter 33 = .ok (.if_icmp .eq 18, 3) := by decide +kernel
theorem dX12_nearestGetter_36 : decode cX12_nearestGetter 36 = .ok (.aload_n 0, 1) := by decide +kernel
theorem dX12_nearestGetter_37 : decode cX12_nearestGetter 37 = .ok (.getfield 114, 3) := by decide +kernel
theorem dX12_nearestGetter_40 : decode cX12_nearestGetter 40 = .ok (.iload_n 2, 1) := by decide +kernel
theorem dX12_nearestGetter_41 : decode cX12_nearestGetter 41 = .ok (.iaload, 1) := by decide +kernel
theorem dX12_nearestGetter_42 : decode cX12_nearestGetter 42 = .ok (.aload_n 0, 1) := by decide +kernel
theorem dX12_nearestGetter_43 : decode cX12_nearestGetter 43 = .ok (.getfield 114, 3) := by decide +kernel
theorem dX12_nearestGetter_46 : decode cX12_nearestGetter 46 = .ok (.iload_n 1, 1) := by decide +kernel
theorem dX12_nearestGetter_47 : decode cX12_nearestGetter 47 = .ok (.iaload, 1) := by decide +kernel
theorem dX12_nearestGetter_48 : decode cX12_nearestGetter 48 = .ok (.if_icmp .ge 5, 3) := by decide +kernel
theorem dX12_nearestGetter_51 : decode cX12_nearestGetter 51 = .ok (.iload_n 2, 1) := by decide +kernel
theorem dX12_nearestGetter_52 : decode cX12_nearestGetter 52 = .ok (.istore_n 1, 1) := by decide +kernel
theorem dX12_nearestGetter_53 : decode cX12_nearestGetter 53 = .ok (.iinc 2 1, 3) := by decide +kernel
theorem dX12_nearestGetter_56 : decode cX12_nearestGetter 56 = .ok (.goto (-52), 3) := by decide +kernel
theorem dX12_nearestGetter_59 : decode cX12_nearestGetter 59 = .ok (.iload_n 1, 1) := by decide +kernel
theorem dX12_nearestGetter_60 : decode cX12_nearestGetter 60 = .ok (.ireturn, 1) := by decide +kernel
theorem dX12_end_0 : decode cX12_end 0 = .ok (.iload_n 1, 1) := by decide +kernel
theorem dX12_end_1 : decode cX12_end 1 = .ok (.invokestatic 162, 3) := by decide +kernel
theorem dX12_end_4 : decode cX12_end 4 = .ok (.ifCond .eq 34, 3) := by decide +kernel
theorem dX12_end_7 : decode cX12_end 7 = .ok (.iload_n 2, 1) := by decide +kernel
theorem dX12_end_8 : decode cX12_end 8 = .ok (.iconst 0, 1) := by decide +kernel
theorem dX12_end_9 : decode cX12_end 9 = .ok (.sipush 300, 3) := by decide +kernel
theorem dX12_end_12 : decode cX12_end 12 = .ok (.invokestatic 168, 3) := by decide +kernel
theorem dX12_end_15 : decode cX12_end 15 = .ok (.ifCond .eq 23, 3) := by decide +kernel
theorem dX12_end_18 : decode cX12_end 18 = .ok (.iload_n 3, 1) := by decide +kernel
theorem dX12_end_19 : decode cX12_end 19 = .ok (.iconst 1, 1) := by decide +kernel
theorem dX12_end_20 : decode cX12_end 20 = .ok (.bipush 20, 2) := by decide +kernel
theorem dX12_end_22 : decode cX12_end 22 = .ok (.invokestatic 168, 3) := by decide +kernel
theorem dX12_end_25 : decode cX12_end 25 = .ok (.ifCond .eq 13, 3) := by decide +kernel
theorem dX12_end_28 : decode cX12_end 28 = .ok (.aload_n 0, 1) := by decide +kernel
theorem dX12_end_29 : decode cX12_end 29 = .ok (.getfield 123, 3) := by decide +kernel
theorem dX12_end_32 : decode cX12_end 32 = .ok (.iload_n 1, 1) := by decide +kernel
theorem dX12_end_33 : decode cX12_end 33 = .ok (.iaload, 1) := by decide +kernel
theorem dX12_end_34 : decode cX12_end 34 = .ok (.iconst 5, 1) := by decide +kernel
theorem dX12_end_35 : decode cX12_end 35 = .ok (.if_icmp .ne 5, 3) := by decide +kernel
theorem dX12_end_38 : decode cX12_end 38 = .ok (.iconst (-1), 1) := by decide +kernel
theorem dX12_end_39 : decode cX12_end 39 = .ok (.ireturn, 1) := by decide +kernel
theorem dX12_end_40 : decode cX12_end 40 = .ok (.aload_n 0, 1) := by decide +kernel
theorem dX12_end_41 : decode cX12_end 41 = .ok (.getfield 126, 3) := by decide +kernel
theorem dX12_end_44 : decode cX12_end 44 = .ok (.iconst 5, 1) := by decide +kernel
theorem dX12_end_45 : decode cX12_end 45 = .ok (.iload_n 1, 1) := by decide +kernel
theorem dX12_end_46 : decode cX12_end 46 = .ok (.imul, 1) := by decide +kernel
theorem dX12_end_47 : decode cX12_end 47 = .ok (.aload_n 0, 1) := by decide +kernel
theorem dX12_end_48 : decode cX12_end 48 = .ok (.getfield 123, 3) := by decide +kernel
theorem dX12_end_51 : decode cX12_end 51 = .ok (.iload_n 1, 1) := by decide +kernel
theorem dX12_end_52 : decode cX12_end 52 = .ok (.iaload, 1) := by decide +kernel
theorem dX12_end_53 : decode cX12_end 53 = .ok (.iadd, 1) := by decide +kernel
theorem dX12_end_54 : decode cX12_end 54 = .ok (.iload_n 2, 1) := by decide +kernel
theorem dX12_end_55 : decode cX12_end 55 = .ok (.iastore, 1) := by decide +kernel
theorem dX12_end_56 : decode cX12_end 56 = .ok (.aload_n 0, 1) := by decide +kernel
theorem dX12_end_57 : decode cX12_end 57 = .ok (.getfield 129, 3) := by decide +kernel
theorem dX12_end_60 : decode cX12_end 60 = .ok (.iconst 5, 1) := by decide +kernel
theorem dX12_end_61 : decode cX12_end 61 = .ok (.iload_n 1, 1) := by decide +kernel
theorem dX12_end_62 : decode cX12_end 62 = .ok (.imul, 1) := by decide +kernel
theorem dX12_end_63 : decode cX12_end 63 = .ok (.aload_n 0, 1) := by decide +kernel
theorem dX12_end_64 : decode cX12_end 64 = .ok (.getfield 123, 3) := by decide +kernel
theorem dX12_end_67 : decode cX12_end 67 = .ok (.iload_n 1, 1) := by decide +kernel
theorem dX12_end_68 : decode cX12_end 68 = .ok (.iaload, 1) := by decide +kernel
theorem dX12_end_69 : decode cX12_end 69 = .ok (.iadd, 1) := by decide +kernel
theorem dX12_end_70 : decode cX12_end 70 = .ok (.iload_n 3, 1) := by decide +kernel
theorem dX12_end_71 : decode cX12_end 71 = .ok (.iastore, 1) := by decide +kernel
theorem dX12_end_72 : decode cX12_end 72 = .ok (.aload_n 0, 1) := by decide +kernel
theorem dX12_end_73 : decode cX12_end 73 = .ok (.getfield 123, 3) := by decide +kernel
theorem dX12_end_76 : decode cX12_end 76 = .ok (.iload_n 1, 1) := by decide +kernel
theorem dX12_end_77 : decode cX12_end 77 = .ok (.aload_n 0, 1) := by decide +kernel
theorem dX12_end_78 : decode cX12_end 78 = .ok (.getfield 123, 3) := by decide +kernel
theorem dX12_end_81 : decode cX12_end 81 = .ok (.iload_n 1, 1) := by decide +kernel
theorem dX12_end_82 : decode cX12_end 82 = .ok (.iaload, 1) := by decide +kernel
theorem dX12_end_83 : decode cX12_end 83 = .ok (.iconst 1, 1) := by decide +kernel
theorem dX12_end_84 : decode cX12_end 84 = .ok (.iadd, 1) := by decide +kernel
theorem dX12_end_85 : decode cX12_end 85 = .ok (.iastore, 1) := by decide +kernel
theorem dX12_end_86 : decode cX12_end 86 = .ok (.aload_n 0, 1) := by decide +kernel
theorem dX12_end_87 : decode cX12_end 87 = .ok (.getfield 123, 3) := by decide +kernel
theorem dX12_end_90 : decode cX12_end 90 = .ok (.iload_n 1, 1) := by decide +kernel
theorem dX12_end_91 : decode cX12_end 91 = .ok (.iaload, 1) := by decide +kernel
theorem dX12_end_92 : decode cX12_end 92 = .ok (.ireturn, 1) := by decide +kernel
theorem dX12_bridge_0 : decode cX12_bridge 0 = .ok (.iload_n 2, 1) := by decide +kernel
theorem dX12_bridge_1 : decode cX12_bridge 1 = .ok (.iconst 1, 1) := by decide +kernel
theorem dX12_bridge_2 : decode cX12_bridge 2 = .ok (.bipush 100, 2) := by decide +kernel
theorem dX12_bridge_4 : decode cX12_bridge 4 = .ok (.invokestatic 168, 3) := by decide +kernel
theorem dX12_bridge_7 : decode cX12_bridge 7 = .ok (.ifCond .eq 23, 3) := by decide +kernel
theorem dX12_bridge_10 : decode cX12_bridge 10 = .ok (.iload_n 1, 1) := by decide +kernel
theorem dX12_bridge_11 : decode cX12_bridge 11 = .ok (.iconst 0, 1) := by decide +kernel
theorem dX12_bridge_12 : decode cX12_bridge 12 = .ok (.iload_n 2, 1) := by decide +kernel
theorem dX12_bridge_13 : decode cX12_bridge 13 = .ok (.invokestatic 168, 3) := by decide +kernel
theorem dX12_bridge_16 : decode cX12_bridge 16 = .ok (.ifCond .eq 14, 3) := by decide +kernel
theorem dX12_bridge_19 : decode cX12_bridge 19 = .ok (.iload_n 3, 1) := by decide +kernel
theorem dX12_bridge_20 : decode cX12_bridge 20 = .ok (.iconst 0, 1) := by decide +kernel
theorem dX12_bridge_21 : decode cX12_bridge 21 = .ok (.sipush 600, 3) := by decide +kernel
theorem dX12_bridge_24 : decode cX12_bridge 24 = .ok (.invokestatic 168, 3) := by decide +kernel
theorem dX12_bridge_27 : decode cX12_bridge 27 = .ok (.ifCond .ne 5, 3) := by decide +kernel
theorem dX12_bridge_30 : decode cX12_bridge 30 = .ok (.iconst 0, 1) := by decide +kernel
theorem dX12_bridge_31 : decode cX12_bridge 31 = .ok (.ireturn, 1) := by decide +kernel
theorem dX12_bridge_32 : decode cX12_bridge 32 = .ok (.aload_n 0, 1) := by decide +kernel
theorem dX12_bridge_33 : decode cX12_bridge 33 = .ok (.iload_n 1, 1) := by decide +kernel
theorem dX12_bridge_34 : decode cX12_bridge 34 = .ok (.putfield 374, 3) := by decide +kernel
theorem dX12_bridge_37 : decode cX12_bridge 37 = .ok (.aload_n 0, 1) := by decide +kernel
theorem dX12_bridge_38 : decode cX12_bridge 38 = .ok (.iload_n 2, 1) := by decide +kernel
theorem dX12_bridge_39 : decode cX12_bridge 39 = .ok (.putfield 148, 3) := by decide +kernel
theorem dX12_bridge_42 : decode cX12_bridge 42 = .ok (.aload_n 0, 1) := by decide +kernel
theorem dX12_bridge_43 : decode cX12_bridge 43 = .ok (.iload_n 3, 1) := by decide +kernel
theorem dX12_bridge_44 : decode cX12_bridge 44 = .ok (.putfield 377, 3) := by decide +kernel
theorem dX12_bridge_47 : decode cX12_bridge 47 = .ok (.iconst 1, 1) := by decide +kernel
theorem dX12_bridge_48 : decode cX12_bridge 48 = .ok (.ireturn, 1) := by decide +kernel
theorem dX12_isCrossing_0 : decode cX12_isCrossing 0 = .ok (.aload_n 0, 1) := by decide +kernel
theorem dX12_isCrossing_1 : decode cX12_isCrossing 1 = .ok (.getfield 380, 3) := by decide +kernel
theorem dX12_isCrossing_4 : decode cX12_isCrossing 4 = .ok (.iload_n 1, 1) := by decide +kernel
theorem dX12_isCrossing_5 : decode cX12_isCrossing 5 = .ok (.ishr, 1) := by decide +kernel
theorem dX12_isCrossing_6 : decode cX12_isCrossing 6 = .ok (.iconst 1, 1) := by decide +kernel
theorem dX12_isCrossing_7 : decode cX12_isCrossing 7 = .ok (.iand, 1) := by decide +kernel
theorem dX12_isCrossing_8 : decode cX12_isCrossing 8 = .ok (.iconst 1, 1) := by decide +kernel
theorem dX12_isCrossing_9 : decode cX12_isCrossing 9 = .ok (.if_icmp .ne 7, 3) := by decide +kernel
theorem dX12_isCrossing_12 : decode cX12_isCrossing 12 = .ok (.iconst 1, 1) := by decide +kernel
theorem dX12_isCrossing_13 : decode cX12_isCrossing 13 = .ok (.goto 4, 3) := by decide +kernel
theorem dX12_isCrossing_16 : decode cX12_isCrossing 16 = .ok (.iconst 0, 1) := by decide +kernel
theorem dX12_isCrossing_17 : decode cX12_isCrossing 17 = .ok (.ireturn, 1) := by decide +kernel
theorem dX12_crosses_0 : decode cX12_crosses 0 = .ok (.iload_n 1, 1) := by decide +kernel
theorem dX12_crosses_1 : decode cX12_crosses 1 = .ok (.invokestatic 162, 3) := by decide +kernel
theorem dX12_crosses_4 : decode cX12_crosses 4 = .ok (.ifCond .eq 12, 3) := by decide +kernel
theorem dX12_crosses_7 : decode cX12_crosses 7 = .ok (.aload_n 0, 1) := by decide +kernel
theorem dX12_crosses_8 : decode cX12_crosses 8 = .ok (.iload_n 1, 1) := by decide +kernel
theorem dX12_crosses_9 : decode cX12_crosses 9 = .ok (.invokevirtual 383, 3) := by decide +kernel
theorem dX12_crosses_12 : decode cX12_crosses 12 = .ok (.iload_n 2, 1) := by decide +kernel
theorem dX12_crosses_13 : decode cX12_crosses 13 = .ok (.if_icmp .ne 5, 3) := by decide +kernel
theorem dX12_crosses_16 : decode cX12_crosses 16 = .ok (.iconst 0, 1) := by decide +kernel
theorem dX12_crosses_17 : decode cX12_crosses 17 = .ok (.ireturn, 1) := by decide +kernel
theorem dX12_crosses_18 : decode cX12_crosses 18 = .ok (.aload_n 0, 1) := by decide +kernel
theorem dX12_crosses_19 : decode cX12_crosses 19 = .ok (.iload_n 2, 1) := by decide +kernel
theorem dX12_crosses_20 : decode cX12_crosses 20 = .ok (.ifCond .eq 14, 3) := by decide +kernel
theorem dX12_crosses_23 : decode cX12_crosses 23 = .ok (.aload_n 0, 1) := by decide +kernel
theorem dX12_crosses_24 : decode cX12_crosses 24 = .ok (.getfield 380, 3) := by decide +kernel
theorem dX12_crosses_27 : decode cX12_crosses 27 = .ok (.iconst 1, 1) := by decide +kernel
theorem dX12_crosses_28 : decode cX12_crosses 28 = .ok (.iload_n 1, 1) := by decide +kernel
theorem dX12_crosses_29 : decode cX12_crosses 29 = .ok (.ishl, 1) := by decide +kernel
theorem dX12_crosses_30 : decode cX12_crosses 30 = .ok (.ior, 1) := by decide +kernel
theorem dX12_crosses_31 : decode cX12_crosses 31 = .ok (.goto 13, 3) := by decide +kernel
theorem dX12_crosses_34 : decode cX12_crosses 34 = .ok (.aload_n 0, 1) := by decide +kernel
theorem dX12_crosses_35 : decode cX12_crosses 35 = .ok (.getfield 380, 3) := by decide +kernel
theorem dX12_crosses_38 : decode cX12_crosses 38 = .ok (.iconst 1, 1) := by decide +kernel
theorem dX12_crosses_39 : decode cX12_crosses 39 = .ok (.iload_n 1, 1) := by decide +kernel
theorem dX12_crosses_40 : decode cX12_crosses 40 = .ok (.ishl, 1) := by decide +kernel
theorem dX12_crosses_41 : decode cX12_crosses 41 = .ok (.iconst (-1), 1) := by decide +kernel
theorem dX12_crosses_42 : decode cX12_crosses 42 = .ok (.ixor, 1) := by decide +kernel
theorem dX12_crosses_43 : decode cX12_crosses 43 = .ok (.iand, 1) := by decide +kernel
theorem dX12_crosses_44 : decode cX12_crosses 44 = .ok (.putfield 380, 3) := by decide +kernel
theorem dX12_crosses_47 : decode cX12_crosses 47 = .ok (.iconst 1, 1) := by decide +kernel
theorem dX12_crosses_48 : decode cX12_crosses 48 = .ok (.ireturn, 1) := by decide +kernel
theorem dX12_endsOf_0 : decode cX12_endsOf 0 = .ok (.aload_n 0, 1) := by decide +kernel
theorem dX12_endsOf_1 : decode cX12_endsOf 1 = .ok (.getfield 123, 3) := by decide +kernel
theorem dX12_endsOf_4 : decode cX12_endsOf 4 = .ok (.iload_n 1, 1) := by decide +kernel
theorem dX12_endsOf_5 : decode cX12_endsOf 5 = .ok (.iaload, 1) := by decide +kernel
theorem dX12_endsOf_6 : decode cX12_endsOf 6 = .ok (.ifCond .ne 7, 3) := by decide +kernel
theorem dX12_endsOf_9 : decode cX12_endsOf 9 = .ok (.iconst 1, 1) := by decide +kernel
theorem dX12_endsOf_10 : decode cX12_endsOf 10 = .ok (.goto 9, 3) := by decide +kernel
theorem dX12_endsOf_13 : decode cX12_endsOf 13 = .ok (.aload_n 0, 1) := by decide +kernel
theorem dX12_endsOf_14 : decode cX12_endsOf 14 = .ok (.getfield 123, 3) := by decide +kernel
theorem dX12_endsOf_17 : decode cX12_endsOf 17 = .ok (.iload_n 1, 1) := by decide +kernel
theorem dX12_endsOf_18 : decode cX12_endsOf 18 = .ok (.iaload, 1) := by decide +kernel
theorem dX12_endsOf_19 : decode cX12_endsOf 19 = .ok (.ireturn, 1) := by decide +kernel
theorem dX12_weightAt_0 : decode cX12_weightAt 0 = .ok (.aload_n 0, 1) := by decide +kernel
theorem dX12_weightAt_1 : decode cX12_weightAt 1 = .ok (.getfield 123, 3) := by decide +kernel
theorem dX12_weightAt_4 : decode cX12_weightAt 4 = .ok (.iload_n 1, 1) := by decide +kernel
theorem dX12_weightAt_5 : decode cX12_weightAt 5 = .ok (.iaload, 1) := by decide +kernel
theorem dX12_weightAt_6 : decode cX12_weightAt 6 = .ok (.ifCond .ne 7, 3) := by decide +kernel
theorem dX12_weightAt_9 : decode cX12_weightAt 9 = .ok (.iconst 1, 1) := by decide +kernel
theorem dX12_weightAt_10 : decode cX12_weightAt 10 = .ok (.goto 13, 3) := by decide +kernel
theorem dX12_weightAt_13 : decode cX12_weightAt 13 = .ok (.aload_n 0, 1) := by decide +kernel
theorem dX12_weightAt_14 : decode cX12_weightAt 14 = .ok (.getfield 129, 3) := by decide +kernel
theorem dX12_weightAt_17 : decode cX12_weightAt 17 = .ok (.iconst 5, 1) := by decide +kernel
theorem dX12_weightAt_18 : decode cX12_weightAt 18 = .ok (.iload_n 1, 1) := by decide +kernel
theorem dX12_weightAt_19 : decode cX12_weightAt 19 = .ok (.imul, 1) := by decide +kernel
theorem dX12_weightAt_20 : decode cX12_weightAt 20 = .ok (.iload_n 2, 1) := by decide +kernel
theorem dX12_weightAt_21 : decode cX12_weightAt 21 = .ok (.iadd, 1) := by decide +kernel
theorem dX12_weightAt_22 : decode cX12_weightAt 22 = .ok (.iaload, 1) := by decide +kernel
theorem dX12_weightAt_23 : decode cX12_weightAt 23 = .ok (.ireturn, 1) := by decide +kernel
theorem dX12_bridgeWeight_0 : decode cX12_bridgeWeight 0 = .ok (.iload_n 1, 1) := by decide +kernel
theorem dX12_bridgeWeight_1 : decode cX12_bridgeWeight 1 = .ok (.ifCond .eq 10, 3) := by decide +kernel
theorem dX12_bridgeWeight_4 : decode cX12_bridgeWeight 4 = .ok (.aload_n 0, 1) := by decide +kernel
theorem dX12_bridgeWeight_5 : decode cX12_bridgeWeight 5 = .ok (.getfield 374, 3) := by decide +kernel
theorem dX12_bridgeWeight_8 : decode cX12_bridgeWeight 8 = .ok (.goto 12, 3) := by decide +kernel
theorem dX12_bridgeWeight_11 : decode cX12_bridgeWeight 11 = .ok (.aload_n 0, 1) := by decide +kernel
theorem dX12_bridgeWeight_12 : decode cX12_bridgeWeight 12 = .ok (.getfield 148, 3) := by decide +kernel
theorem dX12_bridgeWeight_15 : decode cX12_bridgeWeight 15 = .ok (.aload_n 0, 1) := by decide +kernel
theorem dX12_bridgeWeight_16 : decode cX12_bridgeWeight 16 = .ok (.getfield 374, 3) := by decide +kernel
theorem dX12_bridgeWeight_19 : decode cX12_bridgeWeight 19 = .ok (.isub, 1) := by decide +kernel
theorem dX12_bridgeWeight_20 : decode cX12_bridgeWeight 20 = .ok (.ireturn, 1) := by decide +kernel
theorem dX12_gcd_0 : decode cX12_gcd 0 = .ok (.iload_n 0, 1) := by decide +kernel
theorem dX12_gcd_1 : decode cX12_gcd 1 = .ok (.istore_n 2, 1) := by decide +kernel
theorem dX12_gcd_2 : decode cX12_gcd 2 = .ok (.iload_n 1, 1) := by decide +kernel
theorem dX12_gcd_3 : decode cX12_gcd 3 = .ok (.istore_n 3, 1) := by decide +kernel
theorem dX12_gcd_4 : decode cX12_gcd 4 = .ok (.iload_n 3, 1) := by decide +kernel
theorem dX12_gcd_5 : decode cX12_gcd 5 = .ok (.ifCond .eq 16, 3) := by decide +kernel
theorem dX12_gcd_8 : decode cX12_gcd 8 = .ok (.iload_n 2, 1) := by decide +kernel
theorem dX12_gcd_9 : decode cX12_gcd 9 = .ok (.iload_n 3, 1) := by decide +kernel
theorem dX12_gcd_10 : decode cX12_gcd 10 = .ok (.irem, 1) := by decide +kernel
theorem dX12_gcd_11 : decode cX12_gcd 11 = .ok (.istore 4, 2) := by decide +kernel
theorem dX12_gcd_13 : decode cX12_gcd 13 = .ok (.iload_n 3, 1) := by decide +kernel
theorem dX12_gcd_14 : decode cX12_gcd 14 = .ok (.istore_n 2, 1) := by decide +kernel
theorem dX12_gcd_15 : decode cX12_gcd 15 = .ok (.iload 4, 2) := by decide +kernel
theorem dX12_gcd_17 : decode cX12_gcd 17 = .ok (.istore_n 3, 1) := by decide +kernel
theorem dX12_gcd_18 : decode cX12_gcd 18 = .ok (.goto (-14), 3) := by decide +kernel
theorem dX12_gcd_21 : decode cX12_gcd 21 = .ok (.iload_n 2, 1) := by decide +kernel
theorem dX12_gcd_22 : decode cX12_gcd 22 = .ok (.ireturn, 1) := by decide +kernel
theorem dX12_worthAt_0 : decode cX12_worthAt 0 = .ok (.iload_n 2, 1) := by decide +kernel
theorem dX12_worthAt_1 : decode cX12_worthAt 1 = .ok (.ifCond .ge 7, 3) := by decide +kernel
theorem dX12_worthAt_4 : decode cX12_worthAt 4 = .ok (.iconst 0, 1) := by decide +kernel
theorem dX12_worthAt_5 : decode cX12_worthAt 5 = .ok (.goto 21, 3) := by decide +kernel
theorem dX12_worthAt_8 : decode cX12_worthAt 8 = .ok (.iload_n 2, 1) := by decide +kernel
theorem dX12_worthAt_9 : decode cX12_worthAt 9 = .ok (.bipush 60, 2) := by decide +kernel
theorem dX12_worthAt_11 : decode cX12_worthAt 11 = .ok (.idiv, 1) := by decide +kernel
theorem dX12_worthAt_12 : decode cX12_worthAt 12 = .ok (.bipush 23, 2) := by decide +kernel
theorem dX12_worthAt_14 : decode cX12_worthAt 14 = .ok (.if_icmp .le 8, 3) := by decide +kernel
theorem dX12_worthAt_17 : decode cX12_worthAt 17 = .ok (.bipush 23, 2) := by decide +kernel
theorem dX12_worthAt_19 : decode cX12_worthAt 19 = .ok (.goto 7, 3) := by decide +kernel
theorem dX12_worthAt_22 : decode cX12_worthAt 22 = .ok (.iload_n 2, 1) := by decide +kernel
theorem dX12_worthAt_23 : decode cX12_worthAt 23 = .ok (.bipush 60, 2) := by decide +kernel
theorem dX12_worthAt_25 : decode cX12_worthAt 25 = .ok (.idiv, 1) := by decide +kernel
theorem dX12_worthAt_26 : decode cX12_worthAt 26 = .ok (.istore_n 3, 1) := by decide +kernel
theorem dX12_worthAt_27 : decode cX12_worthAt 27 = .ok (.aload_n 0, 1) := by decide +kernel
theorem dX12_worthAt_28 : decode cX12_worthAt 28 = .ok (.getfield 7, 3) := by decide +kernel
theorem dX12_worthAt_31 : decode cX12_worthAt 31 = .ok (.bipush 24, 2) := by decide +kernel
theorem dX12_worthAt_33 : decode cX12_worthAt 33 = .ok (.iload_n 1, 1) := by decide +kernel
theorem dX12_worthAt_34 : decode cX12_worthAt 34 = .ok (.imul, 1) := by decide +kernel
theorem dX12_worthAt_35 : decode cX12_worthAt 35 = .ok (.iload_n 3, 1) := by decide +kernel
theorem dX12_worthAt_36 : decode cX12_worthAt 36 = .ok (.iadd, 1) := by decide +kernel
theorem dX12_worthAt_37 : decode cX12_worthAt 37 = .ok (.iaload, 1) := by decide +kernel
theorem dX12_worthAt_38 : decode cX12_worthAt 38 = .ok (.ireturn, 1) := by decide +kernel
theorem dX12_comingCost_0 : decode cX12_comingCost 0 = .ok (.aload_n 0, 1) := by decide +kernel
theorem dX12_comingCost_1 : decode cX12_comingCost 1 = .ok (.getfield 16, 3) := by decide +kernel
theorem dX12_comingCost_4 : decode cX12_comingCost 4 = .ok (.iload_n 1, 1) := by decide +kernel
theorem dX12_comingCost_5 : decode cX12_comingCost 5 = .ok (.iaload, 1) := by decide +kernel
theorem dX12_comingCost_6 : decode cX12_comingCost 6 = .ok (.istore 5, 2) := by decide +kernel
theorem dX12_comingCost_8 : decode cX12_comingCost 8 = .ok (.iload_n 3, 1) := by decide +kernel
theorem dX12_comingCost_9 : decode cX12_comingCost 9 = .ok (.iload 5, 2) := by decide +kernel
theorem dX12_comingCost_11 : decode cX12_comingCost 11 = .ok (.if_icmp .ge 19, 3) := by decide +kernel
theorem dX12_comingCost_14 : decode cX12_comingCost 14 = .ok (.iload 5, 2) := by decide +kernel
theorem dX12_comingCost_16 : decode cX12_comingCost 16 = .ok (.iload_n 3, 1) := by decide +kernel
theorem dX12_comingCost_17 : decode cX12_comingCost 17 = .ok (.isub, 1) := by decide +kernel
theorem dX12_comingCost_18 : decode cX12_comingCost 18 = .ok (.i2l, 1) := by decide +kernel
theorem dX12_comingCost_19 : decode cX12_comingCost 19 = .ok (.aload_n 0, 1) := by decide +kernel
theorem dX12_comingCost_20 : decode cX12_comingCost 20 = .ok (.iload_n 2, 1) := by decide +kernel
theorem dX12_comingCost_21 : decode cX12_comingCost 21 = .ok (.iload_n 3, 1) := by decide +kernel
theorem dX12_comingCost_22 : decode cX12_comingCost 22 = .ok (.invokevirtual 413, 3) := by decide +kernel
theorem dX12_comingCost_25 : decode cX12_comingCost 25 = .ok (.i2l, 1) := by decide +kernel
theorem dX12_comingCost_26 : decode cX12_comingCost 26 = .ok (.lmul, 1) := by decide +kernel
theorem dX12_comingCost_27 : decode cX12_comingCost 27 = .ok (.goto 25, 3) := by decide +kernel
theorem dX12_comingCost_30 : decode cX12_comingCost 30 = .ok (.iload_n 3, 1) := by decide +kernel
theorem dX12_comingCost_31 : decode cX12_comingCost 31 = .ok (.iload 5, 2) := by decide +kernel
theorem dX12_comingCost_33 : decode cX12_comingCost 33 = .ok (.isub, 1) := by decide +kernel
theorem dX12_comingCost_34 : decode cX12_comingCost 34 = .ok (.i2l, 1) := by decide +kernel
theorem dX12_comingCost_35 : decode cX12_comingCost 35 = .ok (.aload_n 0, 1) := by decide +kernel
theorem dX12_comingCost_36 : decode cX12_comingCost 36 = .ok (.getfield 19, 3) := by decide +kernel
theorem dX12_comingCost_39 : decode cX12_comingCost 39 = .ok (.iload_n 1, 1) := by decide +kernel
theorem dX12_comingCost_40 : decode cX12_comingCost 40 = .ok (.iaload, 1) := by decide +kernel
theorem dX12_comingCost_41 : decode cX12_comingCost 41 = .ok (.invokestatic 172, 3) := by decide +kernel
theorem dX12_comingCost_44 : decode cX12_comingCost 44 = .ok (.iconst 1, 1) := by decide +kernel
theorem dX12_comingCost_45 : decode cX12_comingCost 45 = .ok (.isub, 1) := by decide +kernel
theorem dX12_comingCost_46 : decode cX12_comingCost 46 = .ok (.i2l, 1) := by decide +kernel
theorem dX12_comingCost_47 : decode cX12_comingCost 47 = .ok (.lmul, 1) := by decide +kernel
theorem dX12_comingCost_48 : decode cX12_comingCost 48 = .ok (.iload 4, 2) := by decide +kernel
theorem dX12_comingCost_50 : decode cX12_comingCost 50 = .ok (.i2l, 1) := by decide +kernel
theorem dX12_comingCost_51 : decode cX12_comingCost 51 = .ok (.lmul, 1) := by decide +kernel
theorem dX12_comingCost_52 : decode cX12_comingCost 52 = .ok (.lreturn, 1) := by decide +kernel
theorem dX12_dayCost_0 : decode cX12_dayCost 0 = .ok (.aload_n 0, 1) := by decide +kernel
theorem dX12_dayCost_1 : decode cX12_dayCost 1 = .ok (.getfield 16, 3) := by decide +kernel
theorem dX12_dayCost_4 : decode cX12_dayCost 4 = .ok (.iload_n 1, 1) := by decide +kernel
theorem dX12_dayCost_5 : decode cX12_dayCost 5 = .ok (.iaload, 1) := by decide +kernel
theorem dX12_dayCost_6 : decode cX12_dayCost 6 = .ok (.istore 4, 2) := by decide +kernel
theorem dX12_dayCost_8 : decode cX12_dayCost 8 = .ok (.iconst 0, 1) := by decide +kernel
theorem dX12_dayCost_9 : decode cX12_dayCost 9 = .ok (.istore 5, 2) := by decide +kernel
theorem dX12_dayCost_11 : decode cX12_dayCost 11 = .ok (.iload 5, 2) := by decide +kernel
theorem dX12_dayCost_13 : decode cX12_dayCost 13 = .ok (.aload_n 0, 1) := by decide +kernel
theorem dX12_dayCost_14 : decode cX12_dayCost 14 = .ok (.getfield 439, 3) := by decide +kernel
theorem dX12_dayCost_17 : decode cX12_dayCost 17 = .ok (.if_icmp .ge 35, 3) := by decide +kernel
theorem dX12_dayCost_20 : decode cX12_dayCost 20 = .ok (.aload_n 0, 1) := by decide +kernel
theorem dX12_dayCost_21 : decode cX12_dayCost 21 = .ok (.getfield 145, 3) := by decide +kernel
theorem dX12_dayCost_24 : decode cX12_dayCost 24 = .ok (.iload 5, 2) := by decide +kernel
theorem dX12_dayCost_26 : decode cX12_dayCost 26 = .ok (.iaload, 1) := by decide +kernel
theorem dX12_dayCost_27 : decode cX12_dayCost 27 = .ok (.iload 4, 2) := by decide +kernel
theorem dX12_dayCost_29 : decode cX12_dayCost 29 = .ok (.if_icmp .le 13, 3) := by decide +kernel
theorem dX12_dayCost_32 : decode cX12_dayCost 32 = .ok (.aload_n 0, 1) := by decide +kernel
theorem dX12_dayCost_33 : decode cX12_dayCost 33 = .ok (.getfield 145, 3) := by decide +kernel
theorem dX12_dayCost_36 : decode cX12_dayCost 36 = .ok (.iload 5, 2) := by decide +kernel
theorem dX12_dayCost_38 : decode cX12_dayCost 38 = .ok (.iaload, 1) := by decide +kernel
theorem dX12_dayCost_39 : decode cX12_dayCost 39 = .ok (.goto 5, 3) := by decide +kernel
theorem dX12_dayCost_42 : decode cX12_dayCost 42 = .ok (.iload 4, 2) := by decide +kernel
theorem dX12_dayCost_44 : decode cX12_dayCost 44 = .ok (.istore 4, 2) := by decide +kernel
theorem dX12_dayCost_46 : decode cX12_dayCost 46 = .ok (.iinc 5 1, 3) := by decide +kernel
theorem dX12_dayCost_49 : decode cX12_dayCost 49 = .ok (.goto (-38), 3) := by decide +kernel
theorem dX12_dayCost_52 : decode cX12_dayCost 52 = .ok (.iload 4, 2) := by decide +kernel
theorem dX12_dayCost_54 : decode cX12_dayCost 54 = .ok (.aload_n 0, 1) := by decide +kernel
theorem dX12_dayCost_55 : decode cX12_dayCost 55 = .ok (.getfield 145, 3) := by decide +kernel
theorem dX12_dayCost_58 : decode cX12_dayCost 58 = .ok (.iload_n 2, 1) := by decide +kernel
theorem dX12_dayCost_59 : decode cX12_dayCost 59 = .ok (.iaload, 1) := by decide +kernel
theorem dX12_dayCost_60 : decode cX12_dayCost 60 = .ok (.isub, 1) := by decide +kernel
theorem dX12_dayCost_61 : decode cX12_dayCost 61 = .ok (.i2l, 1) := by decide +kernel
theorem dX12_dayCost_62 : decode cX12_dayCost 62 = .ok (.aload_n 0, 1) := by decide +kernel
theorem dX12_dayCost_63 : decode cX12_dayCost 63 = .ok (.getfield 7, 3) := by decide +kernel
theorem dX12_dayCost_66 : decode cX12_dayCost 66 = .ok (.bipush 24, 2) := by decide +kernel
theorem dX12_dayCost_68 : decode cX12_dayCost 68 = .ok (.aload_n 0, 1) := by decide +kernel
theorem dX12_dayCost_69 : decode cX12_dayCost 69 = .ok (.getfield 136, 3) := by decide +kernel
theorem dX12_dayCost_72 : decode cX12_dayCost 72 = .ok (.iload_n 2, 1) := by decide +kernel
theorem dX12_dayCost_73 : decode cX12_dayCost 73 = .ok (.iaload, 1) := by decide +kernel
theorem dX12_dayCost_74 : decode cX12_dayCost 74 = .ok (.imul, 1) := by decide +kernel
theorem dX12_dayCost_75 : decode cX12_dayCost 75 = .ok (.aload_n 0, 1) := by decide +kernel
theorem dX12_dayCost_76 : decode cX12_dayCost 76 = .ok (.getfield 16, 3) := by decide +kernel
theorem dX12_dayCost_79 : decode cX12_dayCost 79 = .ok (.iload_n 1, 1) := by decide +kernel
theorem dX12_dayCost_80 : decode cX12_dayCost 80 = .ok (.iaload, 1) := by decide +kernel
theorem dX12_dayCost_81 : decode cX12_dayCost 81 = .ok (.bipush 60, 2) := by decide +kernel
theorem dX12_dayCost_83 : decode cX12_dayCost 83 = .ok (.idiv, 1) := by decide +kernel
theorem dX12_dayCost_84 : decode cX12_dayCost 84 = .ok (.iadd, 1) := by decide +kernel
theorem dX12_dayCost_85 : decode cX12_dayCost 85 = .ok (.iaload, 1) := by decide +kernel
theorem dX12_dayCost_86 : decode cX12_dayCost 86 = .ok (.i2l, 1) := by decide +kernel
theorem dX12_dayCost_87 : decode cX12_dayCost 87 = .ok (.lmul, 1) := by decide +kernel
theorem dX12_dayCost_88 : decode cX12_dayCost 88 = .ok (.lstore 5, 2) := by decide +kernel
theorem dX12_dayCost_90 : decode cX12_dayCost 90 = .ok (.iconst 0, 1) := by decide +kernel
theorem dX12_dayCost_91 : decode cX12_dayCost 91 = .ok (.istore 7, 2) := by decide +kernel
theorem dX12_dayCost_93 : decode cX12_dayCost 93 = .ok (.iload 7, 2) := by decide +kernel
theorem dX12_dayCost_95 : decode cX12_dayCost 95 = .ok (.aload_n 0, 1) := by decide +kernel
theorem dX12_dayCost_96 : decode cX12_dayCost 96 = .ok (.getfield 439, 3) := by decide +kernel
theorem dX12_dayCost_99 : decode cX12_dayCost 99 = .ok (.if_icmp .ge 78, 3) := by decide +kernel
theorem dX12_dayCost_102 : decode cX12_dayCost 102 = .ok (.aload_n 0, 1) := by decide +kernel
theorem dX12_dayCost_103 : decode cX12_dayCost 103 = .ok (.getfield 145, 3) := by decide +kernel
theorem dX12_dayCost_106 : decode cX12_dayCost 106 = .ok (.iload 7, 2) := by decide +kernel
theorem dX12_dayCost_108 : decode cX12_dayCost 108 = .ok (.iaload, 1) := by decide +kernel
theorem dX12_dayCost_109 : decode cX12_dayCost 109 = .ok (.aload_n 0, 1) := by decide +kernel
theorem dX12_dayCost_110 : decode cX12_dayCost 110 = .ok (.getfield 16, 3) := by decide +kernel
theorem dX12_dayCost_113 : decode cX12_dayCost 113 = .ok (.iload_n 1, 1) := by decide +kernel
theorem dX12_dayCost_114 : decode cX12_dayCost 114 = .ok (.iaload, 1) := by decide +kernel
theorem dX12_dayCost_115 : decode cX12_dayCost 115 = .ok (.if_icmp .le 13, 3) := by decide +kernel
theorem dX12_dayCost_118 : decode cX12_dayCost 118 = .ok (.aload_n 0, 1) := by decide +kernel
theorem dX12_dayCost_119 : decode cX12_dayCost 119 = .ok (.getfield 145, 3) := by decide +kernel
theorem dX12_dayCost_122 : decode cX12_dayCost 122 = .ok (.iload 7, 2) := by decide +kernel
theorem dX12_dayCost_124 : decode cX12_dayCost 124 = .ok (.iaload, 1) := by decide +kernel
theorem dX12_dayCost_125 : decode cX12_dayCost 125 = .ok (.goto 9, 3) := by decide +kernel
theorem dX12_dayCost_128 : decode cX12_dayCost 128 = .ok (.aload_n 0, 1) := by decide +kernel
theorem dX12_dayCost_129 : decode cX12_dayCost 129 = .ok (.getfield 16, 3) := by decide +kernel
theorem dX12_dayCost_132 : decode cX12_dayCost 132 = .ok (.iload_n 1, 1) := by decide +kernel
theorem dX12_dayCost_133 : decode cX12_dayCost 133 = .ok (.iaload, 1) := by decide +kernel
theorem dX12_dayCost_134 : decode cX12_dayCost 134 = .ok (.istore 8, 2) := by decide +kernel
theorem dX12_dayCost_136 : decode cX12_dayCost 136 = .ok (.iload 7, 2) := by decide +kernel
theorem dX12_dayCost_138 : decode cX12_dayCost 138 = .ok (.iload_n 2, 1) := by decide +kernel
theorem dX12_dayCost_139 : decode cX12_dayCost 139 = .ok (.if_icmp .eq 32, 3) := by decide +kernel
theorem dX12_dayCost_142 : decode cX12_dayCost 142 = .ok (.aload_n 0, 1) := by decide +kernel
theorem dX12_dayCost_143 : decode cX12_dayCost 143 = .ok (.getfield 145, 3) := by decide +kernel
theorem dX12_dayCost_146 : decode cX12_dayCost 146 = .ok (.iload_n 2, 1) := by decide +kernel
theorem dX12_dayCost_147 : decode cX12_dayCost 147 = .ok (.iaload, 1) := by decide +kernel
theorem dX12_dayCost_148 : decode cX12_dayCost 148 = .ok (.iload 8, 2) := by decide +kernel
theorem dX12_dayCost_150 : decode cX12_dayCost 150 = .ok (.if_icmp .le 21, 3) := by decide +kernel
theorem dX12_dayCost_153 : decode cX12_dayCost 153 = .ok (.lload 5, 2) := by decide +kernel
theorem dX12_dayCost_155 : decode cX12_dayCost 155 = .ok (.aload_n 0, 1) := by decide +kernel
theorem dX12_dayCost_156 : decode cX12_dayCost 156 = .ok (.getfield 145, 3) := by decide +kernel
theorem dX12_dayCost_159 : decode cX12_dayCost 159 = .ok (.iload_n 2, 1) := by decide +kernel
theorem dX12_dayCost_160 : decode cX12_dayCost 160 = .ok (.iaload, 1) := by decide +kernel
theorem dX12_dayCost_161 : decode cX12_dayCost 161 = .ok (.iload 8, 2) := by decide +kernel
theorem dX12_dayCost_163 : decode cX12_dayCost 163 = .ok (.isub, 1) := by decide +kernel
theorem dX12_dayCost_164 : decode cX12_dayCost 164 = .ok (.i2l, 1) := by decide +kernel
theorem dX12_dayCost_165 : decode cX12_dayCost 165 = .ok (.iload_n 3, 1) := by decide +kernel
theorem dX12_dayCost_166 : decode cX12_dayCost 166 = .ok (.i2l, 1) := by decide +kernel
theorem dX12_dayCost_167 : decode cX12_dayCost 167 = .ok (.lmul, 1) := by decide +kernel
theorem dX12_dayCost_168 : decode cX12_dayCost 168 = .ok (.ladd, 1) := by decide +kernel
theorem dX12_dayCost_169 : decode cX12_dayCost 169 = .ok (.lstore 5, 2) := by decide +kernel
theorem dX12_dayCost_171 : decode cX12_dayCost 171 = .ok (.iinc 7 1, 3) := by decide +kernel
theorem dX12_dayCost_174 : decode cX12_dayCost 174 = .ok (.goto (-81), 3) := by decide +kernel
theorem dX12_dayCost_177 : decode cX12_dayCost 177 = .ok (.lload 5, 2) := by decide +kernel
theorem dX12_dayCost_179 : decode cX12_dayCost 179 = .ok (.lreturn, 1) := by decide +kernel
theorem dX12_draws_0 : decode cX12_draws 0 = .ok (.aload_n 0, 1) := by decide +kernel
theorem dX12_draws_1 : decode cX12_draws 1 = .ok (.sipush 25173, 3) := by decide +kernel
theorem dX12_draws_4 : decode cX12_draws 4 = .ok (.aload_n 0, 1) := by decide +kernel
theorem dX12_draws_5 : decode cX12_draws 5 = .ok (.getfield 152, 3) := by decide +kernel
theorem dX12_draws_8 : decode cX12_draws 8 = .ok (.imul, 1) := by decide +kernel
theorem dX12_draws_9 : decode cX12_draws 9 = .ok (.sipush 13849, 3) := by decide +kernel
theorem dX12_draws_12 : decode cX12_draws 12 = .ok (.iadd, 1) := by decide +kernel
theorem dX12_draws_13 : decode cX12_draws 13 = .ok (.ldc_w 456, 3) := by decide +kernel
theorem dX12_draws_16 : decode cX12_draws 16 = .ok (.irem, 1) := by decide +kernel
theorem dX12_draws_17 : decode cX12_draws 17 = .ok (.putfield 152, 3) := by decide +kernel
theorem dX12_draws_20 : decode cX12_draws 20 = .ok (.return_, 1) := by decide +kernel
theorem dX12_tapeNumber_0 : decode cX12_tapeNumber 0 = .ok (.iconst 0, 1) := by decide +kernel
theorem dX12_tapeNumber_1 : decode cX12_tapeNumber 1 = .ok (.istore_n 2, 1) := by decide +kernel
theorem dX12_tapeNumber_2 : decode cX12_tapeNumber 2 = .ok (.iconst 4, 1) := by decide +kernel
theorem dX12_tapeNumber_3 : decode cX12_tapeNumber 3 = .ok (.iload_n 1, 1) := by decide +kernel
theorem dX12_tapeNumber_4 : decode cX12_tapeNumber 4 = .ok (.imul, 1) := by decide +kernel
theorem dX12_tapeNumber_5 : decode cX12_tapeNumber 5 = .ok (.istore_n 3, 1) := by decide +kernel
theorem dX12_tapeNumber_6 : decode cX12_tapeNumber 6 = .ok (.iload_n 3, 1) := by decide +kernel
theorem dX12_tapeNumber_7 : decode cX12_tapeNumber 7 = .ok (.iconst 4, 1) := by decide +kernel
theorem dX12_tapeNumber_8 : decode cX12_tapeNumber 8 = .ok (.iload_n 1, 1) := by decide +kernel
theorem dX12_tapeNumber_9 : decode cX12_tapeNumber 9 = .ok (.imul, 1) := by decide +kernel
theorem dX12_tapeNumber_10 : decode cX12_tapeNumber 10 = .ok (.iconst 4, 1) := by decide +kernel
theorem dX12_tapeNumber_11 : decode cX12_tapeNumber 11 = .ok (.iadd, 1) := by decide +kernel
theorem dX12_tapeNumber_12 : decode cX12_tapeNumber 12 = .ok (.if_icmp .ge 25, 3) := by decide +kernel
theorem dX12_tapeNumber_15 : decode cX12_tapeNumber 15 = .ok (.iload_n 2, 1) := by decide +kernel
theorem dX12_tapeNumber_16 : decode cX12_tapeNumber 16 = .ok (.bipush 8, 2) := by decide +kernel
theorem dX12_tapeNumber_18 : decode cX12_tapeNumber 18 = .ok (.ishl, 1) := by decide +kernel
theorem dX12_tapeNumber_19 : decode cX12_tapeNumber 19 = .ok (.aload_n 0, 1) := by decide +kernel
theorem dX12_tapeNumber_20 : decode cX12_tapeNumber 20 = .ok (.getfield 29, 3) := by decide +kernel
theorem dX12_tapeNumber_23 : decode cX12_tapeNumber 23 = .ok (.iload_n 3, 1) := by decide +kernel
theorem dX12_tapeNumber_24 : decode cX12_tapeNumber 24 = .ok (.baload, 1) := by decide +kernel
theorem dX12_tapeNumber_25 : decode cX12_tapeNumber 25 = .ok (.sipush 255, 3) := by decide +kernel
theorem dX12_tapeNumber_28 : decode cX12_tapeNumber 28 = .ok (.iand, 1) := by decide +kernel
theorem dX12_tapeNumber_29 : decode cX12_tapeNumber 29 = .ok (.ior, 1) := by decide +kernel
theorem dX12_tapeNumber_30 : decode cX12_tapeNumber 30 = .ok (.istore_n 2, 1) := by decide +kernel
theorem dX12_tapeNumber_31 : decode cX12_tapeNumber 31 = .ok (.iinc 3 1, 3) := by decide +kernel
theorem dX12_tapeNumber_34 : decode cX12_tapeNumber 34 = .ok (.goto (-28), 3) := by decide +kernel
theorem dX12_tapeNumber_37 : decode cX12_tapeNumber 37 = .ok (.iload_n 2, 1) := by decide +kernel
theorem dX12_tapeNumber_38 : decode cX12_tapeNumber 38 = .ok (.ireturn, 1) := by decide +kernel
theorem dX12_noteNumber_0 : decode cX12_noteNumber 0 = .ok (.iload_n 2, 1) := by decide +kernel
theorem dX12_noteNumber_1 : decode cX12_noteNumber 1 = .ok (.ifCond .ne 7, 3) := by decide +kernel
theorem dX12_noteNumber_4 : decode cX12_noteNumber 4 = .ok (.iload_n 1, 1) := by decide +kernel
theorem dX12_noteNumber_5 : decode cX12_noteNumber 5 = .ok (.goto 37, 3) := by decide +kernel
theorem dX12_noteNumber_8 : decode cX12_noteNumber 8 = .ok (.iload_n 2, 1) := by decide +kernel
theorem dX12_noteNumber_9 : decode cX12_noteNumber 9 = .ok (.iconst 1, 1) := by decide +kernel
theorem dX12_noteNumber_10 : decode cX12_noteNumber 10 = .ok (.if_icmp .ne 12, 3) := by decide +kernel
theorem dX12_noteNumber_13 : decode cX12_noteNumber 13 = .ok (.aload_n 0, 1) := by decide +kernel
theorem dX12_noteNumber_14 : decode cX12_noteNumber 14 = .ok (.getfield 78, 3) := by decide +kernel
theorem dX12_noteNumber_17 : decode cX12_noteNumber 17 = .ok (.iload_n 1, 1) := by decide +kernel
theorem dX12_noteNumber_18 : decode cX12_noteNumber 18 = .ok (.iaload, 1) := by decide +kernel
theorem dX12_noteNumber_19 : decode cX12_noteNumber 19 = .ok (.goto 23, 3) := by decide +kernel
theorem dX12_noteNumber_22 : decode cX12_noteNumber 22 = .ok (.iload_n 2, 1) := by decide +kernel
theorem dX12_noteNumber_23 : decode cX12_noteNumber 23 = .ok (.iconst 2, 1) := by decide +kernel
theorem dX12_noteNumber_24 : decode cX12_noteNumber 24 = .ok (.if_icmp .ne 12, 3) := by decide +kernel
theorem dX12_noteNumber_27 : decode cX12_noteNumber 27 = .ok (.aload_n 0, 1) := by decide +kernel
theorem dX12_noteNumber_28 : decode cX12_noteNumber 28 = .ok (.getfield 81, 3) := by decide +kernel
theorem dX12_noteNumber_31 : decode cX12_noteNumber 31 = .ok (.iload_n 1, 1) := by decide +kernel
theorem dX12_noteNumber_32 : decode cX12_noteNumber 32 = .ok (.iaload, 1) := by decide +kernel
theorem dX12_noteNumber_33 : decode cX12_noteNumber 33 = .ok (.goto 9, 3) := by decide +kernel
theorem dX12_noteNumber_36 : decode cX12_noteNumber 36 = .ok (.aload_n 0, 1) := by decide +kernel
theorem dX12_noteNumber_37 : decode cX12_noteNumber 37 = .ok (.getfield 84, 3) := by decide +kernel
theorem dX12_noteNumber_40 : decode cX12_noteNumber 40 = .ok (.iload_n 1, 1) := by decide +kernel
theorem dX12_noteNumber_41 : decode cX12_noteNumber 41 = .ok (.iaload, 1) := by decide +kernel
theorem dX12_noteNumber_42 : decode cX12_noteNumber 42 = .ok (.ireturn, 1) := by decide +kernel
theorem dX12_count_0 : decode cX12_count 0 = .ok (.iload_n 1, 1) := by decide +kernel
theorem dX12_count_1 : decode cX12_count 1 = .ok (.tableswitch 78 0 6 #[43, 48, 53, 58, 63, 68, 73], 43) := by decide +kernel
theorem dX12_count_44 : decode cX12_count 44 = .ok (.aload_n 0, 1) := by decide +kernel
theorem dX12_count_45 : decode cX12_count 45 = .ok (.getfield 165, 3) := by decide +kernel
theorem dX12_count_48 : decode cX12_count 48 = .ok (.ireturn, 1) := by decide +kernel
theorem dX12_count_49 : decode cX12_count 49 = .ok (.aload_n 0, 1) := by decide +kernel
theorem dX12_count_50 : decode cX12_count 50 = .ok (.getfield 155, 3) := by decide +kernel
theorem dX12_count_53 : decode cX12_count 53 = .ok (.ireturn, 1) := by decide +kernel
theorem dX12_count_54 : decode cX12_count 54 = .ok (.aload_n 0, 1) := by decide +kernel
theorem dX12_count_55 : decode cX12_count 55 = .ok (.getfield 328, 3) := by decide +kernel
theorem dX12_count_58 : decode cX12_count 58 = .ok (.ireturn, 1) := by decide +kernel
theorem dX12_count_59 : decode cX12_count 59 = .ok (.aload_n 0, 1) := by decide +kernel
theorem dX12_count_60 : decode cX12_count 60 = .ok (.getfield 299, 3) := by decide +kernel
theorem dX12_count_63 : decode cX12_count 63 = .ok (.ireturn, 1) := by decide +kernel
theorem dX12_count_64 : decode cX12_count 64 = .ok (.aload_n 0, 1) := by decide +kernel
theorem dX12_count_65 : decode cX12_count 65 = .ok (.getfield 203, 3) := by decide +kernel
theorem dX12_count_68 : decode cX12_count 68 = .ok (.ireturn, 1) := by decide +kernel
theorem dX12_count_69 : decode cX12_count 69 = .ok (.aload_n 0, 1) := by decide +kernel
theorem dX12_count_70 : decode cX12_count 70 = .ok (.getfield 152, 3) := by decide +kernel
theorem dX12_count_73 : decode cX12_count 73 = .ok (.ireturn, 1) := by decide +kernel
theorem dX12_count_74 : decode cX12_count 74 = .ok (.aload_n 0, 1) := by decide +kernel
theorem dX12_count_75 : decode cX12_count 75 = .ok (.getfield 339, 3) := by decide +kernel
theorem dX12_count_78 : decode cX12_count 78 = .ok (.ireturn, 1) := by decide +kernel
theorem dX12_count_79 : decode cX12_count 79 = .ok (.iload_n 1, 1) := by decide +kernel
theorem dX12_count_80 : decode cX12_count 80 = .ok (.bipush 10, 2) := by decide +kernel
theorem dX12_count_82 : decode cX12_count 82 = .ok (.bipush 17, 2) := by decide +kernel
theorem dX12_count_84 : decode cX12_count 84 = .ok (.invokestatic 168, 3) := by decide +kernel
theorem dX12_count_87 : decode cX12_count 87 = .ok (.ifCond .eq 13, 3) := by decide +kernel
theorem dX12_count_90 : decode cX12_count 90 = .ok (.aload_n 0, 1) := by decide +kernel
theorem dX12_count_91 : decode cX12_count 91 = .ok (.getfield 123, 3) := by decide +kernel
theorem dX12_count_94 : decode cX12_count 94 = .ok (.iload_n 1, 1) := by decide +kernel
theorem dX12_count_95 : decode cX12_count 95 = .ok (.bipush 10, 2) := by decide +kernel
theorem dX12_count_97 : decode cX12_count 97 = .ok (.isub, 1) := by decide +kernel
theorem dX12_count_98 : decode cX12_count 98 = .ok (.iaload, 1) := by decide +kernel
theorem dX12_count_99 : decode cX12_count 99 = .ok (.ireturn, 1) := by decide +kernel
theorem dX12_count_100 : decode cX12_count 100 = .ok (.iload_n 1, 1) := by decide +kernel
theorem dX12_count_101 : decode cX12_count 101 = .ok (.bipush 20, 2) := by decide +kernel
theorem dX12_count_103 : decode cX12_count 103 = .ok (.bipush 19, 2) := by decide +kernel
theorem dX12_count_105 : decode cX12_count 105 = .ok (.aload_n 0, 1) := by decide +kernel
theorem dX12_count_106 : decode cX12_count 106 = .ok (.getfield 155, 3) := by decide +kernel
theorem dX12_count_109 : decode cX12_count 109 = .ok (.iadd, 1) := by decide +kernel
theorem dX12_count_110 : decode cX12_count 110 = .ok (.invokestatic 168, 3) := by decide +kernel
theorem dX12_count_113 : decode cX12_count 113 = .ok (.ifCond .eq 15, 3) := by decide +kernel
theorem dX12_count_116 : decode cX12_count 116 = .ok (.aload_n 0, 1) := by decide +kernel
theorem dX12_count_117 : decode cX12_count 117 = .ok (.getfield 16, 3) := by decide +kernel
theorem dX12_count_120 : decode cX12_count 120 = .ok (.iload_n 1, 1) := by decide +kernel
theorem dX12_count_121 : decode cX12_count 121 = .ok (.bipush 20, 2) := by decide +kernel
theorem dX12_count_123 : decode cX12_count 123 = .ok (.isub, 1) := by decide +kernel
theorem dX12_count_124 : decode cX12_count 124 = .ok (.iaload, 1) := by decide +kernel
theorem dX12_count_125 : decode cX12_count 125 = .ok (.goto 4, 3) := by decide +kernel
theorem dX12_count_128 : decode cX12_count 128 = .ok (.iconst (-1), 1) := by decide +kernel
theorem dX12_count_129 : decode cX12_count 129 = .ok (.ireturn, 1) := by decide +kernel
theorem dJ6_bitCount_0f7a4_0 : decode cJ6_bitCount_0f7a4 0 = .ok (.iload_n 0, 1) := by decide +kernel
theorem dJ6_bitCount_0f7a4_1 : decode cJ6_bitCount_0f7a4 1 = .ok (.iload_n 0, 1) := by decide +kernel
theorem dJ6_bitCount_0f7a4_2 : decode cJ6_bitCount_0f7a4 2 = .ok (.iconst 1, 1) := by decide +kernel
theorem dJ6_bitCount_0f7a4_3 : decode cJ6_bitCount_0f7a4 3 = .ok (.iushr, 1) := by decide +kernel
theorem dJ6_bitCount_0f7a4_4 : decode cJ6_bitCount_0f7a4 4 = .ok (.ldc_w 265, 3) := by decide +kernel
theorem dJ6_bitCount_0f7a4_7 : decode cJ6_bitCount_0f7a4 7 = .ok (.iand, 1) := by decide +kernel
theorem dJ6_bitCount_0f7a4_8 : decode cJ6_bitCount_0f7a4 8 = .ok (.isub, 1) := by decide +kernel
theorem dJ6_bitCount_0f7a4_9 : decode cJ6_bitCount_0f7a4 9 = .ok (.istore_n 0, 1) := by decide +kernel
theorem dJ6_bitCount_0f7a4_10 : decode cJ6_bitCount_0f7a4 10 = .ok (.iload_n 0, 1) := by decide +kernel
theorem dJ6_bitCount_0f7a4_11 : decode cJ6_bitCount_0f7a4 11 = .ok (.ldc_w 266, 3) := by decide +kernel
theorem dJ6_bitCount_0f7a4_14 : decode cJ6_bitCount_0f7a4 14 = .ok (.iand, 1) := by decide +kernel
theorem dJ6_bitCount_0f7a4_15 : decode cJ6_bitCount_0f7a4 15 = .ok (.iload_n 0, 1) := by decide +kernel
theorem dJ6_bitCount_0f7a4_16 : decode cJ6_bitCount_0f7a4 16 = .ok (.iconst 2, 1) := by decide +kernel
theorem dJ6_bitCount_0f7a4_17 : decode cJ6_bitCount_0f7a4 17 = .ok (.iushr, 1) := by decide +kernel
theorem dJ6_bitCount_0f7a4_18 : decode cJ6_bitCount_0f7a4 18 = .ok (.ldc_w 266, 3) := by decide +kernel
theorem dJ6_bitCount_0f7a4_21 : decode cJ6_bitCount_0f7a4 21 = .ok (.iand, 1) := by decide +kernel
theorem dJ6_bitCount_0f7a4_22 : decode cJ6_bitCount_0f7a4 22 = .ok (.iadd, 1) := by decide +kernel
theorem dJ6_bitCount_0f7a4_23 : decode cJ6_bitCount_0f7a4 23 = .ok (.istore_n 0, 1) := by decide +kernel
theorem dJ6_bitCount_0f7a4_24 : decode cJ6_bitCount_0f7a4 24 = .ok (.iload_n 0, 1) := by decide +kernel
theorem dJ6_bitCount_0f7a4_25 : decode cJ6_bitCount_0f7a4 25 = .ok (.iload_n 0, 1) := by decide +kernel
theorem dJ6_bitCount_0f7a4_26 : decode cJ6_bitCount_0f7a4 26 = .ok (.iconst 4, 1) := by decide +kernel
theorem dJ6_bitCount_0f7a4_27 : decode cJ6_bitCount_0f7a4 27 = .ok (.iushr, 1) := by decide +kernel
theorem dJ6_bitCount_0f7a4_28 : decode cJ6_bitCount_0f7a4 28 = .ok (.iadd, 1) := by decide +kernel
theorem dJ6_bitCount_0f7a4_29 : decode cJ6_bitCount_0f7a4 29 = .ok (.ldc_w 267, 3) := by decide +kernel
theorem dJ6_bitCount_0f7a4_32 : decode cJ6_bitCount_0f7a4 32 = .ok (.iand, 1) := by decide +kernel
theorem dJ6_bitCount_0f7a4_33 : decode cJ6_bitCount_0f7a4 33 = .ok (.istore_n 0, 1) := by decide +kernel
theorem dJ6_bitCount_0f7a4_34 : decode cJ6_bitCount_0f7a4 34 = .ok (.iload_n 0, 1) := by decide +kernel
theorem dJ6_bitCount_0f7a4_35 : decode cJ6_bitCount_0f7a4 35 = .ok (.iload_n 0, 1) := by decide +kernel
theorem dJ6_bitCount_0f7a4_36 : decode cJ6_bitCount_0f7a4 36 = .ok (.bipush 8, 2) := by decide +kernel
theorem dJ6_bitCount_0f7a4_38 : decode cJ6_bitCount_0f7a4 38 = .ok (.iushr, 1) := by decide +kernel
theorem dJ6_bitCount_0f7a4_39 : decode cJ6_bitCount_0f7a4 39 = .ok (.iadd, 1) := by decide +kernel
theorem dJ6_bitCount_0f7a4_40 : decode cJ6_bitCount_0f7a4 40 = .ok (.istore_n 0, 1) := by decide +kernel
theorem dJ6_bitCount_0f7a4_41 : decode cJ6_bitCount_0f7a4 41 = .ok (.iload_n 0, 1) := by decide +kernel
theorem dJ6_bitCount_0f7a4_42 : decode cJ6_bitCount_0f7a4 42 = .ok (.iload_n 0, 1) := by decide +kernel
theorem dJ6_bitCount_0f7a4_43 : decode cJ6_bitCount_0f7a4 43 = .ok (.bipush 16, 2) := by decide +kernel
theorem dJ6_bitCount_0f7a4_45 : decode cJ6_bitCount_0f7a4 45 = .ok (.iushr, 1) := by decide +kernel
theorem dJ6_bitCount_0f7a4_46 : decode cJ6_bitCount_0f7a4 46 = .ok (.iadd, 1) := by decide +kernel
theorem dJ6_bitCount_0f7a4_47 : decode cJ6_bitCount_0f7a4 47 = .ok (.istore_n 0, 1) := by decide +kernel
theorem dJ6_bitCount_0f7a4_48 : decode cJ6_bitCount_0f7a4 48 = .ok (.iload_n 0, 1) := by decide +kernel
theorem dJ6_bitCount_0f7a4_49 : decode cJ6_bitCount_0f7a4 49 = .ok (.bipush 63, 2) := by decide +kernel
theorem dJ6_bitCount_0f7a4_51 : decode cJ6_bitCount_0f7a4 51 = .ok (.iand, 1) := by decide +kernel
theorem dJ6_bitCount_0f7a4_52 : decode cJ6_bitCount_0f7a4 52 = .ok (.ireturn, 1) := by decide +kernel
theorem dJ7_fill_d0a16_0 : decode cJ7_fill_d0a16 0 = .ok (.iconst 0, 1) := by decide +kernel
theorem dJ7_fill_d0a16_1 : decode cJ7_fill_d0a16 1 = .ok (.istore_n 3, 1) := by decide +kernel
theorem dJ7_fill_d0a16_2 : decode cJ7_fill_d0a16 2 = .ok (.aload_n 0, 1) := by decide +kernel
theorem dJ7_fill_d0a16_3 : decode cJ7_fill_d0a16 3 = .ok (.arraylength, 1) := by decide +kernel
theorem dJ7_fill_d0a16_4 : decode cJ7_fill_d0a16 4 = .ok (.istore 4, 2) := by decide +kernel
theorem dJ7_fill_d0a16_6 : decode cJ7_fill_d0a16 6 = .ok (.iload_n 3, 1) := by decide +kernel
theorem dJ7_fill_d0a16_7 : decode cJ7_fill_d0a16 7 = .ok (.iload 4, 2) := by decide +kernel
theorem dJ7_fill_d0a16_9 : decode cJ7_fill_d0a16 9 = .ok (.if_icmp .ge 13, 3) := by decide +kernel
theorem dJ7_fill_d0a16_12 : decode cJ7_fill_d0a16 12 = .ok (.aload_n 0, 1) := by decide +kernel
theorem dJ7_fill_d0a16_13 : decode cJ7_fill_d0a16 13 = .ok (.iload_n 3, 1) := by decide +kernel
theorem dJ7_fill_d0a16_14 : decode cJ7_fill_d0a16 14 = .ok (.lload_n 1, 1) := by decide +kernel
theorem dJ7_fill_d0a16_15 : decode cJ7_fill_d0a16 15 = .ok (.lastore, 1) := by decide +kernel
theorem dJ7_fill_d0a16_16 : decode cJ7_fill_d0a16 16 = .ok (.iinc 3 1, 3) := by decide +kernel
theorem dJ7_fill_d0a16_19 : decode cJ7_fill_d0a16 19 = .ok (.goto (-13), 3) := by decide +kernel
theorem dJ7_fill_d0a16_22 : decode cJ7_fill_d0a16 22 = .ok (.return_, 1) := by decide +kernel
theorem dJ7_fill_53178_0 : decode cJ7_fill_53178 0 = .ok (.iconst 0, 1) := by decide +kernel
theorem dJ7_fill_53178_1 : decode cJ7_fill_53178 1 = .ok (.istore_n 2, 1) := by decide +kernel
theorem dJ7_fill_53178_2 : decode cJ7_fill_53178 2 = .ok (.aload_n 0, 1) := by decide +kernel
theorem dJ7_fill_53178_3 : decode cJ7_fill_53178 3 = .ok (.arraylength, 1) := by decide +kernel
theorem dJ7_fill_53178_4 : decode cJ7_fill_53178 4 = .ok (.istore_n 3, 1) := by decide +kernel
theorem dJ7_fill_53178_5 : decode cJ7_fill_53178 5 = .ok (.iload_n 2, 1) := by decide +kernel
theorem dJ7_fill_53178_6 : decode cJ7_fill_53178 6 = .ok (.iload_n 3, 1) := by decide +kernel
theorem dJ7_fill_53178_7 : decode cJ7_fill_53178 7 = .ok (.if_icmp .ge 13, 3) := by decide +kernel
theorem dJ7_fill_53178_10 : decode cJ7_fill_53178 10 = .ok (.aload_n 0, 1) := by decide +kernel
theorem dJ7_fill_53178_11 : decode cJ7_fill_53178 11 = .ok (.iload_n 2, 1) := by decide +kernel
theorem dJ7_fill_53178_12 : decode cJ7_fill_53178 12 = .ok (.iload_n 1, 1) := by decide +kernel
theorem dJ7_fill_53178_13 : decode cJ7_fill_53178 13 = .ok (.iastore, 1) := by decide +kernel
theorem dJ7_fill_53178_14 : decode cJ7_fill_53178 14 = .ok (.iinc 2 1, 3) := by decide +kernel
theorem dJ7_fill_53178_17 : decode cJ7_fill_53178 17 = .ok (.goto (-12), 3) := by decide +kernel
theorem dJ7_fill_53178_20 : decode cJ7_fill_53178 20 = .ok (.return_, 1) := by decide +kernel
