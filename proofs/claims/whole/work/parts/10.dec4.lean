theorem dX12_meeting_101 : decode cX12_meeting 101 = .ok (.imul, 1) := by decide +kernel
theorem dX12_meeting_102 : decode cX12_meeting 102 = .ok (.iload 4, 2) := by decide +kernel
theorem dX12_meeting_104 : decode cX12_meeting 104 = .ok (.iadd, 1) := by decide +kernel
theorem dX12_meeting_105 : decode cX12_meeting 105 = .ok (.iconst (-1), 1) := by decide +kernel
theorem dX12_meeting_106 : decode cX12_meeting 106 = .ok (.iastore, 1) := by decide +kernel
theorem dX12_meeting_107 : decode cX12_meeting 107 = .ok (.iinc 4 1, 3) := by decide +kernel
theorem dX12_meeting_110 : decode cX12_meeting 110 = .ok (.goto (-26), 3) := by decide +kernel
theorem dX12_meeting_113 : decode cX12_meeting 113 = .ok (.aload_n 0, 1) := by decide +kernel
theorem dX12_meeting_114 : decode cX12_meeting 114 = .ok (.aload_n 0, 1) := by decide +kernel
theorem dX12_meeting_115 : decode cX12_meeting 115 = .ok (.getfield 155, 3) := by decide +kernel
theorem dX12_meeting_118 : decode cX12_meeting 118 = .ok (.iconst 1, 1) := by decide +kernel
theorem dX12_meeting_119 : decode cX12_meeting 119 = .ok (.iadd, 1) := by decide +kernel
theorem dX12_meeting_120 : decode cX12_meeting 120 = .ok (.putfield 155, 3) := by decide +kernel
theorem dX12_meeting_123 : decode cX12_meeting 123 = .ok (.aload_n 0, 1) := by decide +kernel
theorem dX12_meeting_124 : decode cX12_meeting 124 = .ok (.getfield 155, 3) := by decide +kernel
theorem dX12_meeting_127 : decode cX12_meeting 127 = .ok (.iconst 1, 1) := by decide +kernel
theorem dX12_meeting_128 : decode cX12_meeting 128 = .ok (.isub, 1) := by decide +kernel
theorem dX12_meeting_129 : decode cX12_meeting 129 = .ok (.ireturn, 1) := by decide +kernel
theorem dX12_came_0 : decode cX12_came 0 = .ok (.aload_n 0, 1) := by decide +kernel
theorem dX12_came_1 : decode cX12_came 1 = .ok (.iload_n 1, 1) := by decide +kernel
theorem dX12_came_2 : decode cX12_came 2 = .ok (.iload_n 2, 1) := by decide +kernel
theorem dX12_came_3 : decode cX12_came 3 = .ok (.invokevirtual 176, 3) := by decide +kernel
theorem dX12_came_6 : decode cX12_came 6 = .ok (.ifCond .eq 23, 3) := by decide +kernel
theorem dX12_came_9 : decode cX12_came 9 = .ok (.iload_n 3, 1) := by decide +kernel
theorem dX12_came_10 : decode cX12_came 10 = .ok (.iconst 0, 1) := by decide +kernel
theorem dX12_came_11 : decode cX12_came 11 = .ok (.sipush 1439, 3) := by decide +kernel
theorem dX12_came_14 : decode cX12_came 14 = .ok (.invokestatic 168, 3) := by decide +kernel
theorem dX12_came_17 : decode cX12_came 17 = .ok (.ifCond .eq 12, 3) := by decide +kernel
theorem dX12_came_20 : decode cX12_came 20 = .ok (.aload_n 0, 1) := by decide +kernel
theorem dX12_came_21 : decode cX12_came 21 = .ok (.getfield 25, 3) := by decide +kernel
theorem dX12_came_24 : decode cX12_came 24 = .ok (.iload_n 1, 1) := by decide +kernel
theorem dX12_came_25 : decode cX12_came 25 = .ok (.baload, 1) := by decide +kernel
theorem dX12_came_26 : decode cX12_came 26 = .ok (.ifCond .eq 5, 3) := by decide +kernel
theorem dX12_came_29 : decode cX12_came 29 = .ok (.iconst 0, 1) := by decide +kernel
theorem dX12_came_30 : decode cX12_came 30 = .ok (.ireturn, 1) := by decide +kernel
theorem dX12_came_31 : decode cX12_came 31 = .ok (.aload_n 0, 1) := by decide +kernel
theorem dX12_came_32 : decode cX12_came 32 = .ok (.getfield 22, 3) := by decide +kernel
theorem dX12_came_35 : decode cX12_came 35 = .ok (.bipush 8, 2) := by decide +kernel
theorem dX12_came_37 : decode cX12_came 37 = .ok (.iload_n 1, 1) := by decide +kernel
theorem dX12_came_38 : decode cX12_came 38 = .ok (.imul, 1) := by decide +kernel
theorem dX12_came_39 : decode cX12_came 39 = .ok (.iload_n 2, 1) := by decide +kernel
theorem dX12_came_40 : decode cX12_came 40 = .ok (.iadd, 1) := by decide +kernel
theorem dX12_came_41 : decode cX12_came 41 = .ok (.iload_n 3, 1) := by decide +kernel
theorem dX12_came_42 : decode cX12_came 42 = .ok (.iastore, 1) := by decide +kernel
theorem dX12_came_43 : decode cX12_came 43 = .ok (.iconst 1, 1) := by decide +kernel
theorem dX12_came_44 : decode cX12_came 44 = .ok (.ireturn, 1) := by decide +kernel
theorem dX12_allCame_0 : decode cX12_allCame 0 = .ok (.iconst 0, 1) := by decide +kernel
theorem dX12_allCame_1 : decode cX12_allCame 1 = .ok (.istore_n 2, 1) := by decide +kernel
theorem dX12_allCame_2 : decode cX12_allCame 2 = .ok (.iload_n 2, 1) := by decide +kernel
theorem dX12_allCame_3 : decode cX12_allCame 3 = .ok (.bipush 8, 2) := by decide +kernel
theorem dX12_allCame_5 : decode cX12_allCame 5 = .ok (.if_icmp .ge 35, 3) := by decide +kernel
theorem dX12_allCame_8 : decode cX12_allCame 8 = .ok (.aload_n 0, 1) := by decide +kernel
theorem dX12_allCame_9 : decode cX12_allCame 9 = .ok (.iload_n 1, 1) := by decide +kernel
theorem dX12_allCame_10 : decode cX12_allCame 10 = .ok (.iload_n 2, 1) := by decide +kernel
theorem dX12_allCame_11 : decode cX12_allCame 11 = .ok (.invokevirtual 176, 3) := by decide +kernel
theorem dX12_allCame_14 : decode cX12_allCame 14 = .ok (.ifCond .eq 20, 3) := by decide +kernel
theorem dX12_allCame_17 : decode cX12_allCame 17 = .ok (.aload_n 0, 1) := by decide +kernel
theorem dX12_allCame_18 : decode cX12_allCame 18 = .ok (.getfield 22, 3) := by decide +kernel
theorem dX12_allCame_21 : decode cX12_allCame 21 = .ok (.bipush 8, 2) := by decide +kernel
theorem dX12_allCame_23 : decode cX12_allCame 23 = .ok (.iload_n 1, 1) := by decide +kernel
theorem dX12_allCame_24 : decode cX12_allCame 24 = .ok (.imul, 1) := by decide +kernel
theorem dX12_allCame_25 : decode cX12_allCame 25 = .ok (.iload_n 2, 1) := by decide +kernel
theorem dX12_allCame_26 : decode cX12_allCame 26 = .ok (.iadd, 1) := by decide +kernel
theorem dX12_allCame_27 : decode cX12_allCame 27 = .ok (.iaload, 1) := by decide +kernel
theorem dX12_allCame_28 : decode cX12_allCame 28 = .ok (.iconst (-1), 1) := by decide +kernel
theorem dX12_allCame_29 : decode cX12_allCame 29 = .ok (.if_icmp .ne 5, 3) := by decide +kernel
theorem dX12_allCame_32 : decode cX12_allCame 32 = .ok (.iconst 0, 1) := by decide +kernel
theorem dX12_allCame_33 : decode cX12_allCame 33 = .ok (.ireturn, 1) := by decide +kernel
theorem dX12_allCame_34 : decode cX12_allCame 34 = .ok (.iinc 2 1, 3) := by decide +kernel
theorem dX12_allCame_37 : decode cX12_allCame 37 = .ok (.goto (-35), 3) := by decide +kernel
theorem dX12_allCame_40 : decode cX12_allCame 40 = .ok (.iconst 1, 1) := by decide +kernel
theorem dX12_allCame_41 : decode cX12_allCame 41 = .ok (.ireturn, 1) := by decide +kernel
theorem dX12_beginsAt_0 : decode cX12_beginsAt 0 = .ok (.aload_n 0, 1) := by decide +kernel
theorem dX12_beginsAt_1 : decode cX12_beginsAt 1 = .ok (.getfield 16, 3) := by decide +kernel
theorem dX12_beginsAt_4 : decode cX12_beginsAt 4 = .ok (.iload_n 1, 1) := by decide +kernel
theorem dX12_beginsAt_5 : decode cX12_beginsAt 5 = .ok (.iaload, 1) := by decide +kernel
theorem dX12_beginsAt_6 : decode cX12_beginsAt 6 = .ok (.istore_n 2, 1) := by decide +kernel
theorem dX12_beginsAt_7 : decode cX12_beginsAt 7 = .ok (.iconst 0, 1) := by decide +kernel
theorem dX12_beginsAt_8 : decode cX12_beginsAt 8 = .ok (.istore_n 3, 1) := by decide +kernel
theorem dX12_beginsAt_9 : decode cX12_beginsAt 9 = .ok (.iload_n 3, 1) := by decide +kernel
theorem dX12_beginsAt_10 : decode cX12_beginsAt 10 = .ok (.bipush 8, 2) := by decide +kernel
theorem dX12_beginsAt_12 : decode cX12_beginsAt 12 = .ok (.if_icmp .ge 49, 3) := by decide +kernel
theorem dX12_beginsAt_15 : decode cX12_beginsAt 15 = .ok (.aload_n 0, 1) := by decide +kernel
theorem dX12_beginsAt_16 : decode cX12_beginsAt 16 = .ok (.iload_n 1, 1) := by decide +kernel
theorem dX12_beginsAt_17 : decode cX12_beginsAt 17 = .ok (.iload_n 3, 1) := by decide +kernel
theorem dX12_beginsAt_18 : decode cX12_beginsAt 18 = .ok (.invokevirtual 176, 3) := by decide +kernel
theorem dX12_beginsAt_21 : decode cX12_beginsAt 21 = .ok (.ifCond .eq 32, 3) := by decide +kernel
theorem dX12_beginsAt_24 : decode cX12_beginsAt 24 = .ok (.aload_n 0, 1) := by decide +kernel
theorem dX12_beginsAt_25 : decode cX12_beginsAt 25 = .ok (.getfield 22, 3) := by decide +kernel
theorem dX12_beginsAt_28 : decode cX12_beginsAt 28 = .ok (.bipush 8, 2) := by decide +kernel
theorem dX12_beginsAt_30 : decode cX12_beginsAt 30 = .ok (.iload_n 1, 1) := by decide +kernel
theorem dX12_beginsAt_31 : decode cX12_beginsAt 31 = .ok (.imul, 1) := by decide +kernel
theorem dX12_beginsAt_32 : decode cX12_beginsAt 32 = .ok (.iload_n 3, 1) := by decide +kernel
theorem dX12_beginsAt_33 : decode cX12_beginsAt 33 = .ok (.iadd, 1) := by decide +kernel
theorem dX12_beginsAt_34 : decode cX12_beginsAt 34 = .ok (.iaload, 1) := by decide +kernel
theorem dX12_beginsAt_35 : decode cX12_beginsAt 35 = .ok (.iload_n 2, 1) := by decide +kernel
theorem dX12_beginsAt_36 : decode cX12_beginsAt 36 = .ok (.if_icmp .le 17, 3) := by decide +kernel
theorem dX12_beginsAt_39 : decode cX12_beginsAt 39 = .ok (.aload_n 0, 1) := by decide +kernel
theorem dX12_beginsAt_40 : decode cX12_beginsAt 40 = .ok (.getfield 22, 3) := by decide +kernel
theorem dX12_beginsAt_43 : decode cX12_beginsAt 43 = .ok (.bipush 8, 2) := by decide +kernel
theorem dX12_beginsAt_45 : decode cX12_beginsAt 45 = .ok (.iload_n 1, 1) := by decide +kernel
theorem dX12_beginsAt_46 : decode cX12_beginsAt 46 = .ok (.imul, 1) := by decide +kernel
theorem dX12_beginsAt_47 : decode cX12_beginsAt 47 = .ok (.iload_n 3, 1) := by decide +kernel
theorem dX12_beginsAt_48 : decode cX12_beginsAt 48 = .ok (.iadd, 1) := by decide +kernel
theorem dX12_beginsAt_49 : decode cX12_beginsAt 49 = .ok (.iaload, 1) := by decide +kernel
theorem dX12_beginsAt_50 : decode cX12_beginsAt 50 = .ok (.goto 4, 3) := by decide +kernel
theorem dX12_beginsAt_53 : decode cX12_beginsAt 53 = .ok (.iload_n 2, 1) := by decide +kernel
theorem dX12_beginsAt_54 : decode cX12_beginsAt 54 = .ok (.istore_n 2, 1) := by decide +kernel
theorem dX12_beginsAt_55 : decode cX12_beginsAt 55 = .ok (.iinc 3 1, 3) := by decide +kernel
theorem dX12_beginsAt_58 : decode cX12_beginsAt 58 = .ok (.goto (-49), 3) := by decide +kernel
theorem dX12_beginsAt_61 : decode cX12_beginsAt 61 = .ok (.iload_n 2, 1) := by decide +kernel
theorem dX12_beginsAt_62 : decode cX12_beginsAt 62 = .ok (.ireturn, 1) := by decide +kernel
theorem dX12_begins_0 : decode cX12_begins 0 = .ok (.aload_n 0, 1) := by decide +kernel
theorem dX12_begins_1 : decode cX12_begins 1 = .ok (.iload_n 1, 1) := by decide +kernel
theorem dX12_begins_2 : decode cX12_begins 2 = .ok (.invokevirtual 158, 3) := by decide +kernel
theorem dX12_begins_5 : decode cX12_begins 5 = .ok (.ifCond .eq 19, 3) := by decide +kernel
theorem dX12_begins_8 : decode cX12_begins 8 = .ok (.aload_n 0, 1) := by decide +kernel
theorem dX12_begins_9 : decode cX12_begins 9 = .ok (.iload_n 1, 1) := by decide +kernel
theorem dX12_begins_10 : decode cX12_begins 10 = .ok (.invokevirtual 180, 3) := by decide +kernel
theorem dX12_begins_13 : decode cX12_begins 13 = .ok (.ifCond .eq 11, 3) := by decide +kernel
theorem dX12_begins_16 : decode cX12_begins 16 = .ok (.aload_n 0, 1) := by decide +kernel
theorem dX12_begins_17 : decode cX12_begins 17 = .ok (.iload_n 1, 1) := by decide +kernel
theorem dX12_begins_18 : decode cX12_begins 18 = .ok (.invokevirtual 183, 3) := by decide +kernel
theorem dX12_begins_21 : decode cX12_begins 21 = .ok (.goto 4, 3) := by decide +kernel
theorem dX12_begins_24 : decode cX12_begins 24 = .ok (.iconst (-1), 1) := by decide +kernel
theorem dX12_begins_25 : decode cX12_begins 25 = .ok (.ireturn, 1) := by decide +kernel
theorem dX12_lateAt_0 : decode cX12_lateAt 0 = .ok (.aload_n 0, 1) := by decide +kernel
theorem dX12_lateAt_1 : decode cX12_lateAt 1 = .ok (.getfield 22, 3) := by decide +kernel
theorem dX12_lateAt_4 : decode cX12_lateAt 4 = .ok (.bipush 8, 2) := by decide +kernel
theorem dX12_lateAt_6 : decode cX12_lateAt 6 = .ok (.iload_n 1, 1) := by decide +kernel
theorem dX12_lateAt_7 : decode cX12_lateAt 7 = .ok (.imul, 1) := by decide +kernel
theorem dX12_lateAt_8 : decode cX12_lateAt 8 = .ok (.iload_n 2, 1) := by decide +kernel
theorem dX12_lateAt_9 : decode cX12_lateAt 9 = .ok (.iadd, 1) := by decide +kernel
theorem dX12_lateAt_10 : decode cX12_lateAt 10 = .ok (.iaload, 1) := by decide +kernel
theorem dX12_lateAt_11 : decode cX12_lateAt 11 = .ok (.aload_n 0, 1) := by decide +kernel
theorem dX12_lateAt_12 : decode cX12_lateAt 12 = .ok (.getfield 16, 3) := by decide +kernel
theorem dX12_lateAt_15 : decode cX12_lateAt 15 = .ok (.iload_n 1, 1) := by decide +kernel
theorem dX12_lateAt_16 : decode cX12_lateAt 16 = .ok (.iaload, 1) := by decide +kernel
theorem dX12_lateAt_17 : decode cX12_lateAt 17 = .ok (.if_icmp .le 24, 3) := by decide +kernel
theorem dX12_lateAt_20 : decode cX12_lateAt 20 = .ok (.aload_n 0, 1) := by decide +kernel
theorem dX12_lateAt_21 : decode cX12_lateAt 21 = .ok (.getfield 22, 3) := by decide +kernel
theorem dX12_lateAt_24 : decode cX12_lateAt 24 = .ok (.bipush 8, 2) := by decide +kernel
theorem dX12_lateAt_26 : decode cX12_lateAt 26 = .ok (.iload_n 1, 1) := by decide +kernel
theorem dX12_lateAt_27 : decode cX12_lateAt 27 = .ok (.imul, 1) := by decide +kernel
theorem dX12_lateAt_28 : decode cX12_lateAt 28 = .ok (.iload_n 2, 1) := by decide +kernel
theorem dX12_lateAt_29 : decode cX12_lateAt 29 = .ok (.iadd, 1) := by decide +kernel
theorem dX12_lateAt_30 : decode cX12_lateAt 30 = .ok (.iaload, 1) := by decide +kernel
theorem dX12_lateAt_31 : decode cX12_lateAt 31 = .ok (.aload_n 0, 1) := by decide +kernel
theorem dX12_lateAt_32 : decode cX12_lateAt 32 = .ok (.getfield 16, 3) := by decide +kernel
theorem dX12_lateAt_35 : decode cX12_lateAt 35 = .ok (.iload_n 1, 1) := by decide +kernel
theorem dX12_lateAt_36 : decode cX12_lateAt 36 = .ok (.iaload, 1) := by decide +kernel
theorem dX12_lateAt_37 : decode cX12_lateAt 37 = .ok (.isub, 1) := by decide +kernel
theorem dX12_lateAt_38 : decode cX12_lateAt 38 = .ok (.goto 4, 3) := by decide +kernel
theorem dX12_lateAt_41 : decode cX12_lateAt 41 = .ok (.iconst 0, 1) := by decide +kernel
theorem dX12_lateAt_42 : decode cX12_lateAt 42 = .ok (.ireturn, 1) := by decide +kernel
theorem dX12_keepsAt_0 : decode cX12_keepsAt 0 = .ok (.aload_n 0, 1) := by decide +kernel
theorem dX12_keepsAt_1 : decode cX12_keepsAt 1 = .ok (.getfield 22, 3) := by decide +kernel
theorem dX12_keepsAt_4 : decode cX12_keepsAt 4 = .ok (.bipush 8, 2) := by decide +kernel
theorem dX12_keepsAt_6 : decode cX12_keepsAt 6 = .ok (.iload_n 1, 1) := by decide +kernel
theorem dX12_keepsAt_7 : decode cX12_keepsAt 7 = .ok (.imul, 1) := by decide +kernel
theorem dX12_keepsAt_8 : decode cX12_keepsAt 8 = .ok (.iload_n 3, 1) := by decide +kernel
theorem dX12_keepsAt_9 : decode cX12_keepsAt 9 = .ok (.iadd, 1) := by decide +kernel
theorem dX12_keepsAt_10 : decode cX12_keepsAt 10 = .ok (.iaload, 1) := by decide +kernel
theorem dX12_keepsAt_11 : decode cX12_keepsAt 11 = .ok (.aload_n 0, 1) := by decide +kernel
theorem dX12_keepsAt_12 : decode cX12_keepsAt 12 = .ok (.getfield 16, 3) := by decide +kernel
theorem dX12_keepsAt_15 : decode cX12_keepsAt 15 = .ok (.iload_n 1, 1) := by decide +kernel
theorem dX12_keepsAt_16 : decode cX12_keepsAt 16 = .ok (.iaload, 1) := by decide +kernel
theorem dX12_keepsAt_17 : decode cX12_keepsAt 17 = .ok (.if_icmp .le 17, 3) := by decide +kernel
theorem dX12_keepsAt_20 : decode cX12_keepsAt 20 = .ok (.aload_n 0, 1) := by decide +kernel
theorem dX12_keepsAt_21 : decode cX12_keepsAt 21 = .ok (.getfield 22, 3) := by decide +kernel
theorem dX12_keepsAt_24 : decode cX12_keepsAt 24 = .ok (.bipush 8, 2) := by decide +kernel
theorem dX12_keepsAt_26 : decode cX12_keepsAt 26 = .ok (.iload_n 1, 1) := by decide +kernel
theorem dX12_keepsAt_27 : decode cX12_keepsAt 27 = .ok (.imul, 1) := by decide +kernel
theorem dX12_keepsAt_28 : decode cX12_keepsAt 28 = .ok (.iload_n 3, 1) := by decide +kernel
theorem dX12_keepsAt_29 : decode cX12_keepsAt 29 = .ok (.iadd, 1) := by decide +kernel
theorem dX12_keepsAt_30 : decode cX12_keepsAt 30 = .ok (.iaload, 1) := by decide +kernel
theorem dX12_keepsAt_31 : decode cX12_keepsAt 31 = .ok (.goto 9, 3) := by decide +kernel
theorem dX12_keepsAt_34 : decode cX12_keepsAt 34 = .ok (.aload_n 0, 1) := by decide +kernel
theorem dX12_keepsAt_35 : decode cX12_keepsAt 35 = .ok (.getfield 16, 3) := by decide +kernel
theorem dX12_keepsAt_38 : decode cX12_keepsAt 38 = .ok (.iload_n 1, 1) := by decide +kernel
theorem dX12_keepsAt_39 : decode cX12_keepsAt 39 = .ok (.iaload, 1) := by decide +kernel
theorem dX12_keepsAt_40 : decode cX12_keepsAt 40 = .ok (.istore 4, 2) := by decide +kernel
theorem dX12_keepsAt_42 : decode cX12_keepsAt 42 = .ok (.aload_n 0, 1) := by decide +kernel
theorem dX12_keepsAt_43 : decode cX12_keepsAt 43 = .ok (.getfield 22, 3) := by decide +kernel
theorem dX12_keepsAt_46 : decode cX12_keepsAt 46 = .ok (.bipush 8, 2) := by decide +kernel
theorem dX12_keepsAt_48 : decode cX12_keepsAt 48 = .ok (.iload_n 1, 1) := by decide +kernel
theorem dX12_keepsAt_49 : decode cX12_keepsAt 49 = .ok (.imul, 1) := by decide +kernel
theorem dX12_keepsAt_50 : decode cX12_keepsAt 50 = .ok (.iload_n 2, 1) := by decide +kernel
theorem dX12_keepsAt_51 : decode cX12_keepsAt 51 = .ok (.iadd, 1) := by decide +kernel
theorem dX12_keepsAt_52 : decode cX12_keepsAt 52 = .ok (.iaload, 1) := by decide +kernel
theorem dX12_keepsAt_53 : decode cX12_keepsAt 53 = .ok (.iload 4, 2) := by decide +kernel
theorem dX12_keepsAt_55 : decode cX12_keepsAt 55 = .ok (.if_icmp .le 20, 3) := by decide +kernel
theorem dX12_keepsAt_58 : decode cX12_keepsAt 58 = .ok (.aload_n 0, 1) := by decide +kernel
theorem dX12_keepsAt_59 : decode cX12_keepsAt 59 = .ok (.getfield 22, 3) := by decide +kernel
theorem dX12_keepsAt_62 : decode cX12_keepsAt 62 = .ok (.bipush 8, 2) := by decide +kernel
theorem dX12_keepsAt_64 : decode cX12_keepsAt 64 = .ok (.iload_n 1, 1) := by decide +kernel
theorem dX12_keepsAt_65 : decode cX12_keepsAt 65 = .ok (.imul, 1) := by decide +kernel
theorem dX12_keepsAt_66 : decode cX12_keepsAt 66 = .ok (.iload_n 2, 1) := by decide +kernel
theorem dX12_keepsAt_67 : decode cX12_keepsAt 67 = .ok (.iadd, 1) := by decide +kernel
theorem dX12_keepsAt_68 : decode cX12_keepsAt 68 = .ok (.iaload, 1) := by decide +kernel
theorem dX12_keepsAt_69 : decode cX12_keepsAt 69 = .ok (.iload 4, 2) := by decide +kernel
theorem dX12_keepsAt_71 : decode cX12_keepsAt 71 = .ok (.isub, 1) := by decide +kernel
theorem dX12_keepsAt_72 : decode cX12_keepsAt 72 = .ok (.goto 4, 3) := by decide +kernel
theorem dX12_keepsAt_75 : decode cX12_keepsAt 75 = .ok (.iconst 0, 1) := by decide +kernel
theorem dX12_keepsAt_76 : decode cX12_keepsAt 76 = .ok (.ireturn, 1) := by decide +kernel
theorem dX12_keeps_0 : decode cX12_keeps 0 = .ok (.aload_n 0, 1) := by decide +kernel
theorem dX12_keeps_1 : decode cX12_keeps 1 = .ok (.iload_n 1, 1) := by decide +kernel
theorem dX12_keeps_2 : decode cX12_keeps 2 = .ok (.iload_n 2, 1) := by decide +kernel
theorem dX12_keeps_3 : decode cX12_keeps 3 = .ok (.invokevirtual 176, 3) := by decide +kernel
theorem dX12_keeps_6 : decode cX12_keeps 6 = .ok (.ifCond .eq 47, 3) := by decide +kernel
theorem dX12_keeps_9 : decode cX12_keeps 9 = .ok (.aload_n 0, 1) := by decide +kernel
theorem dX12_keeps_10 : decode cX12_keeps 10 = .ok (.iload_n 1, 1) := by decide +kernel
theorem dX12_keeps_11 : decode cX12_keeps 11 = .ok (.iload_n 3, 1) := by decide +kernel
theorem dX12_keeps_12 : decode cX12_keeps 12 = .ok (.invokevirtual 176, 3) := by decide +kernel
theorem dX12_keeps_15 : decode cX12_keeps 15 = .ok (.ifCond .eq 38, 3) := by decide +kernel
theorem dX12_keeps_18 : decode cX12_keeps 18 = .ok (.iload_n 2, 1) := by decide +kernel
theorem dX12_keeps_19 : decode cX12_keeps 19 = .ok (.iload_n 3, 1) := by decide +kernel
theorem dX12_keeps_20 : decode cX12_keeps 20 = .ok (.if_icmp .eq 33, 3) := by decide +kernel
theorem dX12_keeps_23 : decode cX12_keeps 23 = .ok (.aload_n 0, 1) := by decide +kernel
theorem dX12_keeps_24 : decode cX12_keeps 24 = .ok (.getfield 22, 3) := by decide +kernel
theorem dX12_keeps_27 : decode cX12_keeps 27 = .ok (.bipush 8, 2) := by decide +kernel
theorem dX12_keeps_29 : decode cX12_keeps 29 = .ok (.iload_n 1, 1) := by decide +kernel
theorem dX12_keeps_30 : decode cX12_keeps 30 = .ok (.imul, 1) := by decide +kernel
theorem dX12_keeps_31 : decode cX12_keeps 31 = .ok (.iload_n 2, 1) := by decide +kernel
theorem dX12_keeps_32 : decode cX12_keeps 32 = .ok (.iadd, 1) := by decide +kernel
theorem dX12_keeps_33 : decode cX12_keeps 33 = .ok (.iaload, 1) := by decide +kernel
theorem dX12_keeps_34 : decode cX12_keeps 34 = .ok (.iconst (-1), 1) := by decide +kernel
theorem dX12_keeps_35 : decode cX12_keeps 35 = .ok (.if_icmp .eq 18, 3) := by decide +kernel
theorem dX12_keeps_38 : decode cX12_keeps 38 = .ok (.aload_n 0, 1) := by decide +kernel
theorem dX12_keeps_39 : decode cX12_keeps 39 = .ok (.getfield 22, 3) := by decide +kernel
theorem dX12_keeps_42 : decode cX12_keeps 42 = .ok (.bipush 8, 2) := by decide +kernel
theorem dX12_keeps_44 : decode cX12_keeps 44 = .ok (.iload_n 1, 1) := by decide +kernel
theorem dX12_keeps_45 : decode cX12_keeps 45 = .ok (.imul, 1) := by decide +kernel
theorem dX12_keeps_46 : decode cX12_keeps 46 = .ok (.iload_n 3, 1) := by decide +kernel
theorem dX12_keeps_47 : decode cX12_keeps 47 = .ok (.iadd, 1) := by decide +kernel
theorem dX12_keeps_48 : decode cX12_keeps 48 = .ok (.iaload, 1) := by decide +kernel
theorem dX12_keeps_49 : decode cX12_keeps 49 = .ok (.iconst (-1), 1) := by decide +kernel
theorem dX12_keeps_50 : decode cX12_keeps 50 = .ok (.if_icmp .ne 7, 3) := by decide +kernel
theorem dX12_keeps_53 : decode cX12_keeps 53 = .ok (.iconst (-1), 1) := by decide +kernel
theorem dX12_keeps_54 : decode cX12_keeps 54 = .ok (.goto 10, 3) := by decide +kernel
theorem dX12_keeps_57 : decode cX12_keeps 57 = .ok (.aload_n 0, 1) := by decide +kernel
theorem dX12_keeps_58 : decode cX12_keeps 58 = .ok (.iload_n 1, 1) := by decide +kernel
theorem dX12_keeps_59 : decode cX12_keeps 59 = .ok (.iload_n 2, 1) := by decide +kernel
theorem dX12_keeps_60 : decode cX12_keeps 60 = .ok (.iload_n 3, 1) := by decide +kernel
theorem dX12_keeps_61 : decode cX12_keeps 61 = .ok (.invokevirtual 186, 3) := by decide +kernel
theorem dX12_keeps_64 : decode cX12_keeps 64 = .ok (.ireturn, 1) := by decide +kernel
theorem dX12_keeperOf_0 : decode cX12_keeperOf 0 = .ok (.iconst (-1), 1) := by decide +kernel
theorem dX12_keeperOf_1 : decode cX12_keeperOf 1 = .ok (.istore_n 2, 1) := by decide +kernel
theorem dX12_keeperOf_2 : decode cX12_keeperOf 2 = .ok (.iconst 0, 1) := by decide +kernel
theorem dX12_keeperOf_3 : decode cX12_keeperOf 3 = .ok (.istore_n 3, 1) := by decide +kernel
theorem dX12_keeperOf_4 : decode cX12_keeperOf 4 = .ok (.iload_n 3, 1) := by decide +kernel
theorem dX12_keeperOf_5 : decode cX12_keeperOf 5 = .ok (.bipush 8, 2) := by decide +kernel
theorem dX12_keeperOf_7 : decode cX12_keeperOf 7 = .ok (.if_icmp .ge 50, 3) := by decide +kernel
theorem dX12_keeperOf_10 : decode cX12_keeperOf 10 = .ok (.aload_n 0, 1) := by decide +kernel
theorem dX12_keeperOf_11 : decode cX12_keeperOf 11 = .ok (.iload_n 1, 1) := by decide +kernel
theorem dX12_keeperOf_12 : decode cX12_keeperOf 12 = .ok (.iload_n 3, 1) := by decide +kernel
theorem dX12_keeperOf_13 : decode cX12_keeperOf 13 = .ok (.invokevirtual 176, 3) := by decide +kernel
theorem dX12_keeperOf_16 : decode cX12_keeperOf 16 = .ok (.ifCond .eq 35, 3) := by decide +kernel
theorem dX12_keeperOf_19 : decode cX12_keeperOf 19 = .ok (.iload_n 2, 1) := by decide +kernel
theorem dX12_keeperOf_20 : decode cX12_keeperOf 20 = .ok (.iconst (-1), 1) := by decide +kernel
theorem dX12_keeperOf_21 : decode cX12_keeperOf 21 = .ok (.if_icmp .eq 28, 3) := by decide +kernel
theorem dX12_keeperOf_24 : decode cX12_keeperOf 24 = .ok (.aload_n 0, 1) := by decide +kernel
theorem dX12_keeperOf_25 : decode cX12_keeperOf 25 = .ok (.getfield 22, 3) := by decide +kernel
theorem dX12_keeperOf_28 : decode cX12_keeperOf 28 = .ok (.bipush 8, 2) := by decide +kernel
theorem dX12_keeperOf_30 : decode cX12_keeperOf 30 = .ok (.iload_n 1, 1) := by decide +kernel
theorem dX12_keeperOf_31 : decode cX12_keeperOf 31 = .ok (.imul, 1) := by decide +kernel
theorem dX12_keeperOf_32 : decode cX12_keeperOf 32 = .ok (.iload_n 3, 1) := by decide +kernel
theorem dX12_keeperOf_33 : decode cX12_keeperOf 33 = .ok (.iadd, 1) := by decide +kernel
theorem dX12_keeperOf_34 : decode cX12_keeperOf 34 = .ok (.iaload, 1) := by decide +kernel
theorem dX12_keeperOf_35 : decode cX12_keeperOf 35 = .ok (.aload_n 0, 1) := by decide +kernel
theorem dX12_keeperOf_36 : decode cX12_keeperOf 36 = .ok (.getfield 22, 3) := by decide +kernel
theorem dX12_keeperOf_39 : decode cX12_keeperOf 39 = .ok (.bipush 8, 2) := by decide +kernel
theorem dX12_keeperOf_41 : decode cX12_keeperOf 41 = .ok (.iload_n 1, 1) := by decide +kernel
theorem dX12_keeperOf_42 : decode cX12_keeperOf 42 = .ok (.imul, 1) := by decide +kernel
theorem dX12_keeperOf_43 : decode cX12_keeperOf 43 = .ok (.iload_n 2, 1) := by decide +kernel
theorem dX12_keeperOf_44 : decode cX12_keeperOf 44 = .ok (.iadd, 1) := by decide +kernel
theorem dX12_keeperOf_45 : decode cX12_keeperOf 45 = .ok (.iaload, 1) := by decide +kernel
theorem dX12_keeperOf_46 : decode cX12_keeperOf 46 = .ok (.if_icmp .le 5, 3) := by decide +kernel
theorem dX12_keeperOf_49 : decode cX12_keeperOf 49 = .ok (.iload_n 3, 1) := by decide +kernel
theorem dX12_keeperOf_50 : decode cX12_keeperOf 50 = .ok (.istore_n 2, 1) := by decide +kernel
theorem dX12_keeperOf_51 : decode cX12_keeperOf 51 = .ok (.iinc 3 1, 3) := by decide +kernel
theorem dX12_keeperOf_54 : decode cX12_keeperOf 54 = .ok (.goto (-50), 3) := by decide +kernel
theorem dX12_keeperOf_57 : decode cX12_keeperOf 57 = .ok (.iload_n 2, 1) := by decide +kernel
theorem dX12_keeperOf_58 : decode cX12_keeperOf 58 = .ok (.ireturn, 1) := by decide +kernel
theorem dX12_isKeeping_0 : decode cX12_isKeeping 0 = .ok (.iload_n 1, 1) := by decide +kernel
theorem dX12_isKeeping_1 : decode cX12_isKeeping 1 = .ok (.iload_n 2, 1) := by decide +kernel
theorem dX12_isKeeping_2 : decode cX12_isKeeping 2 = .ok (.if_icmp .eq 50, 3) := by decide +kernel
theorem dX12_isKeeping_5 : decode cX12_isKeeping 5 = .ok (.aload_n 0, 1) := by decide +kernel
theorem dX12_isKeeping_6 : decode cX12_isKeeping 6 = .ok (.getfield 13, 3) := by decide +kernel
theorem dX12_isKeeping_9 : decode cX12_isKeeping 9 = .ok (.iload_n 1, 1) := by decide +kernel
theorem dX12_isKeeping_10 : decode cX12_isKeeping 10 = .ok (.iaload, 1) := by decide +kernel
theorem dX12_isKeeping_11 : decode cX12_isKeeping 11 = .ok (.aload_n 0, 1) := by decide +kernel
theorem dX12_isKeeping_12 : decode cX12_isKeeping 12 = .ok (.getfield 13, 3) := by decide +kernel
theorem dX12_isKeeping_15 : decode cX12_isKeeping 15 = .ok (.iload_n 2, 1) := by decide +kernel
theorem dX12_isKeeping_16 : decode cX12_isKeeping 16 = .ok (.iaload, 1) := by decide +kernel
theorem dX12_isKeeping_17 : decode cX12_isKeeping 17 = .ok (.if_icmp .ne 35, 3) := by decide +kernel
theorem dX12_isKeeping_20 : decode cX12_isKeeping 20 = .ok (.aload_n 0, 1) := by decide +kernel
theorem dX12_isKeeping_21 : decode cX12_isKeeping 21 = .ok (.getfield 16, 3) := by decide +kernel
theorem dX12_isKeeping_24 : decode cX12_isKeeping 24 = .ok (.iload_n 1, 1) := by decide +kernel
theorem dX12_isKeeping_25 : decode cX12_isKeeping 25 = .ok (.iaload, 1) := by decide +kernel
theorem dX12_isKeeping_26 : decode cX12_isKeeping 26 = .ok (.aload_n 0, 1) := by decide +kernel
theorem dX12_isKeeping_27 : decode cX12_isKeeping 27 = .ok (.getfield 16, 3) := by decide +kernel
theorem dX12_isKeeping_30 : decode cX12_isKeeping 30 = .ok (.iload_n 2, 1) := by decide +kernel
theorem dX12_isKeeping_31 : decode cX12_isKeeping 31 = .ok (.iaload, 1) := by decide +kernel
theorem dX12_isKeeping_32 : decode cX12_isKeeping 32 = .ok (.if_icmp .ge 20, 3) := by decide +kernel
theorem dX12_isKeeping_35 : decode cX12_isKeeping 35 = .ok (.aload_n 0, 1) := by decide +kernel
theorem dX12_isKeeping_36 : decode cX12_isKeeping 36 = .ok (.iload_n 1, 1) := by decide +kernel
theorem dX12_isKeeping_37 : decode cX12_isKeeping 37 = .ok (.iload_n 3, 1) := by decide +kernel
theorem dX12_isKeeping_38 : decode cX12_isKeeping 38 = .ok (.invokevirtual 176, 3) := by decide +kernel
theorem dX12_isKeeping_41 : decode cX12_isKeeping 41 = .ok (.ifCond .eq 11, 3) := by decide +kernel
theorem dX12_isKeeping_44 : decode cX12_isKeeping 44 = .ok (.aload_n 0, 1) := by decide +kernel
theorem dX12_isKeeping_45 : decode cX12_isKeeping 45 = .ok (.iload_n 1, 1) := by decide +kernel
theorem dX12_isKeeping_46 : decode cX12_isKeeping 46 = .ok (.invokevirtual 180, 3) := by decide +kernel
theorem dX12_isKeeping_49 : decode cX12_isKeeping 49 = .ok (.ifCond .ne 5, 3) := by decide +kernel
theorem dX12_isKeeping_52 : decode cX12_isKeeping 52 = .ok (.iconst 0, 1) := by decide +kernel
theorem dX12_isKeeping_53 : decode cX12_isKeeping 53 = .ok (.ireturn, 1) := by decide +kernel
theorem dX12_isKeeping_54 : decode cX12_isKeeping 54 = .ok (.aload_n 0, 1) := by decide +kernel
theorem dX12_isKeeping_55 : decode cX12_isKeeping 55 = .ok (.iload_n 1, 1) := by decide +kernel
theorem dX12_isKeeping_56 : decode cX12_isKeeping 56 = .ok (.invokevirtual 183, 3) := by decide +kernel
theorem dX12_isKeeping_59 : decode cX12_isKeeping 59 = .ok (.aload_n 0, 1) := by decide +kernel
theorem dX12_isKeeping_60 : decode cX12_isKeeping 60 = .ok (.getfield 16, 3) := by decide +kernel
theorem dX12_isKeeping_63 : decode cX12_isKeeping 63 = .ok (.iload_n 1, 1) := by decide +kernel
theorem dX12_isKeeping_64 : decode cX12_isKeeping 64 = .ok (.iaload, 1) := by decide +kernel
theorem dX12_isKeeping_65 : decode cX12_isKeeping 65 = .ok (.isub, 1) := by decide +kernel
theorem dX12_isKeeping_66 : decode cX12_isKeeping 66 = .ok (.istore 4, 2) := by decide +kernel
theorem dX12_isKeeping_68 : decode cX12_isKeeping 68 = .ok (.iload 4, 2) := by decide +kernel
theorem dX12_isKeeping_70 : decode cX12_isKeeping 70 = .ok (.ifCond .le 39, 3) := by decide +kernel
theorem dX12_isKeeping_73 : decode cX12_isKeeping 73 = .ok (.aload_n 0, 1) := by decide +kernel
theorem dX12_isKeeping_74 : decode cX12_isKeeping 74 = .ok (.getfield 22, 3) := by decide +kernel
theorem dX12_isKeeping_77 : decode cX12_isKeeping 77 = .ok (.bipush 8, 2) := by decide +kernel
theorem dX12_isKeeping_79 : decode cX12_isKeeping 79 = .ok (.iload_n 2, 1) := by decide +kernel
theorem dX12_isKeeping_80 : decode cX12_isKeeping 80 = .ok (.imul, 1) := by decide +kernel
theorem dX12_isKeeping_81 : decode cX12_isKeeping 81 = .ok (.iload_n 3, 1) := by decide +kernel
theorem dX12_isKeeping_82 : decode cX12_isKeeping 82 = .ok (.iadd, 1) := by decide +kernel
theorem dX12_isKeeping_83 : decode cX12_isKeeping 83 = .ok (.iaload, 1) := by decide +kernel
theorem dX12_isKeeping_84 : decode cX12_isKeeping 84 = .ok (.iload 4, 2) := by decide +kernel
theorem dX12_isKeeping_86 : decode cX12_isKeeping 86 = .ok (.isub, 1) := by decide +kernel
theorem dX12_isKeeping_87 : decode cX12_isKeeping 87 = .ok (.aload_n 0, 1) := by decide +kernel
theorem dX12_isKeeping_88 : decode cX12_isKeeping 88 = .ok (.getfield 16, 3) := by decide +kernel
theorem dX12_isKeeping_91 : decode cX12_isKeeping 91 = .ok (.iload_n 2, 1) := by decide +kernel
theorem dX12_isKeeping_92 : decode cX12_isKeeping 92 = .ok (.iaload, 1) := by decide +kernel
theorem dX12_isKeeping_93 : decode cX12_isKeeping 93 = .ok (.if_icmp .gt 16, 3) := by decide +kernel
theorem dX12_isKeeping_96 : decode cX12_isKeeping 96 = .ok (.aload_n 0, 1) := by decide +kernel
theorem dX12_isKeeping_97 : decode cX12_isKeeping 97 = .ok (.iload_n 1, 1) := by decide +kernel
theorem dX12_isKeeping_98 : decode cX12_isKeeping 98 = .ok (.invokevirtual 190, 3) := by decide +kernel
theorem dX12_isKeeping_101 : decode cX12_isKeeping 101 = .ok (.iload_n 3, 1) := by decide +kernel
theorem dX12_isKeeping_102 : decode cX12_isKeeping 102 = .ok (.if_icmp .eq 7, 3) := by decide +kernel
theorem dX12_isKeeping_105 : decode cX12_isKeeping 105 = .ok (.iconst 1, 1) := by decide +kernel
theorem dX12_isKeeping_106 : decode cX12_isKeeping 106 = .ok (.goto 4, 3) := by decide +kernel
theorem dX12_isKeeping_109 : decode cX12_isKeeping 109 = .ok (.iconst 0, 1) := by decide +kernel
theorem dX12_isKeeping_110 : decode cX12_isKeeping 110 = .ok (.ireturn, 1) := by decide +kernel
theorem dX12_keptBy_0 : decode cX12_keptBy 0 = .ok (.aload_n 0, 1) := by decide +kernel
theorem dX12_keptBy_1 : decode cX12_keptBy 1 = .ok (.iload_n 1, 1) := by decide +kernel
theorem dX12_keptBy_2 : decode cX12_keptBy 2 = .ok (.iload_n 2, 1) := by decide +kernel
theorem dX12_keptBy_3 : decode cX12_keptBy 3 = .ok (.invokevirtual 193, 3) := by decide +kernel
theorem dX12_keptBy_6 : decode cX12_keptBy 6 = .ok (.ifCond .ne 5, 3) := by decide +kernel
theorem dX12_keptBy_9 : decode cX12_keptBy 9 = .ok (.iconst (-1), 1) := by decide +kernel
theorem dX12_keptBy_10 : decode cX12_keptBy 10 = .ok (.ireturn, 1) := by decide +kernel
theorem dX12_keptBy_11 : decode cX12_keptBy 11 = .ok (.iconst (-1), 1) := by decide +kernel
theorem dX12_keptBy_12 : decode cX12_keptBy 12 = .ok (.istore_n 3, 1) := by decide +kernel
theorem dX12_keptBy_13 : decode cX12_keptBy 13 = .ok (.iconst 0, 1) := by decide +kernel
theorem dX12_keptBy_14 : decode cX12_keptBy 14 = .ok (.istore 4, 2) := by decide +kernel
theorem dX12_keptBy_16 : decode cX12_keptBy 16 = .ok (.iload 4, 2) := by decide +kernel
theorem dX12_keptBy_18 : decode cX12_keptBy 18 = .ok (.aload_n 0, 1) := by decide +kernel
theorem dX12_keptBy_19 : decode cX12_keptBy 19 = .ok (.getfield 155, 3) := by decide +kernel
theorem dX12_keptBy_22 : decode cX12_keptBy 22 = .ok (.if_icmp .ge 44, 3) := by decide +kernel
theorem dX12_keptBy_25 : decode cX12_keptBy 25 = .ok (.aload_n 0, 1) := by decide +kernel
theorem dX12_keptBy_26 : decode cX12_keptBy 26 = .ok (.iload 4, 2) := by decide +kernel
theorem dX12_keptBy_28 : decode cX12_keptBy 28 = .ok (.iload_n 1, 1) := by decide +kernel
theorem dX12_keptBy_29 : decode cX12_keptBy 29 = .ok (.iload_n 2, 1) := by decide +kernel
theorem dX12_keptBy_30 : decode cX12_keptBy 30 = .ok (.invokevirtual 197, 3) := by decide +kernel
theorem dX12_keptBy_33 : decode cX12_keptBy 33 = .ok (.ifCond .eq 27, 3) := by decide +kernel
theorem dX12_keptBy_36 : decode cX12_keptBy 36 = .ok (.iload_n 3, 1) := by decide +kernel
theorem dX12_keptBy_37 : decode cX12_keptBy 37 = .ok (.iconst (-1), 1) := by decide +kernel
theorem dX12_keptBy_38 : decode cX12_keptBy 38 = .ok (.if_icmp .eq 19, 3) := by decide +kernel
theorem dX12_keptBy_41 : decode cX12_keptBy 41 = .ok (.aload_n 0, 1) := by decide +kernel
theorem dX12_keptBy_42 : decode cX12_keptBy 42 = .ok (.getfield 16, 3) := by decide +kernel
theorem dX12_keptBy_45 : decode cX12_keptBy 45 = .ok (.iload 4, 2) := by decide +kernel
theorem dX12_keptBy_47 : decode cX12_keptBy 47 = .ok (.iaload, 1) := by decide +kernel
theorem dX12_keptBy_48 : decode cX12_keptBy 48 = .ok (.aload_n 0, 1) := by decide +kernel
theorem dX12_keptBy_49 : decode cX12_keptBy 49 = .ok (.getfield 16, 3) := by decide +kernel
theorem dX12_keptBy_52 : decode cX12_keptBy 52 = .ok (.iload_n 3, 1) := by decide +kernel
theorem dX12_keptBy_53 : decode cX12_keptBy 53 = .ok (.iaload, 1) := by decide +kernel
theorem dX12_keptBy_54 : decode cX12_keptBy 54 = .ok (.if_icmp .lt 6, 3) := by decide +kernel
theorem dX12_keptBy_57 : decode cX12_keptBy 57 = .ok (.iload 4, 2) := by decide +kernel
theorem dX12_keptBy_59 : decode cX12_keptBy 59 = .ok (.istore_n 3, 1) := by decide +kernel
theorem dX12_keptBy_60 : decode cX12_keptBy 60 = .ok (.iinc 4 1, 3) := by decide +kernel
theorem dX12_keptBy_63 : decode cX12_keptBy 63 = .ok (.goto (-47), 3) := by decide +kernel
theorem dX12_keptBy_66 : decode cX12_keptBy 66 = .ok (.iload_n 3, 1) := by decide +kernel
theorem dX12_keptBy_67 : decode cX12_keptBy 67 = .ok (.ireturn, 1) := by decide +kernel
theorem dX12_kept_0 : decode cX12_kept 0 = .ok (.aload_n 0, 1) := by decide +kernel
theorem dX12_kept_1 : decode cX12_kept 1 = .ok (.iload_n 1, 1) := by decide +kernel
theorem dX12_kept_2 : decode cX12_kept 2 = .ok (.iload_n 2, 1) := by decide +kernel
theorem dX12_kept_3 : decode cX12_kept 3 = .ok (.invokevirtual 176, 3) := by decide +kernel
theorem dX12_kept_6 : decode cX12_kept 6 = .ok (.ifCond .eq 27, 3) := by decide +kernel
theorem dX12_kept_9 : decode cX12_kept 9 = .ok (.aload_n 0, 1) := by decide +kernel
theorem dX12_kept_10 : decode cX12_kept 10 = .ok (.getfield 22, 3) := by decide +kernel
theorem dX12_kept_13 : decode cX12_kept 13 = .ok (.bipush 8, 2) := by decide +kernel
theorem dX12_kept_15 : decode cX12_kept 15 = .ok (.iload_n 1, 1) := by decide +kernel
theorem dX12_kept_16 : decode cX12_kept 16 = .ok (.imul, 1) := by decide +kernel
theorem dX12_kept_17 : decode cX12_kept 17 = .ok (.iload_n 2, 1) := by decide +kernel
theorem dX12_kept_18 : decode cX12_kept 18 = .ok (.iadd, 1) := by decide +kernel
theorem dX12_kept_19 : decode cX12_kept 19 = .ok (.iaload, 1) := by decide +kernel
theorem dX12_kept_20 : decode cX12_kept 20 = .ok (.iconst (-1), 1) := by decide +kernel
theorem dX12_kept_21 : decode cX12_kept 21 = .ok (.if_icmp .eq 12, 3) := by decide +kernel
theorem dX12_kept_24 : decode cX12_kept 24 = .ok (.iload_n 3, 1) := by decide +kernel
theorem dX12_kept_25 : decode cX12_kept 25 = .ok (.iconst 0, 1) := by decide +kernel
theorem dX12_kept_26 : decode cX12_kept 26 = .ok (.iconst 1, 1) := by decide +kernel
theorem dX12_kept_27 : decode cX12_kept 27 = .ok (.invokestatic 168, 3) := by decide +kernel
theorem dX12_kept_30 : decode cX12_kept 30 = .ok (.ifCond .ne 5, 3) := by decide +kernel
theorem dX12_kept_33 : decode cX12_kept 33 = .ok (.iconst (-1), 1) := by decide +kernel
theorem dX12_kept_34 : decode cX12_kept 34 = .ok (.ireturn, 1) := by decide +kernel
theorem dX12_kept_35 : decode cX12_kept 35 = .ok (.aload_n 0, 1) := by decide +kernel
theorem dX12_kept_36 : decode cX12_kept 36 = .ok (.iload_n 1, 1) := by decide +kernel
theorem dX12_kept_37 : decode cX12_kept 37 = .ok (.iload_n 2, 1) := by decide +kernel
theorem dX12_kept_38 : decode cX12_kept 38 = .ok (.invokevirtual 200, 3) := by decide +kernel
theorem dX12_kept_41 : decode cX12_kept 41 = .ok (.istore 4, 2) := by decide +kernel
theorem dX12_kept_43 : decode cX12_kept 43 = .ok (.iload 4, 2) := by decide +kernel
theorem dX12_kept_45 : decode cX12_kept 45 = .ok (.iconst (-1), 1) := by decide +kernel
theorem dX12_kept_46 : decode cX12_kept 46 = .ok (.if_icmp .ne 8, 3) := by decide +kernel
theorem dX12_kept_49 : decode cX12_kept 49 = .ok (.bipush (-2), 2) := by decide +kernel
theorem dX12_kept_51 : decode cX12_kept 51 = .ok (.goto 18, 3) := by decide +kernel
theorem dX12_kept_54 : decode cX12_kept 54 = .ok (.iload_n 3, 1) := by decide +kernel
theorem dX12_kept_55 : decode cX12_kept 55 = .ok (.ifCond .ne 8, 3) := by decide +kernel
theorem dX12_kept_58 : decode cX12_kept 58 = .ok (.iload 4, 2) := by decide +kernel
theorem dX12_kept_60 : decode cX12_kept 60 = .ok (.goto 9, 3) := by decide +kernel
theorem dX12_kept_63 : decode cX12_kept 63 = .ok (.aload_n 0, 1) := by decide +kernel
theorem dX12_kept_64 : decode cX12_kept 64 = .ok (.iload 4, 2) := by decide +kernel
theorem dX12_kept_66 : decode cX12_kept 66 = .ok (.invokevirtual 190, 3) := by decide +kernel
theorem dX12_kept_69 : decode cX12_kept 69 = .ok (.ireturn, 1) := by decide +kernel
theorem dX12_types_0 : decode cX12_types 0 = .ok (.iconst 3, 1) := by decide +kernel
theorem dX12_types_1 : decode cX12_types 1 = .ok (.istore_n 2, 1) := by decide +kernel
theorem dX12_types_2 : decode cX12_types 2 = .ok (.iload_n 2, 1) := by decide +kernel
theorem dX12_types_3 : decode cX12_types 3 = .ok (.ifCond .lt 35, 3) := by decide +kernel
theorem dX12_types_6 : decode cX12_types 6 = .ok (.aload_n 0, 1) := by decide +kernel
theorem dX12_types_7 : decode cX12_types 7 = .ok (.getfield 29, 3) := by decide +kernel
theorem dX12_types_10 : decode cX12_types 10 = .ok (.aload_n 0, 1) := by decide +kernel
theorem dX12_types_11 : decode cX12_types 11 = .ok (.getfield 203, 3) := by decide +kernel
theorem dX12_types_14 : decode cX12_types 14 = .ok (.iload_n 1, 1) := by decide +kernel
theorem dX12_types_15 : decode cX12_types 15 = .ok (.bipush 8, 2) := by decide +kernel
theorem dX12_types_17 : decode cX12_types 17 = .ok (.iload_n 2, 1) := by decide +kernel
theorem dX12_types_18 : decode cX12_types 18 = .ok (.imul, 1) := by decide +kernel
theorem dX12_types_19 : decode cX12_types 19 = .ok (.ishr, 1) := by decide +kernel
theorem dX12_types_20 : decode cX12_types 20 = .ok (.i2b, 1) := by decide +kernel
theorem dX12_types_21 : decode cX12_types 21 = .ok (.bastore, 1) := by decide +kernel
theorem dX12_types_22 : decode cX12_types 22 = .ok (.aload_n 0, 1) := by decide +kernel
theorem dX12_types_23 : decode cX12_types 23 = .ok (.aload_n 0, 1) := by decide +kernel
theorem dX12_types_24 : decode cX12_types 24 = .ok (.getfield 203, 3) := by decide +kernel
theorem dX12_types_27 : decode cX12_types 27 = .ok (.iconst 1, 1) := by decide +kernel
theorem dX12_types_28 : decode cX12_types 28 = .ok (.iadd, 1) := by decide +kernel
theorem dX12_types_29 : decode cX12_types 29 = .ok (.putfield 203, 3) := by decide +kernel
theorem dX12_types_32 : decode cX12_types 32 = .ok (.iinc 2 (-1), 3) := by decide +kernel
theorem dX12_types_35 : decode cX12_types 35 = .ok (.goto (-33), 3) := by decide +kernel
theorem dX12_types_38 : decode cX12_types 38 = .ok (.return_, 1) := by decide +kernel
theorem dX12_feed_0 : decode cX12_feed 0 = .ok (.aload_n 0, 1) := by decide +kernel
theorem dX12_feed_1 : decode cX12_feed 1 = .ok (.getfield 203, 3) := by decide +kernel
theorem dX12_feed_4 : decode cX12_feed 4 = .ok (.bipush 20, 2) := by decide +kernel
theorem dX12_feed_6 : decode cX12_feed 6 = .ok (.iadd, 1) := by decide +kernel
theorem dX12_feed_7 : decode cX12_feed 7 = .ok (.sipush 400, 3) := by decide +kernel
theorem dX12_feed_10 : decode cX12_feed 10 = .ok (.if_icmp .le 5, 3) := by decide +kernel
theorem dX12_feed_13 : decode cX12_feed 13 = .ok (.iconst (-1), 1) := by decide +kernel
theorem dX12_feed_14 : decode cX12_feed 14 = .ok (.ireturn, 1) := by decide +kernel
theorem dX12_feed_15 : decode cX12_feed 15 = .ok (.aload_n 0, 1) := by decide +kernel
theorem dX12_feed_16 : decode cX12_feed 16 = .ok (.iload_n 1, 1) := by decide +kernel
theorem dX12_feed_17 : decode cX12_feed 17 = .ok (.invokevirtual 206, 3) := by decide +kernel
theorem dX12_feed_20 : decode cX12_feed 20 = .ok (.aload_n 0, 1) := by decide +kernel
theorem dX12_feed_21 : decode cX12_feed 21 = .ok (.iload_n 2, 1) := by decide +kernel
theorem dX12_feed_22 : decode cX12_feed 22 = .ok (.invokevirtual 206, 3) := by decide +kernel
theorem dX12_feed_25 : decode cX12_feed 25 = .ok (.aload_n 0, 1) := by decide +kernel
theorem dX12_feed_26 : decode cX12_feed 26 = .ok (.iload_n 3, 1) := by decide +kernel
theorem dX12_feed_27 : decode cX12_feed 27 = .ok (.invokevirtual 206, 3) := by decide +kernel
theorem dX12_feed_30 : decode cX12_feed 30 = .ok (.aload_n 0, 1) := by decide +kernel
theorem dX12_feed_31 : decode cX12_feed 31 = .ok (.iload 4, 2) := by decide +kernel
theorem dX12_feed_33 : decode cX12_feed 33 = .ok (.invokevirtual 206, 3) := by decide +kernel
theorem dX12_feed_36 : decode cX12_feed 36 = .ok (.aload_n 0, 1) := by decide +kernel
theorem dX12_feed_37 : decode cX12_feed 37 = .ok (.iload 5, 2) := by decide +kernel
theorem dX12_feed_39 : decode cX12_feed 39 = .ok (.invokevirtual 206, 3) := by decide +kernel
theorem dX12_feed_42 : decode cX12_feed 42 = .ok (.aload_n 0, 1) := by decide +kernel
theorem dX12_feed_43 : decode cX12_feed 43 = .ok (.getfield 203, 3) := by decide +kernel
theorem dX12_feed_46 : decode cX12_feed 46 = .ok (.ireturn, 1) := by decide +kernel
theorem dX12_here_0 : decode cX12_here 0 = .ok (.aload_n 0, 1) := by decide +kernel
theorem dX12_here_1 : decode cX12_here 1 = .ok (.getfield 210, 3) := by decide +kernel
theorem dX12_here_4 : decode cX12_here 4 = .ok (.aload_n 0, 1) := by decide +kernel
theorem dX12_here_5 : decode cX12_here 5 = .ok (.getfield 213, 3) := by decide +kernel
theorem dX12_here_8 : decode cX12_here 8 = .ok (.if_icmp .ge 19, 3) := by decide +kernel
theorem dX12_here_11 : decode cX12_here 11 = .ok (.aload_n 0, 1) := by decide +kernel
theorem dX12_here_12 : decode cX12_here 12 = .ok (.getfield 29, 3) := by decide +kernel
theorem dX12_here_15 : decode cX12_here 15 = .ok (.aload_n 0, 1) := by decide +kernel
theorem dX12_here_16 : decode cX12_here 16 = .ok (.getfield 210, 3) := by decide +kernel
theorem dX12_here_19 : decode cX12_here 19 = .ok (.baload, 1) := by decide +kernel
theorem dX12_here_20 : decode cX12_here 20 = .ok (.sipush 255, 3) := by decide +kernel
theorem dX12_here_23 : decode cX12_here 23 = .ok (.iand, 1) := by decide +kernel
theorem dX12_here_24 : decode cX12_here 24 = .ok (.goto 4, 3) := by decide +kernel
theorem dX12_here_27 : decode cX12_here 27 = .ok (.iconst (-1), 1) := by decide +kernel
theorem dX12_here_28 : decode cX12_here 28 = .ok (.ireturn, 1) := by decide +kernel
theorem dX12_isDigit_0 : decode cX12_isDigit 0 = .ok (.aload_n 0, 1) := by decide +kernel
theorem dX12_isDigit_1 : decode cX12_isDigit 1 = .ok (.invokevirtual 216, 3) := by decide +kernel
theorem dX12_isDigit_4 : decode cX12_isDigit 4 = .ok (.bipush 48, 2) := by decide +kernel
theorem dX12_isDigit_6 : decode cX12_isDigit 6 = .ok (.if_icmp .lt 16, 3) := by decide +kernel
theorem dX12_isDigit_9 : decode cX12_isDigit 9 = .ok (.aload_n 0, 1) := by decide +kernel
theorem dX12_isDigit_10 : decode cX12_isDigit 10 = .ok (.invokevirtual 216, 3) := by decide +kernel
theorem dX12_isDigit_13 : decode cX12_isDigit 13 = .ok (.bipush 57, 2) := by decide +kernel
theorem dX12_isDigit_15 : decode cX12_isDigit 15 = .ok (.if_icmp .gt 7, 3) := by decide +kernel
theorem dX12_isDigit_18 : decode cX12_isDigit 18 = .ok (.iconst 1, 1) := by decide +kernel
theorem dX12_isDigit_19 : decode cX12_isDigit 19 = .ok (.goto 4, 3) := by decide +kernel
theorem dX12_isDigit_22 : decode cX12_isDigit 22 = .ok (.iconst 0, 1) := by decide +kernel
theorem dX12_isDigit_23 : decode cX12_isDigit 23 = .ok (.ireturn, 1) := by decide +kernel
theorem dX12_wrongAt_0 : decode cX12_wrongAt 0 = .ok (.aload_n 0, 1) := by decide +kernel
theorem dX12_wrongAt_1 : decode cX12_wrongAt 1 = .ok (.sipush (-1000), 3) := by decide +kernel
theorem dX12_wrongAt_4 : decode cX12_wrongAt 4 = .ok (.iload_n 1, 1) := by decide +kernel
theorem dX12_wrongAt_5 : decode cX12_wrongAt 5 = .ok (.imul, 1) := by decide +kernel
theorem dX12_wrongAt_6 : decode cX12_wrongAt 6 = .ok (.iload_n 2, 1) := by decide +kernel
theorem dX12_wrongAt_7 : decode cX12_wrongAt 7 = .ok (.isub, 1) := by decide +kernel
theorem dX12_wrongAt_8 : decode cX12_wrongAt 8 = .ok (.putfield 220, 3) := by decide +kernel
theorem dX12_wrongAt_11 : decode cX12_wrongAt 11 = .ok (.iconst 0, 1) := by decide +kernel
theorem dX12_wrongAt_12 : decode cX12_wrongAt 12 = .ok (.ireturn, 1) := by decide +kernel
theorem dX12_takes_0 : decode cX12_takes 0 = .ok (.aload_n 0, 1) := by decide +kernel
theorem dX12_takes_1 : decode cX12_takes 1 = .ok (.invokevirtual 216, 3) := by decide +kernel
theorem dX12_takes_4 : decode cX12_takes 4 = .ok (.iload_n 1, 1) := by decide +kernel
theorem dX12_takes_5 : decode cX12_takes 5 = .ok (.if_icmp .eq 13, 3) := by decide +kernel
theorem dX12_takes_8 : decode cX12_takes 8 = .ok (.aload_n 0, 1) := by decide +kernel
theorem dX12_takes_9 : decode cX12_takes 9 = .ok (.iconst 1, 1) := by decide +kernel
theorem dX12_takes_10 : decode cX12_takes 10 = .ok (.aload_n 0, 1) := by decide +kernel
theorem dX12_takes_11 : decode cX12_takes 11 = .ok (.getfield 210, 3) := by decide +kernel
theorem dX12_takes_14 : decode cX12_takes 14 = .ok (.invokevirtual 223, 3) := by decide +kernel
theorem dX12_takes_17 : decode cX12_takes 17 = .ok (.ireturn, 1) := by decide +kernel
theorem dX12_takes_18 : decode cX12_takes 18 = .ok (.aload_n 0, 1) := by decide +kernel
theorem dX12_takes_19 : decode cX12_takes 19 = .ok (.aload_n 0, 1) := by decide +kernel
theorem dX12_takes_20 : decode cX12_takes 20 = .ok (.getfield 210, 3) := by decide +kernel
theorem dX12_takes_23 : decode cX12_takes 23 = .ok (.iconst 1, 1) := by decide +kernel
theorem dX12_takes_24 : decode cX12_takes 24 = .ok (.iadd, 1) := by decide +kernel
theorem dX12_takes_25 : decode cX12_takes 25 = .ok (.putfield 210, 3) := by decide +kernel
theorem dX12_takes_28 : decode cX12_takes 28 = .ok (.iconst 1, 1) := by decide +kernel
theorem dX12_takes_29 : decode cX12_takes 29 = .ok (.ireturn, 1) := by decide +kernel
theorem dX12_readsNumber_0 : decode cX12_readsNumber 0 = .ok (.aload_n 0, 1) := by decide +kernel
theorem dX12_readsNumber_1 : decode cX12_readsNumber 1 = .ok (.getfield 210, 3) := by decide +kernel
theorem dX12_readsNumber_4 : decode cX12_readsNumber 4 = .ok (.istore_n 1, 1) := by decide +kernel
theorem dX12_readsNumber_5 : decode cX12_readsNumber 5 = .ok (.aload_n 0, 1) := by decide +kernel
theorem dX12_readsNumber_6 : decode cX12_readsNumber 6 = .ok (.iconst 0, 1) := by decide +kernel
theorem dX12_readsNumber_7 : decode cX12_readsNumber 7 = .ok (.putfield 226, 3) := by decide +kernel
theorem dX12_readsNumber_10 : decode cX12_readsNumber 10 = .ok (.aload_n 0, 1) := by decide +kernel
theorem dX12_readsNumber_11 : decode cX12_readsNumber 11 = .ok (.invokevirtual 229, 3) := by decide +kernel
theorem dX12_readsNumber_14 : decode cX12_readsNumber 14 = .ok (.ifCond .eq 55, 3) := by decide +kernel
theorem dX12_readsNumber_17 : decode cX12_readsNumber 17 = .ok (.aload_n 0, 1) := by decide +kernel
theorem dX12_readsNumber_18 : decode cX12_readsNumber 18 = .ok (.getfield 210, 3) := by decide +kernel
theorem dX12_readsNumber_21 : decode cX12_readsNumber 21 = .ok (.iload_n 1, 1) := by decide +kernel
theorem dX12_readsNumber_22 : decode cX12_readsNumber 22 = .ok (.iconst 5, 1) := by decide +kernel
theorem dX12_readsNumber_23 : decode cX12_readsNumber 23 = .ok (.iadd, 1) := by decide +kernel
theorem dX12_readsNumber_24 : decode cX12_readsNumber 24 = .ok (.if_icmp .ne 13, 3) := by decide +kernel
theorem dX12_readsNumber_27 : decode cX12_readsNumber 27 = .ok (.aload_n 0, 1) := by decide +kernel
theorem dX12_readsNumber_28 : decode cX12_readsNumber 28 = .ok (.iconst 2, 1) := by decide +kernel
theorem dX12_readsNumber_29 : decode cX12_readsNumber 29 = .ok (.aload_n 0, 1) := by decide +kernel
theorem dX12_readsNumber_30 : decode cX12_readsNumber 30 = .ok (.getfield 210, 3) := by decide +kernel
theorem dX12_readsNumber_33 : decode cX12_readsNumber 33 = .ok (.invokevirtual 223, 3) := by decide +kernel
theorem dX12_readsNumber_36 : decode cX12_readsNumber 36 = .ok (.ireturn, 1) := by decide +kernel
theorem dX12_readsNumber_37 : decode cX12_readsNumber 37 = .ok (.aload_n 0, 1) := by decide +kernel
theorem dX12_readsNumber_38 : decode cX12_readsNumber 38 = .ok (.bipush 10, 2) := by decide +kernel
theorem dX12_readsNumber_40 : decode cX12_readsNumber 40 = .ok (.aload_n 0, 1) := by decide +kernel
theorem dX12_readsNumber_41 : decode cX12_readsNumber 41 = .ok (.getfield 226, 3) := by decide +kernel
theorem dX12_readsNumber_44 : decode cX12_readsNumber 44 = .ok (.imul, 1) := by decide +kernel
theorem dX12_readsNumber_45 : decode cX12_readsNumber 45 = .ok (.aload_n 0, 1) := by decide +kernel
theorem dX12_readsNumber_46 : decode cX12_readsNumber 46 = .ok (.invokevirtual 216, 3) := by decide +kernel
theorem dX12_readsNumber_49 : decode cX12_readsNumber 49 = .ok (.iadd, 1) := by decide +kernel
theorem dX12_readsNumber_50 : decode cX12_readsNumber 50 = .ok (.bipush 48, 2) := by decide +kernel
theorem dX12_readsNumber_52 : decode cX12_readsNumber 52 = .ok (.isub, 1) := by decide +kernel
theorem dX12_readsNumber_53 : decode cX12_readsNumber 53 = .ok (.putfield 226, 3) := by decide +kernel
theorem dX12_readsNumber_56 : decode cX12_readsNumber 56 = .ok (.aload_n 0, 1) := by decide +kernel
theorem dX12_readsNumber_57 : decode cX12_readsNumber 57 = .ok (.aload_n 0, 1) := by decide +kernel
theorem dX12_readsNumber_58 : decode cX12_readsNumber 58 = .ok (.getfield 210, 3) := by decide +kernel
theorem dX12_readsNumber_61 : decode cX12_readsNumber 61 = .ok (.iconst 1, 1) := by decide +kernel
theorem dX12_readsNumber_62 : decode cX12_readsNumber 62 = .ok (.iadd, 1) := by decide +kernel
theorem dX12_readsNumber_63 : decode cX12_readsNumber 63 = .ok (.putfield 210, 3) := by decide +kernel
theorem dX12_readsNumber_66 : decode cX12_readsNumber 66 = .ok (.goto (-56), 3) := by decide +kernel
theorem dX12_readsNumber_69 : decode cX12_readsNumber 69 = .ok (.iconst 1, 1) := by decide +kernel
theorem dX12_readsNumber_70 : decode cX12_readsNumber 70 = .ok (.ireturn, 1) := by decide +kernel
theorem dX12_notes_0 : decode cX12_notes 0 = .ok (.aload_n 0, 1) := by decide +kernel
theorem dX12_notes_1 : decode cX12_notes 1 = .ok (.getfield 33, 3) := by decide +kernel
theorem dX12_notes_4 : decode cX12_notes 4 = .ok (.aload_n 0, 1) := by decide +kernel
theorem dX12_notes_5 : decode cX12_notes 5 = .ok (.getfield 233, 3) := by decide +kernel
theorem dX12_notes_8 : decode cX12_notes 8 = .ok (.ldc 236, 2) := by decide +kernel
theorem dX12_notes_10 : decode cX12_notes 10 = .ok (.iload_n 1, 1) := by decide +kernel
theorem dX12_notes_11 : decode cX12_notes 11 = .ok (.imul, 1) := by decide +kernel
theorem dX12_notes_12 : decode cX12_notes 12 = .ok (.iload_n 2, 1) := by decide +kernel
theorem dX12_notes_13 : decode cX12_notes 13 = .ok (.iadd, 1) := by decide +kernel
theorem dX12_notes_14 : decode cX12_notes 14 = .ok (.iastore, 1) := by decide +kernel
theorem dX12_notes_15 : decode cX12_notes 15 = .ok (.aload_n 0, 1) := by decide +kernel
theorem dX12_notes_16 : decode cX12_notes 16 = .ok (.aload_n 0, 1) := by decide +kernel
theorem dX12_notes_17 : decode cX12_notes 17 = .ok (.getfield 233, 3) := by decide +kernel
theorem dX12_notes_20 : decode cX12_notes 20 = .ok (.iconst 1, 1) := by decide +kernel
theorem dX12_notes_21 : decode cX12_notes 21 = .ok (.iadd, 1) := by decide +kernel
theorem dX12_notes_22 : decode cX12_notes 22 = .ok (.putfield 233, 3) := by decide +kernel
theorem dX12_notes_25 : decode cX12_notes 25 = .ok (.return_, 1) := by decide +kernel
theorem dX12_opens_0 : decode cX12_opens 0 = .ok (.aload_n 0, 1) := by decide +kernel
theorem dX12_opens_1 : decode cX12_opens 1 = .ok (.getfield 237, 3) := by decide +kernel
theorem dX12_opens_4 : decode cX12_opens 4 = .ok (.bipush 6, 2) := by decide +kernel
theorem dX12_opens_6 : decode cX12_opens 6 = .ok (.if_icmp .ne 13, 3) := by decide +kernel
theorem dX12_opens_9 : decode cX12_opens 9 = .ok (.aload_n 0, 1) := by decide +kernel
theorem dX12_opens_10 : decode cX12_opens 10 = .ok (.iconst 5, 1) := by decide +kernel
theorem dX12_opens_11 : decode cX12_opens 11 = .ok (.aload_n 0, 1) := by decide +kernel
theorem dX12_opens_12 : decode cX12_opens 12 = .ok (.getfield 210, 3) := by decide +kernel
theorem dX12_opens_15 : decode cX12_opens 15 = .ok (.invokevirtual 223, 3) := by decide +kernel
theorem dX12_opens_18 : decode cX12_opens 18 = .ok (.ireturn, 1) := by decide +kernel
theorem dX12_opens_19 : decode cX12_opens 19 = .ok (.aload_n 0, 1) := by decide +kernel
theorem dX12_opens_20 : decode cX12_opens 20 = .ok (.aload_n 0, 1) := by decide +kernel
theorem dX12_opens_21 : decode cX12_opens 21 = .ok (.getfield 237, 3) := by decide +kernel
theorem dX12_opens_24 : decode cX12_opens 24 = .ok (.iconst 1, 1) := by decide +kernel
theorem dX12_opens_25 : decode cX12_opens 25 = .ok (.iadd, 1) := by decide +kernel
theorem dX12_opens_26 : decode cX12_opens 26 = .ok (.putfield 237, 3) := by decide +kernel
theorem dX12_opens_29 : decode cX12_opens 29 = .ok (.aload_n 0, 1) := by decide +kernel
theorem dX12_opens_30 : decode cX12_opens 30 = .ok (.getfield 36, 3) := by decide +kernel
theorem dX12_opens_33 : decode cX12_opens 33 = .ok (.aload_n 0, 1) := by decide +kernel
theorem dX12_opens_34 : decode cX12_opens 34 = .ok (.getfield 240, 3) := by decide +kernel
theorem dX12_opens_37 : decode cX12_opens 37 = .ok (.ldc 236, 2) := by decide +kernel
theorem dX12_opens_39 : decode cX12_opens 39 = .ok (.iload_n 1, 1) := by decide +kernel
theorem dX12_opens_40 : decode cX12_opens 40 = .ok (.imul, 1) := by decide +kernel
theorem dX12_opens_41 : decode cX12_opens 41 = .ok (.iastore, 1) := by decide +kernel
theorem dX12_opens_42 : decode cX12_opens 42 = .ok (.aload_n 0, 1) := by decide +kernel
theorem dX12_opens_43 : decode cX12_opens 43 = .ok (.aload_n 0, 1) := by decide +kernel
theorem dX12_opens_44 : decode cX12_opens 44 = .ok (.getfield 240, 3) := by decide +kernel
theorem dX12_opens_47 : decode cX12_opens 47 = .ok (.iconst 1, 1) := by decide +kernel
theorem dX12_opens_48 : decode cX12_opens 48 = .ok (.iadd, 1) := by decide +kernel
theorem dX12_opens_49 : decode cX12_opens 49 = .ok (.putfield 240, 3) := by decide +kernel
theorem dX12_opens_52 : decode cX12_opens 52 = .ok (.aload_n 0, 1) := by decide +kernel
theorem dX12_opens_53 : decode cX12_opens 53 = .ok (.aload_n 0, 1) := by decide +kernel
theorem dX12_opens_54 : decode cX12_opens 54 = .ok (.getfield 210, 3) := by decide +kernel
theorem dX12_opens_57 : decode cX12_opens 57 = .ok (.iconst 1, 1) := by decide +kernel
theorem dX12_opens_58 : decode cX12_opens 58 = .ok (.iadd, 1) := by decide +kernel
theorem dX12_opens_59 : decode cX12_opens 59 = .ok (.putfield 210, 3) := by decide +kernel
theorem dX12_opens_62 : decode cX12_opens 62 = .ok (.iconst 1, 1) := by decide +kernel
theorem dX12_opens_63 : decode cX12_opens 63 = .ok (.ireturn, 1) := by decide +kernel
theorem dX12_top_0 : decode cX12_top 0 = .ok (.aload_n 0, 1) := by decide +kernel
theorem dX12_top_1 : decode cX12_top 1 = .ok (.getfield 240, 3) := by decide +kernel
theorem dX12_top_4 : decode cX12_top 4 = .ok (.ifCond .ne 7, 3) := by decide +kernel
theorem dX12_top_7 : decode cX12_top 7 = .ok (.iconst (-1), 1) := by decide +kernel
theorem dX12_top_8 : decode cX12_top 8 = .ok (.goto 17, 3) := by decide +kernel
theorem dX12_top_11 : decode cX12_top 11 = .ok (.aload_n 0, 1) := by decide +kernel
theorem dX12_top_12 : decode cX12_top 12 = .ok (.getfield 36, 3) := by decide +kernel
theorem dX12_top_15 : decode cX12_top 15 = .ok (.aload_n 0, 1) := by decide +kernel
theorem dX12_top_16 : decode cX12_top 16 = .ok (.getfield 240, 3) := by decide +kernel
theorem dX12_top_19 : decode cX12_top 19 = .ok (.iconst 1, 1) := by decide +kernel
theorem dX12_top_20 : decode cX12_top 20 = .ok (.isub, 1) := by decide +kernel
theorem dX12_top_21 : decode cX12_top 21 = .ok (.iaload, 1) := by decide +kernel
theorem dX12_top_22 : decode cX12_top 22 = .ok (.ldc 236, 2) := by decide +kernel
theorem dX12_top_24 : decode cX12_top 24 = .ok (.idiv, 1) := by decide +kernel
theorem dX12_top_25 : decode cX12_top 25 = .ok (.ireturn, 1) := by decide +kernel
theorem dX12_factOf_0 : decode cX12_factOf 0 = .ok (.iload_n 0, 1) := by decide +kernel
theorem dX12_factOf_1 : decode cX12_factOf 1 = .ok (.tableswitch 145 97 121 #[117, 119, 145, 133, 145, 145, 123, 130, 145, 145, 125, 145, 145, 121, 145, 145, 145, 127, 145, 145, 145, 142, 115, 136, 139], 115) := by decide +kernel
theorem dX12_factOf_116 : decode cX12_factOf 116 = .ok (.iconst 0, 1) := by decide +kernel
theorem dX12_factOf_117 : decode cX12_factOf 117 = .ok (.ireturn, 1) := by decide +kernel
theorem dX12_factOf_118 : decode cX12_factOf 118 = .ok (.iconst 1, 1) := by decide +kernel
theorem dX12_factOf_119 : decode cX12_factOf 119 = .ok (.ireturn, 1) := by decide +kernel
theorem dX12_factOf_120 : decode cX12_factOf 120 = .ok (.iconst 2, 1) := by decide +kernel
theorem dX12_factOf_121 : decode cX12_factOf 121 = .ok (.ireturn, 1) := by decide +kernel
theorem dX12_factOf_122 : decode cX12_factOf 122 = .ok (.iconst 3, 1) := by decide +kernel
theorem dX12_factOf_123 : decode cX12_factOf 123 = .ok (.ireturn, 1) := by decide +kernel
theorem dX12_factOf_124 : decode cX12_factOf 124 = .ok (.iconst 4, 1) := by decide +kernel
theorem dX12_factOf_125 : decode cX12_factOf 125 = .ok (.ireturn, 1) := by decide +kernel
theorem dX12_factOf_126 : decode cX12_factOf 126 = .ok (.iconst 5, 1) := by decide +kernel
theorem dX12_factOf_127 : decode cX12_factOf 127 = .ok (.ireturn, 1) := by decide +kernel
theorem dX12_factOf_128 : decode cX12_factOf 128 = .ok (.bipush 6, 2) := by decide +kernel
theorem dX12_factOf_130 : decode cX12_factOf 130 = .ok (.ireturn, 1) := by decide +kernel
theorem dX12_factOf_131 : decode cX12_factOf 131 = .ok (.bipush 7, 2) := by decide +kernel
theorem dX12_factOf_133 : decode cX12_factOf 133 = .ok (.ireturn, 1) := by decide +kernel
theorem dX12_factOf_134 : decode cX12_factOf 134 = .ok (.bipush 8, 2) := by decide +kernel
theorem dX12_factOf_136 : decode cX12_factOf 136 = .ok (.ireturn, 1) := by decide +kernel
theorem dX12_factOf_137 : decode cX12_factOf 137 = .ok (.bipush 9, 2) := by decide +kernel
theorem dX12_factOf_139 : decode cX12_factOf 139 = .ok (.ireturn, 1) := by decide +kernel
theorem dX12_factOf_140 : decode cX12_factOf 140 = .ok (.bipush 10, 2) := by decide +kernel
theorem dX12_factOf_142 : decode cX12_factOf 142 = .ok (.ireturn, 1) := by decide +kernel
theorem dX12_factOf_143 : decode cX12_factOf 143 = .ok (.bipush 11, 2) := by decide +kernel
theorem dX12_factOf_145 : decode cX12_factOf 145 = .ok (.ireturn, 1) := by decide +kernel
theorem dX12_factOf_146 : decode cX12_factOf 146 = .ok (.iconst (-1), 1) := by decide +kernel
theorem dX12_factOf_147 : decode cX12_factOf 147 = .ok (.ireturn, 1) := by decide +kernel
theorem dX12_sumSign_0 : decode cX12_sumSign 0 = .ok (.iload_n 0, 1) := by decide +kernel
theorem dX12_sumSign_1 : decode cX12_sumSign 1 = .ok (.bipush 43, 2) := by decide +kernel
theorem dX12_sumSign_3 : decode cX12_sumSign 3 = .ok (.if_icmp .ne 7, 3) := by decide +kernel
theorem dX12_sumSign_6 : decode cX12_sumSign 6 = .ok (.iconst 2, 1) := by decide +kernel
theorem dX12_sumSign_7 : decode cX12_sumSign 7 = .ok (.goto 45, 3) := by decide +kernel
theorem dX12_sumSign_10 : decode cX12_sumSign 10 = .ok (.iload_n 0, 1) := by decide +kernel
theorem dX12_sumSign_11 : decode cX12_sumSign 11 = .ok (.bipush 45, 2) := by decide +kernel
theorem dX12_sumSign_13 : decode cX12_sumSign 13 = .ok (.if_icmp .ne 7, 3) := by decide +kernel
theorem dX12_sumSign_16 : decode cX12_sumSign 16 = .ok (.iconst 3, 1) := by decide +kernel
theorem dX12_sumSign_17 : decode cX12_sumSign 17 = .ok (.goto 35, 3) := by decide +kernel
theorem dX12_sumSign_20 : decode cX12_sumSign 20 = .ok (.iload_n 0, 1) := by decide +kernel
theorem dX12_sumSign_21 : decode cX12_sumSign 21 = .ok (.bipush 42, 2) := by decide +kernel
theorem dX12_sumSign_23 : decode cX12_sumSign 23 = .ok (.if_icmp .ne 7, 3) := by decide +kernel
theorem dX12_sumSign_26 : decode cX12_sumSign 26 = .ok (.iconst 4, 1) := by decide +kernel
theorem dX12_sumSign_27 : decode cX12_sumSign 27 = .ok (.goto 25, 3) := by decide +kernel
theorem dX12_sumSign_30 : decode cX12_sumSign 30 = .ok (.iload_n 0, 1) := by decide +kernel
theorem dX12_sumSign_31 : decode cX12_sumSign 31 = .ok (.bipush 47, 2) := by decide +kernel
theorem dX12_sumSign_33 : decode cX12_sumSign 33 = .ok (.if_icmp .ne 7, 3) := by decide +kernel
theorem dX12_sumSign_36 : decode cX12_sumSign 36 = .ok (.iconst 5, 1) := by decide +kernel
theorem dX12_sumSign_37 : decode cX12_sumSign 37 = .ok (.goto 15, 3) := by decide +kernel
theorem dX12_sumSign_40 : decode cX12_sumSign 40 = .ok (.iload_n 0, 1) := by decide +kernel
theorem dX12_sumSign_41 : decode cX12_sumSign 41 = .ok (.bipush 37, 2) := by decide +kernel
theorem dX12_sumSign_43 : decode cX12_sumSign 43 = .ok (.if_icmp .ne 8, 3) := by decide +kernel
theorem dX12_sumSign_46 : decode cX12_sumSign 46 = .ok (.bipush 6, 2) := by decide +kernel
theorem dX12_sumSign_48 : decode cX12_sumSign 48 = .ok (.goto 4, 3) := by decide +kernel
theorem dX12_sumSign_51 : decode cX12_sumSign 51 = .ok (.iconst (-1), 1) := by decide +kernel
theorem dX12_sumSign_52 : decode cX12_sumSign 52 = .ok (.ireturn, 1) := by decide +kernel
theorem dX12_closesSums_0 : decode cX12_closesSums 0 = .ok (.aload_n 0, 1) := by decide +kernel
theorem dX12_closesSums_1 : decode cX12_closesSums 1 = .ok (.invokevirtual 243, 3) := by decide +kernel
theorem dX12_closesSums_4 : decode cX12_closesSums 4 = .ok (.iconst 4, 1) := by decide +kernel
theorem dX12_closesSums_5 : decode cX12_closesSums 5 = .ok (.if_icmp .lt 12, 3) := by decide +kernel
theorem dX12_closesSums_8 : decode cX12_closesSums 8 = .ok (.aload_n 0, 1) := by decide +kernel
theorem dX12_closesSums_9 : decode cX12_closesSums 9 = .ok (.invokevirtual 243, 3) := by decide +kernel
theorem dX12_closesSums_12 : decode cX12_closesSums 12 = .ok (.bipush 6, 2) := by decide +kernel
theorem dX12_closesSums_14 : decode cX12_closesSums 14 = .ok (.if_icmp .le 23, 3) := by decide +kernel
theorem dX12_closesSums_17 : decode cX12_closesSums 17 = .ok (.iload_n 1, 1) := by decide +kernel
theorem dX12_closesSums_18 : decode cX12_closesSums 18 = .ok (.ifCond .eq 41, 3) := by decide +kernel
theorem dX12_closesSums_21 : decode cX12_closesSums 21 = .ok (.aload_n 0, 1) := by decide +kernel
theorem dX12_closesSums_22 : decode cX12_closesSums 22 = .ok (.invokevirtual 243, 3) := by decide +kernel
theorem dX12_closesSums_25 : decode cX12_closesSums 25 = .ok (.iconst 2, 1) := by decide +kernel
theorem dX12_closesSums_26 : decode cX12_closesSums 26 = .ok (.if_icmp .eq 11, 3) := by decide +kernel
theorem dX12_closesSums_29 : decode cX12_closesSums 29 = .ok (.aload_n 0, 1) := by decide +kernel
theorem dX12_closesSums_30 : decode cX12_closesSums 30 = .ok (.invokevirtual 243, 3) := by decide +kernel
theorem dX12_closesSums_33 : decode cX12_closesSums 33 = .ok (.iconst 3, 1) := by decide +kernel
theorem dX12_closesSums_34 : decode cX12_closesSums 34 = .ok (.if_icmp .ne 25, 3) := by decide +kernel
theorem dX12_closesSums_37 : decode cX12_closesSums 37 = .ok (.aload_n 0, 1) := by decide +kernel
theorem dX12_closesSums_38 : decode cX12_closesSums 38 = .ok (.aload_n 0, 1) := by decide +kernel
theorem dX12_closesSums_39 : decode cX12_closesSums 39 = .ok (.invokevirtual 243, 3) := by decide +kernel
theorem dX12_closesSums_42 : decode cX12_closesSums 42 = .ok (.iconst 0, 1) := by decide +kernel
theorem dX12_closesSums_43 : decode cX12_closesSums 43 = .ok (.invokevirtual 246, 3) := by decide +kernel
theorem dX12_closesSums_46 : decode cX12_closesSums 46 = .ok (.aload_n 0, 1) := by decide +kernel
theorem dX12_closesSums_47 : decode cX12_closesSums 47 = .ok (.aload_n 0, 1) := by decide +kernel
theorem dX12_closesSums_48 : decode cX12_closesSums 48 = .ok (.getfield 240, 3) := by decide +kernel
theorem dX12_closesSums_51 : decode cX12_closesSums 51 = .ok (.iconst 1, 1) := by decide +kernel
theorem dX12_closesSums_52 : decode cX12_closesSums 52 = .ok (.isub, 1) := by decide +kernel
theorem dX12_closesSums_53 : decode cX12_closesSums 53 = .ok (.putfield 240, 3) := by decide +kernel
theorem dX12_closesSums_56 : decode cX12_closesSums 56 = .ok (.goto (-56), 3) := by decide +kernel
theorem dX12_closesSums_59 : decode cX12_closesSums 59 = .ok (.return_, 1) := by decide +kernel
theorem dX12_readsFactor_0 : decode cX12_readsFactor 0 = .ok (.aload_n 0, 1) := by decide +kernel
theorem dX12_readsFactor_1 : decode cX12_readsFactor 1 = .ok (.invokevirtual 216, 3) := by decide +kernel
theorem dX12_readsFactor_4 : decode cX12_readsFactor 4 = .ok (.bipush 91, 2) := by decide +kernel
theorem dX12_readsFactor_6 : decode cX12_readsFactor 6 = .ok (.if_icmp .ne 14, 3) := by decide +kernel
theorem dX12_readsFactor_9 : decode cX12_readsFactor 9 = .ok (.aload_n 0, 1) := by decide +kernel
theorem dX12_readsFactor_10 : decode cX12_readsFactor 10 = .ok (.bipush 14, 2) := by decide +kernel
theorem dX12_readsFactor_12 : decode cX12_readsFactor 12 = .ok (.invokevirtual 250, 3) := by decide +kernel
theorem dX12_readsFactor_15 : decode cX12_readsFactor 15 = .ok (.ifCond .ne (-15), 3) := by decide +kernel
theorem dX12_readsFactor_18 : decode cX12_readsFactor 18 = .ok (.iconst 0, 1) := by decide +kernel
theorem dX12_readsFactor_19 : decode cX12_readsFactor 19 = .ok (.ireturn, 1) := by decide +kernel
theorem dX12_readsFactor_20 : decode cX12_readsFactor 20 = .ok (.aload_n 0, 1) := by decide +kernel
theorem dX12_readsFactor_21 : decode cX12_readsFactor 21 = .ok (.invokevirtual 229, 3) := by decide +kernel
theorem dX12_readsFactor_24 : decode cX12_readsFactor 24 = .ok (.ifCond .eq 23, 3) := by decide +kernel
theorem dX12_readsFactor_27 : decode cX12_readsFactor 27 = .ok (.aload_n 0, 1) := by decide +kernel
theorem dX12_readsFactor_28 : decode cX12_readsFactor 28 = .ok (.invokevirtual 253, 3) := by decide +kernel
theorem dX12_readsFactor_31 : decode cX12_readsFactor 31 = .ok (.ifCond .ne 5, 3) := by decide +kernel
theorem dX12_readsFactor_34 : decode cX12_readsFactor 34 = .ok (.iconst 0, 1) := by decide +kernel
theorem dX12_readsFactor_35 : decode cX12_readsFactor 35 = .ok (.ireturn, 1) := by decide +kernel
theorem dX12_readsFactor_36 : decode cX12_readsFactor 36 = .ok (.aload_n 0, 1) := by decide +kernel
theorem dX12_readsFactor_37 : decode cX12_readsFactor 37 = .ok (.iconst 0, 1) := by decide +kernel
theorem dX12_readsFactor_38 : decode cX12_readsFactor 38 = .ok (.aload_n 0, 1) := by decide +kernel
theorem dX12_readsFactor_39 : decode cX12_readsFactor 39 = .ok (.getfield 226, 3) := by decide +kernel
theorem dX12_readsFactor_42 : decode cX12_readsFactor 42 = .ok (.invokevirtual 246, 3) := by decide +kernel
theorem dX12_readsFactor_45 : decode cX12_readsFactor 45 = .ok (.iconst 1, 1) := by decide +kernel
theorem dX12_readsFactor_46 : decode cX12_readsFactor 46 = .ok (.ireturn, 1) := by decide +kernel
theorem dX12_readsFactor_47 : decode cX12_readsFactor 47 = .ok (.aload_n 0, 1) := by decide +kernel
theorem dX12_readsFactor_48 : decode cX12_readsFactor 48 = .ok (.invokevirtual 216, 3) := by decide +kernel
theorem dX12_readsFactor_51 : decode cX12_readsFactor 51 = .ok (.invokestatic 256, 3) := by decide +kernel
theorem dX12_readsFactor_54 : decode cX12_readsFactor 54 = .ok (.istore_n 1, 1) := by decide +kernel
theorem dX12_readsFactor_55 : decode cX12_readsFactor 55 = .ok (.iload_n 1, 1) := by decide +kernel
theorem dX12_readsFactor_56 : decode cX12_readsFactor 56 = .ok (.iconst (-1), 1) := by decide +kernel
theorem dX12_readsFactor_57 : decode cX12_readsFactor 57 = .ok (.if_icmp .ne 13, 3) := by decide +kernel
theorem dX12_readsFactor_60 : decode cX12_readsFactor 60 = .ok (.aload_n 0, 1) := by decide +kernel
theorem dX12_readsFactor_61 : decode cX12_readsFactor 61 = .ok (.iconst 1, 1) := by decide +kernel
theorem dX12_readsFactor_62 : decode cX12_readsFactor 62 = .ok (.aload_n 0, 1) := by decide +kernel
theorem dX12_readsFactor_63 : decode cX12_readsFactor 63 = .ok (.getfield 210, 3) := by decide +kernel
theorem dX12_readsFactor_66 : decode cX12_readsFactor 66 = .ok (.invokevirtual 223, 3) := by decide +kernel
theorem dX12_readsFactor_69 : decode cX12_readsFactor 69 = .ok (.ireturn, 1) := by decide +kernel
theorem dX12_readsFactor_70 : decode cX12_readsFactor 70 = .ok (.aload_n 0, 1) := by decide +kernel
theorem dX12_readsFactor_71 : decode cX12_readsFactor 71 = .ok (.iconst 1, 1) := by decide +kernel
theorem dX12_readsFactor_72 : decode cX12_readsFactor 72 = .ok (.iload_n 1, 1) := by decide +kernel
theorem dX12_readsFactor_73 : decode cX12_readsFactor 73 = .ok (.invokevirtual 246, 3) := by decide +kernel
theorem dX12_readsFactor_76 : decode cX12_readsFactor 76 = .ok (.aload_n 0, 1) := by decide +kernel
theorem dX12_readsFactor_77 : decode cX12_readsFactor 77 = .ok (.aload_n 0, 1) := by decide +kernel
theorem dX12_readsFactor_78 : decode cX12_readsFactor 78 = .ok (.getfield 210, 3) := by decide +kernel
theorem dX12_readsFactor_81 : decode cX12_readsFactor 81 = .ok (.iconst 1, 1) := by decide +kernel
theorem dX12_readsFactor_82 : decode cX12_readsFactor 82 = .ok (.iadd, 1) := by decide +kernel
theorem dX12_readsFactor_83 : decode cX12_readsFactor 83 = .ok (.putfield 210, 3) := by decide +kernel
theorem dX12_readsFactor_86 : decode cX12_readsFactor 86 = .ok (.iconst 1, 1) := by decide +kernel
theorem dX12_readsFactor_87 : decode cX12_readsFactor 87 = .ok (.ireturn, 1) := by decide +kernel
theorem dX12_hasOpenSum_0 : decode cX12_hasOpenSum 0 = .ok (.iload_n 1, 1) := by decide +kernel
theorem dX12_hasOpenSum_1 : decode cX12_hasOpenSum 1 = .ok (.istore_n 2, 1) := by decide +kernel
theorem dX12_hasOpenSum_2 : decode cX12_hasOpenSum 2 = .ok (.iload_n 2, 1) := by decide +kernel
theorem dX12_hasOpenSum_3 : decode cX12_hasOpenSum 3 = .ok (.aload_n 0, 1) := by decide +kernel
theorem dX12_hasOpenSum_4 : decode cX12_hasOpenSum 4 = .ok (.getfield 240, 3) := by decide +kernel
theorem dX12_hasOpenSum_7 : decode cX12_hasOpenSum 7 = .ok (.if_icmp .ge 25, 3) := by decide +kernel
theorem dX12_hasOpenSum_10 : decode cX12_hasOpenSum 10 = .ok (.aload_n 0, 1) := by decide +kernel
theorem dX12_hasOpenSum_11 : decode cX12_hasOpenSum 11 = .ok (.getfield 36, 3) := by decide +kernel
theorem dX12_hasOpenSum_14 : decode cX12_hasOpenSum 14 = .ok (.iload_n 2, 1) := by decide +kernel
theorem dX12_hasOpenSum_15 : decode cX12_hasOpenSum 15 = .ok (.iaload, 1) := by decide +kernel
theorem dX12_hasOpenSum_16 : decode cX12_hasOpenSum 16 = .ok (.ldc 236, 2) := by decide +kernel
theorem dX12_hasOpenSum_18 : decode cX12_hasOpenSum 18 = .ok (.idiv, 1) := by decide +kernel
theorem dX12_hasOpenSum_19 : decode cX12_hasOpenSum 19 = .ok (.bipush 14, 2) := by decide +kernel
theorem dX12_hasOpenSum_21 : decode cX12_hasOpenSum 21 = .ok (.if_icmp .ne 5, 3) := by decide +kernel
theorem dX12_hasOpenSum_24 : decode cX12_hasOpenSum 24 = .ok (.iconst 1, 1) := by decide +kernel
theorem dX12_hasOpenSum_25 : decode cX12_hasOpenSum 25 = .ok (.ireturn, 1) := by decide +kernel
theorem dX12_hasOpenSum_26 : decode cX12_hasOpenSum 26 = .ok (.iinc 2 1, 3) := by decide +kernel
theorem dX12_hasOpenSum_29 : decode cX12_hasOpenSum 29 = .ok (.goto (-27), 3) := by decide +kernel
theorem dX12_hasOpenSum_32 : decode cX12_hasOpenSum 32 = .ok (.iconst 0, 1) := by decide +kernel
theorem dX12_hasOpenSum_33 : decode cX12_hasOpenSum 33 = .ok (.ireturn, 1) := by decide +kernel
theorem dX12_readsSum_0 : decode cX12_readsSum 0 = .ok (.aload_n 0, 1) := by decide +kernel
theorem dX12_readsSum_1 : decode cX12_readsSum 1 = .ok (.getfield 240, 3) := by decide +kernel
theorem dX12_readsSum_4 : decode cX12_readsSum 4 = .ok (.istore_n 1, 1) := by decide +kernel
theorem dX12_readsSum_5 : decode cX12_readsSum 5 = .ok (.aload_n 0, 1) := by decide +kernel
theorem dX12_readsSum_6 : decode cX12_readsSum 6 = .ok (.invokevirtual 259, 3) := by decide +kernel
theorem dX12_readsSum_9 : decode cX12_readsSum 9 = .ok (.ifCond .ne 5, 3) := by decide +kernel
theorem dX12_readsSum_12 : decode cX12_readsSum 12 = .ok (.iconst 0, 1) := by decide +kernel
theorem dX12_readsSum_13 : decode cX12_readsSum 13 = .ok (.ireturn, 1) := by decide +kernel
theorem dX12_readsSum_14 : decode cX12_readsSum 14 = .ok (.aload_n 0, 1) := by decide +kernel
theorem dX12_readsSum_15 : decode cX12_readsSum 15 = .ok (.invokevirtual 216, 3) := by decide +kernel
theorem dX12_readsSum_18 : decode cX12_readsSum 18 = .ok (.invokestatic 262, 3) := by decide +kernel
theorem dX12_readsSum_21 : decode cX12_readsSum 21 = .ok (.istore_n 2, 1) := by decide +kernel
theorem dX12_readsSum_22 : decode cX12_readsSum 22 = .ok (.iload_n 2, 1) := by decide +kernel
theorem dX12_readsSum_23 : decode cX12_readsSum 23 = .ok (.iconst (-1), 1) := by decide +kernel
theorem dX12_readsSum_24 : decode cX12_readsSum 24 = .ok (.if_icmp .eq 59, 3) := by decide +kernel
theorem dX12_readsSum_27 : decode cX12_readsSum 27 = .ok (.aload_n 0, 1) := by decide +kernel
theorem dX12_readsSum_28 : decode cX12_readsSum 28 = .ok (.iload_n 2, 1) := by decide +kernel
theorem dX12_readsSum_29 : decode cX12_readsSum 29 = .ok (.iconst 4, 1) := by decide +kernel
theorem dX12_readsSum_30 : decode cX12_readsSum 30 = .ok (.if_icmp .ge 7, 3) := by decide +kernel
theorem dX12_readsSum_33 : decode cX12_readsSum 33 = .ok (.iconst 1, 1) := by decide +kernel
theorem dX12_readsSum_34 : decode cX12_readsSum 34 = .ok (.goto 4, 3) := by decide +kernel
theorem dX12_readsSum_37 : decode cX12_readsSum 37 = .ok (.iconst 0, 1) := by decide +kernel
theorem dX12_readsSum_38 : decode cX12_readsSum 38 = .ok (.invokevirtual 265, 3) := by decide +kernel
theorem dX12_readsSum_41 : decode cX12_readsSum 41 = .ok (.aload_n 0, 1) := by decide +kernel
theorem dX12_readsSum_42 : decode cX12_readsSum 42 = .ok (.getfield 36, 3) := by decide +kernel
theorem dX12_readsSum_45 : decode cX12_readsSum 45 = .ok (.aload_n 0, 1) := by decide +kernel
theorem dX12_readsSum_46 : decode cX12_readsSum 46 = .ok (.getfield 240, 3) := by decide +kernel
theorem dX12_readsSum_49 : decode cX12_readsSum 49 = .ok (.ldc 236, 2) := by decide +kernel
theorem dX12_readsSum_51 : decode cX12_readsSum 51 = .ok (.iload_n 2, 1) := by decide +kernel
theorem dX12_readsSum_52 : decode cX12_readsSum 52 = .ok (.imul, 1) := by decide +kernel
theorem dX12_readsSum_53 : decode cX12_readsSum 53 = .ok (.iastore, 1) := by decide +kernel
theorem dX12_readsSum_54 : decode cX12_readsSum 54 = .ok (.aload_n 0, 1) := by decide +kernel
theorem dX12_readsSum_55 : decode cX12_readsSum 55 = .ok (.aload_n 0, 1) := by decide +kernel
theorem dX12_readsSum_56 : decode cX12_readsSum 56 = .ok (.getfield 240, 3) := by decide +kernel
theorem dX12_readsSum_59 : decode cX12_readsSum 59 = .ok (.iconst 1, 1) := by decide +kernel
theorem dX12_readsSum_60 : decode cX12_readsSum 60 = .ok (.iadd, 1) := by decide +kernel
theorem dX12_readsSum_61 : decode cX12_readsSum 61 = .ok (.putfield 240, 3) := by decide +kernel
theorem dX12_readsSum_64 : decode cX12_readsSum 64 = .ok (.aload_n 0, 1) := by decide +kernel
theorem dX12_readsSum_65 : decode cX12_readsSum 65 = .ok (.aload_n 0, 1) := by decide +kernel
theorem dX12_readsSum_66 : decode cX12_readsSum 66 = .ok (.getfield 210, 3) := by decide +kernel
theorem dX12_readsSum_69 : decode cX12_readsSum 69 = .ok (.iconst 1, 1) := by decide +kernel
theorem dX12_readsSum_70 : decode cX12_readsSum 70 = .ok (.iadd, 1) := by decide +kernel
theorem dX12_readsSum_71 : decode cX12_readsSum 71 = .ok (.putfield 210, 3) := by decide +kernel
theorem dX12_readsSum_74 : decode cX12_readsSum 74 = .ok (.aload_n 0, 1) := by decide +kernel
theorem dX12_readsSum_75 : decode cX12_readsSum 75 = .ok (.invokevirtual 259, 3) := by decide +kernel
theorem dX12_readsSum_78 : decode cX12_readsSum 78 = .ok (.ifCond .ne 85, 3) := by decide +kernel
theorem dX12_readsSum_81 : decode cX12_readsSum 81 = .ok (.iconst 0, 1) := by decide +kernel
theorem dX12_readsSum_82 : decode cX12_readsSum 82 = .ok (.ireturn, 1) := by decide +kernel
theorem dX12_readsSum_83 : decode cX12_readsSum 83 = .ok (.aload_n 0, 1) := by decide +kernel
theorem dX12_readsSum_84 : decode cX12_readsSum 84 = .ok (.invokevirtual 216, 3) := by decide +kernel
theorem dX12_readsSum_87 : decode cX12_readsSum 87 = .ok (.bipush 93, 2) := by decide +kernel
theorem dX12_readsSum_89 : decode cX12_readsSum 89 = .ok (.if_icmp .ne 49, 3) := by decide +kernel
theorem dX12_readsSum_92 : decode cX12_readsSum 92 = .ok (.aload_n 0, 1) := by decide +kernel
theorem dX12_readsSum_93 : decode cX12_readsSum 93 = .ok (.iload_n 1, 1) := by decide +kernel
theorem dX12_readsSum_94 : decode cX12_readsSum 94 = .ok (.invokevirtual 269, 3) := by decide +kernel
theorem dX12_readsSum_97 : decode cX12_readsSum 97 = .ok (.ifCond .eq 41, 3) := by decide +kernel
theorem dX12_readsSum_100 : decode cX12_readsSum 100 = .ok (.aload_n 0, 1) := by decide +kernel
theorem dX12_readsSum_101 : decode cX12_readsSum 101 = .ok (.iconst 1, 1) := by decide +kernel
theorem dX12_readsSum_102 : decode cX12_readsSum 102 = .ok (.invokevirtual 265, 3) := by decide +kernel
theorem dX12_readsSum_105 : decode cX12_readsSum 105 = .ok (.aload_n 0, 1) := by decide +kernel
theorem dX12_readsSum_106 : decode cX12_readsSum 106 = .ok (.aload_n 0, 1) := by decide +kernel
theorem dX12_readsSum_107 : decode cX12_readsSum 107 = .ok (.getfield 240, 3) := by decide +kernel
theorem dX12_readsSum_110 : decode cX12_readsSum 110 = .ok (.iconst 1, 1) := by decide +kernel
theorem dX12_readsSum_111 : decode cX12_readsSum 111 = .ok (.isub, 1) := by decide +kernel
theorem dX12_readsSum_112 : decode cX12_readsSum 112 = .ok (.putfield 240, 3) := by decide +kernel
theorem dX12_readsSum_115 : decode cX12_readsSum 115 = .ok (.aload_n 0, 1) := by decide +kernel
theorem dX12_readsSum_116 : decode cX12_readsSum 116 = .ok (.aload_n 0, 1) := by decide +kernel
theorem dX12_readsSum_117 : decode cX12_readsSum 117 = .ok (.getfield 237, 3) := by decide +kernel
theorem dX12_readsSum_120 : decode cX12_readsSum 120 = .ok (.iconst 1, 1) := by decide +kernel
theorem dX12_readsSum_121 : decode cX12_readsSum 121 = .ok (.isub, 1) := by decide +kernel
theorem dX12_readsSum_122 : decode cX12_readsSum 122 = .ok (.putfield 237, 3) := by decide +kernel
theorem dX12_readsSum_125 : decode cX12_readsSum 125 = .ok (.aload_n 0, 1) := by decide +kernel
theorem dX12_readsSum_126 : decode cX12_readsSum 126 = .ok (.aload_n 0, 1) := by decide +kernel
theorem dX12_readsSum_127 : decode cX12_readsSum 127 = .ok (.getfield 210, 3) := by decide +kernel
theorem dX12_readsSum_130 : decode cX12_readsSum 130 = .ok (.iconst 1, 1) := by decide +kernel
theorem dX12_readsSum_131 : decode cX12_readsSum 131 = .ok (.iadd, 1) := by decide +kernel
theorem dX12_readsSum_132 : decode cX12_readsSum 132 = .ok (.putfield 210, 3) := by decide +kernel
theorem dX12_readsSum_135 : decode cX12_readsSum 135 = .ok (.goto 28, 3) := by decide +kernel
theorem dX12_readsSum_138 : decode cX12_readsSum 138 = .ok (.aload_n 0, 1) := by decide +kernel
theorem dX12_readsSum_139 : decode cX12_readsSum 139 = .ok (.iload_n 1, 1) := by decide +kernel
theorem dX12_readsSum_140 : decode cX12_readsSum 140 = .ok (.invokevirtual 269, 3) := by decide +kernel
theorem dX12_readsSum_143 : decode cX12_readsSum 143 = .ok (.ifCond .eq 13, 3) := by decide +kernel
theorem dX12_readsSum_146 : decode cX12_readsSum 146 = .ok (.aload_n 0, 1) := by decide +kernel
theorem dX12_readsSum_147 : decode cX12_readsSum 147 = .ok (.iconst 1, 1) := by decide +kernel
theorem dX12_readsSum_148 : decode cX12_readsSum 148 = .ok (.aload_n 0, 1) := by decide +kernel
theorem dX12_readsSum_149 : decode cX12_readsSum 149 = .ok (.getfield 210, 3) := by decide +kernel
theorem dX12_readsSum_152 : decode cX12_readsSum 152 = .ok (.invokevirtual 223, 3) := by decide +kernel
theorem dX12_readsSum_155 : decode cX12_readsSum 155 = .ok (.ireturn, 1) := by decide +kernel
theorem dX12_readsSum_156 : decode cX12_readsSum 156 = .ok (.aload_n 0, 1) := by decide +kernel
theorem dX12_readsSum_157 : decode cX12_readsSum 157 = .ok (.iconst 1, 1) := by decide +kernel
theorem dX12_readsSum_158 : decode cX12_readsSum 158 = .ok (.invokevirtual 265, 3) := by decide +kernel
theorem dX12_readsSum_161 : decode cX12_readsSum 161 = .ok (.iconst 1, 1) := by decide +kernel
theorem dX12_readsSum_162 : decode cX12_readsSum 162 = .ok (.ireturn, 1) := by decide +kernel
theorem dX12_readsSum_163 : decode cX12_readsSum 163 = .ok (.goto (-149), 3) := by decide +kernel
theorem dX12_endsPiece_0 : decode cX12_endsPiece 0 = .ok (.aload_n 0, 1) := by decide +kernel
theorem dX12_endsPiece_1 : decode cX12_endsPiece 1 = .ok (.invokevirtual 243, 3) := by decide +kernel
theorem dX12_endsPiece_4 : decode cX12_endsPiece 4 = .ok (.bipush 10, 2) := by decide +kernel
theorem dX12_endsPiece_6 : decode cX12_endsPiece 6 = .ok (.if_icmp .ne 33, 3) := by decide +kernel
theorem dX12_endsPiece_9 : decode cX12_endsPiece 9 = .ok (.aload_n 0, 1) := by decide +kernel
theorem dX12_endsPiece_10 : decode cX12_endsPiece 10 = .ok (.bipush 10, 2) := by decide +kernel
theorem dX12_endsPiece_12 : decode cX12_endsPiece 12 = .ok (.iconst 0, 1) := by decide +kernel
theorem dX12_endsPiece_13 : decode cX12_endsPiece 13 = .ok (.invokevirtual 246, 3) := by decide +kernel
theorem dX12_endsPiece_16 : decode cX12_endsPiece 16 = .ok (.aload_n 0, 1) := by decide +kernel
theorem dX12_endsPiece_17 : decode cX12_endsPiece 17 = .ok (.aload_n 0, 1) := by decide +kernel
theorem dX12_endsPiece_18 : decode cX12_endsPiece 18 = .ok (.getfield 240, 3) := by decide +kernel
theorem dX12_endsPiece_21 : decode cX12_endsPiece 21 = .ok (.iconst 1, 1) := by decide +kernel
theorem dX12_endsPiece_22 : decode cX12_endsPiece 22 = .ok (.isub, 1) := by decide +kernel
theorem dX12_endsPiece_23 : decode cX12_endsPiece 23 = .ok (.putfield 240, 3) := by decide +kernel
theorem dX12_endsPiece_26 : decode cX12_endsPiece 26 = .ok (.aload_n 0, 1) := by decide +kernel
theorem dX12_endsPiece_27 : decode cX12_endsPiece 27 = .ok (.aload_n 0, 1) := by decide +kernel
theorem dX12_endsPiece_28 : decode cX12_endsPiece 28 = .ok (.getfield 237, 3) := by decide +kernel
theorem dX12_endsPiece_31 : decode cX12_endsPiece 31 = .ok (.iconst 1, 1) := by decide +kernel
theorem dX12_endsPiece_32 : decode cX12_endsPiece 32 = .ok (.isub, 1) := by decide +kernel
theorem dX12_endsPiece_33 : decode cX12_endsPiece 33 = .ok (.putfield 237, 3) := by decide +kernel
theorem dX12_endsPiece_36 : decode cX12_endsPiece 36 = .ok (.goto (-36), 3) := by decide +kernel
theorem dX12_endsPiece_39 : decode cX12_endsPiece 39 = .ok (.return_, 1) := by decide +kernel
theorem dX12_lands_0 : decode cX12_lands 0 = .ok (.aload_n 0, 1) := by decide +kernel
theorem dX12_lands_1 : decode cX12_lands 1 = .ok (.invokevirtual 243, 3) := by decide +kernel
theorem dX12_lands_4 : decode cX12_lands 4 = .ok (.bipush 11, 2) := by decide +kernel
theorem dX12_lands_6 : decode cX12_lands 6 = .ok (.if_icmp .eq 16, 3) := by decide +kernel
theorem dX12_lands_9 : decode cX12_lands 9 = .ok (.iload_n 1, 1) := by decide +kernel
theorem dX12_lands_10 : decode cX12_lands 10 = .ok (.ifCond .eq 63, 3) := by decide +kernel
theorem dX12_lands_13 : decode cX12_lands 13 = .ok (.aload_n 0, 1) := by decide +kernel
theorem dX12_lands_14 : decode cX12_lands 14 = .ok (.invokevirtual 243, 3) := by decide +kernel
theorem dX12_lands_17 : decode cX12_lands 17 = .ok (.bipush 12, 2) := by decide +kernel
theorem dX12_lands_19 : decode cX12_lands 19 = .ok (.if_icmp .ne 54, 3) := by decide +kernel
theorem dX12_lands_22 : decode cX12_lands 22 = .ok (.aload_n 0, 1) := by decide +kernel
theorem dX12_lands_23 : decode cX12_lands 23 = .ok (.getfield 36, 3) := by decide +kernel
theorem dX12_lands_26 : decode cX12_lands 26 = .ok (.aload_n 0, 1) := by decide +kernel
theorem dX12_lands_27 : decode cX12_lands 27 = .ok (.getfield 240, 3) := by decide +kernel
theorem dX12_lands_30 : decode cX12_lands 30 = .ok (.iconst 1, 1) := by decide +kernel
theorem dX12_lands_31 : decode cX12_lands 31 = .ok (.isub, 1) := by decide +kernel
theorem dX12_lands_32 : decode cX12_lands 32 = .ok (.iaload, 1) := by decide +kernel
theorem dX12_lands_33 : decode cX12_lands 33 = .ok (.ldc 236, 2) := by decide +kernel
theorem dX12_lands_35 : decode cX12_lands 35 = .ok (.irem, 1) := by decide +kernel
theorem dX12_lands_36 : decode cX12_lands 36 = .ok (.istore_n 2, 1) := by decide +kernel
theorem dX12_lands_37 : decode cX12_lands 37 = .ok (.aload_n 0, 1) := by decide +kernel
theorem dX12_lands_38 : decode cX12_lands 38 = .ok (.getfield 33, 3) := by decide +kernel
theorem dX12_lands_41 : decode cX12_lands 41 = .ok (.iload_n 2, 1) := by decide +kernel
theorem dX12_lands_42 : decode cX12_lands 42 = .ok (.ldc 236, 2) := by decide +kernel
theorem dX12_lands_44 : decode cX12_lands 44 = .ok (.aload_n 0, 1) := by decide +kernel
theorem dX12_lands_45 : decode cX12_lands 45 = .ok (.getfield 33, 3) := by decide +kernel
theorem dX12_lands_48 : decode cX12_lands 48 = .ok (.iload_n 2, 1) := by decide +kernel
theorem dX12_lands_49 : decode cX12_lands 49 = .ok (.iaload, 1) := by decide +kernel
theorem dX12_lands_50 : decode cX12_lands 50 = .ok (.ldc 236, 2) := by decide +kernel
theorem dX12_lands_52 : decode cX12_lands 52 = .ok (.idiv, 1) := by decide +kernel
theorem dX12_lands_53 : decode cX12_lands 53 = .ok (.imul, 1) := by decide +kernel
theorem dX12_lands_54 : decode cX12_lands 54 = .ok (.aload_n 0, 1) := by decide +kernel
theorem dX12_lands_55 : decode cX12_lands 55 = .ok (.getfield 233, 3) := by decide +kernel
theorem dX12_lands_58 : decode cX12_lands 58 = .ok (.iadd, 1) := by decide +kernel
theorem dX12_lands_59 : decode cX12_lands 59 = .ok (.iastore, 1) := by decide +kernel
theorem dX12_lands_60 : decode cX12_lands 60 = .ok (.aload_n 0, 1) := by decide +kernel
theorem dX12_lands_61 : decode cX12_lands 61 = .ok (.aload_n 0, 1) := by decide +kernel
theorem dX12_lands_62 : decode cX12_lands 62 = .ok (.getfield 240, 3) := by decide +kernel
theorem dX12_lands_65 : decode cX12_lands 65 = .ok (.iconst 1, 1) := by decide +kernel
theorem dX12_lands_66 : decode cX12_lands 66 = .ok (.isub, 1) := by decide +kernel
theorem dX12_lands_67 : decode cX12_lands 67 = .ok (.putfield 240, 3) := by decide +kernel
theorem dX12_lands_70 : decode cX12_lands 70 = .ok (.goto (-70), 3) := by decide +kernel
theorem dX12_lands_73 : decode cX12_lands 73 = .ok (.return_, 1) := by decide +kernel
theorem dX12_jumps_0 : decode cX12_jumps 0 = .ok (.aload_n 0, 1) := by decide +kernel
theorem dX12_jumps_1 : decode cX12_jumps 1 = .ok (.getfield 36, 3) := by decide +kernel
theorem dX12_jumps_4 : decode cX12_jumps 4 = .ok (.aload_n 0, 1) := by decide +kernel
theorem dX12_jumps_5 : decode cX12_jumps 5 = .ok (.getfield 240, 3) := by decide +kernel
theorem dX12_jumps_8 : decode cX12_jumps 8 = .ok (.ldc 236, 2) := by decide +kernel
theorem dX12_jumps_10 : decode cX12_jumps 10 = .ok (.iload_n 1, 1) := by decide +kernel
theorem dX12_jumps_11 : decode cX12_jumps 11 = .ok (.imul, 1) := by decide +kernel
theorem dX12_jumps_12 : decode cX12_jumps 12 = .ok (.aload_n 0, 1) := by decide +kernel
theorem dX12_jumps_13 : decode cX12_jumps 13 = .ok (.getfield 233, 3) := by decide +kernel
theorem dX12_jumps_16 : decode cX12_jumps 16 = .ok (.iadd, 1) := by decide +kernel
theorem dX12_jumps_17 : decode cX12_jumps 17 = .ok (.iastore, 1) := by decide +kernel
theorem dX12_jumps_18 : decode cX12_jumps 18 = .ok (.aload_n 0, 1) := by decide +kernel
theorem dX12_jumps_19 : decode cX12_jumps 19 = .ok (.aload_n 0, 1) := by decide +kernel
theorem dX12_jumps_20 : decode cX12_jumps 20 = .ok (.getfield 240, 3) := by decide +kernel
theorem dX12_jumps_23 : decode cX12_jumps 23 = .ok (.iconst 1, 1) := by decide +kernel
theorem dX12_jumps_24 : decode cX12_jumps 24 = .ok (.iadd, 1) := by decide +kernel
theorem dX12_jumps_25 : decode cX12_jumps 25 = .ok (.putfield 240, 3) := by decide +kernel
theorem dX12_jumps_28 : decode cX12_jumps 28 = .ok (.aload_n 0, 1) := by decide +kernel
theorem dX12_jumps_29 : decode cX12_jumps 29 = .ok (.iload_n 1, 1) := by decide +kernel
theorem dX12_jumps_30 : decode cX12_jumps 30 = .ok (.iconst 0, 1) := by decide +kernel
theorem dX12_jumps_31 : decode cX12_jumps 31 = .ok (.invokevirtual 246, 3) := by decide +kernel
theorem dX12_jumps_34 : decode cX12_jumps 34 = .ok (.aload_n 0, 1) := by decide +kernel
theorem dX12_jumps_35 : decode cX12_jumps 35 = .ok (.aload_n 0, 1) := by decide +kernel
theorem dX12_jumps_36 : decode cX12_jumps 36 = .ok (.getfield 210, 3) := by decide +kernel
theorem dX12_jumps_39 : decode cX12_jumps 39 = .ok (.iconst 1, 1) := by decide +kernel
theorem dX12_jumps_40 : decode cX12_jumps 40 = .ok (.iadd, 1) := by decide +kernel
theorem dX12_jumps_41 : decode cX12_jumps 41 = .ok (.putfield 210, 3) := by decide +kernel
theorem dX12_jumps_44 : decode cX12_jumps 44 = .ok (.return_, 1) := by decide +kernel
theorem dX12_readsCompared_0 : decode cX12_readsCompared 0 = .ok (.aload_n 0, 1) := by decide +kernel
theorem dX12_readsCompared_1 : decode cX12_readsCompared 1 = .ok (.invokevirtual 272, 3) := by decide +kernel
theorem dX12_readsCompared_4 : decode cX12_readsCompared 4 = .ok (.ifCond .ne 5, 3) := by decide +kernel
theorem dX12_readsCompared_7 : decode cX12_readsCompared 7 = .ok (.iconst 0, 1) := by decide +kernel
theorem dX12_readsCompared_8 : decode cX12_readsCompared 8 = .ok (.ireturn, 1) := by decide +kernel
theorem dX12_readsCompared_9 : decode cX12_readsCompared 9 = .ok (.aload_n 0, 1) := by decide +kernel
theorem dX12_readsCompared_10 : decode cX12_readsCompared 10 = .ok (.invokevirtual 216, 3) := by decide +kernel
theorem dX12_readsCompared_13 : decode cX12_readsCompared 13 = .ok (.bipush 60, 2) := by decide +kernel
theorem dX12_readsCompared_15 : decode cX12_readsCompared 15 = .ok (.if_icmp .ne 8, 3) := by decide +kernel
theorem dX12_readsCompared_18 : decode cX12_readsCompared 18 = .ok (.bipush 7, 2) := by decide +kernel
theorem dX12_readsCompared_20 : decode cX12_readsCompared 20 = .ok (.goto 32, 3) := by decide +kernel
theorem dX12_readsCompared_23 : decode cX12_readsCompared 23 = .ok (.aload_n 0, 1) := by decide +kernel
theorem dX12_readsCompared_24 : decode cX12_readsCompared 24 = .ok (.invokevirtual 216, 3) := by decide +kernel
theorem dX12_readsCompared_27 : decode cX12_readsCompared 27 = .ok (.bipush 62, 2) := by decide +kernel
theorem dX12_readsCompared_29 : decode cX12_readsCompared 29 = .ok (.if_icmp .ne 8, 3) := by decide +kernel
theorem dX12_readsCompared_32 : decode cX12_readsCompared 32 = .ok (.bipush 8, 2) := by decide +kernel
theorem dX12_readsCompared_34 : decode cX12_readsCompared 34 = .ok (.goto 18, 3) := by decide +kernel
theorem dX12_readsCompared_37 : decode cX12_readsCompared 37 = .ok (.aload_n 0, 1) := by decide +kernel
theorem dX12_readsCompared_38 : decode cX12_readsCompared 38 = .ok (.invokevirtual 216, 3) := by decide +kernel
theorem dX12_readsCompared_41 : decode cX12_readsCompared 41 = .ok (.bipush 61, 2) := by decide +kernel
theorem dX12_readsCompared_43 : decode cX12_readsCompared 43 = .ok (.if_icmp .ne 8, 3) := by decide +kernel
theorem dX12_readsCompared_46 : decode cX12_readsCompared 46 = .ok (.bipush 9, 2) := by decide +kernel
theorem dX12_readsCompared_48 : decode cX12_readsCompared 48 = .ok (.goto 4, 3) := by decide +kernel
theorem dX12_readsCompared_51 : decode cX12_readsCompared 51 = .ok (.iconst (-1), 1) := by decide +kernel
theorem dX12_readsCompared_52 : decode cX12_readsCompared 52 = .ok (.istore_n 1, 1) := by decide +kernel
theorem dX12_readsCompared_53 : decode cX12_readsCompared 53 = .ok (.iload_n 1, 1) := by decide +kernel
theorem dX12_readsCompared_54 : decode cX12_readsCompared 54 = .ok (.iconst (-1), 1) := by decide +kernel
theorem dX12_readsCompared_55 : decode cX12_readsCompared 55 = .ok (.if_icmp .ne 13, 3) := by decide +kernel
theorem dX12_readsCompared_58 : decode cX12_readsCompared 58 = .ok (.aload_n 0, 1) := by decide +kernel
theorem dX12_readsCompared_59 : decode cX12_readsCompared 59 = .ok (.iconst 1, 1) := by decide +kernel
theorem dX12_readsCompared_60 : decode cX12_readsCompared 60 = .ok (.aload_n 0, 1) := by decide +kernel
theorem dX12_readsCompared_61 : decode cX12_readsCompared 61 = .ok (.getfield 210, 3) := by decide +kernel
theorem dX12_readsCompared_64 : decode cX12_readsCompared 64 = .ok (.invokevirtual 223, 3) := by decide +kernel
theorem dX12_readsCompared_67 : decode cX12_readsCompared 67 = .ok (.ireturn, 1) := by decide +kernel
theorem dX12_readsCompared_68 : decode cX12_readsCompared 68 = .ok (.aload_n 0, 1) := by decide +kernel
theorem dX12_readsCompared_69 : decode cX12_readsCompared 69 = .ok (.aload_n 0, 1) := by decide +kernel
theorem dX12_readsCompared_70 : decode cX12_readsCompared 70 = .ok (.getfield 210, 3) := by decide +kernel
theorem dX12_readsCompared_73 : decode cX12_readsCompared 73 = .ok (.iconst 1, 1) := by decide +kernel
theorem dX12_readsCompared_74 : decode cX12_readsCompared 74 = .ok (.iadd, 1) := by decide +kernel
theorem dX12_readsCompared_75 : decode cX12_readsCompared 75 = .ok (.putfield 210, 3) := by decide +kernel
theorem dX12_readsCompared_78 : decode cX12_readsCompared 78 = .ok (.aload_n 0, 1) := by decide +kernel
theorem dX12_readsCompared_79 : decode cX12_readsCompared 79 = .ok (.invokevirtual 272, 3) := by decide +kernel
theorem dX12_readsCompared_82 : decode cX12_readsCompared 82 = .ok (.ifCond .ne 5, 3) := by decide +kernel
theorem dX12_readsCompared_85 : decode cX12_readsCompared 85 = .ok (.iconst 0, 1) := by decide +kernel
theorem dX12_readsCompared_86 : decode cX12_readsCompared 86 = .ok (.ireturn, 1) := by decide +kernel
theorem dX12_readsCompared_87 : decode cX12_readsCompared 87 = .ok (.aload_n 0, 1) := by decide +kernel
theorem dX12_readsCompared_88 : decode cX12_readsCompared 88 = .ok (.iload_n 1, 1) := by decide +kernel
theorem dX12_readsCompared_89 : decode cX12_readsCompared 89 = .ok (.iconst 0, 1) := by decide +kernel
theorem dX12_readsCompared_90 : decode cX12_readsCompared 90 = .ok (.invokevirtual 246, 3) := by decide +kernel
theorem dX12_readsCompared_93 : decode cX12_readsCompared 93 = .ok (.aload_n 0, 1) := by decide +kernel
theorem dX12_readsCompared_94 : decode cX12_readsCompared 94 = .ok (.invokevirtual 275, 3) := by decide +kernel
theorem dX12_readsCompared_97 : decode cX12_readsCompared 97 = .ok (.iconst 1, 1) := by decide +kernel
theorem dX12_readsCompared_98 : decode cX12_readsCompared 98 = .ok (.ireturn, 1) := by decide +kernel
theorem dX12_readsCondition_0 : decode cX12_readsCondition 0 = .ok (.aload_n 0, 1) := by decide +kernel
theorem dX12_readsCondition_1 : decode cX12_readsCondition 1 = .ok (.invokevirtual 216, 3) := by decide +kernel
theorem dX12_readsCondition_4 : decode cX12_readsCondition 4 = .ok (.bipush 40, 2) := by decide +kernel
theorem dX12_readsCondition_6 : decode cX12_readsCondition 6 = .ok (.if_icmp .eq 13, 3) := by decide +kernel
theorem dX12_readsCondition_9 : decode cX12_readsCondition 9 = .ok (.aload_n 0, 1) := by decide +kernel
theorem dX12_readsCondition_10 : decode cX12_readsCondition 10 = .ok (.iconst 1, 1) := by decide +kernel
theorem dX12_readsCondition_11 : decode cX12_readsCondition 11 = .ok (.aload_n 0, 1) := by decide +kernel
theorem dX12_readsCondition_12 : decode cX12_readsCondition 12 = .ok (.getfield 210, 3) := by decide +kernel
theorem dX12_readsCondition_15 : decode cX12_readsCondition 15 = .ok (.invokevirtual 223, 3) := by decide +kernel
theorem dX12_readsCondition_18 : decode cX12_readsCondition 18 = .ok (.ireturn, 1) := by decide +kernel
theorem dX12_readsCondition_19 : decode cX12_readsCondition 19 = .ok (.aload_n 0, 1) := by decide +kernel
theorem dX12_readsCondition_20 : decode cX12_readsCondition 20 = .ok (.iconst 0, 1) := by decide +kernel
theorem dX12_readsCondition_21 : decode cX12_readsCondition 21 = .ok (.putfield 237, 3) := by decide +kernel
theorem dX12_readsCondition_24 : decode cX12_readsCondition 24 = .ok (.aload_n 0, 1) := by decide +kernel
theorem dX12_readsCondition_25 : decode cX12_readsCondition 25 = .ok (.iconst 0, 1) := by decide +kernel
theorem dX12_readsCondition_26 : decode cX12_readsCondition 26 = .ok (.putfield 240, 3) := by decide +kernel
theorem dX12_readsCondition_29 : decode cX12_readsCondition 29 = .ok (.aload_n 0, 1) := by decide +kernel
theorem dX12_readsCondition_30 : decode cX12_readsCondition 30 = .ok (.bipush 13, 2) := by decide +kernel
theorem dX12_readsCondition_32 : decode cX12_readsCondition 32 = .ok (.invokevirtual 250, 3) := by decide +kernel
theorem dX12_readsCondition_35 : decode cX12_readsCondition 35 = .ok (.ifCond .ne 5, 3) := by decide +kernel
theorem dX12_readsCondition_38 : decode cX12_readsCondition 38 = .ok (.iconst 0, 1) := by decide +kernel
theorem dX12_readsCondition_39 : decode cX12_readsCondition 39 = .ok (.ireturn, 1) := by decide +kernel
theorem dX12_readsCondition_40 : decode cX12_readsCondition 40 = .ok (.aload_n 0, 1) := by decide +kernel
theorem dX12_readsCondition_41 : decode cX12_readsCondition 41 = .ok (.invokevirtual 216, 3) := by decide +kernel
theorem dX12_readsCondition_44 : decode cX12_readsCondition 44 = .ok (.bipush 33, 2) := by decide +kernel
theorem dX12_readsCondition_46 : decode cX12_readsCondition 46 = .ok (.if_icmp .eq 12, 3) := by decide +kernel
theorem dX12_readsCondition_49 : decode cX12_readsCondition 49 = .ok (.aload_n 0, 1) := by decide +kernel
theorem dX12_readsCondition_50 : decode cX12_readsCondition 50 = .ok (.invokevirtual 216, 3) := by decide +kernel
theorem dX12_readsCondition_53 : decode cX12_readsCondition 53 = .ok (.bipush 40, 2) := by decide +kernel
theorem dX12_readsCondition_55 : decode cX12_readsCondition 55 = .ok (.if_icmp .ne 28, 3) := by decide +kernel
theorem dX12_readsCondition_58 : decode cX12_readsCondition 58 = .ok (.aload_n 0, 1) := by decide +kernel
theorem dX12_readsCondition_59 : decode cX12_readsCondition 59 = .ok (.aload_n 0, 1) := by decide +kernel
theorem dX12_readsCondition_60 : decode cX12_readsCondition 60 = .ok (.invokevirtual 216, 3) := by decide +kernel
theorem dX12_readsCondition_63 : decode cX12_readsCondition 63 = .ok (.bipush 33, 2) := by decide +kernel
theorem dX12_readsCondition_65 : decode cX12_readsCondition 65 = .ok (.if_icmp .ne 8, 3) := by decide +kernel
theorem dX12_readsCondition_68 : decode cX12_readsCondition 68 = .ok (.bipush 10, 2) := by decide +kernel
theorem dX12_readsCondition_70 : decode cX12_readsCondition 70 = .ok (.goto 5, 3) := by decide +kernel
theorem dX12_readsCondition_73 : decode cX12_readsCondition 73 = .ok (.bipush 13, 2) := by decide +kernel
theorem dX12_readsCondition_75 : decode cX12_readsCondition 75 = .ok (.invokevirtual 250, 3) := by decide +kernel
theorem dX12_readsCondition_78 : decode cX12_readsCondition 78 = .ok (.ifCond .ne (-38), 3) := by decide +kernel
theorem dX12_readsCondition_81 : decode cX12_readsCondition 81 = .ok (.iconst 0, 1) := by decide +kernel
theorem dX12_readsCondition_82 : decode cX12_readsCondition 82 = .ok (.ireturn, 1) := by decide +kernel
theorem dX12_readsCondition_83 : decode cX12_readsCondition 83 = .ok (.aload_n 0, 1) := by decide +kernel
theorem dX12_readsCondition_84 : decode cX12_readsCondition 84 = .ok (.invokevirtual 278, 3) := by decide +kernel
theorem dX12_readsCondition_87 : decode cX12_readsCondition 87 = .ok (.ifCond .ne 5, 3) := by decide +kernel
theorem dX12_readsCondition_90 : decode cX12_readsCondition 90 = .ok (.iconst 0, 1) := by decide +kernel
theorem dX12_readsCondition_91 : decode cX12_readsCondition 91 = .ok (.ireturn, 1) := by decide +kernel
theorem dX12_readsCondition_92 : decode cX12_readsCondition 92 = .ok (.aload_n 0, 1) := by decide +kernel
theorem dX12_readsCondition_93 : decode cX12_readsCondition 93 = .ok (.invokevirtual 216, 3) := by decide +kernel
theorem dX12_readsCondition_96 : decode cX12_readsCondition 96 = .ok (.bipush 41, 2) := by decide +kernel
theorem dX12_readsCondition_98 : decode cX12_readsCondition 98 = .ok (.if_icmp .ne 54, 3) := by decide +kernel
theorem dX12_readsCondition_101 : decode cX12_readsCondition 101 = .ok (.aload_n 0, 1) := by decide +kernel
theorem dX12_readsCondition_102 : decode cX12_readsCondition 102 = .ok (.iconst 1, 1) := by decide +kernel
theorem dX12_readsCondition_103 : decode cX12_readsCondition 103 = .ok (.invokevirtual 281, 3) := by decide +kernel
theorem dX12_readsCondition_106 : decode cX12_readsCondition 106 = .ok (.aload_n 0, 1) := by decide +kernel
theorem dX12_readsCondition_107 : decode cX12_readsCondition 107 = .ok (.aload_n 0, 1) := by decide +kernel
theorem dX12_readsCondition_108 : decode cX12_readsCondition 108 = .ok (.getfield 240, 3) := by decide +kernel
theorem dX12_readsCondition_111 : decode cX12_readsCondition 111 = .ok (.iconst 1, 1) := by decide +kernel
theorem dX12_readsCondition_112 : decode cX12_readsCondition 112 = .ok (.isub, 1) := by decide +kernel
theorem dX12_readsCondition_113 : decode cX12_readsCondition 113 = .ok (.putfield 240, 3) := by decide +kernel
theorem dX12_readsCondition_116 : decode cX12_readsCondition 116 = .ok (.aload_n 0, 1) := by decide +kernel
theorem dX12_readsCondition_117 : decode cX12_readsCondition 117 = .ok (.aload_n 0, 1) := by decide +kernel
theorem dX12_readsCondition_118 : decode cX12_readsCondition 118 = .ok (.getfield 237, 3) := by decide +kernel
theorem dX12_readsCondition_121 : decode cX12_readsCondition 121 = .ok (.iconst 1, 1) := by decide +kernel
theorem dX12_readsCondition_122 : decode cX12_readsCondition 122 = .ok (.isub, 1) := by decide +kernel
theorem dX12_readsCondition_123 : decode cX12_readsCondition 123 = .ok (.putfield 237, 3) := by decide +kernel
theorem dX12_readsCondition_126 : decode cX12_readsCondition 126 = .ok (.aload_n 0, 1) := by decide +kernel
theorem dX12_readsCondition_127 : decode cX12_readsCondition 127 = .ok (.aload_n 0, 1) := by decide +kernel
theorem dX12_readsCondition_128 : decode cX12_readsCondition 128 = .ok (.getfield 210, 3) := by decide +kernel
theorem dX12_readsCondition_131 : decode cX12_readsCondition 131 = .ok (.iconst 1, 1) := by decide +kernel
theorem dX12_readsCondition_132 : decode cX12_readsCondition 132 = .ok (.iadd, 1) := by decide +kernel
theorem dX12_readsCondition_133 : decode cX12_readsCondition 133 = .ok (.putfield 210, 3) := by decide +kernel
theorem dX12_readsCondition_136 : decode cX12_readsCondition 136 = .ok (.aload_n 0, 1) := by decide +kernel
theorem dX12_readsCondition_137 : decode cX12_readsCondition 137 = .ok (.getfield 240, 3) := by decide +kernel
theorem dX12_readsCondition_140 : decode cX12_readsCondition 140 = .ok (.ifCond .ne 5, 3) := by decide +kernel
theorem dX12_readsCondition_143 : decode cX12_readsCondition 143 = .ok (.iconst 1, 1) := by decide +kernel
theorem dX12_readsCondition_144 : decode cX12_readsCondition 144 = .ok (.ireturn, 1) := by decide +kernel
theorem dX12_readsCondition_145 : decode cX12_readsCondition 145 = .ok (.aload_n 0, 1) := by decide +kernel
theorem dX12_readsCondition_146 : decode cX12_readsCondition 146 = .ok (.invokevirtual 275, 3) := by decide +kernel
theorem dX12_readsCondition_149 : decode cX12_readsCondition 149 = .ok (.goto (-57), 3) := by decide +kernel
theorem dX12_readsCondition_152 : decode cX12_readsCondition 152 = .ok (.aload_n 0, 1) := by decide +kernel
theorem dX12_readsCondition_153 : decode cX12_readsCondition 153 = .ok (.invokevirtual 216, 3) := by decide +kernel
theorem dX12_readsCondition_156 : decode cX12_readsCondition 156 = .ok (.bipush 38, 2) := by decide +kernel
theorem dX12_readsCondition_158 : decode cX12_readsCondition 158 = .ok (.if_icmp .eq 22, 3) := by decide +kernel
theorem dX12_readsCondition_161 : decode cX12_readsCondition 161 = .ok (.aload_n 0, 1) := by decide +kernel
theorem dX12_readsCondition_162 : decode cX12_readsCondition 162 = .ok (.invokevirtual 216, 3) := by decide +kernel
theorem dX12_readsCondition_165 : decode cX12_readsCondition 165 = .ok (.bipush 124, 2) := by decide +kernel
theorem dX12_readsCondition_167 : decode cX12_readsCondition 167 = .ok (.if_icmp .eq 13, 3) := by decide +kernel
theorem dX12_readsCondition_170 : decode cX12_readsCondition 170 = .ok (.aload_n 0, 1) := by decide +kernel
theorem dX12_readsCondition_171 : decode cX12_readsCondition 171 = .ok (.iconst 1, 1) := by decide +kernel
theorem dX12_readsCondition_172 : decode cX12_readsCondition 172 = .ok (.aload_n 0, 1) := by decide +kernel
theorem dX12_readsCondition_173 : decode cX12_readsCondition 173 = .ok (.getfield 210, 3) := by decide +kernel
theorem dX12_readsCondition_176 : decode cX12_readsCondition 176 = .ok (.invokevirtual 223, 3) := by decide +kernel
theorem dX12_readsCondition_179 : decode cX12_readsCondition 179 = .ok (.ireturn, 1) := by decide +kernel
theorem dX12_readsCondition_180 : decode cX12_readsCondition 180 = .ok (.aload_n 0, 1) := by decide +kernel
theorem dX12_readsCondition_181 : decode cX12_readsCondition 181 = .ok (.aload_n 0, 1) := by decide +kernel
theorem dX12_readsCondition_182 : decode cX12_readsCondition 182 = .ok (.invokevirtual 216, 3) := by decide +kernel
theorem dX12_readsCondition_185 : decode cX12_readsCondition 185 = .ok (.bipush 124, 2) := by decide +kernel
theorem dX12_readsCondition_187 : decode cX12_readsCondition 187 = .ok (.if_icmp .ne 7, 3) := by decide +kernel
theorem dX12_readsCondition_190 : decode cX12_readsCondition 190 = .ok (.iconst 1, 1) := by decide +kernel
theorem dX12_readsCondition_191 : decode cX12_readsCondition 191 = .ok (.goto 4, 3) := by decide +kernel
theorem dX12_readsCondition_194 : decode cX12_readsCondition 194 = .ok (.iconst 0, 1) := by decide +kernel
theorem dX12_readsCondition_195 : decode cX12_readsCondition 195 = .ok (.invokevirtual 281, 3) := by decide +kernel
theorem dX12_readsCondition_198 : decode cX12_readsCondition 198 = .ok (.aload_n 0, 1) := by decide +kernel
theorem dX12_readsCondition_199 : decode cX12_readsCondition 199 = .ok (.aload_n 0, 1) := by decide +kernel
theorem dX12_readsCondition_200 : decode cX12_readsCondition 200 = .ok (.invokevirtual 216, 3) := by decide +kernel
theorem dX12_readsCondition_203 : decode cX12_readsCondition 203 = .ok (.bipush 38, 2) := by decide +kernel
theorem dX12_readsCondition_205 : decode cX12_readsCondition 205 = .ok (.if_icmp .ne 8, 3) := by decide +kernel
theorem dX12_readsCondition_208 : decode cX12_readsCondition 208 = .ok (.bipush 11, 2) := by decide +kernel
theorem dX12_readsCondition_210 : decode cX12_readsCondition 210 = .ok (.goto 5, 3) := by decide +kernel
theorem dX12_readsCondition_213 : decode cX12_readsCondition 213 = .ok (.bipush 12, 2) := by decide +kernel
theorem dX12_readsCondition_215 : decode cX12_readsCondition 215 = .ok (.invokevirtual 284, 3) := by decide +kernel
theorem dX12_readsCondition_218 : decode cX12_readsCondition 218 = .ok (.goto (-178), 3) := by decide +kernel
theorem dX12_readsClause_0 : decode cX12_readsClause 0 = .ok (.aload_n 0, 1) := by decide +kernel
theorem dX12_readsClause_1 : decode cX12_readsClause 1 = .ok (.invokevirtual 216, 3) := by decide +kernel
theorem dX12_readsClause_4 : decode cX12_readsClause 4 = .ok (.istore_n 1, 1) := by decide +kernel
theorem dX12_readsClause_5 : decode cX12_readsClause 5 = .ok (.iload_n 1, 1) := by decide +kernel
theorem dX12_readsClause_6 : decode cX12_readsClause 6 = .ok (.bipush 111, 2) := by decide +kernel
theorem dX12_readsClause_8 : decode cX12_readsClause 8 = .ok (.if_icmp .eq 25, 3) := by decide +kernel
theorem dX12_readsClause_11 : decode cX12_readsClause 11 = .ok (.iload_n 1, 1) := by decide +kernel
theorem dX12_readsClause_12 : decode cX12_readsClause 12 = .ok (.bipush 112, 2) := by decide +kernel
theorem dX12_readsClause_14 : decode cX12_readsClause 14 = .ok (.if_icmp .eq 19, 3) := by decide +kernel
theorem dX12_readsClause_17 : decode cX12_readsClause 17 = .ok (.iload_n 1, 1) := by decide +kernel
theorem dX12_readsClause_18 : decode cX12_readsClause 18 = .ok (.bipush 108, 2) := by decide +kernel
theorem dX12_readsClause_20 : decode cX12_readsClause 20 = .ok (.if_icmp .eq 13, 3) := by decide +kernel
theorem dX12_readsClause_23 : decode cX12_readsClause 23 = .ok (.aload_n 0, 1) := by decide +kernel
theorem dX12_readsClause_24 : decode cX12_readsClause 24 = .ok (.iconst 1, 1) := by decide +kernel
theorem dX12_readsClause_25 : decode cX12_readsClause 25 = .ok (.aload_n 0, 1) := by decide +kernel
theorem dX12_readsClause_26 : decode cX12_readsClause 26 = .ok (.getfield 210, 3) := by decide +kernel
theorem dX12_readsClause_29 : decode cX12_readsClause 29 = .ok (.invokevirtual 223, 3) := by decide +kernel
theorem dX12_readsClause_32 : decode cX12_readsClause 32 = .ok (.ireturn, 1) := by decide +kernel
theorem dX12_readsClause_33 : decode cX12_readsClause 33 = .ok (.aload_n 0, 1) := by decide +kernel
theorem dX12_readsClause_34 : decode cX12_readsClause 34 = .ok (.getfield 287, 3) := by decide +kernel
theorem dX12_readsClause_37 : decode cX12_readsClause 37 = .ok (.bipush 14, 2) := by decide +kernel
theorem dX12_readsClause_39 : decode cX12_readsClause 39 = .ok (.if_icmp .ne 13, 3) := by decide +kernel
theorem dX12_readsClause_42 : decode cX12_readsClause 42 = .ok (.aload_n 0, 1) := by decide +kernel
theorem dX12_readsClause_43 : decode cX12_readsClause 43 = .ok (.iconst 4, 1) := by decide +kernel
theorem dX12_readsClause_44 : decode cX12_readsClause 44 = .ok (.aload_n 0, 1) := by decide +kernel
theorem dX12_readsClause_45 : decode cX12_readsClause 45 = .ok (.getfield 210, 3) := by decide +kernel
theorem dX12_readsClause_48 : decode cX12_readsClause 48 = .ok (.invokevirtual 223, 3) := by decide +kernel
theorem dX12_readsClause_51 : decode cX12_readsClause 51 = .ok (.ireturn, 1) := by decide +kernel
theorem dX12_readsClause_52 : decode cX12_readsClause 52 = .ok (.aload_n 0, 1) := by decide +kernel
theorem dX12_readsClause_53 : decode cX12_readsClause 53 = .ok (.getfield 39, 3) := by decide +kernel
theorem dX12_readsClause_56 : decode cX12_readsClause 56 = .ok (.aload_n 0, 1) := by decide +kernel
theorem dX12_readsClause_57 : decode cX12_readsClause 57 = .ok (.getfield 287, 3) := by decide +kernel
theorem dX12_readsClause_60 : decode cX12_readsClause 60 = .ok (.iload_n 1, 1) := by decide +kernel
theorem dX12_readsClause_61 : decode cX12_readsClause 61 = .ok (.iastore, 1) := by decide +kernel
theorem dX12_readsClause_62 : decode cX12_readsClause 62 = .ok (.aload_n 0, 1) := by decide +kernel
theorem dX12_readsClause_63 : decode cX12_readsClause 63 = .ok (.aload_n 0, 1) := by decide +kernel
theorem dX12_readsClause_64 : decode cX12_readsClause 64 = .ok (.getfield 210, 3) := by decide +kernel
theorem dX12_readsClause_67 : decode cX12_readsClause 67 = .ok (.iconst 1, 1) := by decide +kernel
theorem dX12_readsClause_68 : decode cX12_readsClause 68 = .ok (.iadd, 1) := by decide +kernel
theorem dX12_readsClause_69 : decode cX12_readsClause 69 = .ok (.putfield 210, 3) := by decide +kernel
theorem dX12_readsClause_72 : decode cX12_readsClause 72 = .ok (.aload_n 0, 1) := by decide +kernel
theorem dX12_readsClause_73 : decode cX12_readsClause 73 = .ok (.getfield 42, 3) := by decide +kernel
theorem dX12_readsClause_76 : decode cX12_readsClause 76 = .ok (.aload_n 0, 1) := by decide +kernel
theorem dX12_readsClause_77 : decode cX12_readsClause 77 = .ok (.getfield 287, 3) := by decide +kernel
theorem dX12_readsClause_80 : decode cX12_readsClause 80 = .ok (.aload_n 0, 1) := by decide +kernel
theorem dX12_readsClause_81 : decode cX12_readsClause 81 = .ok (.getfield 233, 3) := by decide +kernel
theorem dX12_readsClause_84 : decode cX12_readsClause 84 = .ok (.iastore, 1) := by decide +kernel
theorem dX12_readsClause_85 : decode cX12_readsClause 85 = .ok (.aload_n 0, 1) := by decide +kernel
theorem dX12_readsClause_86 : decode cX12_readsClause 86 = .ok (.iconst 0, 1) := by decide +kernel
theorem dX12_readsClause_87 : decode cX12_readsClause 87 = .ok (.putfield 237, 3) := by decide +kernel
theorem dX12_readsClause_90 : decode cX12_readsClause 90 = .ok (.aload_n 0, 1) := by decide +kernel
theorem dX12_readsClause_91 : decode cX12_readsClause 91 = .ok (.iconst 0, 1) := by decide +kernel
theorem dX12_readsClause_92 : decode cX12_readsClause 92 = .ok (.putfield 240, 3) := by decide +kernel
theorem dX12_readsClause_95 : decode cX12_readsClause 95 = .ok (.aload_n 0, 1) := by decide +kernel
theorem dX12_readsClause_96 : decode cX12_readsClause 96 = .ok (.invokevirtual 272, 3) := by decide +kernel
theorem dX12_readsClause_99 : decode cX12_readsClause 99 = .ok (.ifCond .ne 5, 3) := by decide +kernel
theorem dX12_readsClause_102 : decode cX12_readsClause 102 = .ok (.iconst 0, 1) := by decide +kernel
theorem dX12_readsClause_103 : decode cX12_readsClause 103 = .ok (.ireturn, 1) := by decide +kernel
theorem dX12_readsClause_104 : decode cX12_readsClause 104 = .ok (.aload_n 0, 1) := by decide +kernel
theorem dX12_readsClause_105 : decode cX12_readsClause 105 = .ok (.getfield 45, 3) := by decide +kernel
theorem dX12_readsClause_108 : decode cX12_readsClause 108 = .ok (.aload_n 0, 1) := by decide +kernel
theorem dX12_readsClause_109 : decode cX12_readsClause 109 = .ok (.getfield 287, 3) := by decide +kernel
theorem dX12_readsClause_112 : decode cX12_readsClause 112 = .ok (.aload_n 0, 1) := by decide +kernel
theorem dX12_readsClause_113 : decode cX12_readsClause 113 = .ok (.getfield 233, 3) := by decide +kernel
theorem dX12_readsClause_116 : decode cX12_readsClause 116 = .ok (.iastore, 1) := by decide +kernel
theorem dX12_readsClause_117 : decode cX12_readsClause 117 = .ok (.aload_n 0, 1) := by decide +kernel
theorem dX12_readsClause_118 : decode cX12_readsClause 118 = .ok (.invokevirtual 290, 3) := by decide +kernel
theorem dX12_readsClause_121 : decode cX12_readsClause 121 = .ok (.ifCond .ne 5, 3) := by decide +kernel
theorem dX12_readsClause_124 : decode cX12_readsClause 124 = .ok (.iconst 0, 1) := by decide +kernel
theorem dX12_readsClause_125 : decode cX12_readsClause 125 = .ok (.ireturn, 1) := by decide +kernel
theorem dX12_readsClause_126 : decode cX12_readsClause 126 = .ok (.aload_n 0, 1) := by decide +kernel
theorem dX12_readsClause_127 : decode cX12_readsClause 127 = .ok (.getfield 48, 3) := by decide +kernel
theorem dX12_readsClause_130 : decode cX12_readsClause 130 = .ok (.aload_n 0, 1) := by decide +kernel
theorem dX12_readsClause_131 : decode cX12_readsClause 131 = .ok (.getfield 287, 3) := by decide +kernel
theorem dX12_readsClause_134 : decode cX12_readsClause 134 = .ok (.aload_n 0, 1) := by decide +kernel
theorem dX12_readsClause_135 : decode cX12_readsClause 135 = .ok (.getfield 233, 3) := by decide +kernel
theorem dX12_readsClause_138 : decode cX12_readsClause 138 = .ok (.iastore, 1) := by decide +kernel
theorem dX12_readsClause_139 : decode cX12_readsClause 139 = .ok (.aload_n 0, 1) := by decide +kernel
theorem dX12_readsClause_140 : decode cX12_readsClause 140 = .ok (.aload_n 0, 1) := by decide +kernel
theorem dX12_readsClause_141 : decode cX12_readsClause 141 = .ok (.getfield 287, 3) := by decide +kernel
theorem dX12_readsClause_144 : decode cX12_readsClause 144 = .ok (.iconst 1, 1) := by decide +kernel
theorem dX12_readsClause_145 : decode cX12_readsClause 145 = .ok (.iadd, 1) := by decide +kernel
theorem dX12_readsClause_146 : decode cX12_readsClause 146 = .ok (.putfield 287, 3) := by decide +kernel
theorem dX12_readsClause_149 : decode cX12_readsClause 149 = .ok (.iconst 1, 1) := by decide +kernel
theorem dX12_readsClause_150 : decode cX12_readsClause 150 = .ok (.ireturn, 1) := by decide +kernel
theorem dX12_law_0 : decode cX12_law 0 = .ok (.iload_n 1, 1) := by decide +kernel
theorem dX12_law_1 : decode cX12_law 1 = .ok (.iconst 1, 1) := by decide +kernel
theorem dX12_law_2 : decode cX12_law 2 = .ok (.sipush 200, 3) := by decide +kernel
theorem dX12_law_5 : decode cX12_law 5 = .ok (.invokestatic 168, 3) := by decide +kernel
theorem dX12_law_8 : decode cX12_law 8 = .ok (.ifCond .eq 11, 3) := by decide +kernel
theorem dX12_law_11 : decode cX12_law 11 = .ok (.iload_n 1, 1) := by decide +kernel
theorem dX12_law_12 : decode cX12_law 12 = .ok (.aload_n 0, 1) := by decide +kernel
theorem dX12_law_13 : decode cX12_law 13 = .ok (.getfield 203, 3) := by decide +kernel
theorem dX12_law_16 : decode cX12_law 16 = .ok (.if_icmp .le 5, 3) := by decide +kernel
theorem dX12_law_19 : decode cX12_law 19 = .ok (.iconst (-1), 1) := by decide +kernel
theorem dX12_law_20 : decode cX12_law 20 = .ok (.ireturn, 1) := by decide +kernel
theorem dX12_law_21 : decode cX12_law 21 = .ok (.aload_n 0, 1) := by decide +kernel
theorem dX12_law_22 : decode cX12_law 22 = .ok (.iconst 0, 1) := by decide +kernel
theorem dX12_law_23 : decode cX12_law 23 = .ok (.putfield 210, 3) := by decide +kernel
theorem dX12_law_26 : decode cX12_law 26 = .ok (.aload_n 0, 1) := by decide +kernel
theorem dX12_law_27 : decode cX12_law 27 = .ok (.iload_n 1, 1) := by decide +kernel
theorem dX12_law_28 : decode cX12_law 28 = .ok (.putfield 213, 3) := by decide +kernel
theorem dX12_law_31 : decode cX12_law 31 = .ok (.aload_n 0, 1) := by decide +kernel
theorem dX12_law_32 : decode cX12_law 32 = .ok (.iconst 0, 1) := by decide +kernel
theorem dX12_law_33 : decode cX12_law 33 = .ok (.putfield 233, 3) := by decide +kernel
theorem dX12_law_36 : decode cX12_law 36 = .ok (.aload_n 0, 1) := by decide +kernel
theorem dX12_law_37 : decode cX12_law 37 = .ok (.iconst 0, 1) := by decide +kernel
theorem dX12_law_38 : decode cX12_law 38 = .ok (.putfield 287, 3) := by decide +kernel
theorem dX12_law_41 : decode cX12_law 41 = .ok (.aload_n 0, 1) := by decide +kernel
theorem dX12_law_42 : decode cX12_law 42 = .ok (.invokevirtual 293, 3) := by decide +kernel
theorem dX12_law_45 : decode cX12_law 45 = .ok (.istore_n 2, 1) := by decide +kernel
theorem dX12_law_46 : decode cX12_law 46 = .ok (.iload_n 2, 1) := by decide +kernel
theorem dX12_law_47 : decode cX12_law 47 = .ok (.ifCond .eq 39, 3) := by decide +kernel
theorem dX12_law_50 : decode cX12_law 50 = .ok (.aload_n 0, 1) := by decide +kernel
theorem dX12_law_51 : decode cX12_law 51 = .ok (.getfield 210, 3) := by decide +kernel
theorem dX12_law_54 : decode cX12_law 54 = .ok (.aload_n 0, 1) := by decide +kernel
theorem dX12_law_55 : decode cX12_law 55 = .ok (.getfield 213, 3) := by decide +kernel
theorem dX12_law_58 : decode cX12_law 58 = .ok (.if_icmp .ge 28, 3) := by decide +kernel
theorem dX12_law_61 : decode cX12_law 61 = .ok (.aload_n 0, 1) := by decide +kernel
theorem dX12_law_62 : decode cX12_law 62 = .ok (.bipush 59, 2) := by decide +kernel
theorem dX12_law_64 : decode cX12_law 64 = .ok (.invokevirtual 296, 3) := by decide +kernel
theorem dX12_law_67 : decode cX12_law 67 = .ok (.ifCond .eq 14, 3) := by decide +kernel
theorem dX12_law_70 : decode cX12_law 70 = .ok (.aload_n 0, 1) := by decide +kernel
theorem dX12_law_71 : decode cX12_law 71 = .ok (.invokevirtual 293, 3) := by decide +kernel
theorem dX12_law_74 : decode cX12_law 74 = .ok (.ifCond .eq 7, 3) := by decide +kernel
theorem dX12_law_77 : decode cX12_law 77 = .ok (.iconst 1, 1) := by decide +kernel
theorem dX12_law_78 : decode cX12_law 78 = .ok (.goto 4, 3) := by decide +kernel
theorem dX12_law_81 : decode cX12_law 81 = .ok (.iconst 0, 1) := by decide +kernel
theorem dX12_law_82 : decode cX12_law 82 = .ok (.istore_n 2, 1) := by decide +kernel
theorem dX12_law_83 : decode cX12_law 83 = .ok (.goto (-37), 3) := by decide +kernel
theorem dX12_law_86 : decode cX12_law 86 = .ok (.aload_n 0, 1) := by decide +kernel
theorem dX12_law_87 : decode cX12_law 87 = .ok (.iconst 0, 1) := by decide +kernel
theorem dX12_law_88 : decode cX12_law 88 = .ok (.putfield 203, 3) := by decide +kernel
theorem dX12_law_91 : decode cX12_law 91 = .ok (.iload_n 2, 1) := by decide +kernel
theorem dX12_law_92 : decode cX12_law 92 = .ok (.ifCond .ne 8, 3) := by decide +kernel
theorem dX12_law_95 : decode cX12_law 95 = .ok (.aload_n 0, 1) := by decide +kernel
theorem dX12_law_96 : decode cX12_law 96 = .ok (.getfield 220, 3) := by decide +kernel
theorem dX12_law_99 : decode cX12_law 99 = .ok (.ireturn, 1) := by decide +kernel
theorem dX12_law_100 : decode cX12_law 100 = .ok (.aload_n 0, 1) := by decide +kernel
theorem dX12_law_101 : decode cX12_law 101 = .ok (.aload_n 0, 1) := by decide +kernel
theorem dX12_law_102 : decode cX12_law 102 = .ok (.getfield 287, 3) := by decide +kernel
theorem dX12_law_105 : decode cX12_law 105 = .ok (.putfield 299, 3) := by decide +kernel
theorem dX12_law_108 : decode cX12_law 108 = .ok (.iconst 0, 1) := by decide +kernel
theorem dX12_law_109 : decode cX12_law 109 = .ok (.istore_n 3, 1) := by decide +kernel
theorem dX12_law_110 : decode cX12_law 110 = .ok (.iload_n 3, 1) := by decide +kernel
theorem dX12_law_111 : decode cX12_law 111 = .ok (.aload_n 0, 1) := by decide +kernel
theorem dX12_law_112 : decode cX12_law 112 = .ok (.getfield 233, 3) := by decide +kernel
theorem dX12_law_115 : decode cX12_law 115 = .ok (.if_icmp .ge 21, 3) := by decide +kernel
theorem dX12_law_118 : decode cX12_law 118 = .ok (.aload_n 0, 1) := by decide +kernel
theorem dX12_law_119 : decode cX12_law 119 = .ok (.getfield 51, 3) := by decide +kernel
theorem dX12_law_122 : decode cX12_law 122 = .ok (.iload_n 3, 1) := by decide +kernel
theorem dX12_law_123 : decode cX12_law 123 = .ok (.aload_n 0, 1) := by decide +kernel
theorem dX12_law_124 : decode cX12_law 124 = .ok (.getfield 33, 3) := by decide +kernel
theorem dX12_law_127 : decode cX12_law 127 = .ok (.iload_n 3, 1) := by decide +kernel
theorem dX12_law_128 : decode cX12_law 128 = .ok (.iaload, 1) := by decide +kernel
theorem dX12_law_129 : decode cX12_law 129 = .ok (.iastore, 1) := by decide +kernel
theorem dX12_law_130 : decode cX12_law 130 = .ok (.iinc 3 1, 3) := by decide +kernel
theorem dX12_law_133 : decode cX12_law 133 = .ok (.goto (-23), 3) := by decide +kernel
theorem dX12_law_136 : decode cX12_law 136 = .ok (.iconst 0, 1) := by decide +kernel
theorem dX12_law_137 : decode cX12_law 137 = .ok (.istore_n 3, 1) := by decide +kernel
theorem dX12_law_138 : decode cX12_law 138 = .ok (.iload_n 3, 1) := by decide +kernel
theorem dX12_law_139 : decode cX12_law 139 = .ok (.aload_n 0, 1) := by decide +kernel
theorem dX12_law_140 : decode cX12_law 140 = .ok (.getfield 287, 3) := by decide +kernel
theorem dX12_law_143 : decode cX12_law 143 = .ok (.if_icmp .ge 57, 3) := by decide +kernel
theorem dX12_law_146 : decode cX12_law 146 = .ok (.aload_n 0, 1) := by decide +kernel
theorem dX12_law_147 : decode cX12_law 147 = .ok (.getfield 54, 3) := by decide +kernel
theorem dX12_law_150 : decode cX12_law 150 = .ok (.iload_n 3, 1) := by decide +kernel
theorem dX12_law_151 : decode cX12_law 151 = .ok (.aload_n 0, 1) := by decide +kernel
theorem dX12_law_152 : decode cX12_law 152 = .ok (.getfield 39, 3) := by decide +kernel
theorem dX12_law_155 : decode cX12_law 155 = .ok (.iload_n 3, 1) := by decide +kernel
theorem dX12_law_156 : decode cX12_law 156 = .ok (.iaload, 1) := by decide +kernel
theorem dX12_law_157 : decode cX12_law 157 = .ok (.iastore, 1) := by decide +kernel
theorem dX12_law_158 : decode cX12_law 158 = .ok (.aload_n 0, 1) := by decide +kernel
theorem dX12_law_159 : decode cX12_law 159 = .ok (.getfield 57, 3) := by decide +kernel
theorem dX12_law_162 : decode cX12_law 162 = .ok (.iload_n 3, 1) := by decide +kernel
theorem dX12_law_163 : decode cX12_law 163 = .ok (.aload_n 0, 1) := by decide +kernel
theorem dX12_law_164 : decode cX12_law 164 = .ok (.getfield 42, 3) := by decide +kernel
theorem dX12_law_167 : decode cX12_law 167 = .ok (.iload_n 3, 1) := by decide +kernel
theorem dX12_law_168 : decode cX12_law 168 = .ok (.iaload, 1) := by decide +kernel
theorem dX12_law_169 : decode cX12_law 169 = .ok (.iastore, 1) := by decide +kernel
theorem dX12_law_170 : decode cX12_law 170 = .ok (.aload_n 0, 1) := by decide +kernel
theorem dX12_law_171 : decode cX12_law 171 = .ok (.getfield 60, 3) := by decide +kernel
theorem dX12_law_174 : decode cX12_law 174 = .ok (.iload_n 3, 1) := by decide +kernel
theorem dX12_law_175 : decode cX12_law 175 = .ok (.aload_n 0, 1) := by decide +kernel
theorem dX12_law_176 : decode cX12_law 176 = .ok (.getfield 45, 3) := by decide +kernel
theorem dX12_law_179 : decode cX12_law 179 = .ok (.iload_n 3, 1) := by decide +kernel
theorem dX12_law_180 : decode cX12_law 180 = .ok (.iaload, 1) := by decide +kernel
theorem dX12_law_181 : decode cX12_law 181 = .ok (.iastore, 1) := by decide +kernel
theorem dX12_law_182 : decode cX12_law 182 = .ok (.aload_n 0, 1) := by decide +kernel
theorem dX12_law_183 : decode cX12_law 183 = .ok (.getfield 63, 3) := by decide +kernel
theorem dX12_law_186 : decode cX12_law 186 = .ok (.iload_n 3, 1) := by decide +kernel
theorem dX12_law_187 : decode cX12_law 187 = .ok (.aload_n 0, 1) := by decide +kernel
theorem dX12_law_188 : decode cX12_law 188 = .ok (.getfield 48, 3) := by decide +kernel
theorem dX12_law_191 : decode cX12_law 191 = .ok (.iload_n 3, 1) := by decide +kernel
theorem dX12_law_192 : decode cX12_law 192 = .ok (.iaload, 1) := by decide +kernel
theorem dX12_law_193 : decode cX12_law 193 = .ok (.iastore, 1) := by decide +kernel
theorem dX12_law_194 : decode cX12_law 194 = .ok (.iinc 3 1, 3) := by decide +kernel
theorem dX12_law_197 : decode cX12_law 197 = .ok (.goto (-59), 3) := by decide +kernel
theorem dX12_law_200 : decode cX12_law 200 = .ok (.aload_n 0, 1) := by decide +kernel
theorem dX12_law_201 : decode cX12_law 201 = .ok (.getfield 287, 3) := by decide +kernel
theorem dX12_law_204 : decode cX12_law 204 = .ok (.ireturn, 1) := by decide +kernel
theorem dX12_reckon_0 : decode cX12_reckon 0 = .ok (.iload_n 0, 1) := by decide +kernel
theorem dX12_reckon_1 : decode cX12_reckon 1 = .ok (.tableswitch 85 2 8 #[43, 47, 51, 55, 59, 63, 74], 43) := by decide +kernel
theorem dX12_reckon_44 : decode cX12_reckon 44 = .ok (.iload_n 1, 1) := by decide +kernel
theorem dX12_reckon_45 : decode cX12_reckon 45 = .ok (.iload_n 2, 1) := by decide +kernel
theorem dX12_reckon_46 : decode cX12_reckon 46 = .ok (.iadd, 1) := by decide +kernel
theorem dX12_reckon_47 : decode cX12_reckon 47 = .ok (.ireturn, 1) := by decide +kernel
theorem dX12_reckon_48 : decode cX12_reckon 48 = .ok (.iload_n 1, 1) := by decide +kernel
theorem dX12_reckon_49 : decode cX12_reckon 49 = .ok (.iload_n 2, 1) := by decide +kernel
theorem dX12_reckon_50 : decode cX12_reckon 50 = .ok (.isub, 1) := by decide +kernel
theorem dX12_reckon_51 : decode cX12_reckon 51 = .ok (.ireturn, 1) := by decide +kernel
theorem dX12_reckon_52 : decode cX12_reckon 52 = .ok (.iload_n 1, 1) := by decide +kernel
theorem dX12_reckon_53 : decode cX12_reckon 53 = .ok (.iload_n 2, 1) := by decide +kernel
theorem dX12_reckon_54 : decode cX12_reckon 54 = .ok (.imul, 1) := by decide +kernel
theorem dX12_reckon_55 : decode cX12_reckon 55 = .ok (.ireturn, 1) := by decide +kernel
theorem dX12_reckon_56 : decode cX12_reckon 56 = .ok (.iload_n 1, 1) := by decide +kernel
theorem dX12_reckon_57 : decode cX12_reckon 57 = .ok (.iload_n 2, 1) := by decide +kernel
theorem dX12_reckon_58 : decode cX12_reckon 58 = .ok (.idiv, 1) := by decide +kernel
theorem dX12_reckon_59 : decode cX12_reckon 59 = .ok (.ireturn, 1) := by decide +kernel
theorem dX12_reckon_60 : decode cX12_reckon 60 = .ok (.iload_n 1, 1) := by decide +kernel
theorem dX12_reckon_61 : decode cX12_reckon 61 = .ok (.iload_n 2, 1) := by decide +kernel
theorem dX12_reckon_62 : decode cX12_reckon 62 = .ok (.irem, 1) := by decide +kernel
theorem dX12_reckon_63 : decode cX12_reckon 63 = .ok (.ireturn, 1) := by decide +kernel
theorem dX12_reckon_64 : decode cX12_reckon 64 = .ok (.iload_n 1, 1) := by decide +kernel
theorem dX12_reckon_65 : decode cX12_reckon 65 = .ok (.iload_n 2, 1) := by decide +kernel
theorem dX12_reckon_66 : decode cX12_reckon 66 = .ok (.if_icmp .ge 7, 3) := by decide +kernel
theorem dX12_reckon_69 : decode cX12_reckon 69 = .ok (.iconst 1, 1) := by decide +kernel
theorem dX12_reckon_70 : decode cX12_reckon 70 = .ok (.goto 4, 3) := by decide +kernel
theorem dX12_reckon_73 : decode cX12_reckon 73 = .ok (.iconst 0, 1) := by decide +kernel
theorem dX12_reckon_74 : decode cX12_reckon 74 = .ok (.ireturn, 1) := by decide +kernel
theorem dX12_reckon_75 : decode cX12_reckon 75 = .ok (.iload_n 1, 1) := by decide +kernel
theorem dX12_reckon_76 : decode cX12_reckon 76 = .ok (.iload_n 2, 1) := by decide +kernel
theorem dX12_reckon_77 : decode cX12_reckon 77 = .ok (.if_icmp .le 7, 3) := by decide +kernel
theorem dX12_reckon_80 : decode cX12_reckon 80 = .ok (.iconst 1, 1) := by decide +kernel
theorem dX12_reckon_81 : decode cX12_reckon 81 = .ok (.goto 4, 3) := by decide +kernel
theorem dX12_reckon_84 : decode cX12_reckon 84 = .ok (.iconst 0, 1) := by decide +kernel
theorem dX12_reckon_85 : decode cX12_reckon 85 = .ok (.ireturn, 1) := by decide +kernel
theorem dX12_reckon_86 : decode cX12_reckon 86 = .ok (.iload_n 1, 1) := by decide +kernel
theorem dX12_reckon_87 : decode cX12_reckon 87 = .ok (.iload_n 2, 1) := by decide +kernel
theorem dX12_reckon_88 : decode cX12_reckon 88 = .ok (.if_icmp .ne 7, 3) := by decide +kernel
theorem dX12_reckon_91 : decode cX12_reckon 91 = .ok (.iconst 1, 1) := by decide +kernel
theorem dX12_reckon_92 : decode cX12_reckon 92 = .ok (.goto 4, 3) := by decide +kernel
theorem dX12_reckon_95 : decode cX12_reckon 95 = .ok (.iconst 0, 1) := by decide +kernel
theorem dX12_reckon_96 : decode cX12_reckon 96 = .ok (.ireturn, 1) := by decide +kernel
theorem dX12_comesTo_0 : decode cX12_comesTo 0 = .ok (.iconst 0, 1) := by decide +kernel
theorem dX12_comesTo_1 : decode cX12_comesTo 1 = .ok (.istore_n 3, 1) := by decide +kernel
theorem dX12_comesTo_2 : decode cX12_comesTo 2 = .ok (.sipush 220, 3) := by decide +kernel
theorem dX12_comesTo_5 : decode cX12_comesTo 5 = .ok (.iload_n 1, 1) := by decide +kernel
theorem dX12_comesTo_6 : decode cX12_comesTo 6 = .ok (.sipush 220, 3) := by decide +kernel
theorem dX12_comesTo_9 : decode cX12_comesTo 9 = .ok (.idiv, 1) := by decide +kernel
theorem dX12_comesTo_10 : decode cX12_comesTo 10 = .ok (.imul, 1) := by decide +kernel
theorem dX12_comesTo_11 : decode cX12_comesTo 11 = .ok (.istore 4, 2) := by decide +kernel
theorem dX12_comesTo_13 : decode cX12_comesTo 13 = .ok (.iload_n 1, 1) := by decide +kernel
theorem dX12_comesTo_14 : decode cX12_comesTo 14 = .ok (.istore 5, 2) := by decide +kernel
theorem dX12_comesTo_16 : decode cX12_comesTo 16 = .ok (.iload 5, 2) := by decide +kernel
theorem dX12_comesTo_18 : decode cX12_comesTo 18 = .ok (.iload_n 2, 1) := by decide +kernel
theorem dX12_comesTo_19 : decode cX12_comesTo 19 = .ok (.if_icmp .ge 214, 3) := by decide +kernel
theorem dX12_comesTo_22 : decode cX12_comesTo 22 = .ok (.aload_n 0, 1) := by decide +kernel
theorem dX12_comesTo_23 : decode cX12_comesTo 23 = .ok (.getfield 51, 3) := by decide +kernel
theorem dX12_comesTo_26 : decode cX12_comesTo 26 = .ok (.iload 5, 2) := by decide +kernel
theorem dX12_comesTo_28 : decode cX12_comesTo 28 = .ok (.iaload, 1) := by decide +kernel
theorem dX12_comesTo_29 : decode cX12_comesTo 29 = .ok (.ldc 236, 2) := by decide +kernel
theorem dX12_comesTo_31 : decode cX12_comesTo 31 = .ok (.idiv, 1) := by decide +kernel
theorem dX12_comesTo_32 : decode cX12_comesTo 32 = .ok (.istore 6, 2) := by decide +kernel
theorem dX12_comesTo_34 : decode cX12_comesTo 34 = .ok (.aload_n 0, 1) := by decide +kernel
theorem dX12_comesTo_35 : decode cX12_comesTo 35 = .ok (.getfield 51, 3) := by decide +kernel
theorem dX12_comesTo_38 : decode cX12_comesTo 38 = .ok (.iload 5, 2) := by decide +kernel
theorem dX12_comesTo_40 : decode cX12_comesTo 40 = .ok (.iaload, 1) := by decide +kernel
theorem dX12_comesTo_41 : decode cX12_comesTo 41 = .ok (.ldc 236, 2) := by decide +kernel
theorem dX12_comesTo_43 : decode cX12_comesTo 43 = .ok (.irem, 1) := by decide +kernel
theorem dX12_comesTo_44 : decode cX12_comesTo 44 = .ok (.istore 7, 2) := by decide +kernel
theorem dX12_comesTo_46 : decode cX12_comesTo 46 = .ok (.iload 5, 2) := by decide +kernel
theorem dX12_comesTo_48 : decode cX12_comesTo 48 = .ok (.iconst 1, 1) := by decide +kernel
theorem dX12_comesTo_49 : decode cX12_comesTo 49 = .ok (.iadd, 1) := by decide +kernel
theorem dX12_comesTo_50 : decode cX12_comesTo 50 = .ok (.istore 5, 2) := by decide +kernel
theorem dX12_comesTo_52 : decode cX12_comesTo 52 = .ok (.iload 6, 2) := by decide +kernel
theorem dX12_comesTo_54 : decode cX12_comesTo 54 = .ok (.ifCond .eq 9, 3) := by decide +kernel
theorem dX12_comesTo_57 : decode cX12_comesTo 57 = .ok (.iload 6, 2) := by decide +kernel
theorem dX12_comesTo_59 : decode cX12_comesTo 59 = .ok (.iconst 1, 1) := by decide +kernel
theorem dX12_comesTo_60 : decode cX12_comesTo 60 = .ok (.if_icmp .ne 33, 3) := by decide +kernel
theorem dX12_comesTo_63 : decode cX12_comesTo 63 = .ok (.aload_n 0, 1) := by decide +kernel
theorem dX12_comesTo_64 : decode cX12_comesTo 64 = .ok (.getfield 66, 3) := by decide +kernel
theorem dX12_comesTo_67 : decode cX12_comesTo 67 = .ok (.iload_n 3, 1) := by decide +kernel
theorem dX12_comesTo_68 : decode cX12_comesTo 68 = .ok (.iload 6, 2) := by decide +kernel
theorem dX12_comesTo_70 : decode cX12_comesTo 70 = .ok (.ifCond .ne 8, 3) := by decide +kernel
theorem dX12_comesTo_73 : decode cX12_comesTo 73 = .ok (.iload 7, 2) := by decide +kernel
theorem dX12_comesTo_75 : decode cX12_comesTo 75 = .ok (.goto 10, 3) := by decide +kernel
theorem dX12_comesTo_78 : decode cX12_comesTo 78 = .ok (.aload_n 0, 1) := by decide +kernel
theorem dX12_comesTo_79 : decode cX12_comesTo 79 = .ok (.getfield 69, 3) := by decide +kernel
theorem dX12_comesTo_82 : decode cX12_comesTo 82 = .ok (.iload 7, 2) := by decide +kernel
theorem dX12_comesTo_84 : decode cX12_comesTo 84 = .ok (.iaload, 1) := by decide +kernel
theorem dX12_comesTo_85 : decode cX12_comesTo 85 = .ok (.iastore, 1) := by decide +kernel
theorem dX12_comesTo_86 : decode cX12_comesTo 86 = .ok (.iload_n 3, 1) := by decide +kernel
theorem dX12_comesTo_87 : decode cX12_comesTo 87 = .ok (.iconst 1, 1) := by decide +kernel
theorem dX12_comesTo_88 : decode cX12_comesTo 88 = .ok (.iadd, 1) := by decide +kernel
theorem dX12_comesTo_89 : decode cX12_comesTo 89 = .ok (.istore_n 3, 1) := by decide +kernel
theorem dX12_comesTo_90 : decode cX12_comesTo 90 = .ok (.goto 140, 3) := by decide +kernel
theorem dX12_comesTo_93 : decode cX12_comesTo 93 = .ok (.iload 6, 2) := by decide +kernel
theorem dX12_comesTo_95 : decode cX12_comesTo 95 = .ok (.bipush 10, 2) := by decide +kernel
theorem dX12_comesTo_97 : decode cX12_comesTo 97 = .ok (.if_icmp .ne 24, 3) := by decide +kernel
theorem dX12_comesTo_100 : decode cX12_comesTo 100 = .ok (.aload_n 0, 1) := by decide +kernel
theorem dX12_comesTo_101 : decode cX12_comesTo 101 = .ok (.getfield 66, 3) := by decide +kernel
theorem dX12_comesTo_104 : decode cX12_comesTo 104 = .ok (.iload_n 3, 1) := by decide +kernel
theorem dX12_comesTo_105 : decode cX12_comesTo 105 = .ok (.iconst 1, 1) := by decide +kernel
theorem dX12_comesTo_106 : decode cX12_comesTo 106 = .ok (.isub, 1) := by decide +kernel
theorem dX12_comesTo_107 : decode cX12_comesTo 107 = .ok (.iconst 1, 1) := by decide +kernel
theorem dX12_comesTo_108 : decode cX12_comesTo 108 = .ok (.aload_n 0, 1) := by decide +kernel
theorem dX12_comesTo_109 : decode cX12_comesTo 109 = .ok (.getfield 66, 3) := by decide +kernel
theorem dX12_comesTo_112 : decode cX12_comesTo 112 = .ok (.iload_n 3, 1) := by decide +kernel
theorem dX12_comesTo_113 : decode cX12_comesTo 113 = .ok (.iconst 1, 1) := by decide +kernel
theorem dX12_comesTo_114 : decode cX12_comesTo 114 = .ok (.isub, 1) := by decide +kernel
theorem dX12_comesTo_115 : decode cX12_comesTo 115 = .ok (.iaload, 1) := by decide +kernel
theorem dX12_comesTo_116 : decode cX12_comesTo 116 = .ok (.isub, 1) := by decide +kernel
theorem dX12_comesTo_117 : decode cX12_comesTo 117 = .ok (.iastore, 1) := by decide +kernel
theorem dX12_comesTo_118 : decode cX12_comesTo 118 = .ok (.goto 112, 3) := by decide +kernel
theorem dX12_comesTo_121 : decode cX12_comesTo 121 = .ok (.iload 6, 2) := by decide +kernel
theorem dX12_comesTo_123 : decode cX12_comesTo 123 = .ok (.bipush 11, 2) := by decide +kernel
theorem dX12_comesTo_125 : decode cX12_comesTo 125 = .ok (.if_icmp .eq 10, 3) := by decide +kernel
theorem dX12_comesTo_128 : decode cX12_comesTo 128 = .ok (.iload 6, 2) := by decide +kernel
theorem dX12_comesTo_130 : decode cX12_comesTo 130 = .ok (.bipush 12, 2) := by decide +kernel
theorem dX12_comesTo_132 : decode cX12_comesTo 132 = .ok (.if_icmp .ne 43, 3) := by decide +kernel
theorem dX12_comesTo_135 : decode cX12_comesTo 135 = .ok (.aload_n 0, 1) := by decide +kernel
theorem dX12_comesTo_136 : decode cX12_comesTo 136 = .ok (.getfield 66, 3) := by decide +kernel
theorem dX12_comesTo_139 : decode cX12_comesTo 139 = .ok (.iload_n 3, 1) := by decide +kernel
theorem dX12_comesTo_140 : decode cX12_comesTo 140 = .ok (.iconst 1, 1) := by decide +kernel
theorem dX12_comesTo_141 : decode cX12_comesTo 141 = .ok (.isub, 1) := by decide +kernel
theorem dX12_comesTo_142 : decode cX12_comesTo 142 = .ok (.iaload, 1) := by decide +kernel
theorem dX12_comesTo_143 : decode cX12_comesTo 143 = .ok (.iload 6, 2) := by decide +kernel
theorem dX12_comesTo_145 : decode cX12_comesTo 145 = .ok (.bipush 12, 2) := by decide +kernel
theorem dX12_comesTo_147 : decode cX12_comesTo 147 = .ok (.if_icmp .ne 7, 3) := by decide +kernel
theorem dX12_comesTo_150 : decode cX12_comesTo 150 = .ok (.iconst 1, 1) := by decide +kernel
theorem dX12_comesTo_151 : decode cX12_comesTo 151 = .ok (.goto 4, 3) := by decide +kernel
theorem dX12_comesTo_154 : decode cX12_comesTo 154 = .ok (.iconst 0, 1) := by decide +kernel
theorem dX12_comesTo_155 : decode cX12_comesTo 155 = .ok (.if_icmp .ne 13, 3) := by decide +kernel
theorem dX12_comesTo_158 : decode cX12_comesTo 158 = .ok (.iload 4, 2) := by decide +kernel
theorem dX12_comesTo_160 : decode cX12_comesTo 160 = .ok (.iload 7, 2) := by decide +kernel
theorem dX12_comesTo_162 : decode cX12_comesTo 162 = .ok (.iadd, 1) := by decide +kernel
theorem dX12_comesTo_163 : decode cX12_comesTo 163 = .ok (.istore 5, 2) := by decide +kernel
theorem dX12_comesTo_165 : decode cX12_comesTo 165 = .ok (.goto 65, 3) := by decide +kernel
theorem dX12_comesTo_168 : decode cX12_comesTo 168 = .ok (.iload_n 3, 1) := by decide +kernel
theorem dX12_comesTo_169 : decode cX12_comesTo 169 = .ok (.iconst 1, 1) := by decide +kernel
theorem dX12_comesTo_170 : decode cX12_comesTo 170 = .ok (.isub, 1) := by decide +kernel
theorem dX12_comesTo_171 : decode cX12_comesTo 171 = .ok (.istore_n 3, 1) := by decide +kernel
theorem dX12_comesTo_172 : decode cX12_comesTo 172 = .ok (.goto 58, 3) := by decide +kernel
theorem dX12_comesTo_175 : decode cX12_comesTo 175 = .ok (.iload_n 3, 1) := by decide +kernel
theorem dX12_comesTo_176 : decode cX12_comesTo 176 = .ok (.iconst 1, 1) := by decide +kernel
theorem dX12_comesTo_177 : decode cX12_comesTo 177 = .ok (.isub, 1) := by decide +kernel
theorem dX12_comesTo_178 : decode cX12_comesTo 178 = .ok (.istore_n 3, 1) := by decide +kernel
theorem dX12_comesTo_179 : decode cX12_comesTo 179 = .ok (.iload 6, 2) := by decide +kernel
theorem dX12_comesTo_181 : decode cX12_comesTo 181 = .ok (.iconst 5, 1) := by decide +kernel
theorem dX12_comesTo_182 : decode cX12_comesTo 182 = .ok (.if_icmp .eq 10, 3) := by decide +kernel
theorem dX12_comesTo_185 : decode cX12_comesTo 185 = .ok (.iload 6, 2) := by decide +kernel
theorem dX12_comesTo_187 : decode cX12_comesTo 187 = .ok (.bipush 6, 2) := by decide +kernel
theorem dX12_comesTo_189 : decode cX12_comesTo 189 = .ok (.if_icmp .ne 14, 3) := by decide +kernel
theorem dX12_comesTo_192 : decode cX12_comesTo 192 = .ok (.aload_n 0, 1) := by decide +kernel
theorem dX12_comesTo_193 : decode cX12_comesTo 193 = .ok (.getfield 66, 3) := by decide +kernel
theorem dX12_comesTo_196 : decode cX12_comesTo 196 = .ok (.iload_n 3, 1) := by decide +kernel
theorem dX12_comesTo_197 : decode cX12_comesTo 197 = .ok (.iaload, 1) := by decide +kernel
theorem dX12_comesTo_198 : decode cX12_comesTo 198 = .ok (.ifCond .ne 5, 3) := by decide +kernel
theorem dX12_comesTo_201 : decode cX12_comesTo 201 = .ok (.iconst 0, 1) := by decide +kernel
theorem dX12_comesTo_202 : decode cX12_comesTo 202 = .ok (.ireturn, 1) := by decide +kernel
theorem dX12_comesTo_203 : decode cX12_comesTo 203 = .ok (.aload_n 0, 1) := by decide +kernel
theorem dX12_comesTo_204 : decode cX12_comesTo 204 = .ok (.getfield 66, 3) := by decide +kernel
theorem dX12_comesTo_207 : decode cX12_comesTo 207 = .ok (.iload_n 3, 1) := by decide +kernel
theorem dX12_comesTo_208 : decode cX12_comesTo 208 = .ok (.iconst 1, 1) := by decide +kernel
theorem dX12_comesTo_209 : decode cX12_comesTo 209 = .ok (.isub, 1) := by decide +kernel
theorem dX12_comesTo_210 : decode cX12_comesTo 210 = .ok (.iload 6, 2) := by decide +kernel
theorem dX12_comesTo_212 : decode cX12_comesTo 212 = .ok (.aload_n 0, 1) := by decide +kernel
theorem dX12_comesTo_213 : decode cX12_comesTo 213 = .ok (.getfield 66, 3) := by decide +kernel
theorem dX12_comesTo_216 : decode cX12_comesTo 216 = .ok (.iload_n 3, 1) := by decide +kernel
theorem dX12_comesTo_217 : decode cX12_comesTo 217 = .ok (.iconst 1, 1) := by decide +kernel
theorem dX12_comesTo_218 : decode cX12_comesTo 218 = .ok (.isub, 1) := by decide +kernel
theorem dX12_comesTo_219 : decode cX12_comesTo 219 = .ok (.iaload, 1) := by decide +kernel
theorem dX12_comesTo_220 : decode cX12_comesTo 220 = .ok (.aload_n 0, 1) := by decide +kernel
theorem dX12_comesTo_221 : decode cX12_comesTo 221 = .ok (.getfield 66, 3) := by decide +kernel
theorem dX12_comesTo_224 : decode cX12_comesTo 224 = .ok (.iload_n 3, 1) := by decide +kernel
theorem dX12_comesTo_225 : decode cX12_comesTo 225 = .ok (.iaload, 1) := by decide +kernel
theorem dX12_comesTo_226 : decode cX12_comesTo 226 = .ok (.invokestatic 302, 3) := by decide +kernel
theorem dX12_comesTo_229 : decode cX12_comesTo 229 = .ok (.iastore, 1) := by decide +kernel
theorem dX12_comesTo_230 : decode cX12_comesTo 230 = .ok (.goto (-214), 3) := by decide +kernel
theorem dX12_comesTo_233 : decode cX12_comesTo 233 = .ok (.aload_n 0, 1) := by decide +kernel
theorem dX12_comesTo_234 : decode cX12_comesTo 234 = .ok (.getfield 66, 3) := by decide +kernel
theorem dX12_comesTo_237 : decode cX12_comesTo 237 = .ok (.iconst 0, 1) := by decide +kernel
theorem dX12_comesTo_238 : decode cX12_comesTo 238 = .ok (.iaload, 1) := by decide +kernel
theorem dX12_comesTo_239 : decode cX12_comesTo 239 = .ok (.ireturn, 1) := by decide +kernel
theorem dX12_byLaw_0 : decode cX12_byLaw 0 = .ok (.iconst 0, 1) := by decide +kernel
theorem dX12_byLaw_1 : decode cX12_byLaw 1 = .ok (.istore_n 3, 1) := by decide +kernel
theorem dX12_byLaw_2 : decode cX12_byLaw 2 = .ok (.iload_n 3, 1) := by decide +kernel
theorem dX12_byLaw_3 : decode cX12_byLaw 3 = .ok (.aload_n 0, 1) := by decide +kernel
theorem dX12_byLaw_4 : decode cX12_byLaw 4 = .ok (.getfield 299, 3) := by decide +kernel
theorem dX12_byLaw_7 : decode cX12_byLaw 7 = .ok (.if_icmp .ge 82, 3) := by decide +kernel
theorem dX12_byLaw_10 : decode cX12_byLaw 10 = .ok (.aload_n 0, 1) := by decide +kernel
theorem dX12_byLaw_11 : decode cX12_byLaw 11 = .ok (.getfield 54, 3) := by decide +kernel
theorem dX12_byLaw_14 : decode cX12_byLaw 14 = .ok (.iload_n 3, 1) := by decide +kernel
theorem dX12_byLaw_15 : decode cX12_byLaw 15 = .ok (.iaload, 1) := by decide +kernel
theorem dX12_byLaw_16 : decode cX12_byLaw 16 = .ok (.iload_n 1, 1) := by decide +kernel
theorem dX12_byLaw_17 : decode cX12_byLaw 17 = .ok (.if_icmp .ne 66, 3) := by decide +kernel
theorem dX12_byLaw_20 : decode cX12_byLaw 20 = .ok (.aload_n 0, 1) := by decide +kernel
theorem dX12_byLaw_21 : decode cX12_byLaw 21 = .ok (.aload_n 0, 1) := by decide +kernel
theorem dX12_byLaw_22 : decode cX12_byLaw 22 = .ok (.getfield 60, 3) := by decide +kernel
theorem dX12_byLaw_25 : decode cX12_byLaw 25 = .ok (.iload_n 3, 1) := by decide +kernel
theorem dX12_byLaw_26 : decode cX12_byLaw 26 = .ok (.iaload, 1) := by decide +kernel
theorem dX12_byLaw_27 : decode cX12_byLaw 27 = .ok (.aload_n 0, 1) := by decide +kernel
theorem dX12_byLaw_28 : decode cX12_byLaw 28 = .ok (.getfield 63, 3) := by decide +kernel
theorem dX12_byLaw_31 : decode cX12_byLaw 31 = .ok (.iload_n 3, 1) := by decide +kernel
theorem dX12_byLaw_32 : decode cX12_byLaw 32 = .ok (.iaload, 1) := by decide +kernel
theorem dX12_byLaw_33 : decode cX12_byLaw 33 = .ok (.invokevirtual 305, 3) := by decide +kernel
theorem dX12_byLaw_36 : decode cX12_byLaw 36 = .ok (.iconst 1, 1) := by decide +kernel
theorem dX12_byLaw_37 : decode cX12_byLaw 37 = .ok (.if_icmp .eq 6, 3) := by decide +kernel
theorem dX12_byLaw_40 : decode cX12_byLaw 40 = .ok (.goto 43, 3) := by decide +kernel
theorem dX12_byLaw_43 : decode cX12_byLaw 43 = .ok (.aload_n 0, 1) := by decide +kernel
theorem dX12_byLaw_44 : decode cX12_byLaw 44 = .ok (.aload_n 0, 1) := by decide +kernel
theorem dX12_byLaw_45 : decode cX12_byLaw 45 = .ok (.getfield 57, 3) := by decide +kernel
theorem dX12_byLaw_48 : decode cX12_byLaw 48 = .ok (.iload_n 3, 1) := by decide +kernel
theorem dX12_byLaw_49 : decode cX12_byLaw 49 = .ok (.iaload, 1) := by decide +kernel
theorem dX12_byLaw_50 : decode cX12_byLaw 50 = .ok (.aload_n 0, 1) := by decide +kernel
theorem dX12_byLaw_51 : decode cX12_byLaw 51 = .ok (.getfield 60, 3) := by decide +kernel
theorem dX12_byLaw_54 : decode cX12_byLaw 54 = .ok (.iload_n 3, 1) := by decide +kernel
theorem dX12_byLaw_55 : decode cX12_byLaw 55 = .ok (.iaload, 1) := by decide +kernel
theorem dX12_byLaw_56 : decode cX12_byLaw 56 = .ok (.invokevirtual 305, 3) := by decide +kernel
theorem dX12_byLaw_59 : decode cX12_byLaw 59 = .ok (.istore 4, 2) := by decide +kernel
theorem dX12_byLaw_61 : decode cX12_byLaw 61 = .ok (.iload 4, 2) := by decide +kernel
theorem dX12_byLaw_63 : decode cX12_byLaw 63 = .ok (.ifCond .ge 7, 3) := by decide +kernel
theorem dX12_byLaw_66 : decode cX12_byLaw 66 = .ok (.iconst 0, 1) := by decide +kernel
theorem dX12_byLaw_67 : decode cX12_byLaw 67 = .ok (.goto 15, 3) := by decide +kernel
theorem dX12_byLaw_70 : decode cX12_byLaw 70 = .ok (.iload 4, 2) := by decide +kernel
theorem dX12_byLaw_72 : decode cX12_byLaw 72 = .ok (.iload_n 2, 1) := by decide +kernel
theorem dX12_byLaw_73 : decode cX12_byLaw 73 = .ok (.if_icmp .le 7, 3) := by decide +kernel
theorem dX12_byLaw_76 : decode cX12_byLaw 76 = .ok (.iload_n 2, 1) := by decide +kernel
theorem dX12_byLaw_77 : decode cX12_byLaw 77 = .ok (.goto 5, 3) := by decide +kernel
theorem dX12_byLaw_80 : decode cX12_byLaw 80 = .ok (.iload 4, 2) := by decide +kernel
theorem dX12_byLaw_82 : decode cX12_byLaw 82 = .ok (.ireturn, 1) := by decide +kernel
theorem dX12_byLaw_83 : decode cX12_byLaw 83 = .ok (.iinc 3 1, 3) := by decide +kernel
theorem dX12_byLaw_86 : decode cX12_byLaw 86 = .ok (.goto (-84), 3) := by decide +kernel
theorem dX12_byLaw_89 : decode cX12_byLaw 89 = .ok (.iconst 0, 1) := by decide +kernel
theorem dX12_byLaw_90 : decode cX12_byLaw 90 = .ok (.ireturn, 1) := by decide +kernel
theorem dX12_feels_0 : decode cX12_feels 0 = .ok (.iconst 0, 1) := by decide +kernel
theorem dX12_feels_1 : decode cX12_feels 1 = .ok (.istore 4, 2) := by decide +kernel
theorem dX12_feels_3 : decode cX12_feels 3 = .ok (.iconst 0, 1) := by decide +kernel
theorem dX12_feels_4 : decode cX12_feels 4 = .ok (.istore 5, 2) := by decide +kernel
theorem dX12_feels_6 : decode cX12_feels 6 = .ok (.iload 5, 2) := by decide +kernel
theorem dX12_feels_8 : decode cX12_feels 8 = .ok (.bipush 8, 2) := by decide +kernel
theorem dX12_feels_10 : decode cX12_feels 10 = .ok (.if_icmp .ge 55, 3) := by decide +kernel
theorem dX12_feels_13 : decode cX12_feels 13 = .ok (.iload 4, 2) := by decide +kernel
theorem dX12_feels_15 : decode cX12_feels 15 = .ok (.aload_n 0, 1) := by decide +kernel
theorem dX12_feels_16 : decode cX12_feels 16 = .ok (.iload_n 1, 1) := by decide +kernel
theorem dX12_feels_17 : decode cX12_feels 17 = .ok (.iload 5, 2) := by decide +kernel
theorem dX12_feels_19 : decode cX12_feels 19 = .ok (.invokevirtual 176, 3) := by decide +kernel
theorem dX12_feels_22 : decode cX12_feels 22 = .ok (.ifCond .eq 33, 3) := by decide +kernel
theorem dX12_feels_25 : decode cX12_feels 25 = .ok (.aload_n 0, 1) := by decide +kernel
theorem dX12_feels_26 : decode cX12_feels 26 = .ok (.getfield 22, 3) := by decide +kernel
theorem dX12_feels_29 : decode cX12_feels 29 = .ok (.bipush 8, 2) := by decide +kernel
theorem dX12_feels_31 : decode cX12_feels 31 = .ok (.iload_n 1, 1) := by decide +kernel
theorem dX12_feels_32 : decode cX12_feels 32 = .ok (.imul, 1) := by decide +kernel
theorem dX12_feels_33 : decode cX12_feels 33 = .ok (.iload 5, 2) := by decide +kernel
theorem dX12_feels_35 : decode cX12_feels 35 = .ok (.iadd, 1) := by decide +kernel
theorem dX12_feels_36 : decode cX12_feels 36 = .ok (.iaload, 1) := by decide +kernel
theorem dX12_feels_37 : decode cX12_feels 37 = .ok (.aload_n 0, 1) := by decide +kernel
theorem dX12_feels_38 : decode cX12_feels 38 = .ok (.getfield 22, 3) := by decide +kernel
theorem dX12_feels_41 : decode cX12_feels 41 = .ok (.bipush 8, 2) := by decide +kernel
theorem dX12_feels_43 : decode cX12_feels 43 = .ok (.iload_n 1, 1) := by decide +kernel
theorem dX12_feels_44 : decode cX12_feels 44 = .ok (.imul, 1) := by decide +kernel
theorem dX12_feels_45 : decode cX12_feels 45 = .ok (.iload_n 2, 1) := by decide +kernel
theorem dX12_feels_46 : decode cX12_feels 46 = .ok (.iadd, 1) := by decide +kernel
theorem dX12_feels_47 : decode cX12_feels 47 = .ok (.iaload, 1) := by decide +kernel
theorem dX12_feels_48 : decode cX12_feels 48 = .ok (.if_icmp .le 7, 3) := by decide +kernel
theorem dX12_feels_51 : decode cX12_feels 51 = .ok (.iconst 1, 1) := by decide +kernel
theorem dX12_feels_52 : decode cX12_feels 52 = .ok (.goto 4, 3) := by decide +kernel
theorem dX12_feels_55 : decode cX12_feels 55 = .ok (.iconst 0, 1) := by decide +kernel
theorem dX12_feels_56 : decode cX12_feels 56 = .ok (.iadd, 1) := by decide +kernel
theorem dX12_feels_57 : decode cX12_feels 57 = .ok (.istore 4, 2) := by decide +kernel
theorem dX12_feels_59 : decode cX12_feels 59 = .ok (.iinc 5 1, 3) := by decide +kernel
theorem dX12_feels_62 : decode cX12_feels 62 = .ok (.goto (-56), 3) := by decide +kernel
theorem dX12_feels_65 : decode cX12_feels 65 = .ok (.aload_n 0, 1) := by decide +kernel
theorem dX12_feels_66 : decode cX12_feels 66 = .ok (.getfield 69, 3) := by decide +kernel
theorem dX12_feels_69 : decode cX12_feels 69 = .ok (.iconst 0, 1) := by decide +kernel
theorem dX12_feels_70 : decode cX12_feels 70 = .ok (.aload_n 0, 1) := by decide +kernel
theorem dX12_feels_71 : decode cX12_feels 71 = .ok (.iload_n 1, 1) := by decide +kernel
theorem dX12_feels_72 : decode cX12_feels 72 = .ok (.iload_n 2, 1) := by decide +kernel
theorem dX12_feels_73 : decode cX12_feels 73 = .ok (.iload_n 3, 1) := by decide +kernel
theorem dX12_feels_74 : decode cX12_feels 74 = .ok (.invokevirtual 186, 3) := by decide +kernel
theorem dX12_feels_77 : decode cX12_feels 77 = .ok (.iastore, 1) := by decide +kernel
theorem dX12_feels_78 : decode cX12_feels 78 = .ok (.aload_n 0, 1) := by decide +kernel
theorem dX12_feels_79 : decode cX12_feels 79 = .ok (.getfield 69, 3) := by decide +kernel
theorem dX12_feels_82 : decode cX12_feels 82 = .ok (.iconst 1, 1) := by decide +kernel
theorem dX12_feels_83 : decode cX12_feels 83 = .ok (.aload_n 0, 1) := by decide +kernel
theorem dX12_feels_84 : decode cX12_feels 84 = .ok (.iload_n 1, 1) := by decide +kernel
theorem dX12_feels_85 : decode cX12_feels 85 = .ok (.iload_n 2, 1) := by decide +kernel
theorem dX12_feels_86 : decode cX12_feels 86 = .ok (.invokevirtual 193, 3) := by decide +kernel
theorem dX12_feels_89 : decode cX12_feels 89 = .ok (.iastore, 1) := by decide +kernel
theorem dX12_feels_90 : decode cX12_feels 90 = .ok (.aload_n 0, 1) := by decide +kernel
theorem dX12_feels_91 : decode cX12_feels 91 = .ok (.getfield 69, 3) := by decide +kernel
theorem dX12_feels_94 : decode cX12_feels 94 = .ok (.iconst 2, 1) := by decide +kernel
theorem dX12_feels_95 : decode cX12_feels 95 = .ok (.aload_n 0, 1) := by decide +kernel
theorem dX12_feels_96 : decode cX12_feels 96 = .ok (.iload_n 1, 1) := by decide +kernel
theorem dX12_feels_97 : decode cX12_feels 97 = .ok (.iload_n 3, 1) := by decide +kernel
theorem dX12_feels_98 : decode cX12_feels 98 = .ok (.invokevirtual 193, 3) := by decide +kernel
theorem dX12_feels_101 : decode cX12_feels 101 = .ok (.iastore, 1) := by decide +kernel
theorem dX12_feels_102 : decode cX12_feels 102 = .ok (.aload_n 0, 1) := by decide +kernel
theorem dX12_feels_103 : decode cX12_feels 103 = .ok (.getfield 69, 3) := by decide +kernel
theorem dX12_feels_106 : decode cX12_feels 106 = .ok (.iconst 3, 1) := by decide +kernel
theorem dX12_feels_107 : decode cX12_feels 107 = .ok (.aload_n 0, 1) := by decide +kernel
theorem dX12_feels_108 : decode cX12_feels 108 = .ok (.getfield 19, 3) := by decide +kernel
theorem dX12_feels_111 : decode cX12_feels 111 = .ok (.iload_n 1, 1) := by decide +kernel
theorem dX12_feels_112 : decode cX12_feels 112 = .ok (.iaload, 1) := by decide +kernel
theorem dX12_feels_113 : decode cX12_feels 113 = .ok (.invokestatic 172, 3) := by decide +kernel
theorem dX12_feels_116 : decode cX12_feels 116 = .ok (.iastore, 1) := by decide +kernel
theorem dX12_feels_117 : decode cX12_feels 117 = .ok (.aload_n 0, 1) := by decide +kernel
theorem dX12_feels_118 : decode cX12_feels 118 = .ok (.getfield 69, 3) := by decide +kernel
theorem dX12_feels_121 : decode cX12_feels 121 = .ok (.iconst 4, 1) := by decide +kernel
theorem dX12_feels_122 : decode cX12_feels 122 = .ok (.aload_n 0, 1) := by decide +kernel
theorem dX12_feels_123 : decode cX12_feels 123 = .ok (.iload_n 1, 1) := by decide +kernel
theorem dX12_feels_124 : decode cX12_feels 124 = .ok (.invokevirtual 183, 3) := by decide +kernel
theorem dX12_feels_127 : decode cX12_feels 127 = .ok (.aload_n 0, 1) := by decide +kernel
theorem dX12_feels_128 : decode cX12_feels 128 = .ok (.getfield 16, 3) := by decide +kernel
theorem dX12_feels_131 : decode cX12_feels 131 = .ok (.iload_n 1, 1) := by decide +kernel
theorem dX12_feels_132 : decode cX12_feels 132 = .ok (.iaload, 1) := by decide +kernel
theorem dX12_feels_133 : decode cX12_feels 133 = .ok (.isub, 1) := by decide +kernel
theorem dX12_feels_134 : decode cX12_feels 134 = .ok (.iastore, 1) := by decide +kernel
theorem dX12_feels_135 : decode cX12_feels 135 = .ok (.aload_n 0, 1) := by decide +kernel
theorem dX12_feels_136 : decode cX12_feels 136 = .ok (.getfield 69, 3) := by decide +kernel
theorem dX12_feels_139 : decode cX12_feels 139 = .ok (.iconst 5, 1) := by decide +kernel
theorem dX12_feels_140 : decode cX12_feels 140 = .ok (.aload_n 0, 1) := by decide +kernel
theorem dX12_feels_141 : decode cX12_feels 141 = .ok (.iload_n 1, 1) := by decide +kernel
theorem dX12_feels_142 : decode cX12_feels 142 = .ok (.iload_n 2, 1) := by decide +kernel
theorem dX12_feels_143 : decode cX12_feels 143 = .ok (.invokevirtual 200, 3) := by decide +kernel
theorem dX12_feels_146 : decode cX12_feels 146 = .ok (.iconst (-1), 1) := by decide +kernel
theorem dX12_feels_147 : decode cX12_feels 147 = .ok (.if_icmp .ne 7, 3) := by decide +kernel
theorem dX12_feels_150 : decode cX12_feels 150 = .ok (.iconst 0, 1) := by decide +kernel
theorem dX12_feels_151 : decode cX12_feels 151 = .ok (.goto 4, 3) := by decide +kernel
theorem dX12_feels_154 : decode cX12_feels 154 = .ok (.iconst 1, 1) := by decide +kernel
theorem dX12_feels_155 : decode cX12_feels 155 = .ok (.iastore, 1) := by decide +kernel
theorem dX12_feels_156 : decode cX12_feels 156 = .ok (.aload_n 0, 1) := by decide +kernel
theorem dX12_feels_157 : decode cX12_feels 157 = .ok (.getfield 69, 3) := by decide +kernel
theorem dX12_feels_160 : decode cX12_feels 160 = .ok (.bipush 6, 2) := by decide +kernel
theorem dX12_feels_162 : decode cX12_feels 162 = .ok (.iload 4, 2) := by decide +kernel
theorem dX12_feels_164 : decode cX12_feels 164 = .ok (.iastore, 1) := by decide +kernel
theorem dX12_feels_165 : decode cX12_feels 165 = .ok (.aload_n 0, 1) := by decide +kernel
theorem dX12_feels_166 : decode cX12_feels 166 = .ok (.getfield 69, 3) := by decide +kernel
theorem dX12_feels_169 : decode cX12_feels 169 = .ok (.bipush 7, 2) := by decide +kernel
theorem dX12_feels_171 : decode cX12_feels 171 = .ok (.aload_n 0, 1) := by decide +kernel
theorem dX12_feels_172 : decode cX12_feels 172 = .ok (.getfield 16, 3) := by decide +kernel
theorem dX12_feels_175 : decode cX12_feels 175 = .ok (.iload_n 1, 1) := by decide +kernel
theorem dX12_feels_176 : decode cX12_feels 176 = .ok (.iaload, 1) := by decide +kernel
theorem dX12_feels_177 : decode cX12_feels 177 = .ok (.bipush 60, 2) := by decide +kernel
theorem dX12_feels_179 : decode cX12_feels 179 = .ok (.idiv, 1) := by decide +kernel
theorem dX12_feels_180 : decode cX12_feels 180 = .ok (.iastore, 1) := by decide +kernel
theorem dX12_feels_181 : decode cX12_feels 181 = .ok (.aload_n 0, 1) := by decide +kernel
theorem dX12_feels_182 : decode cX12_feels 182 = .ok (.getfield 69, 3) := by decide +kernel
theorem dX12_feels_185 : decode cX12_feels 185 = .ok (.bipush 8, 2) := by decide +kernel
theorem dX12_feels_187 : decode cX12_feels 187 = .ok (.aload_n 0, 1) := by decide +kernel
theorem dX12_feels_188 : decode cX12_feels 188 = .ok (.getfield 13, 3) := by decide +kernel
theorem dX12_feels_191 : decode cX12_feels 191 = .ok (.iload_n 1, 1) := by decide +kernel
theorem dX12_feels_192 : decode cX12_feels 192 = .ok (.iaload, 1) := by decide +kernel
theorem dX12_feels_193 : decode cX12_feels 193 = .ok (.iastore, 1) := by decide +kernel
theorem dX12_feels_194 : decode cX12_feels 194 = .ok (.aload_n 0, 1) := by decide +kernel
theorem dX12_feels_195 : decode cX12_feels 195 = .ok (.getfield 69, 3) := by decide +kernel
theorem dX12_feels_198 : decode cX12_feels 198 = .ok (.bipush 9, 2) := by decide +kernel
theorem dX12_feels_200 : decode cX12_feels 200 = .ok (.iload_n 2, 1) := by decide +kernel
theorem dX12_feels_201 : decode cX12_feels 201 = .ok (.iastore, 1) := by decide +kernel
theorem dX12_feels_202 : decode cX12_feels 202 = .ok (.aload_n 0, 1) := by decide +kernel
theorem dX12_feels_203 : decode cX12_feels 203 = .ok (.getfield 69, 3) := by decide +kernel
theorem dX12_feels_206 : decode cX12_feels 206 = .ok (.bipush 10, 2) := by decide +kernel
theorem dX12_feels_208 : decode cX12_feels 208 = .ok (.iload_n 3, 1) := by decide +kernel
theorem dX12_feels_209 : decode cX12_feels 209 = .ok (.iastore, 1) := by decide +kernel
theorem dX12_feels_210 : decode cX12_feels 210 = .ok (.aload_n 0, 1) := by decide +kernel
theorem dX12_feels_211 : decode cX12_feels 211 = .ok (.getfield 69, 3) := by decide +kernel
theorem dX12_feels_214 : decode cX12_feels 214 = .ok (.bipush 11, 2) := by decide +kernel
theorem dX12_feels_216 : decode cX12_feels 216 = .ok (.aload_n 0, 1) := by decide +kernel
theorem dX12_feels_217 : decode cX12_feels 217 = .ok (.getfield 7, 3) := by decide +kernel
theorem dX12_feels_220 : decode cX12_feels 220 = .ok (.bipush 24, 2) := by decide +kernel
theorem dX12_feels_222 : decode cX12_feels 222 = .ok (.iload_n 3, 1) := by decide +kernel
theorem dX12_feels_223 : decode cX12_feels 223 = .ok (.imul, 1) := by decide +kernel
theorem dX12_feels_224 : decode cX12_feels 224 = .ok (.aload_n 0, 1) := by decide +kernel
theorem dX12_feels_225 : decode cX12_feels 225 = .ok (.getfield 16, 3) := by decide +kernel
theorem dX12_feels_228 : decode cX12_feels 228 = .ok (.iload_n 1, 1) := by decide +kernel
theorem dX12_feels_229 : decode cX12_feels 229 = .ok (.iaload, 1) := by decide +kernel
theorem dX12_feels_230 : decode cX12_feels 230 = .ok (.bipush 60, 2) := by decide +kernel
theorem dX12_feels_232 : decode cX12_feels 232 = .ok (.idiv, 1) := by decide +kernel
theorem dX12_feels_233 : decode cX12_feels 233 = .ok (.iadd, 1) := by decide +kernel
theorem dX12_feels_234 : decode cX12_feels 234 = .ok (.iaload, 1) := by decide +kernel
theorem dX12_feels_235 : decode cX12_feels 235 = .ok (.iastore, 1) := by decide +kernel
theorem dX12_feels_236 : decode cX12_feels 236 = .ok (.return_, 1) := by decide +kernel
theorem dX12_owesBy_0 : decode cX12_owesBy 0 = .ok (.aload_n 0, 1) := by decide +kernel
theorem dX12_owesBy_1 : decode cX12_owesBy 1 = .ok (.iload_n 1, 1) := by decide +kernel
theorem dX12_owesBy_2 : decode cX12_owesBy 2 = .ok (.iload_n 2, 1) := by decide +kernel
theorem dX12_owesBy_3 : decode cX12_owesBy 3 = .ok (.iload_n 3, 1) := by decide +kernel
theorem dX12_owesBy_4 : decode cX12_owesBy 4 = .ok (.invokevirtual 308, 3) := by decide +kernel
theorem dX12_owesBy_7 : decode cX12_owesBy 7 = .ok (.iload 4, 2) := by decide +kernel
theorem dX12_owesBy_9 : decode cX12_owesBy 9 = .ok (.ifCond .ne 15, 3) := by decide +kernel
theorem dX12_owesBy_12 : decode cX12_owesBy 12 = .ok (.aload_n 0, 1) := by decide +kernel
theorem dX12_owesBy_13 : decode cX12_owesBy 13 = .ok (.bipush 111, 2) := by decide +kernel
theorem dX12_owesBy_15 : decode cX12_owesBy 15 = .ok (.sipush 1440, 3) := by decide +kernel
theorem dX12_owesBy_18 : decode cX12_owesBy 18 = .ok (.invokevirtual 312, 3) := by decide +kernel
theorem dX12_owesBy_21 : decode cX12_owesBy 21 = .ok (.goto 28, 3) := by decide +kernel
theorem dX12_owesBy_24 : decode cX12_owesBy 24 = .ok (.iload 4, 2) := by decide +kernel
theorem dX12_owesBy_26 : decode cX12_owesBy 26 = .ok (.iconst 1, 1) := by decide +kernel
theorem dX12_owesBy_27 : decode cX12_owesBy 27 = .ok (.if_icmp .ne 14, 3) := by decide +kernel
theorem dX12_owesBy_30 : decode cX12_owesBy 30 = .ok (.aload_n 0, 1) := by decide +kernel
theorem dX12_owesBy_31 : decode cX12_owesBy 31 = .ok (.bipush 112, 2) := by decide +kernel
theorem dX12_owesBy_33 : decode cX12_owesBy 33 = .ok (.bipush 100, 2) := by decide +kernel
theorem dX12_owesBy_35 : decode cX12_owesBy 35 = .ok (.invokevirtual 312, 3) := by decide +kernel
theorem dX12_owesBy_38 : decode cX12_owesBy 38 = .ok (.goto 11, 3) := by decide +kernel
theorem dX12_owesBy_41 : decode cX12_owesBy 41 = .ok (.aload_n 0, 1) := by decide +kernel
theorem dX12_owesBy_42 : decode cX12_owesBy 42 = .ok (.bipush 108, 2) := by decide +kernel
theorem dX12_owesBy_44 : decode cX12_owesBy 44 = .ok (.bipush 100, 2) := by decide +kernel
theorem dX12_owesBy_46 : decode cX12_owesBy 46 = .ok (.invokevirtual 312, 3) := by decide +kernel
theorem dX12_owesBy_49 : decode cX12_owesBy 49 = .ok (.ireturn, 1) := by decide +kernel
theorem dX12_areTwo_0 : decode cX12_areTwo 0 = .ok (.aload_n 0, 1) := by decide +kernel
theorem dX12_areTwo_1 : decode cX12_areTwo 1 = .ok (.iload_n 1, 1) := by decide +kernel
theorem dX12_areTwo_2 : decode cX12_areTwo 2 = .ok (.iload_n 2, 1) := by decide +kernel
theorem dX12_areTwo_3 : decode cX12_areTwo 3 = .ok (.invokevirtual 176, 3) := by decide +kernel
theorem dX12_areTwo_6 : decode cX12_areTwo 6 = .ok (.ifCond .eq 29, 3) := by decide +kernel
theorem dX12_areTwo_9 : decode cX12_areTwo 9 = .ok (.aload_n 0, 1) := by decide +kernel
theorem dX12_areTwo_10 : decode cX12_areTwo 10 = .ok (.iload_n 1, 1) := by decide +kernel
theorem dX12_areTwo_11 : decode cX12_areTwo 11 = .ok (.iload_n 3, 1) := by decide +kernel
theorem dX12_areTwo_12 : decode cX12_areTwo 12 = .ok (.invokevirtual 176, 3) := by decide +kernel
theorem dX12_areTwo_15 : decode cX12_areTwo 15 = .ok (.ifCond .eq 20, 3) := by decide +kernel
theorem dX12_areTwo_18 : decode cX12_areTwo 18 = .ok (.iload_n 2, 1) := by decide +kernel
theorem dX12_areTwo_19 : decode cX12_areTwo 19 = .ok (.iload_n 3, 1) := by decide +kernel
theorem dX12_areTwo_20 : decode cX12_areTwo 20 = .ok (.if_icmp .eq 15, 3) := by decide +kernel
theorem dX12_areTwo_23 : decode cX12_areTwo 23 = .ok (.aload_n 0, 1) := by decide +kernel
theorem dX12_areTwo_24 : decode cX12_areTwo 24 = .ok (.iload_n 1, 1) := by decide +kernel
theorem dX12_areTwo_25 : decode cX12_areTwo 25 = .ok (.invokevirtual 180, 3) := by decide +kernel
theorem dX12_areTwo_28 : decode cX12_areTwo 28 = .ok (.ifCond .eq 7, 3) := by decide +kernel
theorem dX12_areTwo_31 : decode cX12_areTwo 31 = .ok (.iconst 1, 1) := by decide +kernel
theorem dX12_areTwo_32 : decode cX12_areTwo 32 = .ok (.goto 4, 3) := by decide +kernel
theorem dX12_areTwo_35 : decode cX12_areTwo 35 = .ok (.iconst 0, 1) := by decide +kernel
theorem dX12_areTwo_36 : decode cX12_areTwo 36 = .ok (.ireturn, 1) := by decide +kernel
theorem dX12_owes_0 : decode cX12_owes 0 = .ok (.aload_n 0, 1) := by decide +kernel
theorem dX12_owes_1 : decode cX12_owes 1 = .ok (.iload_n 1, 1) := by decide +kernel
theorem dX12_owes_2 : decode cX12_owes 2 = .ok (.iload_n 2, 1) := by decide +kernel
theorem dX12_owes_3 : decode cX12_owes 3 = .ok (.iload_n 3, 1) := by decide +kernel
theorem dX12_owes_4 : decode cX12_owes 4 = .ok (.invokevirtual 315, 3) := by decide +kernel
theorem dX12_owes_7 : decode cX12_owes 7 = .ok (.ifCond .eq 25, 3) := by decide +kernel
theorem dX12_owes_10 : decode cX12_owes 10 = .ok (.iload 4, 2) := by decide +kernel
theorem dX12_owes_12 : decode cX12_owes 12 = .ok (.iconst 0, 1) := by decide +kernel
theorem dX12_owes_13 : decode cX12_owes 13 = .ok (.iconst 2, 1) := by decide +kernel
theorem dX12_owes_14 : decode cX12_owes 14 = .ok (.invokestatic 168, 3) := by decide +kernel
theorem dX12_owes_17 : decode cX12_owes 17 = .ok (.ifCond .eq 15, 3) := by decide +kernel
theorem dX12_owes_20 : decode cX12_owes 20 = .ok (.aload_n 0, 1) := by decide +kernel
theorem dX12_owes_21 : decode cX12_owes 21 = .ok (.iload_n 1, 1) := by decide +kernel
theorem dX12_owes_22 : decode cX12_owes 22 = .ok (.iload_n 2, 1) := by decide +kernel
theorem dX12_owes_23 : decode cX12_owes 23 = .ok (.iload_n 3, 1) := by decide +kernel
theorem dX12_owes_24 : decode cX12_owes 24 = .ok (.iload 4, 2) := by decide +kernel
theorem dX12_owes_26 : decode cX12_owes 26 = .ok (.invokevirtual 318, 3) := by decide +kernel
theorem dX12_owes_29 : decode cX12_owes 29 = .ok (.goto 4, 3) := by decide +kernel
theorem dX12_owes_32 : decode cX12_owes 32 = .ok (.iconst (-1), 1) := by decide +kernel
theorem dX12_owes_33 : decode cX12_owes 33 = .ok (.ireturn, 1) := by decide +kernel
theorem dX12_chains_0 : decode cX12_chains 0 = .ok (.aload_n 0, 1) := by decide +kernel
theorem dX12_chains_1 : decode cX12_chains 1 = .ok (.iload_n 1, 1) := by decide +kernel
theorem dX12_chains_2 : decode cX12_chains 2 = .ok (.iload_n 2, 1) := by decide +kernel
theorem dX12_chains_3 : decode cX12_chains 3 = .ok (.iload_n 3, 1) := by decide +kernel
theorem dX12_chains_4 : decode cX12_chains 4 = .ok (.iconst 1, 1) := by decide +kernel
theorem dX12_chains_5 : decode cX12_chains 5 = .ok (.invokevirtual 318, 3) := by decide +kernel
theorem dX12_chains_8 : decode cX12_chains 8 = .ok (.istore 4, 2) := by decide +kernel
theorem dX12_chains_10 : decode cX12_chains 10 = .ok (.aload_n 0, 1) := by decide +kernel
theorem dX12_chains_11 : decode cX12_chains 11 = .ok (.iload_n 1, 1) := by decide +kernel
theorem dX12_chains_12 : decode cX12_chains 12 = .ok (.iload_n 2, 1) := by decide +kernel
theorem dX12_chains_13 : decode cX12_chains 13 = .ok (.iload_n 3, 1) := by decide +kernel
theorem dX12_chains_14 : decode cX12_chains 14 = .ok (.iconst 0, 1) := by decide +kernel
theorem dX12_chains_15 : decode cX12_chains 15 = .ok (.invokevirtual 318, 3) := by decide +kernel
theorem dX12_chains_18 : decode cX12_chains 18 = .ok (.istore 5, 2) := by decide +kernel
theorem dX12_chains_20 : decode cX12_chains 20 = .ok (.iload_n 2, 1) := by decide +kernel
theorem dX12_chains_21 : decode cX12_chains 21 = .ok (.istore 6, 2) := by decide +kernel
theorem dX12_chains_23 : decode cX12_chains 23 = .ok (.iload_n 1, 1) := by decide +kernel
theorem dX12_chains_24 : decode cX12_chains 24 = .ok (.istore 7, 2) := by decide +kernel
theorem dX12_chains_26 : decode cX12_chains 26 = .ok (.aload_n 0, 1) := by decide +kernel
theorem dX12_chains_27 : decode cX12_chains 27 = .ok (.iconst 0, 1) := by decide +kernel
theorem dX12_chains_28 : decode cX12_chains 28 = .ok (.putfield 322, 3) := by decide +kernel
theorem dX12_chains_31 : decode cX12_chains 31 = .ok (.iload 6, 2) := by decide +kernel
theorem dX12_chains_33 : decode cX12_chains 33 = .ok (.iconst (-1), 1) := by decide +kernel
theorem dX12_chains_34 : decode cX12_chains 34 = .ok (.if_icmp .eq 96, 3) := by decide +kernel
theorem dX12_chains_37 : decode cX12_chains 37 = .ok (.aload_n 0, 1) := by decide +kernel
theorem dX12_chains_38 : decode cX12_chains 38 = .ok (.iload 7, 2) := by decide +kernel
theorem dX12_chains_40 : decode cX12_chains 40 = .ok (.iload 6, 2) := by decide +kernel
theorem dX12_chains_42 : decode cX12_chains 42 = .ok (.invokevirtual 200, 3) := by decide +kernel
theorem dX12_chains_45 : decode cX12_chains 45 = .ok (.istore 8, 2) := by decide +kernel
theorem dX12_chains_47 : decode cX12_chains 47 = .ok (.iload 8, 2) := by decide +kernel
theorem dX12_chains_49 : decode cX12_chains 49 = .ok (.iconst (-1), 1) := by decide +kernel
theorem dX12_chains_50 : decode cX12_chains 50 = .ok (.if_icmp .ne 7, 3) := by decide +kernel
theorem dX12_chains_53 : decode cX12_chains 53 = .ok (.iconst 0, 1) := by decide +kernel
theorem dX12_chains_54 : decode cX12_chains 54 = .ok (.goto 11, 3) := by decide +kernel
theorem dX12_chains_57 : decode cX12_chains 57 = .ok (.iload 5, 2) := by decide +kernel
theorem dX12_chains_59 : decode cX12_chains 59 = .ok (.iload 4, 2) := by decide +kernel
theorem dX12_chains_61 : decode cX12_chains 61 = .ok (.imul, 1) := by decide +kernel
theorem dX12_chains_62 : decode cX12_chains 62 = .ok (.bipush 100, 2) := by decide +kernel
theorem dX12_chains_64 : decode cX12_chains 64 = .ok (.idiv, 1) := by decide +kernel
theorem dX12_chains_65 : decode cX12_chains 65 = .ok (.istore 9, 2) := by decide +kernel
theorem dX12_chains_67 : decode cX12_chains 67 = .ok (.aload_n 0, 1) := by decide +kernel
theorem dX12_chains_68 : decode cX12_chains 68 = .ok (.getfield 72, 3) := by decide +kernel
theorem dX12_chains_71 : decode cX12_chains 71 = .ok (.aload_n 0, 1) := by decide +kernel
theorem dX12_chains_72 : decode cX12_chains 72 = .ok (.getfield 322, 3) := by decide +kernel
theorem dX12_chains_75 : decode cX12_chains 75 = .ok (.iload 6, 2) := by decide +kernel
theorem dX12_chains_77 : decode cX12_chains 77 = .ok (.iastore, 1) := by decide +kernel
theorem dX12_chains_78 : decode cX12_chains 78 = .ok (.aload_n 0, 1) := by decide +kernel
theorem dX12_chains_79 : decode cX12_chains 79 = .ok (.getfield 75, 3) := by decide +kernel
theorem dX12_chains_82 : decode cX12_chains 82 = .ok (.aload_n 0, 1) := by decide +kernel
theorem dX12_chains_83 : decode cX12_chains 83 = .ok (.getfield 322, 3) := by decide +kernel
theorem dX12_chains_86 : decode cX12_chains 86 = .ok (.iload 5, 2) := by decide +kernel
theorem dX12_chains_88 : decode cX12_chains 88 = .ok (.iload 9, 2) := by decide +kernel
theorem dX12_chains_90 : decode cX12_chains 90 = .ok (.isub, 1) := by decide +kernel
theorem dX12_chains_91 : decode cX12_chains 91 = .ok (.iastore, 1) := by decide +kernel
theorem dX12_chains_92 : decode cX12_chains 92 = .ok (.aload_n 0, 1) := by decide +kernel
theorem dX12_chains_93 : decode cX12_chains 93 = .ok (.aload_n 0, 1) := by decide +kernel
theorem dX12_chains_94 : decode cX12_chains 94 = .ok (.getfield 322, 3) := by decide +kernel
theorem dX12_chains_97 : decode cX12_chains 97 = .ok (.iconst 1, 1) := by decide +kernel
theorem dX12_chains_98 : decode cX12_chains 98 = .ok (.iadd, 1) := by decide +kernel
theorem dX12_chains_99 : decode cX12_chains 99 = .ok (.putfield 322, 3) := by decide +kernel
theorem dX12_chains_102 : decode cX12_chains 102 = .ok (.iload 9, 2) := by decide +kernel
theorem dX12_chains_104 : decode cX12_chains 104 = .ok (.ifCond .le 12, 3) := by decide +kernel
theorem dX12_chains_107 : decode cX12_chains 107 = .ok (.aload_n 0, 1) := by decide +kernel
theorem dX12_chains_108 : decode cX12_chains 108 = .ok (.iload 8, 2) := by decide +kernel
theorem dX12_chains_110 : decode cX12_chains 110 = .ok (.invokevirtual 190, 3) := by decide +kernel
theorem dX12_chains_113 : decode cX12_chains 113 = .ok (.goto 4, 3) := by decide +kernel
theorem dX12_chains_116 : decode cX12_chains 116 = .ok (.iconst (-1), 1) := by decide +kernel
theorem dX12_chains_117 : decode cX12_chains 117 = .ok (.istore 6, 2) := by decide +kernel
theorem dX12_chains_119 : decode cX12_chains 119 = .ok (.iload 8, 2) := by decide +kernel
theorem dX12_chains_121 : decode cX12_chains 121 = .ok (.istore 7, 2) := by decide +kernel
theorem dX12_chains_123 : decode cX12_chains 123 = .ok (.iload 9, 2) := by decide +kernel
theorem dX12_chains_125 : decode cX12_chains 125 = .ok (.istore 5, 2) := by decide +kernel
theorem dX12_chains_127 : decode cX12_chains 127 = .ok (.goto (-96), 3) := by decide +kernel
theorem dX12_chains_130 : decode cX12_chains 130 = .ok (.return_, 1) := by decide +kernel
theorem dX12_chain_0 : decode cX12_chain 0 = .ok (.aload_n 0, 1) := by decide +kernel
theorem dX12_chain_1 : decode cX12_chain 1 = .ok (.iload_n 1, 1) := by decide +kernel
theorem dX12_chain_2 : decode cX12_chain 2 = .ok (.iload_n 2, 1) := by decide +kernel
theorem dX12_chain_3 : decode cX12_chain 3 = .ok (.iload_n 3, 1) := by decide +kernel
theorem dX12_chain_4 : decode cX12_chain 4 = .ok (.invokevirtual 315, 3) := by decide +kernel
theorem dX12_chain_7 : decode cX12_chain 7 = .ok (.ifCond .ne 5, 3) := by decide +kernel
theorem dX12_chain_10 : decode cX12_chain 10 = .ok (.iconst (-1), 1) := by decide +kernel
theorem dX12_chain_11 : decode cX12_chain 11 = .ok (.ireturn, 1) := by decide +kernel
theorem dX12_chain_12 : decode cX12_chain 12 = .ok (.aload_n 0, 1) := by decide +kernel
theorem dX12_chain_13 : decode cX12_chain 13 = .ok (.iload_n 1, 1) := by decide +kernel
theorem dX12_chain_14 : decode cX12_chain 14 = .ok (.iload_n 2, 1) := by decide +kernel
theorem dX12_chain_15 : decode cX12_chain 15 = .ok (.iload_n 3, 1) := by decide +kernel
theorem dX12_chain_16 : decode cX12_chain 16 = .ok (.invokevirtual 325, 3) := by decide +kernel
theorem dX12_chain_19 : decode cX12_chain 19 = .ok (.iload 4, 2) := by decide +kernel
theorem dX12_chain_21 : decode cX12_chain 21 = .ok (.ifCond .ne 8, 3) := by decide +kernel
theorem dX12_chain_24 : decode cX12_chain 24 = .ok (.aload_n 0, 1) := by decide +kernel
theorem dX12_chain_25 : decode cX12_chain 25 = .ok (.getfield 322, 3) := by decide +kernel
theorem dX12_chain_28 : decode cX12_chain 28 = .ok (.ireturn, 1) := by decide +kernel
theorem dX12_chain_29 : decode cX12_chain 29 = .ok (.iload 4, 2) := by decide +kernel
theorem dX12_chain_31 : decode cX12_chain 31 = .ok (.bipush 10, 2) := by decide +kernel
theorem dX12_chain_33 : decode cX12_chain 33 = .ok (.bipush 19, 2) := by decide +kernel
theorem dX12_chain_35 : decode cX12_chain 35 = .ok (.invokestatic 168, 3) := by decide +kernel
theorem dX12_chain_38 : decode cX12_chain 38 = .ok (.ifCond .eq 30, 3) := by decide +kernel
theorem dX12_chain_41 : decode cX12_chain 41 = .ok (.iload 4, 2) := by decide +kernel
theorem dX12_chain_43 : decode cX12_chain 43 = .ok (.bipush 10, 2) := by decide +kernel
theorem dX12_chain_45 : decode cX12_chain 45 = .ok (.isub, 1) := by decide +kernel
theorem dX12_chain_46 : decode cX12_chain 46 = .ok (.aload_n 0, 1) := by decide +kernel
theorem dX12_chain_47 : decode cX12_chain 47 = .ok (.getfield 322, 3) := by decide +kernel
theorem dX12_chain_50 : decode cX12_chain 50 = .ok (.if_icmp .ge 16, 3) := by decide +kernel
theorem dX12_chain_53 : decode cX12_chain 53 = .ok (.aload_n 0, 1) := by decide +kernel
theorem dX12_chain_54 : decode cX12_chain 54 = .ok (.getfield 72, 3) := by decide +kernel
theorem dX12_chain_57 : decode cX12_chain 57 = .ok (.iload 4, 2) := by decide +kernel
theorem dX12_chain_59 : decode cX12_chain 59 = .ok (.bipush 10, 2) := by decide +kernel
theorem dX12_chain_61 : decode cX12_chain 61 = .ok (.isub, 1) := by decide +kernel
theorem dX12_chain_62 : decode cX12_chain 62 = .ok (.iaload, 1) := by decide +kernel
theorem dX12_chain_63 : decode cX12_chain 63 = .ok (.goto 4, 3) := by decide +kernel
theorem dX12_chain_66 : decode cX12_chain 66 = .ok (.iconst (-1), 1) := by decide +kernel
theorem dX12_chain_67 : decode cX12_chain 67 = .ok (.ireturn, 1) := by decide +kernel
theorem dX12_chain_68 : decode cX12_chain 68 = .ok (.iload 4, 2) := by decide +kernel
theorem dX12_chain_70 : decode cX12_chain 70 = .ok (.bipush 20, 2) := by decide +kernel
theorem dX12_chain_72 : decode cX12_chain 72 = .ok (.bipush 19, 2) := by decide +kernel
theorem dX12_chain_74 : decode cX12_chain 74 = .ok (.aload_n 0, 1) := by decide +kernel
theorem dX12_chain_75 : decode cX12_chain 75 = .ok (.getfield 322, 3) := by decide +kernel
theorem dX12_chain_78 : decode cX12_chain 78 = .ok (.iadd, 1) := by decide +kernel
theorem dX12_chain_79 : decode cX12_chain 79 = .ok (.invokestatic 168, 3) := by decide +kernel
theorem dX12_chain_82 : decode cX12_chain 82 = .ok (.ifCond .eq 16, 3) := by decide +kernel
theorem dX12_chain_85 : decode cX12_chain 85 = .ok (.aload_n 0, 1) := by decide +kernel
theorem dX12_chain_86 : decode cX12_chain 86 = .ok (.getfield 75, 3) := by decide +kernel
theorem dX12_chain_89 : decode cX12_chain 89 = .ok (.iload 4, 2) := by decide +kernel
theorem dX12_chain_91 : decode cX12_chain 91 = .ok (.bipush 20, 2) := by decide +kernel
theorem dX12_chain_93 : decode cX12_chain 93 = .ok (.isub, 1) := by decide +kernel
theorem dX12_chain_94 : decode cX12_chain 94 = .ok (.iaload, 1) := by decide +kernel
theorem dX12_chain_95 : decode cX12_chain 95 = .ok (.goto 4, 3) := by decide +kernel
theorem dX12_chain_98 : decode cX12_chain 98 = .ok (.iconst (-1), 1) := by decide +kernel
theorem dX12_chain_99 : decode cX12_chain 99 = .ok (.ireturn, 1) := by decide +kernel
theorem dX12_makes_0 : decode cX12_makes 0 = .ok (.aload_n 0, 1) := by decide +kernel
theorem dX12_makes_1 : decode cX12_makes 1 = .ok (.getfield 78, 3) := by decide +kernel
theorem dX12_makes_4 : decode cX12_makes 4 = .ok (.aload_n 0, 1) := by decide +kernel
theorem dX12_makes_5 : decode cX12_makes 5 = .ok (.getfield 328, 3) := by decide +kernel
theorem dX12_makes_8 : decode cX12_makes 8 = .ok (.iload_n 1, 1) := by decide +kernel
theorem dX12_makes_9 : decode cX12_makes 9 = .ok (.iastore, 1) := by decide +kernel
theorem dX12_makes_10 : decode cX12_makes 10 = .ok (.aload_n 0, 1) := by decide +kernel
theorem dX12_makes_11 : decode cX12_makes 11 = .ok (.getfield 81, 3) := by decide +kernel
theorem dX12_makes_14 : decode cX12_makes 14 = .ok (.aload_n 0, 1) := by decide +kernel
theorem dX12_makes_15 : decode cX12_makes 15 = .ok (.getfield 328, 3) := by decide +kernel
theorem dX12_makes_18 : decode cX12_makes 18 = .ok (.iload_n 2, 1) := by decide +kernel
theorem dX12_makes_19 : decode cX12_makes 19 = .ok (.iastore, 1) := by decide +kernel
theorem dX12_makes_20 : decode cX12_makes 20 = .ok (.aload_n 0, 1) := by decide +kernel
theorem dX12_makes_21 : decode cX12_makes 21 = .ok (.getfield 84, 3) := by decide +kernel
theorem dX12_makes_24 : decode cX12_makes 24 = .ok (.aload_n 0, 1) := by decide +kernel
theorem dX12_makes_25 : decode cX12_makes 25 = .ok (.getfield 328, 3) := by decide +kernel
theorem dX12_makes_28 : decode cX12_makes 28 = .ok (.iload_n 3, 1) := by decide +kernel
theorem dX12_makes_29 : decode cX12_makes 29 = .ok (.iastore, 1) := by decide +kernel
theorem dX12_makes_30 : decode cX12_makes 30 = .ok (.aload_n 0, 1) := by decide +kernel
theorem dX12_makes_31 : decode cX12_makes 31 = .ok (.getfield 87, 3) := by decide +kernel
theorem dX12_makes_34 : decode cX12_makes 34 = .ok (.aload_n 0, 1) := by decide +kernel
theorem dX12_makes_35 : decode cX12_makes 35 = .ok (.getfield 328, 3) := by decide +kernel
theorem dX12_makes_38 : decode cX12_makes 38 = .ok (.iload 4, 2) := by decide +kernel
theorem dX12_makes_40 : decode cX12_makes 40 = .ok (.iastore, 1) := by decide +kernel
theorem dX12_makes_41 : decode cX12_makes 41 = .ok (.aload_n 0, 1) := by decide +kernel
theorem dX12_makes_42 : decode cX12_makes 42 = .ok (.getfield 90, 3) := by decide +kernel
theorem dX12_makes_45 : decode cX12_makes 45 = .ok (.aload_n 0, 1) := by decide +kernel
theorem dX12_makes_46 : decode cX12_makes 46 = .ok (.getfield 328, 3) := by decide +kernel
theorem dX12_makes_49 : decode cX12_makes 49 = .ok (.iload 5, 2) := by decide +kernel
theorem dX12_makes_51 : decode cX12_makes 51 = .ok (.iastore, 1) := by decide +kernel
theorem dX12_makes_52 : decode cX12_makes 52 = .ok (.aload_n 0, 1) := by decide +kernel
theorem dX12_makes_53 : decode cX12_makes 53 = .ok (.aload_n 0, 1) := by decide +kernel
theorem dX12_makes_54 : decode cX12_makes 54 = .ok (.getfield 328, 3) := by decide +kernel
theorem dX12_makes_57 : decode cX12_makes 57 = .ok (.iconst 1, 1) := by decide +kernel
theorem dX12_makes_58 : decode cX12_makes 58 = .ok (.iadd, 1) := by decide +kernel
theorem dX12_makes_59 : decode cX12_makes 59 = .ok (.putfield 328, 3) := by decide +kernel
theorem dX12_makes_62 : decode cX12_makes 62 = .ok (.return_, 1) := by decide +kernel
theorem dX12_goesOver_0 : decode cX12_goesOver 0 = .ok (.iconst 0, 1) := by decide +kernel
theorem dX12_goesOver_1 : decode cX12_goesOver 1 = .ok (.istore_n 3, 1) := by decide +kernel
theorem dX12_goesOver_2 : decode cX12_goesOver 2 = .ok (.iconst 0, 1) := by decide +kernel
theorem dX12_goesOver_3 : decode cX12_goesOver 3 = .ok (.istore 4, 2) := by decide +kernel
theorem dX12_goesOver_5 : decode cX12_goesOver 5 = .ok (.iload 4, 2) := by decide +kernel
theorem dX12_goesOver_7 : decode cX12_goesOver 7 = .ok (.bipush 8, 2) := by decide +kernel
theorem dX12_goesOver_9 : decode cX12_goesOver 9 = .ok (.if_icmp .ge 152, 3) := by decide +kernel
theorem dX12_goesOver_12 : decode cX12_goesOver 12 = .ok (.iconst 0, 1) := by decide +kernel
theorem dX12_goesOver_13 : decode cX12_goesOver 13 = .ok (.istore 5, 2) := by decide +kernel
theorem dX12_goesOver_15 : decode cX12_goesOver 15 = .ok (.iload 5, 2) := by decide +kernel
theorem dX12_goesOver_17 : decode cX12_goesOver 17 = .ok (.bipush 8, 2) := by decide +kernel
theorem dX12_goesOver_19 : decode cX12_goesOver 19 = .ok (.if_icmp .ge 136, 3) := by decide +kernel
theorem dX12_goesOver_22 : decode cX12_goesOver 22 = .ok (.aload_n 0, 1) := by decide +kernel
theorem dX12_goesOver_23 : decode cX12_goesOver 23 = .ok (.iload_n 1, 1) := by decide +kernel
theorem dX12_goesOver_24 : decode cX12_goesOver 24 = .ok (.iload 4, 2) := by decide +kernel
theorem dX12_goesOver_26 : decode cX12_goesOver 26 = .ok (.iload 5, 2) := by decide +kernel
theorem dX12_goesOver_28 : decode cX12_goesOver 28 = .ok (.invokevirtual 315, 3) := by decide +kernel
theorem dX12_goesOver_31 : decode cX12_goesOver 31 = .ok (.ifCond .ne 6, 3) := by decide +kernel
theorem dX12_goesOver_34 : decode cX12_goesOver 34 = .ok (.goto 115, 3) := by decide +kernel
theorem dX12_goesOver_37 : decode cX12_goesOver 37 = .ok (.aload_n 0, 1) := by decide +kernel
theorem dX12_goesOver_38 : decode cX12_goesOver 38 = .ok (.iload_n 1, 1) := by decide +kernel
theorem dX12_goesOver_39 : decode cX12_goesOver 39 = .ok (.iload 4, 2) := by decide +kernel
theorem dX12_goesOver_41 : decode cX12_goesOver 41 = .ok (.iload 5, 2) := by decide +kernel
theorem dX12_goesOver_43 : decode cX12_goesOver 43 = .ok (.iconst 2, 1) := by decide +kernel
theorem dX12_goesOver_44 : decode cX12_goesOver 44 = .ok (.invokevirtual 318, 3) := by decide +kernel
theorem dX12_goesOver_47 : decode cX12_goesOver 47 = .ok (.istore 6, 2) := by decide +kernel
theorem dX12_goesOver_49 : decode cX12_goesOver 49 = .ok (.aload_n 0, 1) := by decide +kernel
theorem dX12_goesOver_50 : decode cX12_goesOver 50 = .ok (.iload_n 1, 1) := by decide +kernel
theorem dX12_goesOver_51 : decode cX12_goesOver 51 = .ok (.iload 4, 2) := by decide +kernel
theorem dX12_goesOver_53 : decode cX12_goesOver 53 = .ok (.iload 5, 2) := by decide +kernel
theorem dX12_goesOver_55 : decode cX12_goesOver 55 = .ok (.invokevirtual 325, 3) := by decide +kernel
