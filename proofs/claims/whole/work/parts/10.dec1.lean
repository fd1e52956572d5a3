theorem dX0_init_0 : decode cX0_init 0 = .ok (.aload_n 0, 1) := by decide +kernel
theorem dX0_init_1 : decode cX0_init 1 = .ok (.invokespecial 3, 3) := by decide +kernel
theorem dX0_init_4 : decode cX0_init 4 = .ok (.aload_n 0, 1) := by decide +kernel
theorem dX0_init_5 : decode cX0_init 5 = .ok (.bipush 14, 2) := by decide +kernel
theorem dX0_init_7 : decode cX0_init 7 = .ok (.newarray .int, 2) := by decide +kernel
theorem dX0_init_9 : decode cX0_init 9 = .ok (.putfield 9, 3) := by decide +kernel
theorem dX0_init_12 : decode cX0_init 12 = .ok (.aload_n 0, 1) := by decide +kernel
theorem dX0_init_13 : decode cX0_init 13 = .ok (.bipush 14, 2) := by decide +kernel
theorem dX0_init_15 : decode cX0_init 15 = .ok (.newarray .int, 2) := by decide +kernel
theorem dX0_init_17 : decode cX0_init 17 = .ok (.putfield 15, 3) := by decide +kernel
theorem dX0_init_20 : decode cX0_init 20 = .ok (.aload_n 0, 1) := by decide +kernel
theorem dX0_init_21 : decode cX0_init 21 = .ok (.bipush 14, 2) := by decide +kernel
theorem dX0_init_23 : decode cX0_init 23 = .ok (.newarray .int, 2) := by decide +kernel
theorem dX0_init_25 : decode cX0_init 25 = .ok (.putfield 18, 3) := by decide +kernel
theorem dX0_init_28 : decode cX0_init 28 = .ok (.aload_n 0, 1) := by decide +kernel
theorem dX0_init_29 : decode cX0_init 29 = .ok (.bipush 14, 2) := by decide +kernel
theorem dX0_init_31 : decode cX0_init 31 = .ok (.newarray .int, 2) := by decide +kernel
theorem dX0_init_33 : decode cX0_init 33 = .ok (.putfield 21, 3) := by decide +kernel
theorem dX0_init_36 : decode cX0_init 36 = .ok (.aload_n 0, 1) := by decide +kernel
theorem dX0_init_37 : decode cX0_init 37 = .ok (.sipush 200, 3) := by decide +kernel
theorem dX0_init_40 : decode cX0_init 40 = .ok (.newarray .int, 2) := by decide +kernel
theorem dX0_init_42 : decode cX0_init 42 = .ok (.putfield 24, 3) := by decide +kernel
theorem dX0_init_45 : decode cX0_init 45 = .ok (.aload_n 0, 1) := by decide +kernel
theorem dX0_init_46 : decode cX0_init 46 = .ok (.bipush 32, 2) := by decide +kernel
theorem dX0_init_48 : decode cX0_init 48 = .ok (.newarray .long, 2) := by decide +kernel
theorem dX0_init_50 : decode cX0_init 50 = .ok (.putfield 27, 3) := by decide +kernel
theorem dX0_init_53 : decode cX0_init 53 = .ok (.return_, 1) := by decide +kernel
theorem dX0_empty_0 : decode cX0_empty 0 = .ok (.aload_n 0, 1) := by decide +kernel
theorem dX0_empty_1 : decode cX0_empty 1 = .ok (.iconst 0, 1) := by decide +kernel
theorem dX0_empty_2 : decode cX0_empty 2 = .ok (.putfield 31, 3) := by decide +kernel
theorem dX0_empty_5 : decode cX0_empty 5 = .ok (.aload_n 0, 1) := by decide +kernel
theorem dX0_empty_6 : decode cX0_empty 6 = .ok (.iconst 0, 1) := by decide +kernel
theorem dX0_empty_7 : decode cX0_empty 7 = .ok (.putfield 35, 3) := by decide +kernel
theorem dX0_empty_10 : decode cX0_empty 10 = .ok (.return_, 1) := by decide +kernel
theorem dX0_length_0 : decode cX0_length 0 = .ok (.aload_n 0, 1) := by decide +kernel
theorem dX0_length_1 : decode cX0_length 1 = .ok (.getfield 31, 3) := by decide +kernel
theorem dX0_length_4 : decode cX0_length 4 = .ok (.ireturn, 1) := by decide +kernel
theorem dX0_emit_0 : decode cX0_emit 0 = .ok (.aload_n 0, 1) := by decide +kernel
theorem dX0_emit_1 : decode cX0_emit 1 = .ok (.getfield 35, 3) := by decide +kernel
theorem dX0_emit_4 : decode cX0_emit 4 = .ok (.ifCond .lt 15, 3) := by decide +kernel
theorem dX0_emit_7 : decode cX0_emit 7 = .ok (.aload_n 0, 1) := by decide +kernel
theorem dX0_emit_8 : decode cX0_emit 8 = .ok (.getfield 35, 3) := by decide +kernel
theorem dX0_emit_11 : decode cX0_emit 11 = .ok (.aload_n 0, 1) := by decide +kernel
theorem dX0_emit_12 : decode cX0_emit 12 = .ok (.getfield 24, 3) := by decide +kernel
theorem dX0_emit_15 : decode cX0_emit 15 = .ok (.arraylength, 1) := by decide +kernel
theorem dX0_emit_16 : decode cX0_emit 16 = .ok (.if_icmp .lt 4, 3) := by decide +kernel
theorem dX0_emit_19 : decode cX0_emit 19 = .ok (.return_, 1) := by decide +kernel
theorem dX0_emit_20 : decode cX0_emit 20 = .ok (.aload_n 0, 1) := by decide +kernel
theorem dX0_emit_21 : decode cX0_emit 21 = .ok (.getfield 24, 3) := by decide +kernel
theorem dX0_emit_24 : decode cX0_emit 24 = .ok (.aload_n 0, 1) := by decide +kernel
theorem dX0_emit_25 : decode cX0_emit 25 = .ok (.getfield 35, 3) := by decide +kernel
theorem dX0_emit_28 : decode cX0_emit 28 = .ok (.iload_n 1, 1) := by decide +kernel
theorem dX0_emit_29 : decode cX0_emit 29 = .ok (.iastore, 1) := by decide +kernel
theorem dX0_emit_30 : decode cX0_emit 30 = .ok (.aload_n 0, 1) := by decide +kernel
theorem dX0_emit_31 : decode cX0_emit 31 = .ok (.dup, 1) := by decide +kernel
theorem dX0_emit_32 : decode cX0_emit 32 = .ok (.getfield 35, 3) := by decide +kernel
theorem dX0_emit_35 : decode cX0_emit 35 = .ok (.iconst 1, 1) := by decide +kernel
theorem dX0_emit_36 : decode cX0_emit 36 = .ok (.iadd, 1) := by decide +kernel
theorem dX0_emit_37 : decode cX0_emit 37 = .ok (.putfield 35, 3) := by decide +kernel
theorem dX0_emit_40 : decode cX0_emit 40 = .ok (.return_, 1) := by decide +kernel
theorem dX0_openClause_0 : decode cX0_openClause 0 = .ok (.aload_n 0, 1) := by decide +kernel
theorem dX0_openClause_1 : decode cX0_openClause 1 = .ok (.getfield 31, 3) := by decide +kernel
theorem dX0_openClause_4 : decode cX0_openClause 4 = .ok (.ifCond .lt 12, 3) := by decide +kernel
theorem dX0_openClause_7 : decode cX0_openClause 7 = .ok (.aload_n 0, 1) := by decide +kernel
theorem dX0_openClause_8 : decode cX0_openClause 8 = .ok (.getfield 31, 3) := by decide +kernel
theorem dX0_openClause_11 : decode cX0_openClause 11 = .ok (.bipush 14, 2) := by decide +kernel
theorem dX0_openClause_13 : decode cX0_openClause 13 = .ok (.if_icmp .lt 4, 3) := by decide +kernel
theorem dX0_openClause_16 : decode cX0_openClause 16 = .ok (.return_, 1) := by decide +kernel
theorem dX0_openClause_17 : decode cX0_openClause 17 = .ok (.aload_n 0, 1) := by decide +kernel
theorem dX0_openClause_18 : decode cX0_openClause 18 = .ok (.getfield 9, 3) := by decide +kernel
theorem dX0_openClause_21 : decode cX0_openClause 21 = .ok (.aload_n 0, 1) := by decide +kernel
theorem dX0_openClause_22 : decode cX0_openClause 22 = .ok (.getfield 31, 3) := by decide +kernel
theorem dX0_openClause_25 : decode cX0_openClause 25 = .ok (.iload_n 1, 1) := by decide +kernel
theorem dX0_openClause_26 : decode cX0_openClause 26 = .ok (.iastore, 1) := by decide +kernel
theorem dX0_openClause_27 : decode cX0_openClause 27 = .ok (.aload_n 0, 1) := by decide +kernel
theorem dX0_openClause_28 : decode cX0_openClause 28 = .ok (.getfield 15, 3) := by decide +kernel
theorem dX0_openClause_31 : decode cX0_openClause 31 = .ok (.aload_n 0, 1) := by decide +kernel
theorem dX0_openClause_32 : decode cX0_openClause 32 = .ok (.getfield 31, 3) := by decide +kernel
theorem dX0_openClause_35 : decode cX0_openClause 35 = .ok (.aload_n 0, 1) := by decide +kernel
theorem dX0_openClause_36 : decode cX0_openClause 36 = .ok (.getfield 35, 3) := by decide +kernel
theorem dX0_openClause_39 : decode cX0_openClause 39 = .ok (.iastore, 1) := by decide +kernel
theorem dX0_openClause_40 : decode cX0_openClause 40 = .ok (.return_, 1) := by decide +kernel
theorem dX0_openCondition_0 : decode cX0_openCondition 0 = .ok (.aload_n 0, 1) := by decide +kernel
theorem dX0_openCondition_1 : decode cX0_openCondition 1 = .ok (.getfield 31, 3) := by decide +kernel
theorem dX0_openCondition_4 : decode cX0_openCondition 4 = .ok (.ifCond .lt 25, 3) := by decide +kernel
theorem dX0_openCondition_7 : decode cX0_openCondition 7 = .ok (.aload_n 0, 1) := by decide +kernel
theorem dX0_openCondition_8 : decode cX0_openCondition 8 = .ok (.getfield 31, 3) := by decide +kernel
theorem dX0_openCondition_11 : decode cX0_openCondition 11 = .ok (.bipush 14, 2) := by decide +kernel
theorem dX0_openCondition_13 : decode cX0_openCondition 13 = .ok (.if_icmp .ge 16, 3) := by decide +kernel
theorem dX0_openCondition_16 : decode cX0_openCondition 16 = .ok (.aload_n 0, 1) := by decide +kernel
theorem dX0_openCondition_17 : decode cX0_openCondition 17 = .ok (.getfield 18, 3) := by decide +kernel
theorem dX0_openCondition_20 : decode cX0_openCondition 20 = .ok (.aload_n 0, 1) := by decide +kernel
theorem dX0_openCondition_21 : decode cX0_openCondition 21 = .ok (.getfield 31, 3) := by decide +kernel
theorem dX0_openCondition_24 : decode cX0_openCondition 24 = .ok (.aload_n 0, 1) := by decide +kernel
theorem dX0_openCondition_25 : decode cX0_openCondition 25 = .ok (.getfield 35, 3) := by decide +kernel
theorem dX0_openCondition_28 : decode cX0_openCondition 28 = .ok (.iastore, 1) := by decide +kernel
theorem dX0_openCondition_29 : decode cX0_openCondition 29 = .ok (.return_, 1) := by decide +kernel
theorem dX0_closeClause_0 : decode cX0_closeClause 0 = .ok (.aload_n 0, 1) := by decide +kernel
theorem dX0_closeClause_1 : decode cX0_closeClause 1 = .ok (.getfield 31, 3) := by decide +kernel
theorem dX0_closeClause_4 : decode cX0_closeClause 4 = .ok (.ifCond .lt 12, 3) := by decide +kernel
theorem dX0_closeClause_7 : decode cX0_closeClause 7 = .ok (.aload_n 0, 1) := by decide +kernel
theorem dX0_closeClause_8 : decode cX0_closeClause 8 = .ok (.getfield 31, 3) := by decide +kernel
theorem dX0_closeClause_11 : decode cX0_closeClause 11 = .ok (.bipush 14, 2) := by decide +kernel
theorem dX0_closeClause_13 : decode cX0_closeClause 13 = .ok (.if_icmp .lt 4, 3) := by decide +kernel
theorem dX0_closeClause_16 : decode cX0_closeClause 16 = .ok (.return_, 1) := by decide +kernel
theorem dX0_closeClause_17 : decode cX0_closeClause 17 = .ok (.aload_n 0, 1) := by decide +kernel
theorem dX0_closeClause_18 : decode cX0_closeClause 18 = .ok (.getfield 21, 3) := by decide +kernel
theorem dX0_closeClause_21 : decode cX0_closeClause 21 = .ok (.aload_n 0, 1) := by decide +kernel
theorem dX0_closeClause_22 : decode cX0_closeClause 22 = .ok (.getfield 31, 3) := by decide +kernel
theorem dX0_closeClause_25 : decode cX0_closeClause 25 = .ok (.aload_n 0, 1) := by decide +kernel
theorem dX0_closeClause_26 : decode cX0_closeClause 26 = .ok (.getfield 35, 3) := by decide +kernel
theorem dX0_closeClause_29 : decode cX0_closeClause 29 = .ok (.iastore, 1) := by decide +kernel
theorem dX0_closeClause_30 : decode cX0_closeClause 30 = .ok (.aload_n 0, 1) := by decide +kernel
theorem dX0_closeClause_31 : decode cX0_closeClause 31 = .ok (.dup, 1) := by decide +kernel
theorem dX0_closeClause_32 : decode cX0_closeClause 32 = .ok (.getfield 31, 3) := by decide +kernel
theorem dX0_closeClause_35 : decode cX0_closeClause 35 = .ok (.iconst 1, 1) := by decide +kernel
theorem dX0_closeClause_36 : decode cX0_closeClause 36 = .ok (.iadd, 1) := by decide +kernel
theorem dX0_closeClause_37 : decode cX0_closeClause 37 = .ok (.putfield 31, 3) := by decide +kernel
theorem dX0_closeClause_40 : decode cX0_closeClause 40 = .ok (.return_, 1) := by decide +kernel
theorem dX0_amount_0 : decode cX0_amount 0 = .ok (.iconst 0, 1) := by decide +kernel
theorem dX0_amount_1 : decode cX0_amount 1 = .ok (.istore 4, 2) := by decide +kernel
theorem dX0_amount_3 : decode cX0_amount 3 = .ok (.iload 4, 2) := by decide +kernel
theorem dX0_amount_5 : decode cX0_amount 5 = .ok (.aload_n 0, 1) := by decide +kernel
theorem dX0_amount_6 : decode cX0_amount 6 = .ok (.getfield 31, 3) := by decide +kernel
theorem dX0_amount_9 : decode cX0_amount 9 = .ok (.if_icmp .ge 97, 3) := by decide +kernel
theorem dX0_amount_12 : decode cX0_amount 12 = .ok (.iload 4, 2) := by decide +kernel
theorem dX0_amount_14 : decode cX0_amount 14 = .ok (.bipush 14, 2) := by decide +kernel
theorem dX0_amount_16 : decode cX0_amount 16 = .ok (.if_icmp .ge 90, 3) := by decide +kernel
theorem dX0_amount_19 : decode cX0_amount 19 = .ok (.aload_n 0, 1) := by decide +kernel
theorem dX0_amount_20 : decode cX0_amount 20 = .ok (.getfield 9, 3) := by decide +kernel
theorem dX0_amount_23 : decode cX0_amount 23 = .ok (.iload 4, 2) := by decide +kernel
theorem dX0_amount_25 : decode cX0_amount 25 = .ok (.iaload, 1) := by decide +kernel
theorem dX0_amount_26 : decode cX0_amount 26 = .ok (.iload_n 1, 1) := by decide +kernel
theorem dX0_amount_27 : decode cX0_amount 27 = .ok (.if_icmp .ne 73, 3) := by decide +kernel
theorem dX0_amount_30 : decode cX0_amount 30 = .ok (.aload_n 0, 1) := by decide +kernel
theorem dX0_amount_31 : decode cX0_amount 31 = .ok (.aload_n 0, 1) := by decide +kernel
theorem dX0_amount_32 : decode cX0_amount 32 = .ok (.getfield 18, 3) := by decide +kernel
theorem dX0_amount_35 : decode cX0_amount 35 = .ok (.iload 4, 2) := by decide +kernel
theorem dX0_amount_37 : decode cX0_amount 37 = .ok (.iaload, 1) := by decide +kernel
theorem dX0_amount_38 : decode cX0_amount 38 = .ok (.aload_n 0, 1) := by decide +kernel
theorem dX0_amount_39 : decode cX0_amount 39 = .ok (.getfield 21, 3) := by decide +kernel
theorem dX0_amount_42 : decode cX0_amount 42 = .ok (.iload 4, 2) := by decide +kernel
theorem dX0_amount_44 : decode cX0_amount 44 = .ok (.iaload, 1) := by decide +kernel
theorem dX0_amount_45 : decode cX0_amount 45 = .ok (.aload_n 3, 1) := by decide +kernel
theorem dX0_amount_46 : decode cX0_amount 46 = .ok (.invokevirtual 38, 3) := by decide +kernel
theorem dX0_amount_49 : decode cX0_amount 49 = .ok (.lconst 1, 1) := by decide +kernel
theorem dX0_amount_50 : decode cX0_amount 50 = .ok (.lcmp, 1) := by decide +kernel
theorem dX0_amount_51 : decode cX0_amount 51 = .ok (.ifCond .eq 6, 3) := by decide +kernel
theorem dX0_amount_54 : decode cX0_amount 54 = .ok (.goto 46, 3) := by decide +kernel
theorem dX0_amount_57 : decode cX0_amount 57 = .ok (.aload_n 0, 1) := by decide +kernel
theorem dX0_amount_58 : decode cX0_amount 58 = .ok (.aload_n 0, 1) := by decide +kernel
theorem dX0_amount_59 : decode cX0_amount 59 = .ok (.getfield 15, 3) := by decide +kernel
theorem dX0_amount_62 : decode cX0_amount 62 = .ok (.iload 4, 2) := by decide +kernel
theorem dX0_amount_64 : decode cX0_amount 64 = .ok (.iaload, 1) := by decide +kernel
theorem dX0_amount_65 : decode cX0_amount 65 = .ok (.aload_n 0, 1) := by decide +kernel
theorem dX0_amount_66 : decode cX0_amount 66 = .ok (.getfield 18, 3) := by decide +kernel
theorem dX0_amount_69 : decode cX0_amount 69 = .ok (.iload 4, 2) := by decide +kernel
theorem dX0_amount_71 : decode cX0_amount 71 = .ok (.iaload, 1) := by decide +kernel
theorem dX0_amount_72 : decode cX0_amount 72 = .ok (.aload_n 3, 1) := by decide +kernel
theorem dX0_amount_73 : decode cX0_amount 73 = .ok (.invokevirtual 38, 3) := by decide +kernel
theorem dX0_amount_76 : decode cX0_amount 76 = .ok (.lstore 5, 2) := by decide +kernel
theorem dX0_amount_78 : decode cX0_amount 78 = .ok (.lload 5, 2) := by decide +kernel
theorem dX0_amount_80 : decode cX0_amount 80 = .ok (.ldc2_w 42, 3) := by decide +kernel
theorem dX0_amount_83 : decode cX0_amount 83 = .ok (.lcmp, 1) := by decide +kernel
theorem dX0_amount_84 : decode cX0_amount 84 = .ok (.ifCond .ne 7, 3) := by decide +kernel
theorem dX0_amount_87 : decode cX0_amount 87 = .ok (.iconst 0, 1) := by decide +kernel
theorem dX0_amount_88 : decode cX0_amount 88 = .ok (.goto 11, 3) := by decide +kernel
theorem dX0_amount_91 : decode cX0_amount 91 = .ok (.lload 5, 2) := by decide +kernel
theorem dX0_amount_93 : decode cX0_amount 93 = .ok (.l2i, 1) := by decide +kernel
theorem dX0_amount_94 : decode cX0_amount 94 = .ok (.iconst 0, 1) := by decide +kernel
theorem dX0_amount_95 : decode cX0_amount 95 = .ok (.iload_n 2, 1) := by decide +kernel
theorem dX0_amount_96 : decode cX0_amount 96 = .ok (.invokestatic 44, 3) := by decide +kernel
theorem dX0_amount_99 : decode cX0_amount 99 = .ok (.ireturn, 1) := by decide +kernel
theorem dX0_amount_100 : decode cX0_amount 100 = .ok (.iinc 4 1, 3) := by decide +kernel
theorem dX0_amount_103 : decode cX0_amount 103 = .ok (.goto (-100), 3) := by decide +kernel
theorem dX0_amount_106 : decode cX0_amount 106 = .ok (.iconst 0, 1) := by decide +kernel
theorem dX0_amount_107 : decode cX0_amount 107 = .ok (.ireturn, 1) := by decide +kernel
theorem dX0_reckon_0 : decode cX0_reckon 0 = .ok (.iconst 0, 1) := by decide +kernel
theorem dX0_reckon_1 : decode cX0_reckon 1 = .ok (.istore 4, 2) := by decide +kernel
theorem dX0_reckon_3 : decode cX0_reckon 3 = .ok (.iload_n 1, 1) := by decide +kernel
theorem dX0_reckon_4 : decode cX0_reckon 4 = .ok (.iconst 0, 1) := by decide +kernel
theorem dX0_reckon_5 : decode cX0_reckon 5 = .ok (.invokestatic 48, 3) := by decide +kernel
theorem dX0_reckon_8 : decode cX0_reckon 8 = .ok (.istore 5, 2) := by decide +kernel
theorem dX0_reckon_10 : decode cX0_reckon 10 = .ok (.iload 5, 2) := by decide +kernel
theorem dX0_reckon_12 : decode cX0_reckon 12 = .ok (.iload_n 2, 1) := by decide +kernel
theorem dX0_reckon_13 : decode cX0_reckon 13 = .ok (.if_icmp .ge 172, 3) := by decide +kernel
theorem dX0_reckon_16 : decode cX0_reckon 16 = .ok (.iload 5, 2) := by decide +kernel
theorem dX0_reckon_18 : decode cX0_reckon 18 = .ok (.aload_n 0, 1) := by decide +kernel
theorem dX0_reckon_19 : decode cX0_reckon 19 = .ok (.getfield 24, 3) := by decide +kernel
theorem dX0_reckon_22 : decode cX0_reckon 22 = .ok (.arraylength, 1) := by decide +kernel
theorem dX0_reckon_23 : decode cX0_reckon 23 = .ok (.if_icmp .ge 162, 3) := by decide +kernel
theorem dX0_reckon_26 : decode cX0_reckon 26 = .ok (.aload_n 0, 1) := by decide +kernel
theorem dX0_reckon_27 : decode cX0_reckon 27 = .ok (.getfield 24, 3) := by decide +kernel
theorem dX0_reckon_30 : decode cX0_reckon 30 = .ok (.iload 5, 2) := by decide +kernel
theorem dX0_reckon_32 : decode cX0_reckon 32 = .ok (.iaload, 1) := by decide +kernel
theorem dX0_reckon_33 : decode cX0_reckon 33 = .ok (.istore 6, 2) := by decide +kernel
theorem dX0_reckon_35 : decode cX0_reckon 35 = .ok (.iload 6, 2) := by decide +kernel
theorem dX0_reckon_37 : decode cX0_reckon 37 = .ok (.ifCond .lt 11, 3) := by decide +kernel
theorem dX0_reckon_40 : decode cX0_reckon 40 = .ok (.iload 6, 2) := by decide +kernel
theorem dX0_reckon_42 : decode cX0_reckon 42 = .ok (.invokestatic 54, 3) := by decide +kernel
theorem dX0_reckon_45 : decode cX0_reckon 45 = .ok (.ifCond .eq 7, 3) := by decide +kernel
theorem dX0_reckon_48 : decode cX0_reckon 48 = .ok (.iconst 1, 1) := by decide +kernel
theorem dX0_reckon_49 : decode cX0_reckon 49 = .ok (.goto 4, 3) := by decide +kernel
theorem dX0_reckon_52 : decode cX0_reckon 52 = .ok (.iconst 0, 1) := by decide +kernel
theorem dX0_reckon_53 : decode cX0_reckon 53 = .ok (.istore 7, 2) := by decide +kernel
theorem dX0_reckon_55 : decode cX0_reckon 55 = .ok (.iload 7, 2) := by decide +kernel
theorem dX0_reckon_57 : decode cX0_reckon 57 = .ok (.ifCond .eq 46, 3) := by decide +kernel
theorem dX0_reckon_60 : decode cX0_reckon 60 = .ok (.iload 4, 2) := by decide +kernel
theorem dX0_reckon_62 : decode cX0_reckon 62 = .ok (.aload_n 0, 1) := by decide +kernel
theorem dX0_reckon_63 : decode cX0_reckon 63 = .ok (.getfield 27, 3) := by decide +kernel
theorem dX0_reckon_66 : decode cX0_reckon 66 = .ok (.arraylength, 1) := by decide +kernel
theorem dX0_reckon_67 : decode cX0_reckon 67 = .ok (.if_icmp .ge 36, 3) := by decide +kernel
theorem dX0_reckon_70 : decode cX0_reckon 70 = .ok (.aload_n 0, 1) := by decide +kernel
theorem dX0_reckon_71 : decode cX0_reckon 71 = .ok (.getfield 27, 3) := by decide +kernel
theorem dX0_reckon_74 : decode cX0_reckon 74 = .ok (.iload 4, 2) := by decide +kernel
theorem dX0_reckon_76 : decode cX0_reckon 76 = .ok (.iload 6, 2) := by decide +kernel
theorem dX0_reckon_78 : decode cX0_reckon 78 = .ok (.ifCond .ge 11, 3) := by decide +kernel
theorem dX0_reckon_81 : decode cX0_reckon 81 = .ok (.iconst (-1), 1) := by decide +kernel
theorem dX0_reckon_82 : decode cX0_reckon 82 = .ok (.iload 6, 2) := by decide +kernel
theorem dX0_reckon_84 : decode cX0_reckon 84 = .ok (.isub, 1) := by decide +kernel
theorem dX0_reckon_85 : decode cX0_reckon 85 = .ok (.i2l, 1) := by decide +kernel
theorem dX0_reckon_86 : decode cX0_reckon 86 = .ok (.goto 10, 3) := by decide +kernel
theorem dX0_reckon_89 : decode cX0_reckon 89 = .ok (.iload 6, 2) := by decide +kernel
theorem dX0_reckon_91 : decode cX0_reckon 91 = .ok (.aload_n 3, 1) := by decide +kernel
theorem dX0_reckon_92 : decode cX0_reckon 92 = .ok (.invokestatic 58, 3) := by decide +kernel
theorem dX0_reckon_95 : decode cX0_reckon 95 = .ok (.i2l, 1) := by decide +kernel
theorem dX0_reckon_96 : decode cX0_reckon 96 = .ok (.lastore, 1) := by decide +kernel
theorem dX0_reckon_97 : decode cX0_reckon 97 = .ok (.iinc 4 1, 3) := by decide +kernel
theorem dX0_reckon_100 : decode cX0_reckon 100 = .ok (.goto 79, 3) := by decide +kernel
theorem dX0_reckon_103 : decode cX0_reckon 103 = .ok (.iload 6, 2) := by decide +kernel
theorem dX0_reckon_105 : decode cX0_reckon 105 = .ok (.bipush 33, 2) := by decide +kernel
theorem dX0_reckon_107 : decode cX0_reckon 107 = .ok (.if_icmp .ne 33, 3) := by decide +kernel
theorem dX0_reckon_110 : decode cX0_reckon 110 = .ok (.iload 4, 2) := by decide +kernel
theorem dX0_reckon_112 : decode cX0_reckon 112 = .ok (.iconst 1, 1) := by decide +kernel
theorem dX0_reckon_113 : decode cX0_reckon 113 = .ok (.if_icmp .lt 27, 3) := by decide +kernel
theorem dX0_reckon_116 : decode cX0_reckon 116 = .ok (.aload_n 0, 1) := by decide +kernel
theorem dX0_reckon_117 : decode cX0_reckon 117 = .ok (.getfield 27, 3) := by decide +kernel
theorem dX0_reckon_120 : decode cX0_reckon 120 = .ok (.iload 4, 2) := by decide +kernel
theorem dX0_reckon_122 : decode cX0_reckon 122 = .ok (.iconst 1, 1) := by decide +kernel
theorem dX0_reckon_123 : decode cX0_reckon 123 = .ok (.isub, 1) := by decide +kernel
theorem dX0_reckon_124 : decode cX0_reckon 124 = .ok (.aload_n 0, 1) := by decide +kernel
theorem dX0_reckon_125 : decode cX0_reckon 125 = .ok (.getfield 27, 3) := by decide +kernel
theorem dX0_reckon_128 : decode cX0_reckon 128 = .ok (.iload 4, 2) := by decide +kernel
theorem dX0_reckon_130 : decode cX0_reckon 130 = .ok (.iconst 1, 1) := by decide +kernel
theorem dX0_reckon_131 : decode cX0_reckon 131 = .ok (.isub, 1) := by decide +kernel
theorem dX0_reckon_132 : decode cX0_reckon 132 = .ok (.laload, 1) := by decide +kernel
theorem dX0_reckon_133 : decode cX0_reckon 133 = .ok (.invokestatic 62, 3) := by decide +kernel
theorem dX0_reckon_136 : decode cX0_reckon 136 = .ok (.lastore, 1) := by decide +kernel
theorem dX0_reckon_137 : decode cX0_reckon 137 = .ok (.goto 42, 3) := by decide +kernel
theorem dX0_reckon_140 : decode cX0_reckon 140 = .ok (.iload 4, 2) := by decide +kernel
theorem dX0_reckon_142 : decode cX0_reckon 142 = .ok (.iconst 2, 1) := by decide +kernel
theorem dX0_reckon_143 : decode cX0_reckon 143 = .ok (.if_icmp .lt 36, 3) := by decide +kernel
theorem dX0_reckon_146 : decode cX0_reckon 146 = .ok (.iinc 4 (-1), 3) := by decide +kernel
theorem dX0_reckon_149 : decode cX0_reckon 149 = .ok (.aload_n 0, 1) := by decide +kernel
theorem dX0_reckon_150 : decode cX0_reckon 150 = .ok (.getfield 27, 3) := by decide +kernel
theorem dX0_reckon_153 : decode cX0_reckon 153 = .ok (.iload 4, 2) := by decide +kernel
theorem dX0_reckon_155 : decode cX0_reckon 155 = .ok (.iconst 1, 1) := by decide +kernel
theorem dX0_reckon_156 : decode cX0_reckon 156 = .ok (.isub, 1) := by decide +kernel
theorem dX0_reckon_157 : decode cX0_reckon 157 = .ok (.iload 6, 2) := by decide +kernel
theorem dX0_reckon_159 : decode cX0_reckon 159 = .ok (.aload_n 0, 1) := by decide +kernel
theorem dX0_reckon_160 : decode cX0_reckon 160 = .ok (.getfield 27, 3) := by decide +kernel
theorem dX0_reckon_163 : decode cX0_reckon 163 = .ok (.iload 4, 2) := by decide +kernel
theorem dX0_reckon_165 : decode cX0_reckon 165 = .ok (.iconst 1, 1) := by decide +kernel
theorem dX0_reckon_166 : decode cX0_reckon 166 = .ok (.isub, 1) := by decide +kernel
theorem dX0_reckon_167 : decode cX0_reckon 167 = .ok (.laload, 1) := by decide +kernel
theorem dX0_reckon_168 : decode cX0_reckon 168 = .ok (.aload_n 0, 1) := by decide +kernel
theorem dX0_reckon_169 : decode cX0_reckon 169 = .ok (.getfield 27, 3) := by decide +kernel
theorem dX0_reckon_172 : decode cX0_reckon 172 = .ok (.iload 4, 2) := by decide +kernel
theorem dX0_reckon_174 : decode cX0_reckon 174 = .ok (.laload, 1) := by decide +kernel
theorem dX0_reckon_175 : decode cX0_reckon 175 = .ok (.invokestatic 66, 3) := by decide +kernel
theorem dX0_reckon_178 : decode cX0_reckon 178 = .ok (.lastore, 1) := by decide +kernel
theorem dX0_reckon_179 : decode cX0_reckon 179 = .ok (.iinc 5 1, 3) := by decide +kernel
theorem dX0_reckon_182 : decode cX0_reckon 182 = .ok (.goto (-172), 3) := by decide +kernel
theorem dX0_reckon_185 : decode cX0_reckon 185 = .ok (.iload 4, 2) := by decide +kernel
theorem dX0_reckon_187 : decode cX0_reckon 187 = .ok (.iconst 1, 1) := by decide +kernel
theorem dX0_reckon_188 : decode cX0_reckon 188 = .ok (.if_icmp .ne 12, 3) := by decide +kernel
theorem dX0_reckon_191 : decode cX0_reckon 191 = .ok (.aload_n 0, 1) := by decide +kernel
theorem dX0_reckon_192 : decode cX0_reckon 192 = .ok (.getfield 27, 3) := by decide +kernel
theorem dX0_reckon_195 : decode cX0_reckon 195 = .ok (.iconst 0, 1) := by decide +kernel
theorem dX0_reckon_196 : decode cX0_reckon 196 = .ok (.laload, 1) := by decide +kernel
theorem dX0_reckon_197 : decode cX0_reckon 197 = .ok (.goto 6, 3) := by decide +kernel
theorem dX0_reckon_200 : decode cX0_reckon 200 = .ok (.ldc2_w 42, 3) := by decide +kernel
theorem dX0_reckon_203 : decode cX0_reckon 203 = .ok (.lreturn, 1) := by decide +kernel
theorem dX0_valueOf_0 : decode cX0_valueOf 0 = .ok (.iload_n 0, 1) := by decide +kernel
theorem dX0_valueOf_1 : decode cX0_valueOf 1 = .ok (.bipush 97, 2) := by decide +kernel
theorem dX0_valueOf_3 : decode cX0_valueOf 3 = .ok (.isub, 1) := by decide +kernel
theorem dX0_valueOf_4 : decode cX0_valueOf 4 = .ok (.istore_n 2, 1) := by decide +kernel
theorem dX0_valueOf_5 : decode cX0_valueOf 5 = .ok (.iload_n 2, 1) := by decide +kernel
theorem dX0_valueOf_6 : decode cX0_valueOf 6 = .ok (.ifCond .lt 15, 3) := by decide +kernel
theorem dX0_valueOf_9 : decode cX0_valueOf 9 = .ok (.iload_n 2, 1) := by decide +kernel
theorem dX0_valueOf_10 : decode cX0_valueOf 10 = .ok (.aload_n 1, 1) := by decide +kernel
theorem dX0_valueOf_11 : decode cX0_valueOf 11 = .ok (.arraylength, 1) := by decide +kernel
theorem dX0_valueOf_12 : decode cX0_valueOf 12 = .ok (.if_icmp .ge 9, 3) := by decide +kernel
theorem dX0_valueOf_15 : decode cX0_valueOf 15 = .ok (.aload_n 1, 1) := by decide +kernel
theorem dX0_valueOf_16 : decode cX0_valueOf 16 = .ok (.iload_n 2, 1) := by decide +kernel
theorem dX0_valueOf_17 : decode cX0_valueOf 17 = .ok (.iaload, 1) := by decide +kernel
theorem dX0_valueOf_18 : decode cX0_valueOf 18 = .ok (.goto 4, 3) := by decide +kernel
theorem dX0_valueOf_21 : decode cX0_valueOf 21 = .ok (.iconst 0, 1) := by decide +kernel
theorem dX0_valueOf_22 : decode cX0_valueOf 22 = .ok (.ireturn, 1) := by decide +kernel
theorem dX0_not_0 : decode cX0_not 0 = .ok (.lload_n 0, 1) := by decide +kernel
theorem dX0_not_1 : decode cX0_not 1 = .ok (.ldc2_w 42, 3) := by decide +kernel
theorem dX0_not_4 : decode cX0_not 4 = .ok (.lcmp, 1) := by decide +kernel
theorem dX0_not_5 : decode cX0_not 5 = .ok (.ifCond .ne 9, 3) := by decide +kernel
theorem dX0_not_8 : decode cX0_not 8 = .ok (.ldc2_w 42, 3) := by decide +kernel
theorem dX0_not_11 : decode cX0_not 11 = .ok (.goto 6, 3) := by decide +kernel
theorem dX0_not_14 : decode cX0_not 14 = .ok (.lconst 1, 1) := by decide +kernel
theorem dX0_not_15 : decode cX0_not 15 = .ok (.lload_n 0, 1) := by decide +kernel
theorem dX0_not_16 : decode cX0_not 16 = .ok (.lsub, 1) := by decide +kernel
theorem dX0_not_17 : decode cX0_not 17 = .ok (.lreturn, 1) := by decide +kernel
theorem dX0_join_0 : decode cX0_join 0 = .ok (.iload_n 0, 1) := by decide +kernel
theorem dX0_join_1 : decode cX0_join 1 = .ok (.bipush 38, 2) := by decide +kernel
theorem dX0_join_3 : decode cX0_join 3 = .ok (.if_icmp .ne 15, 3) := by decide +kernel
theorem dX0_join_6 : decode cX0_join 6 = .ok (.lload_n 1, 1) := by decide +kernel
theorem dX0_join_7 : decode cX0_join 7 = .ok (.lconst 1, 1) := by decide +kernel
theorem dX0_join_8 : decode cX0_join 8 = .ok (.lcmp, 1) := by decide +kernel
theorem dX0_join_9 : decode cX0_join 9 = .ok (.ifCond .ne 7, 3) := by decide +kernel
theorem dX0_join_12 : decode cX0_join 12 = .ok (.lload_n 3, 1) := by decide +kernel
theorem dX0_join_13 : decode cX0_join 13 = .ok (.goto 4, 3) := by decide +kernel
theorem dX0_join_16 : decode cX0_join 16 = .ok (.lload_n 1, 1) := by decide +kernel
theorem dX0_join_17 : decode cX0_join 17 = .ok (.lreturn, 1) := by decide +kernel
theorem dX0_join_18 : decode cX0_join 18 = .ok (.iload_n 0, 1) := by decide +kernel
theorem dX0_join_19 : decode cX0_join 19 = .ok (.bipush 124, 2) := by decide +kernel
theorem dX0_join_21 : decode cX0_join 21 = .ok (.if_icmp .ne 15, 3) := by decide +kernel
theorem dX0_join_24 : decode cX0_join 24 = .ok (.lload_n 1, 1) := by decide +kernel
theorem dX0_join_25 : decode cX0_join 25 = .ok (.lconst 0, 1) := by decide +kernel
theorem dX0_join_26 : decode cX0_join 26 = .ok (.lcmp, 1) := by decide +kernel
theorem dX0_join_27 : decode cX0_join 27 = .ok (.ifCond .ne 7, 3) := by decide +kernel
theorem dX0_join_30 : decode cX0_join 30 = .ok (.lload_n 3, 1) := by decide +kernel
theorem dX0_join_31 : decode cX0_join 31 = .ok (.goto 4, 3) := by decide +kernel
theorem dX0_join_34 : decode cX0_join 34 = .ok (.lload_n 1, 1) := by decide +kernel
theorem dX0_join_35 : decode cX0_join 35 = .ok (.lreturn, 1) := by decide +kernel
theorem dX0_join_36 : decode cX0_join 36 = .ok (.lload_n 1, 1) := by decide +kernel
theorem dX0_join_37 : decode cX0_join 37 = .ok (.ldc2_w 42, 3) := by decide +kernel
theorem dX0_join_40 : decode cX0_join 40 = .ok (.lcmp, 1) := by decide +kernel
theorem dX0_join_41 : decode cX0_join 41 = .ok (.ifCond .eq 11, 3) := by decide +kernel
theorem dX0_join_44 : decode cX0_join 44 = .ok (.lload_n 3, 1) := by decide +kernel
theorem dX0_join_45 : decode cX0_join 45 = .ok (.ldc2_w 42, 3) := by decide +kernel
theorem dX0_join_48 : decode cX0_join 48 = .ok (.lcmp, 1) := by decide +kernel
theorem dX0_join_49 : decode cX0_join 49 = .ok (.ifCond .ne 7, 3) := by decide +kernel
theorem dX0_join_52 : decode cX0_join 52 = .ok (.ldc2_w 42, 3) := by decide +kernel
theorem dX0_join_55 : decode cX0_join 55 = .ok (.lreturn, 1) := by decide +kernel
theorem dX0_join_56 : decode cX0_join 56 = .ok (.lload_n 1, 1) := by decide +kernel
theorem dX0_join_57 : decode cX0_join 57 = .ok (.l2i, 1) := by decide +kernel
theorem dX0_join_58 : decode cX0_join 58 = .ok (.istore 5, 2) := by decide +kernel
theorem dX0_join_60 : decode cX0_join 60 = .ok (.lload_n 3, 1) := by decide +kernel
theorem dX0_join_61 : decode cX0_join 61 = .ok (.l2i, 1) := by decide +kernel
theorem dX0_join_62 : decode cX0_join 62 = .ok (.istore 6, 2) := by decide +kernel
theorem dX0_join_64 : decode cX0_join 64 = .ok (.iload_n 0, 1) := by decide +kernel
theorem dX0_join_65 : decode cX0_join 65 = .ok (.tableswitch 215 37 62 #[158, 215, 215, 215, 215, 133, 119, 215, 126, 215, 140, 215, 215, 215, 215, 215, 215, 215, 215, 215, 215, 215, 215, 176, 202, 189], 119) := by decide +kernel
theorem dX0_join_184 : decode cX0_join 184 = .ok (.iload 5, 2) := by decide +kernel
theorem dX0_join_186 : decode cX0_join 186 = .ok (.iload 6, 2) := by decide +kernel
theorem dX0_join_188 : decode cX0_join 188 = .ok (.iadd, 1) := by decide +kernel
theorem dX0_join_189 : decode cX0_join 189 = .ok (.i2l, 1) := by decide +kernel
theorem dX0_join_190 : decode cX0_join 190 = .ok (.lreturn, 1) := by decide +kernel
theorem dX0_join_191 : decode cX0_join 191 = .ok (.iload 5, 2) := by decide +kernel
theorem dX0_join_193 : decode cX0_join 193 = .ok (.iload 6, 2) := by decide +kernel
theorem dX0_join_195 : decode cX0_join 195 = .ok (.isub, 1) := by decide +kernel
theorem dX0_join_196 : decode cX0_join 196 = .ok (.i2l, 1) := by decide +kernel
theorem dX0_join_197 : decode cX0_join 197 = .ok (.lreturn, 1) := by decide +kernel
theorem dX0_join_198 : decode cX0_join 198 = .ok (.iload 5, 2) := by decide +kernel
theorem dX0_join_200 : decode cX0_join 200 = .ok (.iload 6, 2) := by decide +kernel
theorem dX0_join_202 : decode cX0_join 202 = .ok (.imul, 1) := by decide +kernel
theorem dX0_join_203 : decode cX0_join 203 = .ok (.i2l, 1) := by decide +kernel
theorem dX0_join_204 : decode cX0_join 204 = .ok (.lreturn, 1) := by decide +kernel
theorem dX0_join_205 : decode cX0_join 205 = .ok (.iload 6, 2) := by decide +kernel
theorem dX0_join_207 : decode cX0_join 207 = .ok (.ifCond .ne 9, 3) := by decide +kernel
theorem dX0_join_210 : decode cX0_join 210 = .ok (.ldc2_w 42, 3) := by decide +kernel
theorem dX0_join_213 : decode cX0_join 213 = .ok (.goto 9, 3) := by decide +kernel
theorem dX0_join_216 : decode cX0_join 216 = .ok (.iload 5, 2) := by decide +kernel
theorem dX0_join_218 : decode cX0_join 218 = .ok (.iload 6, 2) := by decide +kernel
theorem dX0_join_220 : decode cX0_join 220 = .ok (.idiv, 1) := by decide +kernel
theorem dX0_join_221 : decode cX0_join 221 = .ok (.i2l, 1) := by decide +kernel
theorem dX0_join_222 : decode cX0_join 222 = .ok (.lreturn, 1) := by decide +kernel
theorem dX0_join_223 : decode cX0_join 223 = .ok (.iload 6, 2) := by decide +kernel
theorem dX0_join_225 : decode cX0_join 225 = .ok (.ifCond .ne 9, 3) := by decide +kernel
theorem dX0_join_228 : decode cX0_join 228 = .ok (.ldc2_w 42, 3) := by decide +kernel
theorem dX0_join_231 : decode cX0_join 231 = .ok (.goto 9, 3) := by decide +kernel
theorem dX0_join_234 : decode cX0_join 234 = .ok (.iload 5, 2) := by decide +kernel
theorem dX0_join_236 : decode cX0_join 236 = .ok (.iload 6, 2) := by decide +kernel
theorem dX0_join_238 : decode cX0_join 238 = .ok (.irem, 1) := by decide +kernel
theorem dX0_join_239 : decode cX0_join 239 = .ok (.i2l, 1) := by decide +kernel
theorem dX0_join_240 : decode cX0_join 240 = .ok (.lreturn, 1) := by decide +kernel
theorem dX0_join_241 : decode cX0_join 241 = .ok (.iload 5, 2) := by decide +kernel
theorem dX0_join_243 : decode cX0_join 243 = .ok (.iload 6, 2) := by decide +kernel
theorem dX0_join_245 : decode cX0_join 245 = .ok (.if_icmp .ge 7, 3) := by decide +kernel
theorem dX0_join_248 : decode cX0_join 248 = .ok (.lconst 1, 1) := by decide +kernel
theorem dX0_join_249 : decode cX0_join 249 = .ok (.goto 4, 3) := by decide +kernel
theorem dX0_join_252 : decode cX0_join 252 = .ok (.lconst 0, 1) := by decide +kernel
theorem dX0_join_253 : decode cX0_join 253 = .ok (.lreturn, 1) := by decide +kernel
theorem dX0_join_254 : decode cX0_join 254 = .ok (.iload 5, 2) := by decide +kernel
theorem dX0_join_256 : decode cX0_join 256 = .ok (.iload 6, 2) := by decide +kernel
theorem dX0_join_258 : decode cX0_join 258 = .ok (.if_icmp .le 7, 3) := by decide +kernel
theorem dX0_join_261 : decode cX0_join 261 = .ok (.lconst 1, 1) := by decide +kernel
theorem dX0_join_262 : decode cX0_join 262 = .ok (.goto 4, 3) := by decide +kernel
theorem dX0_join_265 : decode cX0_join 265 = .ok (.lconst 0, 1) := by decide +kernel
theorem dX0_join_266 : decode cX0_join 266 = .ok (.lreturn, 1) := by decide +kernel
theorem dX0_join_267 : decode cX0_join 267 = .ok (.iload 5, 2) := by decide +kernel
theorem dX0_join_269 : decode cX0_join 269 = .ok (.iload 6, 2) := by decide +kernel
theorem dX0_join_271 : decode cX0_join 271 = .ok (.if_icmp .ne 7, 3) := by decide +kernel
theorem dX0_join_274 : decode cX0_join 274 = .ok (.lconst 1, 1) := by decide +kernel
theorem dX0_join_275 : decode cX0_join 275 = .ok (.goto 4, 3) := by decide +kernel
theorem dX0_join_278 : decode cX0_join 278 = .ok (.lconst 0, 1) := by decide +kernel
theorem dX0_join_279 : decode cX0_join 279 = .ok (.lreturn, 1) := by decide +kernel
theorem dX0_join_280 : decode cX0_join 280 = .ok (.ldc2_w 42, 3) := by decide +kernel
theorem dX0_join_283 : decode cX0_join 283 = .ok (.lreturn, 1) := by decide +kernel
theorem dX0_isFact_0 : decode cX0_isFact 0 = .ok (.iload_n 0, 1) := by decide +kernel
theorem dX0_isFact_1 : decode cX0_isFact 1 = .ok (.tableswitch 117 97 121 #[115, 115, 117, 115, 117, 117, 115, 115, 117, 117, 115, 117, 117, 115, 117, 117, 117, 115, 117, 117, 117, 115, 115, 115, 115], 115) := by decide +kernel
theorem dX0_isFact_116 : decode cX0_isFact 116 = .ok (.iconst 1, 1) := by decide +kernel
theorem dX0_isFact_117 : decode cX0_isFact 117 = .ok (.ireturn, 1) := by decide +kernel
theorem dX0_isFact_118 : decode cX0_isFact 118 = .ok (.iconst 0, 1) := by decide +kernel
theorem dX0_isFact_119 : decode cX0_isFact 119 = .ok (.ireturn, 1) := by decide +kernel
theorem dX1_init_0 : decode cX1_init 0 = .ok (.aload_n 0, 1) := by decide +kernel
theorem dX1_init_1 : decode cX1_init 1 = .ok (.invokespecial 3, 3) := by decide +kernel
theorem dX1_init_4 : decode cX1_init 4 = .ok (.aload_n 0, 1) := by decide +kernel
theorem dX1_init_5 : decode cX1_init 5 = .ok (.sipush 200, 3) := by decide +kernel
theorem dX1_init_8 : decode cX1_init 8 = .ok (.newarray .byte, 2) := by decide +kernel
theorem dX1_init_10 : decode cX1_init 10 = .ok (.putfield 9, 3) := by decide +kernel
theorem dX1_init_13 : decode cX1_init 13 = .ok (.aload_n 0, 1) := by decide +kernel
theorem dX1_init_14 : decode cX1_init 14 = .ok (.new 15, 3) := by decide +kernel
theorem dX1_init_17 : decode cX1_init 17 = .ok (.dup, 1) := by decide +kernel
theorem dX1_init_18 : decode cX1_init 18 = .ok (.invokespecial 17, 3) := by decide +kernel
theorem dX1_init_21 : decode cX1_init 21 = .ok (.putfield 18, 3) := by decide +kernel
theorem dX1_init_24 : decode cX1_init 24 = .ok (.aload_n 0, 1) := by decide +kernel
theorem dX1_init_25 : decode cX1_init 25 = .ok (.new 15, 3) := by decide +kernel
theorem dX1_init_28 : decode cX1_init 28 = .ok (.dup, 1) := by decide +kernel
theorem dX1_init_29 : decode cX1_init 29 = .ok (.invokespecial 17, 3) := by decide +kernel
theorem dX1_init_32 : decode cX1_init 32 = .ok (.putfield 22, 3) := by decide +kernel
theorem dX1_init_35 : decode cX1_init 35 = .ok (.return_, 1) := by decide +kernel
theorem dX1_current_0 : decode cX1_current 0 = .ok (.aload_n 0, 1) := by decide +kernel
theorem dX1_current_1 : decode cX1_current 1 = .ok (.getfield 18, 3) := by decide +kernel
theorem dX1_current_4 : decode cX1_current 4 = .ok (.areturn, 1) := by decide +kernel
theorem dX1_clauses_0 : decode cX1_clauses 0 = .ok (.aload_n 0, 1) := by decide +kernel
theorem dX1_clauses_1 : decode cX1_clauses 1 = .ok (.getfield 18, 3) := by decide +kernel
theorem dX1_clauses_4 : decode cX1_clauses 4 = .ok (.invokevirtual 25, 3) := by decide +kernel
theorem dX1_clauses_7 : decode cX1_clauses 7 = .ok (.ireturn, 1) := by decide +kernel
theorem dX1_read_0 : decode cX1_read 0 = .ok (.aload_n 0, 1) := by decide +kernel
theorem dX1_read_1 : decode cX1_read 1 = .ok (.iload_n 2, 1) := by decide +kernel
theorem dX1_read_2 : decode cX1_read 2 = .ok (.iconst 0, 1) := by decide +kernel
theorem dX1_read_3 : decode cX1_read 3 = .ok (.aload_n 0, 1) := by decide +kernel
theorem dX1_read_4 : decode cX1_read 4 = .ok (.getfield 9, 3) := by decide +kernel
theorem dX1_read_7 : decode cX1_read 7 = .ok (.arraylength, 1) := by decide +kernel
theorem dX1_read_8 : decode cX1_read 8 = .ok (.invokestatic 29, 3) := by decide +kernel
theorem dX1_read_11 : decode cX1_read 11 = .ok (.putfield 33, 3) := by decide +kernel
theorem dX1_read_14 : decode cX1_read 14 = .ok (.iconst 0, 1) := by decide +kernel
theorem dX1_read_15 : decode cX1_read 15 = .ok (.istore_n 3, 1) := by decide +kernel
theorem dX1_read_16 : decode cX1_read 16 = .ok (.iload_n 3, 1) := by decide +kernel
theorem dX1_read_17 : decode cX1_read 17 = .ok (.aload_n 0, 1) := by decide +kernel
theorem dX1_read_18 : decode cX1_read 18 = .ok (.getfield 33, 3) := by decide +kernel
theorem dX1_read_21 : decode cX1_read 21 = .ok (.if_icmp .ge 30, 3) := by decide +kernel
theorem dX1_read_24 : decode cX1_read 24 = .ok (.iload_n 3, 1) := by decide +kernel
theorem dX1_read_25 : decode cX1_read 25 = .ok (.aload_n 0, 1) := by decide +kernel
theorem dX1_read_26 : decode cX1_read 26 = .ok (.getfield 9, 3) := by decide +kernel
theorem dX1_read_29 : decode cX1_read 29 = .ok (.arraylength, 1) := by decide +kernel
theorem dX1_read_30 : decode cX1_read 30 = .ok (.if_icmp .ge 21, 3) := by decide +kernel
theorem dX1_read_33 : decode cX1_read 33 = .ok (.aload_n 0, 1) := by decide +kernel
theorem dX1_read_34 : decode cX1_read 34 = .ok (.getfield 9, 3) := by decide +kernel
theorem dX1_read_37 : decode cX1_read 37 = .ok (.iload_n 3, 1) := by decide +kernel
theorem dX1_read_38 : decode cX1_read 38 = .ok (.aload_n 1, 1) := by decide +kernel
theorem dX1_read_39 : decode cX1_read 39 = .ok (.iload_n 3, 1) := by decide +kernel
theorem dX1_read_40 : decode cX1_read 40 = .ok (.invokevirtual 36, 3) := by decide +kernel
theorem dX1_read_43 : decode cX1_read 43 = .ok (.i2b, 1) := by decide +kernel
theorem dX1_read_44 : decode cX1_read 44 = .ok (.bastore, 1) := by decide +kernel
theorem dX1_read_45 : decode cX1_read 45 = .ok (.iinc 3 1, 3) := by decide +kernel
theorem dX1_read_48 : decode cX1_read 48 = .ok (.goto (-32), 3) := by decide +kernel
theorem dX1_read_51 : decode cX1_read 51 = .ok (.aload_n 0, 1) := by decide +kernel
theorem dX1_read_52 : decode cX1_read 52 = .ok (.iconst 0, 1) := by decide +kernel
theorem dX1_read_53 : decode cX1_read 53 = .ok (.putfield 42, 3) := by decide +kernel
theorem dX1_read_56 : decode cX1_read 56 = .ok (.aload_n 0, 1) := by decide +kernel
theorem dX1_read_57 : decode cX1_read 57 = .ok (.iconst 0, 1) := by decide +kernel
theorem dX1_read_58 : decode cX1_read 58 = .ok (.putfield 45, 3) := by decide +kernel
theorem dX1_read_61 : decode cX1_read 61 = .ok (.aload_n 0, 1) := by decide +kernel
theorem dX1_read_62 : decode cX1_read 62 = .ok (.getfield 22, 3) := by decide +kernel
theorem dX1_read_65 : decode cX1_read 65 = .ok (.invokevirtual 48, 3) := by decide +kernel
theorem dX1_read_68 : decode cX1_read 68 = .ok (.aload_n 0, 1) := by decide +kernel
theorem dX1_read_69 : decode cX1_read 69 = .ok (.invokevirtual 51, 3) := by decide +kernel
theorem dX1_read_72 : decode cX1_read 72 = .ok (.iconst 0, 1) := by decide +kernel
theorem dX1_read_73 : decode cX1_read 73 = .ok (.istore_n 3, 1) := by decide +kernel
theorem dX1_read_74 : decode cX1_read 74 = .ok (.iload_n 3, 1) := by decide +kernel
theorem dX1_read_75 : decode cX1_read 75 = .ok (.bipush 14, 2) := by decide +kernel
theorem dX1_read_77 : decode cX1_read 77 = .ok (.if_icmp .ge 37, 3) := by decide +kernel
theorem dX1_read_80 : decode cX1_read 80 = .ok (.aload_n 0, 1) := by decide +kernel
theorem dX1_read_81 : decode cX1_read 81 = .ok (.getfield 45, 3) := by decide +kernel
theorem dX1_read_84 : decode cX1_read 84 = .ok (.ifCond .ne 30, 3) := by decide +kernel
theorem dX1_read_87 : decode cX1_read 87 = .ok (.aload_n 0, 1) := by decide +kernel
theorem dX1_read_88 : decode cX1_read 88 = .ok (.getfield 42, 3) := by decide +kernel
theorem dX1_read_91 : decode cX1_read 91 = .ok (.aload_n 0, 1) := by decide +kernel
theorem dX1_read_92 : decode cX1_read 92 = .ok (.getfield 33, 3) := by decide +kernel
theorem dX1_read_95 : decode cX1_read 95 = .ok (.if_icmp .ge 19, 3) := by decide +kernel
theorem dX1_read_98 : decode cX1_read 98 = .ok (.aload_n 0, 1) := by decide +kernel
theorem dX1_read_99 : decode cX1_read 99 = .ok (.bipush 59, 2) := by decide +kernel
theorem dX1_read_101 : decode cX1_read 101 = .ok (.invokevirtual 54, 3) := by decide +kernel
theorem dX1_read_104 : decode cX1_read 104 = .ok (.aload_n 0, 1) := by decide +kernel
theorem dX1_read_105 : decode cX1_read 105 = .ok (.invokevirtual 51, 3) := by decide +kernel
theorem dX1_read_108 : decode cX1_read 108 = .ok (.iinc 3 1, 3) := by decide +kernel
theorem dX1_read_111 : decode cX1_read 111 = .ok (.goto (-37), 3) := by decide +kernel
theorem dX1_read_114 : decode cX1_read 114 = .ok (.aload_n 0, 1) := by decide +kernel
theorem dX1_read_115 : decode cX1_read 115 = .ok (.getfield 45, 3) := by decide +kernel
theorem dX1_read_118 : decode cX1_read 118 = .ok (.ifCond .eq 17, 3) := by decide +kernel
theorem dX1_read_121 : decode cX1_read 121 = .ok (.sipush (-1000), 3) := by decide +kernel
theorem dX1_read_124 : decode cX1_read 124 = .ok (.aload_n 0, 1) := by decide +kernel
theorem dX1_read_125 : decode cX1_read 125 = .ok (.getfield 45, 3) := by decide +kernel
theorem dX1_read_128 : decode cX1_read 128 = .ok (.imul, 1) := by decide +kernel
theorem dX1_read_129 : decode cX1_read 129 = .ok (.aload_n 0, 1) := by decide +kernel
theorem dX1_read_130 : decode cX1_read 130 = .ok (.getfield 42, 3) := by decide +kernel
theorem dX1_read_133 : decode cX1_read 133 = .ok (.isub, 1) := by decide +kernel
theorem dX1_read_134 : decode cX1_read 134 = .ok (.ireturn, 1) := by decide +kernel
theorem dX1_read_135 : decode cX1_read 135 = .ok (.aload_n 0, 1) := by decide +kernel
theorem dX1_read_136 : decode cX1_read 136 = .ok (.getfield 18, 3) := by decide +kernel
theorem dX1_read_139 : decode cX1_read 139 = .ok (.astore_n 3, 1) := by decide +kernel
theorem dX1_read_140 : decode cX1_read 140 = .ok (.aload_n 0, 1) := by decide +kernel
theorem dX1_read_141 : decode cX1_read 141 = .ok (.aload_n 0, 1) := by decide +kernel
theorem dX1_read_142 : decode cX1_read 142 = .ok (.getfield 22, 3) := by decide +kernel
theorem dX1_read_145 : decode cX1_read 145 = .ok (.putfield 18, 3) := by decide +kernel
theorem dX1_read_148 : decode cX1_read 148 = .ok (.aload_n 0, 1) := by decide +kernel
theorem dX1_read_149 : decode cX1_read 149 = .ok (.aload_n 3, 1) := by decide +kernel
theorem dX1_read_150 : decode cX1_read 150 = .ok (.putfield 22, 3) := by decide +kernel
theorem dX1_read_153 : decode cX1_read 153 = .ok (.aload_n 0, 1) := by decide +kernel
theorem dX1_read_154 : decode cX1_read 154 = .ok (.getfield 18, 3) := by decide +kernel
theorem dX1_read_157 : decode cX1_read 157 = .ok (.invokevirtual 25, 3) := by decide +kernel
theorem dX1_read_160 : decode cX1_read 160 = .ok (.ireturn, 1) := by decide +kernel
theorem dX1_readClause_0 : decode cX1_readClause 0 = .ok (.aload_n 0, 1) := by decide +kernel
theorem dX1_readClause_1 : decode cX1_readClause 1 = .ok (.invokevirtual 58, 3) := by decide +kernel
theorem dX1_readClause_4 : decode cX1_readClause 4 = .ok (.istore_n 1, 1) := by decide +kernel
theorem dX1_readClause_5 : decode cX1_readClause 5 = .ok (.iload_n 1, 1) := by decide +kernel
theorem dX1_readClause_6 : decode cX1_readClause 6 = .ok (.bipush 111, 2) := by decide +kernel
theorem dX1_readClause_8 : decode cX1_readClause 8 = .ok (.if_icmp .eq 21, 3) := by decide +kernel
theorem dX1_readClause_11 : decode cX1_readClause 11 = .ok (.iload_n 1, 1) := by decide +kernel
theorem dX1_readClause_12 : decode cX1_readClause 12 = .ok (.bipush 112, 2) := by decide +kernel
theorem dX1_readClause_14 : decode cX1_readClause 14 = .ok (.if_icmp .eq 15, 3) := by decide +kernel
theorem dX1_readClause_17 : decode cX1_readClause 17 = .ok (.iload_n 1, 1) := by decide +kernel
theorem dX1_readClause_18 : decode cX1_readClause 18 = .ok (.bipush 108, 2) := by decide +kernel
theorem dX1_readClause_20 : decode cX1_readClause 20 = .ok (.if_icmp .eq 9, 3) := by decide +kernel
theorem dX1_readClause_23 : decode cX1_readClause 23 = .ok (.aload_n 0, 1) := by decide +kernel
theorem dX1_readClause_24 : decode cX1_readClause 24 = .ok (.iconst 1, 1) := by decide +kernel
theorem dX1_readClause_25 : decode cX1_readClause 25 = .ok (.invokevirtual 61, 3) := by decide +kernel
theorem dX1_readClause_28 : decode cX1_readClause 28 = .ok (.return_, 1) := by decide +kernel
theorem dX1_readClause_29 : decode cX1_readClause 29 = .ok (.aload_n 0, 1) := by decide +kernel
theorem dX1_readClause_30 : decode cX1_readClause 30 = .ok (.getfield 22, 3) := by decide +kernel
theorem dX1_readClause_33 : decode cX1_readClause 33 = .ok (.invokevirtual 25, 3) := by decide +kernel
theorem dX1_readClause_36 : decode cX1_readClause 36 = .ok (.bipush 14, 2) := by decide +kernel
theorem dX1_readClause_38 : decode cX1_readClause 38 = .ok (.if_icmp .lt 9, 3) := by decide +kernel
theorem dX1_readClause_41 : decode cX1_readClause 41 = .ok (.aload_n 0, 1) := by decide +kernel
theorem dX1_readClause_42 : decode cX1_readClause 42 = .ok (.iconst 4, 1) := by decide +kernel
theorem dX1_readClause_43 : decode cX1_readClause 43 = .ok (.invokevirtual 61, 3) := by decide +kernel
theorem dX1_readClause_46 : decode cX1_readClause 46 = .ok (.return_, 1) := by decide +kernel
theorem dX1_readClause_47 : decode cX1_readClause 47 = .ok (.aload_n 0, 1) := by decide +kernel
theorem dX1_readClause_48 : decode cX1_readClause 48 = .ok (.dup, 1) := by decide +kernel
theorem dX1_readClause_49 : decode cX1_readClause 49 = .ok (.getfield 42, 3) := by decide +kernel
theorem dX1_readClause_52 : decode cX1_readClause 52 = .ok (.iconst 1, 1) := by decide +kernel
theorem dX1_readClause_53 : decode cX1_readClause 53 = .ok (.iadd, 1) := by decide +kernel
theorem dX1_readClause_54 : decode cX1_readClause 54 = .ok (.putfield 42, 3) := by decide +kernel
theorem dX1_readClause_57 : decode cX1_readClause 57 = .ok (.aload_n 0, 1) := by decide +kernel
theorem dX1_readClause_58 : decode cX1_readClause 58 = .ok (.getfield 22, 3) := by decide +kernel
theorem dX1_readClause_61 : decode cX1_readClause 61 = .ok (.iload_n 1, 1) := by decide +kernel
theorem dX1_readClause_62 : decode cX1_readClause 62 = .ok (.invokevirtual 64, 3) := by decide +kernel
theorem dX1_readClause_65 : decode cX1_readClause 65 = .ok (.aload_n 0, 1) := by decide +kernel
theorem dX1_readClause_66 : decode cX1_readClause 66 = .ok (.iconst 0, 1) := by decide +kernel
theorem dX1_readClause_67 : decode cX1_readClause 67 = .ok (.invokevirtual 67, 3) := by decide +kernel
theorem dX1_readClause_70 : decode cX1_readClause 70 = .ok (.aload_n 0, 1) := by decide +kernel
theorem dX1_readClause_71 : decode cX1_readClause 71 = .ok (.getfield 22, 3) := by decide +kernel
theorem dX1_readClause_74 : decode cX1_readClause 74 = .ok (.invokevirtual 70, 3) := by decide +kernel
theorem dX1_readClause_77 : decode cX1_readClause 77 = .ok (.aload_n 0, 1) := by decide +kernel
theorem dX1_readClause_78 : decode cX1_readClause 78 = .ok (.bipush 40, 2) := by decide +kernel
theorem dX1_readClause_80 : decode cX1_readClause 80 = .ok (.invokevirtual 54, 3) := by decide +kernel
theorem dX1_readClause_83 : decode cX1_readClause 83 = .ok (.aload_n 0, 1) := by decide +kernel
theorem dX1_readClause_84 : decode cX1_readClause 84 = .ok (.iconst 1, 1) := by decide +kernel
theorem dX1_readClause_85 : decode cX1_readClause 85 = .ok (.invokevirtual 73, 3) := by decide +kernel
theorem dX1_readClause_88 : decode cX1_readClause 88 = .ok (.aload_n 0, 1) := by decide +kernel
theorem dX1_readClause_89 : decode cX1_readClause 89 = .ok (.bipush 41, 2) := by decide +kernel
theorem dX1_readClause_91 : decode cX1_readClause 91 = .ok (.invokevirtual 54, 3) := by decide +kernel
theorem dX1_readClause_94 : decode cX1_readClause 94 = .ok (.aload_n 0, 1) := by decide +kernel
theorem dX1_readClause_95 : decode cX1_readClause 95 = .ok (.getfield 22, 3) := by decide +kernel
theorem dX1_readClause_98 : decode cX1_readClause 98 = .ok (.invokevirtual 76, 3) := by decide +kernel
theorem dX1_readClause_101 : decode cX1_readClause 101 = .ok (.return_, 1) := by decide +kernel
theorem dX1_readChoice_0 : decode cX1_readChoice 0 = .ok (.iconst 0, 1) := by decide +kernel
theorem dX1_readChoice_1 : decode cX1_readChoice 1 = .ok (.istore_n 2, 1) := by decide +kernel
theorem dX1_readChoice_2 : decode cX1_readChoice 2 = .ok (.aload_n 0, 1) := by decide +kernel
theorem dX1_readChoice_3 : decode cX1_readChoice 3 = .ok (.iload_n 1, 1) := by decide +kernel
theorem dX1_readChoice_4 : decode cX1_readChoice 4 = .ok (.invokevirtual 79, 3) := by decide +kernel
theorem dX1_readChoice_7 : decode cX1_readChoice 7 = .ok (.iconst 0, 1) := by decide +kernel
theorem dX1_readChoice_8 : decode cX1_readChoice 8 = .ok (.istore_n 3, 1) := by decide +kernel
theorem dX1_readChoice_9 : decode cX1_readChoice 9 = .ok (.iload_n 3, 1) := by decide +kernel
theorem dX1_readChoice_10 : decode cX1_readChoice 10 = .ok (.sipush 200, 3) := by decide +kernel
theorem dX1_readChoice_13 : decode cX1_readChoice 13 = .ok (.if_icmp .ge 93, 3) := by decide +kernel
theorem dX1_readChoice_16 : decode cX1_readChoice 16 = .ok (.aload_n 0, 1) := by decide +kernel
theorem dX1_readChoice_17 : decode cX1_readChoice 17 = .ok (.invokevirtual 58, 3) := by decide +kernel
theorem dX1_readChoice_20 : decode cX1_readChoice 20 = .ok (.bipush 124, 2) := by decide +kernel
theorem dX1_readChoice_22 : decode cX1_readChoice 22 = .ok (.if_icmp .eq 12, 3) := by decide +kernel
theorem dX1_readChoice_25 : decode cX1_readChoice 25 = .ok (.aload_n 0, 1) := by decide +kernel
theorem dX1_readChoice_26 : decode cX1_readChoice 26 = .ok (.invokevirtual 58, 3) := by decide +kernel
theorem dX1_readChoice_29 : decode cX1_readChoice 29 = .ok (.bipush 38, 2) := by decide +kernel
theorem dX1_readChoice_31 : decode cX1_readChoice 31 = .ok (.if_icmp .ne 75, 3) := by decide +kernel
theorem dX1_readChoice_34 : decode cX1_readChoice 34 = .ok (.aload_n 0, 1) := by decide +kernel
theorem dX1_readChoice_35 : decode cX1_readChoice 35 = .ok (.invokevirtual 58, 3) := by decide +kernel
theorem dX1_readChoice_38 : decode cX1_readChoice 38 = .ok (.istore 4, 2) := by decide +kernel
theorem dX1_readChoice_40 : decode cX1_readChoice 40 = .ok (.aload_n 0, 1) := by decide +kernel
theorem dX1_readChoice_41 : decode cX1_readChoice 41 = .ok (.dup, 1) := by decide +kernel
theorem dX1_readChoice_42 : decode cX1_readChoice 42 = .ok (.getfield 42, 3) := by decide +kernel
theorem dX1_readChoice_45 : decode cX1_readChoice 45 = .ok (.iconst 1, 1) := by decide +kernel
theorem dX1_readChoice_46 : decode cX1_readChoice 46 = .ok (.iadd, 1) := by decide +kernel
theorem dX1_readChoice_47 : decode cX1_readChoice 47 = .ok (.putfield 42, 3) := by decide +kernel
theorem dX1_readChoice_50 : decode cX1_readChoice 50 = .ok (.iload 4, 2) := by decide +kernel
theorem dX1_readChoice_52 : decode cX1_readChoice 52 = .ok (.bipush 124, 2) := by decide +kernel
theorem dX1_readChoice_54 : decode cX1_readChoice 54 = .ok (.if_icmp .ne 16, 3) := by decide +kernel
theorem dX1_readChoice_57 : decode cX1_readChoice 57 = .ok (.iload_n 2, 1) := by decide +kernel
theorem dX1_readChoice_58 : decode cX1_readChoice 58 = .ok (.ifCond .eq 12, 3) := by decide +kernel
theorem dX1_readChoice_61 : decode cX1_readChoice 61 = .ok (.aload_n 0, 1) := by decide +kernel
theorem dX1_readChoice_62 : decode cX1_readChoice 62 = .ok (.getfield 22, 3) := by decide +kernel
theorem dX1_readChoice_65 : decode cX1_readChoice 65 = .ok (.bipush 124, 2) := by decide +kernel
theorem dX1_readChoice_67 : decode cX1_readChoice 67 = .ok (.invokevirtual 82, 3) := by decide +kernel
theorem dX1_readChoice_70 : decode cX1_readChoice 70 = .ok (.iload 4, 2) := by decide +kernel
theorem dX1_readChoice_72 : decode cX1_readChoice 72 = .ok (.bipush 124, 2) := by decide +kernel
theorem dX1_readChoice_74 : decode cX1_readChoice 74 = .ok (.if_icmp .ne 5, 3) := by decide +kernel
theorem dX1_readChoice_77 : decode cX1_readChoice 77 = .ok (.iconst 1, 1) := by decide +kernel
theorem dX1_readChoice_78 : decode cX1_readChoice 78 = .ok (.istore_n 2, 1) := by decide +kernel
theorem dX1_readChoice_79 : decode cX1_readChoice 79 = .ok (.aload_n 0, 1) := by decide +kernel
theorem dX1_readChoice_80 : decode cX1_readChoice 80 = .ok (.iload_n 1, 1) := by decide +kernel
theorem dX1_readChoice_81 : decode cX1_readChoice 81 = .ok (.invokevirtual 79, 3) := by decide +kernel
theorem dX1_readChoice_84 : decode cX1_readChoice 84 = .ok (.iload 4, 2) := by decide +kernel
theorem dX1_readChoice_86 : decode cX1_readChoice 86 = .ok (.bipush 38, 2) := by decide +kernel
theorem dX1_readChoice_88 : decode cX1_readChoice 88 = .ok (.if_icmp .ne 12, 3) := by decide +kernel
theorem dX1_readChoice_91 : decode cX1_readChoice 91 = .ok (.aload_n 0, 1) := by decide +kernel
theorem dX1_readChoice_92 : decode cX1_readChoice 92 = .ok (.getfield 22, 3) := by decide +kernel
theorem dX1_readChoice_95 : decode cX1_readChoice 95 = .ok (.bipush 38, 2) := by decide +kernel
theorem dX1_readChoice_97 : decode cX1_readChoice 97 = .ok (.invokevirtual 82, 3) := by decide +kernel
theorem dX1_readChoice_100 : decode cX1_readChoice 100 = .ok (.iinc 3 1, 3) := by decide +kernel
theorem dX1_readChoice_103 : decode cX1_readChoice 103 = .ok (.goto (-94), 3) := by decide +kernel
theorem dX1_readChoice_106 : decode cX1_readChoice 106 = .ok (.iload_n 2, 1) := by decide +kernel
theorem dX1_readChoice_107 : decode cX1_readChoice 107 = .ok (.ifCond .eq 12, 3) := by decide +kernel
theorem dX1_readChoice_110 : decode cX1_readChoice 110 = .ok (.aload_n 0, 1) := by decide +kernel
theorem dX1_readChoice_111 : decode cX1_readChoice 111 = .ok (.getfield 22, 3) := by decide +kernel
theorem dX1_readChoice_114 : decode cX1_readChoice 114 = .ok (.bipush 124, 2) := by decide +kernel
theorem dX1_readChoice_116 : decode cX1_readChoice 116 = .ok (.invokevirtual 82, 3) := by decide +kernel
theorem dX1_readChoice_119 : decode cX1_readChoice 119 = .ok (.return_, 1) := by decide +kernel
theorem dX1_readPiece_0 : decode cX1_readPiece 0 = .ok (.aload_n 0, 1) := by decide +kernel
theorem dX1_readPiece_1 : decode cX1_readPiece 1 = .ok (.invokevirtual 58, 3) := by decide +kernel
theorem dX1_readPiece_4 : decode cX1_readPiece 4 = .ok (.istore_n 2, 1) := by decide +kernel
theorem dX1_readPiece_5 : decode cX1_readPiece 5 = .ok (.iload_n 2, 1) := by decide +kernel
theorem dX1_readPiece_6 : decode cX1_readPiece 6 = .ok (.bipush 33, 2) := by decide +kernel
theorem dX1_readPiece_8 : decode cX1_readPiece 8 = .ok (.if_icmp .ne 9, 3) := by decide +kernel
theorem dX1_readPiece_11 : decode cX1_readPiece 11 = .ok (.aload_n 0, 1) := by decide +kernel
theorem dX1_readPiece_12 : decode cX1_readPiece 12 = .ok (.iload_n 1, 1) := by decide +kernel
theorem dX1_readPiece_13 : decode cX1_readPiece 13 = .ok (.invokevirtual 85, 3) := by decide +kernel
theorem dX1_readPiece_16 : decode cX1_readPiece 16 = .ok (.return_, 1) := by decide +kernel
theorem dX1_readPiece_17 : decode cX1_readPiece 17 = .ok (.iload_n 2, 1) := by decide +kernel
theorem dX1_readPiece_18 : decode cX1_readPiece 18 = .ok (.bipush 40, 2) := by decide +kernel
theorem dX1_readPiece_20 : decode cX1_readPiece 20 = .ok (.if_icmp .ne 26, 3) := by decide +kernel
theorem dX1_readPiece_23 : decode cX1_readPiece 23 = .ok (.aload_n 0, 1) := by decide +kernel
theorem dX1_readPiece_24 : decode cX1_readPiece 24 = .ok (.iload_n 1, 1) := by decide +kernel
theorem dX1_readPiece_25 : decode cX1_readPiece 25 = .ok (.invokevirtual 88, 3) := by decide +kernel
theorem dX1_readPiece_28 : decode cX1_readPiece 28 = .ok (.ifCond .ne 4, 3) := by decide +kernel
theorem dX1_readPiece_31 : decode cX1_readPiece 31 = .ok (.return_, 1) := by decide +kernel
theorem dX1_readPiece_32 : decode cX1_readPiece 32 = .ok (.aload_n 0, 1) := by decide +kernel
theorem dX1_readPiece_33 : decode cX1_readPiece 33 = .ok (.iload_n 1, 1) := by decide +kernel
theorem dX1_readPiece_34 : decode cX1_readPiece 34 = .ok (.iconst 1, 1) := by decide +kernel
theorem dX1_readPiece_35 : decode cX1_readPiece 35 = .ok (.iadd, 1) := by decide +kernel
theorem dX1_readPiece_36 : decode cX1_readPiece 36 = .ok (.invokevirtual 73, 3) := by decide +kernel
theorem dX1_readPiece_39 : decode cX1_readPiece 39 = .ok (.aload_n 0, 1) := by decide +kernel
theorem dX1_readPiece_40 : decode cX1_readPiece 40 = .ok (.bipush 41, 2) := by decide +kernel
theorem dX1_readPiece_42 : decode cX1_readPiece 42 = .ok (.invokevirtual 54, 3) := by decide +kernel
theorem dX1_readPiece_45 : decode cX1_readPiece 45 = .ok (.return_, 1) := by decide +kernel
theorem dX1_readPiece_46 : decode cX1_readPiece 46 = .ok (.aload_n 0, 1) := by decide +kernel
theorem dX1_readPiece_47 : decode cX1_readPiece 47 = .ok (.iload_n 1, 1) := by decide +kernel
theorem dX1_readPiece_48 : decode cX1_readPiece 48 = .ok (.invokevirtual 67, 3) := by decide +kernel
theorem dX1_readPiece_51 : decode cX1_readPiece 51 = .ok (.aload_n 0, 1) := by decide +kernel
theorem dX1_readPiece_52 : decode cX1_readPiece 52 = .ok (.invokevirtual 58, 3) := by decide +kernel
theorem dX1_readPiece_55 : decode cX1_readPiece 55 = .ok (.istore_n 3, 1) := by decide +kernel
theorem dX1_readPiece_56 : decode cX1_readPiece 56 = .ok (.iload_n 3, 1) := by decide +kernel
theorem dX1_readPiece_57 : decode cX1_readPiece 57 = .ok (.bipush 60, 2) := by decide +kernel
theorem dX1_readPiece_59 : decode cX1_readPiece 59 = .ok (.if_icmp .eq 21, 3) := by decide +kernel
theorem dX1_readPiece_62 : decode cX1_readPiece 62 = .ok (.iload_n 3, 1) := by decide +kernel
theorem dX1_readPiece_63 : decode cX1_readPiece 63 = .ok (.bipush 62, 2) := by decide +kernel
theorem dX1_readPiece_65 : decode cX1_readPiece 65 = .ok (.if_icmp .eq 15, 3) := by decide +kernel
theorem dX1_readPiece_68 : decode cX1_readPiece 68 = .ok (.iload_n 3, 1) := by decide +kernel
theorem dX1_readPiece_69 : decode cX1_readPiece 69 = .ok (.bipush 61, 2) := by decide +kernel
theorem dX1_readPiece_71 : decode cX1_readPiece 71 = .ok (.if_icmp .eq 9, 3) := by decide +kernel
theorem dX1_readPiece_74 : decode cX1_readPiece 74 = .ok (.aload_n 0, 1) := by decide +kernel
theorem dX1_readPiece_75 : decode cX1_readPiece 75 = .ok (.iconst 1, 1) := by decide +kernel
theorem dX1_readPiece_76 : decode cX1_readPiece 76 = .ok (.invokevirtual 61, 3) := by decide +kernel
theorem dX1_readPiece_79 : decode cX1_readPiece 79 = .ok (.return_, 1) := by decide +kernel
theorem dX1_readPiece_80 : decode cX1_readPiece 80 = .ok (.aload_n 0, 1) := by decide +kernel
theorem dX1_readPiece_81 : decode cX1_readPiece 81 = .ok (.dup, 1) := by decide +kernel
theorem dX1_readPiece_82 : decode cX1_readPiece 82 = .ok (.getfield 42, 3) := by decide +kernel
theorem dX1_readPiece_85 : decode cX1_readPiece 85 = .ok (.iconst 1, 1) := by decide +kernel
theorem dX1_readPiece_86 : decode cX1_readPiece 86 = .ok (.iadd, 1) := by decide +kernel
theorem dX1_readPiece_87 : decode cX1_readPiece 87 = .ok (.putfield 42, 3) := by decide +kernel
theorem dX1_readPiece_90 : decode cX1_readPiece 90 = .ok (.aload_n 0, 1) := by decide +kernel
theorem dX1_readPiece_91 : decode cX1_readPiece 91 = .ok (.iload_n 1, 1) := by decide +kernel
theorem dX1_readPiece_92 : decode cX1_readPiece 92 = .ok (.invokevirtual 67, 3) := by decide +kernel
theorem dX1_readPiece_95 : decode cX1_readPiece 95 = .ok (.aload_n 0, 1) := by decide +kernel
theorem dX1_readPiece_96 : decode cX1_readPiece 96 = .ok (.getfield 22, 3) := by decide +kernel
theorem dX1_readPiece_99 : decode cX1_readPiece 99 = .ok (.iload_n 3, 1) := by decide +kernel
theorem dX1_readPiece_100 : decode cX1_readPiece 100 = .ok (.invokevirtual 82, 3) := by decide +kernel
theorem dX1_readPiece_103 : decode cX1_readPiece 103 = .ok (.return_, 1) := by decide +kernel
theorem dX1_readDenied_0 : decode cX1_readDenied 0 = .ok (.aload_n 0, 1) := by decide +kernel
theorem dX1_readDenied_1 : decode cX1_readDenied 1 = .ok (.iload_n 1, 1) := by decide +kernel
theorem dX1_readDenied_2 : decode cX1_readDenied 2 = .ok (.invokevirtual 88, 3) := by decide +kernel
theorem dX1_readDenied_5 : decode cX1_readDenied 5 = .ok (.ifCond .ne 4, 3) := by decide +kernel
theorem dX1_readDenied_8 : decode cX1_readDenied 8 = .ok (.return_, 1) := by decide +kernel
theorem dX1_readDenied_9 : decode cX1_readDenied 9 = .ok (.aload_n 0, 1) := by decide +kernel
theorem dX1_readDenied_10 : decode cX1_readDenied 10 = .ok (.iload_n 1, 1) := by decide +kernel
theorem dX1_readDenied_11 : decode cX1_readDenied 11 = .ok (.iconst 1, 1) := by decide +kernel
theorem dX1_readDenied_12 : decode cX1_readDenied 12 = .ok (.iadd, 1) := by decide +kernel
theorem dX1_readDenied_13 : decode cX1_readDenied 13 = .ok (.invokevirtual 79, 3) := by decide +kernel
theorem dX1_readDenied_16 : decode cX1_readDenied 16 = .ok (.aload_n 0, 1) := by decide +kernel
theorem dX1_readDenied_17 : decode cX1_readDenied 17 = .ok (.getfield 22, 3) := by decide +kernel
theorem dX1_readDenied_20 : decode cX1_readDenied 20 = .ok (.bipush 33, 2) := by decide +kernel
theorem dX1_readDenied_22 : decode cX1_readDenied 22 = .ok (.invokevirtual 82, 3) := by decide +kernel
theorem dX1_readDenied_25 : decode cX1_readDenied 25 = .ok (.return_, 1) := by decide +kernel
theorem dX1_readSum_0 : decode cX1_readSum 0 = .ok (.iconst (-1), 1) := by decide +kernel
theorem dX1_readSum_1 : decode cX1_readSum 1 = .ok (.istore_n 2, 1) := by decide +kernel
theorem dX1_readSum_2 : decode cX1_readSum 2 = .ok (.aload_n 0, 1) := by decide +kernel
theorem dX1_readSum_3 : decode cX1_readSum 3 = .ok (.iload_n 1, 1) := by decide +kernel
theorem dX1_readSum_4 : decode cX1_readSum 4 = .ok (.invokevirtual 92, 3) := by decide +kernel
theorem dX1_readSum_7 : decode cX1_readSum 7 = .ok (.iconst 0, 1) := by decide +kernel
theorem dX1_readSum_8 : decode cX1_readSum 8 = .ok (.istore_n 3, 1) := by decide +kernel
theorem dX1_readSum_9 : decode cX1_readSum 9 = .ok (.iload_n 3, 1) := by decide +kernel
theorem dX1_readSum_10 : decode cX1_readSum 10 = .ok (.sipush 200, 3) := by decide +kernel
theorem dX1_readSum_13 : decode cX1_readSum 13 = .ok (.if_icmp .ge 101, 3) := by decide +kernel
theorem dX1_readSum_16 : decode cX1_readSum 16 = .ok (.aload_n 0, 1) := by decide +kernel
theorem dX1_readSum_17 : decode cX1_readSum 17 = .ok (.invokevirtual 58, 3) := by decide +kernel
theorem dX1_readSum_20 : decode cX1_readSum 20 = .ok (.invokestatic 95, 3) := by decide +kernel
theorem dX1_readSum_23 : decode cX1_readSum 23 = .ok (.ifCond .eq 91, 3) := by decide +kernel
theorem dX1_readSum_26 : decode cX1_readSum 26 = .ok (.aload_n 0, 1) := by decide +kernel
theorem dX1_readSum_27 : decode cX1_readSum 27 = .ok (.invokevirtual 58, 3) := by decide +kernel
theorem dX1_readSum_30 : decode cX1_readSum 30 = .ok (.istore 4, 2) := by decide +kernel
theorem dX1_readSum_32 : decode cX1_readSum 32 = .ok (.aload_n 0, 1) := by decide +kernel
theorem dX1_readSum_33 : decode cX1_readSum 33 = .ok (.dup, 1) := by decide +kernel
theorem dX1_readSum_34 : decode cX1_readSum 34 = .ok (.getfield 42, 3) := by decide +kernel
theorem dX1_readSum_37 : decode cX1_readSum 37 = .ok (.iconst 1, 1) := by decide +kernel
theorem dX1_readSum_38 : decode cX1_readSum 38 = .ok (.iadd, 1) := by decide +kernel
theorem dX1_readSum_39 : decode cX1_readSum 39 = .ok (.putfield 42, 3) := by decide +kernel
theorem dX1_readSum_42 : decode cX1_readSum 42 = .ok (.iload 4, 2) := by decide +kernel
theorem dX1_readSum_44 : decode cX1_readSum 44 = .ok (.bipush 43, 2) := by decide +kernel
theorem dX1_readSum_46 : decode cX1_readSum 46 = .ok (.if_icmp .eq 10, 3) := by decide +kernel
theorem dX1_readSum_49 : decode cX1_readSum 49 = .ok (.iload 4, 2) := by decide +kernel
theorem dX1_readSum_51 : decode cX1_readSum 51 = .ok (.bipush 45, 2) := by decide +kernel
theorem dX1_readSum_53 : decode cX1_readSum 53 = .ok (.if_icmp .ne 7, 3) := by decide +kernel
theorem dX1_readSum_56 : decode cX1_readSum 56 = .ok (.iconst 1, 1) := by decide +kernel
theorem dX1_readSum_57 : decode cX1_readSum 57 = .ok (.goto 4, 3) := by decide +kernel
theorem dX1_readSum_60 : decode cX1_readSum 60 = .ok (.iconst 0, 1) := by decide +kernel
theorem dX1_readSum_61 : decode cX1_readSum 61 = .ok (.istore 5, 2) := by decide +kernel
theorem dX1_readSum_63 : decode cX1_readSum 63 = .ok (.iload 5, 2) := by decide +kernel
theorem dX1_readSum_65 : decode cX1_readSum 65 = .ok (.ifCond .eq 16, 3) := by decide +kernel
theorem dX1_readSum_68 : decode cX1_readSum 68 = .ok (.iload_n 2, 1) := by decide +kernel
theorem dX1_readSum_69 : decode cX1_readSum 69 = .ok (.iconst (-1), 1) := by decide +kernel
theorem dX1_readSum_70 : decode cX1_readSum 70 = .ok (.if_icmp .eq 11, 3) := by decide +kernel
theorem dX1_readSum_73 : decode cX1_readSum 73 = .ok (.aload_n 0, 1) := by decide +kernel
theorem dX1_readSum_74 : decode cX1_readSum 74 = .ok (.getfield 22, 3) := by decide +kernel
theorem dX1_readSum_77 : decode cX1_readSum 77 = .ok (.iload_n 2, 1) := by decide +kernel
theorem dX1_readSum_78 : decode cX1_readSum 78 = .ok (.invokevirtual 82, 3) := by decide +kernel
theorem dX1_readSum_81 : decode cX1_readSum 81 = .ok (.iload 5, 2) := by decide +kernel
theorem dX1_readSum_83 : decode cX1_readSum 83 = .ok (.ifCond .eq 6, 3) := by decide +kernel
theorem dX1_readSum_86 : decode cX1_readSum 86 = .ok (.iload 4, 2) := by decide +kernel
theorem dX1_readSum_88 : decode cX1_readSum 88 = .ok (.istore_n 2, 1) := by decide +kernel
theorem dX1_readSum_89 : decode cX1_readSum 89 = .ok (.aload_n 0, 1) := by decide +kernel
theorem dX1_readSum_90 : decode cX1_readSum 90 = .ok (.iload_n 1, 1) := by decide +kernel
theorem dX1_readSum_91 : decode cX1_readSum 91 = .ok (.invokevirtual 92, 3) := by decide +kernel
theorem dX1_readSum_94 : decode cX1_readSum 94 = .ok (.iload 5, 2) := by decide +kernel
theorem dX1_readSum_96 : decode cX1_readSum 96 = .ok (.ifCond .ne 12, 3) := by decide +kernel
theorem dX1_readSum_99 : decode cX1_readSum 99 = .ok (.aload_n 0, 1) := by decide +kernel
theorem dX1_readSum_100 : decode cX1_readSum 100 = .ok (.getfield 22, 3) := by decide +kernel
theorem dX1_readSum_103 : decode cX1_readSum 103 = .ok (.iload 4, 2) := by decide +kernel
theorem dX1_readSum_105 : decode cX1_readSum 105 = .ok (.invokevirtual 82, 3) := by decide +kernel
theorem dX1_readSum_108 : decode cX1_readSum 108 = .ok (.iinc 3 1, 3) := by decide +kernel
theorem dX1_readSum_111 : decode cX1_readSum 111 = .ok (.goto (-102), 3) := by decide +kernel
theorem dX1_readSum_114 : decode cX1_readSum 114 = .ok (.iload_n 2, 1) := by decide +kernel
theorem dX1_readSum_115 : decode cX1_readSum 115 = .ok (.iconst (-1), 1) := by decide +kernel
theorem dX1_readSum_116 : decode cX1_readSum 116 = .ok (.if_icmp .eq 11, 3) := by decide +kernel
theorem dX1_readSum_119 : decode cX1_readSum 119 = .ok (.aload_n 0, 1) := by decide +kernel
theorem dX1_readSum_120 : decode cX1_readSum 120 = .ok (.getfield 22, 3) := by decide +kernel
theorem dX1_readSum_123 : decode cX1_readSum 123 = .ok (.iload_n 2, 1) := by decide +kernel
theorem dX1_readSum_124 : decode cX1_readSum 124 = .ok (.invokevirtual 82, 3) := by decide +kernel
theorem dX1_readSum_127 : decode cX1_readSum 127 = .ok (.return_, 1) := by decide +kernel
theorem dX1_readFactor_0 : decode cX1_readFactor 0 = .ok (.aload_n 0, 1) := by decide +kernel
theorem dX1_readFactor_1 : decode cX1_readFactor 1 = .ok (.invokevirtual 58, 3) := by decide +kernel
theorem dX1_readFactor_4 : decode cX1_readFactor 4 = .ok (.istore_n 2, 1) := by decide +kernel
theorem dX1_readFactor_5 : decode cX1_readFactor 5 = .ok (.iload_n 2, 1) := by decide +kernel
theorem dX1_readFactor_6 : decode cX1_readFactor 6 = .ok (.bipush 91, 2) := by decide +kernel
theorem dX1_readFactor_8 : decode cX1_readFactor 8 = .ok (.if_icmp .ne 28, 3) := by decide +kernel
theorem dX1_readFactor_11 : decode cX1_readFactor 11 = .ok (.aload_n 0, 1) := by decide +kernel
theorem dX1_readFactor_12 : decode cX1_readFactor 12 = .ok (.iload_n 1, 1) := by decide +kernel
theorem dX1_readFactor_13 : decode cX1_readFactor 13 = .ok (.invokevirtual 88, 3) := by decide +kernel
theorem dX1_readFactor_16 : decode cX1_readFactor 16 = .ok (.ifCond .ne 4, 3) := by decide +kernel
theorem dX1_readFactor_19 : decode cX1_readFactor 19 = .ok (.return_, 1) := by decide +kernel
theorem dX1_readFactor_20 : decode cX1_readFactor 20 = .ok (.aload_n 0, 1) := by decide +kernel
theorem dX1_readFactor_21 : decode cX1_readFactor 21 = .ok (.iload_n 1, 1) := by decide +kernel
theorem dX1_readFactor_22 : decode cX1_readFactor 22 = .ok (.iconst 1, 1) := by decide +kernel
theorem dX1_readFactor_23 : decode cX1_readFactor 23 = .ok (.iadd, 1) := by decide +kernel
theorem dX1_readFactor_24 : decode cX1_readFactor 24 = .ok (.invokevirtual 67, 3) := by decide +kernel
theorem dX1_readFactor_27 : decode cX1_readFactor 27 = .ok (.aload_n 0, 1) := by decide +kernel
theorem dX1_readFactor_28 : decode cX1_readFactor 28 = .ok (.bipush 93, 2) := by decide +kernel
theorem dX1_readFactor_30 : decode cX1_readFactor 30 = .ok (.invokevirtual 54, 3) := by decide +kernel
theorem dX1_readFactor_33 : decode cX1_readFactor 33 = .ok (.goto 121, 3) := by decide +kernel
theorem dX1_readFactor_36 : decode cX1_readFactor 36 = .ok (.iload_n 2, 1) := by decide +kernel
theorem dX1_readFactor_37 : decode cX1_readFactor 37 = .ok (.invokestatic 98, 3) := by decide +kernel
theorem dX1_readFactor_40 : decode cX1_readFactor 40 = .ok (.ifCond .eq 81, 3) := by decide +kernel
theorem dX1_readFactor_43 : decode cX1_readFactor 43 = .ok (.iconst 0, 1) := by decide +kernel
theorem dX1_readFactor_44 : decode cX1_readFactor 44 = .ok (.istore_n 3, 1) := by decide +kernel
theorem dX1_readFactor_45 : decode cX1_readFactor 45 = .ok (.iconst 0, 1) := by decide +kernel
theorem dX1_readFactor_46 : decode cX1_readFactor 46 = .ok (.istore 4, 2) := by decide +kernel
theorem dX1_readFactor_48 : decode cX1_readFactor 48 = .ok (.iload 4, 2) := by decide +kernel
theorem dX1_readFactor_50 : decode cX1_readFactor 50 = .ok (.iconst 5, 1) := by decide +kernel
theorem dX1_readFactor_51 : decode cX1_readFactor 51 = .ok (.if_icmp .ge 42, 3) := by decide +kernel
theorem dX1_readFactor_54 : decode cX1_readFactor 54 = .ok (.aload_n 0, 1) := by decide +kernel
theorem dX1_readFactor_55 : decode cX1_readFactor 55 = .ok (.invokevirtual 58, 3) := by decide +kernel
theorem dX1_readFactor_58 : decode cX1_readFactor 58 = .ok (.invokestatic 98, 3) := by decide +kernel
theorem dX1_readFactor_61 : decode cX1_readFactor 61 = .ok (.ifCond .eq 32, 3) := by decide +kernel
theorem dX1_readFactor_64 : decode cX1_readFactor 64 = .ok (.iload_n 3, 1) := by decide +kernel
theorem dX1_readFactor_65 : decode cX1_readFactor 65 = .ok (.bipush 10, 2) := by decide +kernel
theorem dX1_readFactor_67 : decode cX1_readFactor 67 = .ok (.imul, 1) := by decide +kernel
theorem dX1_readFactor_68 : decode cX1_readFactor 68 = .ok (.aload_n 0, 1) := by decide +kernel
theorem dX1_readFactor_69 : decode cX1_readFactor 69 = .ok (.invokevirtual 58, 3) := by decide +kernel
theorem dX1_readFactor_72 : decode cX1_readFactor 72 = .ok (.iadd, 1) := by decide +kernel
theorem dX1_readFactor_73 : decode cX1_readFactor 73 = .ok (.bipush 48, 2) := by decide +kernel
theorem dX1_readFactor_75 : decode cX1_readFactor 75 = .ok (.isub, 1) := by decide +kernel
theorem dX1_readFactor_76 : decode cX1_readFactor 76 = .ok (.istore_n 3, 1) := by decide +kernel
theorem dX1_readFactor_77 : decode cX1_readFactor 77 = .ok (.aload_n 0, 1) := by decide +kernel
theorem dX1_readFactor_78 : decode cX1_readFactor 78 = .ok (.dup, 1) := by decide +kernel
theorem dX1_readFactor_79 : decode cX1_readFactor 79 = .ok (.getfield 42, 3) := by decide +kernel
theorem dX1_readFactor_82 : decode cX1_readFactor 82 = .ok (.iconst 1, 1) := by decide +kernel
theorem dX1_readFactor_83 : decode cX1_readFactor 83 = .ok (.iadd, 1) := by decide +kernel
theorem dX1_readFactor_84 : decode cX1_readFactor 84 = .ok (.putfield 42, 3) := by decide +kernel
theorem dX1_readFactor_87 : decode cX1_readFactor 87 = .ok (.iinc 4 1, 3) := by decide +kernel
theorem dX1_readFactor_90 : decode cX1_readFactor 90 = .ok (.goto (-42), 3) := by decide +kernel
theorem dX1_readFactor_93 : decode cX1_readFactor 93 = .ok (.aload_n 0, 1) := by decide +kernel
theorem dX1_readFactor_94 : decode cX1_readFactor 94 = .ok (.invokevirtual 58, 3) := by decide +kernel
theorem dX1_readFactor_97 : decode cX1_readFactor 97 = .ok (.invokestatic 98, 3) := by decide +kernel
theorem dX1_readFactor_100 : decode cX1_readFactor 100 = .ok (.ifCond .eq 8, 3) := by decide +kernel
theorem dX1_readFactor_103 : decode cX1_readFactor 103 = .ok (.aload_n 0, 1) := by decide +kernel
theorem dX1_readFactor_104 : decode cX1_readFactor 104 = .ok (.iconst 2, 1) := by decide +kernel
theorem dX1_readFactor_105 : decode cX1_readFactor 105 = .ok (.invokevirtual 61, 3) := by decide +kernel
theorem dX1_readFactor_108 : decode cX1_readFactor 108 = .ok (.aload_n 0, 1) := by decide +kernel
theorem dX1_readFactor_109 : decode cX1_readFactor 109 = .ok (.getfield 22, 3) := by decide +kernel
theorem dX1_readFactor_112 : decode cX1_readFactor 112 = .ok (.iconst (-1), 1) := by decide +kernel
theorem dX1_readFactor_113 : decode cX1_readFactor 113 = .ok (.iload_n 3, 1) := by decide +kernel
theorem dX1_readFactor_114 : decode cX1_readFactor 114 = .ok (.isub, 1) := by decide +kernel
theorem dX1_readFactor_115 : decode cX1_readFactor 115 = .ok (.invokevirtual 82, 3) := by decide +kernel
theorem dX1_readFactor_118 : decode cX1_readFactor 118 = .ok (.goto 36, 3) := by decide +kernel
theorem dX1_readFactor_121 : decode cX1_readFactor 121 = .ok (.iload_n 2, 1) := by decide +kernel
theorem dX1_readFactor_122 : decode cX1_readFactor 122 = .ok (.invokestatic 101, 3) := by decide +kernel
theorem dX1_readFactor_125 : decode cX1_readFactor 125 = .ok (.ifCond .eq 24, 3) := by decide +kernel
theorem dX1_readFactor_128 : decode cX1_readFactor 128 = .ok (.aload_n 0, 1) := by decide +kernel
theorem dX1_readFactor_129 : decode cX1_readFactor 129 = .ok (.dup, 1) := by decide +kernel
theorem dX1_readFactor_130 : decode cX1_readFactor 130 = .ok (.getfield 42, 3) := by decide +kernel
theorem dX1_readFactor_133 : decode cX1_readFactor 133 = .ok (.iconst 1, 1) := by decide +kernel
theorem dX1_readFactor_134 : decode cX1_readFactor 134 = .ok (.iadd, 1) := by decide +kernel
theorem dX1_readFactor_135 : decode cX1_readFactor 135 = .ok (.putfield 42, 3) := by decide +kernel
theorem dX1_readFactor_138 : decode cX1_readFactor 138 = .ok (.aload_n 0, 1) := by decide +kernel
theorem dX1_readFactor_139 : decode cX1_readFactor 139 = .ok (.getfield 22, 3) := by decide +kernel
theorem dX1_readFactor_142 : decode cX1_readFactor 142 = .ok (.iload_n 2, 1) := by decide +kernel
theorem dX1_readFactor_143 : decode cX1_readFactor 143 = .ok (.invokevirtual 82, 3) := by decide +kernel
theorem dX1_readFactor_146 : decode cX1_readFactor 146 = .ok (.goto 8, 3) := by decide +kernel
theorem dX1_readFactor_149 : decode cX1_readFactor 149 = .ok (.aload_n 0, 1) := by decide +kernel
theorem dX1_readFactor_150 : decode cX1_readFactor 150 = .ok (.iconst 1, 1) := by decide +kernel
theorem dX1_readFactor_151 : decode cX1_readFactor 151 = .ok (.invokevirtual 61, 3) := by decide +kernel
theorem dX1_readFactor_154 : decode cX1_readFactor 154 = .ok (.return_, 1) := by decide +kernel
theorem dX1_opens_0 : decode cX1_opens 0 = .ok (.iload_n 1, 1) := by decide +kernel
theorem dX1_opens_1 : decode cX1_opens 1 = .ok (.bipush 6, 2) := by decide +kernel
theorem dX1_opens_3 : decode cX1_opens 3 = .ok (.if_icmp .lt 10, 3) := by decide +kernel
theorem dX1_opens_6 : decode cX1_opens 6 = .ok (.aload_n 0, 1) := by decide +kernel
theorem dX1_opens_7 : decode cX1_opens 7 = .ok (.iconst 5, 1) := by decide +kernel
theorem dX1_opens_8 : decode cX1_opens 8 = .ok (.invokevirtual 61, 3) := by decide +kernel
theorem dX1_opens_11 : decode cX1_opens 11 = .ok (.iconst 0, 1) := by decide +kernel
theorem dX1_opens_12 : decode cX1_opens 12 = .ok (.ireturn, 1) := by decide +kernel
theorem dX1_opens_13 : decode cX1_opens 13 = .ok (.aload_n 0, 1) := by decide +kernel
theorem dX1_opens_14 : decode cX1_opens 14 = .ok (.dup, 1) := by decide +kernel
theorem dX1_opens_15 : decode cX1_opens 15 = .ok (.getfield 42, 3) := by decide +kernel
theorem dX1_opens_18 : decode cX1_opens 18 = .ok (.iconst 1, 1) := by decide +kernel
theorem dX1_opens_19 : decode cX1_opens 19 = .ok (.iadd, 1) := by decide +kernel
theorem dX1_opens_20 : decode cX1_opens 20 = .ok (.putfield 42, 3) := by decide +kernel
theorem dX1_opens_23 : decode cX1_opens 23 = .ok (.iconst 1, 1) := by decide +kernel
theorem dX1_opens_24 : decode cX1_opens 24 = .ok (.ireturn, 1) := by decide +kernel
theorem dX1_pass_0 : decode cX1_pass 0 = .ok (.aload_n 0, 1) := by decide +kernel
theorem dX1_pass_1 : decode cX1_pass 1 = .ok (.invokevirtual 58, 3) := by decide +kernel
theorem dX1_pass_4 : decode cX1_pass 4 = .ok (.iload_n 1, 1) := by decide +kernel
theorem dX1_pass_5 : decode cX1_pass 5 = .ok (.if_icmp .ne 16, 3) := by decide +kernel
theorem dX1_pass_8 : decode cX1_pass 8 = .ok (.aload_n 0, 1) := by decide +kernel
theorem dX1_pass_9 : decode cX1_pass 9 = .ok (.dup, 1) := by decide +kernel
theorem dX1_pass_10 : decode cX1_pass 10 = .ok (.getfield 42, 3) := by decide +kernel
theorem dX1_pass_13 : decode cX1_pass 13 = .ok (.iconst 1, 1) := by decide +kernel
theorem dX1_pass_14 : decode cX1_pass 14 = .ok (.iadd, 1) := by decide +kernel
theorem dX1_pass_15 : decode cX1_pass 15 = .ok (.putfield 42, 3) := by decide +kernel
theorem dX1_pass_18 : decode cX1_pass 18 = .ok (.goto 8, 3) := by decide +kernel
theorem dX1_pass_21 : decode cX1_pass 21 = .ok (.aload_n 0, 1) := by decide +kernel
theorem dX1_pass_22 : decode cX1_pass 22 = .ok (.iconst 1, 1) := by decide +kernel
theorem dX1_pass_23 : decode cX1_pass 23 = .ok (.invokevirtual 61, 3) := by decide +kernel
theorem dX1_pass_26 : decode cX1_pass 26 = .ok (.return_, 1) := by decide +kernel
theorem dX1_sign_0 : decode cX1_sign 0 = .ok (.aload_n 0, 1) := by decide +kernel
theorem dX1_sign_1 : decode cX1_sign 1 = .ok (.getfield 45, 3) := by decide +kernel
theorem dX1_sign_4 : decode cX1_sign 4 = .ok (.ifCond .ne 33, 3) := by decide +kernel
theorem dX1_sign_7 : decode cX1_sign 7 = .ok (.aload_n 0, 1) := by decide +kernel
theorem dX1_sign_8 : decode cX1_sign 8 = .ok (.getfield 42, 3) := by decide +kernel
theorem dX1_sign_11 : decode cX1_sign 11 = .ok (.ifCond .lt 26, 3) := by decide +kernel
theorem dX1_sign_14 : decode cX1_sign 14 = .ok (.aload_n 0, 1) := by decide +kernel
theorem dX1_sign_15 : decode cX1_sign 15 = .ok (.getfield 42, 3) := by decide +kernel
theorem dX1_sign_18 : decode cX1_sign 18 = .ok (.aload_n 0, 1) := by decide +kernel
theorem dX1_sign_19 : decode cX1_sign 19 = .ok (.getfield 33, 3) := by decide +kernel
theorem dX1_sign_22 : decode cX1_sign 22 = .ok (.if_icmp .ge 15, 3) := by decide +kernel
theorem dX1_sign_25 : decode cX1_sign 25 = .ok (.aload_n 0, 1) := by decide +kernel
theorem dX1_sign_26 : decode cX1_sign 26 = .ok (.getfield 42, 3) := by decide +kernel
theorem dX1_sign_29 : decode cX1_sign 29 = .ok (.aload_n 0, 1) := by decide +kernel
theorem dX1_sign_30 : decode cX1_sign 30 = .ok (.getfield 9, 3) := by decide +kernel
theorem dX1_sign_33 : decode cX1_sign 33 = .ok (.arraylength, 1) := by decide +kernel
theorem dX1_sign_34 : decode cX1_sign 34 = .ok (.if_icmp .lt 5, 3) := by decide +kernel
theorem dX1_sign_37 : decode cX1_sign 37 = .ok (.iconst (-1), 1) := by decide +kernel
theorem dX1_sign_38 : decode cX1_sign 38 = .ok (.ireturn, 1) := by decide +kernel
theorem dX1_sign_39 : decode cX1_sign 39 = .ok (.aload_n 0, 1) := by decide +kernel
theorem dX1_sign_40 : decode cX1_sign 40 = .ok (.getfield 9, 3) := by decide +kernel
theorem dX1_sign_43 : decode cX1_sign 43 = .ok (.aload_n 0, 1) := by decide +kernel
theorem dX1_sign_44 : decode cX1_sign 44 = .ok (.getfield 42, 3) := by decide +kernel
theorem dX1_sign_47 : decode cX1_sign 47 = .ok (.baload, 1) := by decide +kernel
theorem dX1_sign_48 : decode cX1_sign 48 = .ok (.sipush 255, 3) := by decide +kernel
theorem dX1_sign_51 : decode cX1_sign 51 = .ok (.iand, 1) := by decide +kernel
theorem dX1_sign_52 : decode cX1_sign 52 = .ok (.ireturn, 1) := by decide +kernel
theorem dX1_stop_0 : decode cX1_stop 0 = .ok (.aload_n 0, 1) := by decide +kernel
theorem dX1_stop_1 : decode cX1_stop 1 = .ok (.getfield 45, 3) := by decide +kernel
theorem dX1_stop_4 : decode cX1_stop 4 = .ok (.ifCond .ne 8, 3) := by decide +kernel
theorem dX1_stop_7 : decode cX1_stop 7 = .ok (.aload_n 0, 1) := by decide +kernel
theorem dX1_stop_8 : decode cX1_stop 8 = .ok (.iload_n 1, 1) := by decide +kernel
theorem dX1_stop_9 : decode cX1_stop 9 = .ok (.putfield 45, 3) := by decide +kernel
theorem dX1_stop_12 : decode cX1_stop 12 = .ok (.return_, 1) := by decide +kernel
theorem dX1_isOperator_0 : decode cX1_isOperator 0 = .ok (.iload_n 0, 1) := by decide +kernel
theorem dX1_isOperator_1 : decode cX1_isOperator 1 = .ok (.bipush 43, 2) := by decide +kernel
theorem dX1_isOperator_3 : decode cX1_isOperator 3 = .ok (.if_icmp .eq 27, 3) := by decide +kernel
theorem dX1_isOperator_6 : decode cX1_isOperator 6 = .ok (.iload_n 0, 1) := by decide +kernel
theorem dX1_isOperator_7 : decode cX1_isOperator 7 = .ok (.bipush 45, 2) := by decide +kernel
theorem dX1_isOperator_9 : decode cX1_isOperator 9 = .ok (.if_icmp .eq 21, 3) := by decide +kernel
theorem dX1_isOperator_12 : decode cX1_isOperator 12 = .ok (.iload_n 0, 1) := by decide +kernel
theorem dX1_isOperator_13 : decode cX1_isOperator 13 = .ok (.bipush 42, 2) := by decide +kernel
theorem dX1_isOperator_15 : decode cX1_isOperator 15 = .ok (.if_icmp .eq 15, 3) := by decide +kernel
theorem dX1_isOperator_18 : decode cX1_isOperator 18 = .ok (.iload_n 0, 1) := by decide +kernel
theorem dX1_isOperator_19 : decode cX1_isOperator 19 = .ok (.bipush 47, 2) := by decide +kernel
theorem dX1_isOperator_21 : decode cX1_isOperator 21 = .ok (.if_icmp .eq 9, 3) := by decide +kernel
theorem dX1_isOperator_24 : decode cX1_isOperator 24 = .ok (.iload_n 0, 1) := by decide +kernel
theorem dX1_isOperator_25 : decode cX1_isOperator 25 = .ok (.bipush 37, 2) := by decide +kernel
theorem dX1_isOperator_27 : decode cX1_isOperator 27 = .ok (.if_icmp .ne 7, 3) := by decide +kernel
theorem dX1_isOperator_30 : decode cX1_isOperator 30 = .ok (.iconst 1, 1) := by decide +kernel
theorem dX1_isOperator_31 : decode cX1_isOperator 31 = .ok (.goto 4, 3) := by decide +kernel
theorem dX1_isOperator_34 : decode cX1_isOperator 34 = .ok (.iconst 0, 1) := by decide +kernel
theorem dX1_isOperator_35 : decode cX1_isOperator 35 = .ok (.ireturn, 1) := by decide +kernel
theorem dX1_isDigit_0 : decode cX1_isDigit 0 = .ok (.iload_n 0, 1) := by decide +kernel
theorem dX1_isDigit_1 : decode cX1_isDigit 1 = .ok (.bipush 48, 2) := by decide +kernel
theorem dX1_isDigit_3 : decode cX1_isDigit 3 = .ok (.if_icmp .lt 13, 3) := by decide +kernel
theorem dX1_isDigit_6 : decode cX1_isDigit 6 = .ok (.iload_n 0, 1) := by decide +kernel
theorem dX1_isDigit_7 : decode cX1_isDigit 7 = .ok (.bipush 57, 2) := by decide +kernel
theorem dX1_isDigit_9 : decode cX1_isDigit 9 = .ok (.if_icmp .gt 7, 3) := by decide +kernel
theorem dX1_isDigit_12 : decode cX1_isDigit 12 = .ok (.iconst 1, 1) := by decide +kernel
theorem dX1_isDigit_13 : decode cX1_isDigit 13 = .ok (.goto 4, 3) := by decide +kernel
theorem dX1_isDigit_16 : decode cX1_isDigit 16 = .ok (.iconst 0, 1) := by decide +kernel
theorem dX1_isDigit_17 : decode cX1_isDigit 17 = .ok (.ireturn, 1) := by decide +kernel
theorem dX2_init_0 : decode cX2_init 0 = .ok (.aload_n 0, 1) := by decide +kernel
theorem dX2_init_1 : decode cX2_init 1 = .ok (.invokespecial 3, 3) := by decide +kernel
theorem dX2_init_4 : decode cX2_init 4 = .ok (.aload_n 0, 1) := by decide +kernel
theorem dX2_init_5 : decode cX2_init 5 = .ok (.bipush 8, 2) := by decide +kernel
theorem dX2_init_7 : decode cX2_init 7 = .ok (.newarray .int, 2) := by decide +kernel
theorem dX2_init_9 : decode cX2_init 9 = .ok (.putfield 9, 3) := by decide +kernel
theorem dX2_init_12 : decode cX2_init 12 = .ok (.aload_n 0, 1) := by decide +kernel
theorem dX2_init_13 : decode cX2_init 13 = .ok (.iload_n 1, 1) := by decide +kernel
theorem dX2_init_14 : decode cX2_init 14 = .ok (.putfield 15, 3) := by decide +kernel
theorem dX2_init_17 : decode cX2_init 17 = .ok (.aload_n 0, 1) := by decide +kernel
theorem dX2_init_18 : decode cX2_init 18 = .ok (.iload_n 2, 1) := by decide +kernel
theorem dX2_init_19 : decode cX2_init 19 = .ok (.putfield 19, 3) := by decide +kernel
theorem dX2_init_22 : decode cX2_init 22 = .ok (.aload_n 0, 1) := by decide +kernel
theorem dX2_init_23 : decode cX2_init 23 = .ok (.iload_n 3, 1) := by decide +kernel
theorem dX2_init_24 : decode cX2_init 24 = .ok (.putfield 22, 3) := by decide +kernel
theorem dX2_init_27 : decode cX2_init 27 = .ok (.aload_n 0, 1) := by decide +kernel
theorem dX2_init_28 : decode cX2_init 28 = .ok (.getfield 9, 3) := by decide +kernel
theorem dX2_init_31 : decode cX2_init 31 = .ok (.iconst (-1), 1) := by decide +kernel
theorem dX2_init_32 : decode cX2_init 32 = .ok (.invokestatic 25, 3) := by decide +kernel
theorem dX2_init_35 : decode cX2_init 35 = .ok (.return_, 1) := by decide +kernel
theorem dX2_includes_0 : decode cX2_includes 0 = .ok (.iload_n 1, 1) := by decide +kernel
theorem dX2_includes_1 : decode cX2_includes 1 = .ok (.ifCond .lt 25, 3) := by decide +kernel
theorem dX2_includes_4 : decode cX2_includes 4 = .ok (.iload_n 1, 1) := by decide +kernel
theorem dX2_includes_5 : decode cX2_includes 5 = .ok (.bipush 8, 2) := by decide +kernel
theorem dX2_includes_7 : decode cX2_includes 7 = .ok (.if_icmp .ge 19, 3) := by decide +kernel
theorem dX2_includes_10 : decode cX2_includes 10 = .ok (.aload_n 0, 1) := by decide +kernel
theorem dX2_includes_11 : decode cX2_includes 11 = .ok (.getfield 22, 3) := by decide +kernel
theorem dX2_includes_14 : decode cX2_includes 14 = .ok (.iload_n 1, 1) := by decide +kernel
theorem dX2_includes_15 : decode cX2_includes 15 = .ok (.ishr, 1) := by decide +kernel
theorem dX2_includes_16 : decode cX2_includes 16 = .ok (.iconst 1, 1) := by decide +kernel
theorem dX2_includes_17 : decode cX2_includes 17 = .ok (.iand, 1) := by decide +kernel
theorem dX2_includes_18 : decode cX2_includes 18 = .ok (.iconst 1, 1) := by decide +kernel
theorem dX2_includes_19 : decode cX2_includes 19 = .ok (.if_icmp .ne 7, 3) := by decide +kernel
theorem dX2_includes_22 : decode cX2_includes 22 = .ok (.iconst 1, 1) := by decide +kernel
theorem dX2_includes_23 : decode cX2_includes 23 = .ok (.goto 4, 3) := by decide +kernel
theorem dX2_includes_26 : decode cX2_includes 26 = .ok (.iconst 0, 1) := by decide +kernel
theorem dX2_includes_27 : decode cX2_includes 27 = .ok (.ireturn, 1) := by decide +kernel
theorem dX2_many_0 : decode cX2_many 0 = .ok (.aload_n 0, 1) := by decide +kernel
theorem dX2_many_1 : decode cX2_many 1 = .ok (.getfield 22, 3) := by decide +kernel
theorem dX2_many_4 : decode cX2_many 4 = .ok (.invokestatic 31, 3) := by decide +kernel
theorem dX2_many_7 : decode cX2_many 7 = .ok (.ireturn, 1) := by decide +kernel
theorem dX2_hour_0 : decode cX2_hour 0 = .ok (.aload_n 0, 1) := by decide +kernel
theorem dX2_hour_1 : decode cX2_hour 1 = .ok (.getfield 19, 3) := by decide +kernel
theorem dX2_hour_4 : decode cX2_hour 4 = .ok (.bipush 60, 2) := by decide +kernel
theorem dX2_hour_6 : decode cX2_hour 6 = .ok (.idiv, 1) := by decide +kernel
theorem dX2_hour_7 : decode cX2_hour 7 = .ok (.ireturn, 1) := by decide +kernel
theorem dX2_isSettled_0 : decode cX2_isSettled 0 = .ok (.aload_n 0, 1) := by decide +kernel
theorem dX2_isSettled_1 : decode cX2_isSettled 1 = .ok (.getfield 37, 3) := by decide +kernel
theorem dX2_isSettled_4 : decode cX2_isSettled 4 = .ok (.ireturn, 1) := by decide +kernel
theorem dX2_close_0 : decode cX2_close 0 = .ok (.aload_n 0, 1) := by decide +kernel
theorem dX2_close_1 : decode cX2_close 1 = .ok (.iconst 1, 1) := by decide +kernel
theorem dX2_close_2 : decode cX2_close 2 = .ok (.putfield 37, 3) := by decide +kernel
theorem dX2_close_5 : decode cX2_close 5 = .ok (.return_, 1) := by decide +kernel
theorem dX2_tell_0 : decode cX2_tell 0 = .ok (.iload_n 1, 1) := by decide +kernel
theorem dX2_tell_1 : decode cX2_tell 1 = .ok (.ifCond .lt 19, 3) := by decide +kernel
theorem dX2_tell_4 : decode cX2_tell 4 = .ok (.iload_n 1, 1) := by decide +kernel
theorem dX2_tell_5 : decode cX2_tell 5 = .ok (.aload_n 0, 1) := by decide +kernel
theorem dX2_tell_6 : decode cX2_tell 6 = .ok (.getfield 9, 3) := by decide +kernel
theorem dX2_tell_9 : decode cX2_tell 9 = .ok (.arraylength, 1) := by decide +kernel
theorem dX2_tell_10 : decode cX2_tell 10 = .ok (.if_icmp .ge 10, 3) := by decide +kernel
theorem dX2_tell_13 : decode cX2_tell 13 = .ok (.aload_n 0, 1) := by decide +kernel
theorem dX2_tell_14 : decode cX2_tell 14 = .ok (.getfield 9, 3) := by decide +kernel
theorem dX2_tell_17 : decode cX2_tell 17 = .ok (.iload_n 1, 1) := by decide +kernel
theorem dX2_tell_18 : decode cX2_tell 18 = .ok (.iload_n 2, 1) := by decide +kernel
theorem dX2_tell_19 : decode cX2_tell 19 = .ok (.iastore, 1) := by decide +kernel
theorem dX2_tell_20 : decode cX2_tell 20 = .ok (.return_, 1) := by decide +kernel
theorem dX2_comingOf_0 : decode cX2_comingOf 0 = .ok (.aload_n 0, 1) := by decide +kernel
theorem dX2_comingOf_1 : decode cX2_comingOf 1 = .ok (.iload_n 1, 1) := by decide +kernel
theorem dX2_comingOf_2 : decode cX2_comingOf 2 = .ok (.invokevirtual 41, 3) := by decide +kernel
theorem dX2_comingOf_5 : decode cX2_comingOf 5 = .ok (.ifCond .eq 21, 3) := by decide +kernel
theorem dX2_comingOf_8 : decode cX2_comingOf 8 = .ok (.iload_n 1, 1) := by decide +kernel
theorem dX2_comingOf_9 : decode cX2_comingOf 9 = .ok (.aload_n 0, 1) := by decide +kernel
theorem dX2_comingOf_10 : decode cX2_comingOf 10 = .ok (.getfield 9, 3) := by decide +kernel
theorem dX2_comingOf_13 : decode cX2_comingOf 13 = .ok (.arraylength, 1) := by decide +kernel
theorem dX2_comingOf_14 : decode cX2_comingOf 14 = .ok (.if_icmp .ge 12, 3) := by decide +kernel
theorem dX2_comingOf_17 : decode cX2_comingOf 17 = .ok (.aload_n 0, 1) := by decide +kernel
theorem dX2_comingOf_18 : decode cX2_comingOf 18 = .ok (.getfield 9, 3) := by decide +kernel
theorem dX2_comingOf_21 : decode cX2_comingOf 21 = .ok (.iload_n 1, 1) := by decide +kernel
theorem dX2_comingOf_22 : decode cX2_comingOf 22 = .ok (.iaload, 1) := by decide +kernel
theorem dX2_comingOf_23 : decode cX2_comingOf 23 = .ok (.goto 4, 3) := by decide +kernel
theorem dX2_comingOf_26 : decode cX2_comingOf 26 = .ok (.iconst (-1), 1) := by decide +kernel
theorem dX2_comingOf_27 : decode cX2_comingOf 27 = .ok (.ireturn, 1) := by decide +kernel
theorem dX2_start_0 : decode cX2_start 0 = .ok (.aload_n 0, 1) := by decide +kernel
theorem dX2_start_1 : decode cX2_start 1 = .ok (.getfield 19, 3) := by decide +kernel
theorem dX2_start_4 : decode cX2_start 4 = .ok (.istore_n 1, 1) := by decide +kernel
theorem dX2_start_5 : decode cX2_start 5 = .ok (.iconst 0, 1) := by decide +kernel
theorem dX2_start_6 : decode cX2_start 6 = .ok (.istore_n 2, 1) := by decide +kernel
theorem dX2_start_7 : decode cX2_start 7 = .ok (.iload_n 2, 1) := by decide +kernel
theorem dX2_start_8 : decode cX2_start 8 = .ok (.aload_n 0, 1) := by decide +kernel
theorem dX2_start_9 : decode cX2_start 9 = .ok (.getfield 9, 3) := by decide +kernel
theorem dX2_start_12 : decode cX2_start 12 = .ok (.arraylength, 1) := by decide +kernel
theorem dX2_start_13 : decode cX2_start 13 = .ok (.if_icmp .ge 43, 3) := by decide +kernel
theorem dX2_start_16 : decode cX2_start 16 = .ok (.aload_n 0, 1) := by decide +kernel
theorem dX2_start_17 : decode cX2_start 17 = .ok (.iload_n 2, 1) := by decide +kernel
theorem dX2_start_18 : decode cX2_start 18 = .ok (.invokevirtual 41, 3) := by decide +kernel
theorem dX2_start_21 : decode cX2_start 21 = .ok (.ifCond .ne 6, 3) := by decide +kernel
theorem dX2_start_24 : decode cX2_start 24 = .ok (.goto 26, 3) := by decide +kernel
theorem dX2_start_27 : decode cX2_start 27 = .ok (.aload_n 0, 1) := by decide +kernel
theorem dX2_start_28 : decode cX2_start 28 = .ok (.getfield 9, 3) := by decide +kernel
theorem dX2_start_31 : decode cX2_start 31 = .ok (.iload_n 2, 1) := by decide +kernel
theorem dX2_start_32 : decode cX2_start 32 = .ok (.iaload, 1) := by decide +kernel
theorem dX2_start_33 : decode cX2_start 33 = .ok (.iconst (-1), 1) := by decide +kernel
theorem dX2_start_34 : decode cX2_start 34 = .ok (.if_icmp .ne 5, 3) := by decide +kernel
theorem dX2_start_37 : decode cX2_start 37 = .ok (.iconst (-1), 1) := by decide +kernel
theorem dX2_start_38 : decode cX2_start 38 = .ok (.ireturn, 1) := by decide +kernel
theorem dX2_start_39 : decode cX2_start 39 = .ok (.iload_n 1, 1) := by decide +kernel
theorem dX2_start_40 : decode cX2_start 40 = .ok (.aload_n 0, 1) := by decide +kernel
theorem dX2_start_41 : decode cX2_start 41 = .ok (.getfield 9, 3) := by decide +kernel
theorem dX2_start_44 : decode cX2_start 44 = .ok (.iload_n 2, 1) := by decide +kernel
theorem dX2_start_45 : decode cX2_start 45 = .ok (.iaload, 1) := by decide +kernel
theorem dX2_start_46 : decode cX2_start 46 = .ok (.invokestatic 45, 3) := by decide +kernel
theorem dX2_start_49 : decode cX2_start 49 = .ok (.istore_n 1, 1) := by decide +kernel
theorem dX2_start_50 : decode cX2_start 50 = .ok (.iinc 2 1, 3) := by decide +kernel
theorem dX2_start_53 : decode cX2_start 53 = .ok (.goto (-46), 3) := by decide +kernel
theorem dX2_start_56 : decode cX2_start 56 = .ok (.iload_n 1, 1) := by decide +kernel
theorem dX2_start_57 : decode cX2_start 57 = .ok (.ireturn, 1) := by decide +kernel
theorem dX2_keeper_0 : decode cX2_keeper 0 = .ok (.iconst (-1), 1) := by decide +kernel
theorem dX2_keeper_1 : decode cX2_keeper 1 = .ok (.istore_n 1, 1) := by decide +kernel
theorem dX2_keeper_2 : decode cX2_keeper 2 = .ok (.iconst (-1), 1) := by decide +kernel
theorem dX2_keeper_3 : decode cX2_keeper 3 = .ok (.istore_n 2, 1) := by decide +kernel
theorem dX2_keeper_4 : decode cX2_keeper 4 = .ok (.iconst 0, 1) := by decide +kernel
theorem dX2_keeper_5 : decode cX2_keeper 5 = .ok (.istore_n 3, 1) := by decide +kernel
theorem dX2_keeper_6 : decode cX2_keeper 6 = .ok (.iload_n 3, 1) := by decide +kernel
theorem dX2_keeper_7 : decode cX2_keeper 7 = .ok (.aload_n 0, 1) := by decide +kernel
theorem dX2_keeper_8 : decode cX2_keeper 8 = .ok (.getfield 9, 3) := by decide +kernel
theorem dX2_keeper_11 : decode cX2_keeper 11 = .ok (.arraylength, 1) := by decide +kernel
theorem dX2_keeper_12 : decode cX2_keeper 12 = .ok (.if_icmp .ge 36, 3) := by decide +kernel
theorem dX2_keeper_15 : decode cX2_keeper 15 = .ok (.aload_n 0, 1) := by decide +kernel
theorem dX2_keeper_16 : decode cX2_keeper 16 = .ok (.iload_n 3, 1) := by decide +kernel
theorem dX2_keeper_17 : decode cX2_keeper 17 = .ok (.invokevirtual 41, 3) := by decide +kernel
theorem dX2_keeper_20 : decode cX2_keeper 20 = .ok (.ifCond .eq 22, 3) := by decide +kernel
theorem dX2_keeper_23 : decode cX2_keeper 23 = .ok (.aload_n 0, 1) := by decide +kernel
theorem dX2_keeper_24 : decode cX2_keeper 24 = .ok (.getfield 9, 3) := by decide +kernel
theorem dX2_keeper_27 : decode cX2_keeper 27 = .ok (.iload_n 3, 1) := by decide +kernel
theorem dX2_keeper_28 : decode cX2_keeper 28 = .ok (.iaload, 1) := by decide +kernel
theorem dX2_keeper_29 : decode cX2_keeper 29 = .ok (.iload_n 2, 1) := by decide +kernel
theorem dX2_keeper_30 : decode cX2_keeper 30 = .ok (.if_icmp .le 12, 3) := by decide +kernel
theorem dX2_keeper_33 : decode cX2_keeper 33 = .ok (.iload_n 3, 1) := by decide +kernel
theorem dX2_keeper_34 : decode cX2_keeper 34 = .ok (.istore_n 1, 1) := by decide +kernel
theorem dX2_keeper_35 : decode cX2_keeper 35 = .ok (.aload_n 0, 1) := by decide +kernel
theorem dX2_keeper_36 : decode cX2_keeper 36 = .ok (.getfield 9, 3) := by decide +kernel
theorem dX2_keeper_39 : decode cX2_keeper 39 = .ok (.iload_n 3, 1) := by decide +kernel
theorem dX2_keeper_40 : decode cX2_keeper 40 = .ok (.iaload, 1) := by decide +kernel
theorem dX2_keeper_41 : decode cX2_keeper 41 = .ok (.istore_n 2, 1) := by decide +kernel
theorem dX2_keeper_42 : decode cX2_keeper 42 = .ok (.iinc 3 1, 3) := by decide +kernel
theorem dX2_keeper_45 : decode cX2_keeper 45 = .ok (.goto (-39), 3) := by decide +kernel
theorem dX2_keeper_48 : decode cX2_keeper 48 = .ok (.iload_n 1, 1) := by decide +kernel
theorem dX2_keeper_49 : decode cX2_keeper 49 = .ok (.ireturn, 1) := by decide +kernel
theorem dX2_lateness_0 : decode cX2_lateness 0 = .ok (.iconst 0, 1) := by decide +kernel
theorem dX2_lateness_1 : decode cX2_lateness 1 = .ok (.aload_n 0, 1) := by decide +kernel
theorem dX2_lateness_2 : decode cX2_lateness 2 = .ok (.iload_n 1, 1) := by decide +kernel
theorem dX2_lateness_3 : decode cX2_lateness 3 = .ok (.invokevirtual 51, 3) := by decide +kernel
theorem dX2_lateness_6 : decode cX2_lateness 6 = .ok (.aload_n 0, 1) := by decide +kernel
theorem dX2_lateness_7 : decode cX2_lateness 7 = .ok (.getfield 19, 3) := by decide +kernel
theorem dX2_lateness_10 : decode cX2_lateness 10 = .ok (.isub, 1) := by decide +kernel
theorem dX2_lateness_11 : decode cX2_lateness 11 = .ok (.invokestatic 45, 3) := by decide +kernel
theorem dX2_lateness_14 : decode cX2_lateness 14 = .ok (.ireturn, 1) := by decide +kernel
theorem dX2_waitFor_0 : decode cX2_waitFor 0 = .ok (.iconst 0, 1) := by decide +kernel
theorem dX2_waitFor_1 : decode cX2_waitFor 1 = .ok (.aload_n 0, 1) := by decide +kernel
theorem dX2_waitFor_2 : decode cX2_waitFor 2 = .ok (.iload_n 1, 1) := by decide +kernel
theorem dX2_waitFor_3 : decode cX2_waitFor 3 = .ok (.invokevirtual 51, 3) := by decide +kernel
theorem dX2_waitFor_6 : decode cX2_waitFor 6 = .ok (.aload_n 0, 1) := by decide +kernel
theorem dX2_waitFor_7 : decode cX2_waitFor 7 = .ok (.iload_n 2, 1) := by decide +kernel
theorem dX2_waitFor_8 : decode cX2_waitFor 8 = .ok (.invokevirtual 51, 3) := by decide +kernel
theorem dX2_waitFor_11 : decode cX2_waitFor 11 = .ok (.aload_n 0, 1) := by decide +kernel
theorem dX2_waitFor_12 : decode cX2_waitFor 12 = .ok (.getfield 19, 3) := by decide +kernel
theorem dX2_waitFor_15 : decode cX2_waitFor 15 = .ok (.invokestatic 45, 3) := by decide +kernel
theorem dX2_waitFor_18 : decode cX2_waitFor 18 = .ok (.isub, 1) := by decide +kernel
theorem dX2_waitFor_19 : decode cX2_waitFor 19 = .ok (.invokestatic 45, 3) := by decide +kernel
theorem dX2_waitFor_22 : decode cX2_waitFor 22 = .ok (.ireturn, 1) := by decide +kernel
theorem dX2_laterThan_0 : decode cX2_laterThan 0 = .ok (.aload_n 0, 1) := by decide +kernel
theorem dX2_laterThan_1 : decode cX2_laterThan 1 = .ok (.iload_n 1, 1) := by decide +kernel
theorem dX2_laterThan_2 : decode cX2_laterThan 2 = .ok (.invokevirtual 51, 3) := by decide +kernel
theorem dX2_laterThan_5 : decode cX2_laterThan 5 = .ok (.istore_n 2, 1) := by decide +kernel
theorem dX2_laterThan_6 : decode cX2_laterThan 6 = .ok (.iconst 0, 1) := by decide +kernel
theorem dX2_laterThan_7 : decode cX2_laterThan 7 = .ok (.istore_n 3, 1) := by decide +kernel
theorem dX2_laterThan_8 : decode cX2_laterThan 8 = .ok (.iconst 0, 1) := by decide +kernel
theorem dX2_laterThan_9 : decode cX2_laterThan 9 = .ok (.istore 4, 2) := by decide +kernel
theorem dX2_laterThan_11 : decode cX2_laterThan 11 = .ok (.iload 4, 2) := by decide +kernel
theorem dX2_laterThan_13 : decode cX2_laterThan 13 = .ok (.aload_n 0, 1) := by decide +kernel
theorem dX2_laterThan_14 : decode cX2_laterThan 14 = .ok (.getfield 9, 3) := by decide +kernel
theorem dX2_laterThan_17 : decode cX2_laterThan 17 = .ok (.arraylength, 1) := by decide +kernel
theorem dX2_laterThan_18 : decode cX2_laterThan 18 = .ok (.if_icmp .ge 32, 3) := by decide +kernel
theorem dX2_laterThan_21 : decode cX2_laterThan 21 = .ok (.aload_n 0, 1) := by decide +kernel
theorem dX2_laterThan_22 : decode cX2_laterThan 22 = .ok (.iload 4, 2) := by decide +kernel
theorem dX2_laterThan_24 : decode cX2_laterThan 24 = .ok (.invokevirtual 41, 3) := by decide +kernel
theorem dX2_laterThan_27 : decode cX2_laterThan 27 = .ok (.ifCond .eq 17, 3) := by decide +kernel
theorem dX2_laterThan_30 : decode cX2_laterThan 30 = .ok (.aload_n 0, 1) := by decide +kernel
theorem dX2_laterThan_31 : decode cX2_laterThan 31 = .ok (.getfield 9, 3) := by decide +kernel
theorem dX2_laterThan_34 : decode cX2_laterThan 34 = .ok (.iload 4, 2) := by decide +kernel
theorem dX2_laterThan_36 : decode cX2_laterThan 36 = .ok (.iaload, 1) := by decide +kernel
theorem dX2_laterThan_37 : decode cX2_laterThan 37 = .ok (.iload_n 2, 1) := by decide +kernel
theorem dX2_laterThan_38 : decode cX2_laterThan 38 = .ok (.if_icmp .le 6, 3) := by decide +kernel
theorem dX2_laterThan_41 : decode cX2_laterThan 41 = .ok (.iinc 3 1, 3) := by decide +kernel
theorem dX2_laterThan_44 : decode cX2_laterThan 44 = .ok (.iinc 4 1, 3) := by decide +kernel
theorem dX2_laterThan_47 : decode cX2_laterThan 47 = .ok (.goto (-36), 3) := by decide +kernel
theorem dX2_laterThan_50 : decode cX2_laterThan 50 = .ok (.iload_n 3, 1) := by decide +kernel
theorem dX2_laterThan_51 : decode cX2_laterThan 51 = .ok (.ireturn, 1) := by decide +kernel
theorem dX2_waitedByAll_0 : decode cX2_waitedByAll 0 = .ok (.aload_n 0, 1) := by decide +kernel
theorem dX2_waitedByAll_1 : decode cX2_waitedByAll 1 = .ok (.invokevirtual 54, 3) := by decide +kernel
theorem dX2_waitedByAll_4 : decode cX2_waitedByAll 4 = .ok (.istore_n 1, 1) := by decide +kernel
theorem dX2_waitedByAll_5 : decode cX2_waitedByAll 5 = .ok (.iconst 0, 1) := by decide +kernel
theorem dX2_waitedByAll_6 : decode cX2_waitedByAll 6 = .ok (.istore_n 2, 1) := by decide +kernel
theorem dX2_waitedByAll_7 : decode cX2_waitedByAll 7 = .ok (.iconst 0, 1) := by decide +kernel
theorem dX2_waitedByAll_8 : decode cX2_waitedByAll 8 = .ok (.istore_n 3, 1) := by decide +kernel
theorem dX2_waitedByAll_9 : decode cX2_waitedByAll 9 = .ok (.iload_n 3, 1) := by decide +kernel
theorem dX2_waitedByAll_10 : decode cX2_waitedByAll 10 = .ok (.aload_n 0, 1) := by decide +kernel
theorem dX2_waitedByAll_11 : decode cX2_waitedByAll 11 = .ok (.getfield 9, 3) := by decide +kernel
theorem dX2_waitedByAll_14 : decode cX2_waitedByAll 14 = .ok (.arraylength, 1) := by decide +kernel
theorem dX2_waitedByAll_15 : decode cX2_waitedByAll 15 = .ok (.if_icmp .ge 35, 3) := by decide +kernel
theorem dX2_waitedByAll_18 : decode cX2_waitedByAll 18 = .ok (.aload_n 0, 1) := by decide +kernel
theorem dX2_waitedByAll_19 : decode cX2_waitedByAll 19 = .ok (.iload_n 3, 1) := by decide +kernel
theorem dX2_waitedByAll_20 : decode cX2_waitedByAll 20 = .ok (.invokevirtual 41, 3) := by decide +kernel
theorem dX2_waitedByAll_23 : decode cX2_waitedByAll 23 = .ok (.ifCond .eq 21, 3) := by decide +kernel
theorem dX2_waitedByAll_26 : decode cX2_waitedByAll 26 = .ok (.iload_n 2, 1) := by decide +kernel
theorem dX2_waitedByAll_27 : decode cX2_waitedByAll 27 = .ok (.iload_n 1, 1) := by decide +kernel
theorem dX2_waitedByAll_28 : decode cX2_waitedByAll 28 = .ok (.aload_n 0, 1) := by decide +kernel
theorem dX2_waitedByAll_29 : decode cX2_waitedByAll 29 = .ok (.getfield 19, 3) := by decide +kernel
theorem dX2_waitedByAll_32 : decode cX2_waitedByAll 32 = .ok (.aload_n 0, 1) := by decide +kernel
theorem dX2_waitedByAll_33 : decode cX2_waitedByAll 33 = .ok (.getfield 9, 3) := by decide +kernel
theorem dX2_waitedByAll_36 : decode cX2_waitedByAll 36 = .ok (.iload_n 3, 1) := by decide +kernel
theorem dX2_waitedByAll_37 : decode cX2_waitedByAll 37 = .ok (.iaload, 1) := by decide +kernel
theorem dX2_waitedByAll_38 : decode cX2_waitedByAll 38 = .ok (.invokestatic 45, 3) := by decide +kernel
theorem dX2_waitedByAll_41 : decode cX2_waitedByAll 41 = .ok (.isub, 1) := by decide +kernel
theorem dX2_waitedByAll_42 : decode cX2_waitedByAll 42 = .ok (.iadd, 1) := by decide +kernel
theorem dX2_waitedByAll_43 : decode cX2_waitedByAll 43 = .ok (.istore_n 2, 1) := by decide +kernel
theorem dX2_waitedByAll_44 : decode cX2_waitedByAll 44 = .ok (.iinc 3 1, 3) := by decide +kernel
theorem dX2_waitedByAll_47 : decode cX2_waitedByAll 47 = .ok (.goto (-38), 3) := by decide +kernel
theorem dX2_waitedByAll_50 : decode cX2_waitedByAll 50 = .ok (.iload_n 2, 1) := by decide +kernel
theorem dX2_waitedByAll_51 : decode cX2_waitedByAll 51 = .ok (.ireturn, 1) := by decide +kernel
theorem dX3_init_0 : decode cX3_init 0 = .ok (.aload_n 0, 1) := by decide +kernel
theorem dX3_init_1 : decode cX3_init 1 = .ok (.invokespecial 3, 3) := by decide +kernel
theorem dX3_init_4 : decode cX3_init 4 = .ok (.aload_n 0, 1) := by decide +kernel
theorem dX3_init_5 : decode cX3_init 5 = .ok (.bipush 24, 2) := by decide +kernel
theorem dX3_init_7 : decode cX3_init 7 = .ok (.anewarray 9, 3) := by decide +kernel
theorem dX3_init_10 : decode cX3_init 10 = .ok (.putfield 11, 3) := by decide +kernel
theorem dX3_init_13 : decode cX3_init 13 = .ok (.aload_n 0, 1) := by decide +kernel
theorem dX3_init_14 : decode cX3_init 14 = .ok (.bipush 26, 2) := by decide +kernel
theorem dX3_init_16 : decode cX3_init 16 = .ok (.newarray .int, 2) := by decide +kernel
theorem dX3_init_18 : decode cX3_init 18 = .ok (.putfield 17, 3) := by decide +kernel
theorem dX3_init_21 : decode cX3_init 21 = .ok (.aload_n 0, 1) := by decide +kernel
theorem dX3_init_22 : decode cX3_init 22 = .ok (.bipush 24, 2) := by decide +kernel
theorem dX3_init_24 : decode cX3_init 24 = .ok (.newarray .int, 2) := by decide +kernel
theorem dX3_init_26 : decode cX3_init 26 = .ok (.putfield 21, 3) := by decide +kernel
theorem dX3_init_29 : decode cX3_init 29 = .ok (.aload_n 0, 1) := by decide +kernel
theorem dX3_init_30 : decode cX3_init 30 = .ok (.bipush 24, 2) := by decide +kernel
theorem dX3_init_32 : decode cX3_init 32 = .ok (.newarray .int, 2) := by decide +kernel
theorem dX3_init_34 : decode cX3_init 34 = .ok (.putfield 24, 3) := by decide +kernel
theorem dX3_init_37 : decode cX3_init 37 = .ok (.aload_n 0, 1) := by decide +kernel
theorem dX3_init_38 : decode cX3_init 38 = .ok (.aload_n 1, 1) := by decide +kernel
theorem dX3_init_39 : decode cX3_init 39 = .ok (.putfield 27, 3) := by decide +kernel
theorem dX3_init_42 : decode cX3_init 42 = .ok (.return_, 1) := by decide +kernel
theorem dX3_length_0 : decode cX3_length 0 = .ok (.aload_n 0, 1) := by decide +kernel
theorem dX3_length_1 : decode cX3_length 1 = .ok (.getfield 31, 3) := by decide +kernel
theorem dX3_length_4 : decode cX3_length 4 = .ok (.ireturn, 1) := by decide +kernel
theorem dX3_find_0 : decode cX3_find 0 = .ok (.iload_n 1, 1) := by decide +kernel
theorem dX3_find_1 : decode cX3_find 1 = .ok (.ifCond .lt 29, 3) := by decide +kernel
theorem dX3_find_4 : decode cX3_find 4 = .ok (.iload_n 1, 1) := by decide +kernel
theorem dX3_find_5 : decode cX3_find 5 = .ok (.aload_n 0, 1) := by decide +kernel
theorem dX3_find_6 : decode cX3_find 6 = .ok (.getfield 31, 3) := by decide +kernel
theorem dX3_find_9 : decode cX3_find 9 = .ok (.if_icmp .ge 21, 3) := by decide +kernel
theorem dX3_find_12 : decode cX3_find 12 = .ok (.iload_n 1, 1) := by decide +kernel
theorem dX3_find_13 : decode cX3_find 13 = .ok (.aload_n 0, 1) := by decide +kernel
theorem dX3_find_14 : decode cX3_find 14 = .ok (.getfield 11, 3) := by decide +kernel
theorem dX3_find_17 : decode cX3_find 17 = .ok (.arraylength, 1) := by decide +kernel
theorem dX3_find_18 : decode cX3_find 18 = .ok (.if_icmp .ge 12, 3) := by decide +kernel
theorem dX3_find_21 : decode cX3_find 21 = .ok (.aload_n 0, 1) := by decide +kernel
theorem dX3_find_22 : decode cX3_find 22 = .ok (.getfield 11, 3) := by decide +kernel
theorem dX3_find_25 : decode cX3_find 25 = .ok (.iload_n 1, 1) := by decide +kernel
theorem dX3_find_26 : decode cX3_find 26 = .ok (.aaload, 1) := by decide +kernel
theorem dX3_find_27 : decode cX3_find 27 = .ok (.goto 4, 3) := by decide +kernel
theorem dX3_find_30 : decode cX3_find 30 = .ok (.aconst_null, 1) := by decide +kernel
theorem dX3_find_31 : decode cX3_find 31 = .ok (.areturn, 1) := by decide +kernel
theorem dX3_add_0 : decode cX3_add 0 = .ok (.aload_n 0, 1) := by decide +kernel
theorem dX3_add_1 : decode cX3_add 1 = .ok (.getfield 31, 3) := by decide +kernel
theorem dX3_add_4 : decode cX3_add 4 = .ok (.ifCond .lt 15, 3) := by decide +kernel
theorem dX3_add_7 : decode cX3_add 7 = .ok (.aload_n 0, 1) := by decide +kernel
theorem dX3_add_8 : decode cX3_add 8 = .ok (.getfield 31, 3) := by decide +kernel
theorem dX3_add_11 : decode cX3_add 11 = .ok (.aload_n 0, 1) := by decide +kernel
theorem dX3_add_12 : decode cX3_add 12 = .ok (.getfield 11, 3) := by decide +kernel
theorem dX3_add_15 : decode cX3_add 15 = .ok (.arraylength, 1) := by decide +kernel
theorem dX3_add_16 : decode cX3_add 16 = .ok (.if_icmp .lt 5, 3) := by decide +kernel
theorem dX3_add_19 : decode cX3_add 19 = .ok (.iconst (-1), 1) := by decide +kernel
theorem dX3_add_20 : decode cX3_add 20 = .ok (.ireturn, 1) := by decide +kernel
theorem dX3_add_21 : decode cX3_add 21 = .ok (.aload_n 0, 1) := by decide +kernel
theorem dX3_add_22 : decode cX3_add 22 = .ok (.getfield 11, 3) := by decide +kernel
theorem dX3_add_25 : decode cX3_add 25 = .ok (.aload_n 0, 1) := by decide +kernel
theorem dX3_add_26 : decode cX3_add 26 = .ok (.getfield 31, 3) := by decide +kernel
theorem dX3_add_29 : decode cX3_add 29 = .ok (.new 9, 3) := by decide +kernel
theorem dX3_add_32 : decode cX3_add 32 = .ok (.dup, 1) := by decide +kernel
theorem dX3_add_33 : decode cX3_add 33 = .ok (.iload_n 1, 1) := by decide +kernel
theorem dX3_add_34 : decode cX3_add 34 = .ok (.iload_n 2, 1) := by decide +kernel
theorem dX3_add_35 : decode cX3_add 35 = .ok (.iload_n 3, 1) := by decide +kernel
theorem dX3_add_36 : decode cX3_add 36 = .ok (.invokespecial 35, 3) := by decide +kernel
theorem dX3_add_39 : decode cX3_add 39 = .ok (.aastore, 1) := by decide +kernel
theorem dX3_add_40 : decode cX3_add 40 = .ok (.aload_n 0, 1) := by decide +kernel
theorem dX3_add_41 : decode cX3_add 41 = .ok (.dup, 1) := by decide +kernel
theorem dX3_add_42 : decode cX3_add 42 = .ok (.getfield 31, 3) := by decide +kernel
theorem dX3_add_45 : decode cX3_add 45 = .ok (.iconst 1, 1) := by decide +kernel
theorem dX3_add_46 : decode cX3_add 46 = .ok (.iadd, 1) := by decide +kernel
theorem dX3_add_47 : decode cX3_add 47 = .ok (.putfield 31, 3) := by decide +kernel
theorem dX3_add_50 : decode cX3_add 50 = .ok (.aload_n 0, 1) := by decide +kernel
theorem dX3_add_51 : decode cX3_add 51 = .ok (.getfield 31, 3) := by decide +kernel
theorem dX3_add_54 : decode cX3_add 54 = .ok (.iconst 1, 1) := by decide +kernel
theorem dX3_add_55 : decode cX3_add 55 = .ok (.isub, 1) := by decide +kernel
theorem dX3_add_56 : decode cX3_add 56 = .ok (.ireturn, 1) := by decide +kernel
theorem dX3_settledOnes_0 : decode cX3_settledOnes 0 = .ok (.iconst 0, 1) := by decide +kernel
theorem dX3_settledOnes_1 : decode cX3_settledOnes 1 = .ok (.istore_n 1, 1) := by decide +kernel
theorem dX3_settledOnes_2 : decode cX3_settledOnes 2 = .ok (.iconst 0, 1) := by decide +kernel
theorem dX3_settledOnes_3 : decode cX3_settledOnes 3 = .ok (.istore_n 2, 1) := by decide +kernel
theorem dX3_settledOnes_4 : decode cX3_settledOnes 4 = .ok (.iload_n 2, 1) := by decide +kernel
theorem dX3_settledOnes_5 : decode cX3_settledOnes 5 = .ok (.aload_n 0, 1) := by decide +kernel
theorem dX3_settledOnes_6 : decode cX3_settledOnes 6 = .ok (.getfield 11, 3) := by decide +kernel
theorem dX3_settledOnes_9 : decode cX3_settledOnes 9 = .ok (.arraylength, 1) := by decide +kernel
theorem dX3_settledOnes_10 : decode cX3_settledOnes 10 = .ok (.if_icmp .ge 29, 3) := by decide +kernel
theorem dX3_settledOnes_13 : decode cX3_settledOnes 13 = .ok (.aload_n 0, 1) := by decide +kernel
theorem dX3_settledOnes_14 : decode cX3_settledOnes 14 = .ok (.iload_n 2, 1) := by decide +kernel
theorem dX3_settledOnes_15 : decode cX3_settledOnes 15 = .ok (.invokevirtual 38, 3) := by decide +kernel
theorem dX3_settledOnes_18 : decode cX3_settledOnes 18 = .ok (.astore_n 3, 1) := by decide +kernel
theorem dX3_settledOnes_19 : decode cX3_settledOnes 19 = .ok (.aload_n 3, 1) := by decide +kernel
theorem dX3_settledOnes_20 : decode cX3_settledOnes 20 = .ok (.ifnull 13, 3) := by decide +kernel
theorem dX3_settledOnes_23 : decode cX3_settledOnes 23 = .ok (.aload_n 3, 1) := by decide +kernel
theorem dX3_settledOnes_24 : decode cX3_settledOnes 24 = .ok (.invokevirtual 42, 3) := by decide +kernel
theorem dX3_settledOnes_27 : decode cX3_settledOnes 27 = .ok (.ifCond .eq 6, 3) := by decide +kernel
theorem dX3_settledOnes_30 : decode cX3_settledOnes 30 = .ok (.iinc 1 1, 3) := by decide +kernel
theorem dX3_settledOnes_33 : decode cX3_settledOnes 33 = .ok (.iinc 2 1, 3) := by decide +kernel
theorem dX3_settledOnes_36 : decode cX3_settledOnes 36 = .ok (.goto (-32), 3) := by decide +kernel
theorem dX3_settledOnes_39 : decode cX3_settledOnes 39 = .ok (.iload_n 1, 1) := by decide +kernel
theorem dX3_settledOnes_40 : decode cX3_settledOnes 40 = .ok (.ireturn, 1) := by decide +kernel
theorem dX3_waitedAtSettled_0 : decode cX3_waitedAtSettled 0 = .ok (.iconst 0, 1) := by decide +kernel
theorem dX3_waitedAtSettled_1 : decode cX3_waitedAtSettled 1 = .ok (.istore_n 1, 1) := by decide +kernel
theorem dX3_waitedAtSettled_2 : decode cX3_waitedAtSettled 2 = .ok (.iconst 0, 1) := by decide +kernel
theorem dX3_waitedAtSettled_3 : decode cX3_waitedAtSettled 3 = .ok (.istore_n 2, 1) := by decide +kernel
theorem dX3_waitedAtSettled_4 : decode cX3_waitedAtSettled 4 = .ok (.iload_n 2, 1) := by decide +kernel
theorem dX3_waitedAtSettled_5 : decode cX3_waitedAtSettled 5 = .ok (.aload_n 0, 1) := by decide +kernel
theorem dX3_waitedAtSettled_6 : decode cX3_waitedAtSettled 6 = .ok (.getfield 11, 3) := by decide +kernel
theorem dX3_waitedAtSettled_9 : decode cX3_waitedAtSettled 9 = .ok (.arraylength, 1) := by decide +kernel
theorem dX3_waitedAtSettled_10 : decode cX3_waitedAtSettled 10 = .ok (.if_icmp .ge 33, 3) := by decide +kernel
theorem dX3_waitedAtSettled_13 : decode cX3_waitedAtSettled 13 = .ok (.aload_n 0, 1) := by decide +kernel
theorem dX3_waitedAtSettled_14 : decode cX3_waitedAtSettled 14 = .ok (.iload_n 2, 1) := by decide +kernel
theorem dX3_waitedAtSettled_15 : decode cX3_waitedAtSettled 15 = .ok (.invokevirtual 38, 3) := by decide +kernel
theorem dX3_waitedAtSettled_18 : decode cX3_waitedAtSettled 18 = .ok (.astore_n 3, 1) := by decide +kernel
theorem dX3_waitedAtSettled_19 : decode cX3_waitedAtSettled 19 = .ok (.aload_n 3, 1) := by decide +kernel
theorem dX3_waitedAtSettled_20 : decode cX3_waitedAtSettled 20 = .ok (.ifnull 17, 3) := by decide +kernel
theorem dX3_waitedAtSettled_23 : decode cX3_waitedAtSettled 23 = .ok (.aload_n 3, 1) := by decide +kernel
theorem dX3_waitedAtSettled_24 : decode cX3_waitedAtSettled 24 = .ok (.invokevirtual 42, 3) := by decide +kernel
theorem dX3_waitedAtSettled_27 : decode cX3_waitedAtSettled 27 = .ok (.ifCond .eq 10, 3) := by decide +kernel
theorem dX3_waitedAtSettled_30 : decode cX3_waitedAtSettled 30 = .ok (.iload_n 1, 1) := by decide +kernel
theorem dX3_waitedAtSettled_31 : decode cX3_waitedAtSettled 31 = .ok (.aload_n 3, 1) := by decide +kernel
theorem dX3_waitedAtSettled_32 : decode cX3_waitedAtSettled 32 = .ok (.invokevirtual 46, 3) := by decide +kernel
theorem dX3_waitedAtSettled_35 : decode cX3_waitedAtSettled 35 = .ok (.iadd, 1) := by decide +kernel
theorem dX3_waitedAtSettled_36 : decode cX3_waitedAtSettled 36 = .ok (.istore_n 1, 1) := by decide +kernel
theorem dX3_waitedAtSettled_37 : decode cX3_waitedAtSettled 37 = .ok (.iinc 2 1, 3) := by decide +kernel
theorem dX3_waitedAtSettled_40 : decode cX3_waitedAtSettled 40 = .ok (.goto (-36), 3) := by decide +kernel
theorem dX3_waitedAtSettled_43 : decode cX3_waitedAtSettled 43 = .ok (.iload_n 1, 1) := by decide +kernel
theorem dX3_waitedAtSettled_44 : decode cX3_waitedAtSettled 44 = .ok (.ireturn, 1) := by decide +kernel
theorem dX3_keeperAt_0 : decode cX3_keeperAt 0 = .ok (.aload_n 0, 1) := by decide +kernel
theorem dX3_keeperAt_1 : decode cX3_keeperAt 1 = .ok (.iload_n 1, 1) := by decide +kernel
theorem dX3_keeperAt_2 : decode cX3_keeperAt 2 = .ok (.invokevirtual 38, 3) := by decide +kernel
theorem dX3_keeperAt_5 : decode cX3_keeperAt 5 = .ok (.astore_n 2, 1) := by decide +kernel
theorem dX3_keeperAt_6 : decode cX3_keeperAt 6 = .ok (.aload_n 2, 1) := by decide +kernel
theorem dX3_keeperAt_7 : decode cX3_keeperAt 7 = .ok (.ifnonnull 7, 3) := by decide +kernel
theorem dX3_keeperAt_10 : decode cX3_keeperAt 10 = .ok (.iconst (-1), 1) := by decide +kernel
theorem dX3_keeperAt_11 : decode cX3_keeperAt 11 = .ok (.goto 7, 3) := by decide +kernel
theorem dX3_keeperAt_14 : decode cX3_keeperAt 14 = .ok (.aload_n 2, 1) := by decide +kernel
theorem dX3_keeperAt_15 : decode cX3_keeperAt 15 = .ok (.invokevirtual 50, 3) := by decide +kernel
theorem dX3_keeperAt_18 : decode cX3_keeperAt 18 = .ok (.ireturn, 1) := by decide +kernel
theorem dX3_keptBy_0 : decode cX3_keptBy 0 = .ok (.aload_n 0, 1) := by decide +kernel
theorem dX3_keptBy_1 : decode cX3_keptBy 1 = .ok (.iload_n 1, 1) := by decide +kernel
theorem dX3_keptBy_2 : decode cX3_keptBy 2 = .ok (.invokevirtual 38, 3) := by decide +kernel
theorem dX3_keptBy_5 : decode cX3_keptBy 5 = .ok (.astore_n 3, 1) := by decide +kernel
theorem dX3_keptBy_6 : decode cX3_keptBy 6 = .ok (.aload_n 3, 1) := by decide +kernel
theorem dX3_keptBy_7 : decode cX3_keptBy 7 = .ok (.ifnull 11, 3) := by decide +kernel
theorem dX3_keptBy_10 : decode cX3_keptBy 10 = .ok (.aload_n 3, 1) := by decide +kernel
theorem dX3_keptBy_11 : decode cX3_keptBy 11 = .ok (.iload_n 2, 1) := by decide +kernel
theorem dX3_keptBy_12 : decode cX3_keptBy 12 = .ok (.invokevirtual 53, 3) := by decide +kernel
theorem dX3_keptBy_15 : decode cX3_keptBy 15 = .ok (.ifCond .ne 5, 3) := by decide +kernel
theorem dX3_keptBy_18 : decode cX3_keptBy 18 = .ok (.iconst (-1), 1) := by decide +kernel
theorem dX3_keptBy_19 : decode cX3_keptBy 19 = .ok (.ireturn, 1) := by decide +kernel
theorem dX3_keptBy_20 : decode cX3_keptBy 20 = .ok (.iconst (-1), 1) := by decide +kernel
theorem dX3_keptBy_21 : decode cX3_keptBy 21 = .ok (.istore 4, 2) := by decide +kernel
theorem dX3_keptBy_23 : decode cX3_keptBy 23 = .ok (.iconst (-1), 1) := by decide +kernel
theorem dX3_keptBy_24 : decode cX3_keptBy 24 = .ok (.istore 5, 2) := by decide +kernel
theorem dX3_keptBy_26 : decode cX3_keptBy 26 = .ok (.iconst 0, 1) := by decide +kernel
theorem dX3_keptBy_27 : decode cX3_keptBy 27 = .ok (.istore 6, 2) := by decide +kernel
theorem dX3_keptBy_29 : decode cX3_keptBy 29 = .ok (.iload 6, 2) := by decide +kernel
theorem dX3_keptBy_31 : decode cX3_keptBy 31 = .ok (.aload_n 0, 1) := by decide +kernel
theorem dX3_keptBy_32 : decode cX3_keptBy 32 = .ok (.getfield 11, 3) := by decide +kernel
theorem dX3_keptBy_35 : decode cX3_keptBy 35 = .ok (.arraylength, 1) := by decide +kernel
theorem dX3_keptBy_36 : decode cX3_keptBy 36 = .ok (.if_icmp .ge 53, 3) := by decide +kernel
theorem dX3_keptBy_39 : decode cX3_keptBy 39 = .ok (.aload_n 0, 1) := by decide +kernel
theorem dX3_keptBy_40 : decode cX3_keptBy 40 = .ok (.iload 6, 2) := by decide +kernel
theorem dX3_keptBy_42 : decode cX3_keptBy 42 = .ok (.invokevirtual 38, 3) := by decide +kernel
theorem dX3_keptBy_45 : decode cX3_keptBy 45 = .ok (.astore 7, 2) := by decide +kernel
theorem dX3_keptBy_47 : decode cX3_keptBy 47 = .ok (.aload 7, 2) := by decide +kernel
theorem dX3_keptBy_49 : decode cX3_keptBy 49 = .ok (.ifnull 34, 3) := by decide +kernel
theorem dX3_keptBy_52 : decode cX3_keptBy 52 = .ok (.aload 7, 2) := by decide +kernel
theorem dX3_keptBy_54 : decode cX3_keptBy 54 = .ok (.getfield 57, 3) := by decide +kernel
theorem dX3_keptBy_57 : decode cX3_keptBy 57 = .ok (.iload 5, 2) := by decide +kernel
theorem dX3_keptBy_59 : decode cX3_keptBy 59 = .ok (.if_icmp .lt 24, 3) := by decide +kernel
theorem dX3_keptBy_62 : decode cX3_keptBy 62 = .ok (.aload 7, 2) := by decide +kernel
theorem dX3_keptBy_64 : decode cX3_keptBy 64 = .ok (.aload_n 3, 1) := by decide +kernel
theorem dX3_keptBy_65 : decode cX3_keptBy 65 = .ok (.iload_n 2, 1) := by decide +kernel
theorem dX3_keptBy_66 : decode cX3_keptBy 66 = .ok (.invokestatic 60, 3) := by decide +kernel
theorem dX3_keptBy_69 : decode cX3_keptBy 69 = .ok (.ifCond .eq 14, 3) := by decide +kernel
theorem dX3_keptBy_72 : decode cX3_keptBy 72 = .ok (.iload 6, 2) := by decide +kernel
theorem dX3_keptBy_74 : decode cX3_keptBy 74 = .ok (.istore 4, 2) := by decide +kernel
theorem dX3_keptBy_76 : decode cX3_keptBy 76 = .ok (.aload 7, 2) := by decide +kernel
theorem dX3_keptBy_78 : decode cX3_keptBy 78 = .ok (.getfield 57, 3) := by decide +kernel
theorem dX3_keptBy_81 : decode cX3_keptBy 81 = .ok (.istore 5, 2) := by decide +kernel
theorem dX3_keptBy_83 : decode cX3_keptBy 83 = .ok (.iinc 6 1, 3) := by decide +kernel
theorem dX3_keptBy_86 : decode cX3_keptBy 86 = .ok (.goto (-57), 3) := by decide +kernel
theorem dX3_keptBy_89 : decode cX3_keptBy 89 = .ok (.iload 4, 2) := by decide +kernel
theorem dX3_keptBy_91 : decode cX3_keptBy 91 = .ok (.ireturn, 1) := by decide +kernel
theorem dX3_didKeep_0 : decode cX3_didKeep 0 = .ok (.aload_n 0, 1) := by decide +kernel
theorem dX3_didKeep_1 : decode cX3_didKeep 1 = .ok (.getfield 64, 3) := by decide +kernel
theorem dX3_didKeep_4 : decode cX3_didKeep 4 = .ok (.aload_n 1, 1) := by decide +kernel
theorem dX3_didKeep_5 : decode cX3_didKeep 5 = .ok (.getfield 64, 3) := by decide +kernel
theorem dX3_didKeep_8 : decode cX3_didKeep 8 = .ok (.if_icmp .ne 22, 3) := by decide +kernel
theorem dX3_didKeep_11 : decode cX3_didKeep 11 = .ok (.aload_n 0, 1) := by decide +kernel
theorem dX3_didKeep_12 : decode cX3_didKeep 12 = .ok (.getfield 57, 3) := by decide +kernel
theorem dX3_didKeep_15 : decode cX3_didKeep 15 = .ok (.aload_n 1, 1) := by decide +kernel
theorem dX3_didKeep_16 : decode cX3_didKeep 16 = .ok (.getfield 57, 3) := by decide +kernel
theorem dX3_didKeep_19 : decode cX3_didKeep 19 = .ok (.if_icmp .ge 11, 3) := by decide +kernel
theorem dX3_didKeep_22 : decode cX3_didKeep 22 = .ok (.aload_n 0, 1) := by decide +kernel
theorem dX3_didKeep_23 : decode cX3_didKeep 23 = .ok (.iload_n 2, 1) := by decide +kernel
theorem dX3_didKeep_24 : decode cX3_didKeep 24 = .ok (.invokevirtual 67, 3) := by decide +kernel
theorem dX3_didKeep_27 : decode cX3_didKeep 27 = .ok (.ifCond .ne 5, 3) := by decide +kernel
theorem dX3_didKeep_30 : decode cX3_didKeep 30 = .ok (.iconst 0, 1) := by decide +kernel
theorem dX3_didKeep_31 : decode cX3_didKeep 31 = .ok (.ireturn, 1) := by decide +kernel
theorem dX3_didKeep_32 : decode cX3_didKeep 32 = .ok (.aload_n 0, 1) := by decide +kernel
theorem dX3_didKeep_33 : decode cX3_didKeep 33 = .ok (.invokevirtual 71, 3) := by decide +kernel
theorem dX3_didKeep_36 : decode cX3_didKeep 36 = .ok (.istore_n 3, 1) := by decide +kernel
theorem dX3_didKeep_37 : decode cX3_didKeep 37 = .ok (.iload_n 3, 1) := by decide +kernel
theorem dX3_didKeep_38 : decode cX3_didKeep 38 = .ok (.aload_n 0, 1) := by decide +kernel
theorem dX3_didKeep_39 : decode cX3_didKeep 39 = .ok (.getfield 57, 3) := by decide +kernel
theorem dX3_didKeep_42 : decode cX3_didKeep 42 = .ok (.isub, 1) := by decide +kernel
theorem dX3_didKeep_43 : decode cX3_didKeep 43 = .ok (.istore 4, 2) := by decide +kernel
theorem dX3_didKeep_45 : decode cX3_didKeep 45 = .ok (.iload_n 3, 1) := by decide +kernel
theorem dX3_didKeep_46 : decode cX3_didKeep 46 = .ok (.iconst (-1), 1) := by decide +kernel
theorem dX3_didKeep_47 : decode cX3_didKeep 47 = .ok (.if_icmp .eq 16, 3) := by decide +kernel
theorem dX3_didKeep_50 : decode cX3_didKeep 50 = .ok (.iload 4, 2) := by decide +kernel
theorem dX3_didKeep_52 : decode cX3_didKeep 52 = .ok (.ifCond .le 11, 3) := by decide +kernel
theorem dX3_didKeep_55 : decode cX3_didKeep 55 = .ok (.aload_n 0, 1) := by decide +kernel
theorem dX3_didKeep_56 : decode cX3_didKeep 56 = .ok (.invokevirtual 50, 3) := by decide +kernel
theorem dX3_didKeep_59 : decode cX3_didKeep 59 = .ok (.iload_n 2, 1) := by decide +kernel
theorem dX3_didKeep_60 : decode cX3_didKeep 60 = .ok (.if_icmp .ne 5, 3) := by decide +kernel
theorem dX3_didKeep_63 : decode cX3_didKeep 63 = .ok (.iconst 0, 1) := by decide +kernel
theorem dX3_didKeep_64 : decode cX3_didKeep 64 = .ok (.ireturn, 1) := by decide +kernel
theorem dX3_didKeep_65 : decode cX3_didKeep 65 = .ok (.aload_n 1, 1) := by decide +kernel
theorem dX3_didKeep_66 : decode cX3_didKeep 66 = .ok (.iload_n 2, 1) := by decide +kernel
theorem dX3_didKeep_67 : decode cX3_didKeep 67 = .ok (.invokevirtual 74, 3) := by decide +kernel
theorem dX3_didKeep_70 : decode cX3_didKeep 70 = .ok (.iload 4, 2) := by decide +kernel
theorem dX3_didKeep_72 : decode cX3_didKeep 72 = .ok (.isub, 1) := by decide +kernel
theorem dX3_didKeep_73 : decode cX3_didKeep 73 = .ok (.aload_n 1, 1) := by decide +kernel
theorem dX3_didKeep_74 : decode cX3_didKeep 74 = .ok (.getfield 57, 3) := by decide +kernel
theorem dX3_didKeep_77 : decode cX3_didKeep 77 = .ok (.if_icmp .gt 7, 3) := by decide +kernel
theorem dX3_didKeep_80 : decode cX3_didKeep 80 = .ok (.iconst 1, 1) := by decide +kernel
theorem dX3_didKeep_81 : decode cX3_didKeep 81 = .ok (.goto 4, 3) := by decide +kernel
theorem dX3_didKeep_84 : decode cX3_didKeep 84 = .ok (.iconst 0, 1) := by decide +kernel
theorem dX3_didKeep_85 : decode cX3_didKeep 85 = .ok (.ireturn, 1) := by decide +kernel
theorem dX3_gather_0 : decode cX3_gather 0 = .ok (.aload_n 0, 1) := by decide +kernel
theorem dX3_gather_1 : decode cX3_gather 1 = .ok (.iload_n 1, 1) := by decide +kernel
theorem dX3_gather_2 : decode cX3_gather 2 = .ok (.invokevirtual 38, 3) := by decide +kernel
theorem dX3_gather_5 : decode cX3_gather 5 = .ok (.astore 4, 2) := by decide +kernel
theorem dX3_gather_7 : decode cX3_gather 7 = .ok (.aload 4, 2) := by decide +kernel
theorem dX3_gather_9 : decode cX3_gather 9 = .ok (.ifnonnull 8, 3) := by decide +kernel
theorem dX3_gather_12 : decode cX3_gather 12 = .ok (.aload_n 0, 1) := by decide +kernel
theorem dX3_gather_13 : decode cX3_gather 13 = .ok (.getfield 17, 3) := by decide +kernel
theorem dX3_gather_16 : decode cX3_gather 16 = .ok (.areturn, 1) := by decide +kernel
theorem dX3_gather_17 : decode cX3_gather 17 = .ok (.aload_n 0, 1) := by decide +kernel
theorem dX3_gather_18 : decode cX3_gather 18 = .ok (.bipush 119, 2) := by decide +kernel
theorem dX3_gather_20 : decode cX3_gather 20 = .ok (.aload 4, 2) := by decide +kernel
theorem dX3_gather_22 : decode cX3_gather 22 = .ok (.iload_n 2, 1) := by decide +kernel
theorem dX3_gather_23 : decode cX3_gather 23 = .ok (.iload_n 3, 1) := by decide +kernel
theorem dX3_gather_24 : decode cX3_gather 24 = .ok (.invokevirtual 77, 3) := by decide +kernel
theorem dX3_gather_27 : decode cX3_gather 27 = .ok (.invokevirtual 81, 3) := by decide +kernel
theorem dX3_gather_30 : decode cX3_gather 30 = .ok (.aload_n 0, 1) := by decide +kernel
theorem dX3_gather_31 : decode cX3_gather 31 = .ok (.bipush 97, 2) := by decide +kernel
theorem dX3_gather_33 : decode cX3_gather 33 = .ok (.aload 4, 2) := by decide +kernel
theorem dX3_gather_35 : decode cX3_gather 35 = .ok (.iload_n 2, 1) := by decide +kernel
theorem dX3_gather_36 : decode cX3_gather 36 = .ok (.invokevirtual 53, 3) := by decide +kernel
theorem dX3_gather_39 : decode cX3_gather 39 = .ok (.invokevirtual 81, 3) := by decide +kernel
theorem dX3_gather_42 : decode cX3_gather 42 = .ok (.aload_n 0, 1) := by decide +kernel
theorem dX3_gather_43 : decode cX3_gather 43 = .ok (.bipush 98, 2) := by decide +kernel
theorem dX3_gather_45 : decode cX3_gather 45 = .ok (.aload 4, 2) := by decide +kernel
theorem dX3_gather_47 : decode cX3_gather 47 = .ok (.iload_n 3, 1) := by decide +kernel
theorem dX3_gather_48 : decode cX3_gather 48 = .ok (.invokevirtual 53, 3) := by decide +kernel
theorem dX3_gather_51 : decode cX3_gather 51 = .ok (.invokevirtual 81, 3) := by decide +kernel
theorem dX3_gather_54 : decode cX3_gather 54 = .ok (.aload_n 0, 1) := by decide +kernel
theorem dX3_gather_55 : decode cX3_gather 55 = .ok (.bipush 110, 2) := by decide +kernel
theorem dX3_gather_57 : decode cX3_gather 57 = .ok (.aload 4, 2) := by decide +kernel
theorem dX3_gather_59 : decode cX3_gather 59 = .ok (.invokevirtual 85, 3) := by decide +kernel
theorem dX3_gather_62 : decode cX3_gather 62 = .ok (.invokevirtual 81, 3) := by decide +kernel
theorem dX3_gather_65 : decode cX3_gather 65 = .ok (.aload_n 0, 1) := by decide +kernel
theorem dX3_gather_66 : decode cX3_gather 66 = .ok (.bipush 103, 2) := by decide +kernel
theorem dX3_gather_68 : decode cX3_gather 68 = .ok (.aload 4, 2) := by decide +kernel
theorem dX3_gather_70 : decode cX3_gather 70 = .ok (.invokevirtual 71, 3) := by decide +kernel
theorem dX3_gather_73 : decode cX3_gather 73 = .ok (.aload 4, 2) := by decide +kernel
theorem dX3_gather_75 : decode cX3_gather 75 = .ok (.getfield 57, 3) := by decide +kernel
theorem dX3_gather_78 : decode cX3_gather 78 = .ok (.isub, 1) := by decide +kernel
theorem dX3_gather_79 : decode cX3_gather 79 = .ok (.invokevirtual 81, 3) := by decide +kernel
theorem dX3_gather_82 : decode cX3_gather 82 = .ok (.aload_n 0, 1) := by decide +kernel
theorem dX3_gather_83 : decode cX3_gather 83 = .ok (.bipush 107, 2) := by decide +kernel
theorem dX3_gather_85 : decode cX3_gather 85 = .ok (.aload_n 0, 1) := by decide +kernel
theorem dX3_gather_86 : decode cX3_gather 86 = .ok (.iload_n 1, 1) := by decide +kernel
theorem dX3_gather_87 : decode cX3_gather 87 = .ok (.iload_n 2, 1) := by decide +kernel
theorem dX3_gather_88 : decode cX3_gather 88 = .ok (.invokevirtual 88, 3) := by decide +kernel
theorem dX3_gather_91 : decode cX3_gather 91 = .ok (.iconst (-1), 1) := by decide +kernel
theorem dX3_gather_92 : decode cX3_gather 92 = .ok (.if_icmp .ne 7, 3) := by decide +kernel
theorem dX3_gather_95 : decode cX3_gather 95 = .ok (.iconst 0, 1) := by decide +kernel
theorem dX3_gather_96 : decode cX3_gather 96 = .ok (.goto 4, 3) := by decide +kernel
theorem dX3_gather_99 : decode cX3_gather 99 = .ok (.iconst 1, 1) := by decide +kernel
theorem dX3_gather_100 : decode cX3_gather 100 = .ok (.invokevirtual 81, 3) := by decide +kernel
theorem dX3_gather_103 : decode cX3_gather 103 = .ok (.aload_n 0, 1) := by decide +kernel
theorem dX3_gather_104 : decode cX3_gather 104 = .ok (.bipush 114, 2) := by decide +kernel
theorem dX3_gather_106 : decode cX3_gather 106 = .ok (.aload 4, 2) := by decide +kernel
theorem dX3_gather_108 : decode cX3_gather 108 = .ok (.iload_n 2, 1) := by decide +kernel
theorem dX3_gather_109 : decode cX3_gather 109 = .ok (.invokevirtual 91, 3) := by decide +kernel
theorem dX3_gather_112 : decode cX3_gather 112 = .ok (.invokevirtual 81, 3) := by decide +kernel
theorem dX3_gather_115 : decode cX3_gather 115 = .ok (.aload_n 0, 1) := by decide +kernel
theorem dX3_gather_116 : decode cX3_gather 116 = .ok (.bipush 104, 2) := by decide +kernel
theorem dX3_gather_118 : decode cX3_gather 118 = .ok (.aload 4, 2) := by decide +kernel
theorem dX3_gather_120 : decode cX3_gather 120 = .ok (.invokevirtual 94, 3) := by decide +kernel
theorem dX3_gather_123 : decode cX3_gather 123 = .ok (.invokevirtual 81, 3) := by decide +kernel
theorem dX3_gather_126 : decode cX3_gather 126 = .ok (.aload_n 0, 1) := by decide +kernel
theorem dX3_gather_127 : decode cX3_gather 127 = .ok (.bipush 100, 2) := by decide +kernel
theorem dX3_gather_129 : decode cX3_gather 129 = .ok (.aload 4, 2) := by decide +kernel
theorem dX3_gather_131 : decode cX3_gather 131 = .ok (.getfield 64, 3) := by decide +kernel
theorem dX3_gather_134 : decode cX3_gather 134 = .ok (.invokevirtual 81, 3) := by decide +kernel
theorem dX3_gather_137 : decode cX3_gather 137 = .ok (.aload_n 0, 1) := by decide +kernel
theorem dX3_gather_138 : decode cX3_gather 138 = .ok (.bipush 120, 2) := by decide +kernel
theorem dX3_gather_140 : decode cX3_gather 140 = .ok (.iload_n 2, 1) := by decide +kernel
theorem dX3_gather_141 : decode cX3_gather 141 = .ok (.invokevirtual 81, 3) := by decide +kernel
theorem dX3_gather_144 : decode cX3_gather 144 = .ok (.aload_n 0, 1) := by decide +kernel
theorem dX3_gather_145 : decode cX3_gather 145 = .ok (.bipush 121, 2) := by decide +kernel
theorem dX3_gather_147 : decode cX3_gather 147 = .ok (.iload_n 3, 1) := by decide +kernel
theorem dX3_gather_148 : decode cX3_gather 148 = .ok (.invokevirtual 81, 3) := by decide +kernel
theorem dX3_gather_151 : decode cX3_gather 151 = .ok (.aload_n 0, 1) := by decide +kernel
theorem dX3_gather_152 : decode cX3_gather 152 = .ok (.bipush 118, 2) := by decide +kernel
theorem dX3_gather_154 : decode cX3_gather 154 = .ok (.aload_n 0, 1) := by decide +kernel
theorem dX3_gather_155 : decode cX3_gather 155 = .ok (.getfield 27, 3) := by decide +kernel
theorem dX3_gather_158 : decode cX3_gather 158 = .ok (.iload_n 3, 1) := by decide +kernel
theorem dX3_gather_159 : decode cX3_gather 159 = .ok (.aload 4, 2) := by decide +kernel
theorem dX3_gather_161 : decode cX3_gather 161 = .ok (.invokevirtual 94, 3) := by decide +kernel
theorem dX3_gather_164 : decode cX3_gather 164 = .ok (.invokevirtual 97, 3) := by decide +kernel
theorem dX3_gather_167 : decode cX3_gather 167 = .ok (.invokevirtual 81, 3) := by decide +kernel
theorem dX3_gather_170 : decode cX3_gather 170 = .ok (.aload_n 0, 1) := by decide +kernel
theorem dX3_gather_171 : decode cX3_gather 171 = .ok (.getfield 17, 3) := by decide +kernel
theorem dX3_gather_174 : decode cX3_gather 174 = .ok (.areturn, 1) := by decide +kernel
theorem dX3_putFact_0 : decode cX3_putFact 0 = .ok (.iload_n 1, 1) := by decide +kernel
theorem dX3_putFact_1 : decode cX3_putFact 1 = .ok (.bipush 97, 2) := by decide +kernel
theorem dX3_putFact_3 : decode cX3_putFact 3 = .ok (.isub, 1) := by decide +kernel
theorem dX3_putFact_4 : decode cX3_putFact 4 = .ok (.istore_n 3, 1) := by decide +kernel
theorem dX3_putFact_5 : decode cX3_putFact 5 = .ok (.iload_n 3, 1) := by decide +kernel
theorem dX3_putFact_6 : decode cX3_putFact 6 = .ok (.ifCond .lt 19, 3) := by decide +kernel
theorem dX3_putFact_9 : decode cX3_putFact 9 = .ok (.iload_n 3, 1) := by decide +kernel
theorem dX3_putFact_10 : decode cX3_putFact 10 = .ok (.aload_n 0, 1) := by decide +kernel
theorem dX3_putFact_11 : decode cX3_putFact 11 = .ok (.getfield 17, 3) := by decide +kernel
theorem dX3_putFact_14 : decode cX3_putFact 14 = .ok (.arraylength, 1) := by decide +kernel
theorem dX3_putFact_15 : decode cX3_putFact 15 = .ok (.if_icmp .ge 10, 3) := by decide +kernel
theorem dX3_putFact_18 : decode cX3_putFact 18 = .ok (.aload_n 0, 1) := by decide +kernel
theorem dX3_putFact_19 : decode cX3_putFact 19 = .ok (.getfield 17, 3) := by decide +kernel
theorem dX3_putFact_22 : decode cX3_putFact 22 = .ok (.iload_n 3, 1) := by decide +kernel
theorem dX3_putFact_23 : decode cX3_putFact 23 = .ok (.iload_n 2, 1) := by decide +kernel
theorem dX3_putFact_24 : decode cX3_putFact 24 = .ok (.iastore, 1) := by decide +kernel
theorem dX3_putFact_25 : decode cX3_putFact 25 = .ok (.return_, 1) := by decide +kernel
theorem dX3_follow_0 : decode cX3_follow 0 = .ok (.iload_n 1, 1) := by decide +kernel
theorem dX3_follow_1 : decode cX3_follow 1 = .ok (.istore 5, 2) := by decide +kernel
theorem dX3_follow_3 : decode cX3_follow 3 = .ok (.iload_n 2, 1) := by decide +kernel
theorem dX3_follow_4 : decode cX3_follow 4 = .ok (.istore 6, 2) := by decide +kernel
theorem dX3_follow_6 : decode cX3_follow 6 = .ok (.iload_n 3, 1) := by decide +kernel
theorem dX3_follow_7 : decode cX3_follow 7 = .ok (.istore 7, 2) := by decide +kernel
theorem dX3_follow_9 : decode cX3_follow 9 = .ok (.aload_n 0, 1) := by decide +kernel
theorem dX3_follow_10 : decode cX3_follow 10 = .ok (.iconst 0, 1) := by decide +kernel
theorem dX3_follow_11 : decode cX3_follow 11 = .ok (.putfield 102, 3) := by decide +kernel
theorem dX3_follow_14 : decode cX3_follow 14 = .ok (.iconst 0, 1) := by decide +kernel
theorem dX3_follow_15 : decode cX3_follow 15 = .ok (.istore 8, 2) := by decide +kernel
theorem dX3_follow_17 : decode cX3_follow 17 = .ok (.iload 8, 2) := by decide +kernel
theorem dX3_follow_19 : decode cX3_follow 19 = .ok (.aload_n 0, 1) := by decide +kernel
theorem dX3_follow_20 : decode cX3_follow 20 = .ok (.getfield 21, 3) := by decide +kernel
theorem dX3_follow_23 : decode cX3_follow 23 = .ok (.arraylength, 1) := by decide +kernel
theorem dX3_follow_24 : decode cX3_follow 24 = .ok (.if_icmp .ge 100, 3) := by decide +kernel
theorem dX3_follow_27 : decode cX3_follow 27 = .ok (.iload 8, 2) := by decide +kernel
theorem dX3_follow_29 : decode cX3_follow 29 = .ok (.aload_n 0, 1) := by decide +kernel
theorem dX3_follow_30 : decode cX3_follow 30 = .ok (.getfield 24, 3) := by decide +kernel
theorem dX3_follow_33 : decode cX3_follow 33 = .ok (.arraylength, 1) := by decide +kernel
theorem dX3_follow_34 : decode cX3_follow 34 = .ok (.if_icmp .ge 90, 3) := by decide +kernel
theorem dX3_follow_37 : decode cX3_follow 37 = .ok (.aload_n 0, 1) := by decide +kernel
theorem dX3_follow_38 : decode cX3_follow 38 = .ok (.iload 5, 2) := by decide +kernel
theorem dX3_follow_40 : decode cX3_follow 40 = .ok (.iload 6, 2) := by decide +kernel
theorem dX3_follow_42 : decode cX3_follow 42 = .ok (.invokevirtual 88, 3) := by decide +kernel
theorem dX3_follow_45 : decode cX3_follow 45 = .ok (.istore 9, 2) := by decide +kernel
theorem dX3_follow_47 : decode cX3_follow 47 = .ok (.iload 9, 2) := by decide +kernel
theorem dX3_follow_49 : decode cX3_follow 49 = .ok (.iconst (-1), 1) := by decide +kernel
theorem dX3_follow_50 : decode cX3_follow 50 = .ok (.if_icmp .ne 7, 3) := by decide +kernel
theorem dX3_follow_53 : decode cX3_follow 53 = .ok (.iconst 0, 1) := by decide +kernel
theorem dX3_follow_54 : decode cX3_follow 54 = .ok (.goto 11, 3) := by decide +kernel
theorem dX3_follow_57 : decode cX3_follow 57 = .ok (.iload 7, 2) := by decide +kernel
theorem dX3_follow_59 : decode cX3_follow 59 = .ok (.iload 4, 2) := by decide +kernel
theorem dX3_follow_61 : decode cX3_follow 61 = .ok (.imul, 1) := by decide +kernel
theorem dX3_follow_62 : decode cX3_follow 62 = .ok (.bipush 100, 2) := by decide +kernel
theorem dX3_follow_64 : decode cX3_follow 64 = .ok (.idiv, 1) := by decide +kernel
theorem dX3_follow_65 : decode cX3_follow 65 = .ok (.istore 10, 2) := by decide +kernel
theorem dX3_follow_67 : decode cX3_follow 67 = .ok (.aload_n 0, 1) := by decide +kernel
theorem dX3_follow_68 : decode cX3_follow 68 = .ok (.getfield 21, 3) := by decide +kernel
theorem dX3_follow_71 : decode cX3_follow 71 = .ok (.iload 8, 2) := by decide +kernel
theorem dX3_follow_73 : decode cX3_follow 73 = .ok (.iload 6, 2) := by decide +kernel
theorem dX3_follow_75 : decode cX3_follow 75 = .ok (.iastore, 1) := by decide +kernel
theorem dX3_follow_76 : decode cX3_follow 76 = .ok (.aload_n 0, 1) := by decide +kernel
theorem dX3_follow_77 : decode cX3_follow 77 = .ok (.getfield 24, 3) := by decide +kernel
theorem dX3_follow_80 : decode cX3_follow 80 = .ok (.iload 8, 2) := by decide +kernel
theorem dX3_follow_82 : decode cX3_follow 82 = .ok (.iload 7, 2) := by decide +kernel
theorem dX3_follow_84 : decode cX3_follow 84 = .ok (.iload 10, 2) := by decide +kernel
theorem dX3_follow_86 : decode cX3_follow 86 = .ok (.isub, 1) := by decide +kernel
theorem dX3_follow_87 : decode cX3_follow 87 = .ok (.iastore, 1) := by decide +kernel
theorem dX3_follow_88 : decode cX3_follow 88 = .ok (.aload_n 0, 1) := by decide +kernel
theorem dX3_follow_89 : decode cX3_follow 89 = .ok (.iload 8, 2) := by decide +kernel
theorem dX3_follow_91 : decode cX3_follow 91 = .ok (.iconst 1, 1) := by decide +kernel
theorem dX3_follow_92 : decode cX3_follow 92 = .ok (.iadd, 1) := by decide +kernel
theorem dX3_follow_93 : decode cX3_follow 93 = .ok (.putfield 102, 3) := by decide +kernel
theorem dX3_follow_96 : decode cX3_follow 96 = .ok (.iload 10, 2) := by decide +kernel
theorem dX3_follow_98 : decode cX3_follow 98 = .ok (.ifCond .ne 4, 3) := by decide +kernel
theorem dX3_follow_101 : decode cX3_follow 101 = .ok (.return_, 1) := by decide +kernel
theorem dX3_follow_102 : decode cX3_follow 102 = .ok (.aload_n 0, 1) := by decide +kernel
theorem dX3_follow_103 : decode cX3_follow 103 = .ok (.iload 9, 2) := by decide +kernel
theorem dX3_follow_105 : decode cX3_follow 105 = .ok (.invokevirtual 105, 3) := by decide +kernel
theorem dX3_follow_108 : decode cX3_follow 108 = .ok (.istore 6, 2) := by decide +kernel
theorem dX3_follow_110 : decode cX3_follow 110 = .ok (.iload 9, 2) := by decide +kernel
theorem dX3_follow_112 : decode cX3_follow 112 = .ok (.istore 5, 2) := by decide +kernel
theorem dX3_follow_114 : decode cX3_follow 114 = .ok (.iload 10, 2) := by decide +kernel
theorem dX3_follow_116 : decode cX3_follow 116 = .ok (.istore 7, 2) := by decide +kernel
theorem dX3_follow_118 : decode cX3_follow 118 = .ok (.iinc 8 1, 3) := by decide +kernel
theorem dX3_follow_121 : decode cX3_follow 121 = .ok (.goto (-104), 3) := by decide +kernel
theorem dX3_follow_124 : decode cX3_follow 124 = .ok (.return_, 1) := by decide +kernel
theorem dX3_payers_0 : decode cX3_payers 0 = .ok (.aload_n 0, 1) := by decide +kernel
theorem dX3_payers_1 : decode cX3_payers 1 = .ok (.getfield 102, 3) := by decide +kernel
theorem dX3_payers_4 : decode cX3_payers 4 = .ok (.ireturn, 1) := by decide +kernel
theorem dX3_payerAt_0 : decode cX3_payerAt 0 = .ok (.iload_n 1, 1) := by decide +kernel
theorem dX3_payerAt_1 : decode cX3_payerAt 1 = .ok (.ifCond .lt 29, 3) := by decide +kernel
theorem dX3_payerAt_4 : decode cX3_payerAt 4 = .ok (.iload_n 1, 1) := by decide +kernel
theorem dX3_payerAt_5 : decode cX3_payerAt 5 = .ok (.aload_n 0, 1) := by decide +kernel
theorem dX3_payerAt_6 : decode cX3_payerAt 6 = .ok (.getfield 102, 3) := by decide +kernel
theorem dX3_payerAt_9 : decode cX3_payerAt 9 = .ok (.if_icmp .ge 21, 3) := by decide +kernel
theorem dX3_payerAt_12 : decode cX3_payerAt 12 = .ok (.iload_n 1, 1) := by decide +kernel
theorem dX3_payerAt_13 : decode cX3_payerAt 13 = .ok (.aload_n 0, 1) := by decide +kernel
theorem dX3_payerAt_14 : decode cX3_payerAt 14 = .ok (.getfield 21, 3) := by decide +kernel
theorem dX3_payerAt_17 : decode cX3_payerAt 17 = .ok (.arraylength, 1) := by decide +kernel
theorem dX3_payerAt_18 : decode cX3_payerAt 18 = .ok (.if_icmp .ge 12, 3) := by decide +kernel
theorem dX3_payerAt_21 : decode cX3_payerAt 21 = .ok (.aload_n 0, 1) := by decide +kernel
theorem dX3_payerAt_22 : decode cX3_payerAt 22 = .ok (.getfield 21, 3) := by decide +kernel
theorem dX3_payerAt_25 : decode cX3_payerAt 25 = .ok (.iload_n 1, 1) := by decide +kernel
theorem dX3_payerAt_26 : decode cX3_payerAt 26 = .ok (.iaload, 1) := by decide +kernel
theorem dX3_payerAt_27 : decode cX3_payerAt 27 = .ok (.goto 4, 3) := by decide +kernel
theorem dX3_payerAt_30 : decode cX3_payerAt 30 = .ok (.iconst (-1), 1) := by decide +kernel
theorem dX3_payerAt_31 : decode cX3_payerAt 31 = .ok (.ireturn, 1) := by decide +kernel
theorem dX3_paidAt_0 : decode cX3_paidAt 0 = .ok (.iload_n 1, 1) := by decide +kernel
theorem dX3_paidAt_1 : decode cX3_paidAt 1 = .ok (.ifCond .lt 29, 3) := by decide +kernel
theorem dX3_paidAt_4 : decode cX3_paidAt 4 = .ok (.iload_n 1, 1) := by decide +kernel
theorem dX3_paidAt_5 : decode cX3_paidAt 5 = .ok (.aload_n 0, 1) := by decide +kernel
theorem dX3_paidAt_6 : decode cX3_paidAt 6 = .ok (.getfield 102, 3) := by decide +kernel
theorem dX3_paidAt_9 : decode cX3_paidAt 9 = .ok (.if_icmp .ge 21, 3) := by decide +kernel
theorem dX3_paidAt_12 : decode cX3_paidAt 12 = .ok (.iload_n 1, 1) := by decide +kernel
theorem dX3_paidAt_13 : decode cX3_paidAt 13 = .ok (.aload_n 0, 1) := by decide +kernel
theorem dX3_paidAt_14 : decode cX3_paidAt 14 = .ok (.getfield 24, 3) := by decide +kernel
theorem dX3_paidAt_17 : decode cX3_paidAt 17 = .ok (.arraylength, 1) := by decide +kernel
theorem dX3_paidAt_18 : decode cX3_paidAt 18 = .ok (.if_icmp .ge 12, 3) := by decide +kernel
theorem dX3_paidAt_21 : decode cX3_paidAt 21 = .ok (.aload_n 0, 1) := by decide +kernel
theorem dX3_paidAt_22 : decode cX3_paidAt 22 = .ok (.getfield 24, 3) := by decide +kernel
theorem dX3_paidAt_25 : decode cX3_paidAt 25 = .ok (.iload_n 1, 1) := by decide +kernel
theorem dX3_paidAt_26 : decode cX3_paidAt 26 = .ok (.iaload, 1) := by decide +kernel
theorem dX3_paidAt_27 : decode cX3_paidAt 27 = .ok (.goto 4, 3) := by decide +kernel
theorem dX3_paidAt_30 : decode cX3_paidAt 30 = .ok (.iconst (-1), 1) := by decide +kernel
theorem dX3_paidAt_31 : decode cX3_paidAt 31 = .ok (.ireturn, 1) := by decide +kernel
theorem dX4_init_0 : decode cX4_init 0 = .ok (.aload_n 0, 1) := by decide +kernel
theorem dX4_init_1 : decode cX4_init 1 = .ok (.invokespecial 3, 3) := by decide +kernel
theorem dX4_init_4 : decode cX4_init 4 = .ok (.aload_n 0, 1) := by decide +kernel
theorem dX4_init_5 : decode cX4_init 5 = .ok (.bipush 60, 2) := by decide +kernel
theorem dX4_init_7 : decode cX4_init 7 = .ok (.newarray .int, 2) := by decide +kernel
theorem dX4_init_9 : decode cX4_init 9 = .ok (.putfield 9, 3) := by decide +kernel
theorem dX4_init_12 : decode cX4_init 12 = .ok (.aload_n 0, 1) := by decide +kernel
theorem dX4_init_13 : decode cX4_init 13 = .ok (.bipush 60, 2) := by decide +kernel
theorem dX4_init_15 : decode cX4_init 15 = .ok (.newarray .int, 2) := by decide +kernel
theorem dX4_init_17 : decode cX4_init 17 = .ok (.putfield 15, 3) := by decide +kernel
theorem dX4_init_20 : decode cX4_init 20 = .ok (.aload_n 0, 1) := by decide +kernel
theorem dX4_init_21 : decode cX4_init 21 = .ok (.bipush 60, 2) := by decide +kernel
theorem dX4_init_23 : decode cX4_init 23 = .ok (.newarray .int, 2) := by decide +kernel
theorem dX4_init_25 : decode cX4_init 25 = .ok (.putfield 18, 3) := by decide +kernel
theorem dX4_init_28 : decode cX4_init 28 = .ok (.aload_n 0, 1) := by decide +kernel
theorem dX4_init_29 : decode cX4_init 29 = .ok (.bipush 60, 2) := by decide +kernel
theorem dX4_init_31 : decode cX4_init 31 = .ok (.newarray .int, 2) := by decide +kernel
theorem dX4_init_33 : decode cX4_init 33 = .ok (.putfield 21, 3) := by decide +kernel
theorem dX4_init_36 : decode cX4_init 36 = .ok (.aload_n 0, 1) := by decide +kernel
theorem dX4_init_37 : decode cX4_init 37 = .ok (.bipush 60, 2) := by decide +kernel
theorem dX4_init_39 : decode cX4_init 39 = .ok (.newarray .int, 2) := by decide +kernel
theorem dX4_init_41 : decode cX4_init 41 = .ok (.putfield 24, 3) := by decide +kernel
theorem dX4_init_44 : decode cX4_init 44 = .ok (.aload_n 0, 1) := by decide +kernel
theorem dX4_init_45 : decode cX4_init 45 = .ok (.bipush 7, 2) := by decide +kernel
theorem dX4_init_47 : decode cX4_init 47 = .ok (.newarray .int, 2) := by decide +kernel
theorem dX4_init_49 : decode cX4_init 49 = .ok (.putfield 27, 3) := by decide +kernel
theorem dX4_init_52 : decode cX4_init 52 = .ok (.return_, 1) := by decide +kernel
theorem dX4_length_0 : decode cX4_length 0 = .ok (.aload_n 0, 1) := by decide +kernel
theorem dX4_length_1 : decode cX4_length 1 = .ok (.getfield 30, 3) := by decide +kernel
theorem dX4_length_4 : decode cX4_length 4 = .ok (.ireturn, 1) := by decide +kernel
theorem dX4_holds_0 : decode cX4_holds 0 = .ok (.iload_n 1, 1) := by decide +kernel
theorem dX4_holds_1 : decode cX4_holds 1 = .ok (.ifCond .lt 21, 3) := by decide +kernel
theorem dX4_holds_4 : decode cX4_holds 4 = .ok (.iload_n 1, 1) := by decide +kernel
theorem dX4_holds_5 : decode cX4_holds 5 = .ok (.aload_n 0, 1) := by decide +kernel
theorem dX4_holds_6 : decode cX4_holds 6 = .ok (.getfield 30, 3) := by decide +kernel
theorem dX4_holds_9 : decode cX4_holds 9 = .ok (.if_icmp .ge 13, 3) := by decide +kernel
theorem dX4_holds_12 : decode cX4_holds 12 = .ok (.iload_n 1, 1) := by decide +kernel
theorem dX4_holds_13 : decode cX4_holds 13 = .ok (.bipush 60, 2) := by decide +kernel
theorem dX4_holds_15 : decode cX4_holds 15 = .ok (.if_icmp .ge 7, 3) := by decide +kernel
theorem dX4_holds_18 : decode cX4_holds 18 = .ok (.iconst 1, 1) := by decide +kernel
theorem dX4_holds_19 : decode cX4_holds 19 = .ok (.goto 4, 3) := by decide +kernel
theorem dX4_holds_22 : decode cX4_holds 22 = .ok (.iconst 0, 1) := by decide +kernel
theorem dX4_holds_23 : decode cX4_holds 23 = .ok (.ireturn, 1) := by decide +kernel
theorem dX4_add_0 : decode cX4_add 0 = .ok (.aload_n 0, 1) := by decide +kernel
theorem dX4_add_1 : decode cX4_add 1 = .ok (.getfield 30, 3) := by decide +kernel
theorem dX4_add_4 : decode cX4_add 4 = .ok (.ifCond .lt 12, 3) := by decide +kernel
theorem dX4_add_7 : decode cX4_add 7 = .ok (.aload_n 0, 1) := by decide +kernel
theorem dX4_add_8 : decode cX4_add 8 = .ok (.getfield 30, 3) := by decide +kernel
theorem dX4_add_11 : decode cX4_add 11 = .ok (.bipush 60, 2) := by decide +kernel
theorem dX4_add_13 : decode cX4_add 13 = .ok (.if_icmp .lt 5, 3) := by decide +kernel
theorem dX4_add_16 : decode cX4_add 16 = .ok (.iconst (-1), 1) := by decide +kernel
theorem dX4_add_17 : decode cX4_add 17 = .ok (.ireturn, 1) := by decide +kernel
theorem dX4_add_18 : decode cX4_add 18 = .ok (.aload_n 0, 1) := by decide +kernel
theorem dX4_add_19 : decode cX4_add 19 = .ok (.getfield 9, 3) := by decide +kernel
theorem dX4_add_22 : decode cX4_add 22 = .ok (.aload_n 0, 1) := by decide +kernel
theorem dX4_add_23 : decode cX4_add 23 = .ok (.getfield 30, 3) := by decide +kernel
theorem dX4_add_26 : decode cX4_add 26 = .ok (.iload_n 1, 1) := by decide +kernel
theorem dX4_add_27 : decode cX4_add 27 = .ok (.iastore, 1) := by decide +kernel
theorem dX4_add_28 : decode cX4_add 28 = .ok (.aload_n 0, 1) := by decide +kernel
theorem dX4_add_29 : decode cX4_add 29 = .ok (.getfield 15, 3) := by decide +kernel
theorem dX4_add_32 : decode cX4_add 32 = .ok (.aload_n 0, 1) := by decide +kernel
theorem dX4_add_33 : decode cX4_add 33 = .ok (.getfield 30, 3) := by decide +kernel
theorem dX4_add_36 : decode cX4_add 36 = .ok (.iload_n 2, 1) := by decide +kernel
theorem dX4_add_37 : decode cX4_add 37 = .ok (.iastore, 1) := by decide +kernel
theorem dX4_add_38 : decode cX4_add 38 = .ok (.aload_n 0, 1) := by decide +kernel
theorem dX4_add_39 : decode cX4_add 39 = .ok (.getfield 18, 3) := by decide +kernel
theorem dX4_add_42 : decode cX4_add 42 = .ok (.aload_n 0, 1) := by decide +kernel
theorem dX4_add_43 : decode cX4_add 43 = .ok (.getfield 30, 3) := by decide +kernel
theorem dX4_add_46 : decode cX4_add 46 = .ok (.iload_n 3, 1) := by decide +kernel
theorem dX4_add_47 : decode cX4_add 47 = .ok (.iastore, 1) := by decide +kernel
theorem dX4_add_48 : decode cX4_add 48 = .ok (.aload_n 0, 1) := by decide +kernel
theorem dX4_add_49 : decode cX4_add 49 = .ok (.getfield 21, 3) := by decide +kernel
theorem dX4_add_52 : decode cX4_add 52 = .ok (.aload_n 0, 1) := by decide +kernel
theorem dX4_add_53 : decode cX4_add 53 = .ok (.getfield 30, 3) := by decide +kernel
theorem dX4_add_56 : decode cX4_add 56 = .ok (.iload 4, 2) := by decide +kernel
theorem dX4_add_58 : decode cX4_add 58 = .ok (.iastore, 1) := by decide +kernel
theorem dX4_add_59 : decode cX4_add 59 = .ok (.aload_n 0, 1) := by decide +kernel
theorem dX4_add_60 : decode cX4_add 60 = .ok (.getfield 24, 3) := by decide +kernel
theorem dX4_add_63 : decode cX4_add 63 = .ok (.aload_n 0, 1) := by decide +kernel
theorem dX4_add_64 : decode cX4_add 64 = .ok (.getfield 30, 3) := by decide +kernel
theorem dX4_add_67 : decode cX4_add 67 = .ok (.iload 5, 2) := by decide +kernel
theorem dX4_add_69 : decode cX4_add 69 = .ok (.iastore, 1) := by decide +kernel
theorem dX4_add_70 : decode cX4_add 70 = .ok (.aload_n 0, 1) := by decide +kernel
theorem dX4_add_71 : decode cX4_add 71 = .ok (.dup, 1) := by decide +kernel
theorem dX4_add_72 : decode cX4_add 72 = .ok (.getfield 30, 3) := by decide +kernel
theorem dX4_add_75 : decode cX4_add 75 = .ok (.iconst 1, 1) := by decide +kernel
theorem dX4_add_76 : decode cX4_add 76 = .ok (.iadd, 1) := by decide +kernel
theorem dX4_add_77 : decode cX4_add 77 = .ok (.putfield 30, 3) := by decide +kernel
theorem dX4_add_80 : decode cX4_add 80 = .ok (.aload_n 0, 1) := by decide +kernel
theorem dX4_add_81 : decode cX4_add 81 = .ok (.getfield 30, 3) := by decide +kernel
theorem dX4_add_84 : decode cX4_add 84 = .ok (.iconst 1, 1) := by decide +kernel
theorem dX4_add_85 : decode cX4_add 85 = .ok (.isub, 1) := by decide +kernel
theorem dX4_add_86 : decode cX4_add 86 = .ok (.ireturn, 1) := by decide +kernel
theorem dX4_dropFrom_0 : decode cX4_dropFrom 0 = .ok (.aload_n 0, 1) := by decide +kernel
theorem dX4_dropFrom_1 : decode cX4_dropFrom 1 = .ok (.iload_n 1, 1) := by decide +kernel
theorem dX4_dropFrom_2 : decode cX4_dropFrom 2 = .ok (.iconst 0, 1) := by decide +kernel
theorem dX4_dropFrom_3 : decode cX4_dropFrom 3 = .ok (.bipush 60, 2) := by decide +kernel
theorem dX4_dropFrom_5 : decode cX4_dropFrom 5 = .ok (.invokestatic 34, 3) := by decide +kernel
theorem dX4_dropFrom_8 : decode cX4_dropFrom 8 = .ok (.putfield 30, 3) := by decide +kernel
theorem dX4_dropFrom_11 : decode cX4_dropFrom 11 = .ok (.return_, 1) := by decide +kernel
theorem dX4_owerOf_0 : decode cX4_owerOf 0 = .ok (.aload_n 0, 1) := by decide +kernel
theorem dX4_owerOf_1 : decode cX4_owerOf 1 = .ok (.iload_n 1, 1) := by decide +kernel
theorem dX4_owerOf_2 : decode cX4_owerOf 2 = .ok (.invokevirtual 38, 3) := by decide +kernel
theorem dX4_owerOf_5 : decode cX4_owerOf 5 = .ok (.ifCond .eq 12, 3) := by decide +kernel
theorem dX4_owerOf_8 : decode cX4_owerOf 8 = .ok (.aload_n 0, 1) := by decide +kernel
theorem dX4_owerOf_9 : decode cX4_owerOf 9 = .ok (.getfield 9, 3) := by decide +kernel
theorem dX4_owerOf_12 : decode cX4_owerOf 12 = .ok (.iload_n 1, 1) := by decide +kernel
theorem dX4_owerOf_13 : decode cX4_owerOf 13 = .ok (.iaload, 1) := by decide +kernel
theorem dX4_owerOf_14 : decode cX4_owerOf 14 = .ok (.goto 4, 3) := by decide +kernel
theorem dX4_owerOf_17 : decode cX4_owerOf 17 = .ok (.iconst (-1), 1) := by decide +kernel
theorem dX4_owerOf_18 : decode cX4_owerOf 18 = .ok (.ireturn, 1) := by decide +kernel
theorem dX4_holderOf_0 : decode cX4_holderOf 0 = .ok (.aload_n 0, 1) := by decide +kernel
theorem dX4_holderOf_1 : decode cX4_holderOf 1 = .ok (.iload_n 1, 1) := by decide +kernel
theorem dX4_holderOf_2 : decode cX4_holderOf 2 = .ok (.invokevirtual 38, 3) := by decide +kernel
theorem dX4_holderOf_5 : decode cX4_holderOf 5 = .ok (.ifCond .eq 12, 3) := by decide +kernel
theorem dX4_holderOf_8 : decode cX4_holderOf 8 = .ok (.aload_n 0, 1) := by decide +kernel
theorem dX4_holderOf_9 : decode cX4_holderOf 9 = .ok (.getfield 15, 3) := by decide +kernel
theorem dX4_holderOf_12 : decode cX4_holderOf 12 = .ok (.iload_n 1, 1) := by decide +kernel
theorem dX4_holderOf_13 : decode cX4_holderOf 13 = .ok (.iaload, 1) := by decide +kernel
theorem dX4_holderOf_14 : decode cX4_holderOf 14 = .ok (.goto 4, 3) := by decide +kernel
theorem dX4_holderOf_17 : decode cX4_holderOf 17 = .ok (.iconst (-1), 1) := by decide +kernel
theorem dX4_holderOf_18 : decode cX4_holderOf 18 = .ok (.ireturn, 1) := by decide +kernel
theorem dX4_minutesOf_0 : decode cX4_minutesOf 0 = .ok (.aload_n 0, 1) := by decide +kernel
theorem dX4_minutesOf_1 : decode cX4_minutesOf 1 = .ok (.iload_n 1, 1) := by decide +kernel
theorem dX4_minutesOf_2 : decode cX4_minutesOf 2 = .ok (.invokevirtual 38, 3) := by decide +kernel
theorem dX4_minutesOf_5 : decode cX4_minutesOf 5 = .ok (.ifCond .eq 12, 3) := by decide +kernel
theorem dX4_minutesOf_8 : decode cX4_minutesOf 8 = .ok (.aload_n 0, 1) := by decide +kernel
theorem dX4_minutesOf_9 : decode cX4_minutesOf 9 = .ok (.getfield 18, 3) := by decide +kernel
theorem dX4_minutesOf_12 : decode cX4_minutesOf 12 = .ok (.iload_n 1, 1) := by decide +kernel
theorem dX4_minutesOf_13 : decode cX4_minutesOf 13 = .ok (.iaload, 1) := by decide +kernel
theorem dX4_minutesOf_14 : decode cX4_minutesOf 14 = .ok (.goto 4, 3) := by decide +kernel
theorem dX4_minutesOf_17 : decode cX4_minutesOf 17 = .ok (.iconst 0, 1) := by decide +kernel
theorem dX4_minutesOf_18 : decode cX4_minutesOf 18 = .ok (.ireturn, 1) := by decide +kernel
theorem dX4_madeOn_0 : decode cX4_madeOn 0 = .ok (.aload_n 0, 1) := by decide +kernel
theorem dX4_madeOn_1 : decode cX4_madeOn 1 = .ok (.iload_n 1, 1) := by decide +kernel
theorem dX4_madeOn_2 : decode cX4_madeOn 2 = .ok (.invokevirtual 38, 3) := by decide +kernel
theorem dX4_madeOn_5 : decode cX4_madeOn 5 = .ok (.ifCond .eq 12, 3) := by decide +kernel
theorem dX4_madeOn_8 : decode cX4_madeOn 8 = .ok (.aload_n 0, 1) := by decide +kernel
theorem dX4_madeOn_9 : decode cX4_madeOn 9 = .ok (.getfield 21, 3) := by decide +kernel
theorem dX4_madeOn_12 : decode cX4_madeOn 12 = .ok (.iload_n 1, 1) := by decide +kernel
theorem dX4_madeOn_13 : decode cX4_madeOn 13 = .ok (.iaload, 1) := by decide +kernel
theorem dX4_madeOn_14 : decode cX4_madeOn 14 = .ok (.goto 4, 3) := by decide +kernel
theorem dX4_madeOn_17 : decode cX4_madeOn 17 = .ok (.iconst (-1), 1) := by decide +kernel
theorem dX4_madeOn_18 : decode cX4_madeOn 18 = .ok (.ireturn, 1) := by decide +kernel
theorem dX4_lapsesOn_0 : decode cX4_lapsesOn 0 = .ok (.aload_n 0, 1) := by decide +kernel
theorem dX4_lapsesOn_1 : decode cX4_lapsesOn 1 = .ok (.iload_n 1, 1) := by decide +kernel
theorem dX4_lapsesOn_2 : decode cX4_lapsesOn 2 = .ok (.invokevirtual 38, 3) := by decide +kernel
theorem dX4_lapsesOn_5 : decode cX4_lapsesOn 5 = .ok (.ifCond .eq 12, 3) := by decide +kernel
theorem dX4_lapsesOn_8 : decode cX4_lapsesOn 8 = .ok (.aload_n 0, 1) := by decide +kernel
theorem dX4_lapsesOn_9 : decode cX4_lapsesOn 9 = .ok (.getfield 24, 3) := by decide +kernel
theorem dX4_lapsesOn_12 : decode cX4_lapsesOn 12 = .ok (.iload_n 1, 1) := by decide +kernel
theorem dX4_lapsesOn_13 : decode cX4_lapsesOn 13 = .ok (.iaload, 1) := by decide +kernel
theorem dX4_lapsesOn_14 : decode cX4_lapsesOn 14 = .ok (.goto 4, 3) := by decide +kernel
theorem dX4_lapsesOn_17 : decode cX4_lapsesOn 17 = .ok (.iconst (-1), 1) := by decide +kernel
theorem dX4_lapsesOn_18 : decode cX4_lapsesOn 18 = .ok (.ireturn, 1) := by decide +kernel
theorem dX4_isLive_0 : decode cX4_isLive 0 = .ok (.aload_n 0, 1) := by decide +kernel
theorem dX4_isLive_1 : decode cX4_isLive 1 = .ok (.iload_n 1, 1) := by decide +kernel
theorem dX4_isLive_2 : decode cX4_isLive 2 = .ok (.invokevirtual 38, 3) := by decide +kernel
theorem dX4_isLive_5 : decode cX4_isLive 5 = .ok (.ifCond .eq 36, 3) := by decide +kernel
theorem dX4_isLive_8 : decode cX4_isLive 8 = .ok (.aload_n 0, 1) := by decide +kernel
theorem dX4_isLive_9 : decode cX4_isLive 9 = .ok (.getfield 18, 3) := by decide +kernel
theorem dX4_isLive_12 : decode cX4_isLive 12 = .ok (.iload_n 1, 1) := by decide +kernel
theorem dX4_isLive_13 : decode cX4_isLive 13 = .ok (.iaload, 1) := by decide +kernel
theorem dX4_isLive_14 : decode cX4_isLive 14 = .ok (.ifCond .le 27, 3) := by decide +kernel
theorem dX4_isLive_17 : decode cX4_isLive 17 = .ok (.aload_n 0, 1) := by decide +kernel
theorem dX4_isLive_18 : decode cX4_isLive 18 = .ok (.getfield 24, 3) := by decide +kernel
theorem dX4_isLive_21 : decode cX4_isLive 21 = .ok (.iload_n 1, 1) := by decide +kernel
theorem dX4_isLive_22 : decode cX4_isLive 22 = .ok (.iaload, 1) := by decide +kernel
theorem dX4_isLive_23 : decode cX4_isLive 23 = .ok (.iconst (-1), 1) := by decide +kernel
theorem dX4_isLive_24 : decode cX4_isLive 24 = .ok (.if_icmp .eq 13, 3) := by decide +kernel
theorem dX4_isLive_27 : decode cX4_isLive 27 = .ok (.iload_n 2, 1) := by decide +kernel
theorem dX4_isLive_28 : decode cX4_isLive 28 = .ok (.aload_n 0, 1) := by decide +kernel
theorem dX4_isLive_29 : decode cX4_isLive 29 = .ok (.getfield 24, 3) := by decide +kernel
theorem dX4_isLive_32 : decode cX4_isLive 32 = .ok (.iload_n 1, 1) := by decide +kernel
theorem dX4_isLive_33 : decode cX4_isLive 33 = .ok (.iaload, 1) := by decide +kernel
theorem dX4_isLive_34 : decode cX4_isLive 34 = .ok (.if_icmp .ge 7, 3) := by decide +kernel
theorem dX4_isLive_37 : decode cX4_isLive 37 = .ok (.iconst 1, 1) := by decide +kernel
theorem dX4_isLive_38 : decode cX4_isLive 38 = .ok (.goto 4, 3) := by decide +kernel
theorem dX4_isLive_41 : decode cX4_isLive 41 = .ok (.iconst 0, 1) := by decide +kernel
theorem dX4_isLive_42 : decode cX4_isLive 42 = .ok (.ireturn, 1) := by decide +kernel
theorem dX4_handTo_0 : decode cX4_handTo 0 = .ok (.aload_n 0, 1) := by decide +kernel
theorem dX4_handTo_1 : decode cX4_handTo 1 = .ok (.iload_n 1, 1) := by decide +kernel
theorem dX4_handTo_2 : decode cX4_handTo 2 = .ok (.invokevirtual 38, 3) := by decide +kernel
theorem dX4_handTo_5 : decode cX4_handTo 5 = .ok (.ifCond .ne 4, 3) := by decide +kernel
theorem dX4_handTo_8 : decode cX4_handTo 8 = .ok (.return_, 1) := by decide +kernel
theorem dX4_handTo_9 : decode cX4_handTo 9 = .ok (.aload_n 0, 1) := by decide +kernel
theorem dX4_handTo_10 : decode cX4_handTo 10 = .ok (.getfield 15, 3) := by decide +kernel
theorem dX4_handTo_13 : decode cX4_handTo 13 = .ok (.iload_n 1, 1) := by decide +kernel
theorem dX4_handTo_14 : decode cX4_handTo 14 = .ok (.iload_n 2, 1) := by decide +kernel
theorem dX4_handTo_15 : decode cX4_handTo 15 = .ok (.iastore, 1) := by decide +kernel
theorem dX4_handTo_16 : decode cX4_handTo 16 = .ok (.aload_n 0, 1) := by decide +kernel
theorem dX4_handTo_17 : decode cX4_handTo 17 = .ok (.getfield 9, 3) := by decide +kernel
theorem dX4_handTo_20 : decode cX4_handTo 20 = .ok (.iload_n 1, 1) := by decide +kernel
theorem dX4_handTo_21 : decode cX4_handTo 21 = .ok (.iaload, 1) := by decide +kernel
theorem dX4_handTo_22 : decode cX4_handTo 22 = .ok (.iload_n 2, 1) := by decide +kernel
theorem dX4_handTo_23 : decode cX4_handTo 23 = .ok (.if_icmp .ne 10, 3) := by decide +kernel
theorem dX4_handTo_26 : decode cX4_handTo 26 = .ok (.aload_n 0, 1) := by decide +kernel
theorem dX4_handTo_27 : decode cX4_handTo 27 = .ok (.getfield 18, 3) := by decide +kernel
theorem dX4_handTo_30 : decode cX4_handTo 30 = .ok (.iload_n 1, 1) := by decide +kernel
theorem dX4_handTo_31 : decode cX4_handTo 31 = .ok (.iconst 0, 1) := by decide +kernel
theorem dX4_handTo_32 : decode cX4_handTo 32 = .ok (.iastore, 1) := by decide +kernel
theorem dX4_handTo_33 : decode cX4_handTo 33 = .ok (.return_, 1) := by decide +kernel
theorem dX4_split_0 : decode cX4_split 0 = .ok (.aload_n 0, 1) := by decide +kernel
theorem dX4_split_1 : decode cX4_split 1 = .ok (.iload_n 1, 1) := by decide +kernel
theorem dX4_split_2 : decode cX4_split 2 = .ok (.invokevirtual 38, 3) := by decide +kernel
theorem dX4_split_5 : decode cX4_split 5 = .ok (.ifCond .ne 5, 3) := by decide +kernel
theorem dX4_split_8 : decode cX4_split 8 = .ok (.iconst (-1), 1) := by decide +kernel
theorem dX4_split_9 : decode cX4_split 9 = .ok (.ireturn, 1) := by decide +kernel
theorem dX4_split_10 : decode cX4_split 10 = .ok (.aload_n 0, 1) := by decide +kernel
theorem dX4_split_11 : decode cX4_split 11 = .ok (.aload_n 0, 1) := by decide +kernel
theorem dX4_split_12 : decode cX4_split 12 = .ok (.getfield 9, 3) := by decide +kernel
theorem dX4_split_15 : decode cX4_split 15 = .ok (.iload_n 1, 1) := by decide +kernel
theorem dX4_split_16 : decode cX4_split 16 = .ok (.iaload, 1) := by decide +kernel
theorem dX4_split_17 : decode cX4_split 17 = .ok (.aload_n 0, 1) := by decide +kernel
theorem dX4_split_18 : decode cX4_split 18 = .ok (.getfield 15, 3) := by decide +kernel
theorem dX4_split_21 : decode cX4_split 21 = .ok (.iload_n 1, 1) := by decide +kernel
theorem dX4_split_22 : decode cX4_split 22 = .ok (.iaload, 1) := by decide +kernel
theorem dX4_split_23 : decode cX4_split 23 = .ok (.iload_n 2, 1) := by decide +kernel
theorem dX4_split_24 : decode cX4_split 24 = .ok (.aload_n 0, 1) := by decide +kernel
theorem dX4_split_25 : decode cX4_split 25 = .ok (.getfield 21, 3) := by decide +kernel
theorem dX4_split_28 : decode cX4_split 28 = .ok (.iload_n 1, 1) := by decide +kernel
theorem dX4_split_29 : decode cX4_split 29 = .ok (.iaload, 1) := by decide +kernel
theorem dX4_split_30 : decode cX4_split 30 = .ok (.aload_n 0, 1) := by decide +kernel
theorem dX4_split_31 : decode cX4_split 31 = .ok (.getfield 24, 3) := by decide +kernel
theorem dX4_split_34 : decode cX4_split 34 = .ok (.iload_n 1, 1) := by decide +kernel
theorem dX4_split_35 : decode cX4_split 35 = .ok (.iaload, 1) := by decide +kernel
theorem dX4_split_36 : decode cX4_split 36 = .ok (.invokevirtual 42, 3) := by decide +kernel
theorem dX4_split_39 : decode cX4_split 39 = .ok (.istore_n 3, 1) := by decide +kernel
theorem dX4_split_40 : decode cX4_split 40 = .ok (.iload_n 3, 1) := by decide +kernel
theorem dX4_split_41 : decode cX4_split 41 = .ok (.iconst (-1), 1) := by decide +kernel
theorem dX4_split_42 : decode cX4_split 42 = .ok (.if_icmp .eq 13, 3) := by decide +kernel
theorem dX4_split_45 : decode cX4_split 45 = .ok (.aload_n 0, 1) := by decide +kernel
theorem dX4_split_46 : decode cX4_split 46 = .ok (.getfield 18, 3) := by decide +kernel
theorem dX4_split_49 : decode cX4_split 49 = .ok (.iload_n 1, 1) := by decide +kernel
theorem dX4_split_50 : decode cX4_split 50 = .ok (.dup2, 1) := by decide +kernel
theorem dX4_split_51 : decode cX4_split 51 = .ok (.iaload, 1) := by decide +kernel
theorem dX4_split_52 : decode cX4_split 52 = .ok (.iload_n 2, 1) := by decide +kernel
theorem dX4_split_53 : decode cX4_split 53 = .ok (.isub, 1) := by decide +kernel
theorem dX4_split_54 : decode cX4_split 54 = .ok (.iastore, 1) := by decide +kernel
theorem dX4_split_55 : decode cX4_split 55 = .ok (.iload_n 3, 1) := by decide +kernel
theorem dX4_split_56 : decode cX4_split 56 = .ok (.ireturn, 1) := by decide +kernel
theorem dX4_lessen_0 : decode cX4_lessen 0 = .ok (.aload_n 0, 1) := by decide +kernel
theorem dX4_lessen_1 : decode cX4_lessen 1 = .ok (.iload_n 1, 1) := by decide +kernel
theorem dX4_lessen_2 : decode cX4_lessen 2 = .ok (.invokevirtual 38, 3) := by decide +kernel
theorem dX4_lessen_5 : decode cX4_lessen 5 = .ok (.ifCond .eq 13, 3) := by decide +kernel
theorem dX4_lessen_8 : decode cX4_lessen 8 = .ok (.aload_n 0, 1) := by decide +kernel
theorem dX4_lessen_9 : decode cX4_lessen 9 = .ok (.getfield 18, 3) := by decide +kernel
theorem dX4_lessen_12 : decode cX4_lessen 12 = .ok (.iload_n 1, 1) := by decide +kernel
theorem dX4_lessen_13 : decode cX4_lessen 13 = .ok (.dup2, 1) := by decide +kernel
theorem dX4_lessen_14 : decode cX4_lessen 14 = .ok (.iaload, 1) := by decide +kernel
theorem dX4_lessen_15 : decode cX4_lessen 15 = .ok (.iload_n 2, 1) := by decide +kernel
theorem dX4_lessen_16 : decode cX4_lessen 16 = .ok (.isub, 1) := by decide +kernel
theorem dX4_lessen_17 : decode cX4_lessen 17 = .ok (.iastore, 1) := by decide +kernel
theorem dX4_lessen_18 : decode cX4_lessen 18 = .ok (.return_, 1) := by decide +kernel
theorem dX4_sumOf_0 : decode cX4_sumOf 0 = .ok (.iconst 0, 1) := by decide +kernel
theorem dX4_sumOf_1 : decode cX4_sumOf 1 = .ok (.istore 4, 2) := by decide +kernel
theorem dX4_sumOf_3 : decode cX4_sumOf 3 = .ok (.iconst 0, 1) := by decide +kernel
theorem dX4_sumOf_4 : decode cX4_sumOf 4 = .ok (.istore 5, 2) := by decide +kernel
theorem dX4_sumOf_6 : decode cX4_sumOf 6 = .ok (.iload 5, 2) := by decide +kernel
theorem dX4_sumOf_8 : decode cX4_sumOf 8 = .ok (.aload_n 0, 1) := by decide +kernel
theorem dX4_sumOf_9 : decode cX4_sumOf 9 = .ok (.getfield 30, 3) := by decide +kernel
theorem dX4_sumOf_12 : decode cX4_sumOf 12 = .ok (.if_icmp .ge 73, 3) := by decide +kernel
theorem dX4_sumOf_15 : decode cX4_sumOf 15 = .ok (.iload 5, 2) := by decide +kernel
theorem dX4_sumOf_17 : decode cX4_sumOf 17 = .ok (.bipush 60, 2) := by decide +kernel
theorem dX4_sumOf_19 : decode cX4_sumOf 19 = .ok (.if_icmp .ge 66, 3) := by decide +kernel
theorem dX4_sumOf_22 : decode cX4_sumOf 22 = .ok (.iload_n 1, 1) := by decide +kernel
theorem dX4_sumOf_23 : decode cX4_sumOf 23 = .ok (.iconst (-1), 1) := by decide +kernel
theorem dX4_sumOf_24 : decode cX4_sumOf 24 = .ok (.if_icmp .eq 14, 3) := by decide +kernel
theorem dX4_sumOf_27 : decode cX4_sumOf 27 = .ok (.aload_n 0, 1) := by decide +kernel
theorem dX4_sumOf_28 : decode cX4_sumOf 28 = .ok (.getfield 9, 3) := by decide +kernel
theorem dX4_sumOf_31 : decode cX4_sumOf 31 = .ok (.iload 5, 2) := by decide +kernel
theorem dX4_sumOf_33 : decode cX4_sumOf 33 = .ok (.iaload, 1) := by decide +kernel
theorem dX4_sumOf_34 : decode cX4_sumOf 34 = .ok (.iload_n 1, 1) := by decide +kernel
theorem dX4_sumOf_35 : decode cX4_sumOf 35 = .ok (.if_icmp .ne 44, 3) := by decide +kernel
theorem dX4_sumOf_38 : decode cX4_sumOf 38 = .ok (.iload_n 2, 1) := by decide +kernel
theorem dX4_sumOf_39 : decode cX4_sumOf 39 = .ok (.iconst (-1), 1) := by decide +kernel
theorem dX4_sumOf_40 : decode cX4_sumOf 40 = .ok (.if_icmp .eq 17, 3) := by decide +kernel
theorem dX4_sumOf_43 : decode cX4_sumOf 43 = .ok (.aload_n 0, 1) := by decide +kernel
theorem dX4_sumOf_44 : decode cX4_sumOf 44 = .ok (.getfield 15, 3) := by decide +kernel
theorem dX4_sumOf_47 : decode cX4_sumOf 47 = .ok (.iload 5, 2) := by decide +kernel
theorem dX4_sumOf_49 : decode cX4_sumOf 49 = .ok (.iaload, 1) := by decide +kernel
theorem dX4_sumOf_50 : decode cX4_sumOf 50 = .ok (.iload_n 2, 1) := by decide +kernel
theorem dX4_sumOf_51 : decode cX4_sumOf 51 = .ok (.if_icmp .eq 6, 3) := by decide +kernel
theorem dX4_sumOf_54 : decode cX4_sumOf 54 = .ok (.goto 25, 3) := by decide +kernel
theorem dX4_sumOf_57 : decode cX4_sumOf 57 = .ok (.aload_n 0, 1) := by decide +kernel
theorem dX4_sumOf_58 : decode cX4_sumOf 58 = .ok (.iload 5, 2) := by decide +kernel
theorem dX4_sumOf_60 : decode cX4_sumOf 60 = .ok (.iload_n 3, 1) := by decide +kernel
theorem dX4_sumOf_61 : decode cX4_sumOf 61 = .ok (.invokevirtual 46, 3) := by decide +kernel
theorem dX4_sumOf_64 : decode cX4_sumOf 64 = .ok (.ifCond .eq 15, 3) := by decide +kernel
theorem dX4_sumOf_67 : decode cX4_sumOf 67 = .ok (.iload 4, 2) := by decide +kernel
theorem dX4_sumOf_69 : decode cX4_sumOf 69 = .ok (.aload_n 0, 1) := by decide +kernel
theorem dX4_sumOf_70 : decode cX4_sumOf 70 = .ok (.getfield 18, 3) := by decide +kernel
theorem dX4_sumOf_73 : decode cX4_sumOf 73 = .ok (.iload 5, 2) := by decide +kernel
theorem dX4_sumOf_75 : decode cX4_sumOf 75 = .ok (.iaload, 1) := by decide +kernel
theorem dX4_sumOf_76 : decode cX4_sumOf 76 = .ok (.iadd, 1) := by decide +kernel
theorem dX4_sumOf_77 : decode cX4_sumOf 77 = .ok (.istore 4, 2) := by decide +kernel
theorem dX4_sumOf_79 : decode cX4_sumOf 79 = .ok (.iinc 5 1, 3) := by decide +kernel
theorem dX4_sumOf_82 : decode cX4_sumOf 82 = .ok (.goto (-76), 3) := by decide +kernel
theorem dX4_sumOf_85 : decode cX4_sumOf 85 = .ok (.iload 4, 2) := by decide +kernel
theorem dX4_sumOf_87 : decode cX4_sumOf 87 = .ok (.ireturn, 1) := by decide +kernel
theorem dX4_callIn_0 : decode cX4_callIn 0 = .ok (.iload_n 2, 1) := by decide +kernel
theorem dX4_callIn_1 : decode cX4_callIn 1 = .ok (.bipush 99, 2) := by decide +kernel
theorem dX4_callIn_3 : decode cX4_callIn 3 = .ok (.iload_n 3, 1) := by decide +kernel
theorem dX4_callIn_4 : decode cX4_callIn 4 = .ok (.isub, 1) := by decide +kernel
theorem dX4_callIn_5 : decode cX4_callIn 5 = .ok (.invokestatic 50, 3) := by decide +kernel
theorem dX4_callIn_8 : decode cX4_callIn 8 = .ok (.istore 5, 2) := by decide +kernel
theorem dX4_callIn_10 : decode cX4_callIn 10 = .ok (.iconst 0, 1) := by decide +kernel
theorem dX4_callIn_11 : decode cX4_callIn 11 = .ok (.istore 6, 2) := by decide +kernel
theorem dX4_callIn_13 : decode cX4_callIn 13 = .ok (.iload 6, 2) := by decide +kernel
theorem dX4_callIn_15 : decode cX4_callIn 15 = .ok (.iload 5, 2) := by decide +kernel
theorem dX4_callIn_17 : decode cX4_callIn 17 = .ok (.if_icmp .gt 36, 3) := by decide +kernel
theorem dX4_callIn_20 : decode cX4_callIn 20 = .ok (.iload 6, 2) := by decide +kernel
theorem dX4_callIn_22 : decode cX4_callIn 22 = .ok (.aload_n 0, 1) := by decide +kernel
theorem dX4_callIn_23 : decode cX4_callIn 23 = .ok (.getfield 27, 3) := by decide +kernel
theorem dX4_callIn_26 : decode cX4_callIn 26 = .ok (.arraylength, 1) := by decide +kernel
theorem dX4_callIn_27 : decode cX4_callIn 27 = .ok (.if_icmp .ge 26, 3) := by decide +kernel
theorem dX4_callIn_30 : decode cX4_callIn 30 = .ok (.aload_n 0, 1) := by decide +kernel
theorem dX4_callIn_31 : decode cX4_callIn 31 = .ok (.getfield 27, 3) := by decide +kernel
theorem dX4_callIn_34 : decode cX4_callIn 34 = .ok (.iload 6, 2) := by decide +kernel
theorem dX4_callIn_36 : decode cX4_callIn 36 = .ok (.aload_n 0, 1) := by decide +kernel
theorem dX4_callIn_37 : decode cX4_callIn 37 = .ok (.iconst (-1), 1) := by decide +kernel
theorem dX4_callIn_38 : decode cX4_callIn 38 = .ok (.iload_n 1, 1) := by decide +kernel
theorem dX4_callIn_39 : decode cX4_callIn 39 = .ok (.iload_n 3, 1) := by decide +kernel
theorem dX4_callIn_40 : decode cX4_callIn 40 = .ok (.iload 6, 2) := by decide +kernel
theorem dX4_callIn_42 : decode cX4_callIn 42 = .ok (.iadd, 1) := by decide +kernel
theorem dX4_callIn_43 : decode cX4_callIn 43 = .ok (.invokevirtual 56, 3) := by decide +kernel
theorem dX4_callIn_46 : decode cX4_callIn 46 = .ok (.iastore, 1) := by decide +kernel
theorem dX4_callIn_47 : decode cX4_callIn 47 = .ok (.iinc 6 1, 3) := by decide +kernel
theorem dX4_callIn_50 : decode cX4_callIn 50 = .ok (.goto (-37), 3) := by decide +kernel
theorem dX4_callIn_53 : decode cX4_callIn 53 = .ok (.lconst 0, 1) := by decide +kernel
theorem dX4_callIn_54 : decode cX4_callIn 54 = .ok (.lstore 6, 2) := by decide +kernel
theorem dX4_callIn_56 : decode cX4_callIn 56 = .ok (.bipush 99, 2) := by decide +kernel
theorem dX4_callIn_58 : decode cX4_callIn 58 = .ok (.istore 8, 2) := by decide +kernel
theorem dX4_callIn_60 : decode cX4_callIn 60 = .ok (.iload 8, 2) := by decide +kernel
theorem dX4_callIn_62 : decode cX4_callIn 62 = .ok (.ifCond .le 117, 3) := by decide +kernel
theorem dX4_callIn_65 : decode cX4_callIn 65 = .ok (.aload_n 0, 1) := by decide +kernel
theorem dX4_callIn_66 : decode cX4_callIn 66 = .ok (.getfield 27, 3) := by decide +kernel
theorem dX4_callIn_69 : decode cX4_callIn 69 = .ok (.iconst 0, 1) := by decide +kernel
theorem dX4_callIn_70 : decode cX4_callIn 70 = .ok (.iaload, 1) := by decide +kernel
theorem dX4_callIn_71 : decode cX4_callIn 71 = .ok (.ifCond .le 108, 3) := by decide +kernel
theorem dX4_callIn_74 : decode cX4_callIn 74 = .ok (.iconst 0, 1) := by decide +kernel
theorem dX4_callIn_75 : decode cX4_callIn 75 = .ok (.istore 9, 2) := by decide +kernel
theorem dX4_callIn_77 : decode cX4_callIn 77 = .ok (.iload 9, 2) := by decide +kernel
theorem dX4_callIn_79 : decode cX4_callIn 79 = .ok (.bipush 24, 2) := by decide +kernel
theorem dX4_callIn_81 : decode cX4_callIn 81 = .ok (.if_icmp .ge 92, 3) := by decide +kernel
theorem dX4_callIn_84 : decode cX4_callIn 84 = .ok (.aload 4, 2) := by decide +kernel
theorem dX4_callIn_86 : decode cX4_callIn 86 = .ok (.iload_n 1, 1) := by decide +kernel
theorem dX4_callIn_87 : decode cX4_callIn 87 = .ok (.iload 9, 2) := by decide +kernel
theorem dX4_callIn_89 : decode cX4_callIn 89 = .ok (.invokevirtual 59, 3) := by decide +kernel
theorem dX4_callIn_92 : decode cX4_callIn 92 = .ok (.iload 8, 2) := by decide +kernel
theorem dX4_callIn_94 : decode cX4_callIn 94 = .ok (.if_icmp .eq 6, 3) := by decide +kernel
theorem dX4_callIn_97 : decode cX4_callIn 97 = .ok (.goto 70, 3) := by decide +kernel
theorem dX4_callIn_100 : decode cX4_callIn 100 = .ok (.bipush 60, 2) := by decide +kernel
theorem dX4_callIn_102 : decode cX4_callIn 102 = .ok (.aload 4, 2) := by decide +kernel
theorem dX4_callIn_104 : decode cX4_callIn 104 = .ok (.iload_n 1, 1) := by decide +kernel
theorem dX4_callIn_105 : decode cX4_callIn 105 = .ok (.iload 9, 2) := by decide +kernel
theorem dX4_callIn_107 : decode cX4_callIn 107 = .ok (.invokevirtual 64, 3) := by decide +kernel
theorem dX4_callIn_110 : decode cX4_callIn 110 = .ok (.isub, 1) := by decide +kernel
theorem dX4_callIn_111 : decode cX4_callIn 111 = .ok (.istore 10, 2) := by decide +kernel
theorem dX4_callIn_113 : decode cX4_callIn 113 = .ok (.iconst 0, 1) := by decide +kernel
theorem dX4_callIn_114 : decode cX4_callIn 114 = .ok (.istore 11, 2) := by decide +kernel
theorem dX4_callIn_116 : decode cX4_callIn 116 = .ok (.iload 11, 2) := by decide +kernel
theorem dX4_callIn_118 : decode cX4_callIn 118 = .ok (.iload 5, 2) := by decide +kernel
theorem dX4_callIn_120 : decode cX4_callIn 120 = .ok (.if_icmp .gt 47, 3) := by decide +kernel
theorem dX4_callIn_123 : decode cX4_callIn 123 = .ok (.iload 11, 2) := by decide +kernel
theorem dX4_callIn_125 : decode cX4_callIn 125 = .ok (.aload_n 0, 1) := by decide +kernel
theorem dX4_callIn_126 : decode cX4_callIn 126 = .ok (.getfield 27, 3) := by decide +kernel
theorem dX4_callIn_129 : decode cX4_callIn 129 = .ok (.arraylength, 1) := by decide +kernel
theorem dX4_callIn_130 : decode cX4_callIn 130 = .ok (.if_icmp .ge 37, 3) := by decide +kernel
theorem dX4_callIn_133 : decode cX4_callIn 133 = .ok (.lload 6, 2) := by decide +kernel
theorem dX4_callIn_135 : decode cX4_callIn 135 = .ok (.iload 8, 2) := by decide +kernel
theorem dX4_callIn_137 : decode cX4_callIn 137 = .ok (.i2l, 1) := by decide +kernel
theorem dX4_callIn_138 : decode cX4_callIn 138 = .ok (.aload_n 0, 1) := by decide +kernel
theorem dX4_callIn_139 : decode cX4_callIn 139 = .ok (.iload 11, 2) := by decide +kernel
theorem dX4_callIn_141 : decode cX4_callIn 141 = .ok (.iload 11, 2) := by decide +kernel
