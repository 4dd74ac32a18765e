theorem dX0_init_0 : decode cX0_init 0 = .ok (.aload_n 0, 1) := by decide +kernel
theorem dX0_init_1 : decode cX0_init 1 = .ok (.invokespecial 3, 3) := by decide +kernel
theorem dX0_init_4 : decode cX0_init 4 = .ok (.aload_n 0, 1) := by decide +kernel
theorem dX0_init_5 : decode cX0_init 5 = .ok (.bipush 16, 2) := by decide +kernel
theorem dX0_init_7 : decode cX0_init 7 = .ok (.newarray .int, 2) := by decide +kernel
theorem dX0_init_9 : decode cX0_init 9 = .ok (.putfield 9, 3) := by decide +kernel
theorem dX0_init_12 : decode cX0_init 12 = .ok (.aload_n 0, 1) := by decide +kernel
theorem dX0_init_13 : decode cX0_init 13 = .ok (.iconst 0, 1) := by decide +kernel
theorem dX0_init_14 : decode cX0_init 14 = .ok (.putfield 15, 3) := by decide +kernel
theorem dX0_init_17 : decode cX0_init 17 = .ok (.aload_n 0, 1) := by decide +kernel
theorem dX0_init_18 : decode cX0_init 18 = .ok (.aload_n 1, 1) := by decide +kernel
theorem dX0_init_19 : decode cX0_init 19 = .ok (.putfield 19, 3) := by decide +kernel
theorem dX0_init_22 : decode cX0_init 22 = .ok (.return_, 1) := by decide +kernel
theorem dX0_answer_0 : decode cX0_answer 0 = .ok (.aload_n 0, 1) := by decide +kernel
theorem dX0_answer_1 : decode cX0_answer 1 = .ok (.iconst 0, 1) := by decide +kernel
theorem dX0_answer_2 : decode cX0_answer 2 = .ok (.putfield 15, 3) := by decide +kernel
theorem dX0_answer_5 : decode cX0_answer 5 = .ok (.iload_n 1, 1) := by decide +kernel
theorem dX0_answer_6 : decode cX0_answer 6 = .ok (.ifCond .ne 11, 3) := by decide +kernel
theorem dX0_answer_9 : decode cX0_answer 9 = .ok (.aload_n 0, 1) := by decide +kernel
theorem dX0_answer_10 : decode cX0_answer 10 = .ok (.iload_n 2, 1) := by decide +kernel
theorem dX0_answer_11 : decode cX0_answer 11 = .ok (.invokevirtual 23, 3) := by decide +kernel
theorem dX0_answer_14 : decode cX0_answer 14 = .ok (.goto 8, 3) := by decide +kernel
theorem dX0_answer_17 : decode cX0_answer 17 = .ok (.aload_n 0, 1) := by decide +kernel
theorem dX0_answer_18 : decode cX0_answer 18 = .ok (.iload_n 2, 1) := by decide +kernel
theorem dX0_answer_19 : decode cX0_answer 19 = .ok (.invokevirtual 27, 3) := by decide +kernel
theorem dX0_answer_22 : decode cX0_answer 22 = .ok (.ireturn, 1) := by decide +kernel
theorem dX0_traced_0 : decode cX0_traced 0 = .ok (.iload_n 1, 1) := by decide +kernel
theorem dX0_traced_1 : decode cX0_traced 1 = .ok (.aload_n 0, 1) := by decide +kernel
theorem dX0_traced_2 : decode cX0_traced 2 = .ok (.getfield 15, 3) := by decide +kernel
theorem dX0_traced_5 : decode cX0_traced 5 = .ok (.invokestatic 30, 3) := by decide +kernel
theorem dX0_traced_8 : decode cX0_traced 8 = .ok (.ifCond .ne 9, 3) := by decide +kernel
theorem dX0_traced_11 : decode cX0_traced 11 = .ok (.iload_n 1, 1) := by decide +kernel
theorem dX0_traced_12 : decode cX0_traced 12 = .ok (.bipush 16, 2) := by decide +kernel
theorem dX0_traced_14 : decode cX0_traced 14 = .ok (.if_icmp .lt 8, 3) := by decide +kernel
theorem dX0_traced_17 : decode cX0_traced 17 = .ok (.ldc 34, 2) := by decide +kernel
theorem dX0_traced_19 : decode cX0_traced 19 = .ok (.goto 9, 3) := by decide +kernel
theorem dX0_traced_22 : decode cX0_traced 22 = .ok (.aload_n 0, 1) := by decide +kernel
theorem dX0_traced_23 : decode cX0_traced 23 = .ok (.getfield 9, 3) := by decide +kernel
theorem dX0_traced_26 : decode cX0_traced 26 = .ok (.iload_n 1, 1) := by decide +kernel
theorem dX0_traced_27 : decode cX0_traced 27 = .ok (.iaload, 1) := by decide +kernel
theorem dX0_traced_28 : decode cX0_traced 28 = .ok (.ireturn, 1) := by decide +kernel
theorem dX0_begin_0 : decode cX0_begin 0 = .ok (.aload_n 0, 1) := by decide +kernel
theorem dX0_begin_1 : decode cX0_begin 1 = .ok (.getfield 15, 3) := by decide +kernel
theorem dX0_begin_4 : decode cX0_begin 4 = .ok (.bipush 16, 2) := by decide +kernel
theorem dX0_begin_6 : decode cX0_begin 6 = .ok (.if_icmp .ge 23, 3) := by decide +kernel
theorem dX0_begin_9 : decode cX0_begin 9 = .ok (.aload_n 0, 1) := by decide +kernel
theorem dX0_begin_10 : decode cX0_begin 10 = .ok (.getfield 9, 3) := by decide +kernel
theorem dX0_begin_13 : decode cX0_begin 13 = .ok (.aload_n 0, 1) := by decide +kernel
theorem dX0_begin_14 : decode cX0_begin 14 = .ok (.getfield 15, 3) := by decide +kernel
theorem dX0_begin_17 : decode cX0_begin 17 = .ok (.iload_n 1, 1) := by decide +kernel
theorem dX0_begin_18 : decode cX0_begin 18 = .ok (.iastore, 1) := by decide +kernel
theorem dX0_begin_19 : decode cX0_begin 19 = .ok (.aload_n 0, 1) := by decide +kernel
theorem dX0_begin_20 : decode cX0_begin 20 = .ok (.dup, 1) := by decide +kernel
theorem dX0_begin_21 : decode cX0_begin 21 = .ok (.getfield 15, 3) := by decide +kernel
theorem dX0_begin_24 : decode cX0_begin 24 = .ok (.iconst 1, 1) := by decide +kernel
theorem dX0_begin_25 : decode cX0_begin 25 = .ok (.iadd, 1) := by decide +kernel
theorem dX0_begin_26 : decode cX0_begin 26 = .ok (.putfield 15, 3) := by decide +kernel
theorem dX0_begin_29 : decode cX0_begin 29 = .ok (.return_, 1) := by decide +kernel
theorem dX0_sizeOf_0 : decode cX0_sizeOf 0 = .ok (.aload_n 0, 1) := by decide +kernel
theorem dX0_sizeOf_1 : decode cX0_sizeOf 1 = .ok (.getfield 19, 3) := by decide +kernel
theorem dX0_sizeOf_4 : decode cX0_sizeOf 4 = .ok (.iload_n 1, 1) := by decide +kernel
theorem dX0_sizeOf_5 : decode cX0_sizeOf 5 = .ok (.invokevirtual 35, 3) := by decide +kernel
theorem dX0_sizeOf_8 : decode cX0_sizeOf 8 = .ok (.tableswitch 83 1 3 #[28, 48, 69], 28) := by decide +kernel
theorem dX0_sizeOf_36 : decode cX0_sizeOf 36 = .ok (.aload_n 0, 1) := by decide +kernel
theorem dX0_sizeOf_37 : decode cX0_sizeOf 37 = .ok (.bipush 11, 2) := by decide +kernel
theorem dX0_sizeOf_39 : decode cX0_sizeOf 39 = .ok (.invokevirtual 40, 3) := by decide +kernel
theorem dX0_sizeOf_42 : decode cX0_sizeOf 42 = .ok (.aload_n 0, 1) := by decide +kernel
theorem dX0_sizeOf_43 : decode cX0_sizeOf 43 = .ok (.iload_n 1, 1) := by decide +kernel
theorem dX0_sizeOf_44 : decode cX0_sizeOf 44 = .ok (.invokevirtual 44, 3) := by decide +kernel
theorem dX0_sizeOf_47 : decode cX0_sizeOf 47 = .ok (.aload_n 0, 1) := by decide +kernel
theorem dX0_sizeOf_48 : decode cX0_sizeOf 48 = .ok (.getfield 19, 3) := by decide +kernel
theorem dX0_sizeOf_51 : decode cX0_sizeOf 51 = .ok (.getfield 47, 3) := by decide +kernel
theorem dX0_sizeOf_54 : decode cX0_sizeOf 54 = .ok (.iadd, 1) := by decide +kernel
theorem dX0_sizeOf_55 : decode cX0_sizeOf 55 = .ok (.ireturn, 1) := by decide +kernel
theorem dX0_sizeOf_56 : decode cX0_sizeOf 56 = .ok (.aload_n 0, 1) := by decide +kernel
theorem dX0_sizeOf_57 : decode cX0_sizeOf 57 = .ok (.bipush 12, 2) := by decide +kernel
theorem dX0_sizeOf_59 : decode cX0_sizeOf 59 = .ok (.invokevirtual 40, 3) := by decide +kernel
theorem dX0_sizeOf_62 : decode cX0_sizeOf 62 = .ok (.aload_n 0, 1) := by decide +kernel
theorem dX0_sizeOf_63 : decode cX0_sizeOf 63 = .ok (.iload_n 1, 1) := by decide +kernel
theorem dX0_sizeOf_64 : decode cX0_sizeOf 64 = .ok (.invokevirtual 44, 3) := by decide +kernel
theorem dX0_sizeOf_67 : decode cX0_sizeOf 67 = .ok (.aload_n 0, 1) := by decide +kernel
theorem dX0_sizeOf_68 : decode cX0_sizeOf 68 = .ok (.getfield 19, 3) := by decide +kernel
theorem dX0_sizeOf_71 : decode cX0_sizeOf 71 = .ok (.iload_n 1, 1) := by decide +kernel
theorem dX0_sizeOf_72 : decode cX0_sizeOf 72 = .ok (.invokevirtual 50, 3) := by decide +kernel
theorem dX0_sizeOf_75 : decode cX0_sizeOf 75 = .ok (.iadd, 1) := by decide +kernel
theorem dX0_sizeOf_76 : decode cX0_sizeOf 76 = .ok (.ireturn, 1) := by decide +kernel
theorem dX0_sizeOf_77 : decode cX0_sizeOf 77 = .ok (.aload_n 0, 1) := by decide +kernel
theorem dX0_sizeOf_78 : decode cX0_sizeOf 78 = .ok (.bipush 13, 2) := by decide +kernel
theorem dX0_sizeOf_80 : decode cX0_sizeOf 80 = .ok (.invokevirtual 40, 3) := by decide +kernel
theorem dX0_sizeOf_83 : decode cX0_sizeOf 83 = .ok (.iconst 2, 1) := by decide +kernel
theorem dX0_sizeOf_84 : decode cX0_sizeOf 84 = .ok (.aload_n 0, 1) := by decide +kernel
theorem dX0_sizeOf_85 : decode cX0_sizeOf 85 = .ok (.iload_n 1, 1) := by decide +kernel
theorem dX0_sizeOf_86 : decode cX0_sizeOf 86 = .ok (.invokevirtual 44, 3) := by decide +kernel
theorem dX0_sizeOf_89 : decode cX0_sizeOf 89 = .ok (.imul, 1) := by decide +kernel
theorem dX0_sizeOf_90 : decode cX0_sizeOf 90 = .ok (.ireturn, 1) := by decide +kernel
theorem dX0_sizeOf_91 : decode cX0_sizeOf 91 = .ok (.aload_n 0, 1) := by decide +kernel
theorem dX0_sizeOf_92 : decode cX0_sizeOf 92 = .ok (.iload_n 1, 1) := by decide +kernel
theorem dX0_sizeOf_93 : decode cX0_sizeOf 93 = .ok (.invokevirtual 44, 3) := by decide +kernel
theorem dX0_sizeOf_96 : decode cX0_sizeOf 96 = .ok (.ireturn, 1) := by decide +kernel
theorem dX0_lentSize_0 : decode cX0_lentSize 0 = .ok (.aload_n 0, 1) := by decide +kernel
theorem dX0_lentSize_1 : decode cX0_lentSize 1 = .ok (.bipush 10, 2) := by decide +kernel
theorem dX0_lentSize_3 : decode cX0_lentSize 3 = .ok (.invokevirtual 40, 3) := by decide +kernel
theorem dX0_lentSize_6 : decode cX0_lentSize 6 = .ok (.aload_n 0, 1) := by decide +kernel
theorem dX0_lentSize_7 : decode cX0_lentSize 7 = .ok (.getfield 19, 3) := by decide +kernel
theorem dX0_lentSize_10 : decode cX0_lentSize 10 = .ok (.iload_n 1, 1) := by decide +kernel
theorem dX0_lentSize_11 : decode cX0_lentSize 11 = .ok (.invokevirtual 53, 3) := by decide +kernel
theorem dX0_lentSize_14 : decode cX0_lentSize 14 = .ok (.ireturn, 1) := by decide +kernel
theorem dX0_markOf_0 : decode cX0_markOf 0 = .ok (.aload_n 0, 1) := by decide +kernel
theorem dX0_markOf_1 : decode cX0_markOf 1 = .ok (.getfield 19, 3) := by decide +kernel
theorem dX0_markOf_4 : decode cX0_markOf 4 = .ok (.iload_n 1, 1) := by decide +kernel
theorem dX0_markOf_5 : decode cX0_markOf 5 = .ok (.invokevirtual 35, 3) := by decide +kernel
theorem dX0_markOf_8 : decode cX0_markOf 8 = .ok (.lookupswitch 61 #[(2, 28), (3, 46)], 28) := by decide +kernel
theorem dX0_markOf_36 : decode cX0_markOf 36 = .ok (.aload_n 0, 1) := by decide +kernel
theorem dX0_markOf_37 : decode cX0_markOf 37 = .ok (.bipush 21, 2) := by decide +kernel
theorem dX0_markOf_39 : decode cX0_markOf 39 = .ok (.invokevirtual 40, 3) := by decide +kernel
theorem dX0_markOf_42 : decode cX0_markOf 42 = .ok (.aload_n 0, 1) := by decide +kernel
theorem dX0_markOf_43 : decode cX0_markOf 43 = .ok (.iload_n 1, 1) := by decide +kernel
theorem dX0_markOf_44 : decode cX0_markOf 44 = .ok (.invokevirtual 56, 3) := by decide +kernel
theorem dX0_markOf_47 : decode cX0_markOf 47 = .ok (.aload_n 0, 1) := by decide +kernel
theorem dX0_markOf_48 : decode cX0_markOf 48 = .ok (.iload_n 1, 1) := by decide +kernel
theorem dX0_markOf_49 : decode cX0_markOf 49 = .ok (.invokevirtual 23, 3) := by decide +kernel
theorem dX0_markOf_52 : decode cX0_markOf 52 = .ok (.iadd, 1) := by decide +kernel
theorem dX0_markOf_53 : decode cX0_markOf 53 = .ok (.ireturn, 1) := by decide +kernel
theorem dX0_markOf_54 : decode cX0_markOf 54 = .ok (.aload_n 0, 1) := by decide +kernel
theorem dX0_markOf_55 : decode cX0_markOf 55 = .ok (.bipush 22, 2) := by decide +kernel
theorem dX0_markOf_57 : decode cX0_markOf 57 = .ok (.invokevirtual 40, 3) := by decide +kernel
theorem dX0_markOf_60 : decode cX0_markOf 60 = .ok (.aload_n 0, 1) := by decide +kernel
theorem dX0_markOf_61 : decode cX0_markOf 61 = .ok (.iload_n 1, 1) := by decide +kernel
theorem dX0_markOf_62 : decode cX0_markOf 62 = .ok (.invokevirtual 56, 3) := by decide +kernel
theorem dX0_markOf_65 : decode cX0_markOf 65 = .ok (.bipush 100, 2) := by decide +kernel
theorem dX0_markOf_67 : decode cX0_markOf 67 = .ok (.iadd, 1) := by decide +kernel
theorem dX0_markOf_68 : decode cX0_markOf 68 = .ok (.ireturn, 1) := by decide +kernel
theorem dX0_markOf_69 : decode cX0_markOf 69 = .ok (.aload_n 0, 1) := by decide +kernel
theorem dX0_markOf_70 : decode cX0_markOf 70 = .ok (.iload_n 1, 1) := by decide +kernel
theorem dX0_markOf_71 : decode cX0_markOf 71 = .ok (.invokevirtual 56, 3) := by decide +kernel
theorem dX0_markOf_74 : decode cX0_markOf 74 = .ok (.ireturn, 1) := by decide +kernel
theorem dX0_lentMark_0 : decode cX0_lentMark 0 = .ok (.aload_n 0, 1) := by decide +kernel
theorem dX0_lentMark_1 : decode cX0_lentMark 1 = .ok (.bipush 20, 2) := by decide +kernel
theorem dX0_lentMark_3 : decode cX0_lentMark 3 = .ok (.invokevirtual 40, 3) := by decide +kernel
theorem dX0_lentMark_6 : decode cX0_lentMark 6 = .ok (.aload_n 0, 1) := by decide +kernel
theorem dX0_lentMark_7 : decode cX0_lentMark 7 = .ok (.getfield 19, 3) := by decide +kernel
theorem dX0_lentMark_10 : decode cX0_lentMark 10 = .ok (.iload_n 1, 1) := by decide +kernel
theorem dX0_lentMark_11 : decode cX0_lentMark 11 = .ok (.invokevirtual 59, 3) := by decide +kernel
theorem dX0_lentMark_14 : decode cX0_lentMark 14 = .ok (.ireturn, 1) := by decide +kernel
theorem dX1_init_0 : decode cX1_init 0 = .ok (.aload_n 0, 1) := by decide +kernel
theorem dX1_init_1 : decode cX1_init 1 = .ok (.invokespecial 3, 3) := by decide +kernel
theorem dX1_init_4 : decode cX1_init 4 = .ok (.aload_n 0, 1) := by decide +kernel
theorem dX1_init_5 : decode cX1_init 5 = .ok (.bipush 30, 2) := by decide +kernel
theorem dX1_init_7 : decode cX1_init 7 = .ok (.newarray .long, 2) := by decide +kernel
theorem dX1_init_9 : decode cX1_init 9 = .ok (.putfield 9, 3) := by decide +kernel
theorem dX1_init_12 : decode cX1_init 12 = .ok (.aload_n 0, 1) := by decide +kernel
theorem dX1_init_13 : decode cX1_init 13 = .ok (.bipush 30, 2) := by decide +kernel
theorem dX1_init_15 : decode cX1_init 15 = .ok (.newarray .int, 2) := by decide +kernel
theorem dX1_init_17 : decode cX1_init 17 = .ok (.putfield 15, 3) := by decide +kernel
theorem dX1_init_20 : decode cX1_init 20 = .ok (.aload_n 0, 1) := by decide +kernel
theorem dX1_init_21 : decode cX1_init 21 = .ok (.iconst 0, 1) := by decide +kernel
theorem dX1_init_22 : decode cX1_init 22 = .ok (.putfield 19, 3) := by decide +kernel
theorem dX1_init_25 : decode cX1_init 25 = .ok (.return_, 1) := by decide +kernel
theorem dX1_clear_0 : decode cX1_clear 0 = .ok (.aload_n 0, 1) := by decide +kernel
theorem dX1_clear_1 : decode cX1_clear 1 = .ok (.iconst 0, 1) := by decide +kernel
theorem dX1_clear_2 : decode cX1_clear 2 = .ok (.putfield 19, 3) := by decide +kernel
theorem dX1_clear_5 : decode cX1_clear 5 = .ok (.return_, 1) := by decide +kernel
theorem dX1_put_0 : decode cX1_put 0 = .ok (.aload_n 0, 1) := by decide +kernel
theorem dX1_put_1 : decode cX1_put 1 = .ok (.getfield 19, 3) := by decide +kernel
theorem dX1_put_4 : decode cX1_put 4 = .ok (.bipush 30, 2) := by decide +kernel
theorem dX1_put_6 : decode cX1_put 6 = .ok (.if_icmp .ge 33, 3) := by decide +kernel
theorem dX1_put_9 : decode cX1_put 9 = .ok (.aload_n 0, 1) := by decide +kernel
theorem dX1_put_10 : decode cX1_put 10 = .ok (.getfield 9, 3) := by decide +kernel
theorem dX1_put_13 : decode cX1_put 13 = .ok (.aload_n 0, 1) := by decide +kernel
theorem dX1_put_14 : decode cX1_put 14 = .ok (.getfield 19, 3) := by decide +kernel
theorem dX1_put_17 : decode cX1_put 17 = .ok (.lload_n 1, 1) := by decide +kernel
theorem dX1_put_18 : decode cX1_put 18 = .ok (.lastore, 1) := by decide +kernel
theorem dX1_put_19 : decode cX1_put 19 = .ok (.aload_n 0, 1) := by decide +kernel
theorem dX1_put_20 : decode cX1_put 20 = .ok (.getfield 15, 3) := by decide +kernel
theorem dX1_put_23 : decode cX1_put 23 = .ok (.aload_n 0, 1) := by decide +kernel
theorem dX1_put_24 : decode cX1_put 24 = .ok (.getfield 19, 3) := by decide +kernel
theorem dX1_put_27 : decode cX1_put 27 = .ok (.iload_n 3, 1) := by decide +kernel
theorem dX1_put_28 : decode cX1_put 28 = .ok (.iastore, 1) := by decide +kernel
theorem dX1_put_29 : decode cX1_put 29 = .ok (.aload_n 0, 1) := by decide +kernel
theorem dX1_put_30 : decode cX1_put 30 = .ok (.dup, 1) := by decide +kernel
theorem dX1_put_31 : decode cX1_put 31 = .ok (.getfield 19, 3) := by decide +kernel
theorem dX1_put_34 : decode cX1_put 34 = .ok (.iconst 1, 1) := by decide +kernel
theorem dX1_put_35 : decode cX1_put 35 = .ok (.iadd, 1) := by decide +kernel
theorem dX1_put_36 : decode cX1_put 36 = .ok (.putfield 19, 3) := by decide +kernel
theorem dX1_put_39 : decode cX1_put 39 = .ok (.return_, 1) := by decide +kernel
theorem dX1_has_0 : decode cX1_has 0 = .ok (.aload_n 0, 1) := by decide +kernel
theorem dX1_has_1 : decode cX1_has 1 = .ok (.lload_n 1, 1) := by decide +kernel
theorem dX1_has_2 : decode cX1_has 2 = .ok (.invokevirtual 23, 3) := by decide +kernel
theorem dX1_has_5 : decode cX1_has 5 = .ok (.ifCond .lt 7, 3) := by decide +kernel
theorem dX1_has_8 : decode cX1_has 8 = .ok (.iconst 1, 1) := by decide +kernel
theorem dX1_has_9 : decode cX1_has 9 = .ok (.goto 4, 3) := by decide +kernel
theorem dX1_has_12 : decode cX1_has 12 = .ok (.iconst 0, 1) := by decide +kernel
theorem dX1_has_13 : decode cX1_has 13 = .ok (.ireturn, 1) := by decide +kernel
theorem dX1_find_0 : decode cX1_find 0 = .ok (.iconst 0, 1) := by decide +kernel
theorem dX1_find_1 : decode cX1_find 1 = .ok (.istore_n 3, 1) := by decide +kernel
theorem dX1_find_2 : decode cX1_find 2 = .ok (.iload_n 3, 1) := by decide +kernel
theorem dX1_find_3 : decode cX1_find 3 = .ok (.aload_n 0, 1) := by decide +kernel
theorem dX1_find_4 : decode cX1_find 4 = .ok (.getfield 19, 3) := by decide +kernel
theorem dX1_find_7 : decode cX1_find 7 = .ok (.if_icmp .ge 28, 3) := by decide +kernel
theorem dX1_find_10 : decode cX1_find 10 = .ok (.iload_n 3, 1) := by decide +kernel
theorem dX1_find_11 : decode cX1_find 11 = .ok (.bipush 30, 2) := by decide +kernel
theorem dX1_find_13 : decode cX1_find 13 = .ok (.if_icmp .ge 22, 3) := by decide +kernel
theorem dX1_find_16 : decode cX1_find 16 = .ok (.aload_n 0, 1) := by decide +kernel
theorem dX1_find_17 : decode cX1_find 17 = .ok (.getfield 9, 3) := by decide +kernel
theorem dX1_find_20 : decode cX1_find 20 = .ok (.iload_n 3, 1) := by decide +kernel
theorem dX1_find_21 : decode cX1_find 21 = .ok (.laload, 1) := by decide +kernel
theorem dX1_find_22 : decode cX1_find 22 = .ok (.lload_n 1, 1) := by decide +kernel
theorem dX1_find_23 : decode cX1_find 23 = .ok (.lcmp, 1) := by decide +kernel
theorem dX1_find_24 : decode cX1_find 24 = .ok (.ifCond .ne 5, 3) := by decide +kernel
theorem dX1_find_27 : decode cX1_find 27 = .ok (.iload_n 3, 1) := by decide +kernel
theorem dX1_find_28 : decode cX1_find 28 = .ok (.ireturn, 1) := by decide +kernel
theorem dX1_find_29 : decode cX1_find 29 = .ok (.iinc 3 1, 3) := by decide +kernel
theorem dX1_find_32 : decode cX1_find 32 = .ok (.goto (-30), 3) := by decide +kernel
theorem dX1_find_35 : decode cX1_find 35 = .ok (.iconst (-1), 1) := by decide +kernel
theorem dX1_find_36 : decode cX1_find 36 = .ok (.ireturn, 1) := by decide +kernel
theorem dX1_moveAt_0 : decode cX1_moveAt 0 = .ok (.aload_n 1, 1) := by decide +kernel
theorem dX1_moveAt_1 : decode cX1_moveAt 1 = .ok (.iload_n 2, 1) := by decide +kernel
theorem dX1_moveAt_2 : decode cX1_moveAt 2 = .ok (.iload_n 3, 1) := by decide +kernel
theorem dX1_moveAt_3 : decode cX1_moveAt 3 = .ok (.iconst 1, 1) := by decide +kernel
theorem dX1_moveAt_4 : decode cX1_moveAt 4 = .ok (.invokevirtual 27, 3) := by decide +kernel
theorem dX1_moveAt_7 : decode cX1_moveAt 7 = .ok (.lstore 4, 2) := by decide +kernel
theorem dX1_moveAt_9 : decode cX1_moveAt 9 = .ok (.aload_n 1, 1) := by decide +kernel
theorem dX1_moveAt_10 : decode cX1_moveAt 10 = .ok (.iload_n 2, 1) := by decide +kernel
theorem dX1_moveAt_11 : decode cX1_moveAt 11 = .ok (.iload_n 3, 1) := by decide +kernel
theorem dX1_moveAt_12 : decode cX1_moveAt 12 = .ok (.iconst (-1), 1) := by decide +kernel
theorem dX1_moveAt_13 : decode cX1_moveAt 13 = .ok (.invokevirtual 27, 3) := by decide +kernel
theorem dX1_moveAt_16 : decode cX1_moveAt 16 = .ok (.lstore 6, 2) := by decide +kernel
theorem dX1_moveAt_18 : decode cX1_moveAt 18 = .ok (.aload_n 0, 1) := by decide +kernel
theorem dX1_moveAt_19 : decode cX1_moveAt 19 = .ok (.lload 4, 2) := by decide +kernel
theorem dX1_moveAt_21 : decode cX1_moveAt 21 = .ok (.lload 6, 2) := by decide +kernel
theorem dX1_moveAt_23 : decode cX1_moveAt 23 = .ok (.invokestatic 33, 3) := by decide +kernel
theorem dX1_moveAt_26 : decode cX1_moveAt 26 = .ok (.invokevirtual 23, 3) := by decide +kernel
theorem dX1_moveAt_29 : decode cX1_moveAt 29 = .ok (.istore 8, 2) := by decide +kernel
theorem dX1_moveAt_31 : decode cX1_moveAt 31 = .ok (.iload 8, 2) := by decide +kernel
theorem dX1_moveAt_33 : decode cX1_moveAt 33 = .ok (.bipush 30, 2) := by decide +kernel
theorem dX1_moveAt_35 : decode cX1_moveAt 35 = .ok (.invokestatic 39, 3) := by decide +kernel
theorem dX1_moveAt_38 : decode cX1_moveAt 38 = .ok (.ifCond .eq 7, 3) := by decide +kernel
theorem dX1_moveAt_41 : decode cX1_moveAt 41 = .ok (.iconst 0, 1) := by decide +kernel
theorem dX1_moveAt_42 : decode cX1_moveAt 42 = .ok (.goto 10, 3) := by decide +kernel
theorem dX1_moveAt_45 : decode cX1_moveAt 45 = .ok (.aload_n 0, 1) := by decide +kernel
theorem dX1_moveAt_46 : decode cX1_moveAt 46 = .ok (.getfield 15, 3) := by decide +kernel
theorem dX1_moveAt_49 : decode cX1_moveAt 49 = .ok (.iload 8, 2) := by decide +kernel
theorem dX1_moveAt_51 : decode cX1_moveAt 51 = .ok (.iaload, 1) := by decide +kernel
theorem dX1_moveAt_52 : decode cX1_moveAt 52 = .ok (.istore 9, 2) := by decide +kernel
theorem dX1_moveAt_54 : decode cX1_moveAt 54 = .ok (.iload 9, 2) := by decide +kernel
theorem dX1_moveAt_56 : decode cX1_moveAt 56 = .ok (.ifCond .ne 5, 3) := by decide +kernel
theorem dX1_moveAt_59 : decode cX1_moveAt 59 = .ok (.iconst 0, 1) := by decide +kernel
theorem dX1_moveAt_60 : decode cX1_moveAt 60 = .ok (.ireturn, 1) := by decide +kernel
theorem dX1_moveAt_61 : decode cX1_moveAt 61 = .ok (.lload 4, 2) := by decide +kernel
theorem dX1_moveAt_63 : decode cX1_moveAt 63 = .ok (.lload 6, 2) := by decide +kernel
theorem dX1_moveAt_65 : decode cX1_moveAt 65 = .ok (.lcmp, 1) := by decide +kernel
theorem dX1_moveAt_66 : decode cX1_moveAt 66 = .ok (.ifCond .ne 5, 3) := by decide +kernel
theorem dX1_moveAt_69 : decode cX1_moveAt 69 = .ok (.iconst 2, 1) := by decide +kernel
theorem dX1_moveAt_70 : decode cX1_moveAt 70 = .ok (.ireturn, 1) := by decide +kernel
theorem dX1_moveAt_71 : decode cX1_moveAt 71 = .ok (.lload 4, 2) := by decide +kernel
theorem dX1_moveAt_73 : decode cX1_moveAt 73 = .ok (.lload 6, 2) := by decide +kernel
theorem dX1_moveAt_75 : decode cX1_moveAt 75 = .ok (.lcmp, 1) := by decide +kernel
theorem dX1_moveAt_76 : decode cX1_moveAt 76 = .ok (.ifCond .ge 7, 3) := by decide +kernel
theorem dX1_moveAt_79 : decode cX1_moveAt 79 = .ok (.iconst 1, 1) := by decide +kernel
theorem dX1_moveAt_80 : decode cX1_moveAt 80 = .ok (.goto 4, 3) := by decide +kernel
theorem dX1_moveAt_83 : decode cX1_moveAt 83 = .ok (.iconst 0, 1) := by decide +kernel
theorem dX1_moveAt_84 : decode cX1_moveAt 84 = .ok (.iload 9, 2) := by decide +kernel
theorem dX1_moveAt_86 : decode cX1_moveAt 86 = .ok (.iconst 1, 1) := by decide +kernel
theorem dX1_moveAt_87 : decode cX1_moveAt 87 = .ok (.if_icmp .ne 7, 3) := by decide +kernel
theorem dX1_moveAt_90 : decode cX1_moveAt 90 = .ok (.iconst 1, 1) := by decide +kernel
theorem dX1_moveAt_91 : decode cX1_moveAt 91 = .ok (.goto 4, 3) := by decide +kernel
theorem dX1_moveAt_94 : decode cX1_moveAt 94 = .ok (.iconst 0, 1) := by decide +kernel
theorem dX1_moveAt_95 : decode cX1_moveAt 95 = .ok (.if_icmp .ne 7, 3) := by decide +kernel
theorem dX1_moveAt_98 : decode cX1_moveAt 98 = .ok (.iconst 1, 1) := by decide +kernel
theorem dX1_moveAt_99 : decode cX1_moveAt 99 = .ok (.goto 4, 3) := by decide +kernel
theorem dX1_moveAt_102 : decode cX1_moveAt 102 = .ok (.iconst (-1), 1) := by decide +kernel
theorem dX1_moveAt_103 : decode cX1_moveAt 103 = .ok (.ireturn, 1) := by decide +kernel
theorem dX2_init_0 : decode cX2_init 0 = .ok (.aload_n 0, 1) := by decide +kernel
theorem dX2_init_1 : decode cX2_init 1 = .ok (.invokespecial 3, 3) := by decide +kernel
theorem dX2_init_4 : decode cX2_init 4 = .ok (.aload_n 0, 1) := by decide +kernel
theorem dX2_init_5 : decode cX2_init 5 = .ok (.iconst 0, 1) := by decide +kernel
theorem dX2_init_6 : decode cX2_init 6 = .ok (.putfield 11, 3) := by decide +kernel
theorem dX2_init_9 : decode cX2_init 9 = .ok (.aload_n 0, 1) := by decide +kernel
theorem dX2_init_10 : decode cX2_init 10 = .ok (.iconst 0, 1) := by decide +kernel
theorem dX2_init_11 : decode cX2_init 11 = .ok (.putfield 15, 3) := by decide +kernel
theorem dX2_init_14 : decode cX2_init 14 = .ok (.aload_n 0, 1) := by decide +kernel
theorem dX2_init_15 : decode cX2_init 15 = .ok (.iconst 0, 1) := by decide +kernel
theorem dX2_init_16 : decode cX2_init 16 = .ok (.putfield 18, 3) := by decide +kernel
theorem dX2_init_19 : decode cX2_init 19 = .ok (.aload_n 0, 1) := by decide +kernel
theorem dX2_init_20 : decode cX2_init 20 = .ok (.lconst 0, 1) := by decide +kernel
theorem dX2_init_21 : decode cX2_init 21 = .ok (.putfield 21, 3) := by decide +kernel
theorem dX2_init_24 : decode cX2_init 24 = .ok (.aload_n 0, 1) := by decide +kernel
theorem dX2_init_25 : decode cX2_init 25 = .ok (.aload_n 1, 1) := by decide +kernel
theorem dX2_init_26 : decode cX2_init 26 = .ok (.putfield 25, 3) := by decide +kernel
theorem dX2_init_29 : decode cX2_init 29 = .ok (.return_, 1) := by decide +kernel
theorem dX2_read_0 : decode cX2_read 0 = .ok (.aload_n 1, 1) := by decide +kernel
theorem dX2_read_1 : decode cX2_read 1 = .ok (.invokevirtual 29, 3) := by decide +kernel
theorem dX2_read_4 : decode cX2_read 4 = .ok (.aload_n 0, 1) := by decide +kernel
theorem dX2_read_5 : decode cX2_read 5 = .ok (.getfield 25, 3) := by decide +kernel
theorem dX2_read_8 : decode cX2_read 8 = .ok (.invokevirtual 34, 3) := by decide +kernel
theorem dX2_read_11 : decode cX2_read 11 = .ok (.aload_n 0, 1) := by decide +kernel
theorem dX2_read_12 : decode cX2_read 12 = .ok (.iconst 0, 1) := by decide +kernel
theorem dX2_read_13 : decode cX2_read 13 = .ok (.putfield 11, 3) := by decide +kernel
theorem dX2_read_16 : decode cX2_read 16 = .ok (.aload_n 0, 1) := by decide +kernel
theorem dX2_read_17 : decode cX2_read 17 = .ok (.iconst 0, 1) := by decide +kernel
theorem dX2_read_18 : decode cX2_read 18 = .ok (.putfield 18, 3) := by decide +kernel
theorem dX2_read_21 : decode cX2_read 21 = .ok (.iconst 0, 1) := by decide +kernel
theorem dX2_read_22 : decode cX2_read 22 = .ok (.istore_n 2, 1) := by decide +kernel
theorem dX2_read_23 : decode cX2_read 23 = .ok (.iload_n 2, 1) := by decide +kernel
theorem dX2_read_24 : decode cX2_read 24 = .ok (.sipush 400, 3) := by decide +kernel
theorem dX2_read_27 : decode cX2_read 27 = .ok (.if_icmp .gt 44, 3) := by decide +kernel
theorem dX2_read_30 : decode cX2_read 30 = .ok (.aload_n 0, 1) := by decide +kernel
theorem dX2_read_31 : decode cX2_read 31 = .ok (.getfield 25, 3) := by decide +kernel
theorem dX2_read_34 : decode cX2_read 34 = .ok (.invokevirtual 39, 3) := by decide +kernel
theorem dX2_read_37 : decode cX2_read 37 = .ok (.aload_n 0, 1) := by decide +kernel
theorem dX2_read_38 : decode cX2_read 38 = .ok (.aload_n 1, 1) := by decide +kernel
theorem dX2_read_39 : decode cX2_read 39 = .ok (.invokevirtual 42, 3) := by decide +kernel
theorem dX2_read_42 : decode cX2_read 42 = .ok (.istore_n 3, 1) := by decide +kernel
theorem dX2_read_43 : decode cX2_read 43 = .ok (.iload_n 3, 1) := by decide +kernel
theorem dX2_read_44 : decode cX2_read 44 = .ok (.ifCond .ne 14, 3) := by decide +kernel
theorem dX2_read_47 : decode cX2_read 47 = .ok (.aload_n 0, 1) := by decide +kernel
theorem dX2_read_48 : decode cX2_read 48 = .ok (.getfield 25, 3) := by decide +kernel
theorem dX2_read_51 : decode cX2_read 51 = .ok (.getfield 46, 3) := by decide +kernel
theorem dX2_read_54 : decode cX2_read 54 = .ok (.iconst 1, 1) := by decide +kernel
theorem dX2_read_55 : decode cX2_read 55 = .ok (.if_icmp .ne 5, 3) := by decide +kernel
theorem dX2_read_58 : decode cX2_read 58 = .ok (.iload_n 3, 1) := by decide +kernel
theorem dX2_read_59 : decode cX2_read 59 = .ok (.ireturn, 1) := by decide +kernel
theorem dX2_read_60 : decode cX2_read 60 = .ok (.aload_n 0, 1) := by decide +kernel
theorem dX2_read_61 : decode cX2_read 61 = .ok (.aload_n 1, 1) := by decide +kernel
theorem dX2_read_62 : decode cX2_read 62 = .ok (.invokevirtual 49, 3) := by decide +kernel
theorem dX2_read_65 : decode cX2_read 65 = .ok (.iinc 2 1, 3) := by decide +kernel
theorem dX2_read_68 : decode cX2_read 68 = .ok (.goto (-45), 3) := by decide +kernel
theorem dX2_read_71 : decode cX2_read 71 = .ok (.iconst 0, 1) := by decide +kernel
theorem dX2_read_72 : decode cX2_read 72 = .ok (.ireturn, 1) := by decide +kernel
theorem dX2_faultAgainst_0 : decode cX2_faultAgainst 0 = .ok (.aload_n 0, 1) := by decide +kernel
theorem dX2_faultAgainst_1 : decode cX2_faultAgainst 1 = .ok (.invokevirtual 53, 3) := by decide +kernel
theorem dX2_faultAgainst_4 : decode cX2_faultAgainst 4 = .ok (.ifCond .ne 5, 3) := by decide +kernel
theorem dX2_faultAgainst_7 : decode cX2_faultAgainst 7 = .ok (.iconst 1, 1) := by decide +kernel
theorem dX2_faultAgainst_8 : decode cX2_faultAgainst 8 = .ok (.ireturn, 1) := by decide +kernel
theorem dX2_faultAgainst_9 : decode cX2_faultAgainst 9 = .ok (.aload_n 0, 1) := by decide +kernel
theorem dX2_faultAgainst_10 : decode cX2_faultAgainst 10 = .ok (.getfield 25, 3) := by decide +kernel
theorem dX2_faultAgainst_13 : decode cX2_faultAgainst 13 = .ok (.getfield 46, 3) := by decide +kernel
theorem dX2_faultAgainst_16 : decode cX2_faultAgainst 16 = .ok (.iconst 2, 1) := by decide +kernel
theorem dX2_faultAgainst_17 : decode cX2_faultAgainst 17 = .ok (.if_icmp .ne 15, 3) := by decide +kernel
theorem dX2_faultAgainst_20 : decode cX2_faultAgainst 20 = .ok (.aload_n 0, 1) := by decide +kernel
theorem dX2_faultAgainst_21 : decode cX2_faultAgainst 21 = .ok (.getfield 25, 3) := by decide +kernel
theorem dX2_faultAgainst_24 : decode cX2_faultAgainst 24 = .ok (.getfield 57, 3) := by decide +kernel
theorem dX2_faultAgainst_27 : decode cX2_faultAgainst 27 = .ok (.ifCond .ne 5, 3) := by decide +kernel
theorem dX2_faultAgainst_30 : decode cX2_faultAgainst 30 = .ok (.iconst 2, 1) := by decide +kernel
theorem dX2_faultAgainst_31 : decode cX2_faultAgainst 31 = .ok (.ireturn, 1) := by decide +kernel
theorem dX2_faultAgainst_32 : decode cX2_faultAgainst 32 = .ok (.aload_n 0, 1) := by decide +kernel
theorem dX2_faultAgainst_33 : decode cX2_faultAgainst 33 = .ok (.aload_n 1, 1) := by decide +kernel
theorem dX2_faultAgainst_34 : decode cX2_faultAgainst 34 = .ok (.invokevirtual 60, 3) := by decide +kernel
theorem dX2_faultAgainst_37 : decode cX2_faultAgainst 37 = .ok (.ifCond .eq 7, 3) := by decide +kernel
theorem dX2_faultAgainst_40 : decode cX2_faultAgainst 40 = .ok (.iconst 3, 1) := by decide +kernel
theorem dX2_faultAgainst_41 : decode cX2_faultAgainst 41 = .ok (.goto 4, 3) := by decide +kernel
theorem dX2_faultAgainst_44 : decode cX2_faultAgainst 44 = .ok (.iconst 0, 1) := by decide +kernel
theorem dX2_faultAgainst_45 : decode cX2_faultAgainst 45 = .ok (.ireturn, 1) := by decide +kernel
theorem dX2_isPlaced_0 : decode cX2_isPlaced 0 = .ok (.aload_n 0, 1) := by decide +kernel
theorem dX2_isPlaced_1 : decode cX2_isPlaced 1 = .ok (.getfield 11, 3) := by decide +kernel
theorem dX2_isPlaced_4 : decode cX2_isPlaced 4 = .ok (.tableswitch 110 0 4 #[36, 110, 110, 64, 93], 36) := by decide +kernel
theorem dX2_isPlaced_40 : decode cX2_isPlaced 40 = .ok (.aload_n 0, 1) := by decide +kernel
theorem dX2_isPlaced_41 : decode cX2_isPlaced 41 = .ok (.getfield 25, 3) := by decide +kernel
theorem dX2_isPlaced_44 : decode cX2_isPlaced 44 = .ok (.getfield 46, 3) := by decide +kernel
theorem dX2_isPlaced_47 : decode cX2_isPlaced 47 = .ok (.iconst 5, 1) := by decide +kernel
theorem dX2_isPlaced_48 : decode cX2_isPlaced 48 = .ok (.if_icmp .eq 14, 3) := by decide +kernel
theorem dX2_isPlaced_51 : decode cX2_isPlaced 51 = .ok (.aload_n 0, 1) := by decide +kernel
theorem dX2_isPlaced_52 : decode cX2_isPlaced 52 = .ok (.getfield 25, 3) := by decide +kernel
theorem dX2_isPlaced_55 : decode cX2_isPlaced 55 = .ok (.getfield 46, 3) := by decide +kernel
theorem dX2_isPlaced_58 : decode cX2_isPlaced 58 = .ok (.iconst 1, 1) := by decide +kernel
theorem dX2_isPlaced_59 : decode cX2_isPlaced 59 = .ok (.if_icmp .ne 7, 3) := by decide +kernel
theorem dX2_isPlaced_62 : decode cX2_isPlaced 62 = .ok (.iconst 1, 1) := by decide +kernel
theorem dX2_isPlaced_63 : decode cX2_isPlaced 63 = .ok (.goto 4, 3) := by decide +kernel
theorem dX2_isPlaced_66 : decode cX2_isPlaced 66 = .ok (.iconst 0, 1) := by decide +kernel
theorem dX2_isPlaced_67 : decode cX2_isPlaced 67 = .ok (.ireturn, 1) := by decide +kernel
theorem dX2_isPlaced_68 : decode cX2_isPlaced 68 = .ok (.aload_n 0, 1) := by decide +kernel
theorem dX2_isPlaced_69 : decode cX2_isPlaced 69 = .ok (.getfield 25, 3) := by decide +kernel
theorem dX2_isPlaced_72 : decode cX2_isPlaced 72 = .ok (.getfield 46, 3) := by decide +kernel
theorem dX2_isPlaced_75 : decode cX2_isPlaced 75 = .ok (.iconst 3, 1) := by decide +kernel
theorem dX2_isPlaced_76 : decode cX2_isPlaced 76 = .ok (.if_icmp .eq 15, 3) := by decide +kernel
theorem dX2_isPlaced_79 : decode cX2_isPlaced 79 = .ok (.aload_n 0, 1) := by decide +kernel
theorem dX2_isPlaced_80 : decode cX2_isPlaced 80 = .ok (.getfield 25, 3) := by decide +kernel
theorem dX2_isPlaced_83 : decode cX2_isPlaced 83 = .ok (.getfield 46, 3) := by decide +kernel
theorem dX2_isPlaced_86 : decode cX2_isPlaced 86 = .ok (.bipush 6, 2) := by decide +kernel
theorem dX2_isPlaced_88 : decode cX2_isPlaced 88 = .ok (.if_icmp .ne 7, 3) := by decide +kernel
theorem dX2_isPlaced_91 : decode cX2_isPlaced 91 = .ok (.iconst 1, 1) := by decide +kernel
theorem dX2_isPlaced_92 : decode cX2_isPlaced 92 = .ok (.goto 4, 3) := by decide +kernel
theorem dX2_isPlaced_95 : decode cX2_isPlaced 95 = .ok (.iconst 0, 1) := by decide +kernel
theorem dX2_isPlaced_96 : decode cX2_isPlaced 96 = .ok (.ireturn, 1) := by decide +kernel
theorem dX2_isPlaced_97 : decode cX2_isPlaced 97 = .ok (.aload_n 0, 1) := by decide +kernel
theorem dX2_isPlaced_98 : decode cX2_isPlaced 98 = .ok (.getfield 25, 3) := by decide +kernel
theorem dX2_isPlaced_101 : decode cX2_isPlaced 101 = .ok (.getfield 46, 3) := by decide +kernel
theorem dX2_isPlaced_104 : decode cX2_isPlaced 104 = .ok (.iconst 4, 1) := by decide +kernel
theorem dX2_isPlaced_105 : decode cX2_isPlaced 105 = .ok (.if_icmp .ne 7, 3) := by decide +kernel
theorem dX2_isPlaced_108 : decode cX2_isPlaced 108 = .ok (.iconst 1, 1) := by decide +kernel
theorem dX2_isPlaced_109 : decode cX2_isPlaced 109 = .ok (.goto 4, 3) := by decide +kernel
theorem dX2_isPlaced_112 : decode cX2_isPlaced 112 = .ok (.iconst 0, 1) := by decide +kernel
theorem dX2_isPlaced_113 : decode cX2_isPlaced 113 = .ok (.ireturn, 1) := by decide +kernel
theorem dX2_isPlaced_114 : decode cX2_isPlaced 114 = .ok (.aload_n 0, 1) := by decide +kernel
theorem dX2_isPlaced_115 : decode cX2_isPlaced 115 = .ok (.getfield 25, 3) := by decide +kernel
theorem dX2_isPlaced_118 : decode cX2_isPlaced 118 = .ok (.getfield 46, 3) := by decide +kernel
theorem dX2_isPlaced_121 : decode cX2_isPlaced 121 = .ok (.iconst 2, 1) := by decide +kernel
theorem dX2_isPlaced_122 : decode cX2_isPlaced 122 = .ok (.if_icmp .ne 7, 3) := by decide +kernel
theorem dX2_isPlaced_125 : decode cX2_isPlaced 125 = .ok (.iconst 1, 1) := by decide +kernel
theorem dX2_isPlaced_126 : decode cX2_isPlaced 126 = .ok (.goto 4, 3) := by decide +kernel
theorem dX2_isPlaced_129 : decode cX2_isPlaced 129 = .ok (.iconst 0, 1) := by decide +kernel
theorem dX2_isPlaced_130 : decode cX2_isPlaced 130 = .ok (.ireturn, 1) := by decide +kernel
theorem dX2_isTooMuch_0 : decode cX2_isTooMuch 0 = .ok (.aload_n 0, 1) := by decide +kernel
theorem dX2_isTooMuch_1 : decode cX2_isTooMuch 1 = .ok (.getfield 25, 3) := by decide +kernel
theorem dX2_isTooMuch_4 : decode cX2_isTooMuch 4 = .ok (.getfield 46, 3) := by decide +kernel
theorem dX2_isTooMuch_7 : decode cX2_isTooMuch 7 = .ok (.tableswitch 67 3 6 #[29, 67, 43, 58], 29) := by decide +kernel
theorem dX2_isTooMuch_36 : decode cX2_isTooMuch 36 = .ok (.aload_n 0, 1) := by decide +kernel
theorem dX2_isTooMuch_37 : decode cX2_isTooMuch 37 = .ok (.getfield 15, 3) := by decide +kernel
theorem dX2_isTooMuch_40 : decode cX2_isTooMuch 40 = .ok (.iconst 4, 1) := by decide +kernel
theorem dX2_isTooMuch_41 : decode cX2_isTooMuch 41 = .ok (.if_icmp .lt 7, 3) := by decide +kernel
theorem dX2_isTooMuch_44 : decode cX2_isTooMuch 44 = .ok (.iconst 1, 1) := by decide +kernel
theorem dX2_isTooMuch_45 : decode cX2_isTooMuch 45 = .ok (.goto 4, 3) := by decide +kernel
theorem dX2_isTooMuch_48 : decode cX2_isTooMuch 48 = .ok (.iconst 0, 1) := by decide +kernel
theorem dX2_isTooMuch_49 : decode cX2_isTooMuch 49 = .ok (.ireturn, 1) := by decide +kernel
theorem dX2_isTooMuch_50 : decode cX2_isTooMuch 50 = .ok (.aload_n 0, 1) := by decide +kernel
theorem dX2_isTooMuch_51 : decode cX2_isTooMuch 51 = .ok (.getfield 18, 3) := by decide +kernel
theorem dX2_isTooMuch_54 : decode cX2_isTooMuch 54 = .ok (.bipush 30, 2) := by decide +kernel
theorem dX2_isTooMuch_56 : decode cX2_isTooMuch 56 = .ok (.if_icmp .lt 7, 3) := by decide +kernel
theorem dX2_isTooMuch_59 : decode cX2_isTooMuch 59 = .ok (.iconst 1, 1) := by decide +kernel
theorem dX2_isTooMuch_60 : decode cX2_isTooMuch 60 = .ok (.goto 4, 3) := by decide +kernel
theorem dX2_isTooMuch_63 : decode cX2_isTooMuch 63 = .ok (.iconst 0, 1) := by decide +kernel
theorem dX2_isTooMuch_64 : decode cX2_isTooMuch 64 = .ok (.ireturn, 1) := by decide +kernel
theorem dX2_isTooMuch_65 : decode cX2_isTooMuch 65 = .ok (.aload_n 1, 1) := by decide +kernel
theorem dX2_isTooMuch_66 : decode cX2_isTooMuch 66 = .ok (.aload_n 0, 1) := by decide +kernel
theorem dX2_isTooMuch_67 : decode cX2_isTooMuch 67 = .ok (.getfield 21, 3) := by decide +kernel
theorem dX2_isTooMuch_70 : decode cX2_isTooMuch 70 = .ok (.invokevirtual 64, 3) := by decide +kernel
theorem dX2_isTooMuch_73 : decode cX2_isTooMuch 73 = .ok (.ireturn, 1) := by decide +kernel
theorem dX2_isTooMuch_74 : decode cX2_isTooMuch 74 = .ok (.iconst 0, 1) := by decide +kernel
theorem dX2_isTooMuch_75 : decode cX2_isTooMuch 75 = .ok (.ireturn, 1) := by decide +kernel
theorem dX2_take_0 : decode cX2_take 0 = .ok (.aload_n 0, 1) := by decide +kernel
theorem dX2_take_1 : decode cX2_take 1 = .ok (.getfield 25, 3) := by decide +kernel
theorem dX2_take_4 : decode cX2_take 4 = .ok (.getfield 46, 3) := by decide +kernel
theorem dX2_take_7 : decode cX2_take 7 = .ok (.tableswitch 99 2 6 #[61, 68, 99, 33, 76], 33) := by decide +kernel
theorem dX2_take_40 : decode cX2_take 40 = .ok (.aload_n 0, 1) := by decide +kernel
theorem dX2_take_41 : decode cX2_take 41 = .ok (.dup, 1) := by decide +kernel
theorem dX2_take_42 : decode cX2_take 42 = .ok (.getfield 18, 3) := by decide +kernel
theorem dX2_take_45 : decode cX2_take 45 = .ok (.iconst 1, 1) := by decide +kernel
theorem dX2_take_46 : decode cX2_take 46 = .ok (.iadd, 1) := by decide +kernel
theorem dX2_take_47 : decode cX2_take 47 = .ok (.putfield 18, 3) := by decide +kernel
theorem dX2_take_50 : decode cX2_take 50 = .ok (.aload_n 0, 1) := by decide +kernel
theorem dX2_take_51 : decode cX2_take 51 = .ok (.iconst 0, 1) := by decide +kernel
theorem dX2_take_52 : decode cX2_take 52 = .ok (.putfield 15, 3) := by decide +kernel
theorem dX2_take_55 : decode cX2_take 55 = .ok (.aload_n 0, 1) := by decide +kernel
theorem dX2_take_56 : decode cX2_take 56 = .ok (.lconst 0, 1) := by decide +kernel
theorem dX2_take_57 : decode cX2_take 57 = .ok (.putfield 21, 3) := by decide +kernel
theorem dX2_take_60 : decode cX2_take 60 = .ok (.aload_n 0, 1) := by decide +kernel
theorem dX2_take_61 : decode cX2_take 61 = .ok (.iconst 1, 1) := by decide +kernel
theorem dX2_take_62 : decode cX2_take 62 = .ok (.putfield 11, 3) := by decide +kernel
theorem dX2_take_65 : decode cX2_take 65 = .ok (.goto 46, 3) := by decide +kernel
theorem dX2_take_68 : decode cX2_take 68 = .ok (.aload_n 0, 1) := by decide +kernel
theorem dX2_take_69 : decode cX2_take 69 = .ok (.invokevirtual 68, 3) := by decide +kernel
theorem dX2_take_72 : decode cX2_take 72 = .ok (.goto 39, 3) := by decide +kernel
theorem dX2_take_75 : decode cX2_take 75 = .ok (.aload_n 0, 1) := by decide +kernel
theorem dX2_take_76 : decode cX2_take 76 = .ok (.iconst 1, 1) := by decide +kernel
theorem dX2_take_77 : decode cX2_take 77 = .ok (.putfield 11, 3) := by decide +kernel
theorem dX2_take_80 : decode cX2_take 80 = .ok (.goto 31, 3) := by decide +kernel
theorem dX2_take_83 : decode cX2_take 83 = .ok (.aload_n 1, 1) := by decide +kernel
theorem dX2_take_84 : decode cX2_take 84 = .ok (.aload_n 0, 1) := by decide +kernel
theorem dX2_take_85 : decode cX2_take 85 = .ok (.getfield 21, 3) := by decide +kernel
theorem dX2_take_88 : decode cX2_take 88 = .ok (.aload_n 0, 1) := by decide +kernel
theorem dX2_take_89 : decode cX2_take 89 = .ok (.getfield 25, 3) := by decide +kernel
theorem dX2_take_92 : decode cX2_take 92 = .ok (.getfield 57, 3) := by decide +kernel
theorem dX2_take_95 : decode cX2_take 95 = .ok (.invokevirtual 71, 3) := by decide +kernel
theorem dX2_take_98 : decode cX2_take 98 = .ok (.aload_n 0, 1) := by decide +kernel
theorem dX2_take_99 : decode cX2_take 99 = .ok (.iconst 4, 1) := by decide +kernel
theorem dX2_take_100 : decode cX2_take 100 = .ok (.putfield 11, 3) := by decide +kernel
theorem dX2_take_103 : decode cX2_take 103 = .ok (.goto 8, 3) := by decide +kernel
theorem dX2_take_106 : decode cX2_take 106 = .ok (.aload_n 0, 1) := by decide +kernel
theorem dX2_take_107 : decode cX2_take 107 = .ok (.iconst 0, 1) := by decide +kernel
theorem dX2_take_108 : decode cX2_take 108 = .ok (.putfield 11, 3) := by decide +kernel
theorem dX2_take_111 : decode cX2_take 111 = .ok (.return_, 1) := by decide +kernel
theorem dX2_takeNumber_0 : decode cX2_takeNumber 0 = .ok (.aload_n 0, 1) := by decide +kernel
theorem dX2_takeNumber_1 : decode cX2_takeNumber 1 = .ok (.aload_n 0, 1) := by decide +kernel
theorem dX2_takeNumber_2 : decode cX2_takeNumber 2 = .ok (.getfield 21, 3) := by decide +kernel
theorem dX2_takeNumber_5 : decode cX2_takeNumber 5 = .ok (.aload_n 0, 1) := by decide +kernel
theorem dX2_takeNumber_6 : decode cX2_takeNumber 6 = .ok (.getfield 25, 3) := by decide +kernel
theorem dX2_takeNumber_9 : decode cX2_takeNumber 9 = .ok (.getfield 57, 3) := by decide +kernel
theorem dX2_takeNumber_12 : decode cX2_takeNumber 12 = .ok (.invokestatic 75, 3) := by decide +kernel
theorem dX2_takeNumber_15 : decode cX2_takeNumber 15 = .ok (.putfield 21, 3) := by decide +kernel
theorem dX2_takeNumber_18 : decode cX2_takeNumber 18 = .ok (.aload_n 0, 1) := by decide +kernel
theorem dX2_takeNumber_19 : decode cX2_takeNumber 19 = .ok (.getfield 11, 3) := by decide +kernel
theorem dX2_takeNumber_22 : decode cX2_takeNumber 22 = .ok (.iconst 2, 1) := by decide +kernel
theorem dX2_takeNumber_23 : decode cX2_takeNumber 23 = .ok (.if_icmp .ne 13, 3) := by decide +kernel
theorem dX2_takeNumber_26 : decode cX2_takeNumber 26 = .ok (.aload_n 0, 1) := by decide +kernel
theorem dX2_takeNumber_27 : decode cX2_takeNumber 27 = .ok (.dup, 1) := by decide +kernel
theorem dX2_takeNumber_28 : decode cX2_takeNumber 28 = .ok (.getfield 15, 3) := by decide +kernel
theorem dX2_takeNumber_31 : decode cX2_takeNumber 31 = .ok (.iconst 1, 1) := by decide +kernel
theorem dX2_takeNumber_32 : decode cX2_takeNumber 32 = .ok (.iadd, 1) := by decide +kernel
theorem dX2_takeNumber_33 : decode cX2_takeNumber 33 = .ok (.putfield 15, 3) := by decide +kernel
theorem dX2_takeNumber_36 : decode cX2_takeNumber 36 = .ok (.aload_n 0, 1) := by decide +kernel
theorem dX2_takeNumber_37 : decode cX2_takeNumber 37 = .ok (.aload_n 0, 1) := by decide +kernel
theorem dX2_takeNumber_38 : decode cX2_takeNumber 38 = .ok (.getfield 11, 3) := by decide +kernel
theorem dX2_takeNumber_41 : decode cX2_takeNumber 41 = .ok (.iconst 1, 1) := by decide +kernel
theorem dX2_takeNumber_42 : decode cX2_takeNumber 42 = .ok (.if_icmp .ne 7, 3) := by decide +kernel
theorem dX2_takeNumber_45 : decode cX2_takeNumber 45 = .ok (.iconst 2, 1) := by decide +kernel
theorem dX2_takeNumber_46 : decode cX2_takeNumber 46 = .ok (.goto 4, 3) := by decide +kernel
theorem dX2_takeNumber_49 : decode cX2_takeNumber 49 = .ok (.iconst 3, 1) := by decide +kernel
theorem dX2_takeNumber_50 : decode cX2_takeNumber 50 = .ok (.putfield 11, 3) := by decide +kernel
theorem dX2_takeNumber_53 : decode cX2_takeNumber 53 = .ok (.return_, 1) := by decide +kernel
theorem dX3_init_0 : decode cX3_init 0 = .ok (.aload_n 0, 1) := by decide +kernel
theorem dX3_init_1 : decode cX3_init 1 = .ok (.invokespecial 3, 3) := by decide +kernel
theorem dX3_init_4 : decode cX3_init 4 = .ok (.aload_n 0, 1) := by decide +kernel
theorem dX3_init_5 : decode cX3_init 5 = .ok (.iload_n 1, 1) := by decide +kernel
theorem dX3_init_6 : decode cX3_init 6 = .ok (.putfield 9, 3) := by decide +kernel
theorem dX3_init_9 : decode cX3_init 9 = .ok (.aload_n 0, 1) := by decide +kernel
theorem dX3_init_10 : decode cX3_init 10 = .ok (.iconst 1, 1) := by decide +kernel
theorem dX3_init_11 : decode cX3_init 11 = .ok (.iconst 3, 1) := by decide +kernel
theorem dX3_init_12 : decode cX3_init 12 = .ok (.iload_n 1, 1) := by decide +kernel
theorem dX3_init_13 : decode cX3_init 13 = .ok (.imul, 1) := by decide +kernel
theorem dX3_init_14 : decode cX3_init 14 = .ok (.ishl, 1) := by decide +kernel
theorem dX3_init_15 : decode cX3_init 15 = .ok (.iconst 1, 1) := by decide +kernel
theorem dX3_init_16 : decode cX3_init 16 = .ok (.isub, 1) := by decide +kernel
theorem dX3_init_17 : decode cX3_init 17 = .ok (.putfield 15, 3) := by decide +kernel
theorem dX3_init_20 : decode cX3_init 20 = .ok (.return_, 1) := by decide +kernel
theorem dX3_oneAt_0 : decode cX3_oneAt 0 = .ok (.iconst 1, 1) := by decide +kernel
theorem dX3_oneAt_1 : decode cX3_oneAt 1 = .ok (.iconst 3, 1) := by decide +kernel
theorem dX3_oneAt_2 : decode cX3_oneAt 2 = .ok (.aload_n 0, 1) := by decide +kernel
theorem dX3_oneAt_3 : decode cX3_oneAt 3 = .ok (.getfield 9, 3) := by decide +kernel
theorem dX3_oneAt_6 : decode cX3_oneAt 6 = .ok (.iconst 1, 1) := by decide +kernel
theorem dX3_oneAt_7 : decode cX3_oneAt 7 = .ok (.isub, 1) := by decide +kernel
theorem dX3_oneAt_8 : decode cX3_oneAt 8 = .ok (.iload_n 1, 1) := by decide +kernel
theorem dX3_oneAt_9 : decode cX3_oneAt 9 = .ok (.isub, 1) := by decide +kernel
theorem dX3_oneAt_10 : decode cX3_oneAt 10 = .ok (.imul, 1) := by decide +kernel
theorem dX3_oneAt_11 : decode cX3_oneAt 11 = .ok (.ishl, 1) := by decide +kernel
theorem dX3_oneAt_12 : decode cX3_oneAt 12 = .ok (.ireturn, 1) := by decide +kernel
theorem dX3_manyAt_0 : decode cX3_manyAt 0 = .ok (.iload_n 1, 1) := by decide +kernel
theorem dX3_manyAt_1 : decode cX3_manyAt 1 = .ok (.iconst 3, 1) := by decide +kernel
theorem dX3_manyAt_2 : decode cX3_manyAt 2 = .ok (.aload_n 0, 1) := by decide +kernel
theorem dX3_manyAt_3 : decode cX3_manyAt 3 = .ok (.getfield 9, 3) := by decide +kernel
theorem dX3_manyAt_6 : decode cX3_manyAt 6 = .ok (.iconst 1, 1) := by decide +kernel
theorem dX3_manyAt_7 : decode cX3_manyAt 7 = .ok (.isub, 1) := by decide +kernel
theorem dX3_manyAt_8 : decode cX3_manyAt 8 = .ok (.iload_n 2, 1) := by decide +kernel
theorem dX3_manyAt_9 : decode cX3_manyAt 9 = .ok (.isub, 1) := by decide +kernel
theorem dX3_manyAt_10 : decode cX3_manyAt 10 = .ok (.imul, 1) := by decide +kernel
theorem dX3_manyAt_11 : decode cX3_manyAt 11 = .ok (.iushr, 1) := by decide +kernel
theorem dX3_manyAt_12 : decode cX3_manyAt 12 = .ok (.bipush 7, 2) := by decide +kernel
theorem dX3_manyAt_14 : decode cX3_manyAt 14 = .ok (.iand, 1) := by decide +kernel
theorem dX3_manyAt_15 : decode cX3_manyAt 15 = .ok (.ireturn, 1) := by decide +kernel
theorem dX3_beside_0 : decode cX3_beside 0 = .ok (.iload_n 1, 1) := by decide +kernel
theorem dX3_beside_1 : decode cX3_beside 1 = .ok (.iload_n 2, 1) := by decide +kernel
theorem dX3_beside_2 : decode cX3_beside 2 = .ok (.iadd, 1) := by decide +kernel
theorem dX3_beside_3 : decode cX3_beside 3 = .ok (.istore_n 3, 1) := by decide +kernel
theorem dX3_beside_4 : decode cX3_beside 4 = .ok (.iload_n 3, 1) := by decide +kernel
theorem dX3_beside_5 : decode cX3_beside 5 = .ok (.aload_n 0, 1) := by decide +kernel
theorem dX3_beside_6 : decode cX3_beside 6 = .ok (.getfield 9, 3) := by decide +kernel
theorem dX3_beside_9 : decode cX3_beside 9 = .ok (.if_icmp .lt 5, 3) := by decide +kernel
theorem dX3_beside_12 : decode cX3_beside 12 = .ok (.iconst 0, 1) := by decide +kernel
theorem dX3_beside_13 : decode cX3_beside 13 = .ok (.ireturn, 1) := by decide +kernel
theorem dX3_beside_14 : decode cX3_beside 14 = .ok (.iload_n 3, 1) := by decide +kernel
theorem dX3_beside_15 : decode cX3_beside 15 = .ok (.ifCond .ge 12, 3) := by decide +kernel
theorem dX3_beside_18 : decode cX3_beside 18 = .ok (.aload_n 0, 1) := by decide +kernel
theorem dX3_beside_19 : decode cX3_beside 19 = .ok (.getfield 9, 3) := by decide +kernel
theorem dX3_beside_22 : decode cX3_beside 22 = .ok (.iconst 1, 1) := by decide +kernel
theorem dX3_beside_23 : decode cX3_beside 23 = .ok (.isub, 1) := by decide +kernel
theorem dX3_beside_24 : decode cX3_beside 24 = .ok (.goto 4, 3) := by decide +kernel
theorem dX3_beside_27 : decode cX3_beside 27 = .ok (.iload_n 3, 1) := by decide +kernel
theorem dX3_beside_28 : decode cX3_beside 28 = .ok (.ireturn, 1) := by decide +kernel
theorem dX3_shift_0 : decode cX3_shift 0 = .ok (.aload_n 0, 1) := by decide +kernel
theorem dX3_shift_1 : decode cX3_shift 1 = .ok (.aload_n 0, 1) := by decide +kernel
theorem dX3_shift_2 : decode cX3_shift 2 = .ok (.iload_n 1, 1) := by decide +kernel
theorem dX3_shift_3 : decode cX3_shift 3 = .ok (.iload_n 2, 1) := by decide +kernel
theorem dX3_shift_4 : decode cX3_shift 4 = .ok (.invokevirtual 18, 3) := by decide +kernel
theorem dX3_shift_7 : decode cX3_shift 7 = .ok (.invokevirtual 22, 3) := by decide +kernel
theorem dX3_shift_10 : decode cX3_shift 10 = .ok (.aload_n 0, 1) := by decide +kernel
theorem dX3_shift_11 : decode cX3_shift 11 = .ok (.iload_n 1, 1) := by decide +kernel
theorem dX3_shift_12 : decode cX3_shift 12 = .ok (.invokevirtual 22, 3) := by decide +kernel
theorem dX3_shift_15 : decode cX3_shift 15 = .ok (.isub, 1) := by decide +kernel
theorem dX3_shift_16 : decode cX3_shift 16 = .ok (.ireturn, 1) := by decide +kernel
theorem dX3_robotsIn_0 : decode cX3_robotsIn 0 = .ok (.iconst 0, 1) := by decide +kernel
theorem dX3_robotsIn_1 : decode cX3_robotsIn 1 = .ok (.istore_n 2, 1) := by decide +kernel
theorem dX3_robotsIn_2 : decode cX3_robotsIn 2 = .ok (.iconst 0, 1) := by decide +kernel
theorem dX3_robotsIn_3 : decode cX3_robotsIn 3 = .ok (.istore_n 3, 1) := by decide +kernel
theorem dX3_robotsIn_4 : decode cX3_robotsIn 4 = .ok (.iload_n 3, 1) := by decide +kernel
theorem dX3_robotsIn_5 : decode cX3_robotsIn 5 = .ok (.aload_n 0, 1) := by decide +kernel
theorem dX3_robotsIn_6 : decode cX3_robotsIn 6 = .ok (.getfield 9, 3) := by decide +kernel
theorem dX3_robotsIn_9 : decode cX3_robotsIn 9 = .ok (.if_icmp .ge 18, 3) := by decide +kernel
theorem dX3_robotsIn_12 : decode cX3_robotsIn 12 = .ok (.iload_n 2, 1) := by decide +kernel
theorem dX3_robotsIn_13 : decode cX3_robotsIn 13 = .ok (.aload_n 0, 1) := by decide +kernel
theorem dX3_robotsIn_14 : decode cX3_robotsIn 14 = .ok (.iload_n 1, 1) := by decide +kernel
theorem dX3_robotsIn_15 : decode cX3_robotsIn 15 = .ok (.iload_n 3, 1) := by decide +kernel
theorem dX3_robotsIn_16 : decode cX3_robotsIn 16 = .ok (.invokevirtual 26, 3) := by decide +kernel
theorem dX3_robotsIn_19 : decode cX3_robotsIn 19 = .ok (.iadd, 1) := by decide +kernel
theorem dX3_robotsIn_20 : decode cX3_robotsIn 20 = .ok (.istore_n 2, 1) := by decide +kernel
theorem dX3_robotsIn_21 : decode cX3_robotsIn 21 = .ok (.iinc 3 1, 3) := by decide +kernel
theorem dX3_robotsIn_24 : decode cX3_robotsIn 24 = .ok (.goto (-20), 3) := by decide +kernel
theorem dX3_robotsIn_27 : decode cX3_robotsIn 27 = .ok (.iload_n 2, 1) := by decide +kernel
theorem dX3_robotsIn_28 : decode cX3_robotsIn 28 = .ok (.ireturn, 1) := by decide +kernel
theorem dX3_takenIn_0 : decode cX3_takenIn 0 = .ok (.iconst 0, 1) := by decide +kernel
theorem dX3_takenIn_1 : decode cX3_takenIn 1 = .ok (.istore_n 2, 1) := by decide +kernel
theorem dX3_takenIn_2 : decode cX3_takenIn 2 = .ok (.iconst 0, 1) := by decide +kernel
theorem dX3_takenIn_3 : decode cX3_takenIn 3 = .ok (.istore_n 3, 1) := by decide +kernel
theorem dX3_takenIn_4 : decode cX3_takenIn 4 = .ok (.iload_n 3, 1) := by decide +kernel
theorem dX3_takenIn_5 : decode cX3_takenIn 5 = .ok (.aload_n 0, 1) := by decide +kernel
theorem dX3_takenIn_6 : decode cX3_takenIn 6 = .ok (.getfield 9, 3) := by decide +kernel
theorem dX3_takenIn_9 : decode cX3_takenIn 9 = .ok (.if_icmp .ge 21, 3) := by decide +kernel
theorem dX3_takenIn_12 : decode cX3_takenIn 12 = .ok (.aload_n 0, 1) := by decide +kernel
theorem dX3_takenIn_13 : decode cX3_takenIn 13 = .ok (.iload_n 1, 1) := by decide +kernel
theorem dX3_takenIn_14 : decode cX3_takenIn 14 = .ok (.iload_n 3, 1) := by decide +kernel
theorem dX3_takenIn_15 : decode cX3_takenIn 15 = .ok (.invokevirtual 26, 3) := by decide +kernel
theorem dX3_takenIn_18 : decode cX3_takenIn 18 = .ok (.ifCond .le 6, 3) := by decide +kernel
theorem dX3_takenIn_21 : decode cX3_takenIn 21 = .ok (.iinc 2 1, 3) := by decide +kernel
theorem dX3_takenIn_24 : decode cX3_takenIn 24 = .ok (.iinc 3 1, 3) := by decide +kernel
theorem dX3_takenIn_27 : decode cX3_takenIn 27 = .ok (.goto (-23), 3) := by decide +kernel
theorem dX3_takenIn_30 : decode cX3_takenIn 30 = .ok (.iload_n 2, 1) := by decide +kernel
theorem dX3_takenIn_31 : decode cX3_takenIn 31 = .ok (.ireturn, 1) := by decide +kernel
theorem dX3_turned_0 : decode cX3_turned 0 = .ok (.iload_n 1, 1) := by decide +kernel
theorem dX3_turned_1 : decode cX3_turned 1 = .ok (.iconst 3, 1) := by decide +kernel
theorem dX3_turned_2 : decode cX3_turned 2 = .ok (.ishl, 1) := by decide +kernel
theorem dX3_turned_3 : decode cX3_turned 3 = .ok (.aload_n 0, 1) := by decide +kernel
theorem dX3_turned_4 : decode cX3_turned 4 = .ok (.getfield 15, 3) := by decide +kernel
theorem dX3_turned_7 : decode cX3_turned 7 = .ok (.iand, 1) := by decide +kernel
theorem dX3_turned_8 : decode cX3_turned 8 = .ok (.iload_n 1, 1) := by decide +kernel
theorem dX3_turned_9 : decode cX3_turned 9 = .ok (.iconst 3, 1) := by decide +kernel
theorem dX3_turned_10 : decode cX3_turned 10 = .ok (.aload_n 0, 1) := by decide +kernel
theorem dX3_turned_11 : decode cX3_turned 11 = .ok (.getfield 9, 3) := by decide +kernel
theorem dX3_turned_14 : decode cX3_turned 14 = .ok (.iconst 1, 1) := by decide +kernel
theorem dX3_turned_15 : decode cX3_turned 15 = .ok (.isub, 1) := by decide +kernel
theorem dX3_turned_16 : decode cX3_turned 16 = .ok (.imul, 1) := by decide +kernel
theorem dX3_turned_17 : decode cX3_turned 17 = .ok (.iushr, 1) := by decide +kernel
theorem dX3_turned_18 : decode cX3_turned 18 = .ok (.ior, 1) := by decide +kernel
theorem dX3_turned_19 : decode cX3_turned 19 = .ok (.ireturn, 1) := by decide +kernel
theorem dX3_mirrored_0 : decode cX3_mirrored 0 = .ok (.iconst 0, 1) := by decide +kernel
theorem dX3_mirrored_1 : decode cX3_mirrored 1 = .ok (.istore_n 2, 1) := by decide +kernel
theorem dX3_mirrored_2 : decode cX3_mirrored 2 = .ok (.aload_n 0, 1) := by decide +kernel
theorem dX3_mirrored_3 : decode cX3_mirrored 3 = .ok (.getfield 9, 3) := by decide +kernel
theorem dX3_mirrored_6 : decode cX3_mirrored 6 = .ok (.iconst 1, 1) := by decide +kernel
theorem dX3_mirrored_7 : decode cX3_mirrored 7 = .ok (.isub, 1) := by decide +kernel
theorem dX3_mirrored_8 : decode cX3_mirrored 8 = .ok (.istore_n 3, 1) := by decide +kernel
theorem dX3_mirrored_9 : decode cX3_mirrored 9 = .ok (.iload_n 3, 1) := by decide +kernel
theorem dX3_mirrored_10 : decode cX3_mirrored 10 = .ok (.ifCond .lt 20, 3) := by decide +kernel
theorem dX3_mirrored_13 : decode cX3_mirrored 13 = .ok (.iload_n 2, 1) := by decide +kernel
theorem dX3_mirrored_14 : decode cX3_mirrored 14 = .ok (.iconst 3, 1) := by decide +kernel
theorem dX3_mirrored_15 : decode cX3_mirrored 15 = .ok (.ishl, 1) := by decide +kernel
theorem dX3_mirrored_16 : decode cX3_mirrored 16 = .ok (.aload_n 0, 1) := by decide +kernel
theorem dX3_mirrored_17 : decode cX3_mirrored 17 = .ok (.iload_n 1, 1) := by decide +kernel
theorem dX3_mirrored_18 : decode cX3_mirrored 18 = .ok (.iload_n 3, 1) := by decide +kernel
theorem dX3_mirrored_19 : decode cX3_mirrored 19 = .ok (.invokevirtual 26, 3) := by decide +kernel
theorem dX3_mirrored_22 : decode cX3_mirrored 22 = .ok (.ior, 1) := by decide +kernel
theorem dX3_mirrored_23 : decode cX3_mirrored 23 = .ok (.istore_n 2, 1) := by decide +kernel
theorem dX3_mirrored_24 : decode cX3_mirrored 24 = .ok (.iinc 3 (-1), 3) := by decide +kernel
theorem dX3_mirrored_27 : decode cX3_mirrored 27 = .ok (.goto (-18), 3) := by decide +kernel
theorem dX3_mirrored_30 : decode cX3_mirrored 30 = .ok (.iload_n 2, 1) := by decide +kernel
theorem dX3_mirrored_31 : decode cX3_mirrored 31 = .ok (.ireturn, 1) := by decide +kernel
theorem dX3_nameOf_0 : decode cX3_nameOf 0 = .ok (.iload_n 1, 1) := by decide +kernel
theorem dX3_nameOf_1 : decode cX3_nameOf 1 = .ok (.istore_n 2, 1) := by decide +kernel
theorem dX3_nameOf_2 : decode cX3_nameOf 2 = .ok (.iload_n 1, 1) := by decide +kernel
theorem dX3_nameOf_3 : decode cX3_nameOf 3 = .ok (.istore_n 3, 1) := by decide +kernel
theorem dX3_nameOf_4 : decode cX3_nameOf 4 = .ok (.aload_n 0, 1) := by decide +kernel
theorem dX3_nameOf_5 : decode cX3_nameOf 5 = .ok (.iload_n 1, 1) := by decide +kernel
theorem dX3_nameOf_6 : decode cX3_nameOf 6 = .ok (.invokevirtual 29, 3) := by decide +kernel
theorem dX3_nameOf_9 : decode cX3_nameOf 9 = .ok (.istore 4, 2) := by decide +kernel
theorem dX3_nameOf_11 : decode cX3_nameOf 11 = .ok (.iconst 0, 1) := by decide +kernel
theorem dX3_nameOf_12 : decode cX3_nameOf 12 = .ok (.istore 5, 2) := by decide +kernel
theorem dX3_nameOf_14 : decode cX3_nameOf 14 = .ok (.iload 5, 2) := by decide +kernel
theorem dX3_nameOf_16 : decode cX3_nameOf 16 = .ok (.aload_n 0, 1) := by decide +kernel
theorem dX3_nameOf_17 : decode cX3_nameOf 17 = .ok (.getfield 9, 3) := by decide +kernel
theorem dX3_nameOf_20 : decode cX3_nameOf 20 = .ok (.if_icmp .ge 34, 3) := by decide +kernel
theorem dX3_nameOf_23 : decode cX3_nameOf 23 = .ok (.iload_n 2, 1) := by decide +kernel
theorem dX3_nameOf_24 : decode cX3_nameOf 24 = .ok (.iload_n 3, 1) := by decide +kernel
theorem dX3_nameOf_25 : decode cX3_nameOf 25 = .ok (.iload 4, 2) := by decide +kernel
theorem dX3_nameOf_27 : decode cX3_nameOf 27 = .ok (.invokestatic 32, 3) := by decide +kernel
theorem dX3_nameOf_30 : decode cX3_nameOf 30 = .ok (.invokestatic 32, 3) := by decide +kernel
theorem dX3_nameOf_33 : decode cX3_nameOf 33 = .ok (.istore_n 2, 1) := by decide +kernel
theorem dX3_nameOf_34 : decode cX3_nameOf 34 = .ok (.aload_n 0, 1) := by decide +kernel
theorem dX3_nameOf_35 : decode cX3_nameOf 35 = .ok (.iload_n 3, 1) := by decide +kernel
theorem dX3_nameOf_36 : decode cX3_nameOf 36 = .ok (.invokevirtual 37, 3) := by decide +kernel
theorem dX3_nameOf_39 : decode cX3_nameOf 39 = .ok (.istore_n 3, 1) := by decide +kernel
theorem dX3_nameOf_40 : decode cX3_nameOf 40 = .ok (.aload_n 0, 1) := by decide +kernel
theorem dX3_nameOf_41 : decode cX3_nameOf 41 = .ok (.iload 4, 2) := by decide +kernel
theorem dX3_nameOf_43 : decode cX3_nameOf 43 = .ok (.invokevirtual 37, 3) := by decide +kernel
theorem dX3_nameOf_46 : decode cX3_nameOf 46 = .ok (.istore 4, 2) := by decide +kernel
theorem dX3_nameOf_48 : decode cX3_nameOf 48 = .ok (.iinc 5 1, 3) := by decide +kernel
theorem dX3_nameOf_51 : decode cX3_nameOf 51 = .ok (.goto (-37), 3) := by decide +kernel
theorem dX3_nameOf_54 : decode cX3_nameOf 54 = .ok (.iload_n 2, 1) := by decide +kernel
theorem dX3_nameOf_55 : decode cX3_nameOf 55 = .ok (.ireturn, 1) := by decide +kernel
theorem dX3_turnsOf_0 : decode cX3_turnsOf 0 = .ok (.aload_n 0, 1) := by decide +kernel
theorem dX3_turnsOf_1 : decode cX3_turnsOf 1 = .ok (.iload_n 1, 1) := by decide +kernel
theorem dX3_turnsOf_2 : decode cX3_turnsOf 2 = .ok (.iload_n 1, 1) := by decide +kernel
theorem dX3_turnsOf_3 : decode cX3_turnsOf 3 = .ok (.invokevirtual 40, 3) := by decide +kernel
theorem dX3_turnsOf_6 : decode cX3_turnsOf 6 = .ok (.ireturn, 1) := by decide +kernel
theorem dX3_mirrorsOf_0 : decode cX3_mirrorsOf 0 = .ok (.aload_n 0, 1) := by decide +kernel
theorem dX3_mirrorsOf_1 : decode cX3_mirrorsOf 1 = .ok (.aload_n 0, 1) := by decide +kernel
theorem dX3_mirrorsOf_2 : decode cX3_mirrorsOf 2 = .ok (.iload_n 1, 1) := by decide +kernel
theorem dX3_mirrorsOf_3 : decode cX3_mirrorsOf 3 = .ok (.invokevirtual 29, 3) := by decide +kernel
theorem dX3_mirrorsOf_6 : decode cX3_mirrorsOf 6 = .ok (.iload_n 1, 1) := by decide +kernel
theorem dX3_mirrorsOf_7 : decode cX3_mirrorsOf 7 = .ok (.invokevirtual 40, 3) := by decide +kernel
theorem dX3_mirrorsOf_10 : decode cX3_mirrorsOf 10 = .ok (.ireturn, 1) := by decide +kernel
theorem dX3_turnsBetween_0 : decode cX3_turnsBetween 0 = .ok (.iconst 0, 1) := by decide +kernel
theorem dX3_turnsBetween_1 : decode cX3_turnsBetween 1 = .ok (.istore_n 3, 1) := by decide +kernel
theorem dX3_turnsBetween_2 : decode cX3_turnsBetween 2 = .ok (.iload_n 1, 1) := by decide +kernel
theorem dX3_turnsBetween_3 : decode cX3_turnsBetween 3 = .ok (.istore 4, 2) := by decide +kernel
theorem dX3_turnsBetween_5 : decode cX3_turnsBetween 5 = .ok (.iconst 0, 1) := by decide +kernel
theorem dX3_turnsBetween_6 : decode cX3_turnsBetween 6 = .ok (.istore 5, 2) := by decide +kernel
theorem dX3_turnsBetween_8 : decode cX3_turnsBetween 8 = .ok (.iload 5, 2) := by decide +kernel
theorem dX3_turnsBetween_10 : decode cX3_turnsBetween 10 = .ok (.aload_n 0, 1) := by decide +kernel
theorem dX3_turnsBetween_11 : decode cX3_turnsBetween 11 = .ok (.getfield 9, 3) := by decide +kernel
theorem dX3_turnsBetween_14 : decode cX3_turnsBetween 14 = .ok (.if_icmp .ge 26, 3) := by decide +kernel
theorem dX3_turnsBetween_17 : decode cX3_turnsBetween 17 = .ok (.iload 4, 2) := by decide +kernel
theorem dX3_turnsBetween_19 : decode cX3_turnsBetween 19 = .ok (.iload_n 2, 1) := by decide +kernel
theorem dX3_turnsBetween_20 : decode cX3_turnsBetween 20 = .ok (.if_icmp .ne 6, 3) := by decide +kernel
theorem dX3_turnsBetween_23 : decode cX3_turnsBetween 23 = .ok (.iinc 3 1, 3) := by decide +kernel
theorem dX3_turnsBetween_26 : decode cX3_turnsBetween 26 = .ok (.aload_n 0, 1) := by decide +kernel
theorem dX3_turnsBetween_27 : decode cX3_turnsBetween 27 = .ok (.iload 4, 2) := by decide +kernel
theorem dX3_turnsBetween_29 : decode cX3_turnsBetween 29 = .ok (.invokevirtual 37, 3) := by decide +kernel
theorem dX3_turnsBetween_32 : decode cX3_turnsBetween 32 = .ok (.istore 4, 2) := by decide +kernel
theorem dX3_turnsBetween_34 : decode cX3_turnsBetween 34 = .ok (.iinc 5 1, 3) := by decide +kernel
theorem dX3_turnsBetween_37 : decode cX3_turnsBetween 37 = .ok (.goto (-29), 3) := by decide +kernel
theorem dX3_turnsBetween_40 : decode cX3_turnsBetween 40 = .ok (.iload_n 3, 1) := by decide +kernel
theorem dX3_turnsBetween_41 : decode cX3_turnsBetween 41 = .ok (.ireturn, 1) := by decide +kernel
theorem dX3_kindOf_0 : decode cX3_kindOf 0 = .ok (.aload_n 0, 1) := by decide +kernel
theorem dX3_kindOf_1 : decode cX3_kindOf 1 = .ok (.iload_n 1, 1) := by decide +kernel
theorem dX3_kindOf_2 : decode cX3_kindOf 2 = .ok (.invokevirtual 43, 3) := by decide +kernel
theorem dX3_kindOf_5 : decode cX3_kindOf 5 = .ok (.iconst 1, 1) := by decide +kernel
theorem dX3_kindOf_6 : decode cX3_kindOf 6 = .ok (.if_icmp .le 5, 3) := by decide +kernel
theorem dX3_kindOf_9 : decode cX3_kindOf 9 = .ok (.iconst 2, 1) := by decide +kernel
theorem dX3_kindOf_10 : decode cX3_kindOf 10 = .ok (.ireturn, 1) := by decide +kernel
theorem dX3_kindOf_11 : decode cX3_kindOf 11 = .ok (.aload_n 0, 1) := by decide +kernel
theorem dX3_kindOf_12 : decode cX3_kindOf 12 = .ok (.iload_n 1, 1) := by decide +kernel
theorem dX3_kindOf_13 : decode cX3_kindOf 13 = .ok (.invokevirtual 46, 3) := by decide +kernel
theorem dX3_kindOf_16 : decode cX3_kindOf 16 = .ok (.ifCond .le 7, 3) := by decide +kernel
theorem dX3_kindOf_19 : decode cX3_kindOf 19 = .ok (.iconst 1, 1) := by decide +kernel
theorem dX3_kindOf_20 : decode cX3_kindOf 20 = .ok (.goto 4, 3) := by decide +kernel
theorem dX3_kindOf_23 : decode cX3_kindOf 23 = .ok (.iconst 3, 1) := by decide +kernel
theorem dX3_kindOf_24 : decode cX3_kindOf 24 = .ok (.ireturn, 1) := by decide +kernel
theorem dX3_rowFrom_0 : decode cX3_rowFrom 0 = .ok (.lconst 0, 1) := by decide +kernel
theorem dX3_rowFrom_1 : decode cX3_rowFrom 1 = .ok (.lstore 4, 2) := by decide +kernel
theorem dX3_rowFrom_3 : decode cX3_rowFrom 3 = .ok (.iconst 0, 1) := by decide +kernel
theorem dX3_rowFrom_4 : decode cX3_rowFrom 4 = .ok (.istore 6, 2) := by decide +kernel
theorem dX3_rowFrom_6 : decode cX3_rowFrom 6 = .ok (.iload_n 2, 1) := by decide +kernel
theorem dX3_rowFrom_7 : decode cX3_rowFrom 7 = .ok (.istore 7, 2) := by decide +kernel
theorem dX3_rowFrom_9 : decode cX3_rowFrom 9 = .ok (.iconst 0, 1) := by decide +kernel
theorem dX3_rowFrom_10 : decode cX3_rowFrom 10 = .ok (.istore 8, 2) := by decide +kernel
theorem dX3_rowFrom_12 : decode cX3_rowFrom 12 = .ok (.iload 8, 2) := by decide +kernel
theorem dX3_rowFrom_14 : decode cX3_rowFrom 14 = .ok (.aload_n 0, 1) := by decide +kernel
theorem dX3_rowFrom_15 : decode cX3_rowFrom 15 = .ok (.getfield 9, 3) := by decide +kernel
theorem dX3_rowFrom_18 : decode cX3_rowFrom 18 = .ok (.if_icmp .ge 52, 3) := by decide +kernel
theorem dX3_rowFrom_21 : decode cX3_rowFrom 21 = .ok (.aload_n 0, 1) := by decide +kernel
theorem dX3_rowFrom_22 : decode cX3_rowFrom 22 = .ok (.iload 7, 2) := by decide +kernel
theorem dX3_rowFrom_24 : decode cX3_rowFrom 24 = .ok (.iload_n 3, 1) := by decide +kernel
theorem dX3_rowFrom_25 : decode cX3_rowFrom 25 = .ok (.invokevirtual 18, 3) := by decide +kernel
theorem dX3_rowFrom_28 : decode cX3_rowFrom 28 = .ok (.istore 7, 2) := by decide +kernel
theorem dX3_rowFrom_30 : decode cX3_rowFrom 30 = .ok (.iinc 6 1, 3) := by decide +kernel
theorem dX3_rowFrom_33 : decode cX3_rowFrom 33 = .ok (.aload_n 0, 1) := by decide +kernel
theorem dX3_rowFrom_34 : decode cX3_rowFrom 34 = .ok (.iload_n 1, 1) := by decide +kernel
theorem dX3_rowFrom_35 : decode cX3_rowFrom 35 = .ok (.iload 7, 2) := by decide +kernel
theorem dX3_rowFrom_37 : decode cX3_rowFrom 37 = .ok (.invokevirtual 26, 3) := by decide +kernel
theorem dX3_rowFrom_40 : decode cX3_rowFrom 40 = .ok (.istore 9, 2) := by decide +kernel
theorem dX3_rowFrom_42 : decode cX3_rowFrom 42 = .ok (.iload 9, 2) := by decide +kernel
theorem dX3_rowFrom_44 : decode cX3_rowFrom 44 = .ok (.ifCond .le 20, 3) := by decide +kernel
theorem dX3_rowFrom_47 : decode cX3_rowFrom 47 = .ok (.lload 4, 2) := by decide +kernel
theorem dX3_rowFrom_49 : decode cX3_rowFrom 49 = .ok (.iload 6, 2) := by decide +kernel
theorem dX3_rowFrom_51 : decode cX3_rowFrom 51 = .ok (.invokestatic 49, 3) := by decide +kernel
theorem dX3_rowFrom_54 : decode cX3_rowFrom 54 = .ok (.iload 9, 2) := by decide +kernel
theorem dX3_rowFrom_56 : decode cX3_rowFrom 56 = .ok (.invokestatic 49, 3) := by decide +kernel
theorem dX3_rowFrom_59 : decode cX3_rowFrom 59 = .ok (.lstore 4, 2) := by decide +kernel
theorem dX3_rowFrom_61 : decode cX3_rowFrom 61 = .ok (.iconst 0, 1) := by decide +kernel
theorem dX3_rowFrom_62 : decode cX3_rowFrom 62 = .ok (.istore 6, 2) := by decide +kernel
theorem dX3_rowFrom_64 : decode cX3_rowFrom 64 = .ok (.iinc 8 1, 3) := by decide +kernel
theorem dX3_rowFrom_67 : decode cX3_rowFrom 67 = .ok (.goto (-55), 3) := by decide +kernel
theorem dX3_rowFrom_70 : decode cX3_rowFrom 70 = .ok (.lload 4, 2) := by decide +kernel
theorem dX3_rowFrom_72 : decode cX3_rowFrom 72 = .ok (.lreturn, 1) := by decide +kernel
theorem dX3_viewFrom_0 : decode cX3_viewFrom 0 = .ok (.aload_n 0, 1) := by decide +kernel
theorem dX3_viewFrom_1 : decode cX3_viewFrom 1 = .ok (.iload_n 1, 1) := by decide +kernel
theorem dX3_viewFrom_2 : decode cX3_viewFrom 2 = .ok (.iload_n 2, 1) := by decide +kernel
theorem dX3_viewFrom_3 : decode cX3_viewFrom 3 = .ok (.iconst 1, 1) := by decide +kernel
theorem dX3_viewFrom_4 : decode cX3_viewFrom 4 = .ok (.invokevirtual 55, 3) := by decide +kernel
theorem dX3_viewFrom_7 : decode cX3_viewFrom 7 = .ok (.aload_n 0, 1) := by decide +kernel
theorem dX3_viewFrom_8 : decode cX3_viewFrom 8 = .ok (.iload_n 1, 1) := by decide +kernel
theorem dX3_viewFrom_9 : decode cX3_viewFrom 9 = .ok (.iload_n 2, 1) := by decide +kernel
theorem dX3_viewFrom_10 : decode cX3_viewFrom 10 = .ok (.iconst (-1), 1) := by decide +kernel
theorem dX3_viewFrom_11 : decode cX3_viewFrom 11 = .ok (.invokevirtual 55, 3) := by decide +kernel
theorem dX3_viewFrom_14 : decode cX3_viewFrom 14 = .ok (.invokestatic 59, 3) := by decide +kernel
theorem dX3_viewFrom_17 : decode cX3_viewFrom 17 = .ok (.lreturn, 1) := by decide +kernel
theorem dX3_isOfGoal_0 : decode cX3_isOfGoal 0 = .ok (.aload_n 0, 1) := by decide +kernel
theorem dX3_isOfGoal_1 : decode cX3_isOfGoal 1 = .ok (.iload_n 1, 1) := by decide +kernel
theorem dX3_isOfGoal_2 : decode cX3_isOfGoal 2 = .ok (.invokevirtual 63, 3) := by decide +kernel
theorem dX3_isOfGoal_5 : decode cX3_isOfGoal 5 = .ok (.istore_n 3, 1) := by decide +kernel
theorem dX3_isOfGoal_6 : decode cX3_isOfGoal 6 = .ok (.aload_n 0, 1) := by decide +kernel
theorem dX3_isOfGoal_7 : decode cX3_isOfGoal 7 = .ok (.iload_n 1, 1) := by decide +kernel
theorem dX3_isOfGoal_8 : decode cX3_isOfGoal 8 = .ok (.invokevirtual 66, 3) := by decide +kernel
theorem dX3_isOfGoal_11 : decode cX3_isOfGoal 11 = .ok (.istore 4, 2) := by decide +kernel
theorem dX3_isOfGoal_13 : decode cX3_isOfGoal 13 = .ok (.iload_n 3, 1) := by decide +kernel
theorem dX3_isOfGoal_14 : decode cX3_isOfGoal 14 = .ok (.ifCond .ne 5, 3) := by decide +kernel
theorem dX3_isOfGoal_17 : decode cX3_isOfGoal 17 = .ok (.iconst 0, 1) := by decide +kernel
theorem dX3_isOfGoal_18 : decode cX3_isOfGoal 18 = .ok (.ireturn, 1) := by decide +kernel
theorem dX3_isOfGoal_19 : decode cX3_isOfGoal 19 = .ok (.iload_n 2, 1) := by decide +kernel
theorem dX3_isOfGoal_20 : decode cX3_isOfGoal 20 = .ok (.ifCond .ne 15, 3) := by decide +kernel
theorem dX3_isOfGoal_23 : decode cX3_isOfGoal 23 = .ok (.iload 4, 2) := by decide +kernel
theorem dX3_isOfGoal_25 : decode cX3_isOfGoal 25 = .ok (.iconst 1, 1) := by decide +kernel
theorem dX3_isOfGoal_26 : decode cX3_isOfGoal 26 = .ok (.if_icmp .ne 7, 3) := by decide +kernel
theorem dX3_isOfGoal_29 : decode cX3_isOfGoal 29 = .ok (.iconst 1, 1) := by decide +kernel
theorem dX3_isOfGoal_30 : decode cX3_isOfGoal 30 = .ok (.goto 4, 3) := by decide +kernel
theorem dX3_isOfGoal_33 : decode cX3_isOfGoal 33 = .ok (.iconst 0, 1) := by decide +kernel
theorem dX3_isOfGoal_34 : decode cX3_isOfGoal 34 = .ok (.ireturn, 1) := by decide +kernel
theorem dX3_isOfGoal_35 : decode cX3_isOfGoal 35 = .ok (.iload 4, 2) := by decide +kernel
theorem dX3_isOfGoal_37 : decode cX3_isOfGoal 37 = .ok (.iload_n 3, 1) := by decide +kernel
theorem dX3_isOfGoal_38 : decode cX3_isOfGoal 38 = .ok (.if_icmp .eq 5, 3) := by decide +kernel
theorem dX3_isOfGoal_41 : decode cX3_isOfGoal 41 = .ok (.iconst 0, 1) := by decide +kernel
theorem dX3_isOfGoal_42 : decode cX3_isOfGoal 42 = .ok (.ireturn, 1) := by decide +kernel
theorem dX3_isOfGoal_43 : decode cX3_isOfGoal 43 = .ok (.iload_n 2, 1) := by decide +kernel
theorem dX3_isOfGoal_44 : decode cX3_isOfGoal 44 = .ok (.iconst 1, 1) := by decide +kernel
theorem dX3_isOfGoal_45 : decode cX3_isOfGoal 45 = .ok (.if_icmp .ne 17, 3) := by decide +kernel
theorem dX3_isOfGoal_48 : decode cX3_isOfGoal 48 = .ok (.aload_n 0, 1) := by decide +kernel
theorem dX3_isOfGoal_49 : decode cX3_isOfGoal 49 = .ok (.iload_n 1, 1) := by decide +kernel
theorem dX3_isOfGoal_50 : decode cX3_isOfGoal 50 = .ok (.aload_n 0, 1) := by decide +kernel
theorem dX3_isOfGoal_51 : decode cX3_isOfGoal 51 = .ok (.getfield 9, 3) := by decide +kernel
theorem dX3_isOfGoal_54 : decode cX3_isOfGoal 54 = .ok (.iload_n 3, 1) := by decide +kernel
theorem dX3_isOfGoal_55 : decode cX3_isOfGoal 55 = .ok (.idiv, 1) := by decide +kernel
theorem dX3_isOfGoal_56 : decode cX3_isOfGoal 56 = .ok (.invokevirtual 69, 3) := by decide +kernel
theorem dX3_isOfGoal_59 : decode cX3_isOfGoal 59 = .ok (.goto 8, 3) := by decide +kernel
theorem dX3_isOfGoal_62 : decode cX3_isOfGoal 62 = .ok (.aload_n 0, 1) := by decide +kernel
theorem dX3_isOfGoal_63 : decode cX3_isOfGoal 63 = .ok (.iload_n 1, 1) := by decide +kernel
theorem dX3_isOfGoal_64 : decode cX3_isOfGoal 64 = .ok (.invokevirtual 73, 3) := by decide +kernel
theorem dX3_isOfGoal_67 : decode cX3_isOfGoal 67 = .ok (.ireturn, 1) := by decide +kernel
theorem dX3_isSpread_0 : decode cX3_isSpread 0 = .ok (.iconst 0, 1) := by decide +kernel
theorem dX3_isSpread_1 : decode cX3_isSpread 1 = .ok (.istore_n 3, 1) := by decide +kernel
theorem dX3_isSpread_2 : decode cX3_isSpread 2 = .ok (.iload_n 3, 1) := by decide +kernel
theorem dX3_isSpread_3 : decode cX3_isSpread 3 = .ok (.aload_n 0, 1) := by decide +kernel
theorem dX3_isSpread_4 : decode cX3_isSpread 4 = .ok (.getfield 9, 3) := by decide +kernel
theorem dX3_isSpread_7 : decode cX3_isSpread 7 = .ok (.if_icmp .ge 42, 3) := by decide +kernel
theorem dX3_isSpread_10 : decode cX3_isSpread 10 = .ok (.aload_n 0, 1) := by decide +kernel
theorem dX3_isSpread_11 : decode cX3_isSpread 11 = .ok (.iload_n 1, 1) := by decide +kernel
theorem dX3_isSpread_12 : decode cX3_isSpread 12 = .ok (.iload_n 3, 1) := by decide +kernel
theorem dX3_isSpread_13 : decode cX3_isSpread 13 = .ok (.invokevirtual 26, 3) := by decide +kernel
theorem dX3_isSpread_16 : decode cX3_isSpread 16 = .ok (.ifCond .le 27, 3) := by decide +kernel
theorem dX3_isSpread_19 : decode cX3_isSpread 19 = .ok (.aload_n 0, 1) := by decide +kernel
theorem dX3_isSpread_20 : decode cX3_isSpread 20 = .ok (.iload_n 1, 1) := by decide +kernel
theorem dX3_isSpread_21 : decode cX3_isSpread 21 = .ok (.iload_n 3, 1) := by decide +kernel
theorem dX3_isSpread_22 : decode cX3_isSpread 22 = .ok (.invokevirtual 77, 3) := by decide +kernel
theorem dX3_isSpread_25 : decode cX3_isSpread 25 = .ok (.istore 4, 2) := by decide +kernel
theorem dX3_isSpread_27 : decode cX3_isSpread 27 = .ok (.iload 4, 2) := by decide +kernel
theorem dX3_isSpread_29 : decode cX3_isSpread 29 = .ok (.iload_n 2, 1) := by decide +kernel
theorem dX3_isSpread_30 : decode cX3_isSpread 30 = .ok (.if_icmp .eq 13, 3) := by decide +kernel
theorem dX3_isSpread_33 : decode cX3_isSpread 33 = .ok (.iload 4, 2) := by decide +kernel
theorem dX3_isSpread_35 : decode cX3_isSpread 35 = .ok (.iload_n 2, 1) := by decide +kernel
theorem dX3_isSpread_36 : decode cX3_isSpread 36 = .ok (.iconst 1, 1) := by decide +kernel
theorem dX3_isSpread_37 : decode cX3_isSpread 37 = .ok (.iadd, 1) := by decide +kernel
theorem dX3_isSpread_38 : decode cX3_isSpread 38 = .ok (.if_icmp .eq 5, 3) := by decide +kernel
theorem dX3_isSpread_41 : decode cX3_isSpread 41 = .ok (.iconst 0, 1) := by decide +kernel
theorem dX3_isSpread_42 : decode cX3_isSpread 42 = .ok (.ireturn, 1) := by decide +kernel
theorem dX3_isSpread_43 : decode cX3_isSpread 43 = .ok (.iinc 3 1, 3) := by decide +kernel
theorem dX3_isSpread_46 : decode cX3_isSpread 46 = .ok (.goto (-44), 3) := by decide +kernel
theorem dX3_isSpread_49 : decode cX3_isSpread 49 = .ok (.iconst 1, 1) := by decide +kernel
theorem dX3_isSpread_50 : decode cX3_isSpread 50 = .ok (.ireturn, 1) := by decide +kernel
theorem dX3_gapAbove_0 : decode cX3_gapAbove 0 = .ok (.iload_n 2, 1) := by decide +kernel
theorem dX3_gapAbove_1 : decode cX3_gapAbove 1 = .ok (.istore_n 3, 1) := by decide +kernel
theorem dX3_gapAbove_2 : decode cX3_gapAbove 2 = .ok (.iconst 1, 1) := by decide +kernel
theorem dX3_gapAbove_3 : decode cX3_gapAbove 3 = .ok (.istore 4, 2) := by decide +kernel
theorem dX3_gapAbove_5 : decode cX3_gapAbove 5 = .ok (.iload 4, 2) := by decide +kernel
theorem dX3_gapAbove_7 : decode cX3_gapAbove 7 = .ok (.aload_n 0, 1) := by decide +kernel
theorem dX3_gapAbove_8 : decode cX3_gapAbove 8 = .ok (.getfield 9, 3) := by decide +kernel
theorem dX3_gapAbove_11 : decode cX3_gapAbove 11 = .ok (.if_icmp .ge 28, 3) := by decide +kernel
theorem dX3_gapAbove_14 : decode cX3_gapAbove 14 = .ok (.aload_n 0, 1) := by decide +kernel
theorem dX3_gapAbove_15 : decode cX3_gapAbove 15 = .ok (.iload_n 3, 1) := by decide +kernel
theorem dX3_gapAbove_16 : decode cX3_gapAbove 16 = .ok (.iconst 1, 1) := by decide +kernel
theorem dX3_gapAbove_17 : decode cX3_gapAbove 17 = .ok (.invokevirtual 18, 3) := by decide +kernel
theorem dX3_gapAbove_20 : decode cX3_gapAbove 20 = .ok (.istore_n 3, 1) := by decide +kernel
theorem dX3_gapAbove_21 : decode cX3_gapAbove 21 = .ok (.aload_n 0, 1) := by decide +kernel
theorem dX3_gapAbove_22 : decode cX3_gapAbove 22 = .ok (.iload_n 1, 1) := by decide +kernel
theorem dX3_gapAbove_23 : decode cX3_gapAbove 23 = .ok (.iload_n 3, 1) := by decide +kernel
theorem dX3_gapAbove_24 : decode cX3_gapAbove 24 = .ok (.invokevirtual 26, 3) := by decide +kernel
theorem dX3_gapAbove_27 : decode cX3_gapAbove 27 = .ok (.ifCond .le 6, 3) := by decide +kernel
theorem dX3_gapAbove_30 : decode cX3_gapAbove 30 = .ok (.iload 4, 2) := by decide +kernel
theorem dX3_gapAbove_32 : decode cX3_gapAbove 32 = .ok (.ireturn, 1) := by decide +kernel
theorem dX3_gapAbove_33 : decode cX3_gapAbove 33 = .ok (.iinc 4 1, 3) := by decide +kernel
theorem dX3_gapAbove_36 : decode cX3_gapAbove 36 = .ok (.goto (-31), 3) := by decide +kernel
theorem dX3_gapAbove_39 : decode cX3_gapAbove 39 = .ok (.aload_n 0, 1) := by decide +kernel
theorem dX3_gapAbove_40 : decode cX3_gapAbove 40 = .ok (.getfield 9, 3) := by decide +kernel
theorem dX3_gapAbove_43 : decode cX3_gapAbove 43 = .ok (.ireturn, 1) := by decide +kernel
theorem dX3_isSideBySide_0 : decode cX3_isSideBySide 0 = .ok (.iconst 0, 1) := by decide +kernel
theorem dX3_isSideBySide_1 : decode cX3_isSideBySide 1 = .ok (.istore_n 2, 1) := by decide +kernel
theorem dX3_isSideBySide_2 : decode cX3_isSideBySide 2 = .ok (.iconst 0, 1) := by decide +kernel
theorem dX3_isSideBySide_3 : decode cX3_isSideBySide 3 = .ok (.istore_n 3, 1) := by decide +kernel
theorem dX3_isSideBySide_4 : decode cX3_isSideBySide 4 = .ok (.iload_n 3, 1) := by decide +kernel
theorem dX3_isSideBySide_5 : decode cX3_isSideBySide 5 = .ok (.aload_n 0, 1) := by decide +kernel
theorem dX3_isSideBySide_6 : decode cX3_isSideBySide 6 = .ok (.getfield 9, 3) := by decide +kernel
theorem dX3_isSideBySide_9 : decode cX3_isSideBySide 9 = .ok (.if_icmp .ge 35, 3) := by decide +kernel
theorem dX3_isSideBySide_12 : decode cX3_isSideBySide 12 = .ok (.aload_n 0, 1) := by decide +kernel
theorem dX3_isSideBySide_13 : decode cX3_isSideBySide 13 = .ok (.iload_n 1, 1) := by decide +kernel
theorem dX3_isSideBySide_14 : decode cX3_isSideBySide 14 = .ok (.iload_n 3, 1) := by decide +kernel
theorem dX3_isSideBySide_15 : decode cX3_isSideBySide 15 = .ok (.invokevirtual 26, 3) := by decide +kernel
theorem dX3_isSideBySide_18 : decode cX3_isSideBySide 18 = .ok (.ifCond .le 20, 3) := by decide +kernel
theorem dX3_isSideBySide_21 : decode cX3_isSideBySide 21 = .ok (.aload_n 0, 1) := by decide +kernel
theorem dX3_isSideBySide_22 : decode cX3_isSideBySide 22 = .ok (.iload_n 1, 1) := by decide +kernel
theorem dX3_isSideBySide_23 : decode cX3_isSideBySide 23 = .ok (.aload_n 0, 1) := by decide +kernel
theorem dX3_isSideBySide_24 : decode cX3_isSideBySide 24 = .ok (.iload_n 3, 1) := by decide +kernel
theorem dX3_isSideBySide_25 : decode cX3_isSideBySide 25 = .ok (.iconst 1, 1) := by decide +kernel
theorem dX3_isSideBySide_26 : decode cX3_isSideBySide 26 = .ok (.invokevirtual 18, 3) := by decide +kernel
theorem dX3_isSideBySide_29 : decode cX3_isSideBySide 29 = .ok (.invokevirtual 26, 3) := by decide +kernel
theorem dX3_isSideBySide_32 : decode cX3_isSideBySide 32 = .ok (.ifCond .ne 6, 3) := by decide +kernel
theorem dX3_isSideBySide_35 : decode cX3_isSideBySide 35 = .ok (.iinc 2 1, 3) := by decide +kernel
theorem dX3_isSideBySide_38 : decode cX3_isSideBySide 38 = .ok (.iinc 3 1, 3) := by decide +kernel
theorem dX3_isSideBySide_41 : decode cX3_isSideBySide 41 = .ok (.goto (-37), 3) := by decide +kernel
theorem dX3_isSideBySide_44 : decode cX3_isSideBySide 44 = .ok (.iload_n 2, 1) := by decide +kernel
theorem dX3_isSideBySide_45 : decode cX3_isSideBySide 45 = .ok (.iconst 1, 1) := by decide +kernel
theorem dX3_isSideBySide_46 : decode cX3_isSideBySide 46 = .ok (.if_icmp .gt 7, 3) := by decide +kernel
theorem dX3_isSideBySide_49 : decode cX3_isSideBySide 49 = .ok (.iconst 1, 1) := by decide +kernel
theorem dX3_isSideBySide_50 : decode cX3_isSideBySide 50 = .ok (.goto 4, 3) := by decide +kernel
theorem dX3_isSideBySide_53 : decode cX3_isSideBySide 53 = .ok (.iconst 0, 1) := by decide +kernel
theorem dX3_isSideBySide_54 : decode cX3_isSideBySide 54 = .ok (.ireturn, 1) := by decide +kernel
theorem dX4_with_0 : decode cX4_with 0 = .ok (.lload_n 0, 1) := by decide +kernel
theorem dX4_with_1 : decode cX4_with 1 = .ok (.bipush 7, 2) := by decide +kernel
theorem dX4_with_3 : decode cX4_with 3 = .ok (.lshl, 1) := by decide +kernel
theorem dX4_with_4 : decode cX4_with 4 = .ok (.iload_n 2, 1) := by decide +kernel
theorem dX4_with_5 : decode cX4_with 5 = .ok (.bipush 127, 2) := by decide +kernel
theorem dX4_with_7 : decode cX4_with 7 = .ok (.iand, 1) := by decide +kernel
theorem dX4_with_8 : decode cX4_with 8 = .ok (.i2l, 1) := by decide +kernel
theorem dX4_with_9 : decode cX4_with 9 = .ok (.lor, 1) := by decide +kernel
theorem dX4_with_10 : decode cX4_with 10 = .ok (.lreturn, 1) := by decide +kernel
theorem dX4_item_0 : decode cX4_item 0 = .ok (.iconst 0, 1) := by decide +kernel
theorem dX4_item_1 : decode cX4_item 1 = .ok (.istore_n 3, 1) := by decide +kernel
theorem dX4_item_2 : decode cX4_item 2 = .ok (.lload_n 0, 1) := by decide +kernel
theorem dX4_item_3 : decode cX4_item 3 = .ok (.lstore 4, 2) := by decide +kernel
theorem dX4_item_5 : decode cX4_item 5 = .ok (.lload 4, 2) := by decide +kernel
theorem dX4_item_7 : decode cX4_item 7 = .ok (.lconst 0, 1) := by decide +kernel
theorem dX4_item_8 : decode cX4_item 8 = .ok (.lcmp, 1) := by decide +kernel
theorem dX4_item_9 : decode cX4_item 9 = .ok (.ifCond .eq 22, 3) := by decide +kernel
theorem dX4_item_12 : decode cX4_item 12 = .ok (.iload_n 3, 1) := by decide +kernel
theorem dX4_item_13 : decode cX4_item 13 = .ok (.bipush 8, 2) := by decide +kernel
theorem dX4_item_15 : decode cX4_item 15 = .ok (.if_icmp .ge 16, 3) := by decide +kernel
theorem dX4_item_18 : decode cX4_item 18 = .ok (.iinc 3 1, 3) := by decide +kernel
theorem dX4_item_21 : decode cX4_item 21 = .ok (.lload 4, 2) := by decide +kernel
theorem dX4_item_23 : decode cX4_item 23 = .ok (.bipush 7, 2) := by decide +kernel
theorem dX4_item_25 : decode cX4_item 25 = .ok (.lushr, 1) := by decide +kernel
theorem dX4_item_26 : decode cX4_item 26 = .ok (.lstore 4, 2) := by decide +kernel
theorem dX4_item_28 : decode cX4_item 28 = .ok (.goto (-23), 3) := by decide +kernel
theorem dX4_item_31 : decode cX4_item 31 = .ok (.iload_n 2, 1) := by decide +kernel
theorem dX4_item_32 : decode cX4_item 32 = .ok (.iload_n 3, 1) := by decide +kernel
theorem dX4_item_33 : decode cX4_item 33 = .ok (.invokestatic 11, 3) := by decide +kernel
theorem dX4_item_36 : decode cX4_item 36 = .ok (.ifCond .eq 8, 3) := by decide +kernel
theorem dX4_item_39 : decode cX4_item 39 = .ok (.ldc 15, 2) := by decide +kernel
theorem dX4_item_41 : decode cX4_item 41 = .ok (.goto 17, 3) := by decide +kernel
theorem dX4_item_44 : decode cX4_item 44 = .ok (.lload_n 0, 1) := by decide +kernel
theorem dX4_item_45 : decode cX4_item 45 = .ok (.bipush 7, 2) := by decide +kernel
theorem dX4_item_47 : decode cX4_item 47 = .ok (.iload_n 3, 1) := by decide +kernel
theorem dX4_item_48 : decode cX4_item 48 = .ok (.iconst 1, 1) := by decide +kernel
theorem dX4_item_49 : decode cX4_item 49 = .ok (.isub, 1) := by decide +kernel
theorem dX4_item_50 : decode cX4_item 50 = .ok (.iload_n 2, 1) := by decide +kernel
theorem dX4_item_51 : decode cX4_item 51 = .ok (.isub, 1) := by decide +kernel
theorem dX4_item_52 : decode cX4_item 52 = .ok (.imul, 1) := by decide +kernel
theorem dX4_item_53 : decode cX4_item 53 = .ok (.lushr, 1) := by decide +kernel
theorem dX4_item_54 : decode cX4_item 54 = .ok (.l2i, 1) := by decide +kernel
theorem dX4_item_55 : decode cX4_item 55 = .ok (.bipush 127, 2) := by decide +kernel
theorem dX4_item_57 : decode cX4_item 57 = .ok (.iand, 1) := by decide +kernel
theorem dX4_item_58 : decode cX4_item 58 = .ok (.ireturn, 1) := by decide +kernel
theorem dX5_init_0 : decode cX5_init 0 = .ok (.aload_n 0, 1) := by decide +kernel
theorem dX5_init_1 : decode cX5_init 1 = .ok (.invokespecial 3, 3) := by decide +kernel
theorem dX5_init_4 : decode cX5_init 4 = .ok (.aload_n 0, 1) := by decide +kernel
theorem dX5_init_5 : decode cX5_init 5 = .ok (.sipush 400, 3) := by decide +kernel
theorem dX5_init_8 : decode cX5_init 8 = .ok (.newarray .int, 2) := by decide +kernel
theorem dX5_init_10 : decode cX5_init 10 = .ok (.putfield 9, 3) := by decide +kernel
theorem dX5_init_13 : decode cX5_init 13 = .ok (.aload_n 0, 1) := by decide +kernel
theorem dX5_init_14 : decode cX5_init 14 = .ok (.iconst 0, 1) := by decide +kernel
theorem dX5_init_15 : decode cX5_init 15 = .ok (.putfield 15, 3) := by decide +kernel
theorem dX5_init_18 : decode cX5_init 18 = .ok (.aload_n 0, 1) := by decide +kernel
theorem dX5_init_19 : decode cX5_init 19 = .ok (.iconst 0, 1) := by decide +kernel
theorem dX5_init_20 : decode cX5_init 20 = .ok (.putfield 19, 3) := by decide +kernel
theorem dX5_init_23 : decode cX5_init 23 = .ok (.aload_n 0, 1) := by decide +kernel
theorem dX5_init_24 : decode cX5_init 24 = .ok (.iconst 0, 1) := by decide +kernel
theorem dX5_init_25 : decode cX5_init 25 = .ok (.putfield 22, 3) := by decide +kernel
theorem dX5_init_28 : decode cX5_init 28 = .ok (.aload_n 0, 1) := by decide +kernel
theorem dX5_init_29 : decode cX5_init 29 = .ok (.iconst 0, 1) := by decide +kernel
theorem dX5_init_30 : decode cX5_init 30 = .ok (.putfield 25, 3) := by decide +kernel
theorem dX5_init_33 : decode cX5_init 33 = .ok (.aload_n 0, 1) := by decide +kernel
theorem dX5_init_34 : decode cX5_init 34 = .ok (.iconst 0, 1) := by decide +kernel
theorem dX5_init_35 : decode cX5_init 35 = .ok (.putfield 28, 3) := by decide +kernel
theorem dX5_init_38 : decode cX5_init 38 = .ok (.return_, 1) := by decide +kernel
theorem dX5_clear_0 : decode cX5_clear 0 = .ok (.aload_n 0, 1) := by decide +kernel
theorem dX5_clear_1 : decode cX5_clear 1 = .ok (.iconst 0, 1) := by decide +kernel
theorem dX5_clear_2 : decode cX5_clear 2 = .ok (.putfield 15, 3) := by decide +kernel
theorem dX5_clear_5 : decode cX5_clear 5 = .ok (.aload_n 0, 1) := by decide +kernel
theorem dX5_clear_6 : decode cX5_clear 6 = .ok (.invokevirtual 31, 3) := by decide +kernel
theorem dX5_clear_9 : decode cX5_clear 9 = .ok (.return_, 1) := by decide +kernel
theorem dX5_rewind_0 : decode cX5_rewind 0 = .ok (.aload_n 0, 1) := by decide +kernel
theorem dX5_rewind_1 : decode cX5_rewind 1 = .ok (.iconst 0, 1) := by decide +kernel
theorem dX5_rewind_2 : decode cX5_rewind 2 = .ok (.putfield 19, 3) := by decide +kernel
theorem dX5_rewind_5 : decode cX5_rewind 5 = .ok (.aload_n 0, 1) := by decide +kernel
theorem dX5_rewind_6 : decode cX5_rewind 6 = .ok (.iconst 0, 1) := by decide +kernel
theorem dX5_rewind_7 : decode cX5_rewind 7 = .ok (.putfield 22, 3) := by decide +kernel
theorem dX5_rewind_10 : decode cX5_rewind 10 = .ok (.aload_n 0, 1) := by decide +kernel
theorem dX5_rewind_11 : decode cX5_rewind 11 = .ok (.iconst 0, 1) := by decide +kernel
theorem dX5_rewind_12 : decode cX5_rewind 12 = .ok (.putfield 25, 3) := by decide +kernel
theorem dX5_rewind_15 : decode cX5_rewind 15 = .ok (.aload_n 0, 1) := by decide +kernel
theorem dX5_rewind_16 : decode cX5_rewind 16 = .ok (.iconst 0, 1) := by decide +kernel
theorem dX5_rewind_17 : decode cX5_rewind 17 = .ok (.putfield 28, 3) := by decide +kernel
theorem dX5_rewind_20 : decode cX5_rewind 20 = .ok (.return_, 1) := by decide +kernel
theorem dX5_append_0 : decode cX5_append 0 = .ok (.aload_n 0, 1) := by decide +kernel
theorem dX5_append_1 : decode cX5_append 1 = .ok (.getfield 15, 3) := by decide +kernel
theorem dX5_append_4 : decode cX5_append 4 = .ok (.iload_n 3, 1) := by decide +kernel
theorem dX5_append_5 : decode cX5_append 5 = .ok (.iadd, 1) := by decide +kernel
theorem dX5_append_6 : decode cX5_append 6 = .ok (.sipush 400, 3) := by decide +kernel
theorem dX5_append_9 : decode cX5_append 9 = .ok (.if_icmp .le 5, 3) := by decide +kernel
theorem dX5_append_12 : decode cX5_append 12 = .ok (.iconst 0, 1) := by decide +kernel
theorem dX5_append_13 : decode cX5_append 13 = .ok (.ireturn, 1) := by decide +kernel
theorem dX5_append_14 : decode cX5_append 14 = .ok (.iload_n 3, 1) := by decide +kernel
theorem dX5_append_15 : decode cX5_append 15 = .ok (.iconst 1, 1) := by decide +kernel
theorem dX5_append_16 : decode cX5_append 16 = .ok (.isub, 1) := by decide +kernel
theorem dX5_append_17 : decode cX5_append 17 = .ok (.istore 4, 2) := by decide +kernel
theorem dX5_append_19 : decode cX5_append 19 = .ok (.iload 4, 2) := by decide +kernel
theorem dX5_append_21 : decode cX5_append 21 = .ok (.ifCond .lt 40, 3) := by decide +kernel
theorem dX5_append_24 : decode cX5_append 24 = .ok (.aload_n 0, 1) := by decide +kernel
theorem dX5_append_25 : decode cX5_append 25 = .ok (.getfield 9, 3) := by decide +kernel
theorem dX5_append_28 : decode cX5_append 28 = .ok (.aload_n 0, 1) := by decide +kernel
theorem dX5_append_29 : decode cX5_append 29 = .ok (.getfield 15, 3) := by decide +kernel
theorem dX5_append_32 : decode cX5_append 32 = .ok (.lload_n 1, 1) := by decide +kernel
theorem dX5_append_33 : decode cX5_append 33 = .ok (.bipush 8, 2) := by decide +kernel
theorem dX5_append_35 : decode cX5_append 35 = .ok (.iload 4, 2) := by decide +kernel
theorem dX5_append_37 : decode cX5_append 37 = .ok (.imul, 1) := by decide +kernel
theorem dX5_append_38 : decode cX5_append 38 = .ok (.lushr, 1) := by decide +kernel
theorem dX5_append_39 : decode cX5_append 39 = .ok (.l2i, 1) := by decide +kernel
theorem dX5_append_40 : decode cX5_append 40 = .ok (.sipush 255, 3) := by decide +kernel
theorem dX5_append_43 : decode cX5_append 43 = .ok (.iand, 1) := by decide +kernel
theorem dX5_append_44 : decode cX5_append 44 = .ok (.iastore, 1) := by decide +kernel
theorem dX5_append_45 : decode cX5_append 45 = .ok (.aload_n 0, 1) := by decide +kernel
theorem dX5_append_46 : decode cX5_append 46 = .ok (.dup, 1) := by decide +kernel
theorem dX5_append_47 : decode cX5_append 47 = .ok (.getfield 15, 3) := by decide +kernel
theorem dX5_append_50 : decode cX5_append 50 = .ok (.iconst 1, 1) := by decide +kernel
theorem dX5_append_51 : decode cX5_append 51 = .ok (.iadd, 1) := by decide +kernel
theorem dX5_append_52 : decode cX5_append 52 = .ok (.putfield 15, 3) := by decide +kernel
theorem dX5_append_55 : decode cX5_append 55 = .ok (.iinc 4 (-1), 3) := by decide +kernel
theorem dX5_append_58 : decode cX5_append 58 = .ok (.goto (-39), 3) := by decide +kernel
theorem dX5_append_61 : decode cX5_append 61 = .ok (.iconst 1, 1) := by decide +kernel
theorem dX5_append_62 : decode cX5_append 62 = .ok (.ireturn, 1) := by decide +kernel
theorem dX5_readToken_0 : decode cX5_readToken 0 = .ok (.aload_n 0, 1) := by decide +kernel
theorem dX5_readToken_1 : decode cX5_readToken 1 = .ok (.aload_n 0, 1) := by decide +kernel
theorem dX5_readToken_2 : decode cX5_readToken 2 = .ok (.getfield 28, 3) := by decide +kernel
theorem dX5_readToken_5 : decode cX5_readToken 5 = .ok (.putfield 22, 3) := by decide +kernel
theorem dX5_readToken_8 : decode cX5_readToken 8 = .ok (.aload_n 0, 1) := by decide +kernel
theorem dX5_readToken_9 : decode cX5_readToken 9 = .ok (.getfield 22, 3) := by decide +kernel
theorem dX5_readToken_12 : decode cX5_readToken 12 = .ok (.aload_n 0, 1) := by decide +kernel
theorem dX5_readToken_13 : decode cX5_readToken 13 = .ok (.getfield 15, 3) := by decide +kernel
theorem dX5_readToken_16 : decode cX5_readToken 16 = .ok (.if_icmp .ge 30, 3) := by decide +kernel
theorem dX5_readToken_19 : decode cX5_readToken 19 = .ok (.aload_n 0, 1) := by decide +kernel
theorem dX5_readToken_20 : decode cX5_readToken 20 = .ok (.aload_n 0, 1) := by decide +kernel
theorem dX5_readToken_21 : decode cX5_readToken 21 = .ok (.getfield 22, 3) := by decide +kernel
theorem dX5_readToken_24 : decode cX5_readToken 24 = .ok (.invokevirtual 34, 3) := by decide +kernel
theorem dX5_readToken_27 : decode cX5_readToken 27 = .ok (.invokestatic 38, 3) := by decide +kernel
theorem dX5_readToken_30 : decode cX5_readToken 30 = .ok (.ifCond .eq 16, 3) := by decide +kernel
theorem dX5_readToken_33 : decode cX5_readToken 33 = .ok (.aload_n 0, 1) := by decide +kernel
theorem dX5_readToken_34 : decode cX5_readToken 34 = .ok (.dup, 1) := by decide +kernel
theorem dX5_readToken_35 : decode cX5_readToken 35 = .ok (.getfield 22, 3) := by decide +kernel
theorem dX5_readToken_38 : decode cX5_readToken 38 = .ok (.iconst 1, 1) := by decide +kernel
theorem dX5_readToken_39 : decode cX5_readToken 39 = .ok (.iadd, 1) := by decide +kernel
theorem dX5_readToken_40 : decode cX5_readToken 40 = .ok (.putfield 22, 3) := by decide +kernel
theorem dX5_readToken_43 : decode cX5_readToken 43 = .ok (.goto (-35), 3) := by decide +kernel
theorem dX5_readToken_46 : decode cX5_readToken 46 = .ok (.aload_n 0, 1) := by decide +kernel
theorem dX5_readToken_47 : decode cX5_readToken 47 = .ok (.aload_n 0, 1) := by decide +kernel
theorem dX5_readToken_48 : decode cX5_readToken 48 = .ok (.getfield 22, 3) := by decide +kernel
theorem dX5_readToken_51 : decode cX5_readToken 51 = .ok (.iconst 1, 1) := by decide +kernel
theorem dX5_readToken_52 : decode cX5_readToken 52 = .ok (.iadd, 1) := by decide +kernel
theorem dX5_readToken_53 : decode cX5_readToken 53 = .ok (.putfield 28, 3) := by decide +kernel
theorem dX5_readToken_56 : decode cX5_readToken 56 = .ok (.aload_n 0, 1) := by decide +kernel
theorem dX5_readToken_57 : decode cX5_readToken 57 = .ok (.iconst 0, 1) := by decide +kernel
theorem dX5_readToken_58 : decode cX5_readToken 58 = .ok (.putfield 25, 3) := by decide +kernel
theorem dX5_readToken_61 : decode cX5_readToken 61 = .ok (.aload_n 0, 1) := by decide +kernel
theorem dX5_readToken_62 : decode cX5_readToken 62 = .ok (.aload_n 0, 1) := by decide +kernel
theorem dX5_readToken_63 : decode cX5_readToken 63 = .ok (.getfield 22, 3) := by decide +kernel
theorem dX5_readToken_66 : decode cX5_readToken 66 = .ok (.invokevirtual 34, 3) := by decide +kernel
theorem dX5_readToken_69 : decode cX5_readToken 69 = .ok (.istore_n 1, 1) := by decide +kernel
theorem dX5_readToken_70 : decode cX5_readToken 70 = .ok (.aload_n 0, 1) := by decide +kernel
theorem dX5_readToken_71 : decode cX5_readToken 71 = .ok (.getfield 22, 3) := by decide +kernel
theorem dX5_readToken_74 : decode cX5_readToken 74 = .ok (.aload_n 0, 1) := by decide +kernel
theorem dX5_readToken_75 : decode cX5_readToken 75 = .ok (.getfield 15, 3) := by decide +kernel
theorem dX5_readToken_78 : decode cX5_readToken 78 = .ok (.if_icmp .lt 19, 3) := by decide +kernel
theorem dX5_readToken_81 : decode cX5_readToken 81 = .ok (.aload_n 0, 1) := by decide +kernel
theorem dX5_readToken_82 : decode cX5_readToken 82 = .ok (.aload_n 0, 1) := by decide +kernel
theorem dX5_readToken_83 : decode cX5_readToken 83 = .ok (.getfield 15, 3) := by decide +kernel
theorem dX5_readToken_86 : decode cX5_readToken 86 = .ok (.putfield 28, 3) := by decide +kernel
theorem dX5_readToken_89 : decode cX5_readToken 89 = .ok (.aload_n 0, 1) := by decide +kernel
theorem dX5_readToken_90 : decode cX5_readToken 90 = .ok (.iconst 1, 1) := by decide +kernel
theorem dX5_readToken_91 : decode cX5_readToken 91 = .ok (.putfield 19, 3) := by decide +kernel
theorem dX5_readToken_94 : decode cX5_readToken 94 = .ok (.goto 56, 3) := by decide +kernel
theorem dX5_readToken_97 : decode cX5_readToken 97 = .ok (.iload_n 1, 1) := by decide +kernel
theorem dX5_readToken_98 : decode cX5_readToken 98 = .ok (.invokestatic 42, 3) := by decide +kernel
theorem dX5_readToken_101 : decode cX5_readToken 101 = .ok (.ifCond .eq 10, 3) := by decide +kernel
theorem dX5_readToken_104 : decode cX5_readToken 104 = .ok (.aload_n 0, 1) := by decide +kernel
theorem dX5_readToken_105 : decode cX5_readToken 105 = .ok (.invokevirtual 45, 3) := by decide +kernel
theorem dX5_readToken_108 : decode cX5_readToken 108 = .ok (.goto 42, 3) := by decide +kernel
theorem dX5_readToken_111 : decode cX5_readToken 111 = .ok (.iload_n 1, 1) := by decide +kernel
theorem dX5_readToken_112 : decode cX5_readToken 112 = .ok (.invokestatic 48, 3) := by decide +kernel
theorem dX5_readToken_115 : decode cX5_readToken 115 = .ok (.ifCond .eq 10, 3) := by decide +kernel
theorem dX5_readToken_118 : decode cX5_readToken 118 = .ok (.aload_n 0, 1) := by decide +kernel
theorem dX5_readToken_119 : decode cX5_readToken 119 = .ok (.invokevirtual 51, 3) := by decide +kernel
theorem dX5_readToken_122 : decode cX5_readToken 122 = .ok (.goto 28, 3) := by decide +kernel
theorem dX5_readToken_125 : decode cX5_readToken 125 = .ok (.aload_n 0, 1) := by decide +kernel
theorem dX5_readToken_126 : decode cX5_readToken 126 = .ok (.iload_n 1, 1) := by decide +kernel
theorem dX5_readToken_127 : decode cX5_readToken 127 = .ok (.bipush 44, 2) := by decide +kernel
theorem dX5_readToken_129 : decode cX5_readToken 129 = .ok (.if_icmp .ne 7, 3) := by decide +kernel
theorem dX5_readToken_132 : decode cX5_readToken 132 = .ok (.iconst 3, 1) := by decide +kernel
theorem dX5_readToken_133 : decode cX5_readToken 133 = .ok (.goto 14, 3) := by decide +kernel
theorem dX5_readToken_136 : decode cX5_readToken 136 = .ok (.iload_n 1, 1) := by decide +kernel
theorem dX5_readToken_137 : decode cX5_readToken 137 = .ok (.bipush 59, 2) := by decide +kernel
theorem dX5_readToken_139 : decode cX5_readToken 139 = .ok (.if_icmp .ne 7, 3) := by decide +kernel
theorem dX5_readToken_142 : decode cX5_readToken 142 = .ok (.iconst 4, 1) := by decide +kernel
theorem dX5_readToken_143 : decode cX5_readToken 143 = .ok (.goto 4, 3) := by decide +kernel
theorem dX5_readToken_146 : decode cX5_readToken 146 = .ok (.iconst 0, 1) := by decide +kernel
theorem dX5_readToken_147 : decode cX5_readToken 147 = .ok (.putfield 19, 3) := by decide +kernel
theorem dX5_readToken_150 : decode cX5_readToken 150 = .ok (.return_, 1) := by decide +kernel
theorem dX5_readNumber_0 : decode cX5_readNumber 0 = .ok (.aload_n 0, 1) := by decide +kernel
theorem dX5_readNumber_1 : decode cX5_readNumber 1 = .ok (.getfield 28, 3) := by decide +kernel
theorem dX5_readNumber_4 : decode cX5_readNumber 4 = .ok (.aload_n 0, 1) := by decide +kernel
theorem dX5_readNumber_5 : decode cX5_readNumber 5 = .ok (.getfield 15, 3) := by decide +kernel
theorem dX5_readNumber_8 : decode cX5_readNumber 8 = .ok (.if_icmp .ge 30, 3) := by decide +kernel
theorem dX5_readNumber_11 : decode cX5_readNumber 11 = .ok (.aload_n 0, 1) := by decide +kernel
theorem dX5_readNumber_12 : decode cX5_readNumber 12 = .ok (.aload_n 0, 1) := by decide +kernel
theorem dX5_readNumber_13 : decode cX5_readNumber 13 = .ok (.getfield 28, 3) := by decide +kernel
theorem dX5_readNumber_16 : decode cX5_readNumber 16 = .ok (.invokevirtual 34, 3) := by decide +kernel
theorem dX5_readNumber_19 : decode cX5_readNumber 19 = .ok (.invokestatic 42, 3) := by decide +kernel
theorem dX5_readNumber_22 : decode cX5_readNumber 22 = .ok (.ifCond .eq 16, 3) := by decide +kernel
theorem dX5_readNumber_25 : decode cX5_readNumber 25 = .ok (.aload_n 0, 1) := by decide +kernel
theorem dX5_readNumber_26 : decode cX5_readNumber 26 = .ok (.dup, 1) := by decide +kernel
theorem dX5_readNumber_27 : decode cX5_readNumber 27 = .ok (.getfield 28, 3) := by decide +kernel
theorem dX5_readNumber_30 : decode cX5_readNumber 30 = .ok (.iconst 1, 1) := by decide +kernel
theorem dX5_readNumber_31 : decode cX5_readNumber 31 = .ok (.iadd, 1) := by decide +kernel
theorem dX5_readNumber_32 : decode cX5_readNumber 32 = .ok (.putfield 28, 3) := by decide +kernel
theorem dX5_readNumber_35 : decode cX5_readNumber 35 = .ok (.goto (-35), 3) := by decide +kernel
theorem dX5_readNumber_38 : decode cX5_readNumber 38 = .ok (.aload_n 0, 1) := by decide +kernel
theorem dX5_readNumber_39 : decode cX5_readNumber 39 = .ok (.aload_n 0, 1) := by decide +kernel
theorem dX5_readNumber_40 : decode cX5_readNumber 40 = .ok (.getfield 28, 3) := by decide +kernel
theorem dX5_readNumber_43 : decode cX5_readNumber 43 = .ok (.aload_n 0, 1) := by decide +kernel
theorem dX5_readNumber_44 : decode cX5_readNumber 44 = .ok (.getfield 22, 3) := by decide +kernel
theorem dX5_readNumber_47 : decode cX5_readNumber 47 = .ok (.isub, 1) := by decide +kernel
theorem dX5_readNumber_48 : decode cX5_readNumber 48 = .ok (.iconst 2, 1) := by decide +kernel
theorem dX5_readNumber_49 : decode cX5_readNumber 49 = .ok (.if_icmp .le 7, 3) := by decide +kernel
theorem dX5_readNumber_52 : decode cX5_readNumber 52 = .ok (.iconst 0, 1) := by decide +kernel
theorem dX5_readNumber_53 : decode cX5_readNumber 53 = .ok (.goto 4, 3) := by decide +kernel
theorem dX5_readNumber_56 : decode cX5_readNumber 56 = .ok (.iconst 2, 1) := by decide +kernel
theorem dX5_readNumber_57 : decode cX5_readNumber 57 = .ok (.putfield 19, 3) := by decide +kernel
theorem dX5_readNumber_60 : decode cX5_readNumber 60 = .ok (.aload_n 0, 1) := by decide +kernel
theorem dX5_readNumber_61 : decode cX5_readNumber 61 = .ok (.getfield 22, 3) := by decide +kernel
theorem dX5_readNumber_64 : decode cX5_readNumber 64 = .ok (.istore_n 1, 1) := by decide +kernel
theorem dX5_readNumber_65 : decode cX5_readNumber 65 = .ok (.iload_n 1, 1) := by decide +kernel
theorem dX5_readNumber_66 : decode cX5_readNumber 66 = .ok (.aload_n 0, 1) := by decide +kernel
theorem dX5_readNumber_67 : decode cX5_readNumber 67 = .ok (.getfield 28, 3) := by decide +kernel
theorem dX5_readNumber_70 : decode cX5_readNumber 70 = .ok (.if_icmp .ge 37, 3) := by decide +kernel
theorem dX5_readNumber_73 : decode cX5_readNumber 73 = .ok (.aload_n 0, 1) := by decide +kernel
theorem dX5_readNumber_74 : decode cX5_readNumber 74 = .ok (.getfield 19, 3) := by decide +kernel
theorem dX5_readNumber_77 : decode cX5_readNumber 77 = .ok (.iconst 2, 1) := by decide +kernel
theorem dX5_readNumber_78 : decode cX5_readNumber 78 = .ok (.if_icmp .ne 29, 3) := by decide +kernel
theorem dX5_readNumber_81 : decode cX5_readNumber 81 = .ok (.aload_n 0, 1) := by decide +kernel
theorem dX5_readNumber_82 : decode cX5_readNumber 82 = .ok (.bipush 10, 2) := by decide +kernel
theorem dX5_readNumber_84 : decode cX5_readNumber 84 = .ok (.aload_n 0, 1) := by decide +kernel
theorem dX5_readNumber_85 : decode cX5_readNumber 85 = .ok (.getfield 25, 3) := by decide +kernel
theorem dX5_readNumber_88 : decode cX5_readNumber 88 = .ok (.imul, 1) := by decide +kernel
theorem dX5_readNumber_89 : decode cX5_readNumber 89 = .ok (.aload_n 0, 1) := by decide +kernel
theorem dX5_readNumber_90 : decode cX5_readNumber 90 = .ok (.iload_n 1, 1) := by decide +kernel
theorem dX5_readNumber_91 : decode cX5_readNumber 91 = .ok (.invokevirtual 34, 3) := by decide +kernel
theorem dX5_readNumber_94 : decode cX5_readNumber 94 = .ok (.iadd, 1) := by decide +kernel
theorem dX5_readNumber_95 : decode cX5_readNumber 95 = .ok (.bipush 48, 2) := by decide +kernel
theorem dX5_readNumber_97 : decode cX5_readNumber 97 = .ok (.isub, 1) := by decide +kernel
theorem dX5_readNumber_98 : decode cX5_readNumber 98 = .ok (.putfield 25, 3) := by decide +kernel
theorem dX5_readNumber_101 : decode cX5_readNumber 101 = .ok (.iinc 1 1, 3) := by decide +kernel
theorem dX5_readNumber_104 : decode cX5_readNumber 104 = .ok (.goto (-39), 3) := by decide +kernel
theorem dX5_readNumber_107 : decode cX5_readNumber 107 = .ok (.return_, 1) := by decide +kernel
theorem dX5_readName_0 : decode cX5_readName 0 = .ok (.aload_n 0, 1) := by decide +kernel
theorem dX5_readName_1 : decode cX5_readName 1 = .ok (.getfield 28, 3) := by decide +kernel
theorem dX5_readName_4 : decode cX5_readName 4 = .ok (.aload_n 0, 1) := by decide +kernel
theorem dX5_readName_5 : decode cX5_readName 5 = .ok (.getfield 15, 3) := by decide +kernel
theorem dX5_readName_8 : decode cX5_readName 8 = .ok (.if_icmp .ge 30, 3) := by decide +kernel
theorem dX5_readName_11 : decode cX5_readName 11 = .ok (.aload_n 0, 1) := by decide +kernel
theorem dX5_readName_12 : decode cX5_readName 12 = .ok (.aload_n 0, 1) := by decide +kernel
theorem dX5_readName_13 : decode cX5_readName 13 = .ok (.getfield 28, 3) := by decide +kernel
theorem dX5_readName_16 : decode cX5_readName 16 = .ok (.invokevirtual 34, 3) := by decide +kernel
theorem dX5_readName_19 : decode cX5_readName 19 = .ok (.invokestatic 48, 3) := by decide +kernel
theorem dX5_readName_22 : decode cX5_readName 22 = .ok (.ifCond .eq 16, 3) := by decide +kernel
theorem dX5_readName_25 : decode cX5_readName 25 = .ok (.aload_n 0, 1) := by decide +kernel
theorem dX5_readName_26 : decode cX5_readName 26 = .ok (.dup, 1) := by decide +kernel
theorem dX5_readName_27 : decode cX5_readName 27 = .ok (.getfield 28, 3) := by decide +kernel
theorem dX5_readName_30 : decode cX5_readName 30 = .ok (.iconst 1, 1) := by decide +kernel
theorem dX5_readName_31 : decode cX5_readName 31 = .ok (.iadd, 1) := by decide +kernel
theorem dX5_readName_32 : decode cX5_readName 32 = .ok (.putfield 28, 3) := by decide +kernel
theorem dX5_readName_35 : decode cX5_readName 35 = .ok (.goto (-35), 3) := by decide +kernel
theorem dX5_readName_38 : decode cX5_readName 38 = .ok (.aload_n 0, 1) := by decide +kernel
theorem dX5_readName_39 : decode cX5_readName 39 = .ok (.bipush 6, 2) := by decide +kernel
theorem dX5_readName_41 : decode cX5_readName 41 = .ok (.putfield 19, 3) := by decide +kernel
theorem dX5_readName_44 : decode cX5_readName 44 = .ok (.aload_n 0, 1) := by decide +kernel
theorem dX5_readName_45 : decode cX5_readName 45 = .ok (.ldc 54, 2) := by decide +kernel
theorem dX5_readName_47 : decode cX5_readName 47 = .ok (.invokevirtual 56, 3) := by decide +kernel
theorem dX5_readName_50 : decode cX5_readName 50 = .ok (.ifCond .eq 11, 3) := by decide +kernel
theorem dX5_readName_53 : decode cX5_readName 53 = .ok (.aload_n 0, 1) := by decide +kernel
theorem dX5_readName_54 : decode cX5_readName 54 = .ok (.iconst 5, 1) := by decide +kernel
theorem dX5_readName_55 : decode cX5_readName 55 = .ok (.putfield 19, 3) := by decide +kernel
theorem dX5_readName_58 : decode cX5_readName 58 = .ok (.goto 59, 3) := by decide +kernel
theorem dX5_readName_61 : decode cX5_readName 61 = .ok (.aload_n 0, 1) := by decide +kernel
theorem dX5_readName_62 : decode cX5_readName 62 = .ok (.ldc 60, 2) := by decide +kernel
theorem dX5_readName_64 : decode cX5_readName 64 = .ok (.invokevirtual 56, 3) := by decide +kernel
theorem dX5_readName_67 : decode cX5_readName 67 = .ok (.ifCond .eq 11, 3) := by decide +kernel
theorem dX5_readName_70 : decode cX5_readName 70 = .ok (.aload_n 0, 1) := by decide +kernel
theorem dX5_readName_71 : decode cX5_readName 71 = .ok (.iconst 1, 1) := by decide +kernel
theorem dX5_readName_72 : decode cX5_readName 72 = .ok (.putfield 25, 3) := by decide +kernel
theorem dX5_readName_75 : decode cX5_readName 75 = .ok (.goto 42, 3) := by decide +kernel
theorem dX5_readName_78 : decode cX5_readName 78 = .ok (.aload_n 0, 1) := by decide +kernel
theorem dX5_readName_79 : decode cX5_readName 79 = .ok (.ldc 62, 2) := by decide +kernel
theorem dX5_readName_81 : decode cX5_readName 81 = .ok (.invokevirtual 56, 3) := by decide +kernel
theorem dX5_readName_84 : decode cX5_readName 84 = .ok (.ifCond .eq 11, 3) := by decide +kernel
theorem dX5_readName_87 : decode cX5_readName 87 = .ok (.aload_n 0, 1) := by decide +kernel
theorem dX5_readName_88 : decode cX5_readName 88 = .ok (.iconst 2, 1) := by decide +kernel
theorem dX5_readName_89 : decode cX5_readName 89 = .ok (.putfield 25, 3) := by decide +kernel
theorem dX5_readName_92 : decode cX5_readName 92 = .ok (.goto 25, 3) := by decide +kernel
theorem dX5_readName_95 : decode cX5_readName 95 = .ok (.aload_n 0, 1) := by decide +kernel
theorem dX5_readName_96 : decode cX5_readName 96 = .ok (.ldc 64, 2) := by decide +kernel
theorem dX5_readName_98 : decode cX5_readName 98 = .ok (.invokevirtual 56, 3) := by decide +kernel
theorem dX5_readName_101 : decode cX5_readName 101 = .ok (.ifCond .eq 11, 3) := by decide +kernel
theorem dX5_readName_104 : decode cX5_readName 104 = .ok (.aload_n 0, 1) := by decide +kernel
theorem dX5_readName_105 : decode cX5_readName 105 = .ok (.iconst 0, 1) := by decide +kernel
theorem dX5_readName_106 : decode cX5_readName 106 = .ok (.putfield 25, 3) := by decide +kernel
theorem dX5_readName_109 : decode cX5_readName 109 = .ok (.goto 8, 3) := by decide +kernel
theorem dX5_readName_112 : decode cX5_readName 112 = .ok (.aload_n 0, 1) := by decide +kernel
theorem dX5_readName_113 : decode cX5_readName 113 = .ok (.iconst 0, 1) := by decide +kernel
theorem dX5_readName_114 : decode cX5_readName 114 = .ok (.putfield 19, 3) := by decide +kernel
theorem dX5_readName_117 : decode cX5_readName 117 = .ok (.return_, 1) := by decide +kernel
theorem dX5_spells_0 : decode cX5_spells 0 = .ok (.aload_n 0, 1) := by decide +kernel
theorem dX5_spells_1 : decode cX5_spells 1 = .ok (.getfield 28, 3) := by decide +kernel
theorem dX5_spells_4 : decode cX5_spells 4 = .ok (.aload_n 0, 1) := by decide +kernel
theorem dX5_spells_5 : decode cX5_spells 5 = .ok (.getfield 22, 3) := by decide +kernel
theorem dX5_spells_8 : decode cX5_spells 8 = .ok (.isub, 1) := by decide +kernel
theorem dX5_spells_9 : decode cX5_spells 9 = .ok (.aload_n 1, 1) := by decide +kernel
theorem dX5_spells_10 : decode cX5_spells 10 = .ok (.invokevirtual 66, 3) := by decide +kernel
theorem dX5_spells_13 : decode cX5_spells 13 = .ok (.if_icmp .eq 5, 3) := by decide +kernel
theorem dX5_spells_16 : decode cX5_spells 16 = .ok (.iconst 0, 1) := by decide +kernel
theorem dX5_spells_17 : decode cX5_spells 17 = .ok (.ireturn, 1) := by decide +kernel
theorem dX5_spells_18 : decode cX5_spells 18 = .ok (.iconst 0, 1) := by decide +kernel
theorem dX5_spells_19 : decode cX5_spells 19 = .ok (.istore_n 2, 1) := by decide +kernel
theorem dX5_spells_20 : decode cX5_spells 20 = .ok (.iload_n 2, 1) := by decide +kernel
theorem dX5_spells_21 : decode cX5_spells 21 = .ok (.aload_n 1, 1) := by decide +kernel
theorem dX5_spells_22 : decode cX5_spells 22 = .ok (.invokevirtual 66, 3) := by decide +kernel
theorem dX5_spells_25 : decode cX5_spells 25 = .ok (.if_icmp .ge 29, 3) := by decide +kernel
theorem dX5_spells_28 : decode cX5_spells 28 = .ok (.aload_n 0, 1) := by decide +kernel
theorem dX5_spells_29 : decode cX5_spells 29 = .ok (.aload_n 0, 1) := by decide +kernel
theorem dX5_spells_30 : decode cX5_spells 30 = .ok (.getfield 22, 3) := by decide +kernel
theorem dX5_spells_33 : decode cX5_spells 33 = .ok (.iload_n 2, 1) := by decide +kernel
theorem dX5_spells_34 : decode cX5_spells 34 = .ok (.iadd, 1) := by decide +kernel
theorem dX5_spells_35 : decode cX5_spells 35 = .ok (.invokevirtual 34, 3) := by decide +kernel
theorem dX5_spells_38 : decode cX5_spells 38 = .ok (.aload_n 1, 1) := by decide +kernel
theorem dX5_spells_39 : decode cX5_spells 39 = .ok (.iload_n 2, 1) := by decide +kernel
theorem dX5_spells_40 : decode cX5_spells 40 = .ok (.invokevirtual 71, 3) := by decide +kernel
theorem dX5_spells_43 : decode cX5_spells 43 = .ok (.if_icmp .eq 5, 3) := by decide +kernel
theorem dX5_spells_46 : decode cX5_spells 46 = .ok (.iconst 0, 1) := by decide +kernel
theorem dX5_spells_47 : decode cX5_spells 47 = .ok (.ireturn, 1) := by decide +kernel
theorem dX5_spells_48 : decode cX5_spells 48 = .ok (.iinc 2 1, 3) := by decide +kernel
theorem dX5_spells_51 : decode cX5_spells 51 = .ok (.goto (-31), 3) := by decide +kernel
theorem dX5_spells_54 : decode cX5_spells 54 = .ok (.iconst 1, 1) := by decide +kernel
theorem dX5_spells_55 : decode cX5_spells 55 = .ok (.ireturn, 1) := by decide +kernel
theorem dX5_byteAt_0 : decode cX5_byteAt 0 = .ok (.iload_n 1, 1) := by decide +kernel
theorem dX5_byteAt_1 : decode cX5_byteAt 1 = .ok (.aload_n 0, 1) := by decide +kernel
theorem dX5_byteAt_2 : decode cX5_byteAt 2 = .ok (.getfield 15, 3) := by decide +kernel
theorem dX5_byteAt_5 : decode cX5_byteAt 5 = .ok (.invokestatic 75, 3) := by decide +kernel
theorem dX5_byteAt_8 : decode cX5_byteAt 8 = .ok (.ifCond .ne 10, 3) := by decide +kernel
theorem dX5_byteAt_11 : decode cX5_byteAt 11 = .ok (.iload_n 1, 1) := by decide +kernel
theorem dX5_byteAt_12 : decode cX5_byteAt 12 = .ok (.sipush 400, 3) := by decide +kernel
theorem dX5_byteAt_15 : decode cX5_byteAt 15 = .ok (.if_icmp .lt 7, 3) := by decide +kernel
theorem dX5_byteAt_18 : decode cX5_byteAt 18 = .ok (.iconst (-1), 1) := by decide +kernel
theorem dX5_byteAt_19 : decode cX5_byteAt 19 = .ok (.goto 9, 3) := by decide +kernel
theorem dX5_byteAt_22 : decode cX5_byteAt 22 = .ok (.aload_n 0, 1) := by decide +kernel
theorem dX5_byteAt_23 : decode cX5_byteAt 23 = .ok (.getfield 9, 3) := by decide +kernel
theorem dX5_byteAt_26 : decode cX5_byteAt 26 = .ok (.iload_n 1, 1) := by decide +kernel
theorem dX5_byteAt_27 : decode cX5_byteAt 27 = .ok (.iaload, 1) := by decide +kernel
theorem dX5_byteAt_28 : decode cX5_byteAt 28 = .ok (.ireturn, 1) := by decide +kernel
theorem dX5_isBlank_0 : decode cX5_isBlank 0 = .ok (.iload_n 0, 1) := by decide +kernel
theorem dX5_isBlank_1 : decode cX5_isBlank 1 = .ok (.bipush 32, 2) := by decide +kernel
theorem dX5_isBlank_3 : decode cX5_isBlank 3 = .ok (.if_icmp .eq 9, 3) := by decide +kernel
theorem dX5_isBlank_6 : decode cX5_isBlank 6 = .ok (.iload_n 0, 1) := by decide +kernel
theorem dX5_isBlank_7 : decode cX5_isBlank 7 = .ok (.bipush 10, 2) := by decide +kernel
theorem dX5_isBlank_9 : decode cX5_isBlank 9 = .ok (.if_icmp .ne 7, 3) := by decide +kernel
theorem dX5_isBlank_12 : decode cX5_isBlank 12 = .ok (.iconst 1, 1) := by decide +kernel
theorem dX5_isBlank_13 : decode cX5_isBlank 13 = .ok (.goto 4, 3) := by decide +kernel
theorem dX5_isBlank_16 : decode cX5_isBlank 16 = .ok (.iconst 0, 1) := by decide +kernel
theorem dX5_isBlank_17 : decode cX5_isBlank 17 = .ok (.ireturn, 1) := by decide +kernel
theorem dX5_isFigure_0 : decode cX5_isFigure 0 = .ok (.iload_n 0, 1) := by decide +kernel
theorem dX5_isFigure_1 : decode cX5_isFigure 1 = .ok (.bipush 48, 2) := by decide +kernel
theorem dX5_isFigure_3 : decode cX5_isFigure 3 = .ok (.if_icmp .lt 13, 3) := by decide +kernel
theorem dX5_isFigure_6 : decode cX5_isFigure 6 = .ok (.iload_n 0, 1) := by decide +kernel
theorem dX5_isFigure_7 : decode cX5_isFigure 7 = .ok (.bipush 57, 2) := by decide +kernel
theorem dX5_isFigure_9 : decode cX5_isFigure 9 = .ok (.if_icmp .gt 7, 3) := by decide +kernel
theorem dX5_isFigure_12 : decode cX5_isFigure 12 = .ok (.iconst 1, 1) := by decide +kernel
theorem dX5_isFigure_13 : decode cX5_isFigure 13 = .ok (.goto 4, 3) := by decide +kernel
theorem dX5_isFigure_16 : decode cX5_isFigure 16 = .ok (.iconst 0, 1) := by decide +kernel
theorem dX5_isFigure_17 : decode cX5_isFigure 17 = .ok (.ireturn, 1) := by decide +kernel
theorem dX5_isLetter_0 : decode cX5_isLetter 0 = .ok (.iload_n 0, 1) := by decide +kernel
theorem dX5_isLetter_1 : decode cX5_isLetter 1 = .ok (.bipush 97, 2) := by decide +kernel
theorem dX5_isLetter_3 : decode cX5_isLetter 3 = .ok (.if_icmp .lt 13, 3) := by decide +kernel
theorem dX5_isLetter_6 : decode cX5_isLetter 6 = .ok (.iload_n 0, 1) := by decide +kernel
theorem dX5_isLetter_7 : decode cX5_isLetter 7 = .ok (.bipush 122, 2) := by decide +kernel
theorem dX5_isLetter_9 : decode cX5_isLetter 9 = .ok (.if_icmp .gt 7, 3) := by decide +kernel
theorem dX5_isLetter_12 : decode cX5_isLetter 12 = .ok (.iconst 1, 1) := by decide +kernel
theorem dX5_isLetter_13 : decode cX5_isLetter 13 = .ok (.goto 4, 3) := by decide +kernel
theorem dX5_isLetter_16 : decode cX5_isLetter 16 = .ok (.iconst 0, 1) := by decide +kernel
theorem dX5_isLetter_17 : decode cX5_isLetter 17 = .ok (.ireturn, 1) := by decide +kernel
theorem dX6_init_0 : decode cX6_init 0 = .ok (.aload_n 0, 1) := by decide +kernel
theorem dX6_init_1 : decode cX6_init 1 = .ok (.invokespecial 3, 3) := by decide +kernel
theorem dX6_init_4 : decode cX6_init 4 = .ok (.aload_n 0, 1) := by decide +kernel
theorem dX6_init_5 : decode cX6_init 5 = .ok (.bipush 64, 2) := by decide +kernel
theorem dX6_init_7 : decode cX6_init 7 = .ok (.newarray .int, 2) := by decide +kernel
theorem dX6_init_9 : decode cX6_init 9 = .ok (.putfield 11, 3) := by decide +kernel
theorem dX6_init_12 : decode cX6_init 12 = .ok (.aload_n 0, 1) := by decide +kernel
theorem dX6_init_13 : decode cX6_init 13 = .ok (.iconst 3, 1) := by decide +kernel
theorem dX6_init_14 : decode cX6_init 14 = .ok (.newarray .long, 2) := by decide +kernel
theorem dX6_init_16 : decode cX6_init 16 = .ok (.putfield 15, 3) := by decide +kernel
theorem dX6_init_19 : decode cX6_init 19 = .ok (.aload_n 0, 1) := by decide +kernel
theorem dX6_init_20 : decode cX6_init 20 = .ok (.sipush 192, 3) := by decide +kernel
theorem dX6_init_23 : decode cX6_init 23 = .ok (.newarray .long, 2) := by decide +kernel
theorem dX6_init_25 : decode cX6_init 25 = .ok (.putfield 19, 3) := by decide +kernel
theorem dX6_init_28 : decode cX6_init 28 = .ok (.aload_n 0, 1) := by decide +kernel
theorem dX6_init_29 : decode cX6_init 29 = .ok (.iconst 3, 1) := by decide +kernel
theorem dX6_init_30 : decode cX6_init 30 = .ok (.newarray .boolean, 2) := by decide +kernel
theorem dX6_init_32 : decode cX6_init 32 = .ok (.putfield 22, 3) := by decide +kernel
theorem dX6_init_35 : decode cX6_init 35 = .ok (.aload_n 0, 1) := by decide +kernel
theorem dX6_init_36 : decode cX6_init 36 = .ok (.bipush 9, 2) := by decide +kernel
theorem dX6_init_38 : decode cX6_init 38 = .ok (.newarray .int, 2) := by decide +kernel
theorem dX6_init_40 : decode cX6_init 40 = .ok (.putfield 26, 3) := by decide +kernel
theorem dX6_init_43 : decode cX6_init 43 = .ok (.aload_n 0, 1) := by decide +kernel
theorem dX6_init_44 : decode cX6_init 44 = .ok (.bipush 9, 2) := by decide +kernel
theorem dX6_init_46 : decode cX6_init 46 = .ok (.newarray .int, 2) := by decide +kernel
theorem dX6_init_48 : decode cX6_init 48 = .ok (.putfield 29, 3) := by decide +kernel
theorem dX6_init_51 : decode cX6_init 51 = .ok (.aload_n 0, 1) := by decide +kernel
theorem dX6_init_52 : decode cX6_init 52 = .ok (.bipush 81, 2) := by decide +kernel
theorem dX6_init_54 : decode cX6_init 54 = .ok (.newarray .int, 2) := by decide +kernel
theorem dX6_init_56 : decode cX6_init 56 = .ok (.putfield 32, 3) := by decide +kernel
theorem dX6_init_59 : decode cX6_init 59 = .ok (.aload_n 0, 1) := by decide +kernel
theorem dX6_init_60 : decode cX6_init 60 = .ok (.iconst 0, 1) := by decide +kernel
theorem dX6_init_61 : decode cX6_init 61 = .ok (.putfield 35, 3) := by decide +kernel
theorem dX6_init_64 : decode cX6_init 64 = .ok (.aload_n 0, 1) := by decide +kernel
theorem dX6_init_65 : decode cX6_init 65 = .ok (.iconst 0, 1) := by decide +kernel
theorem dX6_init_66 : decode cX6_init 66 = .ok (.putfield 39, 3) := by decide +kernel
theorem dX6_init_69 : decode cX6_init 69 = .ok (.aload_n 0, 1) := by decide +kernel
theorem dX6_init_70 : decode cX6_init 70 = .ok (.iconst 0, 1) := by decide +kernel
theorem dX6_init_71 : decode cX6_init 71 = .ok (.putfield 42, 3) := by decide +kernel
theorem dX6_init_74 : decode cX6_init 74 = .ok (.aload_n 0, 1) := by decide +kernel
theorem dX6_init_75 : decode cX6_init 75 = .ok (.aload_n 1, 1) := by decide +kernel
theorem dX6_init_76 : decode cX6_init 76 = .ok (.putfield 45, 3) := by decide +kernel
theorem dX6_init_79 : decode cX6_init 79 = .ok (.return_, 1) := by decide +kernel
theorem dX6_forgetRules_0 : decode cX6_forgetRules 0 = .ok (.iconst 0, 1) := by decide +kernel
theorem dX6_forgetRules_1 : decode cX6_forgetRules 1 = .ok (.istore_n 1, 1) := by decide +kernel
theorem dX6_forgetRules_2 : decode cX6_forgetRules 2 = .ok (.iload_n 1, 1) := by decide +kernel
theorem dX6_forgetRules_3 : decode cX6_forgetRules 3 = .ok (.iconst 3, 1) := by decide +kernel
theorem dX6_forgetRules_4 : decode cX6_forgetRules 4 = .ok (.if_icmp .ge 16, 3) := by decide +kernel
theorem dX6_forgetRules_7 : decode cX6_forgetRules 7 = .ok (.aload_n 0, 1) := by decide +kernel
theorem dX6_forgetRules_8 : decode cX6_forgetRules 8 = .ok (.getfield 22, 3) := by decide +kernel
theorem dX6_forgetRules_11 : decode cX6_forgetRules 11 = .ok (.iload_n 1, 1) := by decide +kernel
theorem dX6_forgetRules_12 : decode cX6_forgetRules 12 = .ok (.iconst 0, 1) := by decide +kernel
theorem dX6_forgetRules_13 : decode cX6_forgetRules 13 = .ok (.bastore, 1) := by decide +kernel
theorem dX6_forgetRules_14 : decode cX6_forgetRules 14 = .ok (.iinc 1 1, 3) := by decide +kernel
theorem dX6_forgetRules_17 : decode cX6_forgetRules 17 = .ok (.goto (-15), 3) := by decide +kernel
theorem dX6_forgetRules_20 : decode cX6_forgetRules 20 = .ok (.return_, 1) := by decide +kernel
theorem dX6_gatherFor_0 : decode cX6_gatherFor 0 = .ok (.aload_n 0, 1) := by decide +kernel
theorem dX6_gatherFor_1 : decode cX6_gatherFor 1 = .ok (.getfield 35, 3) := by decide +kernel
theorem dX6_gatherFor_4 : decode cX6_gatherFor 4 = .ok (.iload_n 1, 1) := by decide +kernel
theorem dX6_gatherFor_5 : decode cX6_gatherFor 5 = .ok (.if_icmp .ne 4, 3) := by decide +kernel
theorem dX6_gatherFor_8 : decode cX6_gatherFor 8 = .ok (.return_, 1) := by decide +kernel
theorem dX6_gatherFor_9 : decode cX6_gatherFor 9 = .ok (.aload_n 0, 1) := by decide +kernel
theorem dX6_gatherFor_10 : decode cX6_gatherFor 10 = .ok (.iload_n 1, 1) := by decide +kernel
theorem dX6_gatherFor_11 : decode cX6_gatherFor 11 = .ok (.putfield 35, 3) := by decide +kernel
theorem dX6_gatherFor_14 : decode cX6_gatherFor 14 = .ok (.aload_n 0, 1) := by decide +kernel
theorem dX6_gatherFor_15 : decode cX6_gatherFor 15 = .ok (.iconst 0, 1) := by decide +kernel
theorem dX6_gatherFor_16 : decode cX6_gatherFor 16 = .ok (.putfield 39, 3) := by decide +kernel
theorem dX6_gatherFor_19 : decode cX6_gatherFor 19 = .ok (.aload_n 0, 1) := by decide +kernel
theorem dX6_gatherFor_20 : decode cX6_gatherFor 20 = .ok (.aload_n 0, 1) := by decide +kernel
theorem dX6_gatherFor_21 : decode cX6_gatherFor 21 = .ok (.getfield 45, 3) := by decide +kernel
theorem dX6_gatherFor_24 : decode cX6_gatherFor 24 = .ok (.iconst 0, 1) := by decide +kernel
theorem dX6_gatherFor_25 : decode cX6_gatherFor 25 = .ok (.invokevirtual 49, 3) := by decide +kernel
theorem dX6_gatherFor_28 : decode cX6_gatherFor 28 = .ok (.iconst 0, 1) := by decide +kernel
theorem dX6_gatherFor_29 : decode cX6_gatherFor 29 = .ok (.iload_n 1, 1) := by decide +kernel
theorem dX6_gatherFor_30 : decode cX6_gatherFor 30 = .ok (.iconst 4, 1) := by decide +kernel
theorem dX6_gatherFor_31 : decode cX6_gatherFor 31 = .ok (.invokestatic 55, 3) := by decide +kernel
theorem dX6_gatherFor_34 : decode cX6_gatherFor 34 = .ok (.iconst 1, 1) := by decide +kernel
theorem dX6_gatherFor_35 : decode cX6_gatherFor 35 = .ok (.isub, 1) := by decide +kernel
theorem dX6_gatherFor_36 : decode cX6_gatherFor 36 = .ok (.invokevirtual 61, 3) := by decide +kernel
theorem dX6_gatherFor_39 : decode cX6_gatherFor 39 = .ok (.aload_n 0, 1) := by decide +kernel
theorem dX6_gatherFor_40 : decode cX6_gatherFor 40 = .ok (.invokevirtual 65, 3) := by decide +kernel
theorem dX6_gatherFor_43 : decode cX6_gatherFor 43 = .ok (.aload_n 0, 1) := by decide +kernel
theorem dX6_gatherFor_44 : decode cX6_gatherFor 44 = .ok (.invokevirtual 68, 3) := by decide +kernel
theorem dX6_gatherFor_47 : decode cX6_gatherFor 47 = .ok (.return_, 1) := by decide +kernel
theorem dX6_gather_0 : decode cX6_gather 0 = .ok (.iload_n 3, 1) := by decide +kernel
theorem dX6_gather_1 : decode cX6_gather 1 = .ok (.ifCond .gt 45, 3) := by decide +kernel
theorem dX6_gather_4 : decode cX6_gather 4 = .ok (.aload_n 0, 1) := by decide +kernel
theorem dX6_gather_5 : decode cX6_gather 5 = .ok (.getfield 39, 3) := by decide +kernel
theorem dX6_gather_8 : decode cX6_gather 8 = .ok (.bipush 64, 2) := by decide +kernel
theorem dX6_gather_10 : decode cX6_gather 10 = .ok (.if_icmp .ge 35, 3) := by decide +kernel
theorem dX6_gather_13 : decode cX6_gather 13 = .ok (.aload_n 0, 1) := by decide +kernel
theorem dX6_gather_14 : decode cX6_gather 14 = .ok (.getfield 45, 3) := by decide +kernel
theorem dX6_gather_17 : decode cX6_gather 17 = .ok (.iload_n 1, 1) := by decide +kernel
theorem dX6_gather_18 : decode cX6_gather 18 = .ok (.invokevirtual 71, 3) := by decide +kernel
theorem dX6_gather_21 : decode cX6_gather 21 = .ok (.iload_n 1, 1) := by decide +kernel
theorem dX6_gather_22 : decode cX6_gather 22 = .ok (.if_icmp .ne 23, 3) := by decide +kernel
theorem dX6_gather_25 : decode cX6_gather 25 = .ok (.aload_n 0, 1) := by decide +kernel
theorem dX6_gather_26 : decode cX6_gather 26 = .ok (.getfield 11, 3) := by decide +kernel
theorem dX6_gather_29 : decode cX6_gather 29 = .ok (.aload_n 0, 1) := by decide +kernel
theorem dX6_gather_30 : decode cX6_gather 30 = .ok (.getfield 39, 3) := by decide +kernel
theorem dX6_gather_33 : decode cX6_gather 33 = .ok (.iload_n 1, 1) := by decide +kernel
theorem dX6_gather_34 : decode cX6_gather 34 = .ok (.iastore, 1) := by decide +kernel
theorem dX6_gather_35 : decode cX6_gather 35 = .ok (.aload_n 0, 1) := by decide +kernel
theorem dX6_gather_36 : decode cX6_gather 36 = .ok (.dup, 1) := by decide +kernel
theorem dX6_gather_37 : decode cX6_gather 37 = .ok (.getfield 39, 3) := by decide +kernel
theorem dX6_gather_40 : decode cX6_gather 40 = .ok (.iconst 1, 1) := by decide +kernel
theorem dX6_gather_41 : decode cX6_gather 41 = .ok (.iadd, 1) := by decide +kernel
theorem dX6_gather_42 : decode cX6_gather 42 = .ok (.putfield 39, 3) := by decide +kernel
theorem dX6_gather_45 : decode cX6_gather 45 = .ok (.return_, 1) := by decide +kernel
theorem dX6_gather_46 : decode cX6_gather 46 = .ok (.iload_n 2, 1) := by decide +kernel
theorem dX6_gather_47 : decode cX6_gather 47 = .ok (.istore 4, 2) := by decide +kernel
theorem dX6_gather_49 : decode cX6_gather 49 = .ok (.iload 4, 2) := by decide +kernel
theorem dX6_gather_51 : decode cX6_gather 51 = .ok (.aload_n 0, 1) := by decide +kernel
theorem dX6_gather_52 : decode cX6_gather 52 = .ok (.getfield 45, 3) := by decide +kernel
theorem dX6_gather_55 : decode cX6_gather 55 = .ok (.getfield 74, 3) := by decide +kernel
theorem dX6_gather_58 : decode cX6_gather 58 = .ok (.if_icmp .ge 29, 3) := by decide +kernel
theorem dX6_gather_61 : decode cX6_gather 61 = .ok (.aload_n 0, 1) := by decide +kernel
theorem dX6_gather_62 : decode cX6_gather 62 = .ok (.iload_n 1, 1) := by decide +kernel
theorem dX6_gather_63 : decode cX6_gather 63 = .ok (.aload_n 0, 1) := by decide +kernel
theorem dX6_gather_64 : decode cX6_gather 64 = .ok (.getfield 45, 3) := by decide +kernel
theorem dX6_gather_67 : decode cX6_gather 67 = .ok (.iload 4, 2) := by decide +kernel
theorem dX6_gather_69 : decode cX6_gather 69 = .ok (.invokevirtual 49, 3) := by decide +kernel
theorem dX6_gather_72 : decode cX6_gather 72 = .ok (.iadd, 1) := by decide +kernel
theorem dX6_gather_73 : decode cX6_gather 73 = .ok (.iload 4, 2) := by decide +kernel
theorem dX6_gather_75 : decode cX6_gather 75 = .ok (.iload_n 3, 1) := by decide +kernel
theorem dX6_gather_76 : decode cX6_gather 76 = .ok (.iconst 1, 1) := by decide +kernel
theorem dX6_gather_77 : decode cX6_gather 77 = .ok (.isub, 1) := by decide +kernel
theorem dX6_gather_78 : decode cX6_gather 78 = .ok (.invokevirtual 61, 3) := by decide +kernel
theorem dX6_gather_81 : decode cX6_gather 81 = .ok (.iinc 4 1, 3) := by decide +kernel
theorem dX6_gather_84 : decode cX6_gather 84 = .ok (.goto (-35), 3) := by decide +kernel
theorem dX6_gather_87 : decode cX6_gather 87 = .ok (.return_, 1) := by decide +kernel
theorem dX6_markGoals_0 : decode cX6_markGoals 0 = .ok (.iconst 0, 1) := by decide +kernel
theorem dX6_markGoals_1 : decode cX6_markGoals 1 = .ok (.istore_n 1, 1) := by decide +kernel
theorem dX6_markGoals_2 : decode cX6_markGoals 2 = .ok (.iload_n 1, 1) := by decide +kernel
theorem dX6_markGoals_3 : decode cX6_markGoals 3 = .ok (.iconst 3, 1) := by decide +kernel
theorem dX6_markGoals_4 : decode cX6_markGoals 4 = .ok (.if_icmp .ge 67, 3) := by decide +kernel
theorem dX6_markGoals_7 : decode cX6_markGoals 7 = .ok (.aload_n 0, 1) := by decide +kernel
theorem dX6_markGoals_8 : decode cX6_markGoals 8 = .ok (.getfield 15, 3) := by decide +kernel
theorem dX6_markGoals_11 : decode cX6_markGoals 11 = .ok (.iload_n 1, 1) := by decide +kernel
theorem dX6_markGoals_12 : decode cX6_markGoals 12 = .ok (.lconst 0, 1) := by decide +kernel
theorem dX6_markGoals_13 : decode cX6_markGoals 13 = .ok (.lastore, 1) := by decide +kernel
theorem dX6_markGoals_14 : decode cX6_markGoals 14 = .ok (.iconst 0, 1) := by decide +kernel
theorem dX6_markGoals_15 : decode cX6_markGoals 15 = .ok (.istore_n 2, 1) := by decide +kernel
theorem dX6_markGoals_16 : decode cX6_markGoals 16 = .ok (.iload_n 2, 1) := by decide +kernel
theorem dX6_markGoals_17 : decode cX6_markGoals 17 = .ok (.aload_n 0, 1) := by decide +kernel
theorem dX6_markGoals_18 : decode cX6_markGoals 18 = .ok (.getfield 39, 3) := by decide +kernel
theorem dX6_markGoals_21 : decode cX6_markGoals 21 = .ok (.if_icmp .ge 44, 3) := by decide +kernel
theorem dX6_markGoals_24 : decode cX6_markGoals 24 = .ok (.iload_n 2, 1) := by decide +kernel
theorem dX6_markGoals_25 : decode cX6_markGoals 25 = .ok (.bipush 64, 2) := by decide +kernel
theorem dX6_markGoals_27 : decode cX6_markGoals 27 = .ok (.if_icmp .ge 38, 3) := by decide +kernel
theorem dX6_markGoals_30 : decode cX6_markGoals 30 = .ok (.aload_n 0, 1) := by decide +kernel
theorem dX6_markGoals_31 : decode cX6_markGoals 31 = .ok (.getfield 45, 3) := by decide +kernel
theorem dX6_markGoals_34 : decode cX6_markGoals 34 = .ok (.aload_n 0, 1) := by decide +kernel
theorem dX6_markGoals_35 : decode cX6_markGoals 35 = .ok (.getfield 11, 3) := by decide +kernel
theorem dX6_markGoals_38 : decode cX6_markGoals 38 = .ok (.iload_n 2, 1) := by decide +kernel
theorem dX6_markGoals_39 : decode cX6_markGoals 39 = .ok (.iaload, 1) := by decide +kernel
theorem dX6_markGoals_40 : decode cX6_markGoals 40 = .ok (.iload_n 1, 1) := by decide +kernel
theorem dX6_markGoals_41 : decode cX6_markGoals 41 = .ok (.invokevirtual 77, 3) := by decide +kernel
theorem dX6_markGoals_44 : decode cX6_markGoals 44 = .ok (.ifCond .eq 15, 3) := by decide +kernel
theorem dX6_markGoals_47 : decode cX6_markGoals 47 = .ok (.aload_n 0, 1) := by decide +kernel
theorem dX6_markGoals_48 : decode cX6_markGoals 48 = .ok (.getfield 15, 3) := by decide +kernel
theorem dX6_markGoals_51 : decode cX6_markGoals 51 = .ok (.iload_n 1, 1) := by decide +kernel
theorem dX6_markGoals_52 : decode cX6_markGoals 52 = .ok (.dup2, 1) := by decide +kernel
theorem dX6_markGoals_53 : decode cX6_markGoals 53 = .ok (.laload, 1) := by decide +kernel
theorem dX6_markGoals_54 : decode cX6_markGoals 54 = .ok (.lconst 1, 1) := by decide +kernel
theorem dX6_markGoals_55 : decode cX6_markGoals 55 = .ok (.iload_n 2, 1) := by decide +kernel
theorem dX6_markGoals_56 : decode cX6_markGoals 56 = .ok (.lshl, 1) := by decide +kernel
theorem dX6_markGoals_57 : decode cX6_markGoals 57 = .ok (.lor, 1) := by decide +kernel
theorem dX6_markGoals_58 : decode cX6_markGoals 58 = .ok (.lastore, 1) := by decide +kernel
theorem dX6_markGoals_59 : decode cX6_markGoals 59 = .ok (.iinc 2 1, 3) := by decide +kernel
theorem dX6_markGoals_62 : decode cX6_markGoals 62 = .ok (.goto (-46), 3) := by decide +kernel
theorem dX6_markGoals_65 : decode cX6_markGoals 65 = .ok (.iinc 1 1, 3) := by decide +kernel
theorem dX6_markGoals_68 : decode cX6_markGoals 68 = .ok (.goto (-66), 3) := by decide +kernel
theorem dX6_markGoals_71 : decode cX6_markGoals 71 = .ok (.return_, 1) := by decide +kernel
theorem dX6_numberOf_0 : decode cX6_numberOf 0 = .ok (.aload_n 0, 1) := by decide +kernel
theorem dX6_numberOf_1 : decode cX6_numberOf 1 = .ok (.getfield 45, 3) := by decide +kernel
theorem dX6_numberOf_4 : decode cX6_numberOf 4 = .ok (.iload_n 1, 1) := by decide +kernel
theorem dX6_numberOf_5 : decode cX6_numberOf 5 = .ok (.invokevirtual 71, 3) := by decide +kernel
theorem dX6_numberOf_8 : decode cX6_numberOf 8 = .ok (.istore_n 2, 1) := by decide +kernel
theorem dX6_numberOf_9 : decode cX6_numberOf 9 = .ok (.iconst 0, 1) := by decide +kernel
theorem dX6_numberOf_10 : decode cX6_numberOf 10 = .ok (.istore_n 3, 1) := by decide +kernel
theorem dX6_numberOf_11 : decode cX6_numberOf 11 = .ok (.iload_n 3, 1) := by decide +kernel
theorem dX6_numberOf_12 : decode cX6_numberOf 12 = .ok (.aload_n 0, 1) := by decide +kernel
theorem dX6_numberOf_13 : decode cX6_numberOf 13 = .ok (.getfield 39, 3) := by decide +kernel
theorem dX6_numberOf_16 : decode cX6_numberOf 16 = .ok (.if_icmp .ge 27, 3) := by decide +kernel
theorem dX6_numberOf_19 : decode cX6_numberOf 19 = .ok (.iload_n 3, 1) := by decide +kernel
theorem dX6_numberOf_20 : decode cX6_numberOf 20 = .ok (.bipush 64, 2) := by decide +kernel
theorem dX6_numberOf_22 : decode cX6_numberOf 22 = .ok (.if_icmp .ge 21, 3) := by decide +kernel
theorem dX6_numberOf_25 : decode cX6_numberOf 25 = .ok (.aload_n 0, 1) := by decide +kernel
theorem dX6_numberOf_26 : decode cX6_numberOf 26 = .ok (.getfield 11, 3) := by decide +kernel
theorem dX6_numberOf_29 : decode cX6_numberOf 29 = .ok (.iload_n 3, 1) := by decide +kernel
theorem dX6_numberOf_30 : decode cX6_numberOf 30 = .ok (.iaload, 1) := by decide +kernel
theorem dX6_numberOf_31 : decode cX6_numberOf 31 = .ok (.iload_n 2, 1) := by decide +kernel
theorem dX6_numberOf_32 : decode cX6_numberOf 32 = .ok (.if_icmp .ne 5, 3) := by decide +kernel
theorem dX6_numberOf_35 : decode cX6_numberOf 35 = .ok (.iload_n 3, 1) := by decide +kernel
theorem dX6_numberOf_36 : decode cX6_numberOf 36 = .ok (.ireturn, 1) := by decide +kernel
theorem dX6_numberOf_37 : decode cX6_numberOf 37 = .ok (.iinc 3 1, 3) := by decide +kernel
theorem dX6_numberOf_40 : decode cX6_numberOf 40 = .ok (.goto (-29), 3) := by decide +kernel
theorem dX6_numberOf_43 : decode cX6_numberOf 43 = .ok (.iconst 0, 1) := by decide +kernel
theorem dX6_numberOf_44 : decode cX6_numberOf 44 = .ok (.ireturn, 1) := by decide +kernel
theorem dX6_linkBy_0 : decode cX6_linkBy 0 = .ok (.iload_n 2, 1) := by decide +kernel
theorem dX6_linkBy_1 : decode cX6_linkBy 1 = .ok (.iconst 3, 1) := by decide +kernel
theorem dX6_linkBy_2 : decode cX6_linkBy 2 = .ok (.invokestatic 81, 3) := by decide +kernel
theorem dX6_linkBy_5 : decode cX6_linkBy 5 = .ok (.ifCond .ne 12, 3) := by decide +kernel
theorem dX6_linkBy_8 : decode cX6_linkBy 8 = .ok (.aload_n 0, 1) := by decide +kernel
theorem dX6_linkBy_9 : decode cX6_linkBy 9 = .ok (.getfield 22, 3) := by decide +kernel
theorem dX6_linkBy_12 : decode cX6_linkBy 12 = .ok (.iload_n 2, 1) := by decide +kernel
theorem dX6_linkBy_13 : decode cX6_linkBy 13 = .ok (.baload, 1) := by decide +kernel
theorem dX6_linkBy_14 : decode cX6_linkBy 14 = .ok (.ifCond .eq 4, 3) := by decide +kernel
theorem dX6_linkBy_17 : decode cX6_linkBy 17 = .ok (.return_, 1) := by decide +kernel
theorem dX6_linkBy_18 : decode cX6_linkBy 18 = .ok (.aload_n 0, 1) := by decide +kernel
theorem dX6_linkBy_19 : decode cX6_linkBy 19 = .ok (.getfield 22, 3) := by decide +kernel
theorem dX6_linkBy_22 : decode cX6_linkBy 22 = .ok (.iload_n 2, 1) := by decide +kernel
theorem dX6_linkBy_23 : decode cX6_linkBy 23 = .ok (.iconst 1, 1) := by decide +kernel
theorem dX6_linkBy_24 : decode cX6_linkBy 24 = .ok (.bastore, 1) := by decide +kernel
theorem dX6_linkBy_25 : decode cX6_linkBy 25 = .ok (.iconst 0, 1) := by decide +kernel
theorem dX6_linkBy_26 : decode cX6_linkBy 26 = .ok (.istore_n 3, 1) := by decide +kernel
theorem dX6_linkBy_27 : decode cX6_linkBy 27 = .ok (.iload_n 3, 1) := by decide +kernel
theorem dX6_linkBy_28 : decode cX6_linkBy 28 = .ok (.aload_n 0, 1) := by decide +kernel
theorem dX6_linkBy_29 : decode cX6_linkBy 29 = .ok (.getfield 39, 3) := by decide +kernel
theorem dX6_linkBy_32 : decode cX6_linkBy 32 = .ok (.if_icmp .ge 78, 3) := by decide +kernel
theorem dX6_linkBy_35 : decode cX6_linkBy 35 = .ok (.iload_n 3, 1) := by decide +kernel
theorem dX6_linkBy_36 : decode cX6_linkBy 36 = .ok (.bipush 64, 2) := by decide +kernel
theorem dX6_linkBy_38 : decode cX6_linkBy 38 = .ok (.if_icmp .ge 72, 3) := by decide +kernel
theorem dX6_linkBy_41 : decode cX6_linkBy 41 = .ok (.aload_n 0, 1) := by decide +kernel
theorem dX6_linkBy_42 : decode cX6_linkBy 42 = .ok (.aload_n 1, 1) := by decide +kernel
theorem dX6_linkBy_43 : decode cX6_linkBy 43 = .ok (.aload_n 0, 1) := by decide +kernel
theorem dX6_linkBy_44 : decode cX6_linkBy 44 = .ok (.getfield 11, 3) := by decide +kernel
theorem dX6_linkBy_47 : decode cX6_linkBy 47 = .ok (.iload_n 3, 1) := by decide +kernel
theorem dX6_linkBy_48 : decode cX6_linkBy 48 = .ok (.iaload, 1) := by decide +kernel
theorem dX6_linkBy_49 : decode cX6_linkBy 49 = .ok (.invokevirtual 84, 3) := by decide +kernel
theorem dX6_linkBy_52 : decode cX6_linkBy 52 = .ok (.aload_n 0, 1) := by decide +kernel
theorem dX6_linkBy_53 : decode cX6_linkBy 53 = .ok (.iconst 0, 1) := by decide +kernel
theorem dX6_linkBy_54 : decode cX6_linkBy 54 = .ok (.putfield 42, 3) := by decide +kernel
theorem dX6_linkBy_57 : decode cX6_linkBy 57 = .ok (.iload_n 2, 1) := by decide +kernel
theorem dX6_linkBy_58 : decode cX6_linkBy 58 = .ok (.iconst 1, 1) := by decide +kernel
theorem dX6_linkBy_59 : decode cX6_linkBy 59 = .ok (.if_icmp .ne 16, 3) := by decide +kernel
theorem dX6_linkBy_62 : decode cX6_linkBy 62 = .ok (.aload_n 0, 1) := by decide +kernel
theorem dX6_linkBy_63 : decode cX6_linkBy 63 = .ok (.aload_n 0, 1) := by decide +kernel
theorem dX6_linkBy_64 : decode cX6_linkBy 64 = .ok (.getfield 11, 3) := by decide +kernel
theorem dX6_linkBy_67 : decode cX6_linkBy 67 = .ok (.iload_n 3, 1) := by decide +kernel
theorem dX6_linkBy_68 : decode cX6_linkBy 68 = .ok (.iaload, 1) := by decide +kernel
theorem dX6_linkBy_69 : decode cX6_linkBy 69 = .ok (.invokevirtual 88, 3) := by decide +kernel
theorem dX6_linkBy_72 : decode cX6_linkBy 72 = .ok (.goto 22, 3) := by decide +kernel
theorem dX6_linkBy_75 : decode cX6_linkBy 75 = .ok (.aload_n 0, 1) := by decide +kernel
theorem dX6_linkBy_76 : decode cX6_linkBy 76 = .ok (.aload_n 0, 1) := by decide +kernel
theorem dX6_linkBy_77 : decode cX6_linkBy 77 = .ok (.getfield 11, 3) := by decide +kernel
theorem dX6_linkBy_80 : decode cX6_linkBy 80 = .ok (.iload_n 3, 1) := by decide +kernel
theorem dX6_linkBy_81 : decode cX6_linkBy 81 = .ok (.iaload, 1) := by decide +kernel
theorem dX6_linkBy_82 : decode cX6_linkBy 82 = .ok (.iload_n 2, 1) := by decide +kernel
theorem dX6_linkBy_83 : decode cX6_linkBy 83 = .ok (.ifCond .ne 7, 3) := by decide +kernel
theorem dX6_linkBy_86 : decode cX6_linkBy 86 = .ok (.iconst 1, 1) := by decide +kernel
theorem dX6_linkBy_87 : decode cX6_linkBy 87 = .ok (.goto 4, 3) := by decide +kernel
theorem dX6_linkBy_90 : decode cX6_linkBy 90 = .ok (.iconst 0, 1) := by decide +kernel
theorem dX6_linkBy_91 : decode cX6_linkBy 91 = .ok (.invokevirtual 92, 3) := by decide +kernel
theorem dX6_linkBy_94 : decode cX6_linkBy 94 = .ok (.aload_n 0, 1) := by decide +kernel
theorem dX6_linkBy_95 : decode cX6_linkBy 95 = .ok (.iload_n 2, 1) := by decide +kernel
theorem dX6_linkBy_96 : decode cX6_linkBy 96 = .ok (.iload_n 3, 1) := by decide +kernel
theorem dX6_linkBy_97 : decode cX6_linkBy 97 = .ok (.aload_n 0, 1) := by decide +kernel
theorem dX6_linkBy_98 : decode cX6_linkBy 98 = .ok (.invokevirtual 96, 3) := by decide +kernel
theorem dX6_linkBy_101 : decode cX6_linkBy 101 = .ok (.invokevirtual 100, 3) := by decide +kernel
theorem dX6_linkBy_104 : decode cX6_linkBy 104 = .ok (.iinc 3 1, 3) := by decide +kernel
theorem dX6_linkBy_107 : decode cX6_linkBy 107 = .ok (.goto (-80), 3) := by decide +kernel
theorem dX6_linkBy_110 : decode cX6_linkBy 110 = .ok (.return_, 1) := by decide +kernel
theorem dX6_numbersOfNext_0 : decode cX6_numbersOfNext 0 = .ok (.lconst 0, 1) := by decide +kernel
theorem dX6_numbersOfNext_1 : decode cX6_numbersOfNext 1 = .ok (.lstore_n 1, 1) := by decide +kernel
theorem dX6_numbersOfNext_2 : decode cX6_numbersOfNext 2 = .ok (.iconst 0, 1) := by decide +kernel
theorem dX6_numbersOfNext_3 : decode cX6_numbersOfNext 3 = .ok (.istore_n 3, 1) := by decide +kernel
theorem dX6_numbersOfNext_4 : decode cX6_numbersOfNext 4 = .ok (.iload_n 3, 1) := by decide +kernel
theorem dX6_numbersOfNext_5 : decode cX6_numbersOfNext 5 = .ok (.aload_n 0, 1) := by decide +kernel
theorem dX6_numbersOfNext_6 : decode cX6_numbersOfNext 6 = .ok (.getfield 42, 3) := by decide +kernel
theorem dX6_numbersOfNext_9 : decode cX6_numbersOfNext 9 = .ok (.if_icmp .ge 30, 3) := by decide +kernel
theorem dX6_numbersOfNext_12 : decode cX6_numbersOfNext 12 = .ok (.iload_n 3, 1) := by decide +kernel
theorem dX6_numbersOfNext_13 : decode cX6_numbersOfNext 13 = .ok (.bipush 81, 2) := by decide +kernel
theorem dX6_numbersOfNext_15 : decode cX6_numbersOfNext 15 = .ok (.if_icmp .ge 24, 3) := by decide +kernel
theorem dX6_numbersOfNext_18 : decode cX6_numbersOfNext 18 = .ok (.lload_n 1, 1) := by decide +kernel
theorem dX6_numbersOfNext_19 : decode cX6_numbersOfNext 19 = .ok (.lconst 1, 1) := by decide +kernel
theorem dX6_numbersOfNext_20 : decode cX6_numbersOfNext 20 = .ok (.aload_n 0, 1) := by decide +kernel
theorem dX6_numbersOfNext_21 : decode cX6_numbersOfNext 21 = .ok (.aload_n 0, 1) := by decide +kernel
theorem dX6_numbersOfNext_22 : decode cX6_numbersOfNext 22 = .ok (.getfield 32, 3) := by decide +kernel
theorem dX6_numbersOfNext_25 : decode cX6_numbersOfNext 25 = .ok (.iload_n 3, 1) := by decide +kernel
theorem dX6_numbersOfNext_26 : decode cX6_numbersOfNext 26 = .ok (.iaload, 1) := by decide +kernel
theorem dX6_numbersOfNext_27 : decode cX6_numbersOfNext 27 = .ok (.invokevirtual 104, 3) := by decide +kernel
theorem dX6_numbersOfNext_30 : decode cX6_numbersOfNext 30 = .ok (.lshl, 1) := by decide +kernel
theorem dX6_numbersOfNext_31 : decode cX6_numbersOfNext 31 = .ok (.lor, 1) := by decide +kernel
theorem dX6_numbersOfNext_32 : decode cX6_numbersOfNext 32 = .ok (.lstore_n 1, 1) := by decide +kernel
theorem dX6_numbersOfNext_33 : decode cX6_numbersOfNext 33 = .ok (.iinc 3 1, 3) := by decide +kernel
theorem dX6_numbersOfNext_36 : decode cX6_numbersOfNext 36 = .ok (.goto (-32), 3) := by decide +kernel
theorem dX6_numbersOfNext_39 : decode cX6_numbersOfNext 39 = .ok (.lload_n 1, 1) := by decide +kernel
theorem dX6_numbersOfNext_40 : decode cX6_numbersOfNext 40 = .ok (.lreturn, 1) := by decide +kernel
theorem dX6_findMoves_0 : decode cX6_findMoves 0 = .ok (.iconst 0, 1) := by decide +kernel
theorem dX6_findMoves_1 : decode cX6_findMoves 1 = .ok (.istore_n 3, 1) := by decide +kernel
theorem dX6_findMoves_2 : decode cX6_findMoves 2 = .ok (.iload_n 3, 1) := by decide +kernel
theorem dX6_findMoves_3 : decode cX6_findMoves 3 = .ok (.aload_n 0, 1) := by decide +kernel
theorem dX6_findMoves_4 : decode cX6_findMoves 4 = .ok (.getfield 45, 3) := by decide +kernel
theorem dX6_findMoves_7 : decode cX6_findMoves 7 = .ok (.getfield 74, 3) := by decide +kernel
theorem dX6_findMoves_10 : decode cX6_findMoves 10 = .ok (.if_icmp .ge 105, 3) := by decide +kernel
theorem dX6_findMoves_13 : decode cX6_findMoves 13 = .ok (.iload_n 3, 1) := by decide +kernel
theorem dX6_findMoves_14 : decode cX6_findMoves 14 = .ok (.bipush 9, 2) := by decide +kernel
theorem dX6_findMoves_16 : decode cX6_findMoves 16 = .ok (.if_icmp .ge 99, 3) := by decide +kernel
theorem dX6_findMoves_19 : decode cX6_findMoves 19 = .ok (.aload_n 0, 1) := by decide +kernel
theorem dX6_findMoves_20 : decode cX6_findMoves 20 = .ok (.getfield 45, 3) := by decide +kernel
theorem dX6_findMoves_23 : decode cX6_findMoves 23 = .ok (.iload_n 2, 1) := by decide +kernel
theorem dX6_findMoves_24 : decode cX6_findMoves 24 = .ok (.iload_n 3, 1) := by decide +kernel
theorem dX6_findMoves_25 : decode cX6_findMoves 25 = .ok (.invokevirtual 107, 3) := by decide +kernel
theorem dX6_findMoves_28 : decode cX6_findMoves 28 = .ok (.ifCond .ne 7, 3) := by decide +kernel
theorem dX6_findMoves_31 : decode cX6_findMoves 31 = .ok (.iconst 0, 1) := by decide +kernel
theorem dX6_findMoves_32 : decode cX6_findMoves 32 = .ok (.goto 13, 3) := by decide +kernel
theorem dX6_findMoves_35 : decode cX6_findMoves 35 = .ok (.aload_n 1, 1) := by decide +kernel
theorem dX6_findMoves_36 : decode cX6_findMoves 36 = .ok (.aload_n 0, 1) := by decide +kernel
theorem dX6_findMoves_37 : decode cX6_findMoves 37 = .ok (.getfield 45, 3) := by decide +kernel
theorem dX6_findMoves_40 : decode cX6_findMoves 40 = .ok (.iload_n 2, 1) := by decide +kernel
theorem dX6_findMoves_41 : decode cX6_findMoves 41 = .ok (.iload_n 3, 1) := by decide +kernel
theorem dX6_findMoves_42 : decode cX6_findMoves 42 = .ok (.invokevirtual 110, 3) := by decide +kernel
theorem dX6_findMoves_45 : decode cX6_findMoves 45 = .ok (.istore 4, 2) := by decide +kernel
theorem dX6_findMoves_47 : decode cX6_findMoves 47 = .ok (.aload_n 0, 1) := by decide +kernel
theorem dX6_findMoves_48 : decode cX6_findMoves 48 = .ok (.getfield 26, 3) := by decide +kernel
theorem dX6_findMoves_51 : decode cX6_findMoves 51 = .ok (.iload_n 3, 1) := by decide +kernel
theorem dX6_findMoves_52 : decode cX6_findMoves 52 = .ok (.iload 4, 2) := by decide +kernel
theorem dX6_findMoves_54 : decode cX6_findMoves 54 = .ok (.iconst 1, 1) := by decide +kernel
theorem dX6_findMoves_55 : decode cX6_findMoves 55 = .ok (.if_icmp .eq 9, 3) := by decide +kernel
theorem dX6_findMoves_58 : decode cX6_findMoves 58 = .ok (.iload 4, 2) := by decide +kernel
theorem dX6_findMoves_60 : decode cX6_findMoves 60 = .ok (.iconst 2, 1) := by decide +kernel
theorem dX6_findMoves_61 : decode cX6_findMoves 61 = .ok (.if_icmp .ne 15, 3) := by decide +kernel
theorem dX6_findMoves_64 : decode cX6_findMoves 64 = .ok (.aload_n 0, 1) := by decide +kernel
theorem dX6_findMoves_65 : decode cX6_findMoves 65 = .ok (.getfield 45, 3) := by decide +kernel
theorem dX6_findMoves_68 : decode cX6_findMoves 68 = .ok (.iload_n 3, 1) := by decide +kernel
theorem dX6_findMoves_69 : decode cX6_findMoves 69 = .ok (.iconst 1, 1) := by decide +kernel
theorem dX6_findMoves_70 : decode cX6_findMoves 70 = .ok (.invokevirtual 116, 3) := by decide +kernel
theorem dX6_findMoves_73 : decode cX6_findMoves 73 = .ok (.goto 4, 3) := by decide +kernel
theorem dX6_findMoves_76 : decode cX6_findMoves 76 = .ok (.iconst 0, 1) := by decide +kernel
theorem dX6_findMoves_77 : decode cX6_findMoves 77 = .ok (.iastore, 1) := by decide +kernel
theorem dX6_findMoves_78 : decode cX6_findMoves 78 = .ok (.aload_n 0, 1) := by decide +kernel
theorem dX6_findMoves_79 : decode cX6_findMoves 79 = .ok (.getfield 29, 3) := by decide +kernel
theorem dX6_findMoves_82 : decode cX6_findMoves 82 = .ok (.iload_n 3, 1) := by decide +kernel
theorem dX6_findMoves_83 : decode cX6_findMoves 83 = .ok (.iload 4, 2) := by decide +kernel
theorem dX6_findMoves_85 : decode cX6_findMoves 85 = .ok (.iconst (-1), 1) := by decide +kernel
theorem dX6_findMoves_86 : decode cX6_findMoves 86 = .ok (.if_icmp .eq 9, 3) := by decide +kernel
theorem dX6_findMoves_89 : decode cX6_findMoves 89 = .ok (.iload 4, 2) := by decide +kernel
theorem dX6_findMoves_91 : decode cX6_findMoves 91 = .ok (.iconst 2, 1) := by decide +kernel
theorem dX6_findMoves_92 : decode cX6_findMoves 92 = .ok (.if_icmp .ne 15, 3) := by decide +kernel
theorem dX6_findMoves_95 : decode cX6_findMoves 95 = .ok (.aload_n 0, 1) := by decide +kernel
theorem dX6_findMoves_96 : decode cX6_findMoves 96 = .ok (.getfield 45, 3) := by decide +kernel
theorem dX6_findMoves_99 : decode cX6_findMoves 99 = .ok (.iload_n 3, 1) := by decide +kernel
theorem dX6_findMoves_100 : decode cX6_findMoves 100 = .ok (.iconst (-1), 1) := by decide +kernel
theorem dX6_findMoves_101 : decode cX6_findMoves 101 = .ok (.invokevirtual 116, 3) := by decide +kernel
theorem dX6_findMoves_104 : decode cX6_findMoves 104 = .ok (.goto 4, 3) := by decide +kernel
theorem dX6_findMoves_107 : decode cX6_findMoves 107 = .ok (.iconst 0, 1) := by decide +kernel
theorem dX6_findMoves_108 : decode cX6_findMoves 108 = .ok (.iastore, 1) := by decide +kernel
theorem dX6_findMoves_109 : decode cX6_findMoves 109 = .ok (.iinc 3 1, 3) := by decide +kernel
theorem dX6_findMoves_112 : decode cX6_findMoves 112 = .ok (.goto (-110), 3) := by decide +kernel
theorem dX6_findMoves_115 : decode cX6_findMoves 115 = .ok (.return_, 1) := by decide +kernel
theorem dX6_addNext_0 : decode cX6_addNext 0 = .ok (.aload_n 0, 1) := by decide +kernel
theorem dX6_addNext_1 : decode cX6_addNext 1 = .ok (.getfield 42, 3) := by decide +kernel
theorem dX6_addNext_4 : decode cX6_addNext 4 = .ok (.bipush 81, 2) := by decide +kernel
theorem dX6_addNext_6 : decode cX6_addNext 6 = .ok (.if_icmp .ge 23, 3) := by decide +kernel
theorem dX6_addNext_9 : decode cX6_addNext 9 = .ok (.aload_n 0, 1) := by decide +kernel
theorem dX6_addNext_10 : decode cX6_addNext 10 = .ok (.getfield 32, 3) := by decide +kernel
theorem dX6_addNext_13 : decode cX6_addNext 13 = .ok (.aload_n 0, 1) := by decide +kernel
theorem dX6_addNext_14 : decode cX6_addNext 14 = .ok (.getfield 42, 3) := by decide +kernel
theorem dX6_addNext_17 : decode cX6_addNext 17 = .ok (.iload_n 1, 1) := by decide +kernel
theorem dX6_addNext_18 : decode cX6_addNext 18 = .ok (.iastore, 1) := by decide +kernel
theorem dX6_addNext_19 : decode cX6_addNext 19 = .ok (.aload_n 0, 1) := by decide +kernel
theorem dX6_addNext_20 : decode cX6_addNext 20 = .ok (.dup, 1) := by decide +kernel
theorem dX6_addNext_21 : decode cX6_addNext 21 = .ok (.getfield 42, 3) := by decide +kernel
theorem dX6_addNext_24 : decode cX6_addNext 24 = .ok (.iconst 1, 1) := by decide +kernel
theorem dX6_addNext_25 : decode cX6_addNext 25 = .ok (.iadd, 1) := by decide +kernel
theorem dX6_addNext_26 : decode cX6_addNext 26 = .ok (.putfield 42, 3) := by decide +kernel
theorem dX6_addNext_29 : decode cX6_addNext 29 = .ok (.return_, 1) := by decide +kernel
theorem dX6_addMoved_0 : decode cX6_addMoved 0 = .ok (.iload_n 2, 1) := by decide +kernel
theorem dX6_addMoved_1 : decode cX6_addMoved 1 = .ok (.ifCond .eq 10, 3) := by decide +kernel
theorem dX6_addMoved_4 : decode cX6_addMoved 4 = .ok (.aload_n 0, 1) := by decide +kernel
theorem dX6_addMoved_5 : decode cX6_addMoved 5 = .ok (.iload_n 1, 1) := by decide +kernel
theorem dX6_addMoved_6 : decode cX6_addMoved 6 = .ok (.iload_n 2, 1) := by decide +kernel
theorem dX6_addMoved_7 : decode cX6_addMoved 7 = .ok (.iadd, 1) := by decide +kernel
theorem dX6_addMoved_8 : decode cX6_addMoved 8 = .ok (.invokevirtual 119, 3) := by decide +kernel
theorem dX6_addMoved_11 : decode cX6_addMoved 11 = .ok (.iload_n 3, 1) := by decide +kernel
theorem dX6_addMoved_12 : decode cX6_addMoved 12 = .ok (.ifCond .eq 10, 3) := by decide +kernel
theorem dX6_addMoved_15 : decode cX6_addMoved 15 = .ok (.aload_n 0, 1) := by decide +kernel
theorem dX6_addMoved_16 : decode cX6_addMoved 16 = .ok (.iload_n 1, 1) := by decide +kernel
theorem dX6_addMoved_17 : decode cX6_addMoved 17 = .ok (.iload_n 3, 1) := by decide +kernel
theorem dX6_addMoved_18 : decode cX6_addMoved 18 = .ok (.iadd, 1) := by decide +kernel
theorem dX6_addMoved_19 : decode cX6_addMoved 19 = .ok (.invokevirtual 119, 3) := by decide +kernel
theorem dX6_addMoved_22 : decode cX6_addMoved 22 = .ok (.return_, 1) := by decide +kernel
theorem dX6_wakeOne_0 : decode cX6_wakeOne 0 = .ok (.iconst 0, 1) := by decide +kernel
theorem dX6_wakeOne_1 : decode cX6_wakeOne 1 = .ok (.istore_n 2, 1) := by decide +kernel
theorem dX6_wakeOne_2 : decode cX6_wakeOne 2 = .ok (.iload_n 2, 1) := by decide +kernel
theorem dX6_wakeOne_3 : decode cX6_wakeOne 3 = .ok (.aload_n 0, 1) := by decide +kernel
theorem dX6_wakeOne_4 : decode cX6_wakeOne 4 = .ok (.getfield 45, 3) := by decide +kernel
theorem dX6_wakeOne_7 : decode cX6_wakeOne 7 = .ok (.getfield 74, 3) := by decide +kernel
theorem dX6_wakeOne_10 : decode cX6_wakeOne 10 = .ok (.if_icmp .ge 32, 3) := by decide +kernel
theorem dX6_wakeOne_13 : decode cX6_wakeOne 13 = .ok (.iload_n 2, 1) := by decide +kernel
theorem dX6_wakeOne_14 : decode cX6_wakeOne 14 = .ok (.bipush 9, 2) := by decide +kernel
theorem dX6_wakeOne_16 : decode cX6_wakeOne 16 = .ok (.if_icmp .ge 26, 3) := by decide +kernel
theorem dX6_wakeOne_19 : decode cX6_wakeOne 19 = .ok (.aload_n 0, 1) := by decide +kernel
theorem dX6_wakeOne_20 : decode cX6_wakeOne 20 = .ok (.iload_n 1, 1) := by decide +kernel
theorem dX6_wakeOne_21 : decode cX6_wakeOne 21 = .ok (.aload_n 0, 1) := by decide +kernel
theorem dX6_wakeOne_22 : decode cX6_wakeOne 22 = .ok (.getfield 26, 3) := by decide +kernel
theorem dX6_wakeOne_25 : decode cX6_wakeOne 25 = .ok (.iload_n 2, 1) := by decide +kernel
theorem dX6_wakeOne_26 : decode cX6_wakeOne 26 = .ok (.iaload, 1) := by decide +kernel
theorem dX6_wakeOne_27 : decode cX6_wakeOne 27 = .ok (.aload_n 0, 1) := by decide +kernel
theorem dX6_wakeOne_28 : decode cX6_wakeOne 28 = .ok (.getfield 29, 3) := by decide +kernel
theorem dX6_wakeOne_31 : decode cX6_wakeOne 31 = .ok (.iload_n 2, 1) := by decide +kernel
theorem dX6_wakeOne_32 : decode cX6_wakeOne 32 = .ok (.iaload, 1) := by decide +kernel
theorem dX6_wakeOne_33 : decode cX6_wakeOne 33 = .ok (.invokevirtual 122, 3) := by decide +kernel
theorem dX6_wakeOne_36 : decode cX6_wakeOne 36 = .ok (.iinc 2 1, 3) := by decide +kernel
theorem dX6_wakeOne_39 : decode cX6_wakeOne 39 = .ok (.goto (-37), 3) := by decide +kernel
theorem dX6_wakeOne_42 : decode cX6_wakeOne 42 = .ok (.return_, 1) := by decide +kernel
theorem dX6_wakeSome_0 : decode cX6_wakeSome 0 = .ok (.iconst 0, 1) := by decide +kernel
theorem dX6_wakeSome_1 : decode cX6_wakeSome 1 = .ok (.istore_n 3, 1) := by decide +kernel
theorem dX6_wakeSome_2 : decode cX6_wakeSome 2 = .ok (.aload_n 0, 1) := by decide +kernel
theorem dX6_wakeSome_3 : decode cX6_wakeSome 3 = .ok (.iload_n 1, 1) := by decide +kernel
theorem dX6_wakeSome_4 : decode cX6_wakeSome 4 = .ok (.invokevirtual 119, 3) := by decide +kernel
theorem dX6_wakeSome_7 : decode cX6_wakeSome 7 = .ok (.iconst 0, 1) := by decide +kernel
theorem dX6_wakeSome_8 : decode cX6_wakeSome 8 = .ok (.istore 4, 2) := by decide +kernel
theorem dX6_wakeSome_10 : decode cX6_wakeSome 10 = .ok (.iload 4, 2) := by decide +kernel
theorem dX6_wakeSome_12 : decode cX6_wakeSome 12 = .ok (.aload_n 0, 1) := by decide +kernel
theorem dX6_wakeSome_13 : decode cX6_wakeSome 13 = .ok (.getfield 45, 3) := by decide +kernel
theorem dX6_wakeSome_16 : decode cX6_wakeSome 16 = .ok (.getfield 74, 3) := by decide +kernel
theorem dX6_wakeSome_19 : decode cX6_wakeSome 19 = .ok (.if_icmp .ge 101, 3) := by decide +kernel
theorem dX6_wakeSome_22 : decode cX6_wakeSome 22 = .ok (.iload 4, 2) := by decide +kernel
theorem dX6_wakeSome_24 : decode cX6_wakeSome 24 = .ok (.bipush 9, 2) := by decide +kernel
theorem dX6_wakeSome_26 : decode cX6_wakeSome 26 = .ok (.if_icmp .ge 94, 3) := by decide +kernel
theorem dX6_wakeSome_29 : decode cX6_wakeSome 29 = .ok (.aload_n 0, 1) := by decide +kernel
theorem dX6_wakeSome_30 : decode cX6_wakeSome 30 = .ok (.getfield 26, 3) := by decide +kernel
theorem dX6_wakeSome_33 : decode cX6_wakeSome 33 = .ok (.iload 4, 2) := by decide +kernel
theorem dX6_wakeSome_35 : decode cX6_wakeSome 35 = .ok (.iaload, 1) := by decide +kernel
theorem dX6_wakeSome_36 : decode cX6_wakeSome 36 = .ok (.ifCond .ne 13, 3) := by decide +kernel
theorem dX6_wakeSome_39 : decode cX6_wakeSome 39 = .ok (.aload_n 0, 1) := by decide +kernel
theorem dX6_wakeSome_40 : decode cX6_wakeSome 40 = .ok (.getfield 29, 3) := by decide +kernel
theorem dX6_wakeSome_43 : decode cX6_wakeSome 43 = .ok (.iload 4, 2) := by decide +kernel
theorem dX6_wakeSome_45 : decode cX6_wakeSome 45 = .ok (.iaload, 1) := by decide +kernel
theorem dX6_wakeSome_46 : decode cX6_wakeSome 46 = .ok (.ifCond .eq 7, 3) := by decide +kernel
theorem dX6_wakeSome_49 : decode cX6_wakeSome 49 = .ok (.iconst 1, 1) := by decide +kernel
theorem dX6_wakeSome_50 : decode cX6_wakeSome 50 = .ok (.goto 4, 3) := by decide +kernel
theorem dX6_wakeSome_53 : decode cX6_wakeSome 53 = .ok (.iconst 0, 1) := by decide +kernel
theorem dX6_wakeSome_54 : decode cX6_wakeSome 54 = .ok (.istore 5, 2) := by decide +kernel
theorem dX6_wakeSome_56 : decode cX6_wakeSome 56 = .ok (.iload 5, 2) := by decide +kernel
theorem dX6_wakeSome_58 : decode cX6_wakeSome 58 = .ok (.ifCond .eq 16, 3) := by decide +kernel
theorem dX6_wakeSome_61 : decode cX6_wakeSome 61 = .ok (.aload_n 0, 1) := by decide +kernel
theorem dX6_wakeSome_62 : decode cX6_wakeSome 62 = .ok (.getfield 45, 3) := by decide +kernel
theorem dX6_wakeSome_65 : decode cX6_wakeSome 65 = .ok (.iload_n 1, 1) := by decide +kernel
theorem dX6_wakeSome_66 : decode cX6_wakeSome 66 = .ok (.iload 4, 2) := by decide +kernel
theorem dX6_wakeSome_68 : decode cX6_wakeSome 68 = .ok (.invokevirtual 107, 3) := by decide +kernel
theorem dX6_wakeSome_71 : decode cX6_wakeSome 71 = .ok (.goto 4, 3) := by decide +kernel
theorem dX6_wakeSome_74 : decode cX6_wakeSome 74 = .ok (.iconst 0, 1) := by decide +kernel
theorem dX6_wakeSome_75 : decode cX6_wakeSome 75 = .ok (.istore 6, 2) := by decide +kernel
theorem dX6_wakeSome_77 : decode cX6_wakeSome 77 = .ok (.iconst 0, 1) := by decide +kernel
theorem dX6_wakeSome_78 : decode cX6_wakeSome 78 = .ok (.istore 7, 2) := by decide +kernel
theorem dX6_wakeSome_80 : decode cX6_wakeSome 80 = .ok (.iload 7, 2) := by decide +kernel
theorem dX6_wakeSome_82 : decode cX6_wakeSome 82 = .ok (.iload 6, 2) := by decide +kernel
theorem dX6_wakeSome_84 : decode cX6_wakeSome 84 = .ok (.if_icmp .ge 30, 3) := by decide +kernel
theorem dX6_wakeSome_87 : decode cX6_wakeSome 87 = .ok (.iconst 1, 1) := by decide +kernel
theorem dX6_wakeSome_88 : decode cX6_wakeSome 88 = .ok (.istore_n 3, 1) := by decide +kernel
theorem dX6_wakeSome_89 : decode cX6_wakeSome 89 = .ok (.aload_n 0, 1) := by decide +kernel
theorem dX6_wakeSome_90 : decode cX6_wakeSome 90 = .ok (.aload_n 0, 1) := by decide +kernel
theorem dX6_wakeSome_91 : decode cX6_wakeSome 91 = .ok (.getfield 26, 3) := by decide +kernel
theorem dX6_wakeSome_94 : decode cX6_wakeSome 94 = .ok (.iload 4, 2) := by decide +kernel
theorem dX6_wakeSome_96 : decode cX6_wakeSome 96 = .ok (.iaload, 1) := by decide +kernel
theorem dX6_wakeSome_97 : decode cX6_wakeSome 97 = .ok (.aload_n 0, 1) := by decide +kernel
theorem dX6_wakeSome_98 : decode cX6_wakeSome 98 = .ok (.getfield 29, 3) := by decide +kernel
theorem dX6_wakeSome_101 : decode cX6_wakeSome 101 = .ok (.iload 4, 2) := by decide +kernel
theorem dX6_wakeSome_103 : decode cX6_wakeSome 103 = .ok (.iaload, 1) := by decide +kernel
theorem dX6_wakeSome_104 : decode cX6_wakeSome 104 = .ok (.iload_n 2, 1) := by decide +kernel
theorem dX6_wakeSome_105 : decode cX6_wakeSome 105 = .ok (.invokevirtual 125, 3) := by decide +kernel
theorem dX6_wakeSome_108 : decode cX6_wakeSome 108 = .ok (.iinc 7 1, 3) := by decide +kernel
theorem dX6_wakeSome_111 : decode cX6_wakeSome 111 = .ok (.goto (-31), 3) := by decide +kernel
theorem dX6_wakeSome_114 : decode cX6_wakeSome 114 = .ok (.iinc 4 1, 3) := by decide +kernel
theorem dX6_wakeSome_117 : decode cX6_wakeSome 117 = .ok (.goto (-107), 3) := by decide +kernel
theorem dX6_wakeSome_120 : decode cX6_wakeSome 120 = .ok (.iload_n 2, 1) := by decide +kernel
theorem dX6_wakeSome_121 : decode cX6_wakeSome 121 = .ok (.ifCond .eq 7, 3) := by decide +kernel
theorem dX6_wakeSome_124 : decode cX6_wakeSome 124 = .ok (.iload_n 3, 1) := by decide +kernel
theorem dX6_wakeSome_125 : decode cX6_wakeSome 125 = .ok (.ifCond .ne 8, 3) := by decide +kernel
theorem dX6_wakeSome_128 : decode cX6_wakeSome 128 = .ok (.aload_n 0, 1) := by decide +kernel
theorem dX6_wakeSome_129 : decode cX6_wakeSome 129 = .ok (.iconst 1, 1) := by decide +kernel
theorem dX6_wakeSome_130 : decode cX6_wakeSome 130 = .ok (.invokevirtual 129, 3) := by decide +kernel
theorem dX6_wakeSome_133 : decode cX6_wakeSome 133 = .ok (.return_, 1) := by decide +kernel
theorem dX6_wakeAgain_0 : decode cX6_wakeAgain 0 = .ok (.aload_n 0, 1) := by decide +kernel
theorem dX6_wakeAgain_1 : decode cX6_wakeAgain 1 = .ok (.getfield 42, 3) := by decide +kernel
theorem dX6_wakeAgain_4 : decode cX6_wakeAgain 4 = .ok (.istore 4, 2) := by decide +kernel
theorem dX6_wakeAgain_6 : decode cX6_wakeAgain 6 = .ok (.iconst 0, 1) := by decide +kernel
theorem dX6_wakeAgain_7 : decode cX6_wakeAgain 7 = .ok (.istore 5, 2) := by decide +kernel
theorem dX6_wakeAgain_9 : decode cX6_wakeAgain 9 = .ok (.iload 5, 2) := by decide +kernel
theorem dX6_wakeAgain_11 : decode cX6_wakeAgain 11 = .ok (.iload 4, 2) := by decide +kernel
theorem dX6_wakeAgain_13 : decode cX6_wakeAgain 13 = .ok (.if_icmp .ge 29, 3) := by decide +kernel
theorem dX6_wakeAgain_16 : decode cX6_wakeAgain 16 = .ok (.iload 5, 2) := by decide +kernel
theorem dX6_wakeAgain_18 : decode cX6_wakeAgain 18 = .ok (.bipush 81, 2) := by decide +kernel
theorem dX6_wakeAgain_20 : decode cX6_wakeAgain 20 = .ok (.if_icmp .ge 22, 3) := by decide +kernel
theorem dX6_wakeAgain_23 : decode cX6_wakeAgain 23 = .ok (.aload_n 0, 1) := by decide +kernel
theorem dX6_wakeAgain_24 : decode cX6_wakeAgain 24 = .ok (.aload_n 0, 1) := by decide +kernel
theorem dX6_wakeAgain_25 : decode cX6_wakeAgain 25 = .ok (.getfield 32, 3) := by decide +kernel
theorem dX6_wakeAgain_28 : decode cX6_wakeAgain 28 = .ok (.iload 5, 2) := by decide +kernel
theorem dX6_wakeAgain_30 : decode cX6_wakeAgain 30 = .ok (.iaload, 1) := by decide +kernel
theorem dX6_wakeAgain_31 : decode cX6_wakeAgain 31 = .ok (.iload_n 1, 1) := by decide +kernel
theorem dX6_wakeAgain_32 : decode cX6_wakeAgain 32 = .ok (.iload_n 2, 1) := by decide +kernel
theorem dX6_wakeAgain_33 : decode cX6_wakeAgain 33 = .ok (.invokevirtual 122, 3) := by decide +kernel
theorem dX6_wakeAgain_36 : decode cX6_wakeAgain 36 = .ok (.iinc 5 1, 3) := by decide +kernel
theorem dX6_wakeAgain_39 : decode cX6_wakeAgain 39 = .ok (.goto (-30), 3) := by decide +kernel
theorem dX6_wakeAgain_42 : decode cX6_wakeAgain 42 = .ok (.iload_n 3, 1) := by decide +kernel
theorem dX6_wakeAgain_43 : decode cX6_wakeAgain 43 = .ok (.ifCond .eq 9, 3) := by decide +kernel
theorem dX6_wakeAgain_46 : decode cX6_wakeAgain 46 = .ok (.aload_n 0, 1) := by decide +kernel
theorem dX6_wakeAgain_47 : decode cX6_wakeAgain 47 = .ok (.iload 4, 2) := by decide +kernel
theorem dX6_wakeAgain_49 : decode cX6_wakeAgain 49 = .ok (.invokevirtual 129, 3) := by decide +kernel
theorem dX6_wakeAgain_52 : decode cX6_wakeAgain 52 = .ok (.return_, 1) := by decide +kernel
theorem dX6_dropFirst_0 : decode cX6_dropFirst 0 = .ok (.iload_n 1, 1) := by decide +kernel
theorem dX6_dropFirst_1 : decode cX6_dropFirst 1 = .ok (.istore_n 2, 1) := by decide +kernel
theorem dX6_dropFirst_2 : decode cX6_dropFirst 2 = .ok (.iload_n 2, 1) := by decide +kernel
theorem dX6_dropFirst_3 : decode cX6_dropFirst 3 = .ok (.aload_n 0, 1) := by decide +kernel
theorem dX6_dropFirst_4 : decode cX6_dropFirst 4 = .ok (.getfield 42, 3) := by decide +kernel
theorem dX6_dropFirst_7 : decode cX6_dropFirst 7 = .ok (.if_icmp .ge 29, 3) := by decide +kernel
theorem dX6_dropFirst_10 : decode cX6_dropFirst 10 = .ok (.iload_n 2, 1) := by decide +kernel
theorem dX6_dropFirst_11 : decode cX6_dropFirst 11 = .ok (.bipush 81, 2) := by decide +kernel
theorem dX6_dropFirst_13 : decode cX6_dropFirst 13 = .ok (.if_icmp .ge 23, 3) := by decide +kernel
theorem dX6_dropFirst_16 : decode cX6_dropFirst 16 = .ok (.aload_n 0, 1) := by decide +kernel
theorem dX6_dropFirst_17 : decode cX6_dropFirst 17 = .ok (.getfield 32, 3) := by decide +kernel
theorem dX6_dropFirst_20 : decode cX6_dropFirst 20 = .ok (.iload_n 2, 1) := by decide +kernel
theorem dX6_dropFirst_21 : decode cX6_dropFirst 21 = .ok (.iload_n 1, 1) := by decide +kernel
theorem dX6_dropFirst_22 : decode cX6_dropFirst 22 = .ok (.isub, 1) := by decide +kernel
theorem dX6_dropFirst_23 : decode cX6_dropFirst 23 = .ok (.aload_n 0, 1) := by decide +kernel
theorem dX6_dropFirst_24 : decode cX6_dropFirst 24 = .ok (.getfield 32, 3) := by decide +kernel
theorem dX6_dropFirst_27 : decode cX6_dropFirst 27 = .ok (.iload_n 2, 1) := by decide +kernel
theorem dX6_dropFirst_28 : decode cX6_dropFirst 28 = .ok (.iaload, 1) := by decide +kernel
theorem dX6_dropFirst_29 : decode cX6_dropFirst 29 = .ok (.iastore, 1) := by decide +kernel
theorem dX6_dropFirst_30 : decode cX6_dropFirst 30 = .ok (.iinc 2 1, 3) := by decide +kernel
theorem dX6_dropFirst_33 : decode cX6_dropFirst 33 = .ok (.goto (-31), 3) := by decide +kernel
theorem dX6_dropFirst_36 : decode cX6_dropFirst 36 = .ok (.aload_n 0, 1) := by decide +kernel
theorem dX6_dropFirst_37 : decode cX6_dropFirst 37 = .ok (.dup, 1) := by decide +kernel
theorem dX6_dropFirst_38 : decode cX6_dropFirst 38 = .ok (.getfield 42, 3) := by decide +kernel
theorem dX6_dropFirst_41 : decode cX6_dropFirst 41 = .ok (.iload_n 1, 1) := by decide +kernel
theorem dX6_dropFirst_42 : decode cX6_dropFirst 42 = .ok (.isub, 1) := by decide +kernel
theorem dX6_dropFirst_43 : decode cX6_dropFirst 43 = .ok (.putfield 42, 3) := by decide +kernel
theorem dX6_dropFirst_46 : decode cX6_dropFirst 46 = .ok (.return_, 1) := by decide +kernel
theorem dX6_setLinks_0 : decode cX6_setLinks 0 = .ok (.iload_n 1, 1) := by decide +kernel
theorem dX6_setLinks_1 : decode cX6_setLinks 1 = .ok (.bipush 64, 2) := by decide +kernel
theorem dX6_setLinks_3 : decode cX6_setLinks 3 = .ok (.imul, 1) := by decide +kernel
theorem dX6_setLinks_4 : decode cX6_setLinks 4 = .ok (.iload_n 2, 1) := by decide +kernel
theorem dX6_setLinks_5 : decode cX6_setLinks 5 = .ok (.iadd, 1) := by decide +kernel
theorem dX6_setLinks_6 : decode cX6_setLinks 6 = .ok (.istore 5, 2) := by decide +kernel
theorem dX6_setLinks_8 : decode cX6_setLinks 8 = .ok (.iload 5, 2) := by decide +kernel
theorem dX6_setLinks_10 : decode cX6_setLinks 10 = .ok (.sipush 192, 3) := by decide +kernel
theorem dX6_setLinks_13 : decode cX6_setLinks 13 = .ok (.invokestatic 81, 3) := by decide +kernel
theorem dX6_setLinks_16 : decode cX6_setLinks 16 = .ok (.ifCond .ne 11, 3) := by decide +kernel
theorem dX6_setLinks_19 : decode cX6_setLinks 19 = .ok (.aload_n 0, 1) := by decide +kernel
theorem dX6_setLinks_20 : decode cX6_setLinks 20 = .ok (.getfield 19, 3) := by decide +kernel
theorem dX6_setLinks_23 : decode cX6_setLinks 23 = .ok (.iload 5, 2) := by decide +kernel
theorem dX6_setLinks_25 : decode cX6_setLinks 25 = .ok (.lload_n 3, 1) := by decide +kernel
theorem dX6_setLinks_26 : decode cX6_setLinks 26 = .ok (.lastore, 1) := by decide +kernel
theorem dX6_setLinks_27 : decode cX6_setLinks 27 = .ok (.return_, 1) := by decide +kernel
theorem dX6_linksOf_0 : decode cX6_linksOf 0 = .ok (.iload_n 1, 1) := by decide +kernel
theorem dX6_linksOf_1 : decode cX6_linksOf 1 = .ok (.bipush 64, 2) := by decide +kernel
theorem dX6_linksOf_3 : decode cX6_linksOf 3 = .ok (.imul, 1) := by decide +kernel
theorem dX6_linksOf_4 : decode cX6_linksOf 4 = .ok (.iload_n 2, 1) := by decide +kernel
theorem dX6_linksOf_5 : decode cX6_linksOf 5 = .ok (.iadd, 1) := by decide +kernel
theorem dX6_linksOf_6 : decode cX6_linksOf 6 = .ok (.istore_n 3, 1) := by decide +kernel
theorem dX6_linksOf_7 : decode cX6_linksOf 7 = .ok (.iload_n 3, 1) := by decide +kernel
theorem dX6_linksOf_8 : decode cX6_linksOf 8 = .ok (.sipush 192, 3) := by decide +kernel
theorem dX6_linksOf_11 : decode cX6_linksOf 11 = .ok (.invokestatic 81, 3) := by decide +kernel
theorem dX6_linksOf_14 : decode cX6_linksOf 14 = .ok (.ifCond .eq 7, 3) := by decide +kernel
theorem dX6_linksOf_17 : decode cX6_linksOf 17 = .ok (.lconst 0, 1) := by decide +kernel
theorem dX6_linksOf_18 : decode cX6_linksOf 18 = .ok (.goto 9, 3) := by decide +kernel
theorem dX6_linksOf_21 : decode cX6_linksOf 21 = .ok (.aload_n 0, 1) := by decide +kernel
theorem dX6_linksOf_22 : decode cX6_linksOf 22 = .ok (.getfield 19, 3) := by decide +kernel
theorem dX6_linksOf_25 : decode cX6_linksOf 25 = .ok (.iload_n 3, 1) := by decide +kernel
theorem dX6_linksOf_26 : decode cX6_linksOf 26 = .ok (.laload, 1) := by decide +kernel
theorem dX6_linksOf_27 : decode cX6_linksOf 27 = .ok (.lreturn, 1) := by decide +kernel
theorem dX6_ofGoal_0 : decode cX6_ofGoal 0 = .ok (.iload_n 1, 1) := by decide +kernel
theorem dX6_ofGoal_1 : decode cX6_ofGoal 1 = .ok (.iconst 3, 1) := by decide +kernel
theorem dX6_ofGoal_2 : decode cX6_ofGoal 2 = .ok (.invokestatic 81, 3) := by decide +kernel
theorem dX6_ofGoal_5 : decode cX6_ofGoal 5 = .ok (.ifCond .eq 7, 3) := by decide +kernel
theorem dX6_ofGoal_8 : decode cX6_ofGoal 8 = .ok (.lconst 0, 1) := by decide +kernel
theorem dX6_ofGoal_9 : decode cX6_ofGoal 9 = .ok (.goto 9, 3) := by decide +kernel
theorem dX6_ofGoal_12 : decode cX6_ofGoal 12 = .ok (.aload_n 0, 1) := by decide +kernel
theorem dX6_ofGoal_13 : decode cX6_ofGoal 13 = .ok (.getfield 15, 3) := by decide +kernel
theorem dX6_ofGoal_16 : decode cX6_ofGoal 16 = .ok (.iload_n 1, 1) := by decide +kernel
theorem dX6_ofGoal_17 : decode cX6_ofGoal 17 = .ok (.laload, 1) := by decide +kernel
theorem dX6_ofGoal_18 : decode cX6_ofGoal 18 = .ok (.lreturn, 1) := by decide +kernel
theorem dX6_safeByOne_0 : decode cX6_safeByOne 0 = .ok (.lload_n 1, 1) := by decide +kernel
theorem dX6_safeByOne_1 : decode cX6_safeByOne 1 = .ok (.lstore 4, 2) := by decide +kernel
theorem dX6_safeByOne_3 : decode cX6_safeByOne 3 = .ok (.iconst 0, 1) := by decide +kernel
theorem dX6_safeByOne_4 : decode cX6_safeByOne 4 = .ok (.istore 6, 2) := by decide +kernel
theorem dX6_safeByOne_6 : decode cX6_safeByOne 6 = .ok (.iload 6, 2) := by decide +kernel
theorem dX6_safeByOne_8 : decode cX6_safeByOne 8 = .ok (.aload_n 0, 1) := by decide +kernel
theorem dX6_safeByOne_9 : decode cX6_safeByOne 9 = .ok (.getfield 39, 3) := by decide +kernel
theorem dX6_safeByOne_12 : decode cX6_safeByOne 12 = .ok (.if_icmp .ge 47, 3) := by decide +kernel
theorem dX6_safeByOne_15 : decode cX6_safeByOne 15 = .ok (.aload_n 0, 1) := by decide +kernel
theorem dX6_safeByOne_16 : decode cX6_safeByOne 16 = .ok (.iload_n 3, 1) := by decide +kernel
theorem dX6_safeByOne_17 : decode cX6_safeByOne 17 = .ok (.iload 6, 2) := by decide +kernel
theorem dX6_safeByOne_19 : decode cX6_safeByOne 19 = .ok (.invokevirtual 132, 3) := by decide +kernel
theorem dX6_safeByOne_22 : decode cX6_safeByOne 22 = .ok (.lstore 7, 2) := by decide +kernel
theorem dX6_safeByOne_24 : decode cX6_safeByOne 24 = .ok (.lload 7, 2) := by decide +kernel
theorem dX6_safeByOne_26 : decode cX6_safeByOne 26 = .ok (.lconst 0, 1) := by decide +kernel
theorem dX6_safeByOne_27 : decode cX6_safeByOne 27 = .ok (.lcmp, 1) := by decide +kernel
theorem dX6_safeByOne_28 : decode cX6_safeByOne 28 = .ok (.ifCond .eq 25, 3) := by decide +kernel
theorem dX6_safeByOne_31 : decode cX6_safeByOne 31 = .ok (.lload 7, 2) := by decide +kernel
theorem dX6_safeByOne_33 : decode cX6_safeByOne 33 = .ok (.lload_n 1, 1) := by decide +kernel
theorem dX6_safeByOne_34 : decode cX6_safeByOne 34 = .ok (.ldc2_w 136, 3) := by decide +kernel
theorem dX6_safeByOne_37 : decode cX6_safeByOne 37 = .ok (.lxor, 1) := by decide +kernel
theorem dX6_safeByOne_38 : decode cX6_safeByOne 38 = .ok (.land, 1) := by decide +kernel
theorem dX6_safeByOne_39 : decode cX6_safeByOne 39 = .ok (.lconst 0, 1) := by decide +kernel
theorem dX6_safeByOne_40 : decode cX6_safeByOne 40 = .ok (.lcmp, 1) := by decide +kernel
theorem dX6_safeByOne_41 : decode cX6_safeByOne 41 = .ok (.ifCond .ne 12, 3) := by decide +kernel
theorem dX6_safeByOne_44 : decode cX6_safeByOne 44 = .ok (.lload 4, 2) := by decide +kernel
theorem dX6_safeByOne_46 : decode cX6_safeByOne 46 = .ok (.lconst 1, 1) := by decide +kernel
theorem dX6_safeByOne_47 : decode cX6_safeByOne 47 = .ok (.iload 6, 2) := by decide +kernel
theorem dX6_safeByOne_49 : decode cX6_safeByOne 49 = .ok (.lshl, 1) := by decide +kernel
theorem dX6_safeByOne_50 : decode cX6_safeByOne 50 = .ok (.lor, 1) := by decide +kernel
theorem dX6_safeByOne_51 : decode cX6_safeByOne 51 = .ok (.lstore 4, 2) := by decide +kernel
theorem dX6_safeByOne_53 : decode cX6_safeByOne 53 = .ok (.iinc 6 1, 3) := by decide +kernel
theorem dX6_safeByOne_56 : decode cX6_safeByOne 56 = .ok (.goto (-50), 3) := by decide +kernel
theorem dX6_safeByOne_59 : decode cX6_safeByOne 59 = .ok (.lload 4, 2) := by decide +kernel
theorem dX6_safeByOne_61 : decode cX6_safeByOne 61 = .ok (.lreturn, 1) := by decide +kernel
theorem dX6_working_0 : decode cX6_working 0 = .ok (.aload_n 0, 1) := by decide +kernel
theorem dX6_working_1 : decode cX6_working 1 = .ok (.iload_n 2, 1) := by decide +kernel
theorem dX6_working_2 : decode cX6_working 2 = .ok (.invokevirtual 138, 3) := by decide +kernel
theorem dX6_working_5 : decode cX6_working 5 = .ok (.lstore_n 3, 1) := by decide +kernel
theorem dX6_working_6 : decode cX6_working 6 = .ok (.iconst 0, 1) := by decide +kernel
theorem dX6_working_7 : decode cX6_working 7 = .ok (.istore 5, 2) := by decide +kernel
theorem dX6_working_9 : decode cX6_working 9 = .ok (.iload 5, 2) := by decide +kernel
theorem dX6_working_11 : decode cX6_working 11 = .ok (.aload_n 0, 1) := by decide +kernel
theorem dX6_working_12 : decode cX6_working 12 = .ok (.getfield 39, 3) := by decide +kernel
theorem dX6_working_15 : decode cX6_working 15 = .ok (.if_icmp .ge 30, 3) := by decide +kernel
theorem dX6_working_18 : decode cX6_working 18 = .ok (.lload_n 3, 1) := by decide +kernel
theorem dX6_working_19 : decode cX6_working 19 = .ok (.lstore 6, 2) := by decide +kernel
theorem dX6_working_21 : decode cX6_working 21 = .ok (.aload_n 0, 1) := by decide +kernel
theorem dX6_working_22 : decode cX6_working 22 = .ok (.lload 6, 2) := by decide +kernel
theorem dX6_working_24 : decode cX6_working 24 = .ok (.iload_n 1, 1) := by decide +kernel
theorem dX6_working_25 : decode cX6_working 25 = .ok (.invokevirtual 142, 3) := by decide +kernel
theorem dX6_working_28 : decode cX6_working 28 = .ok (.lstore_n 3, 1) := by decide +kernel
theorem dX6_working_29 : decode cX6_working 29 = .ok (.lload_n 3, 1) := by decide +kernel
theorem dX6_working_30 : decode cX6_working 30 = .ok (.lload 6, 2) := by decide +kernel
theorem dX6_working_32 : decode cX6_working 32 = .ok (.lcmp, 1) := by decide +kernel
theorem dX6_working_33 : decode cX6_working 33 = .ok (.ifCond .ne 6, 3) := by decide +kernel
theorem dX6_working_36 : decode cX6_working 36 = .ok (.goto 9, 3) := by decide +kernel
theorem dX6_working_39 : decode cX6_working 39 = .ok (.iinc 5 1, 3) := by decide +kernel
theorem dX6_working_42 : decode cX6_working 42 = .ok (.goto (-33), 3) := by decide +kernel
theorem dX6_working_45 : decode cX6_working 45 = .ok (.lload_n 3, 1) := by decide +kernel
theorem dX6_working_46 : decode cX6_working 46 = .ok (.lreturn, 1) := by decide +kernel
theorem dX6_mostSteps_0 : decode cX6_mostSteps 0 = .ok (.aload_n 0, 1) := by decide +kernel
theorem dX6_mostSteps_1 : decode cX6_mostSteps 1 = .ok (.iload_n 3, 1) := by decide +kernel
theorem dX6_mostSteps_2 : decode cX6_mostSteps 2 = .ok (.invokevirtual 138, 3) := by decide +kernel
theorem dX6_mostSteps_5 : decode cX6_mostSteps 5 = .ok (.lstore 4, 2) := by decide +kernel
theorem dX6_mostSteps_7 : decode cX6_mostSteps 7 = .ok (.iconst 0, 1) := by decide +kernel
theorem dX6_mostSteps_8 : decode cX6_mostSteps 8 = .ok (.istore 6, 2) := by decide +kernel
theorem dX6_mostSteps_10 : decode cX6_mostSteps 10 = .ok (.iload 6, 2) := by decide +kernel
theorem dX6_mostSteps_12 : decode cX6_mostSteps 12 = .ok (.aload_n 0, 1) := by decide +kernel
theorem dX6_mostSteps_13 : decode cX6_mostSteps 13 = .ok (.getfield 39, 3) := by decide +kernel
theorem dX6_mostSteps_16 : decode cX6_mostSteps 16 = .ok (.if_icmp .ge 32, 3) := by decide +kernel
theorem dX6_mostSteps_19 : decode cX6_mostSteps 19 = .ok (.lload 4, 2) := by decide +kernel
theorem dX6_mostSteps_21 : decode cX6_mostSteps 21 = .ok (.lconst 1, 1) := by decide +kernel
theorem dX6_mostSteps_22 : decode cX6_mostSteps 22 = .ok (.iload_n 1, 1) := by decide +kernel
theorem dX6_mostSteps_23 : decode cX6_mostSteps 23 = .ok (.lshl, 1) := by decide +kernel
theorem dX6_mostSteps_24 : decode cX6_mostSteps 24 = .ok (.land, 1) := by decide +kernel
theorem dX6_mostSteps_25 : decode cX6_mostSteps 25 = .ok (.lconst 0, 1) := by decide +kernel
theorem dX6_mostSteps_26 : decode cX6_mostSteps 26 = .ok (.lcmp, 1) := by decide +kernel
theorem dX6_mostSteps_27 : decode cX6_mostSteps 27 = .ok (.ifCond .eq 6, 3) := by decide +kernel
theorem dX6_mostSteps_30 : decode cX6_mostSteps 30 = .ok (.iload 6, 2) := by decide +kernel
theorem dX6_mostSteps_32 : decode cX6_mostSteps 32 = .ok (.ireturn, 1) := by decide +kernel
theorem dX6_mostSteps_33 : decode cX6_mostSteps 33 = .ok (.aload_n 0, 1) := by decide +kernel
theorem dX6_mostSteps_34 : decode cX6_mostSteps 34 = .ok (.lload 4, 2) := by decide +kernel
theorem dX6_mostSteps_36 : decode cX6_mostSteps 36 = .ok (.iload_n 2, 1) := by decide +kernel
theorem dX6_mostSteps_37 : decode cX6_mostSteps 37 = .ok (.invokevirtual 142, 3) := by decide +kernel
theorem dX6_mostSteps_40 : decode cX6_mostSteps 40 = .ok (.lstore 4, 2) := by decide +kernel
theorem dX6_mostSteps_42 : decode cX6_mostSteps 42 = .ok (.iinc 6 1, 3) := by decide +kernel
theorem dX6_mostSteps_45 : decode cX6_mostSteps 45 = .ok (.goto (-35), 3) := by decide +kernel
theorem dX6_mostSteps_48 : decode cX6_mostSteps 48 = .ok (.ldc 146, 2) := by decide +kernel
theorem dX6_mostSteps_50 : decode cX6_mostSteps 50 = .ok (.ireturn, 1) := by decide +kernel
theorem dX6_reachedFrom_0 : decode cX6_reachedFrom 0 = .ok (.lconst 1, 1) := by decide +kernel
theorem dX6_reachedFrom_1 : decode cX6_reachedFrom 1 = .ok (.iload_n 1, 1) := by decide +kernel
theorem dX6_reachedFrom_2 : decode cX6_reachedFrom 2 = .ok (.lshl, 1) := by decide +kernel
theorem dX6_reachedFrom_3 : decode cX6_reachedFrom 3 = .ok (.lstore 4, 2) := by decide +kernel
theorem dX6_reachedFrom_5 : decode cX6_reachedFrom 5 = .ok (.iconst 0, 1) := by decide +kernel
theorem dX6_reachedFrom_6 : decode cX6_reachedFrom 6 = .ok (.istore 6, 2) := by decide +kernel
theorem dX6_reachedFrom_8 : decode cX6_reachedFrom 8 = .ok (.iload 6, 2) := by decide +kernel
theorem dX6_reachedFrom_10 : decode cX6_reachedFrom 10 = .ok (.aload_n 0, 1) := by decide +kernel
theorem dX6_reachedFrom_11 : decode cX6_reachedFrom 11 = .ok (.getfield 39, 3) := by decide +kernel
theorem dX6_reachedFrom_14 : decode cX6_reachedFrom 14 = .ok (.if_icmp .ge 76, 3) := by decide +kernel
theorem dX6_reachedFrom_17 : decode cX6_reachedFrom 17 = .ok (.lload 4, 2) := by decide +kernel
theorem dX6_reachedFrom_19 : decode cX6_reachedFrom 19 = .ok (.lstore 7, 2) := by decide +kernel
theorem dX6_reachedFrom_21 : decode cX6_reachedFrom 21 = .ok (.iconst 0, 1) := by decide +kernel
