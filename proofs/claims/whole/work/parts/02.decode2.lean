theorem dX6_reachedFrom_22 : decode cX6_reachedFrom 22 = .ok (.istore 9, 2) := by decide +kernel
theorem dX6_reachedFrom_24 : decode cX6_reachedFrom 24 = .ok (.iload 9, 2) := by decide +kernel
theorem dX6_reachedFrom_26 : decode cX6_reachedFrom 26 = .ok (.aload_n 0, 1) := by decide +kernel
theorem dX6_reachedFrom_27 : decode cX6_reachedFrom 27 = .ok (.getfield 39, 3) := by decide +kernel
theorem dX6_reachedFrom_30 : decode cX6_reachedFrom 30 = .ok (.if_icmp .ge 43, 3) := by decide +kernel
theorem dX6_reachedFrom_33 : decode cX6_reachedFrom 33 = .ok (.lload 7, 2) := by decide +kernel
theorem dX6_reachedFrom_35 : decode cX6_reachedFrom 35 = .ok (.aload_n 0, 1) := by decide +kernel
theorem dX6_reachedFrom_36 : decode cX6_reachedFrom 36 = .ok (.iload_n 3, 1) := by decide +kernel
theorem dX6_reachedFrom_37 : decode cX6_reachedFrom 37 = .ok (.invokevirtual 138, 3) := by decide +kernel
theorem dX6_reachedFrom_40 : decode cX6_reachedFrom 40 = .ok (.ldc2_w 136, 3) := by decide +kernel
theorem dX6_reachedFrom_43 : decode cX6_reachedFrom 43 = .ok (.lxor, 1) := by decide +kernel
theorem dX6_reachedFrom_44 : decode cX6_reachedFrom 44 = .ok (.land, 1) := by decide +kernel
theorem dX6_reachedFrom_45 : decode cX6_reachedFrom 45 = .ok (.lconst 1, 1) := by decide +kernel
theorem dX6_reachedFrom_46 : decode cX6_reachedFrom 46 = .ok (.iload 9, 2) := by decide +kernel
theorem dX6_reachedFrom_48 : decode cX6_reachedFrom 48 = .ok (.lshl, 1) := by decide +kernel
theorem dX6_reachedFrom_49 : decode cX6_reachedFrom 49 = .ok (.land, 1) := by decide +kernel
theorem dX6_reachedFrom_50 : decode cX6_reachedFrom 50 = .ok (.lconst 0, 1) := by decide +kernel
theorem dX6_reachedFrom_51 : decode cX6_reachedFrom 51 = .ok (.lcmp, 1) := by decide +kernel
theorem dX6_reachedFrom_52 : decode cX6_reachedFrom 52 = .ok (.ifCond .eq 15, 3) := by decide +kernel
theorem dX6_reachedFrom_55 : decode cX6_reachedFrom 55 = .ok (.lload 4, 2) := by decide +kernel
theorem dX6_reachedFrom_57 : decode cX6_reachedFrom 57 = .ok (.aload_n 0, 1) := by decide +kernel
theorem dX6_reachedFrom_58 : decode cX6_reachedFrom 58 = .ok (.iload_n 2, 1) := by decide +kernel
theorem dX6_reachedFrom_59 : decode cX6_reachedFrom 59 = .ok (.iload 9, 2) := by decide +kernel
theorem dX6_reachedFrom_61 : decode cX6_reachedFrom 61 = .ok (.invokevirtual 132, 3) := by decide +kernel
theorem dX6_reachedFrom_64 : decode cX6_reachedFrom 64 = .ok (.lor, 1) := by decide +kernel
theorem dX6_reachedFrom_65 : decode cX6_reachedFrom 65 = .ok (.lstore 4, 2) := by decide +kernel
theorem dX6_reachedFrom_67 : decode cX6_reachedFrom 67 = .ok (.iinc 9 1, 3) := by decide +kernel
theorem dX6_reachedFrom_70 : decode cX6_reachedFrom 70 = .ok (.goto (-46), 3) := by decide +kernel
theorem dX6_reachedFrom_73 : decode cX6_reachedFrom 73 = .ok (.lload 4, 2) := by decide +kernel
theorem dX6_reachedFrom_75 : decode cX6_reachedFrom 75 = .ok (.lload 7, 2) := by decide +kernel
theorem dX6_reachedFrom_77 : decode cX6_reachedFrom 77 = .ok (.lcmp, 1) := by decide +kernel
theorem dX6_reachedFrom_78 : decode cX6_reachedFrom 78 = .ok (.ifCond .ne 6, 3) := by decide +kernel
theorem dX6_reachedFrom_81 : decode cX6_reachedFrom 81 = .ok (.goto 9, 3) := by decide +kernel
theorem dX6_reachedFrom_84 : decode cX6_reachedFrom 84 = .ok (.iinc 6 1, 3) := by decide +kernel
theorem dX6_reachedFrom_87 : decode cX6_reachedFrom 87 = .ok (.goto (-79), 3) := by decide +kernel
theorem dX6_reachedFrom_90 : decode cX6_reachedFrom 90 = .ok (.lload 4, 2) := by decide +kernel
theorem dX6_reachedFrom_92 : decode cX6_reachedFrom 92 = .ok (.lreturn, 1) := by decide +kernel
theorem dX6_countReached_0 : decode cX6_countReached 0 = .ok (.iload 5, 2) := by decide +kernel
theorem dX6_countReached_2 : decode cX6_countReached 2 = .ok (.iconst 1, 1) := by decide +kernel
theorem dX6_countReached_3 : decode cX6_countReached 3 = .ok (.if_icmp .ne 8, 3) := by decide +kernel
theorem dX6_countReached_6 : decode cX6_countReached 6 = .ok (.lload_n 1, 1) := by decide +kernel
theorem dX6_countReached_7 : decode cX6_countReached 7 = .ok (.invokestatic 147, 3) := by decide +kernel
theorem dX6_countReached_10 : decode cX6_countReached 10 = .ok (.ireturn, 1) := by decide +kernel
theorem dX6_countReached_11 : decode cX6_countReached 11 = .ok (.iload 5, 2) := by decide +kernel
theorem dX6_countReached_13 : decode cX6_countReached 13 = .ok (.iconst 2, 1) := by decide +kernel
theorem dX6_countReached_14 : decode cX6_countReached 14 = .ok (.if_icmp .ne 15, 3) := by decide +kernel
theorem dX6_countReached_17 : decode cX6_countReached 17 = .ok (.lload_n 1, 1) := by decide +kernel
theorem dX6_countReached_18 : decode cX6_countReached 18 = .ok (.aload_n 0, 1) := by decide +kernel
theorem dX6_countReached_19 : decode cX6_countReached 19 = .ok (.iload 4, 2) := by decide +kernel
theorem dX6_countReached_21 : decode cX6_countReached 21 = .ok (.invokevirtual 138, 3) := by decide +kernel
theorem dX6_countReached_24 : decode cX6_countReached 24 = .ok (.land, 1) := by decide +kernel
theorem dX6_countReached_25 : decode cX6_countReached 25 = .ok (.invokestatic 147, 3) := by decide +kernel
theorem dX6_countReached_28 : decode cX6_countReached 28 = .ok (.ireturn, 1) := by decide +kernel
theorem dX6_countReached_29 : decode cX6_countReached 29 = .ok (.iconst 0, 1) := by decide +kernel
theorem dX6_countReached_30 : decode cX6_countReached 30 = .ok (.istore 6, 2) := by decide +kernel
theorem dX6_countReached_32 : decode cX6_countReached 32 = .ok (.iconst 0, 1) := by decide +kernel
theorem dX6_countReached_33 : decode cX6_countReached 33 = .ok (.istore 7, 2) := by decide +kernel
theorem dX6_countReached_35 : decode cX6_countReached 35 = .ok (.iload 7, 2) := by decide +kernel
theorem dX6_countReached_37 : decode cX6_countReached 37 = .ok (.aload_n 0, 1) := by decide +kernel
theorem dX6_countReached_38 : decode cX6_countReached 38 = .ok (.getfield 39, 3) := by decide +kernel
theorem dX6_countReached_41 : decode cX6_countReached 41 = .ok (.if_icmp .ge 46, 3) := by decide +kernel
theorem dX6_countReached_44 : decode cX6_countReached 44 = .ok (.lload_n 1, 1) := by decide +kernel
theorem dX6_countReached_45 : decode cX6_countReached 45 = .ok (.aload_n 0, 1) := by decide +kernel
theorem dX6_countReached_46 : decode cX6_countReached 46 = .ok (.iload 4, 2) := by decide +kernel
theorem dX6_countReached_48 : decode cX6_countReached 48 = .ok (.invokevirtual 138, 3) := by decide +kernel
theorem dX6_countReached_51 : decode cX6_countReached 51 = .ok (.ldc2_w 136, 3) := by decide +kernel
theorem dX6_countReached_54 : decode cX6_countReached 54 = .ok (.lxor, 1) := by decide +kernel
theorem dX6_countReached_55 : decode cX6_countReached 55 = .ok (.land, 1) := by decide +kernel
theorem dX6_countReached_56 : decode cX6_countReached 56 = .ok (.lconst 1, 1) := by decide +kernel
theorem dX6_countReached_57 : decode cX6_countReached 57 = .ok (.iload 7, 2) := by decide +kernel
theorem dX6_countReached_59 : decode cX6_countReached 59 = .ok (.lshl, 1) := by decide +kernel
theorem dX6_countReached_60 : decode cX6_countReached 60 = .ok (.land, 1) := by decide +kernel
theorem dX6_countReached_61 : decode cX6_countReached 61 = .ok (.lconst 0, 1) := by decide +kernel
theorem dX6_countReached_62 : decode cX6_countReached 62 = .ok (.lcmp, 1) := by decide +kernel
theorem dX6_countReached_63 : decode cX6_countReached 63 = .ok (.ifCond .eq 18, 3) := by decide +kernel
theorem dX6_countReached_66 : decode cX6_countReached 66 = .ok (.aload_n 0, 1) := by decide +kernel
theorem dX6_countReached_67 : decode cX6_countReached 67 = .ok (.iload_n 3, 1) := by decide +kernel
theorem dX6_countReached_68 : decode cX6_countReached 68 = .ok (.iload 7, 2) := by decide +kernel
theorem dX6_countReached_70 : decode cX6_countReached 70 = .ok (.invokevirtual 132, 3) := by decide +kernel
theorem dX6_countReached_73 : decode cX6_countReached 73 = .ok (.lconst 0, 1) := by decide +kernel
theorem dX6_countReached_74 : decode cX6_countReached 74 = .ok (.lcmp, 1) := by decide +kernel
theorem dX6_countReached_75 : decode cX6_countReached 75 = .ok (.ifCond .ne 6, 3) := by decide +kernel
theorem dX6_countReached_78 : decode cX6_countReached 78 = .ok (.iinc 6 1, 3) := by decide +kernel
theorem dX6_countReached_81 : decode cX6_countReached 81 = .ok (.iinc 7 1, 3) := by decide +kernel
theorem dX6_countReached_84 : decode cX6_countReached 84 = .ok (.goto (-49), 3) := by decide +kernel
theorem dX6_countReached_87 : decode cX6_countReached 87 = .ok (.iload 6, 2) := by decide +kernel
theorem dX6_countReached_89 : decode cX6_countReached 89 = .ok (.ireturn, 1) := by decide +kernel
theorem dX7_init_0 : decode cX7_init 0 = .ok (.aload_n 0, 1) := by decide +kernel
theorem dX7_init_1 : decode cX7_init 1 = .ok (.invokespecial 1, 3) := by decide +kernel
theorem dX7_init_4 : decode cX7_init 4 = .ok (.aload_n 0, 1) := by decide +kernel
theorem dX7_init_5 : decode cX7_init 5 = .ok (.new 7, 3) := by decide +kernel
theorem dX7_init_8 : decode cX7_init 8 = .ok (.dup, 1) := by decide +kernel
theorem dX7_init_9 : decode cX7_init 9 = .ok (.iconst 3, 1) := by decide +kernel
theorem dX7_init_10 : decode cX7_init 10 = .ok (.bipush 9, 2) := by decide +kernel
theorem dX7_init_12 : decode cX7_init 12 = .ok (.iload_n 1, 1) := by decide +kernel
theorem dX7_init_13 : decode cX7_init 13 = .ok (.invokestatic 11, 3) := by decide +kernel
theorem dX7_init_16 : decode cX7_init 16 = .ok (.invokestatic 17, 3) := by decide +kernel
theorem dX7_init_19 : decode cX7_init 19 = .ok (.invokespecial 20, 3) := by decide +kernel
theorem dX7_init_22 : decode cX7_init 22 = .ok (.putfield 23, 3) := by decide +kernel
theorem dX7_init_25 : decode cX7_init 25 = .ok (.aload_n 0, 1) := by decide +kernel
theorem dX7_init_26 : decode cX7_init 26 = .ok (.new 27, 3) := by decide +kernel
theorem dX7_init_29 : decode cX7_init 29 = .ok (.dup, 1) := by decide +kernel
theorem dX7_init_30 : decode cX7_init 30 = .ok (.aload_n 0, 1) := by decide +kernel
theorem dX7_init_31 : decode cX7_init 31 = .ok (.getfield 23, 3) := by decide +kernel
theorem dX7_init_34 : decode cX7_init 34 = .ok (.invokespecial 29, 3) := by decide +kernel
theorem dX7_init_37 : decode cX7_init 37 = .ok (.putfield 32, 3) := by decide +kernel
theorem dX7_init_40 : decode cX7_init 40 = .ok (.aload_n 0, 1) := by decide +kernel
theorem dX7_init_41 : decode cX7_init 41 = .ok (.new 36, 3) := by decide +kernel
theorem dX7_init_44 : decode cX7_init 44 = .ok (.dup, 1) := by decide +kernel
theorem dX7_init_45 : decode cX7_init 45 = .ok (.aload_n 0, 1) := by decide +kernel
theorem dX7_init_46 : decode cX7_init 46 = .ok (.getfield 23, 3) := by decide +kernel
theorem dX7_init_49 : decode cX7_init 49 = .ok (.invokespecial 38, 3) := by decide +kernel
theorem dX7_init_52 : decode cX7_init 52 = .ok (.putfield 39, 3) := by decide +kernel
theorem dX7_init_55 : decode cX7_init 55 = .ok (.aload_n 0, 1) := by decide +kernel
theorem dX7_init_56 : decode cX7_init 56 = .ok (.new 43, 3) := by decide +kernel
theorem dX7_init_59 : decode cX7_init 59 = .ok (.dup, 1) := by decide +kernel
theorem dX7_init_60 : decode cX7_init 60 = .ok (.invokespecial 45, 3) := by decide +kernel
theorem dX7_init_63 : decode cX7_init 63 = .ok (.putfield 46, 3) := by decide +kernel
theorem dX7_init_66 : decode cX7_init 66 = .ok (.aload_n 0, 1) := by decide +kernel
theorem dX7_init_67 : decode cX7_init 67 = .ok (.new 50, 3) := by decide +kernel
theorem dX7_init_70 : decode cX7_init 70 = .ok (.dup, 1) := by decide +kernel
theorem dX7_init_71 : decode cX7_init 71 = .ok (.aload_n 0, 1) := by decide +kernel
theorem dX7_init_72 : decode cX7_init 72 = .ok (.getfield 46, 3) := by decide +kernel
theorem dX7_init_75 : decode cX7_init 75 = .ok (.invokespecial 52, 3) := by decide +kernel
theorem dX7_init_78 : decode cX7_init 78 = .ok (.putfield 55, 3) := by decide +kernel
theorem dX7_init_81 : decode cX7_init 81 = .ok (.aload_n 0, 1) := by decide +kernel
theorem dX7_init_82 : decode cX7_init 82 = .ok (.new 59, 3) := by decide +kernel
theorem dX7_init_85 : decode cX7_init 85 = .ok (.dup, 1) := by decide +kernel
theorem dX7_init_86 : decode cX7_init 86 = .ok (.invokespecial 61, 3) := by decide +kernel
theorem dX7_init_89 : decode cX7_init 89 = .ok (.putfield 62, 3) := by decide +kernel
theorem dX7_init_92 : decode cX7_init 92 = .ok (.aload_n 0, 1) := by decide +kernel
theorem dX7_init_93 : decode cX7_init 93 = .ok (.new 59, 3) := by decide +kernel
theorem dX7_init_96 : decode cX7_init 96 = .ok (.dup, 1) := by decide +kernel
theorem dX7_init_97 : decode cX7_init 97 = .ok (.invokespecial 61, 3) := by decide +kernel
theorem dX7_init_100 : decode cX7_init 100 = .ok (.putfield 66, 3) := by decide +kernel
theorem dX7_init_103 : decode cX7_init 103 = .ok (.aload_n 0, 1) := by decide +kernel
theorem dX7_init_104 : decode cX7_init 104 = .ok (.iconst 0, 1) := by decide +kernel
theorem dX7_init_105 : decode cX7_init 105 = .ok (.putfield 69, 3) := by decide +kernel
theorem dX7_init_108 : decode cX7_init 108 = .ok (.aload_n 0, 1) := by decide +kernel
theorem dX7_init_109 : decode cX7_init 109 = .ok (.iconst 0, 1) := by decide +kernel
theorem dX7_init_110 : decode cX7_init 110 = .ok (.putfield 73, 3) := by decide +kernel
theorem dX7_init_113 : decode cX7_init 113 = .ok (.return_, 1) := by decide +kernel
theorem dX7_robot_0 : decode cX7_robot 0 = .ok (.aload_n 0, 1) := by decide +kernel
theorem dX7_robot_1 : decode cX7_robot 1 = .ok (.iload_n 1, 1) := by decide +kernel
theorem dX7_robot_2 : decode cX7_robot 2 = .ok (.invokevirtual 76, 3) := by decide +kernel
theorem dX7_robot_5 : decode cX7_robot 5 = .ok (.ifCond .eq 6, 3) := by decide +kernel
theorem dX7_robot_8 : decode cX7_robot 8 = .ok (.ldc 80, 2) := by decide +kernel
theorem dX7_robot_10 : decode cX7_robot 10 = .ok (.ireturn, 1) := by decide +kernel
theorem dX7_robot_11 : decode cX7_robot 11 = .ok (.aload_n 0, 1) := by decide +kernel
theorem dX7_robot_12 : decode cX7_robot 12 = .ok (.getfield 23, 3) := by decide +kernel
theorem dX7_robot_15 : decode cX7_robot 15 = .ok (.aload_n 0, 1) := by decide +kernel
theorem dX7_robot_16 : decode cX7_robot 16 = .ok (.getfield 69, 3) := by decide +kernel
theorem dX7_robot_19 : decode cX7_robot 19 = .ok (.invokevirtual 81, 3) := by decide +kernel
theorem dX7_robot_22 : decode cX7_robot 22 = .ok (.istore_n 2, 1) := by decide +kernel
theorem dX7_robot_23 : decode cX7_robot 23 = .ok (.iload_n 2, 1) := by decide +kernel
theorem dX7_robot_24 : decode cX7_robot 24 = .ok (.iconst 4, 1) := by decide +kernel
theorem dX7_robot_25 : decode cX7_robot 25 = .ok (.if_icmp .lt 6, 3) := by decide +kernel
theorem dX7_robot_28 : decode cX7_robot 28 = .ok (.ldc 85, 2) := by decide +kernel
theorem dX7_robot_30 : decode cX7_robot 30 = .ok (.ireturn, 1) := by decide +kernel
theorem dX7_robot_31 : decode cX7_robot 31 = .ok (.aload_n 0, 1) := by decide +kernel
theorem dX7_robot_32 : decode cX7_robot 32 = .ok (.dup, 1) := by decide +kernel
theorem dX7_robot_33 : decode cX7_robot 33 = .ok (.getfield 69, 3) := by decide +kernel
theorem dX7_robot_36 : decode cX7_robot 36 = .ok (.aload_n 0, 1) := by decide +kernel
theorem dX7_robot_37 : decode cX7_robot 37 = .ok (.getfield 23, 3) := by decide +kernel
theorem dX7_robot_40 : decode cX7_robot 40 = .ok (.iload_n 1, 1) := by decide +kernel
theorem dX7_robot_41 : decode cX7_robot 41 = .ok (.invokevirtual 86, 3) := by decide +kernel
theorem dX7_robot_44 : decode cX7_robot 44 = .ok (.iadd, 1) := by decide +kernel
theorem dX7_robot_45 : decode cX7_robot 45 = .ok (.putfield 69, 3) := by decide +kernel
theorem dX7_robot_48 : decode cX7_robot 48 = .ok (.iload_n 2, 1) := by decide +kernel
theorem dX7_robot_49 : decode cX7_robot 49 = .ok (.iconst 1, 1) := by decide +kernel
theorem dX7_robot_50 : decode cX7_robot 50 = .ok (.iadd, 1) := by decide +kernel
theorem dX7_robot_51 : decode cX7_robot 51 = .ok (.ireturn, 1) := by decide +kernel
theorem dX7_wipe_0 : decode cX7_wipe 0 = .ok (.aload_n 0, 1) := by decide +kernel
theorem dX7_wipe_1 : decode cX7_wipe 1 = .ok (.getfield 23, 3) := by decide +kernel
theorem dX7_wipe_4 : decode cX7_wipe 4 = .ok (.aload_n 0, 1) := by decide +kernel
theorem dX7_wipe_5 : decode cX7_wipe 5 = .ok (.getfield 69, 3) := by decide +kernel
theorem dX7_wipe_8 : decode cX7_wipe 8 = .ok (.invokevirtual 81, 3) := by decide +kernel
theorem dX7_wipe_11 : decode cX7_wipe 11 = .ok (.istore_n 1, 1) := by decide +kernel
theorem dX7_wipe_12 : decode cX7_wipe 12 = .ok (.aload_n 0, 1) := by decide +kernel
theorem dX7_wipe_13 : decode cX7_wipe 13 = .ok (.iconst 0, 1) := by decide +kernel
theorem dX7_wipe_14 : decode cX7_wipe 14 = .ok (.putfield 69, 3) := by decide +kernel
theorem dX7_wipe_17 : decode cX7_wipe 17 = .ok (.iload_n 1, 1) := by decide +kernel
theorem dX7_wipe_18 : decode cX7_wipe 18 = .ok (.ireturn, 1) := by decide +kernel
theorem dX7_at_0 : decode cX7_at 0 = .ok (.aload_n 0, 1) := by decide +kernel
theorem dX7_at_1 : decode cX7_at 1 = .ok (.iload_n 1, 1) := by decide +kernel
theorem dX7_at_2 : decode cX7_at 2 = .ok (.invokevirtual 76, 3) := by decide +kernel
theorem dX7_at_5 : decode cX7_at 5 = .ok (.ifCond .eq 8, 3) := by decide +kernel
theorem dX7_at_8 : decode cX7_at 8 = .ok (.ldc 80, 2) := by decide +kernel
theorem dX7_at_10 : decode cX7_at 10 = .ok (.goto 15, 3) := by decide +kernel
theorem dX7_at_13 : decode cX7_at 13 = .ok (.aload_n 0, 1) := by decide +kernel
theorem dX7_at_14 : decode cX7_at 14 = .ok (.getfield 23, 3) := by decide +kernel
theorem dX7_at_17 : decode cX7_at 17 = .ok (.aload_n 0, 1) := by decide +kernel
theorem dX7_at_18 : decode cX7_at 18 = .ok (.getfield 69, 3) := by decide +kernel
theorem dX7_at_21 : decode cX7_at 21 = .ok (.iload_n 1, 1) := by decide +kernel
theorem dX7_at_22 : decode cX7_at 22 = .ok (.invokevirtual 89, 3) := by decide +kernel
theorem dX7_at_25 : decode cX7_at 25 = .ok (.ireturn, 1) := by decide +kernel
theorem dX7_view_0 : decode cX7_view 0 = .ok (.aload_n 0, 1) := by decide +kernel
theorem dX7_view_1 : decode cX7_view 1 = .ok (.iload_n 1, 1) := by decide +kernel
theorem dX7_view_2 : decode cX7_view 2 = .ok (.invokevirtual 76, 3) := by decide +kernel
theorem dX7_view_5 : decode cX7_view 5 = .ok (.ifCond .eq 6, 3) := by decide +kernel
theorem dX7_view_8 : decode cX7_view 8 = .ok (.ldc 80, 2) := by decide +kernel
theorem dX7_view_10 : decode cX7_view 10 = .ok (.ireturn, 1) := by decide +kernel
theorem dX7_view_11 : decode cX7_view 11 = .ok (.aload_n 0, 1) := by decide +kernel
theorem dX7_view_12 : decode cX7_view 12 = .ok (.getfield 23, 3) := by decide +kernel
theorem dX7_view_15 : decode cX7_view 15 = .ok (.aload_n 0, 1) := by decide +kernel
theorem dX7_view_16 : decode cX7_view 16 = .ok (.getfield 69, 3) := by decide +kernel
theorem dX7_view_19 : decode cX7_view 19 = .ok (.iload_n 1, 1) := by decide +kernel
theorem dX7_view_20 : decode cX7_view 20 = .ok (.invokevirtual 89, 3) := by decide +kernel
theorem dX7_view_23 : decode cX7_view 23 = .ok (.ifCond .ne 6, 3) := by decide +kernel
theorem dX7_view_26 : decode cX7_view 26 = .ok (.ldc 92, 2) := by decide +kernel
theorem dX7_view_28 : decode cX7_view 28 = .ok (.ireturn, 1) := by decide +kernel
theorem dX7_view_29 : decode cX7_view 29 = .ok (.aload_n 0, 1) := by decide +kernel
theorem dX7_view_30 : decode cX7_view 30 = .ok (.getfield 23, 3) := by decide +kernel
theorem dX7_view_33 : decode cX7_view 33 = .ok (.aload_n 0, 1) := by decide +kernel
theorem dX7_view_34 : decode cX7_view 34 = .ok (.getfield 69, 3) := by decide +kernel
theorem dX7_view_37 : decode cX7_view 37 = .ok (.iload_n 1, 1) := by decide +kernel
theorem dX7_view_38 : decode cX7_view 38 = .ok (.invokevirtual 93, 3) := by decide +kernel
theorem dX7_view_41 : decode cX7_view 41 = .ok (.iload_n 2, 1) := by decide +kernel
theorem dX7_view_42 : decode cX7_view 42 = .ok (.invokestatic 97, 3) := by decide +kernel
theorem dX7_view_45 : decode cX7_view 45 = .ok (.ireturn, 1) := by decide +kernel
theorem dX7_does_0 : decode cX7_does 0 = .ok (.aload_n 0, 1) := by decide +kernel
theorem dX7_does_1 : decode cX7_does 1 = .ok (.iload_n 1, 1) := by decide +kernel
theorem dX7_does_2 : decode cX7_does 2 = .ok (.invokevirtual 76, 3) := by decide +kernel
theorem dX7_does_5 : decode cX7_does 5 = .ok (.ifCond .eq 6, 3) := by decide +kernel
theorem dX7_does_8 : decode cX7_does 8 = .ok (.ldc 80, 2) := by decide +kernel
theorem dX7_does_10 : decode cX7_does 10 = .ok (.ireturn, 1) := by decide +kernel
theorem dX7_does_11 : decode cX7_does 11 = .ok (.aload_n 0, 1) := by decide +kernel
theorem dX7_does_12 : decode cX7_does 12 = .ok (.getfield 23, 3) := by decide +kernel
theorem dX7_does_15 : decode cX7_does 15 = .ok (.aload_n 0, 1) := by decide +kernel
theorem dX7_does_16 : decode cX7_does 16 = .ok (.getfield 69, 3) := by decide +kernel
theorem dX7_does_19 : decode cX7_does 19 = .ok (.iload_n 1, 1) := by decide +kernel
theorem dX7_does_20 : decode cX7_does 20 = .ok (.invokevirtual 89, 3) := by decide +kernel
theorem dX7_does_23 : decode cX7_does 23 = .ok (.ifCond .ne 8, 3) := by decide +kernel
theorem dX7_does_26 : decode cX7_does 26 = .ok (.ldc 92, 2) := by decide +kernel
theorem dX7_does_28 : decode cX7_does 28 = .ok (.goto 19, 3) := by decide +kernel
theorem dX7_does_31 : decode cX7_does 31 = .ok (.aload_n 0, 1) := by decide +kernel
theorem dX7_does_32 : decode cX7_does 32 = .ok (.getfield 62, 3) := by decide +kernel
theorem dX7_does_35 : decode cX7_does 35 = .ok (.aload_n 0, 1) := by decide +kernel
theorem dX7_does_36 : decode cX7_does 36 = .ok (.getfield 23, 3) := by decide +kernel
theorem dX7_does_39 : decode cX7_does 39 = .ok (.aload_n 0, 1) := by decide +kernel
theorem dX7_does_40 : decode cX7_does 40 = .ok (.getfield 69, 3) := by decide +kernel
theorem dX7_does_43 : decode cX7_does 43 = .ok (.iload_n 1, 1) := by decide +kernel
theorem dX7_does_44 : decode cX7_does 44 = .ok (.invokevirtual 103, 3) := by decide +kernel
theorem dX7_does_47 : decode cX7_does 47 = .ok (.ireturn, 1) := by decide +kernel
theorem dX7_name_0 : decode cX7_name 0 = .ok (.aload_n 0, 1) := by decide +kernel
theorem dX7_name_1 : decode cX7_name 1 = .ok (.iload_n 1, 1) := by decide +kernel
theorem dX7_name_2 : decode cX7_name 2 = .ok (.invokevirtual 76, 3) := by decide +kernel
theorem dX7_name_5 : decode cX7_name 5 = .ok (.ifCond .eq 8, 3) := by decide +kernel
theorem dX7_name_8 : decode cX7_name 8 = .ok (.ldc 80, 2) := by decide +kernel
theorem dX7_name_10 : decode cX7_name 10 = .ok (.goto 22, 3) := by decide +kernel
theorem dX7_name_13 : decode cX7_name 13 = .ok (.aload_n 0, 1) := by decide +kernel
theorem dX7_name_14 : decode cX7_name 14 = .ok (.getfield 23, 3) := by decide +kernel
theorem dX7_name_17 : decode cX7_name 17 = .ok (.aload_n 0, 1) := by decide +kernel
theorem dX7_name_18 : decode cX7_name 18 = .ok (.getfield 23, 3) := by decide +kernel
theorem dX7_name_21 : decode cX7_name 21 = .ok (.aload_n 0, 1) := by decide +kernel
theorem dX7_name_22 : decode cX7_name 22 = .ok (.getfield 69, 3) := by decide +kernel
theorem dX7_name_25 : decode cX7_name 25 = .ok (.invokevirtual 107, 3) := by decide +kernel
theorem dX7_name_28 : decode cX7_name 28 = .ok (.iload_n 1, 1) := by decide +kernel
theorem dX7_name_29 : decode cX7_name 29 = .ok (.invokevirtual 89, 3) := by decide +kernel
theorem dX7_name_32 : decode cX7_name 32 = .ok (.ireturn, 1) := by decide +kernel
theorem dX7_goal_0 : decode cX7_goal 0 = .ok (.iload_n 1, 1) := by decide +kernel
theorem dX7_goal_1 : decode cX7_goal 1 = .ok (.iconst 3, 1) := by decide +kernel
theorem dX7_goal_2 : decode cX7_goal 2 = .ok (.invokestatic 110, 3) := by decide +kernel
theorem dX7_goal_5 : decode cX7_goal 5 = .ok (.ifCond .eq 6, 3) := by decide +kernel
theorem dX7_goal_8 : decode cX7_goal 8 = .ok (.ldc 80, 2) := by decide +kernel
theorem dX7_goal_10 : decode cX7_goal 10 = .ok (.ireturn, 1) := by decide +kernel
theorem dX7_goal_11 : decode cX7_goal 11 = .ok (.aload_n 0, 1) := by decide +kernel
theorem dX7_goal_12 : decode cX7_goal 12 = .ok (.getfield 23, 3) := by decide +kernel
theorem dX7_goal_15 : decode cX7_goal 15 = .ok (.aload_n 0, 1) := by decide +kernel
theorem dX7_goal_16 : decode cX7_goal 16 = .ok (.getfield 69, 3) := by decide +kernel
theorem dX7_goal_19 : decode cX7_goal 19 = .ok (.iload_n 1, 1) := by decide +kernel
theorem dX7_goal_20 : decode cX7_goal 20 = .ok (.invokevirtual 114, 3) := by decide +kernel
theorem dX7_goal_23 : decode cX7_goal 23 = .ok (.ifCond .eq 7, 3) := by decide +kernel
theorem dX7_goal_26 : decode cX7_goal 26 = .ok (.iconst 1, 1) := by decide +kernel
theorem dX7_goal_27 : decode cX7_goal 27 = .ok (.goto 4, 3) := by decide +kernel
theorem dX7_goal_30 : decode cX7_goal 30 = .ok (.iconst 0, 1) := by decide +kernel
theorem dX7_goal_31 : decode cX7_goal 31 = .ok (.ireturn, 1) := by decide +kernel
theorem dX7_step_0 : decode cX7_step 0 = .ok (.aload_n 0, 1) := by decide +kernel
theorem dX7_step_1 : decode cX7_step 1 = .ok (.getfield 69, 3) := by decide +kernel
theorem dX7_step_4 : decode cX7_step 4 = .ok (.ifCond .ne 6, 3) := by decide +kernel
theorem dX7_step_7 : decode cX7_step 7 = .ok (.ldc 117, 2) := by decide +kernel
theorem dX7_step_9 : decode cX7_step 9 = .ok (.ireturn, 1) := by decide +kernel
theorem dX7_step_10 : decode cX7_step 10 = .ok (.aload_n 0, 1) := by decide +kernel
theorem dX7_step_11 : decode cX7_step 11 = .ok (.getfield 69, 3) := by decide +kernel
theorem dX7_step_14 : decode cX7_step 14 = .ok (.istore_n 1, 1) := by decide +kernel
theorem dX7_step_15 : decode cX7_step 15 = .ok (.iconst 0, 1) := by decide +kernel
theorem dX7_step_16 : decode cX7_step 16 = .ok (.istore_n 2, 1) := by decide +kernel
theorem dX7_step_17 : decode cX7_step 17 = .ok (.iconst 0, 1) := by decide +kernel
theorem dX7_step_18 : decode cX7_step 18 = .ok (.istore_n 3, 1) := by decide +kernel
theorem dX7_step_19 : decode cX7_step 19 = .ok (.iload_n 3, 1) := by decide +kernel
theorem dX7_step_20 : decode cX7_step 20 = .ok (.aload_n 0, 1) := by decide +kernel
theorem dX7_step_21 : decode cX7_step 21 = .ok (.getfield 23, 3) := by decide +kernel
theorem dX7_step_24 : decode cX7_step 24 = .ok (.getfield 118, 3) := by decide +kernel
theorem dX7_step_27 : decode cX7_step 27 = .ok (.if_icmp .ge 85, 3) := by decide +kernel
theorem dX7_step_30 : decode cX7_step 30 = .ok (.aload_n 0, 1) := by decide +kernel
theorem dX7_step_31 : decode cX7_step 31 = .ok (.getfield 23, 3) := by decide +kernel
theorem dX7_step_34 : decode cX7_step 34 = .ok (.aload_n 0, 1) := by decide +kernel
theorem dX7_step_35 : decode cX7_step 35 = .ok (.getfield 69, 3) := by decide +kernel
theorem dX7_step_38 : decode cX7_step 38 = .ok (.iload_n 3, 1) := by decide +kernel
theorem dX7_step_39 : decode cX7_step 39 = .ok (.invokevirtual 89, 3) := by decide +kernel
theorem dX7_step_42 : decode cX7_step 42 = .ok (.istore 4, 2) := by decide +kernel
theorem dX7_step_44 : decode cX7_step 44 = .ok (.iload 4, 2) := by decide +kernel
theorem dX7_step_46 : decode cX7_step 46 = .ok (.ifCond .ne 7, 3) := by decide +kernel
theorem dX7_step_49 : decode cX7_step 49 = .ok (.iconst 0, 1) := by decide +kernel
theorem dX7_step_50 : decode cX7_step 50 = .ok (.goto 19, 3) := by decide +kernel
theorem dX7_step_53 : decode cX7_step 53 = .ok (.aload_n 0, 1) := by decide +kernel
theorem dX7_step_54 : decode cX7_step 54 = .ok (.getfield 62, 3) := by decide +kernel
theorem dX7_step_57 : decode cX7_step 57 = .ok (.aload_n 0, 1) := by decide +kernel
theorem dX7_step_58 : decode cX7_step 58 = .ok (.getfield 23, 3) := by decide +kernel
theorem dX7_step_61 : decode cX7_step 61 = .ok (.aload_n 0, 1) := by decide +kernel
theorem dX7_step_62 : decode cX7_step 62 = .ok (.getfield 69, 3) := by decide +kernel
theorem dX7_step_65 : decode cX7_step 65 = .ok (.iload_n 3, 1) := by decide +kernel
theorem dX7_step_66 : decode cX7_step 66 = .ok (.invokevirtual 103, 3) := by decide +kernel
theorem dX7_step_69 : decode cX7_step 69 = .ok (.istore 5, 2) := by decide +kernel
theorem dX7_step_71 : decode cX7_step 71 = .ok (.iload 5, 2) := by decide +kernel
theorem dX7_step_73 : decode cX7_step 73 = .ok (.ifCond .eq 33, 3) := by decide +kernel
theorem dX7_step_76 : decode cX7_step 76 = .ok (.iload_n 1, 1) := by decide +kernel
theorem dX7_step_77 : decode cX7_step 77 = .ok (.iload 4, 2) := by decide +kernel
theorem dX7_step_79 : decode cX7_step 79 = .ok (.aload_n 0, 1) := by decide +kernel
theorem dX7_step_80 : decode cX7_step 80 = .ok (.getfield 23, 3) := by decide +kernel
theorem dX7_step_83 : decode cX7_step 83 = .ok (.iload_n 3, 1) := by decide +kernel
theorem dX7_step_84 : decode cX7_step 84 = .ok (.iload 5, 2) := by decide +kernel
theorem dX7_step_86 : decode cX7_step 86 = .ok (.iconst (-1), 1) := by decide +kernel
theorem dX7_step_87 : decode cX7_step 87 = .ok (.if_icmp .ne 7, 3) := by decide +kernel
theorem dX7_step_90 : decode cX7_step 90 = .ok (.iconst (-1), 1) := by decide +kernel
theorem dX7_step_91 : decode cX7_step 91 = .ok (.goto 4, 3) := by decide +kernel
theorem dX7_step_94 : decode cX7_step 94 = .ok (.iconst 1, 1) := by decide +kernel
theorem dX7_step_95 : decode cX7_step 95 = .ok (.invokevirtual 121, 3) := by decide +kernel
theorem dX7_step_98 : decode cX7_step 98 = .ok (.imul, 1) := by decide +kernel
theorem dX7_step_99 : decode cX7_step 99 = .ok (.iadd, 1) := by decide +kernel
theorem dX7_step_100 : decode cX7_step 100 = .ok (.istore_n 1, 1) := by decide +kernel
theorem dX7_step_101 : decode cX7_step 101 = .ok (.iload_n 2, 1) := by decide +kernel
theorem dX7_step_102 : decode cX7_step 102 = .ok (.iload 4, 2) := by decide +kernel
theorem dX7_step_104 : decode cX7_step 104 = .ok (.iadd, 1) := by decide +kernel
theorem dX7_step_105 : decode cX7_step 105 = .ok (.istore_n 2, 1) := by decide +kernel
theorem dX7_step_106 : decode cX7_step 106 = .ok (.iinc 3 1, 3) := by decide +kernel
theorem dX7_step_109 : decode cX7_step 109 = .ok (.goto (-90), 3) := by decide +kernel
theorem dX7_step_112 : decode cX7_step 112 = .ok (.aload_n 0, 1) := by decide +kernel
theorem dX7_step_113 : decode cX7_step 113 = .ok (.iload_n 1, 1) := by decide +kernel
theorem dX7_step_114 : decode cX7_step 114 = .ok (.putfield 69, 3) := by decide +kernel
theorem dX7_step_117 : decode cX7_step 117 = .ok (.iload_n 2, 1) := by decide +kernel
theorem dX7_step_118 : decode cX7_step 118 = .ok (.ireturn, 1) := by decide +kernel
theorem dX7_go_0 : decode cX7_go 0 = .ok (.aload_n 0, 1) := by decide +kernel
theorem dX7_go_1 : decode cX7_go 1 = .ok (.iload_n 1, 1) := by decide +kernel
theorem dX7_go_2 : decode cX7_go 2 = .ok (.invokevirtual 76, 3) := by decide +kernel
theorem dX7_go_5 : decode cX7_go 5 = .ok (.ifCond .eq 6, 3) := by decide +kernel
theorem dX7_go_8 : decode cX7_go 8 = .ok (.ldc 80, 2) := by decide +kernel
theorem dX7_go_10 : decode cX7_go 10 = .ok (.ireturn, 1) := by decide +kernel
theorem dX7_go_11 : decode cX7_go 11 = .ok (.aload_n 0, 1) := by decide +kernel
theorem dX7_go_12 : decode cX7_go 12 = .ok (.getfield 23, 3) := by decide +kernel
theorem dX7_go_15 : decode cX7_go 15 = .ok (.aload_n 0, 1) := by decide +kernel
theorem dX7_go_16 : decode cX7_go 16 = .ok (.getfield 69, 3) := by decide +kernel
theorem dX7_go_19 : decode cX7_go 19 = .ok (.iload_n 1, 1) := by decide +kernel
theorem dX7_go_20 : decode cX7_go 20 = .ok (.invokevirtual 89, 3) := by decide +kernel
theorem dX7_go_23 : decode cX7_go 23 = .ok (.ifCond .ne 7, 3) := by decide +kernel
theorem dX7_go_26 : decode cX7_go 26 = .ok (.iconst 0, 1) := by decide +kernel
theorem dX7_go_27 : decode cX7_go 27 = .ok (.goto 19, 3) := by decide +kernel
theorem dX7_go_30 : decode cX7_go 30 = .ok (.aload_n 0, 1) := by decide +kernel
theorem dX7_go_31 : decode cX7_go 31 = .ok (.getfield 62, 3) := by decide +kernel
theorem dX7_go_34 : decode cX7_go 34 = .ok (.aload_n 0, 1) := by decide +kernel
theorem dX7_go_35 : decode cX7_go 35 = .ok (.getfield 23, 3) := by decide +kernel
theorem dX7_go_38 : decode cX7_go 38 = .ok (.aload_n 0, 1) := by decide +kernel
theorem dX7_go_39 : decode cX7_go 39 = .ok (.getfield 69, 3) := by decide +kernel
theorem dX7_go_42 : decode cX7_go 42 = .ok (.iload_n 1, 1) := by decide +kernel
theorem dX7_go_43 : decode cX7_go 43 = .ok (.invokevirtual 103, 3) := by decide +kernel
theorem dX7_go_46 : decode cX7_go 46 = .ok (.istore_n 3, 1) := by decide +kernel
theorem dX7_go_47 : decode cX7_go 47 = .ok (.iload_n 3, 1) := by decide +kernel
theorem dX7_go_48 : decode cX7_go 48 = .ok (.ifCond .ne 6, 3) := by decide +kernel
theorem dX7_go_51 : decode cX7_go 51 = .ok (.ldc 117, 2) := by decide +kernel
theorem dX7_go_53 : decode cX7_go 53 = .ok (.ireturn, 1) := by decide +kernel
theorem dX7_go_54 : decode cX7_go 54 = .ok (.iload_n 3, 1) := by decide +kernel
theorem dX7_go_55 : decode cX7_go 55 = .ok (.iconst 2, 1) := by decide +kernel
theorem dX7_go_56 : decode cX7_go 56 = .ok (.if_icmp .ne 14, 3) := by decide +kernel
theorem dX7_go_59 : decode cX7_go 59 = .ok (.iload_n 2, 1) := by decide +kernel
theorem dX7_go_60 : decode cX7_go 60 = .ok (.iconst 1, 1) := by decide +kernel
theorem dX7_go_61 : decode cX7_go 61 = .ok (.if_icmp .ne 7, 3) := by decide +kernel
theorem dX7_go_64 : decode cX7_go 64 = .ok (.iconst 1, 1) := by decide +kernel
theorem dX7_go_65 : decode cX7_go 65 = .ok (.goto 4, 3) := by decide +kernel
theorem dX7_go_68 : decode cX7_go 68 = .ok (.iconst (-1), 1) := by decide +kernel
theorem dX7_go_69 : decode cX7_go 69 = .ok (.istore_n 3, 1) := by decide +kernel
theorem dX7_go_70 : decode cX7_go 70 = .ok (.aload_n 0, 1) := by decide +kernel
theorem dX7_go_71 : decode cX7_go 71 = .ok (.dup, 1) := by decide +kernel
theorem dX7_go_72 : decode cX7_go 72 = .ok (.getfield 69, 3) := by decide +kernel
theorem dX7_go_75 : decode cX7_go 75 = .ok (.aload_n 0, 1) := by decide +kernel
theorem dX7_go_76 : decode cX7_go 76 = .ok (.getfield 23, 3) := by decide +kernel
theorem dX7_go_79 : decode cX7_go 79 = .ok (.iload_n 1, 1) := by decide +kernel
theorem dX7_go_80 : decode cX7_go 80 = .ok (.iload_n 3, 1) := by decide +kernel
theorem dX7_go_81 : decode cX7_go 81 = .ok (.invokevirtual 121, 3) := by decide +kernel
theorem dX7_go_84 : decode cX7_go 84 = .ok (.iadd, 1) := by decide +kernel
theorem dX7_go_85 : decode cX7_go 85 = .ok (.putfield 69, 3) := by decide +kernel
theorem dX7_go_88 : decode cX7_go 88 = .ok (.iconst 1, 1) := by decide +kernel
theorem dX7_go_89 : decode cX7_go 89 = .ok (.ireturn, 1) := by decide +kernel
theorem dX7_feed_0 : decode cX7_feed 0 = .ok (.iload_n 3, 1) := by decide +kernel
theorem dX7_feed_1 : decode cX7_feed 1 = .ok (.iconst 1, 1) := by decide +kernel
theorem dX7_feed_2 : decode cX7_feed 2 = .ok (.if_icmp .lt 9, 3) := by decide +kernel
theorem dX7_feed_5 : decode cX7_feed 5 = .ok (.iload_n 3, 1) := by decide +kernel
theorem dX7_feed_6 : decode cX7_feed 6 = .ok (.bipush 8, 2) := by decide +kernel
theorem dX7_feed_8 : decode cX7_feed 8 = .ok (.if_icmp .le 6, 3) := by decide +kernel
theorem dX7_feed_11 : decode cX7_feed 11 = .ok (.ldc 80, 2) := by decide +kernel
theorem dX7_feed_13 : decode cX7_feed 13 = .ok (.ireturn, 1) := by decide +kernel
theorem dX7_feed_14 : decode cX7_feed 14 = .ok (.aload_n 0, 1) := by decide +kernel
theorem dX7_feed_15 : decode cX7_feed 15 = .ok (.getfield 46, 3) := by decide +kernel
theorem dX7_feed_18 : decode cX7_feed 18 = .ok (.lload_n 1, 1) := by decide +kernel
theorem dX7_feed_19 : decode cX7_feed 19 = .ok (.iload_n 3, 1) := by decide +kernel
theorem dX7_feed_20 : decode cX7_feed 20 = .ok (.invokevirtual 124, 3) := by decide +kernel
theorem dX7_feed_23 : decode cX7_feed 23 = .ok (.ifCond .eq 13, 3) := by decide +kernel
theorem dX7_feed_26 : decode cX7_feed 26 = .ok (.aload_n 0, 1) := by decide +kernel
theorem dX7_feed_27 : decode cX7_feed 27 = .ok (.getfield 46, 3) := by decide +kernel
theorem dX7_feed_30 : decode cX7_feed 30 = .ok (.getfield 128, 3) := by decide +kernel
theorem dX7_feed_33 : decode cX7_feed 33 = .ok (.goto 5, 3) := by decide +kernel
theorem dX7_feed_36 : decode cX7_feed 36 = .ok (.ldc 85, 2) := by decide +kernel
theorem dX7_feed_38 : decode cX7_feed 38 = .ok (.ireturn, 1) := by decide +kernel
theorem dX7_rules_0 : decode cX7_rules 0 = .ok (.aload_n 0, 1) := by decide +kernel
theorem dX7_rules_1 : decode cX7_rules 1 = .ok (.getfield 55, 3) := by decide +kernel
theorem dX7_rules_4 : decode cX7_rules 4 = .ok (.aload_n 0, 1) := by decide +kernel
theorem dX7_rules_5 : decode cX7_rules 5 = .ok (.getfield 66, 3) := by decide +kernel
theorem dX7_rules_8 : decode cX7_rules 8 = .ok (.invokevirtual 131, 3) := by decide +kernel
theorem dX7_rules_11 : decode cX7_rules 11 = .ok (.istore_n 1, 1) := by decide +kernel
theorem dX7_rules_12 : decode cX7_rules 12 = .ok (.aload_n 0, 1) := by decide +kernel
theorem dX7_rules_13 : decode cX7_rules 13 = .ok (.getfield 46, 3) := by decide +kernel
theorem dX7_rules_16 : decode cX7_rules 16 = .ok (.getfield 135, 3) := by decide +kernel
theorem dX7_rules_19 : decode cX7_rules 19 = .ok (.istore_n 2, 1) := by decide +kernel
theorem dX7_rules_20 : decode cX7_rules 20 = .ok (.aload_n 0, 1) := by decide +kernel
theorem dX7_rules_21 : decode cX7_rules 21 = .ok (.getfield 46, 3) := by decide +kernel
theorem dX7_rules_24 : decode cX7_rules 24 = .ok (.invokevirtual 138, 3) := by decide +kernel
theorem dX7_rules_27 : decode cX7_rules 27 = .ok (.iload_n 1, 1) := by decide +kernel
theorem dX7_rules_28 : decode cX7_rules 28 = .ok (.ifCond .eq 13, 3) := by decide +kernel
theorem dX7_rules_31 : decode cX7_rules 31 = .ok (.aload_n 0, 1) := by decide +kernel
theorem dX7_rules_32 : decode cX7_rules 32 = .ok (.iload_n 1, 1) := by decide +kernel
theorem dX7_rules_33 : decode cX7_rules 33 = .ok (.putfield 73, 3) := by decide +kernel
theorem dX7_rules_36 : decode cX7_rules 36 = .ok (.ldc 141, 2) := by decide +kernel
theorem dX7_rules_38 : decode cX7_rules 38 = .ok (.iload_n 2, 1) := by decide +kernel
theorem dX7_rules_39 : decode cX7_rules 39 = .ok (.isub, 1) := by decide +kernel
theorem dX7_rules_40 : decode cX7_rules 40 = .ok (.ireturn, 1) := by decide +kernel
theorem dX7_rules_41 : decode cX7_rules 41 = .ok (.aload_n 0, 1) := by decide +kernel
theorem dX7_rules_42 : decode cX7_rules 42 = .ok (.getfield 62, 3) := by decide +kernel
theorem dX7_rules_45 : decode cX7_rules 45 = .ok (.astore_n 3, 1) := by decide +kernel
theorem dX7_rules_46 : decode cX7_rules 46 = .ok (.aload_n 0, 1) := by decide +kernel
theorem dX7_rules_47 : decode cX7_rules 47 = .ok (.aload_n 0, 1) := by decide +kernel
theorem dX7_rules_48 : decode cX7_rules 48 = .ok (.getfield 66, 3) := by decide +kernel
theorem dX7_rules_51 : decode cX7_rules 51 = .ok (.putfield 62, 3) := by decide +kernel
theorem dX7_rules_54 : decode cX7_rules 54 = .ok (.aload_n 0, 1) := by decide +kernel
theorem dX7_rules_55 : decode cX7_rules 55 = .ok (.aload_n 3, 1) := by decide +kernel
theorem dX7_rules_56 : decode cX7_rules 56 = .ok (.putfield 66, 3) := by decide +kernel
theorem dX7_rules_59 : decode cX7_rules 59 = .ok (.aload_n 0, 1) := by decide +kernel
theorem dX7_rules_60 : decode cX7_rules 60 = .ok (.getfield 32, 3) := by decide +kernel
theorem dX7_rules_63 : decode cX7_rules 63 = .ok (.invokevirtual 142, 3) := by decide +kernel
theorem dX7_rules_66 : decode cX7_rules 66 = .ok (.aload_n 0, 1) := by decide +kernel
theorem dX7_rules_67 : decode cX7_rules 67 = .ok (.getfield 62, 3) := by decide +kernel
theorem dX7_rules_70 : decode cX7_rules 70 = .ok (.getfield 145, 3) := by decide +kernel
theorem dX7_rules_73 : decode cX7_rules 73 = .ok (.ireturn, 1) := by decide +kernel
theorem dX7_fault_0 : decode cX7_fault 0 = .ok (.aload_n 0, 1) := by decide +kernel
theorem dX7_fault_1 : decode cX7_fault 1 = .ok (.getfield 73, 3) := by decide +kernel
theorem dX7_fault_4 : decode cX7_fault 4 = .ok (.ireturn, 1) := by decide +kernel
theorem dX7_proves_0 : decode cX7_proves 0 = .ok (.iload_n 1, 1) := by decide +kernel
theorem dX7_proves_1 : decode cX7_proves 1 = .ok (.iconst 3, 1) := by decide +kernel
theorem dX7_proves_2 : decode cX7_proves 2 = .ok (.invokestatic 110, 3) := by decide +kernel
theorem dX7_proves_5 : decode cX7_proves 5 = .ok (.ifCond .ne 19, 3) := by decide +kernel
theorem dX7_proves_8 : decode cX7_proves 8 = .ok (.iload_n 2, 1) := by decide +kernel
theorem dX7_proves_9 : decode cX7_proves 9 = .ok (.iconst 3, 1) := by decide +kernel
theorem dX7_proves_10 : decode cX7_proves 10 = .ok (.invokestatic 110, 3) := by decide +kernel
theorem dX7_proves_13 : decode cX7_proves 13 = .ok (.ifCond .ne 11, 3) := by decide +kernel
theorem dX7_proves_16 : decode cX7_proves 16 = .ok (.iload_n 3, 1) := by decide +kernel
theorem dX7_proves_17 : decode cX7_proves 17 = .ok (.iconst 5, 1) := by decide +kernel
theorem dX7_proves_18 : decode cX7_proves 18 = .ok (.invokestatic 110, 3) := by decide +kernel
theorem dX7_proves_21 : decode cX7_proves 21 = .ok (.ifCond .eq 6, 3) := by decide +kernel
theorem dX7_proves_24 : decode cX7_proves 24 = .ok (.ldc 80, 2) := by decide +kernel
theorem dX7_proves_26 : decode cX7_proves 26 = .ok (.ireturn, 1) := by decide +kernel
theorem dX7_proves_27 : decode cX7_proves 27 = .ok (.aload_n 0, 1) := by decide +kernel
theorem dX7_proves_28 : decode cX7_proves 28 = .ok (.getfield 69, 3) := by decide +kernel
theorem dX7_proves_31 : decode cX7_proves 31 = .ok (.ifCond .ne 6, 3) := by decide +kernel
theorem dX7_proves_34 : decode cX7_proves 34 = .ok (.ldc 117, 2) := by decide +kernel
theorem dX7_proves_36 : decode cX7_proves 36 = .ok (.ireturn, 1) := by decide +kernel
theorem dX7_proves_37 : decode cX7_proves 37 = .ok (.aload_n 0, 1) := by decide +kernel
theorem dX7_proves_38 : decode cX7_proves 38 = .ok (.getfield 32, 3) := by decide +kernel
theorem dX7_proves_41 : decode cX7_proves 41 = .ok (.aload_n 0, 1) := by decide +kernel
theorem dX7_proves_42 : decode cX7_proves 42 = .ok (.getfield 23, 3) := by decide +kernel
theorem dX7_proves_45 : decode cX7_proves 45 = .ok (.aload_n 0, 1) := by decide +kernel
theorem dX7_proves_46 : decode cX7_proves 46 = .ok (.getfield 69, 3) := by decide +kernel
theorem dX7_proves_49 : decode cX7_proves 49 = .ok (.invokevirtual 81, 3) := by decide +kernel
theorem dX7_proves_52 : decode cX7_proves 52 = .ok (.invokevirtual 148, 3) := by decide +kernel
theorem dX7_proves_55 : decode cX7_proves 55 = .ok (.aload_n 0, 1) := by decide +kernel
theorem dX7_proves_56 : decode cX7_proves 56 = .ok (.getfield 32, 3) := by decide +kernel
theorem dX7_proves_59 : decode cX7_proves 59 = .ok (.aload_n 0, 1) := by decide +kernel
theorem dX7_proves_60 : decode cX7_proves 60 = .ok (.getfield 62, 3) := by decide +kernel
theorem dX7_proves_63 : decode cX7_proves 63 = .ok (.iload_n 1, 1) := by decide +kernel
theorem dX7_proves_64 : decode cX7_proves 64 = .ok (.invokevirtual 151, 3) := by decide +kernel
theorem dX7_proves_67 : decode cX7_proves 67 = .ok (.aload_n 0, 1) := by decide +kernel
theorem dX7_proves_68 : decode cX7_proves 68 = .ok (.getfield 32, 3) := by decide +kernel
theorem dX7_proves_71 : decode cX7_proves 71 = .ok (.aload_n 0, 1) := by decide +kernel
theorem dX7_proves_72 : decode cX7_proves 72 = .ok (.getfield 69, 3) := by decide +kernel
theorem dX7_proves_75 : decode cX7_proves 75 = .ok (.invokevirtual 155, 3) := by decide +kernel
theorem dX7_proves_78 : decode cX7_proves 78 = .ok (.istore 4, 2) := by decide +kernel
theorem dX7_proves_80 : decode cX7_proves 80 = .ok (.iload_n 3, 1) := by decide +kernel
theorem dX7_proves_81 : decode cX7_proves 81 = .ok (.lookupswitch 61 #[(0, 27), (4, 49)], 27) := by decide +kernel
theorem dX7_proves_108 : decode cX7_proves 108 = .ok (.aload_n 0, 1) := by decide +kernel
theorem dX7_proves_109 : decode cX7_proves 109 = .ok (.getfield 32, 3) := by decide +kernel
theorem dX7_proves_112 : decode cX7_proves 112 = .ok (.iload 4, 2) := by decide +kernel
theorem dX7_proves_114 : decode cX7_proves 114 = .ok (.iload_n 1, 1) := by decide +kernel
theorem dX7_proves_115 : decode cX7_proves 115 = .ok (.iload_n 2, 1) := by decide +kernel
theorem dX7_proves_116 : decode cX7_proves 116 = .ok (.invokevirtual 158, 3) := by decide +kernel
theorem dX7_proves_119 : decode cX7_proves 119 = .ok (.ldc 92, 2) := by decide +kernel
theorem dX7_proves_121 : decode cX7_proves 121 = .ok (.if_icmp .ne 7, 3) := by decide +kernel
theorem dX7_proves_124 : decode cX7_proves 124 = .ok (.iconst 0, 1) := by decide +kernel
theorem dX7_proves_125 : decode cX7_proves 125 = .ok (.goto 4, 3) := by decide +kernel
theorem dX7_proves_128 : decode cX7_proves 128 = .ok (.iconst 1, 1) := by decide +kernel
theorem dX7_proves_129 : decode cX7_proves 129 = .ok (.ireturn, 1) := by decide +kernel
theorem dX7_proves_130 : decode cX7_proves 130 = .ok (.aload_n 0, 1) := by decide +kernel
theorem dX7_proves_131 : decode cX7_proves 131 = .ok (.getfield 32, 3) := by decide +kernel
theorem dX7_proves_134 : decode cX7_proves 134 = .ok (.iload 4, 2) := by decide +kernel
theorem dX7_proves_136 : decode cX7_proves 136 = .ok (.iload_n 1, 1) := by decide +kernel
theorem dX7_proves_137 : decode cX7_proves 137 = .ok (.iload_n 2, 1) := by decide +kernel
theorem dX7_proves_138 : decode cX7_proves 138 = .ok (.invokevirtual 158, 3) := by decide +kernel
theorem dX7_proves_141 : decode cX7_proves 141 = .ok (.ireturn, 1) := by decide +kernel
theorem dX7_proves_142 : decode cX7_proves 142 = .ok (.aload_n 0, 1) := by decide +kernel
theorem dX7_proves_143 : decode cX7_proves 143 = .ok (.getfield 32, 3) := by decide +kernel
theorem dX7_proves_146 : decode cX7_proves 146 = .ok (.aload_n 0, 1) := by decide +kernel
theorem dX7_proves_147 : decode cX7_proves 147 = .ok (.getfield 32, 3) := by decide +kernel
theorem dX7_proves_150 : decode cX7_proves 150 = .ok (.iload 4, 2) := by decide +kernel
theorem dX7_proves_152 : decode cX7_proves 152 = .ok (.iload_n 1, 1) := by decide +kernel
theorem dX7_proves_153 : decode cX7_proves 153 = .ok (.iload_n 2, 1) := by decide +kernel
theorem dX7_proves_154 : decode cX7_proves 154 = .ok (.invokevirtual 162, 3) := by decide +kernel
theorem dX7_proves_157 : decode cX7_proves 157 = .ok (.iload_n 1, 1) := by decide +kernel
theorem dX7_proves_158 : decode cX7_proves 158 = .ok (.iload_n 2, 1) := by decide +kernel
theorem dX7_proves_159 : decode cX7_proves 159 = .ok (.iload_n 3, 1) := by decide +kernel
theorem dX7_proves_160 : decode cX7_proves 160 = .ok (.invokevirtual 166, 3) := by decide +kernel
theorem dX7_proves_163 : decode cX7_proves 163 = .ok (.ireturn, 1) := by decide +kernel
theorem dX7_starts_0 : decode cX7_starts 0 = .ok (.iload_n 1, 1) := by decide +kernel
theorem dX7_starts_1 : decode cX7_starts 1 = .ok (.iconst 3, 1) := by decide +kernel
theorem dX7_starts_2 : decode cX7_starts 2 = .ok (.invokestatic 110, 3) := by decide +kernel
theorem dX7_starts_5 : decode cX7_starts 5 = .ok (.ifCond .ne 19, 3) := by decide +kernel
theorem dX7_starts_8 : decode cX7_starts 8 = .ok (.iload_n 2, 1) := by decide +kernel
theorem dX7_starts_9 : decode cX7_starts 9 = .ok (.iconst 3, 1) := by decide +kernel
theorem dX7_starts_10 : decode cX7_starts 10 = .ok (.invokestatic 110, 3) := by decide +kernel
theorem dX7_starts_13 : decode cX7_starts 13 = .ok (.ifCond .ne 11, 3) := by decide +kernel
theorem dX7_starts_16 : decode cX7_starts 16 = .ok (.iload_n 3, 1) := by decide +kernel
theorem dX7_starts_17 : decode cX7_starts 17 = .ok (.iconst 2, 1) := by decide +kernel
theorem dX7_starts_18 : decode cX7_starts 18 = .ok (.invokestatic 110, 3) := by decide +kernel
theorem dX7_starts_21 : decode cX7_starts 21 = .ok (.ifCond .eq 6, 3) := by decide +kernel
theorem dX7_starts_24 : decode cX7_starts 24 = .ok (.ldc 80, 2) := by decide +kernel
theorem dX7_starts_26 : decode cX7_starts 26 = .ok (.ireturn, 1) := by decide +kernel
theorem dX7_starts_27 : decode cX7_starts 27 = .ok (.aload_n 0, 1) := by decide +kernel
theorem dX7_starts_28 : decode cX7_starts 28 = .ok (.getfield 69, 3) := by decide +kernel
theorem dX7_starts_31 : decode cX7_starts 31 = .ok (.ifCond .ne 6, 3) := by decide +kernel
theorem dX7_starts_34 : decode cX7_starts 34 = .ok (.ldc 117, 2) := by decide +kernel
theorem dX7_starts_36 : decode cX7_starts 36 = .ok (.ireturn, 1) := by decide +kernel
theorem dX7_starts_37 : decode cX7_starts 37 = .ok (.aload_n 0, 1) := by decide +kernel
theorem dX7_starts_38 : decode cX7_starts 38 = .ok (.getfield 32, 3) := by decide +kernel
theorem dX7_starts_41 : decode cX7_starts 41 = .ok (.aload_n 0, 1) := by decide +kernel
theorem dX7_starts_42 : decode cX7_starts 42 = .ok (.getfield 23, 3) := by decide +kernel
theorem dX7_starts_45 : decode cX7_starts 45 = .ok (.aload_n 0, 1) := by decide +kernel
theorem dX7_starts_46 : decode cX7_starts 46 = .ok (.getfield 69, 3) := by decide +kernel
theorem dX7_starts_49 : decode cX7_starts 49 = .ok (.invokevirtual 81, 3) := by decide +kernel
theorem dX7_starts_52 : decode cX7_starts 52 = .ok (.invokevirtual 148, 3) := by decide +kernel
theorem dX7_starts_55 : decode cX7_starts 55 = .ok (.iload_n 3, 1) := by decide +kernel
theorem dX7_starts_56 : decode cX7_starts 56 = .ok (.ifCond .ne 11, 3) := by decide +kernel
theorem dX7_starts_59 : decode cX7_starts 59 = .ok (.aload_n 0, 1) := by decide +kernel
theorem dX7_starts_60 : decode cX7_starts 60 = .ok (.getfield 32, 3) := by decide +kernel
theorem dX7_starts_63 : decode cX7_starts 63 = .ok (.getfield 170, 3) := by decide +kernel
theorem dX7_starts_66 : decode cX7_starts 66 = .ok (.ireturn, 1) := by decide +kernel
theorem dX7_starts_67 : decode cX7_starts 67 = .ok (.aload_n 0, 1) := by decide +kernel
theorem dX7_starts_68 : decode cX7_starts 68 = .ok (.getfield 32, 3) := by decide +kernel
theorem dX7_starts_71 : decode cX7_starts 71 = .ok (.aload_n 0, 1) := by decide +kernel
theorem dX7_starts_72 : decode cX7_starts 72 = .ok (.getfield 62, 3) := by decide +kernel
theorem dX7_starts_75 : decode cX7_starts 75 = .ok (.iload_n 1, 1) := by decide +kernel
theorem dX7_starts_76 : decode cX7_starts 76 = .ok (.invokevirtual 151, 3) := by decide +kernel
theorem dX7_starts_79 : decode cX7_starts 79 = .ok (.aload_n 0, 1) := by decide +kernel
theorem dX7_starts_80 : decode cX7_starts 80 = .ok (.getfield 32, 3) := by decide +kernel
theorem dX7_starts_83 : decode cX7_starts 83 = .ok (.iload_n 1, 1) := by decide +kernel
theorem dX7_starts_84 : decode cX7_starts 84 = .ok (.iload_n 2, 1) := by decide +kernel
theorem dX7_starts_85 : decode cX7_starts 85 = .ok (.invokevirtual 171, 3) := by decide +kernel
theorem dX7_starts_88 : decode cX7_starts 88 = .ok (.invokestatic 174, 3) := by decide +kernel
theorem dX7_starts_91 : decode cX7_starts 91 = .ok (.ireturn, 1) := by decide +kernel
theorem dX7_kind_0 : decode cX7_kind 0 = .ok (.aload_n 0, 1) := by decide +kernel
theorem dX7_kind_1 : decode cX7_kind 1 = .ok (.getfield 69, 3) := by decide +kernel
theorem dX7_kind_4 : decode cX7_kind 4 = .ok (.ifCond .ne 8, 3) := by decide +kernel
theorem dX7_kind_7 : decode cX7_kind 7 = .ok (.ldc 117, 2) := by decide +kernel
theorem dX7_kind_9 : decode cX7_kind 9 = .ok (.goto 14, 3) := by decide +kernel
theorem dX7_kind_12 : decode cX7_kind 12 = .ok (.aload_n 0, 1) := by decide +kernel
theorem dX7_kind_13 : decode cX7_kind 13 = .ok (.getfield 23, 3) := by decide +kernel
theorem dX7_kind_16 : decode cX7_kind 16 = .ok (.aload_n 0, 1) := by decide +kernel
theorem dX7_kind_17 : decode cX7_kind 17 = .ok (.getfield 69, 3) := by decide +kernel
theorem dX7_kind_20 : decode cX7_kind 20 = .ok (.invokevirtual 180, 3) := by decide +kernel
theorem dX7_kind_23 : decode cX7_kind 23 = .ok (.ireturn, 1) := by decide +kernel
theorem dX7_as_0 : decode cX7_as 0 = .ok (.iload_n 1, 1) := by decide +kernel
theorem dX7_as_1 : decode cX7_as 1 = .ok (.iconst 4, 1) := by decide +kernel
theorem dX7_as_2 : decode cX7_as 2 = .ok (.invokestatic 110, 3) := by decide +kernel
theorem dX7_as_5 : decode cX7_as 5 = .ok (.ifCond .eq 6, 3) := by decide +kernel
theorem dX7_as_8 : decode cX7_as 8 = .ok (.ldc 80, 2) := by decide +kernel
theorem dX7_as_10 : decode cX7_as 10 = .ok (.ireturn, 1) := by decide +kernel
theorem dX7_as_11 : decode cX7_as 11 = .ok (.aload_n 0, 1) := by decide +kernel
theorem dX7_as_12 : decode cX7_as 12 = .ok (.getfield 69, 3) := by decide +kernel
theorem dX7_as_15 : decode cX7_as 15 = .ok (.ifCond .ne 6, 3) := by decide +kernel
theorem dX7_as_18 : decode cX7_as 18 = .ok (.ldc 117, 2) := by decide +kernel
theorem dX7_as_20 : decode cX7_as 20 = .ok (.ireturn, 1) := by decide +kernel
theorem dX7_as_21 : decode cX7_as 21 = .ok (.iload_n 1, 1) := by decide +kernel
theorem dX7_as_22 : decode cX7_as 22 = .ok (.ifCond .eq 18, 3) := by decide +kernel
theorem dX7_as_25 : decode cX7_as 25 = .ok (.iload_n 1, 1) := by decide +kernel
theorem dX7_as_26 : decode cX7_as 26 = .ok (.aload_n 0, 1) := by decide +kernel
theorem dX7_as_27 : decode cX7_as 27 = .ok (.getfield 23, 3) := by decide +kernel
theorem dX7_as_30 : decode cX7_as 30 = .ok (.aload_n 0, 1) := by decide +kernel
theorem dX7_as_31 : decode cX7_as 31 = .ok (.getfield 69, 3) := by decide +kernel
theorem dX7_as_34 : decode cX7_as 34 = .ok (.invokevirtual 180, 3) := by decide +kernel
theorem dX7_as_37 : decode cX7_as 37 = .ok (.if_icmp .ne 17, 3) := by decide +kernel
theorem dX7_as_40 : decode cX7_as 40 = .ok (.aload_n 0, 1) := by decide +kernel
theorem dX7_as_41 : decode cX7_as 41 = .ok (.getfield 23, 3) := by decide +kernel
theorem dX7_as_44 : decode cX7_as 44 = .ok (.aload_n 0, 1) := by decide +kernel
theorem dX7_as_45 : decode cX7_as 45 = .ok (.getfield 69, 3) := by decide +kernel
theorem dX7_as_48 : decode cX7_as 48 = .ok (.invokevirtual 81, 3) := by decide +kernel
theorem dX7_as_51 : decode cX7_as 51 = .ok (.goto 5, 3) := by decide +kernel
theorem dX7_as_54 : decode cX7_as 54 = .ok (.ldc 183, 2) := by decide +kernel
theorem dX7_as_56 : decode cX7_as 56 = .ok (.ireturn, 1) := by decide +kernel
theorem dX7_ask_0 : decode cX7_ask 0 = .ok (.iload_n 1, 1) := by decide +kernel
theorem dX7_ask_1 : decode cX7_ask 1 = .ok (.iconst 2, 1) := by decide +kernel
theorem dX7_ask_2 : decode cX7_ask 2 = .ok (.invokestatic 110, 3) := by decide +kernel
theorem dX7_ask_5 : decode cX7_ask 5 = .ok (.ifCond .eq 6, 3) := by decide +kernel
theorem dX7_ask_8 : decode cX7_ask 8 = .ok (.ldc 80, 2) := by decide +kernel
theorem dX7_ask_10 : decode cX7_ask 10 = .ok (.ireturn, 1) := by decide +kernel
theorem dX7_ask_11 : decode cX7_ask 11 = .ok (.aload_n 0, 1) := by decide +kernel
theorem dX7_ask_12 : decode cX7_ask 12 = .ok (.getfield 69, 3) := by decide +kernel
theorem dX7_ask_15 : decode cX7_ask 15 = .ok (.ifCond .ne 6, 3) := by decide +kernel
theorem dX7_ask_18 : decode cX7_ask 18 = .ok (.ldc 117, 2) := by decide +kernel
theorem dX7_ask_20 : decode cX7_ask 20 = .ok (.ireturn, 1) := by decide +kernel
theorem dX7_ask_21 : decode cX7_ask 21 = .ok (.aload_n 0, 1) := by decide +kernel
theorem dX7_ask_22 : decode cX7_ask 22 = .ok (.getfield 39, 3) := by decide +kernel
theorem dX7_ask_25 : decode cX7_ask 25 = .ok (.iload_n 1, 1) := by decide +kernel
theorem dX7_ask_26 : decode cX7_ask 26 = .ok (.aload_n 0, 1) := by decide +kernel
theorem dX7_ask_27 : decode cX7_ask 27 = .ok (.getfield 69, 3) := by decide +kernel
theorem dX7_ask_30 : decode cX7_ask 30 = .ok (.invokevirtual 184, 3) := by decide +kernel
theorem dX7_ask_33 : decode cX7_ask 33 = .ok (.ireturn, 1) := by decide +kernel
theorem dX7_trace_0 : decode cX7_trace 0 = .ok (.aload_n 0, 1) := by decide +kernel
theorem dX7_trace_1 : decode cX7_trace 1 = .ok (.getfield 39, 3) := by decide +kernel
theorem dX7_trace_4 : decode cX7_trace 4 = .ok (.iload_n 1, 1) := by decide +kernel
theorem dX7_trace_5 : decode cX7_trace 5 = .ok (.invokevirtual 187, 3) := by decide +kernel
theorem dX7_trace_8 : decode cX7_trace 8 = .ok (.ireturn, 1) := by decide +kernel
theorem dX7_count_0 : decode cX7_count 0 = .ok (.iload_n 1, 1) := by decide +kernel
theorem dX7_count_1 : decode cX7_count 1 = .ok (.bipush 7, 2) := by decide +kernel
theorem dX7_count_3 : decode cX7_count 3 = .ok (.invokestatic 110, 3) := by decide +kernel
theorem dX7_count_6 : decode cX7_count 6 = .ok (.ifCond .eq 6, 3) := by decide +kernel
theorem dX7_count_9 : decode cX7_count 9 = .ok (.ldc 80, 2) := by decide +kernel
theorem dX7_count_11 : decode cX7_count 11 = .ok (.ireturn, 1) := by decide +kernel
theorem dX7_count_12 : decode cX7_count 12 = .ok (.iload_n 1, 1) := by decide +kernel
theorem dX7_count_13 : decode cX7_count 13 = .ok (.tableswitch 103 0 5 #[39, 47, 59, 71, 79, 91], 39) := by decide +kernel
theorem dX7_count_52 : decode cX7_count 52 = .ok (.aload_n 0, 1) := by decide +kernel
theorem dX7_count_53 : decode cX7_count 53 = .ok (.getfield 23, 3) := by decide +kernel
theorem dX7_count_56 : decode cX7_count 56 = .ok (.getfield 118, 3) := by decide +kernel
theorem dX7_count_59 : decode cX7_count 59 = .ok (.ireturn, 1) := by decide +kernel
theorem dX7_count_60 : decode cX7_count 60 = .ok (.aload_n 0, 1) := by decide +kernel
theorem dX7_count_61 : decode cX7_count 61 = .ok (.getfield 23, 3) := by decide +kernel
theorem dX7_count_64 : decode cX7_count 64 = .ok (.aload_n 0, 1) := by decide +kernel
theorem dX7_count_65 : decode cX7_count 65 = .ok (.getfield 69, 3) := by decide +kernel
theorem dX7_count_68 : decode cX7_count 68 = .ok (.invokevirtual 81, 3) := by decide +kernel
theorem dX7_count_71 : decode cX7_count 71 = .ok (.ireturn, 1) := by decide +kernel
theorem dX7_count_72 : decode cX7_count 72 = .ok (.aload_n 0, 1) := by decide +kernel
theorem dX7_count_73 : decode cX7_count 73 = .ok (.getfield 23, 3) := by decide +kernel
theorem dX7_count_76 : decode cX7_count 76 = .ok (.aload_n 0, 1) := by decide +kernel
theorem dX7_count_77 : decode cX7_count 77 = .ok (.getfield 69, 3) := by decide +kernel
theorem dX7_count_80 : decode cX7_count 80 = .ok (.invokevirtual 190, 3) := by decide +kernel
theorem dX7_count_83 : decode cX7_count 83 = .ok (.ireturn, 1) := by decide +kernel
theorem dX7_count_84 : decode cX7_count 84 = .ok (.aload_n 0, 1) := by decide +kernel
theorem dX7_count_85 : decode cX7_count 85 = .ok (.getfield 62, 3) := by decide +kernel
theorem dX7_count_88 : decode cX7_count 88 = .ok (.getfield 145, 3) := by decide +kernel
theorem dX7_count_91 : decode cX7_count 91 = .ok (.ireturn, 1) := by decide +kernel
theorem dX7_count_92 : decode cX7_count 92 = .ok (.aload_n 0, 1) := by decide +kernel
theorem dX7_count_93 : decode cX7_count 93 = .ok (.getfield 23, 3) := by decide +kernel
theorem dX7_count_96 : decode cX7_count 96 = .ok (.aload_n 0, 1) := by decide +kernel
theorem dX7_count_97 : decode cX7_count 97 = .ok (.getfield 69, 3) := by decide +kernel
theorem dX7_count_100 : decode cX7_count 100 = .ok (.invokevirtual 193, 3) := by decide +kernel
theorem dX7_count_103 : decode cX7_count 103 = .ok (.ireturn, 1) := by decide +kernel
theorem dX7_count_104 : decode cX7_count 104 = .ok (.aload_n 0, 1) := by decide +kernel
theorem dX7_count_105 : decode cX7_count 105 = .ok (.getfield 23, 3) := by decide +kernel
theorem dX7_count_108 : decode cX7_count 108 = .ok (.aload_n 0, 1) := by decide +kernel
theorem dX7_count_109 : decode cX7_count 109 = .ok (.getfield 69, 3) := by decide +kernel
theorem dX7_count_112 : decode cX7_count 112 = .ok (.invokevirtual 196, 3) := by decide +kernel
theorem dX7_count_115 : decode cX7_count 115 = .ok (.ireturn, 1) := by decide +kernel
theorem dX7_count_116 : decode cX7_count 116 = .ok (.aload_n 0, 1) := by decide +kernel
theorem dX7_count_117 : decode cX7_count 117 = .ok (.getfield 46, 3) := by decide +kernel
theorem dX7_count_120 : decode cX7_count 120 = .ok (.getfield 128, 3) := by decide +kernel
theorem dX7_count_123 : decode cX7_count 123 = .ok (.ireturn, 1) := by decide +kernel
theorem dX7_noPlace_0 : decode cX7_noPlace 0 = .ok (.iload_n 1, 1) := by decide +kernel
theorem dX7_noPlace_1 : decode cX7_noPlace 1 = .ok (.aload_n 0, 1) := by decide +kernel
theorem dX7_noPlace_2 : decode cX7_noPlace 2 = .ok (.getfield 23, 3) := by decide +kernel
theorem dX7_noPlace_5 : decode cX7_noPlace 5 = .ok (.getfield 118, 3) := by decide +kernel
theorem dX7_noPlace_8 : decode cX7_noPlace 8 = .ok (.invokestatic 110, 3) := by decide +kernel
theorem dX7_noPlace_11 : decode cX7_noPlace 11 = .ok (.ireturn, 1) := by decide +kernel
theorem dX7_outside_0 : decode cX7_outside 0 = .ok (.iload_n 0, 1) := by decide +kernel
theorem dX7_outside_1 : decode cX7_outside 1 = .ok (.ifCond .lt 8, 3) := by decide +kernel
theorem dX7_outside_4 : decode cX7_outside 4 = .ok (.iload_n 0, 1) := by decide +kernel
theorem dX7_outside_5 : decode cX7_outside 5 = .ok (.iload_n 1, 1) := by decide +kernel
theorem dX7_outside_6 : decode cX7_outside 6 = .ok (.if_icmp .lt 7, 3) := by decide +kernel
theorem dX7_outside_9 : decode cX7_outside 9 = .ok (.iconst 1, 1) := by decide +kernel
theorem dX7_outside_10 : decode cX7_outside 10 = .ok (.goto 4, 3) := by decide +kernel
theorem dX7_outside_13 : decode cX7_outside 13 = .ok (.iconst 0, 1) := by decide +kernel
theorem dX7_outside_14 : decode cX7_outside 14 = .ok (.ireturn, 1) := by decide +kernel
theorem dX8_in_0 : decode cX8_in 0 = .ok (.lload_n 0, 1) := by decide +kernel
theorem dX8_in_1 : decode cX8_in 1 = .ok (.lload_n 2, 1) := by decide +kernel
theorem dX8_in_2 : decode cX8_in 2 = .ok (.lcmp, 1) := by decide +kernel
theorem dX8_in_3 : decode cX8_in 3 = .ok (.ifCond .lt 14, 3) := by decide +kernel
theorem dX8_in_6 : decode cX8_in 6 = .ok (.lload_n 0, 1) := by decide +kernel
theorem dX8_in_7 : decode cX8_in 7 = .ok (.lload 4, 2) := by decide +kernel
theorem dX8_in_9 : decode cX8_in 9 = .ok (.lcmp, 1) := by decide +kernel
theorem dX8_in_10 : decode cX8_in 10 = .ok (.ifCond .gt 7, 3) := by decide +kernel
theorem dX8_in_13 : decode cX8_in 13 = .ok (.iconst 1, 1) := by decide +kernel
theorem dX8_in_14 : decode cX8_in 14 = .ok (.goto 4, 3) := by decide +kernel
theorem dX8_in_17 : decode cX8_in 17 = .ok (.iconst 0, 1) := by decide +kernel
theorem dX8_in_18 : decode cX8_in 18 = .ok (.ireturn, 1) := by decide +kernel
theorem dX8_init_0 : decode cX8_init 0 = .ok (.aload_n 0, 1) := by decide +kernel
theorem dX8_init_1 : decode cX8_init 1 = .ok (.invokespecial 7, 3) := by decide +kernel
theorem dX8_init_4 : decode cX8_init 4 = .ok (.aload_n 0, 1) := by decide +kernel
theorem dX8_init_5 : decode cX8_init 5 = .ok (.bipush 9, 2) := by decide +kernel
theorem dX8_init_7 : decode cX8_init 7 = .ok (.newarray .int, 2) := by decide +kernel
theorem dX8_init_9 : decode cX8_init 9 = .ok (.putfield 13, 3) := by decide +kernel
theorem dX8_init_12 : decode cX8_init 12 = .ok (.aload_n 0, 1) := by decide +kernel
theorem dX8_init_13 : decode cX8_init 13 = .ok (.bipush 9, 2) := by decide +kernel
theorem dX8_init_15 : decode cX8_init 15 = .ok (.newarray .int, 2) := by decide +kernel
theorem dX8_init_17 : decode cX8_init 17 = .ok (.putfield 17, 3) := by decide +kernel
theorem dX8_init_20 : decode cX8_init 20 = .ok (.aload_n 0, 1) := by decide +kernel
theorem dX8_init_21 : decode cX8_init 21 = .ok (.bipush 8, 2) := by decide +kernel
theorem dX8_init_23 : decode cX8_init 23 = .ok (.newarray .int, 2) := by decide +kernel
theorem dX8_init_25 : decode cX8_init 25 = .ok (.putfield 20, 3) := by decide +kernel
theorem dX8_init_28 : decode cX8_init 28 = .ok (.aload_n 0, 1) := by decide +kernel
theorem dX8_init_29 : decode cX8_init 29 = .ok (.bipush 8, 2) := by decide +kernel
theorem dX8_init_31 : decode cX8_init 31 = .ok (.newarray .int, 2) := by decide +kernel
theorem dX8_init_33 : decode cX8_init 33 = .ok (.putfield 23, 3) := by decide +kernel
theorem dX8_init_36 : decode cX8_init 36 = .ok (.aload_n 0, 1) := by decide +kernel
theorem dX8_init_37 : decode cX8_init 37 = .ok (.bipush 8, 2) := by decide +kernel
theorem dX8_init_39 : decode cX8_init 39 = .ok (.newarray .int, 2) := by decide +kernel
theorem dX8_init_41 : decode cX8_init 41 = .ok (.putfield 26, 3) := by decide +kernel
theorem dX8_init_44 : decode cX8_init 44 = .ok (.aload_n 0, 1) := by decide +kernel
theorem dX8_init_45 : decode cX8_init 45 = .ok (.bipush 30, 2) := by decide +kernel
theorem dX8_init_47 : decode cX8_init 47 = .ok (.newarray .int, 2) := by decide +kernel
theorem dX8_init_49 : decode cX8_init 49 = .ok (.putfield 29, 3) := by decide +kernel
theorem dX8_init_52 : decode cX8_init 52 = .ok (.aload_n 0, 1) := by decide +kernel
theorem dX8_init_53 : decode cX8_init 53 = .ok (.sipush 240, 3) := by decide +kernel
theorem dX8_init_56 : decode cX8_init 56 = .ok (.newarray .int, 2) := by decide +kernel
theorem dX8_init_58 : decode cX8_init 58 = .ok (.putfield 32, 3) := by decide +kernel
theorem dX8_init_61 : decode cX8_init 61 = .ok (.aload_n 0, 1) := by decide +kernel
theorem dX8_init_62 : decode cX8_init 62 = .ok (.bipush 30, 2) := by decide +kernel
theorem dX8_init_64 : decode cX8_init 64 = .ok (.newarray .int, 2) := by decide +kernel
theorem dX8_init_66 : decode cX8_init 66 = .ok (.putfield 35, 3) := by decide +kernel
theorem dX8_init_69 : decode cX8_init 69 = .ok (.aload_n 0, 1) := by decide +kernel
theorem dX8_init_70 : decode cX8_init 70 = .ok (.bipush 9, 2) := by decide +kernel
theorem dX8_init_72 : decode cX8_init 72 = .ok (.newarray .int, 2) := by decide +kernel
theorem dX8_init_74 : decode cX8_init 74 = .ok (.putfield 38, 3) := by decide +kernel
theorem dX8_init_77 : decode cX8_init 77 = .ok (.aload_n 0, 1) := by decide +kernel
theorem dX8_init_78 : decode cX8_init 78 = .ok (.bipush 9, 2) := by decide +kernel
theorem dX8_init_80 : decode cX8_init 80 = .ok (.newarray .int, 2) := by decide +kernel
theorem dX8_init_82 : decode cX8_init 82 = .ok (.putfield 41, 3) := by decide +kernel
theorem dX8_init_85 : decode cX8_init 85 = .ok (.aload_n 0, 1) := by decide +kernel
theorem dX8_init_86 : decode cX8_init 86 = .ok (.sipush 400, 3) := by decide +kernel
theorem dX8_init_89 : decode cX8_init 89 = .ok (.newarray .int, 2) := by decide +kernel
theorem dX8_init_91 : decode cX8_init 91 = .ok (.putfield 44, 3) := by decide +kernel
theorem dX8_init_94 : decode cX8_init 94 = .ok (.aload_n 0, 1) := by decide +kernel
theorem dX8_init_95 : decode cX8_init 95 = .ok (.bipush 30, 2) := by decide +kernel
theorem dX8_init_97 : decode cX8_init 97 = .ok (.newarray .int, 2) := by decide +kernel
theorem dX8_init_99 : decode cX8_init 99 = .ok (.putfield 47, 3) := by decide +kernel
theorem dX8_init_102 : decode cX8_init 102 = .ok (.aload_n 0, 1) := by decide +kernel
theorem dX8_init_103 : decode cX8_init 103 = .ok (.sipush 240, 3) := by decide +kernel
theorem dX8_init_106 : decode cX8_init 106 = .ok (.newarray .int, 2) := by decide +kernel
theorem dX8_init_108 : decode cX8_init 108 = .ok (.putfield 50, 3) := by decide +kernel
theorem dX8_init_111 : decode cX8_init 111 = .ok (.aload_n 0, 1) := by decide +kernel
theorem dX8_init_112 : decode cX8_init 112 = .ok (.bipush 30, 2) := by decide +kernel
theorem dX8_init_114 : decode cX8_init 114 = .ok (.newarray .int, 2) := by decide +kernel
theorem dX8_init_116 : decode cX8_init 116 = .ok (.putfield 53, 3) := by decide +kernel
theorem dX8_init_119 : decode cX8_init 119 = .ok (.aload_n 0, 1) := by decide +kernel
theorem dX8_init_120 : decode cX8_init 120 = .ok (.bipush 8, 2) := by decide +kernel
theorem dX8_init_122 : decode cX8_init 122 = .ok (.newarray .int, 2) := by decide +kernel
theorem dX8_init_124 : decode cX8_init 124 = .ok (.putfield 56, 3) := by decide +kernel
theorem dX8_init_127 : decode cX8_init 127 = .ok (.aload_n 0, 1) := by decide +kernel
theorem dX8_init_128 : decode cX8_init 128 = .ok (.sipush 1080, 3) := by decide +kernel
theorem dX8_init_131 : decode cX8_init 131 = .ok (.newarray .int, 2) := by decide +kernel
theorem dX8_init_133 : decode cX8_init 133 = .ok (.putfield 59, 3) := by decide +kernel
theorem dX8_init_136 : decode cX8_init 136 = .ok (.aload_n 0, 1) := by decide +kernel
theorem dX8_init_137 : decode cX8_init 137 = .ok (.sipush 14400, 3) := by decide +kernel
theorem dX8_init_140 : decode cX8_init 140 = .ok (.newarray .boolean, 2) := by decide +kernel
theorem dX8_init_142 : decode cX8_init 142 = .ok (.putfield 62, 3) := by decide +kernel
theorem dX8_init_145 : decode cX8_init 145 = .ok (.aload_n 0, 1) := by decide +kernel
theorem dX8_init_146 : decode cX8_init 146 = .ok (.bipush 120, 2) := by decide +kernel
theorem dX8_init_148 : decode cX8_init 148 = .ok (.newarray .boolean, 2) := by decide +kernel
theorem dX8_init_150 : decode cX8_init 150 = .ok (.putfield 66, 3) := by decide +kernel
theorem dX8_init_153 : decode cX8_init 153 = .ok (.aload_n 0, 1) := by decide +kernel
theorem dX8_init_154 : decode cX8_init 154 = .ok (.bipush 120, 2) := by decide +kernel
theorem dX8_init_156 : decode cX8_init 156 = .ok (.newarray .boolean, 2) := by decide +kernel
theorem dX8_init_158 : decode cX8_init 158 = .ok (.putfield 69, 3) := by decide +kernel
theorem dX8_init_161 : decode cX8_init 161 = .ok (.aload_n 0, 1) := by decide +kernel
theorem dX8_init_162 : decode cX8_init 162 = .ok (.bipush 120, 2) := by decide +kernel
theorem dX8_init_164 : decode cX8_init 164 = .ok (.newarray .int, 2) := by decide +kernel
theorem dX8_init_166 : decode cX8_init 166 = .ok (.putfield 72, 3) := by decide +kernel
theorem dX8_init_169 : decode cX8_init 169 = .ok (.aload_n 0, 1) := by decide +kernel
theorem dX8_init_170 : decode cX8_init 170 = .ok (.iconst 4, 1) := by decide +kernel
theorem dX8_init_171 : decode cX8_init 171 = .ok (.newarray .int, 2) := by decide +kernel
theorem dX8_init_173 : decode cX8_init 173 = .ok (.putfield 75, 3) := by decide +kernel
theorem dX8_init_176 : decode cX8_init 176 = .ok (.aload_n 0, 1) := by decide +kernel
theorem dX8_init_177 : decode cX8_init 177 = .ok (.iconst 4, 1) := by decide +kernel
theorem dX8_init_178 : decode cX8_init 178 = .ok (.newarray .int, 2) := by decide +kernel
theorem dX8_init_180 : decode cX8_init 180 = .ok (.putfield 78, 3) := by decide +kernel
theorem dX8_init_183 : decode cX8_init 183 = .ok (.aload_n 0, 1) := by decide +kernel
theorem dX8_init_184 : decode cX8_init 184 = .ok (.bipush 9, 2) := by decide +kernel
theorem dX8_init_186 : decode cX8_init 186 = .ok (.newarray .int, 2) := by decide +kernel
theorem dX8_init_188 : decode cX8_init 188 = .ok (.putfield 81, 3) := by decide +kernel
theorem dX8_init_191 : decode cX8_init 191 = .ok (.aload_n 0, 1) := by decide +kernel
theorem dX8_init_192 : decode cX8_init 192 = .ok (.bipush 16, 2) := by decide +kernel
theorem dX8_init_194 : decode cX8_init 194 = .ok (.newarray .int, 2) := by decide +kernel
theorem dX8_init_196 : decode cX8_init 196 = .ok (.putfield 84, 3) := by decide +kernel
theorem dX8_init_199 : decode cX8_init 199 = .ok (.aload_n 0, 1) := by decide +kernel
theorem dX8_init_200 : decode cX8_init 200 = .ok (.iload_n 1, 1) := by decide +kernel
theorem dX8_init_201 : decode cX8_init 201 = .ok (.iconst 3, 1) := by decide +kernel
theorem dX8_init_202 : decode cX8_init 202 = .ok (.if_icmp .ge 7, 3) := by decide +kernel
theorem dX8_init_205 : decode cX8_init 205 = .ok (.iconst 3, 1) := by decide +kernel
theorem dX8_init_206 : decode cX8_init 206 = .ok (.goto 15, 3) := by decide +kernel
theorem dX8_init_209 : decode cX8_init 209 = .ok (.iload_n 1, 1) := by decide +kernel
theorem dX8_init_210 : decode cX8_init 210 = .ok (.bipush 9, 2) := by decide +kernel
theorem dX8_init_212 : decode cX8_init 212 = .ok (.if_icmp .le 8, 3) := by decide +kernel
theorem dX8_init_215 : decode cX8_init 215 = .ok (.bipush 9, 2) := by decide +kernel
theorem dX8_init_217 : decode cX8_init 217 = .ok (.goto 4, 3) := by decide +kernel
theorem dX8_init_220 : decode cX8_init 220 = .ok (.iload_n 1, 1) := by decide +kernel
theorem dX8_init_221 : decode cX8_init 221 = .ok (.putfield 87, 3) := by decide +kernel
theorem dX8_init_224 : decode cX8_init 224 = .ok (.return_, 1) := by decide +kernel
theorem dX8_isPlace_0 : decode cX8_isPlace 0 = .ok (.iload_n 1, 1) := by decide +kernel
theorem dX8_isPlace_1 : decode cX8_isPlace 1 = .ok (.i2l, 1) := by decide +kernel
theorem dX8_isPlace_2 : decode cX8_isPlace 2 = .ok (.lconst 0, 1) := by decide +kernel
theorem dX8_isPlace_3 : decode cX8_isPlace 3 = .ok (.aload_n 0, 1) := by decide +kernel
theorem dX8_isPlace_4 : decode cX8_isPlace 4 = .ok (.getfield 87, 3) := by decide +kernel
theorem dX8_isPlace_7 : decode cX8_isPlace 7 = .ok (.iconst 1, 1) := by decide +kernel
theorem dX8_isPlace_8 : decode cX8_isPlace 8 = .ok (.isub, 1) := by decide +kernel
theorem dX8_isPlace_9 : decode cX8_isPlace 9 = .ok (.i2l, 1) := by decide +kernel
theorem dX8_isPlace_10 : decode cX8_isPlace 10 = .ok (.invokestatic 90, 3) := by decide +kernel
theorem dX8_isPlace_13 : decode cX8_isPlace 13 = .ok (.ireturn, 1) := by decide +kernel
theorem dX8_robot_0 : decode cX8_robot 0 = .ok (.aload_n 0, 1) := by decide +kernel
theorem dX8_robot_1 : decode cX8_robot 1 = .ok (.iconst 0, 1) := by decide +kernel
theorem dX8_robot_2 : decode cX8_robot 2 = .ok (.putfield 1, 3) := by decide +kernel
theorem dX8_robot_5 : decode cX8_robot 5 = .ok (.aload_n 0, 1) := by decide +kernel
theorem dX8_robot_6 : decode cX8_robot 6 = .ok (.iload_n 1, 1) := by decide +kernel
theorem dX8_robot_7 : decode cX8_robot 7 = .ok (.invokevirtual 94, 3) := by decide +kernel
theorem dX8_robot_10 : decode cX8_robot 10 = .ok (.ifCond .ne 6, 3) := by decide +kernel
theorem dX8_robot_13 : decode cX8_robot 13 = .ok (.ldc 98, 2) := by decide +kernel
theorem dX8_robot_15 : decode cX8_robot 15 = .ok (.ireturn, 1) := by decide +kernel
theorem dX8_robot_16 : decode cX8_robot 16 = .ok (.aload_n 0, 1) := by decide +kernel
theorem dX8_robot_17 : decode cX8_robot 17 = .ok (.getfield 99, 3) := by decide +kernel
theorem dX8_robot_20 : decode cX8_robot 20 = .ok (.iconst 4, 1) := by decide +kernel
theorem dX8_robot_21 : decode cX8_robot 21 = .ok (.if_icmp .ne 6, 3) := by decide +kernel
theorem dX8_robot_24 : decode cX8_robot 24 = .ok (.ldc 102, 2) := by decide +kernel
theorem dX8_robot_26 : decode cX8_robot 26 = .ok (.ireturn, 1) := by decide +kernel
theorem dX8_robot_27 : decode cX8_robot 27 = .ok (.aload_n 0, 1) := by decide +kernel
theorem dX8_robot_28 : decode cX8_robot 28 = .ok (.getfield 13, 3) := by decide +kernel
theorem dX8_robot_31 : decode cX8_robot 31 = .ok (.iload_n 1, 1) := by decide +kernel
theorem dX8_robot_32 : decode cX8_robot 32 = .ok (.dup2, 1) := by decide +kernel
theorem dX8_robot_33 : decode cX8_robot 33 = .ok (.iaload, 1) := by decide +kernel
theorem dX8_robot_34 : decode cX8_robot 34 = .ok (.iconst 1, 1) := by decide +kernel
theorem dX8_robot_35 : decode cX8_robot 35 = .ok (.iadd, 1) := by decide +kernel
theorem dX8_robot_36 : decode cX8_robot 36 = .ok (.iastore, 1) := by decide +kernel
theorem dX8_robot_37 : decode cX8_robot 37 = .ok (.aload_n 0, 1) := by decide +kernel
theorem dX8_robot_38 : decode cX8_robot 38 = .ok (.dup, 1) := by decide +kernel
theorem dX8_robot_39 : decode cX8_robot 39 = .ok (.getfield 99, 3) := by decide +kernel
theorem dX8_robot_42 : decode cX8_robot 42 = .ok (.iconst 1, 1) := by decide +kernel
theorem dX8_robot_43 : decode cX8_robot 43 = .ok (.iadd, 1) := by decide +kernel
theorem dX8_robot_44 : decode cX8_robot 44 = .ok (.putfield 99, 3) := by decide +kernel
theorem dX8_robot_47 : decode cX8_robot 47 = .ok (.aload_n 0, 1) := by decide +kernel
theorem dX8_robot_48 : decode cX8_robot 48 = .ok (.getfield 99, 3) := by decide +kernel
theorem dX8_robot_51 : decode cX8_robot 51 = .ok (.ireturn, 1) := by decide +kernel
theorem dX8_wipe_0 : decode cX8_wipe 0 = .ok (.aload_n 0, 1) := by decide +kernel
theorem dX8_wipe_1 : decode cX8_wipe 1 = .ok (.iconst 0, 1) := by decide +kernel
theorem dX8_wipe_2 : decode cX8_wipe 2 = .ok (.putfield 1, 3) := by decide +kernel
theorem dX8_wipe_5 : decode cX8_wipe 5 = .ok (.aload_n 0, 1) := by decide +kernel
theorem dX8_wipe_6 : decode cX8_wipe 6 = .ok (.getfield 99, 3) := by decide +kernel
theorem dX8_wipe_9 : decode cX8_wipe 9 = .ok (.istore_n 1, 1) := by decide +kernel
theorem dX8_wipe_10 : decode cX8_wipe 10 = .ok (.aload_n 0, 1) := by decide +kernel
theorem dX8_wipe_11 : decode cX8_wipe 11 = .ok (.iconst 0, 1) := by decide +kernel
theorem dX8_wipe_12 : decode cX8_wipe 12 = .ok (.putfield 99, 3) := by decide +kernel
theorem dX8_wipe_15 : decode cX8_wipe 15 = .ok (.iconst 0, 1) := by decide +kernel
theorem dX8_wipe_16 : decode cX8_wipe 16 = .ok (.istore_n 2, 1) := by decide +kernel
theorem dX8_wipe_17 : decode cX8_wipe 17 = .ok (.iload_n 2, 1) := by decide +kernel
theorem dX8_wipe_18 : decode cX8_wipe 18 = .ok (.bipush 9, 2) := by decide +kernel
theorem dX8_wipe_20 : decode cX8_wipe 20 = .ok (.if_icmp .ge 16, 3) := by decide +kernel
theorem dX8_wipe_23 : decode cX8_wipe 23 = .ok (.aload_n 0, 1) := by decide +kernel
theorem dX8_wipe_24 : decode cX8_wipe 24 = .ok (.getfield 13, 3) := by decide +kernel
theorem dX8_wipe_27 : decode cX8_wipe 27 = .ok (.iload_n 2, 1) := by decide +kernel
theorem dX8_wipe_28 : decode cX8_wipe 28 = .ok (.iconst 0, 1) := by decide +kernel
theorem dX8_wipe_29 : decode cX8_wipe 29 = .ok (.iastore, 1) := by decide +kernel
theorem dX8_wipe_30 : decode cX8_wipe 30 = .ok (.iinc 2 1, 3) := by decide +kernel
theorem dX8_wipe_33 : decode cX8_wipe 33 = .ok (.goto (-16), 3) := by decide +kernel
theorem dX8_wipe_36 : decode cX8_wipe 36 = .ok (.iload_n 1, 1) := by decide +kernel
theorem dX8_wipe_37 : decode cX8_wipe 37 = .ok (.ireturn, 1) := by decide +kernel
theorem dX8_at_0 : decode cX8_at 0 = .ok (.aload_n 0, 1) := by decide +kernel
theorem dX8_at_1 : decode cX8_at 1 = .ok (.iconst 0, 1) := by decide +kernel
theorem dX8_at_2 : decode cX8_at 2 = .ok (.putfield 1, 3) := by decide +kernel
theorem dX8_at_5 : decode cX8_at 5 = .ok (.aload_n 0, 1) := by decide +kernel
theorem dX8_at_6 : decode cX8_at 6 = .ok (.iload_n 1, 1) := by decide +kernel
theorem dX8_at_7 : decode cX8_at 7 = .ok (.invokevirtual 94, 3) := by decide +kernel
theorem dX8_at_10 : decode cX8_at 10 = .ok (.ifCond .eq 12, 3) := by decide +kernel
theorem dX8_at_13 : decode cX8_at 13 = .ok (.aload_n 0, 1) := by decide +kernel
theorem dX8_at_14 : decode cX8_at 14 = .ok (.getfield 13, 3) := by decide +kernel
theorem dX8_at_17 : decode cX8_at 17 = .ok (.iload_n 1, 1) := by decide +kernel
theorem dX8_at_18 : decode cX8_at 18 = .ok (.iaload, 1) := by decide +kernel
theorem dX8_at_19 : decode cX8_at 19 = .ok (.goto 5, 3) := by decide +kernel
theorem dX8_at_22 : decode cX8_at 22 = .ok (.ldc 98, 2) := by decide +kernel
theorem dX8_at_24 : decode cX8_at 24 = .ok (.ireturn, 1) := by decide +kernel
theorem dX8_take_0 : decode cX8_take 0 = .ok (.iconst 0, 1) := by decide +kernel
theorem dX8_take_1 : decode cX8_take 1 = .ok (.istore_n 1, 1) := by decide +kernel
theorem dX8_take_2 : decode cX8_take 2 = .ok (.iload_n 1, 1) := by decide +kernel
theorem dX8_take_3 : decode cX8_take 3 = .ok (.bipush 9, 2) := by decide +kernel
theorem dX8_take_5 : decode cX8_take 5 = .ok (.if_icmp .ge 21, 3) := by decide +kernel
theorem dX8_take_8 : decode cX8_take 8 = .ok (.aload_n 0, 1) := by decide +kernel
theorem dX8_take_9 : decode cX8_take 9 = .ok (.getfield 17, 3) := by decide +kernel
theorem dX8_take_12 : decode cX8_take 12 = .ok (.iload_n 1, 1) := by decide +kernel
theorem dX8_take_13 : decode cX8_take 13 = .ok (.aload_n 0, 1) := by decide +kernel
theorem dX8_take_14 : decode cX8_take 14 = .ok (.getfield 13, 3) := by decide +kernel
theorem dX8_take_17 : decode cX8_take 17 = .ok (.iload_n 1, 1) := by decide +kernel
theorem dX8_take_18 : decode cX8_take 18 = .ok (.iaload, 1) := by decide +kernel
theorem dX8_take_19 : decode cX8_take 19 = .ok (.iastore, 1) := by decide +kernel
theorem dX8_take_20 : decode cX8_take 20 = .ok (.iinc 1 1, 3) := by decide +kernel
theorem dX8_take_23 : decode cX8_take 23 = .ok (.goto (-21), 3) := by decide +kernel
theorem dX8_take_26 : decode cX8_take 26 = .ok (.return_, 1) := by decide +kernel
theorem dX8_rowFrom_0 : decode cX8_rowFrom 0 = .ok (.iconst 0, 1) := by decide +kernel
theorem dX8_rowFrom_1 : decode cX8_rowFrom 1 = .ok (.istore 4, 2) := by decide +kernel
theorem dX8_rowFrom_3 : decode cX8_rowFrom 3 = .ok (.iconst 0, 1) := by decide +kernel
theorem dX8_rowFrom_4 : decode cX8_rowFrom 4 = .ok (.istore 5, 2) := by decide +kernel
theorem dX8_rowFrom_6 : decode cX8_rowFrom 6 = .ok (.iconst 1, 1) := by decide +kernel
theorem dX8_rowFrom_7 : decode cX8_rowFrom 7 = .ok (.istore 6, 2) := by decide +kernel
theorem dX8_rowFrom_9 : decode cX8_rowFrom 9 = .ok (.iload 6, 2) := by decide +kernel
theorem dX8_rowFrom_11 : decode cX8_rowFrom 11 = .ok (.aload_n 0, 1) := by decide +kernel
theorem dX8_rowFrom_12 : decode cX8_rowFrom 12 = .ok (.getfield 87, 3) := by decide +kernel
theorem dX8_rowFrom_15 : decode cX8_rowFrom 15 = .ok (.if_icmp .gt 72, 3) := by decide +kernel
theorem dX8_rowFrom_18 : decode cX8_rowFrom 18 = .ok (.iinc 5 1, 3) := by decide +kernel
theorem dX8_rowFrom_21 : decode cX8_rowFrom 21 = .ok (.iload_n 1, 1) := by decide +kernel
theorem dX8_rowFrom_22 : decode cX8_rowFrom 22 = .ok (.iload_n 2, 1) := by decide +kernel
theorem dX8_rowFrom_23 : decode cX8_rowFrom 23 = .ok (.iload 6, 2) := by decide +kernel
theorem dX8_rowFrom_25 : decode cX8_rowFrom 25 = .ok (.imul, 1) := by decide +kernel
theorem dX8_rowFrom_26 : decode cX8_rowFrom 26 = .ok (.iadd, 1) := by decide +kernel
theorem dX8_rowFrom_27 : decode cX8_rowFrom 27 = .ok (.aload_n 0, 1) := by decide +kernel
theorem dX8_rowFrom_28 : decode cX8_rowFrom 28 = .ok (.getfield 87, 3) := by decide +kernel
theorem dX8_rowFrom_31 : decode cX8_rowFrom 31 = .ok (.iload 6, 2) := by decide +kernel
theorem dX8_rowFrom_33 : decode cX8_rowFrom 33 = .ok (.imul, 1) := by decide +kernel
theorem dX8_rowFrom_34 : decode cX8_rowFrom 34 = .ok (.iadd, 1) := by decide +kernel
theorem dX8_rowFrom_35 : decode cX8_rowFrom 35 = .ok (.aload_n 0, 1) := by decide +kernel
theorem dX8_rowFrom_36 : decode cX8_rowFrom 36 = .ok (.getfield 87, 3) := by decide +kernel
theorem dX8_rowFrom_39 : decode cX8_rowFrom 39 = .ok (.irem, 1) := by decide +kernel
theorem dX8_rowFrom_40 : decode cX8_rowFrom 40 = .ok (.istore 7, 2) := by decide +kernel
theorem dX8_rowFrom_42 : decode cX8_rowFrom 42 = .ok (.aload_n 0, 1) := by decide +kernel
theorem dX8_rowFrom_43 : decode cX8_rowFrom 43 = .ok (.getfield 17, 3) := by decide +kernel
theorem dX8_rowFrom_46 : decode cX8_rowFrom 46 = .ok (.iload 7, 2) := by decide +kernel
theorem dX8_rowFrom_48 : decode cX8_rowFrom 48 = .ok (.iaload, 1) := by decide +kernel
theorem dX8_rowFrom_49 : decode cX8_rowFrom 49 = .ok (.ifCond .le 32, 3) := by decide +kernel
theorem dX8_rowFrom_52 : decode cX8_rowFrom 52 = .ok (.aload_n 3, 1) := by decide +kernel
theorem dX8_rowFrom_53 : decode cX8_rowFrom 53 = .ok (.iconst 2, 1) := by decide +kernel
theorem dX8_rowFrom_54 : decode cX8_rowFrom 54 = .ok (.iload 4, 2) := by decide +kernel
theorem dX8_rowFrom_56 : decode cX8_rowFrom 56 = .ok (.imul, 1) := by decide +kernel
theorem dX8_rowFrom_57 : decode cX8_rowFrom 57 = .ok (.iload 5, 2) := by decide +kernel
theorem dX8_rowFrom_59 : decode cX8_rowFrom 59 = .ok (.iastore, 1) := by decide +kernel
theorem dX8_rowFrom_60 : decode cX8_rowFrom 60 = .ok (.aload_n 3, 1) := by decide +kernel
theorem dX8_rowFrom_61 : decode cX8_rowFrom 61 = .ok (.iconst 2, 1) := by decide +kernel
theorem dX8_rowFrom_62 : decode cX8_rowFrom 62 = .ok (.iload 4, 2) := by decide +kernel
theorem dX8_rowFrom_64 : decode cX8_rowFrom 64 = .ok (.imul, 1) := by decide +kernel
theorem dX8_rowFrom_65 : decode cX8_rowFrom 65 = .ok (.iconst 1, 1) := by decide +kernel
theorem dX8_rowFrom_66 : decode cX8_rowFrom 66 = .ok (.iadd, 1) := by decide +kernel
theorem dX8_rowFrom_67 : decode cX8_rowFrom 67 = .ok (.aload_n 0, 1) := by decide +kernel
theorem dX8_rowFrom_68 : decode cX8_rowFrom 68 = .ok (.getfield 17, 3) := by decide +kernel
theorem dX8_rowFrom_71 : decode cX8_rowFrom 71 = .ok (.iload 7, 2) := by decide +kernel
theorem dX8_rowFrom_73 : decode cX8_rowFrom 73 = .ok (.iaload, 1) := by decide +kernel
theorem dX8_rowFrom_74 : decode cX8_rowFrom 74 = .ok (.iastore, 1) := by decide +kernel
theorem dX8_rowFrom_75 : decode cX8_rowFrom 75 = .ok (.iinc 4 1, 3) := by decide +kernel
theorem dX8_rowFrom_78 : decode cX8_rowFrom 78 = .ok (.iconst 0, 1) := by decide +kernel
theorem dX8_rowFrom_79 : decode cX8_rowFrom 79 = .ok (.istore 5, 2) := by decide +kernel
theorem dX8_rowFrom_81 : decode cX8_rowFrom 81 = .ok (.iinc 6 1, 3) := by decide +kernel
theorem dX8_rowFrom_84 : decode cX8_rowFrom 84 = .ok (.goto (-75), 3) := by decide +kernel
theorem dX8_rowFrom_87 : decode cX8_rowFrom 87 = .ok (.iload 4, 2) := by decide +kernel
theorem dX8_rowFrom_89 : decode cX8_rowFrom 89 = .ok (.ireturn, 1) := by decide +kernel
theorem dX8_look_0 : decode cX8_look 0 = .ok (.aload_n 0, 1) := by decide +kernel
theorem dX8_look_1 : decode cX8_look 1 = .ok (.iconst 2, 1) := by decide +kernel
theorem dX8_look_2 : decode cX8_look 2 = .ok (.aload_n 0, 1) := by decide +kernel
theorem dX8_look_3 : decode cX8_look 3 = .ok (.iload_n 1, 1) := by decide +kernel
theorem dX8_look_4 : decode cX8_look 4 = .ok (.iconst 1, 1) := by decide +kernel
theorem dX8_look_5 : decode cX8_look 5 = .ok (.aload_n 0, 1) := by decide +kernel
theorem dX8_look_6 : decode cX8_look 6 = .ok (.getfield 23, 3) := by decide +kernel
theorem dX8_look_9 : decode cX8_look 9 = .ok (.invokevirtual 103, 3) := by decide +kernel
theorem dX8_look_12 : decode cX8_look 12 = .ok (.imul, 1) := by decide +kernel
theorem dX8_look_13 : decode cX8_look 13 = .ok (.putfield 107, 3) := by decide +kernel
theorem dX8_look_16 : decode cX8_look 16 = .ok (.aload_n 0, 1) := by decide +kernel
theorem dX8_look_17 : decode cX8_look 17 = .ok (.iload_n 1, 1) := by decide +kernel
theorem dX8_look_18 : decode cX8_look 18 = .ok (.iconst (-1), 1) := by decide +kernel
theorem dX8_look_19 : decode cX8_look 19 = .ok (.aload_n 0, 1) := by decide +kernel
theorem dX8_look_20 : decode cX8_look 20 = .ok (.getfield 26, 3) := by decide +kernel
theorem dX8_look_23 : decode cX8_look 23 = .ok (.invokevirtual 103, 3) := by decide +kernel
theorem dX8_look_26 : decode cX8_look 26 = .ok (.istore_n 2, 1) := by decide +kernel
theorem dX8_look_27 : decode cX8_look 27 = .ok (.iconst 0, 1) := by decide +kernel
theorem dX8_look_28 : decode cX8_look 28 = .ok (.istore_n 3, 1) := by decide +kernel
theorem dX8_look_29 : decode cX8_look 29 = .ok (.iconst 0, 1) := by decide +kernel
theorem dX8_look_30 : decode cX8_look 30 = .ok (.istore 4, 2) := by decide +kernel
theorem dX8_look_32 : decode cX8_look 32 = .ok (.iload 4, 2) := by decide +kernel
theorem dX8_look_34 : decode cX8_look 34 = .ok (.aload_n 0, 1) := by decide +kernel
theorem dX8_look_35 : decode cX8_look 35 = .ok (.getfield 107, 3) := by decide +kernel
theorem dX8_look_38 : decode cX8_look 38 = .ok (.if_icmp .ge 57, 3) := by decide +kernel
theorem dX8_look_41 : decode cX8_look 41 = .ok (.iload_n 3, 1) := by decide +kernel
theorem dX8_look_42 : decode cX8_look 42 = .ok (.ifCond .ne 53, 3) := by decide +kernel
theorem dX8_look_45 : decode cX8_look 45 = .ok (.aload_n 0, 1) := by decide +kernel
theorem dX8_look_46 : decode cX8_look 46 = .ok (.getfield 23, 3) := by decide +kernel
theorem dX8_look_49 : decode cX8_look 49 = .ok (.iload 4, 2) := by decide +kernel
theorem dX8_look_51 : decode cX8_look 51 = .ok (.iaload, 1) := by decide +kernel
theorem dX8_look_52 : decode cX8_look 52 = .ok (.aload_n 0, 1) := by decide +kernel
theorem dX8_look_53 : decode cX8_look 53 = .ok (.getfield 26, 3) := by decide +kernel
theorem dX8_look_56 : decode cX8_look 56 = .ok (.iload 4, 2) := by decide +kernel
theorem dX8_look_58 : decode cX8_look 58 = .ok (.iaload, 1) := by decide +kernel
theorem dX8_look_59 : decode cX8_look 59 = .ok (.if_icmp .ge 7, 3) := by decide +kernel
theorem dX8_look_62 : decode cX8_look 62 = .ok (.iconst 1, 1) := by decide +kernel
theorem dX8_look_63 : decode cX8_look 63 = .ok (.goto 25, 3) := by decide +kernel
theorem dX8_look_66 : decode cX8_look 66 = .ok (.aload_n 0, 1) := by decide +kernel
theorem dX8_look_67 : decode cX8_look 67 = .ok (.getfield 23, 3) := by decide +kernel
theorem dX8_look_70 : decode cX8_look 70 = .ok (.iload 4, 2) := by decide +kernel
theorem dX8_look_72 : decode cX8_look 72 = .ok (.iaload, 1) := by decide +kernel
theorem dX8_look_73 : decode cX8_look 73 = .ok (.aload_n 0, 1) := by decide +kernel
theorem dX8_look_74 : decode cX8_look 74 = .ok (.getfield 26, 3) := by decide +kernel
theorem dX8_look_77 : decode cX8_look 77 = .ok (.iload 4, 2) := by decide +kernel
theorem dX8_look_79 : decode cX8_look 79 = .ok (.iaload, 1) := by decide +kernel
theorem dX8_look_80 : decode cX8_look 80 = .ok (.if_icmp .le 7, 3) := by decide +kernel
theorem dX8_look_83 : decode cX8_look 83 = .ok (.iconst (-1), 1) := by decide +kernel
theorem dX8_look_84 : decode cX8_look 84 = .ok (.goto 4, 3) := by decide +kernel
theorem dX8_look_87 : decode cX8_look 87 = .ok (.iconst 0, 1) := by decide +kernel
theorem dX8_look_88 : decode cX8_look 88 = .ok (.istore_n 3, 1) := by decide +kernel
theorem dX8_look_89 : decode cX8_look 89 = .ok (.iinc 4 1, 3) := by decide +kernel
theorem dX8_look_92 : decode cX8_look 92 = .ok (.goto (-60), 3) := by decide +kernel
theorem dX8_look_95 : decode cX8_look 95 = .ok (.iconst 0, 1) := by decide +kernel
theorem dX8_look_96 : decode cX8_look 96 = .ok (.istore 4, 2) := by decide +kernel
theorem dX8_look_98 : decode cX8_look 98 = .ok (.iload 4, 2) := by decide +kernel
theorem dX8_look_100 : decode cX8_look 100 = .ok (.aload_n 0, 1) := by decide +kernel
theorem dX8_look_101 : decode cX8_look 101 = .ok (.getfield 107, 3) := by decide +kernel
theorem dX8_look_104 : decode cX8_look 104 = .ok (.if_icmp .ge 37, 3) := by decide +kernel
theorem dX8_look_107 : decode cX8_look 107 = .ok (.aload_n 0, 1) := by decide +kernel
theorem dX8_look_108 : decode cX8_look 108 = .ok (.getfield 20, 3) := by decide +kernel
theorem dX8_look_111 : decode cX8_look 111 = .ok (.iload 4, 2) := by decide +kernel
theorem dX8_look_113 : decode cX8_look 113 = .ok (.iload_n 3, 1) := by decide +kernel
theorem dX8_look_114 : decode cX8_look 114 = .ok (.ifCond .ge 13, 3) := by decide +kernel
theorem dX8_look_117 : decode cX8_look 117 = .ok (.aload_n 0, 1) := by decide +kernel
theorem dX8_look_118 : decode cX8_look 118 = .ok (.getfield 26, 3) := by decide +kernel
theorem dX8_look_121 : decode cX8_look 121 = .ok (.iload 4, 2) := by decide +kernel
theorem dX8_look_123 : decode cX8_look 123 = .ok (.iaload, 1) := by decide +kernel
theorem dX8_look_124 : decode cX8_look 124 = .ok (.goto 10, 3) := by decide +kernel
theorem dX8_look_127 : decode cX8_look 127 = .ok (.aload_n 0, 1) := by decide +kernel
theorem dX8_look_128 : decode cX8_look 128 = .ok (.getfield 23, 3) := by decide +kernel
theorem dX8_look_131 : decode cX8_look 131 = .ok (.iload 4, 2) := by decide +kernel
theorem dX8_look_133 : decode cX8_look 133 = .ok (.iaload, 1) := by decide +kernel
theorem dX8_look_134 : decode cX8_look 134 = .ok (.iastore, 1) := by decide +kernel
theorem dX8_look_135 : decode cX8_look 135 = .ok (.iinc 4 1, 3) := by decide +kernel
theorem dX8_look_138 : decode cX8_look 138 = .ok (.goto (-40), 3) := by decide +kernel
theorem dX8_look_141 : decode cX8_look 141 = .ok (.iload_n 3, 1) := by decide +kernel
theorem dX8_look_142 : decode cX8_look 142 = .ok (.ireturn, 1) := by decide +kernel
theorem dX8_view_0 : decode cX8_view 0 = .ok (.aload_n 0, 1) := by decide +kernel
theorem dX8_view_1 : decode cX8_view 1 = .ok (.iconst 0, 1) := by decide +kernel
theorem dX8_view_2 : decode cX8_view 2 = .ok (.putfield 1, 3) := by decide +kernel
theorem dX8_view_5 : decode cX8_view 5 = .ok (.aload_n 0, 1) := by decide +kernel
theorem dX8_view_6 : decode cX8_view 6 = .ok (.iload_n 1, 1) := by decide +kernel
theorem dX8_view_7 : decode cX8_view 7 = .ok (.invokevirtual 94, 3) := by decide +kernel
theorem dX8_view_10 : decode cX8_view 10 = .ok (.ifCond .ne 6, 3) := by decide +kernel
theorem dX8_view_13 : decode cX8_view 13 = .ok (.ldc 98, 2) := by decide +kernel
theorem dX8_view_15 : decode cX8_view 15 = .ok (.ireturn, 1) := by decide +kernel
theorem dX8_view_16 : decode cX8_view 16 = .ok (.aload_n 0, 1) := by decide +kernel
theorem dX8_view_17 : decode cX8_view 17 = .ok (.getfield 13, 3) := by decide +kernel
theorem dX8_view_20 : decode cX8_view 20 = .ok (.iload_n 1, 1) := by decide +kernel
theorem dX8_view_21 : decode cX8_view 21 = .ok (.iaload, 1) := by decide +kernel
theorem dX8_view_22 : decode cX8_view 22 = .ok (.ifCond .ne 6, 3) := by decide +kernel
theorem dX8_view_25 : decode cX8_view 25 = .ok (.ldc 110, 2) := by decide +kernel
theorem dX8_view_27 : decode cX8_view 27 = .ok (.ireturn, 1) := by decide +kernel
theorem dX8_view_28 : decode cX8_view 28 = .ok (.aload_n 0, 1) := by decide +kernel
theorem dX8_view_29 : decode cX8_view 29 = .ok (.invokevirtual 111, 3) := by decide +kernel
theorem dX8_view_32 : decode cX8_view 32 = .ok (.aload_n 0, 1) := by decide +kernel
theorem dX8_view_33 : decode cX8_view 33 = .ok (.iload_n 1, 1) := by decide +kernel
theorem dX8_view_34 : decode cX8_view 34 = .ok (.invokevirtual 114, 3) := by decide +kernel
theorem dX8_view_37 : decode cX8_view 37 = .ok (.istore_n 3, 1) := by decide +kernel
theorem dX8_view_38 : decode cX8_view 38 = .ok (.iload_n 2, 1) := by decide +kernel
theorem dX8_view_39 : decode cX8_view 39 = .ok (.i2l, 1) := by decide +kernel
theorem dX8_view_40 : decode cX8_view 40 = .ok (.lconst 0, 1) := by decide +kernel
theorem dX8_view_41 : decode cX8_view 41 = .ok (.aload_n 0, 1) := by decide +kernel
theorem dX8_view_42 : decode cX8_view 42 = .ok (.getfield 107, 3) := by decide +kernel
theorem dX8_view_45 : decode cX8_view 45 = .ok (.iconst 1, 1) := by decide +kernel
theorem dX8_view_46 : decode cX8_view 46 = .ok (.isub, 1) := by decide +kernel
theorem dX8_view_47 : decode cX8_view 47 = .ok (.i2l, 1) := by decide +kernel
theorem dX8_view_48 : decode cX8_view 48 = .ok (.invokestatic 90, 3) := by decide +kernel
theorem dX8_view_51 : decode cX8_view 51 = .ok (.ifCond .eq 12, 3) := by decide +kernel
theorem dX8_view_54 : decode cX8_view 54 = .ok (.aload_n 0, 1) := by decide +kernel
theorem dX8_view_55 : decode cX8_view 55 = .ok (.getfield 20, 3) := by decide +kernel
theorem dX8_view_58 : decode cX8_view 58 = .ok (.iload_n 2, 1) := by decide +kernel
theorem dX8_view_59 : decode cX8_view 59 = .ok (.iaload, 1) := by decide +kernel
theorem dX8_view_60 : decode cX8_view 60 = .ok (.goto 5, 3) := by decide +kernel
theorem dX8_view_63 : decode cX8_view 63 = .ok (.ldc 110, 2) := by decide +kernel
theorem dX8_view_65 : decode cX8_view 65 = .ok (.ireturn, 1) := by decide +kernel
theorem dX8_doing_0 : decode cX8_doing 0 = .ok (.aload_n 0, 1) := by decide +kernel
theorem dX8_doing_1 : decode cX8_doing 1 = .ok (.iload_n 1, 1) := by decide +kernel
theorem dX8_doing_2 : decode cX8_doing 2 = .ok (.invokevirtual 114, 3) := by decide +kernel
theorem dX8_doing_5 : decode cX8_doing 5 = .ok (.istore_n 2, 1) := by decide +kernel
theorem dX8_doing_6 : decode cX8_doing 6 = .ok (.ldc 110, 2) := by decide +kernel
theorem dX8_doing_8 : decode cX8_doing 8 = .ok (.istore_n 3, 1) := by decide +kernel
theorem dX8_doing_9 : decode cX8_doing 9 = .ok (.iconst 0, 1) := by decide +kernel
theorem dX8_doing_10 : decode cX8_doing 10 = .ok (.istore 4, 2) := by decide +kernel
theorem dX8_doing_12 : decode cX8_doing 12 = .ok (.iload 4, 2) := by decide +kernel
theorem dX8_doing_14 : decode cX8_doing 14 = .ok (.aload_n 0, 1) := by decide +kernel
theorem dX8_doing_15 : decode cX8_doing 15 = .ok (.getfield 118, 3) := by decide +kernel
theorem dX8_doing_18 : decode cX8_doing 18 = .ok (.if_icmp .ge 95, 3) := by decide +kernel
theorem dX8_doing_21 : decode cX8_doing 21 = .ok (.aload_n 0, 1) := by decide +kernel
theorem dX8_doing_22 : decode cX8_doing 22 = .ok (.getfield 29, 3) := by decide +kernel
theorem dX8_doing_25 : decode cX8_doing 25 = .ok (.iload 4, 2) := by decide +kernel
theorem dX8_doing_27 : decode cX8_doing 27 = .ok (.iaload, 1) := by decide +kernel
theorem dX8_doing_28 : decode cX8_doing 28 = .ok (.aload_n 0, 1) := by decide +kernel
theorem dX8_doing_29 : decode cX8_doing 29 = .ok (.getfield 107, 3) := by decide +kernel
theorem dX8_doing_32 : decode cX8_doing 32 = .ok (.if_icmp .ne 7, 3) := by decide +kernel
theorem dX8_doing_35 : decode cX8_doing 35 = .ok (.iconst 1, 1) := by decide +kernel
theorem dX8_doing_36 : decode cX8_doing 36 = .ok (.goto 4, 3) := by decide +kernel
theorem dX8_doing_39 : decode cX8_doing 39 = .ok (.iconst 0, 1) := by decide +kernel
theorem dX8_doing_40 : decode cX8_doing 40 = .ok (.istore 5, 2) := by decide +kernel
theorem dX8_doing_42 : decode cX8_doing 42 = .ok (.iconst 0, 1) := by decide +kernel
theorem dX8_doing_43 : decode cX8_doing 43 = .ok (.istore 6, 2) := by decide +kernel
theorem dX8_doing_45 : decode cX8_doing 45 = .ok (.iload 6, 2) := by decide +kernel
theorem dX8_doing_47 : decode cX8_doing 47 = .ok (.aload_n 0, 1) := by decide +kernel
theorem dX8_doing_48 : decode cX8_doing 48 = .ok (.getfield 107, 3) := by decide +kernel
theorem dX8_doing_51 : decode cX8_doing 51 = .ok (.if_icmp .ge 44, 3) := by decide +kernel
theorem dX8_doing_54 : decode cX8_doing 54 = .ok (.iload 5, 2) := by decide +kernel
theorem dX8_doing_56 : decode cX8_doing 56 = .ok (.ifCond .eq 30, 3) := by decide +kernel
theorem dX8_doing_59 : decode cX8_doing 59 = .ok (.aload_n 0, 1) := by decide +kernel
theorem dX8_doing_60 : decode cX8_doing 60 = .ok (.getfield 32, 3) := by decide +kernel
theorem dX8_doing_63 : decode cX8_doing 63 = .ok (.bipush 8, 2) := by decide +kernel
theorem dX8_doing_65 : decode cX8_doing 65 = .ok (.iload 4, 2) := by decide +kernel
theorem dX8_doing_67 : decode cX8_doing 67 = .ok (.imul, 1) := by decide +kernel
theorem dX8_doing_68 : decode cX8_doing 68 = .ok (.iload 6, 2) := by decide +kernel
theorem dX8_doing_70 : decode cX8_doing 70 = .ok (.iadd, 1) := by decide +kernel
theorem dX8_doing_71 : decode cX8_doing 71 = .ok (.iaload, 1) := by decide +kernel
theorem dX8_doing_72 : decode cX8_doing 72 = .ok (.aload_n 0, 1) := by decide +kernel
theorem dX8_doing_73 : decode cX8_doing 73 = .ok (.getfield 20, 3) := by decide +kernel
theorem dX8_doing_76 : decode cX8_doing 76 = .ok (.iload 6, 2) := by decide +kernel
theorem dX8_doing_78 : decode cX8_doing 78 = .ok (.iaload, 1) := by decide +kernel
theorem dX8_doing_79 : decode cX8_doing 79 = .ok (.if_icmp .ne 7, 3) := by decide +kernel
theorem dX8_doing_82 : decode cX8_doing 82 = .ok (.iconst 1, 1) := by decide +kernel
theorem dX8_doing_83 : decode cX8_doing 83 = .ok (.goto 4, 3) := by decide +kernel
theorem dX8_doing_86 : decode cX8_doing 86 = .ok (.iconst 0, 1) := by decide +kernel
theorem dX8_doing_87 : decode cX8_doing 87 = .ok (.istore 5, 2) := by decide +kernel
theorem dX8_doing_89 : decode cX8_doing 89 = .ok (.iinc 6 1, 3) := by decide +kernel
theorem dX8_doing_92 : decode cX8_doing 92 = .ok (.goto (-47), 3) := by decide +kernel
theorem dX8_doing_95 : decode cX8_doing 95 = .ok (.iload 5, 2) := by decide +kernel
theorem dX8_doing_97 : decode cX8_doing 97 = .ok (.ifCond .eq 8, 3) := by decide +kernel
theorem dX8_doing_100 : decode cX8_doing 100 = .ok (.iload 4, 2) := by decide +kernel
theorem dX8_doing_102 : decode cX8_doing 102 = .ok (.goto 4, 3) := by decide +kernel
theorem dX8_doing_105 : decode cX8_doing 105 = .ok (.iload_n 3, 1) := by decide +kernel
theorem dX8_doing_106 : decode cX8_doing 106 = .ok (.istore_n 3, 1) := by decide +kernel
theorem dX8_doing_107 : decode cX8_doing 107 = .ok (.iinc 4 1, 3) := by decide +kernel
theorem dX8_doing_110 : decode cX8_doing 110 = .ok (.goto (-98), 3) := by decide +kernel
theorem dX8_doing_113 : decode cX8_doing 113 = .ok (.iload_n 3, 1) := by decide +kernel
theorem dX8_doing_114 : decode cX8_doing 114 = .ok (.ldc 110, 2) := by decide +kernel
theorem dX8_doing_116 : decode cX8_doing 116 = .ok (.if_icmp .eq 12, 3) := by decide +kernel
theorem dX8_doing_119 : decode cX8_doing 119 = .ok (.aload_n 0, 1) := by decide +kernel
theorem dX8_doing_120 : decode cX8_doing 120 = .ok (.getfield 35, 3) := by decide +kernel
theorem dX8_doing_123 : decode cX8_doing 123 = .ok (.iload_n 3, 1) := by decide +kernel
theorem dX8_doing_124 : decode cX8_doing 124 = .ok (.iaload, 1) := by decide +kernel
theorem dX8_doing_125 : decode cX8_doing 125 = .ok (.ifCond .ne 5, 3) := by decide +kernel
theorem dX8_doing_128 : decode cX8_doing 128 = .ok (.iconst 0, 1) := by decide +kernel
theorem dX8_doing_129 : decode cX8_doing 129 = .ok (.ireturn, 1) := by decide +kernel
theorem dX8_doing_130 : decode cX8_doing 130 = .ok (.iload_n 2, 1) := by decide +kernel
theorem dX8_doing_131 : decode cX8_doing 131 = .ok (.ifCond .ne 7, 3) := by decide +kernel
theorem dX8_doing_134 : decode cX8_doing 134 = .ok (.iconst 2, 1) := by decide +kernel
theorem dX8_doing_135 : decode cX8_doing 135 = .ok (.goto 19, 3) := by decide +kernel
theorem dX8_doing_138 : decode cX8_doing 138 = .ok (.aload_n 0, 1) := by decide +kernel
theorem dX8_doing_139 : decode cX8_doing 139 = .ok (.getfield 35, 3) := by decide +kernel
theorem dX8_doing_142 : decode cX8_doing 142 = .ok (.iload_n 3, 1) := by decide +kernel
theorem dX8_doing_143 : decode cX8_doing 143 = .ok (.iaload, 1) := by decide +kernel
theorem dX8_doing_144 : decode cX8_doing 144 = .ok (.iconst 1, 1) := by decide +kernel
theorem dX8_doing_145 : decode cX8_doing 145 = .ok (.if_icmp .ne 7, 3) := by decide +kernel
theorem dX8_doing_148 : decode cX8_doing 148 = .ok (.iload_n 2, 1) := by decide +kernel
theorem dX8_doing_149 : decode cX8_doing 149 = .ok (.goto 5, 3) := by decide +kernel
theorem dX8_doing_152 : decode cX8_doing 152 = .ok (.iload_n 2, 1) := by decide +kernel
theorem dX8_doing_153 : decode cX8_doing 153 = .ok (.ineg, 1) := by decide +kernel
theorem dX8_doing_154 : decode cX8_doing 154 = .ok (.ireturn, 1) := by decide +kernel
theorem dX8_does_0 : decode cX8_does 0 = .ok (.aload_n 0, 1) := by decide +kernel
theorem dX8_does_1 : decode cX8_does 1 = .ok (.iconst 0, 1) := by decide +kernel
theorem dX8_does_2 : decode cX8_does 2 = .ok (.putfield 1, 3) := by decide +kernel
theorem dX8_does_5 : decode cX8_does 5 = .ok (.aload_n 0, 1) := by decide +kernel
theorem dX8_does_6 : decode cX8_does 6 = .ok (.iload_n 1, 1) := by decide +kernel
theorem dX8_does_7 : decode cX8_does 7 = .ok (.invokevirtual 94, 3) := by decide +kernel
theorem dX8_does_10 : decode cX8_does 10 = .ok (.ifCond .ne 6, 3) := by decide +kernel
theorem dX8_does_13 : decode cX8_does 13 = .ok (.ldc 98, 2) := by decide +kernel
theorem dX8_does_15 : decode cX8_does 15 = .ok (.ireturn, 1) := by decide +kernel
theorem dX8_does_16 : decode cX8_does 16 = .ok (.aload_n 0, 1) := by decide +kernel
theorem dX8_does_17 : decode cX8_does 17 = .ok (.invokevirtual 111, 3) := by decide +kernel
theorem dX8_does_20 : decode cX8_does 20 = .ok (.aload_n 0, 1) := by decide +kernel
theorem dX8_does_21 : decode cX8_does 21 = .ok (.getfield 13, 3) := by decide +kernel
theorem dX8_does_24 : decode cX8_does 24 = .ok (.iload_n 1, 1) := by decide +kernel
theorem dX8_does_25 : decode cX8_does 25 = .ok (.iaload, 1) := by decide +kernel
theorem dX8_does_26 : decode cX8_does 26 = .ok (.ifCond .ne 8, 3) := by decide +kernel
theorem dX8_does_29 : decode cX8_does 29 = .ok (.ldc 110, 2) := by decide +kernel
theorem dX8_does_31 : decode cX8_does 31 = .ok (.goto 8, 3) := by decide +kernel
theorem dX8_does_34 : decode cX8_does 34 = .ok (.aload_n 0, 1) := by decide +kernel
theorem dX8_does_35 : decode cX8_does 35 = .ok (.iload_n 1, 1) := by decide +kernel
theorem dX8_does_36 : decode cX8_does 36 = .ok (.invokevirtual 121, 3) := by decide +kernel
theorem dX8_does_39 : decode cX8_does 39 = .ok (.ireturn, 1) := by decide +kernel
theorem dX8_seen_0 : decode cX8_seen 0 = .ok (.aload_n 0, 1) := by decide +kernel
theorem dX8_seen_1 : decode cX8_seen 1 = .ok (.getfield 17, 3) := by decide +kernel
theorem dX8_seen_4 : decode cX8_seen 4 = .ok (.iload_n 1, 1) := by decide +kernel
theorem dX8_seen_5 : decode cX8_seen 5 = .ok (.ifCond .ne 14, 3) := by decide +kernel
theorem dX8_seen_8 : decode cX8_seen 8 = .ok (.iload_n 3, 1) := by decide +kernel
theorem dX8_seen_9 : decode cX8_seen 9 = .ok (.iload_n 2, 1) := by decide +kernel
theorem dX8_seen_10 : decode cX8_seen 10 = .ok (.iadd, 1) := by decide +kernel
theorem dX8_seen_11 : decode cX8_seen 11 = .ok (.aload_n 0, 1) := by decide +kernel
theorem dX8_seen_12 : decode cX8_seen 12 = .ok (.getfield 87, 3) := by decide +kernel
theorem dX8_seen_15 : decode cX8_seen 15 = .ok (.irem, 1) := by decide +kernel
theorem dX8_seen_16 : decode cX8_seen 16 = .ok (.goto 16, 3) := by decide +kernel
theorem dX8_seen_19 : decode cX8_seen 19 = .ok (.iload_n 2, 1) := by decide +kernel
theorem dX8_seen_20 : decode cX8_seen 20 = .ok (.iload_n 3, 1) := by decide +kernel
theorem dX8_seen_21 : decode cX8_seen 21 = .ok (.isub, 1) := by decide +kernel
theorem dX8_seen_22 : decode cX8_seen 22 = .ok (.aload_n 0, 1) := by decide +kernel
theorem dX8_seen_23 : decode cX8_seen 23 = .ok (.getfield 87, 3) := by decide +kernel
theorem dX8_seen_26 : decode cX8_seen 26 = .ok (.iadd, 1) := by decide +kernel
theorem dX8_seen_27 : decode cX8_seen 27 = .ok (.aload_n 0, 1) := by decide +kernel
theorem dX8_seen_28 : decode cX8_seen 28 = .ok (.getfield 87, 3) := by decide +kernel
theorem dX8_seen_31 : decode cX8_seen 31 = .ok (.irem, 1) := by decide +kernel
theorem dX8_seen_32 : decode cX8_seen 32 = .ok (.iaload, 1) := by decide +kernel
theorem dX8_seen_33 : decode cX8_seen 33 = .ok (.ireturn, 1) := by decide +kernel
theorem dX8_findName_0 : decode cX8_findName 0 = .ok (.iconst 0, 1) := by decide +kernel
theorem dX8_findName_1 : decode cX8_findName 1 = .ok (.istore_n 1, 1) := by decide +kernel
theorem dX8_findName_2 : decode cX8_findName 2 = .ok (.iload_n 1, 1) := by decide +kernel
theorem dX8_findName_3 : decode cX8_findName 3 = .ok (.bipush 9, 2) := by decide +kernel
theorem dX8_findName_5 : decode cX8_findName 5 = .ok (.if_icmp .ge 33, 3) := by decide +kernel
theorem dX8_findName_8 : decode cX8_findName 8 = .ok (.aload_n 0, 1) := by decide +kernel
theorem dX8_findName_9 : decode cX8_findName 9 = .ok (.getfield 38, 3) := by decide +kernel
theorem dX8_findName_12 : decode cX8_findName 12 = .ok (.iload_n 1, 1) := by decide +kernel
theorem dX8_findName_13 : decode cX8_findName 13 = .ok (.iload_n 1, 1) := by decide +kernel
theorem dX8_findName_14 : decode cX8_findName 14 = .ok (.aload_n 0, 1) := by decide +kernel
theorem dX8_findName_15 : decode cX8_findName 15 = .ok (.getfield 87, 3) := by decide +kernel
theorem dX8_findName_18 : decode cX8_findName 18 = .ok (.if_icmp .ge 12, 3) := by decide +kernel
theorem dX8_findName_21 : decode cX8_findName 21 = .ok (.aload_n 0, 1) := by decide +kernel
theorem dX8_findName_22 : decode cX8_findName 22 = .ok (.getfield 17, 3) := by decide +kernel
theorem dX8_findName_25 : decode cX8_findName 25 = .ok (.iload_n 1, 1) := by decide +kernel
theorem dX8_findName_26 : decode cX8_findName 26 = .ok (.iaload, 1) := by decide +kernel
theorem dX8_findName_27 : decode cX8_findName 27 = .ok (.goto 4, 3) := by decide +kernel
theorem dX8_findName_30 : decode cX8_findName 30 = .ok (.iconst 0, 1) := by decide +kernel
theorem dX8_findName_31 : decode cX8_findName 31 = .ok (.iastore, 1) := by decide +kernel
theorem dX8_findName_32 : decode cX8_findName 32 = .ok (.iinc 1 1, 3) := by decide +kernel
theorem dX8_findName_35 : decode cX8_findName 35 = .ok (.goto (-33), 3) := by decide +kernel
theorem dX8_findName_38 : decode cX8_findName 38 = .ok (.iconst 0, 1) := by decide +kernel
theorem dX8_findName_39 : decode cX8_findName 39 = .ok (.istore_n 1, 1) := by decide +kernel
theorem dX8_findName_40 : decode cX8_findName 40 = .ok (.iload_n 1, 1) := by decide +kernel
theorem dX8_findName_41 : decode cX8_findName 41 = .ok (.iconst 2, 1) := by decide +kernel
theorem dX8_findName_42 : decode cX8_findName 42 = .ok (.if_icmp .ge 103, 3) := by decide +kernel
theorem dX8_findName_45 : decode cX8_findName 45 = .ok (.iconst 0, 1) := by decide +kernel
theorem dX8_findName_46 : decode cX8_findName 46 = .ok (.istore_n 2, 1) := by decide +kernel
theorem dX8_findName_47 : decode cX8_findName 47 = .ok (.iload_n 2, 1) := by decide +kernel
theorem dX8_findName_48 : decode cX8_findName 48 = .ok (.aload_n 0, 1) := by decide +kernel
theorem dX8_findName_49 : decode cX8_findName 49 = .ok (.getfield 87, 3) := by decide +kernel
theorem dX8_findName_52 : decode cX8_findName 52 = .ok (.if_icmp .ge 87, 3) := by decide +kernel
theorem dX8_findName_55 : decode cX8_findName 55 = .ok (.iconst 0, 1) := by decide +kernel
theorem dX8_findName_56 : decode cX8_findName 56 = .ok (.istore_n 3, 1) := by decide +kernel
theorem dX8_findName_57 : decode cX8_findName 57 = .ok (.iconst 0, 1) := by decide +kernel
theorem dX8_findName_58 : decode cX8_findName 58 = .ok (.istore 4, 2) := by decide +kernel
theorem dX8_findName_60 : decode cX8_findName 60 = .ok (.iload 4, 2) := by decide +kernel
theorem dX8_findName_62 : decode cX8_findName 62 = .ok (.aload_n 0, 1) := by decide +kernel
theorem dX8_findName_63 : decode cX8_findName 63 = .ok (.getfield 87, 3) := by decide +kernel
theorem dX8_findName_66 : decode cX8_findName 66 = .ok (.if_icmp .ge 30, 3) := by decide +kernel
theorem dX8_findName_69 : decode cX8_findName 69 = .ok (.iload_n 3, 1) := by decide +kernel
theorem dX8_findName_70 : decode cX8_findName 70 = .ok (.ifCond .ne 26, 3) := by decide +kernel
theorem dX8_findName_73 : decode cX8_findName 73 = .ok (.aload_n 0, 1) := by decide +kernel
theorem dX8_findName_74 : decode cX8_findName 74 = .ok (.iload_n 1, 1) := by decide +kernel
theorem dX8_findName_75 : decode cX8_findName 75 = .ok (.iload_n 2, 1) := by decide +kernel
theorem dX8_findName_76 : decode cX8_findName 76 = .ok (.iload 4, 2) := by decide +kernel
theorem dX8_findName_78 : decode cX8_findName 78 = .ok (.invokevirtual 124, 3) := by decide +kernel
theorem dX8_findName_81 : decode cX8_findName 81 = .ok (.aload_n 0, 1) := by decide +kernel
theorem dX8_findName_82 : decode cX8_findName 82 = .ok (.getfield 38, 3) := by decide +kernel
theorem dX8_findName_85 : decode cX8_findName 85 = .ok (.iload 4, 2) := by decide +kernel
theorem dX8_findName_87 : decode cX8_findName 87 = .ok (.iaload, 1) := by decide +kernel
theorem dX8_findName_88 : decode cX8_findName 88 = .ok (.isub, 1) := by decide +kernel
theorem dX8_findName_89 : decode cX8_findName 89 = .ok (.istore_n 3, 1) := by decide +kernel
theorem dX8_findName_90 : decode cX8_findName 90 = .ok (.iinc 4 1, 3) := by decide +kernel
theorem dX8_findName_93 : decode cX8_findName 93 = .ok (.goto (-33), 3) := by decide +kernel
theorem dX8_findName_96 : decode cX8_findName 96 = .ok (.iconst 0, 1) := by decide +kernel
theorem dX8_findName_97 : decode cX8_findName 97 = .ok (.istore 4, 2) := by decide +kernel
theorem dX8_findName_99 : decode cX8_findName 99 = .ok (.iload 4, 2) := by decide +kernel
theorem dX8_findName_101 : decode cX8_findName 101 = .ok (.aload_n 0, 1) := by decide +kernel
theorem dX8_findName_102 : decode cX8_findName 102 = .ok (.getfield 87, 3) := by decide +kernel
theorem dX8_findName_105 : decode cX8_findName 105 = .ok (.if_icmp .ge 28, 3) := by decide +kernel
theorem dX8_findName_108 : decode cX8_findName 108 = .ok (.iload_n 3, 1) := by decide +kernel
theorem dX8_findName_109 : decode cX8_findName 109 = .ok (.ifCond .le 24, 3) := by decide +kernel
theorem dX8_findName_112 : decode cX8_findName 112 = .ok (.aload_n 0, 1) := by decide +kernel
theorem dX8_findName_113 : decode cX8_findName 113 = .ok (.getfield 38, 3) := by decide +kernel
theorem dX8_findName_116 : decode cX8_findName 116 = .ok (.iload 4, 2) := by decide +kernel
theorem dX8_findName_118 : decode cX8_findName 118 = .ok (.aload_n 0, 1) := by decide +kernel
theorem dX8_findName_119 : decode cX8_findName 119 = .ok (.iload_n 1, 1) := by decide +kernel
theorem dX8_findName_120 : decode cX8_findName 120 = .ok (.iload_n 2, 1) := by decide +kernel
theorem dX8_findName_121 : decode cX8_findName 121 = .ok (.iload 4, 2) := by decide +kernel
theorem dX8_findName_123 : decode cX8_findName 123 = .ok (.invokevirtual 124, 3) := by decide +kernel
theorem dX8_findName_126 : decode cX8_findName 126 = .ok (.iastore, 1) := by decide +kernel
theorem dX8_findName_127 : decode cX8_findName 127 = .ok (.iinc 4 1, 3) := by decide +kernel
theorem dX8_findName_130 : decode cX8_findName 130 = .ok (.goto (-31), 3) := by decide +kernel
theorem dX8_findName_133 : decode cX8_findName 133 = .ok (.iinc 2 1, 3) := by decide +kernel
theorem dX8_findName_136 : decode cX8_findName 136 = .ok (.goto (-89), 3) := by decide +kernel
theorem dX8_findName_139 : decode cX8_findName 139 = .ok (.iinc 1 1, 3) := by decide +kernel
theorem dX8_findName_142 : decode cX8_findName 142 = .ok (.goto (-102), 3) := by decide +kernel
theorem dX8_findName_145 : decode cX8_findName 145 = .ok (.return_, 1) := by decide +kernel
theorem dX8_same_0 : decode cX8_same 0 = .ok (.iconst 0, 1) := by decide +kernel
theorem dX8_same_1 : decode cX8_same 1 = .ok (.istore_n 2, 1) := by decide +kernel
theorem dX8_same_2 : decode cX8_same 2 = .ok (.iconst 0, 1) := by decide +kernel
theorem dX8_same_3 : decode cX8_same 3 = .ok (.istore_n 3, 1) := by decide +kernel
theorem dX8_same_4 : decode cX8_same 4 = .ok (.iload_n 3, 1) := by decide +kernel
theorem dX8_same_5 : decode cX8_same 5 = .ok (.aload_n 0, 1) := by decide +kernel
theorem dX8_same_6 : decode cX8_same 6 = .ok (.getfield 87, 3) := by decide +kernel
theorem dX8_same_9 : decode cX8_same 9 = .ok (.if_icmp .ge 73, 3) := by decide +kernel
theorem dX8_same_12 : decode cX8_same 12 = .ok (.iconst 1, 1) := by decide +kernel
theorem dX8_same_13 : decode cX8_same 13 = .ok (.istore 4, 2) := by decide +kernel
theorem dX8_same_15 : decode cX8_same 15 = .ok (.iconst 0, 1) := by decide +kernel
theorem dX8_same_16 : decode cX8_same 16 = .ok (.istore 5, 2) := by decide +kernel
theorem dX8_same_18 : decode cX8_same 18 = .ok (.iload 5, 2) := by decide +kernel
theorem dX8_same_20 : decode cX8_same 20 = .ok (.aload_n 0, 1) := by decide +kernel
theorem dX8_same_21 : decode cX8_same 21 = .ok (.getfield 87, 3) := by decide +kernel
theorem dX8_same_24 : decode cX8_same 24 = .ok (.if_icmp .ge 39, 3) := by decide +kernel
theorem dX8_same_27 : decode cX8_same 27 = .ok (.iload 4, 2) := by decide +kernel
theorem dX8_same_29 : decode cX8_same 29 = .ok (.ifCond .eq 25, 3) := by decide +kernel
theorem dX8_same_32 : decode cX8_same 32 = .ok (.aload_n 0, 1) := by decide +kernel
theorem dX8_same_33 : decode cX8_same 33 = .ok (.iload_n 1, 1) := by decide +kernel
theorem dX8_same_34 : decode cX8_same 34 = .ok (.iload_n 3, 1) := by decide +kernel
theorem dX8_same_35 : decode cX8_same 35 = .ok (.iload 5, 2) := by decide +kernel
theorem dX8_same_37 : decode cX8_same 37 = .ok (.invokevirtual 124, 3) := by decide +kernel
theorem dX8_same_40 : decode cX8_same 40 = .ok (.aload_n 0, 1) := by decide +kernel
theorem dX8_same_41 : decode cX8_same 41 = .ok (.getfield 17, 3) := by decide +kernel
theorem dX8_same_44 : decode cX8_same 44 = .ok (.iload 5, 2) := by decide +kernel
theorem dX8_same_46 : decode cX8_same 46 = .ok (.iaload, 1) := by decide +kernel
theorem dX8_same_47 : decode cX8_same 47 = .ok (.if_icmp .ne 7, 3) := by decide +kernel
theorem dX8_same_50 : decode cX8_same 50 = .ok (.iconst 1, 1) := by decide +kernel
theorem dX8_same_51 : decode cX8_same 51 = .ok (.goto 4, 3) := by decide +kernel
theorem dX8_same_54 : decode cX8_same 54 = .ok (.iconst 0, 1) := by decide +kernel
theorem dX8_same_55 : decode cX8_same 55 = .ok (.istore 4, 2) := by decide +kernel
theorem dX8_same_57 : decode cX8_same 57 = .ok (.iinc 5 1, 3) := by decide +kernel
theorem dX8_same_60 : decode cX8_same 60 = .ok (.goto (-42), 3) := by decide +kernel
theorem dX8_same_63 : decode cX8_same 63 = .ok (.iload_n 2, 1) := by decide +kernel
theorem dX8_same_64 : decode cX8_same 64 = .ok (.iload 4, 2) := by decide +kernel
theorem dX8_same_66 : decode cX8_same 66 = .ok (.ifCond .eq 7, 3) := by decide +kernel
theorem dX8_same_69 : decode cX8_same 69 = .ok (.iconst 1, 1) := by decide +kernel
theorem dX8_same_70 : decode cX8_same 70 = .ok (.goto 4, 3) := by decide +kernel
theorem dX8_same_73 : decode cX8_same 73 = .ok (.iconst 0, 1) := by decide +kernel
theorem dX8_same_74 : decode cX8_same 74 = .ok (.iadd, 1) := by decide +kernel
theorem dX8_same_75 : decode cX8_same 75 = .ok (.istore_n 2, 1) := by decide +kernel
theorem dX8_same_76 : decode cX8_same 76 = .ok (.iinc 3 1, 3) := by decide +kernel
theorem dX8_same_79 : decode cX8_same 79 = .ok (.goto (-75), 3) := by decide +kernel
theorem dX8_same_82 : decode cX8_same 82 = .ok (.iload_n 2, 1) := by decide +kernel
theorem dX8_same_83 : decode cX8_same 83 = .ok (.ireturn, 1) := by decide +kernel
theorem dX8_name_0 : decode cX8_name 0 = .ok (.aload_n 0, 1) := by decide +kernel
theorem dX8_name_1 : decode cX8_name 1 = .ok (.iconst 0, 1) := by decide +kernel
theorem dX8_name_2 : decode cX8_name 2 = .ok (.putfield 1, 3) := by decide +kernel
theorem dX8_name_5 : decode cX8_name 5 = .ok (.aload_n 0, 1) := by decide +kernel
theorem dX8_name_6 : decode cX8_name 6 = .ok (.iload_n 1, 1) := by decide +kernel
theorem dX8_name_7 : decode cX8_name 7 = .ok (.invokevirtual 94, 3) := by decide +kernel
theorem dX8_name_10 : decode cX8_name 10 = .ok (.ifCond .ne 6, 3) := by decide +kernel
theorem dX8_name_13 : decode cX8_name 13 = .ok (.ldc 98, 2) := by decide +kernel
theorem dX8_name_15 : decode cX8_name 15 = .ok (.ireturn, 1) := by decide +kernel
theorem dX8_name_16 : decode cX8_name 16 = .ok (.aload_n 0, 1) := by decide +kernel
theorem dX8_name_17 : decode cX8_name 17 = .ok (.invokevirtual 111, 3) := by decide +kernel
theorem dX8_name_20 : decode cX8_name 20 = .ok (.aload_n 0, 1) := by decide +kernel
theorem dX8_name_21 : decode cX8_name 21 = .ok (.invokevirtual 128, 3) := by decide +kernel
theorem dX8_name_24 : decode cX8_name 24 = .ok (.aload_n 0, 1) := by decide +kernel
theorem dX8_name_25 : decode cX8_name 25 = .ok (.getfield 38, 3) := by decide +kernel
theorem dX8_name_28 : decode cX8_name 28 = .ok (.iload_n 1, 1) := by decide +kernel
theorem dX8_name_29 : decode cX8_name 29 = .ok (.iaload, 1) := by decide +kernel
theorem dX8_name_30 : decode cX8_name 30 = .ok (.ireturn, 1) := by decide +kernel
theorem dX8_isGoal_0 : decode cX8_isGoal 0 = .ok (.iconst 0, 1) := by decide +kernel
theorem dX8_isGoal_1 : decode cX8_isGoal 1 = .ok (.istore_n 3, 1) := by decide +kernel
theorem dX8_isGoal_2 : decode cX8_isGoal 2 = .ok (.aload_n 0, 1) := by decide +kernel
theorem dX8_isGoal_3 : decode cX8_isGoal 3 = .ok (.getfield 87, 3) := by decide +kernel
theorem dX8_isGoal_6 : decode cX8_isGoal 6 = .ok (.iconst 1, 1) := by decide +kernel
theorem dX8_isGoal_7 : decode cX8_isGoal 7 = .ok (.iadd, 1) := by decide +kernel
theorem dX8_isGoal_8 : decode cX8_isGoal 8 = .ok (.istore 4, 2) := by decide +kernel
theorem dX8_isGoal_10 : decode cX8_isGoal 10 = .ok (.iconst 0, 1) := by decide +kernel
theorem dX8_isGoal_11 : decode cX8_isGoal 11 = .ok (.istore 5, 2) := by decide +kernel
theorem dX8_isGoal_13 : decode cX8_isGoal 13 = .ok (.iconst 1, 1) := by decide +kernel
theorem dX8_isGoal_14 : decode cX8_isGoal 14 = .ok (.istore 6, 2) := by decide +kernel
theorem dX8_isGoal_16 : decode cX8_isGoal 16 = .ok (.iconst 0, 1) := by decide +kernel
theorem dX8_isGoal_17 : decode cX8_isGoal 17 = .ok (.istore 7, 2) := by decide +kernel
theorem dX8_isGoal_19 : decode cX8_isGoal 19 = .ok (.iconst 0, 1) := by decide +kernel
theorem dX8_isGoal_20 : decode cX8_isGoal 20 = .ok (.istore 8, 2) := by decide +kernel
theorem dX8_isGoal_22 : decode cX8_isGoal 22 = .ok (.iload 8, 2) := by decide +kernel
theorem dX8_isGoal_24 : decode cX8_isGoal 24 = .ok (.aload_n 0, 1) := by decide +kernel
theorem dX8_isGoal_25 : decode cX8_isGoal 25 = .ok (.getfield 87, 3) := by decide +kernel
theorem dX8_isGoal_28 : decode cX8_isGoal 28 = .ok (.if_icmp .ge 120, 3) := by decide +kernel
theorem dX8_isGoal_31 : decode cX8_isGoal 31 = .ok (.aload_n 0, 1) := by decide +kernel
theorem dX8_isGoal_32 : decode cX8_isGoal 32 = .ok (.getfield 17, 3) := by decide +kernel
theorem dX8_isGoal_35 : decode cX8_isGoal 35 = .ok (.iload 8, 2) := by decide +kernel
theorem dX8_isGoal_37 : decode cX8_isGoal 37 = .ok (.iaload, 1) := by decide +kernel
theorem dX8_isGoal_38 : decode cX8_isGoal 38 = .ok (.ifCond .le 104, 3) := by decide +kernel
theorem dX8_isGoal_41 : decode cX8_isGoal 41 = .ok (.iinc 3 1, 3) := by decide +kernel
theorem dX8_isGoal_44 : decode cX8_isGoal 44 = .ok (.iload 6, 2) := by decide +kernel
theorem dX8_isGoal_46 : decode cX8_isGoal 46 = .ok (.ifCond .eq 18, 3) := by decide +kernel
theorem dX8_isGoal_49 : decode cX8_isGoal 49 = .ok (.aload_n 0, 1) := by decide +kernel
theorem dX8_isGoal_50 : decode cX8_isGoal 50 = .ok (.getfield 17, 3) := by decide +kernel
theorem dX8_isGoal_53 : decode cX8_isGoal 53 = .ok (.iload 8, 2) := by decide +kernel
theorem dX8_isGoal_55 : decode cX8_isGoal 55 = .ok (.iaload, 1) := by decide +kernel
theorem dX8_isGoal_56 : decode cX8_isGoal 56 = .ok (.iconst 1, 1) := by decide +kernel
theorem dX8_isGoal_57 : decode cX8_isGoal 57 = .ok (.if_icmp .ne 7, 3) := by decide +kernel
theorem dX8_isGoal_60 : decode cX8_isGoal 60 = .ok (.iconst 1, 1) := by decide +kernel
theorem dX8_isGoal_61 : decode cX8_isGoal 61 = .ok (.goto 4, 3) := by decide +kernel
theorem dX8_isGoal_64 : decode cX8_isGoal 64 = .ok (.iconst 0, 1) := by decide +kernel
theorem dX8_isGoal_65 : decode cX8_isGoal 65 = .ok (.istore 6, 2) := by decide +kernel
theorem dX8_isGoal_67 : decode cX8_isGoal 67 = .ok (.iconst 1, 1) := by decide +kernel
theorem dX8_isGoal_68 : decode cX8_isGoal 68 = .ok (.istore 9, 2) := by decide +kernel
theorem dX8_isGoal_70 : decode cX8_isGoal 70 = .ok (.aload_n 0, 1) := by decide +kernel
theorem dX8_isGoal_71 : decode cX8_isGoal 71 = .ok (.getfield 17, 3) := by decide +kernel
theorem dX8_isGoal_74 : decode cX8_isGoal 74 = .ok (.iload 8, 2) := by decide +kernel
theorem dX8_isGoal_76 : decode cX8_isGoal 76 = .ok (.iload 9, 2) := by decide +kernel
theorem dX8_isGoal_78 : decode cX8_isGoal 78 = .ok (.iadd, 1) := by decide +kernel
theorem dX8_isGoal_79 : decode cX8_isGoal 79 = .ok (.aload_n 0, 1) := by decide +kernel
theorem dX8_isGoal_80 : decode cX8_isGoal 80 = .ok (.getfield 87, 3) := by decide +kernel
theorem dX8_isGoal_83 : decode cX8_isGoal 83 = .ok (.irem, 1) := by decide +kernel
theorem dX8_isGoal_84 : decode cX8_isGoal 84 = .ok (.iaload, 1) := by decide +kernel
theorem dX8_isGoal_85 : decode cX8_isGoal 85 = .ok (.ifCond .ne 9, 3) := by decide +kernel
theorem dX8_isGoal_88 : decode cX8_isGoal 88 = .ok (.iinc 9 1, 3) := by decide +kernel
theorem dX8_isGoal_91 : decode cX8_isGoal 91 = .ok (.goto (-21), 3) := by decide +kernel
theorem dX8_isGoal_94 : decode cX8_isGoal 94 = .ok (.iload 9, 2) := by decide +kernel
theorem dX8_isGoal_96 : decode cX8_isGoal 96 = .ok (.iload 4, 2) := by decide +kernel
theorem dX8_isGoal_98 : decode cX8_isGoal 98 = .ok (.if_icmp .ge 8, 3) := by decide +kernel
theorem dX8_isGoal_101 : decode cX8_isGoal 101 = .ok (.iload 9, 2) := by decide +kernel
theorem dX8_isGoal_103 : decode cX8_isGoal 103 = .ok (.goto 5, 3) := by decide +kernel
theorem dX8_isGoal_106 : decode cX8_isGoal 106 = .ok (.iload 4, 2) := by decide +kernel
theorem dX8_isGoal_108 : decode cX8_isGoal 108 = .ok (.istore 4, 2) := by decide +kernel
theorem dX8_isGoal_110 : decode cX8_isGoal 110 = .ok (.iload 9, 2) := by decide +kernel
theorem dX8_isGoal_112 : decode cX8_isGoal 112 = .ok (.iload 5, 2) := by decide +kernel
theorem dX8_isGoal_114 : decode cX8_isGoal 114 = .ok (.if_icmp .le 8, 3) := by decide +kernel
theorem dX8_isGoal_117 : decode cX8_isGoal 117 = .ok (.iload 9, 2) := by decide +kernel
theorem dX8_isGoal_119 : decode cX8_isGoal 119 = .ok (.goto 5, 3) := by decide +kernel
theorem dX8_isGoal_122 : decode cX8_isGoal 122 = .ok (.iload 5, 2) := by decide +kernel
theorem dX8_isGoal_124 : decode cX8_isGoal 124 = .ok (.istore 5, 2) := by decide +kernel
theorem dX8_isGoal_126 : decode cX8_isGoal 126 = .ok (.iload 7, 2) := by decide +kernel
theorem dX8_isGoal_128 : decode cX8_isGoal 128 = .ok (.iload 9, 2) := by decide +kernel
theorem dX8_isGoal_130 : decode cX8_isGoal 130 = .ok (.iconst 1, 1) := by decide +kernel
theorem dX8_isGoal_131 : decode cX8_isGoal 131 = .ok (.if_icmp .le 7, 3) := by decide +kernel
theorem dX8_isGoal_134 : decode cX8_isGoal 134 = .ok (.iconst 1, 1) := by decide +kernel
theorem dX8_isGoal_135 : decode cX8_isGoal 135 = .ok (.goto 4, 3) := by decide +kernel
theorem dX8_isGoal_138 : decode cX8_isGoal 138 = .ok (.iconst 0, 1) := by decide +kernel
theorem dX8_isGoal_139 : decode cX8_isGoal 139 = .ok (.iadd, 1) := by decide +kernel
theorem dX8_isGoal_140 : decode cX8_isGoal 140 = .ok (.istore 7, 2) := by decide +kernel
theorem dX8_isGoal_142 : decode cX8_isGoal 142 = .ok (.iinc 8 1, 3) := by decide +kernel
theorem dX8_isGoal_145 : decode cX8_isGoal 145 = .ok (.goto (-123), 3) := by decide +kernel
theorem dX8_isGoal_148 : decode cX8_isGoal 148 = .ok (.iload_n 1, 1) := by decide +kernel
theorem dX8_isGoal_149 : decode cX8_isGoal 149 = .ok (.ifCond .ne 14, 3) := by decide +kernel
theorem dX8_isGoal_152 : decode cX8_isGoal 152 = .ok (.iload_n 3, 1) := by decide +kernel
theorem dX8_isGoal_153 : decode cX8_isGoal 153 = .ok (.iconst 1, 1) := by decide +kernel
theorem dX8_isGoal_154 : decode cX8_isGoal 154 = .ok (.if_icmp .ne 7, 3) := by decide +kernel
theorem dX8_isGoal_157 : decode cX8_isGoal 157 = .ok (.iconst 1, 1) := by decide +kernel
theorem dX8_isGoal_158 : decode cX8_isGoal 158 = .ok (.goto 4, 3) := by decide +kernel
theorem dX8_isGoal_161 : decode cX8_isGoal 161 = .ok (.iconst 0, 1) := by decide +kernel
theorem dX8_isGoal_162 : decode cX8_isGoal 162 = .ok (.ireturn, 1) := by decide +kernel
theorem dX8_isGoal_163 : decode cX8_isGoal 163 = .ok (.iload 6, 2) := by decide +kernel
theorem dX8_isGoal_165 : decode cX8_isGoal 165 = .ok (.ifCond .eq 45, 3) := by decide +kernel
theorem dX8_isGoal_168 : decode cX8_isGoal 168 = .ok (.iload_n 1, 1) := by decide +kernel
theorem dX8_isGoal_169 : decode cX8_isGoal 169 = .ok (.iconst 1, 1) := by decide +kernel
theorem dX8_isGoal_170 : decode cX8_isGoal 170 = .ok (.if_icmp .ne 30, 3) := by decide +kernel
theorem dX8_isGoal_173 : decode cX8_isGoal 173 = .ok (.iload 4, 2) := by decide +kernel
theorem dX8_isGoal_175 : decode cX8_isGoal 175 = .ok (.aload_n 0, 1) := by decide +kernel
theorem dX8_isGoal_176 : decode cX8_isGoal 176 = .ok (.getfield 87, 3) := by decide +kernel
theorem dX8_isGoal_179 : decode cX8_isGoal 179 = .ok (.iload_n 2, 1) := by decide +kernel
theorem dX8_isGoal_180 : decode cX8_isGoal 180 = .ok (.idiv, 1) := by decide +kernel
theorem dX8_isGoal_181 : decode cX8_isGoal 181 = .ok (.if_icmp .lt 29, 3) := by decide +kernel
theorem dX8_isGoal_184 : decode cX8_isGoal 184 = .ok (.iload 5, 2) := by decide +kernel
theorem dX8_isGoal_186 : decode cX8_isGoal 186 = .ok (.aload_n 0, 1) := by decide +kernel
theorem dX8_isGoal_187 : decode cX8_isGoal 187 = .ok (.getfield 87, 3) := by decide +kernel
theorem dX8_isGoal_190 : decode cX8_isGoal 190 = .ok (.iload_n 2, 1) := by decide +kernel
theorem dX8_isGoal_191 : decode cX8_isGoal 191 = .ok (.idiv, 1) := by decide +kernel
theorem dX8_isGoal_192 : decode cX8_isGoal 192 = .ok (.iconst 1, 1) := by decide +kernel
theorem dX8_isGoal_193 : decode cX8_isGoal 193 = .ok (.iadd, 1) := by decide +kernel
theorem dX8_isGoal_194 : decode cX8_isGoal 194 = .ok (.if_icmp .gt 16, 3) := by decide +kernel
theorem dX8_isGoal_197 : decode cX8_isGoal 197 = .ok (.goto 9, 3) := by decide +kernel
theorem dX8_isGoal_200 : decode cX8_isGoal 200 = .ok (.iload 7, 2) := by decide +kernel
theorem dX8_isGoal_202 : decode cX8_isGoal 202 = .ok (.iconst 2, 1) := by decide +kernel
theorem dX8_isGoal_203 : decode cX8_isGoal 203 = .ok (.if_icmp .ge 7, 3) := by decide +kernel
theorem dX8_isGoal_206 : decode cX8_isGoal 206 = .ok (.iconst 1, 1) := by decide +kernel
theorem dX8_isGoal_207 : decode cX8_isGoal 207 = .ok (.goto 4, 3) := by decide +kernel
theorem dX8_isGoal_210 : decode cX8_isGoal 210 = .ok (.iconst 0, 1) := by decide +kernel
theorem dX8_isGoal_211 : decode cX8_isGoal 211 = .ok (.ireturn, 1) := by decide +kernel
theorem dX8_goal_0 : decode cX8_goal 0 = .ok (.aload_n 0, 1) := by decide +kernel
theorem dX8_goal_1 : decode cX8_goal 1 = .ok (.iconst 0, 1) := by decide +kernel
theorem dX8_goal_2 : decode cX8_goal 2 = .ok (.putfield 1, 3) := by decide +kernel
theorem dX8_goal_5 : decode cX8_goal 5 = .ok (.iload_n 1, 1) := by decide +kernel
theorem dX8_goal_6 : decode cX8_goal 6 = .ok (.i2l, 1) := by decide +kernel
theorem dX8_goal_7 : decode cX8_goal 7 = .ok (.lconst 0, 1) := by decide +kernel
theorem dX8_goal_8 : decode cX8_goal 8 = .ok (.ldc2_w 131, 3) := by decide +kernel
theorem dX8_goal_11 : decode cX8_goal 11 = .ok (.invokestatic 90, 3) := by decide +kernel
theorem dX8_goal_14 : decode cX8_goal 14 = .ok (.ifCond .ne 6, 3) := by decide +kernel
theorem dX8_goal_17 : decode cX8_goal 17 = .ok (.ldc 98, 2) := by decide +kernel
theorem dX8_goal_19 : decode cX8_goal 19 = .ok (.ireturn, 1) := by decide +kernel
theorem dX8_goal_20 : decode cX8_goal 20 = .ok (.aload_n 0, 1) := by decide +kernel
theorem dX8_goal_21 : decode cX8_goal 21 = .ok (.invokevirtual 111, 3) := by decide +kernel
theorem dX8_goal_24 : decode cX8_goal 24 = .ok (.aload_n 0, 1) := by decide +kernel
theorem dX8_goal_25 : decode cX8_goal 25 = .ok (.getfield 99, 3) := by decide +kernel
theorem dX8_goal_28 : decode cX8_goal 28 = .ok (.ifCond .le 19, 3) := by decide +kernel
theorem dX8_goal_31 : decode cX8_goal 31 = .ok (.aload_n 0, 1) := by decide +kernel
theorem dX8_goal_32 : decode cX8_goal 32 = .ok (.iload_n 1, 1) := by decide +kernel
theorem dX8_goal_33 : decode cX8_goal 33 = .ok (.aload_n 0, 1) := by decide +kernel
theorem dX8_goal_34 : decode cX8_goal 34 = .ok (.getfield 99, 3) := by decide +kernel
theorem dX8_goal_37 : decode cX8_goal 37 = .ok (.invokevirtual 133, 3) := by decide +kernel
theorem dX8_goal_40 : decode cX8_goal 40 = .ok (.ifCond .eq 7, 3) := by decide +kernel
theorem dX8_goal_43 : decode cX8_goal 43 = .ok (.iconst 1, 1) := by decide +kernel
theorem dX8_goal_44 : decode cX8_goal 44 = .ok (.goto 4, 3) := by decide +kernel
theorem dX8_goal_47 : decode cX8_goal 47 = .ok (.iconst 0, 1) := by decide +kernel
theorem dX8_goal_48 : decode cX8_goal 48 = .ok (.ireturn, 1) := by decide +kernel
theorem dX8_step_0 : decode cX8_step 0 = .ok (.aload_n 0, 1) := by decide +kernel
theorem dX8_step_1 : decode cX8_step 1 = .ok (.iconst 0, 1) := by decide +kernel
theorem dX8_step_2 : decode cX8_step 2 = .ok (.putfield 1, 3) := by decide +kernel
theorem dX8_step_5 : decode cX8_step 5 = .ok (.aload_n 0, 1) := by decide +kernel
theorem dX8_step_6 : decode cX8_step 6 = .ok (.getfield 99, 3) := by decide +kernel
theorem dX8_step_9 : decode cX8_step 9 = .ok (.ifCond .ne 6, 3) := by decide +kernel
theorem dX8_step_12 : decode cX8_step 12 = .ok (.ldc 137, 2) := by decide +kernel
theorem dX8_step_14 : decode cX8_step 14 = .ok (.ireturn, 1) := by decide +kernel
theorem dX8_step_15 : decode cX8_step 15 = .ok (.aload_n 0, 1) := by decide +kernel
theorem dX8_step_16 : decode cX8_step 16 = .ok (.invokevirtual 111, 3) := by decide +kernel
theorem dX8_step_19 : decode cX8_step 19 = .ok (.iconst 0, 1) := by decide +kernel
theorem dX8_step_20 : decode cX8_step 20 = .ok (.istore_n 1, 1) := by decide +kernel
theorem dX8_step_21 : decode cX8_step 21 = .ok (.iload_n 1, 1) := by decide +kernel
theorem dX8_step_22 : decode cX8_step 22 = .ok (.aload_n 0, 1) := by decide +kernel
theorem dX8_step_23 : decode cX8_step 23 = .ok (.getfield 87, 3) := by decide +kernel
theorem dX8_step_26 : decode cX8_step 26 = .ok (.if_icmp .ge 33, 3) := by decide +kernel
theorem dX8_step_29 : decode cX8_step 29 = .ok (.aload_n 0, 1) := by decide +kernel
theorem dX8_step_30 : decode cX8_step 30 = .ok (.getfield 41, 3) := by decide +kernel
theorem dX8_step_33 : decode cX8_step 33 = .ok (.iload_n 1, 1) := by decide +kernel
theorem dX8_step_34 : decode cX8_step 34 = .ok (.aload_n 0, 1) := by decide +kernel
theorem dX8_step_35 : decode cX8_step 35 = .ok (.getfield 17, 3) := by decide +kernel
theorem dX8_step_38 : decode cX8_step 38 = .ok (.iload_n 1, 1) := by decide +kernel
theorem dX8_step_39 : decode cX8_step 39 = .ok (.iaload, 1) := by decide +kernel
theorem dX8_step_40 : decode cX8_step 40 = .ok (.ifCond .ne 7, 3) := by decide +kernel
theorem dX8_step_43 : decode cX8_step 43 = .ok (.iconst 0, 1) := by decide +kernel
theorem dX8_step_44 : decode cX8_step 44 = .ok (.goto 8, 3) := by decide +kernel
theorem dX8_step_47 : decode cX8_step 47 = .ok (.aload_n 0, 1) := by decide +kernel
theorem dX8_step_48 : decode cX8_step 48 = .ok (.iload_n 1, 1) := by decide +kernel
theorem dX8_step_49 : decode cX8_step 49 = .ok (.invokevirtual 121, 3) := by decide +kernel
theorem dX8_step_52 : decode cX8_step 52 = .ok (.iastore, 1) := by decide +kernel
theorem dX8_step_53 : decode cX8_step 53 = .ok (.iinc 1 1, 3) := by decide +kernel
theorem dX8_step_56 : decode cX8_step 56 = .ok (.goto (-35), 3) := by decide +kernel
theorem dX8_step_59 : decode cX8_step 59 = .ok (.iconst 0, 1) := by decide +kernel
theorem dX8_step_60 : decode cX8_step 60 = .ok (.istore_n 1, 1) := by decide +kernel
theorem dX8_step_61 : decode cX8_step 61 = .ok (.iconst 0, 1) := by decide +kernel
theorem dX8_step_62 : decode cX8_step 62 = .ok (.istore_n 2, 1) := by decide +kernel
theorem dX8_step_63 : decode cX8_step 63 = .ok (.iload_n 2, 1) := by decide +kernel
theorem dX8_step_64 : decode cX8_step 64 = .ok (.aload_n 0, 1) := by decide +kernel
theorem dX8_step_65 : decode cX8_step 65 = .ok (.getfield 87, 3) := by decide +kernel
theorem dX8_step_68 : decode cX8_step 68 = .ok (.if_icmp .ge 84, 3) := by decide +kernel
theorem dX8_step_71 : decode cX8_step 71 = .ok (.aload_n 0, 1) := by decide +kernel
theorem dX8_step_72 : decode cX8_step 72 = .ok (.getfield 41, 3) := by decide +kernel
theorem dX8_step_75 : decode cX8_step 75 = .ok (.iload_n 2, 1) := by decide +kernel
theorem dX8_step_76 : decode cX8_step 76 = .ok (.iaload, 1) := by decide +kernel
theorem dX8_step_77 : decode cX8_step 77 = .ok (.ifCond .eq 69, 3) := by decide +kernel
theorem dX8_step_80 : decode cX8_step 80 = .ok (.iload_n 1, 1) := by decide +kernel
theorem dX8_step_81 : decode cX8_step 81 = .ok (.aload_n 0, 1) := by decide +kernel
theorem dX8_step_82 : decode cX8_step 82 = .ok (.getfield 17, 3) := by decide +kernel
theorem dX8_step_85 : decode cX8_step 85 = .ok (.iload_n 2, 1) := by decide +kernel
theorem dX8_step_86 : decode cX8_step 86 = .ok (.iaload, 1) := by decide +kernel
theorem dX8_step_87 : decode cX8_step 87 = .ok (.iadd, 1) := by decide +kernel
theorem dX8_step_88 : decode cX8_step 88 = .ok (.istore_n 1, 1) := by decide +kernel
theorem dX8_step_89 : decode cX8_step 89 = .ok (.aload_n 0, 1) := by decide +kernel
theorem dX8_step_90 : decode cX8_step 90 = .ok (.getfield 13, 3) := by decide +kernel
theorem dX8_step_93 : decode cX8_step 93 = .ok (.iload_n 2, 1) := by decide +kernel
theorem dX8_step_94 : decode cX8_step 94 = .ok (.dup2, 1) := by decide +kernel
theorem dX8_step_95 : decode cX8_step 95 = .ok (.iaload, 1) := by decide +kernel
theorem dX8_step_96 : decode cX8_step 96 = .ok (.aload_n 0, 1) := by decide +kernel
theorem dX8_step_97 : decode cX8_step 97 = .ok (.getfield 17, 3) := by decide +kernel
theorem dX8_step_100 : decode cX8_step 100 = .ok (.iload_n 2, 1) := by decide +kernel
theorem dX8_step_101 : decode cX8_step 101 = .ok (.iaload, 1) := by decide +kernel
theorem dX8_step_102 : decode cX8_step 102 = .ok (.isub, 1) := by decide +kernel
theorem dX8_step_103 : decode cX8_step 103 = .ok (.iastore, 1) := by decide +kernel
theorem dX8_step_104 : decode cX8_step 104 = .ok (.iload_n 2, 1) := by decide +kernel
theorem dX8_step_105 : decode cX8_step 105 = .ok (.aload_n 0, 1) := by decide +kernel
theorem dX8_step_106 : decode cX8_step 106 = .ok (.getfield 41, 3) := by decide +kernel
theorem dX8_step_109 : decode cX8_step 109 = .ok (.iload_n 2, 1) := by decide +kernel
theorem dX8_step_110 : decode cX8_step 110 = .ok (.iaload, 1) := by decide +kernel
theorem dX8_step_111 : decode cX8_step 111 = .ok (.ifCond .ge 12, 3) := by decide +kernel
theorem dX8_step_114 : decode cX8_step 114 = .ok (.aload_n 0, 1) := by decide +kernel
theorem dX8_step_115 : decode cX8_step 115 = .ok (.getfield 87, 3) := by decide +kernel
theorem dX8_step_118 : decode cX8_step 118 = .ok (.iconst 1, 1) := by decide +kernel
theorem dX8_step_119 : decode cX8_step 119 = .ok (.isub, 1) := by decide +kernel
theorem dX8_step_120 : decode cX8_step 120 = .ok (.goto 4, 3) := by decide +kernel
theorem dX8_step_123 : decode cX8_step 123 = .ok (.iconst 1, 1) := by decide +kernel
theorem dX8_step_124 : decode cX8_step 124 = .ok (.iadd, 1) := by decide +kernel
theorem dX8_step_125 : decode cX8_step 125 = .ok (.aload_n 0, 1) := by decide +kernel
theorem dX8_step_126 : decode cX8_step 126 = .ok (.getfield 87, 3) := by decide +kernel
theorem dX8_step_129 : decode cX8_step 129 = .ok (.irem, 1) := by decide +kernel
theorem dX8_step_130 : decode cX8_step 130 = .ok (.istore_n 3, 1) := by decide +kernel
theorem dX8_step_131 : decode cX8_step 131 = .ok (.aload_n 0, 1) := by decide +kernel
theorem dX8_step_132 : decode cX8_step 132 = .ok (.getfield 13, 3) := by decide +kernel
theorem dX8_step_135 : decode cX8_step 135 = .ok (.iload_n 3, 1) := by decide +kernel
theorem dX8_step_136 : decode cX8_step 136 = .ok (.dup2, 1) := by decide +kernel
theorem dX8_step_137 : decode cX8_step 137 = .ok (.iaload, 1) := by decide +kernel
theorem dX8_step_138 : decode cX8_step 138 = .ok (.aload_n 0, 1) := by decide +kernel
theorem dX8_step_139 : decode cX8_step 139 = .ok (.getfield 17, 3) := by decide +kernel
theorem dX8_step_142 : decode cX8_step 142 = .ok (.iload_n 2, 1) := by decide +kernel
theorem dX8_step_143 : decode cX8_step 143 = .ok (.iaload, 1) := by decide +kernel
theorem dX8_step_144 : decode cX8_step 144 = .ok (.iadd, 1) := by decide +kernel
theorem dX8_step_145 : decode cX8_step 145 = .ok (.iastore, 1) := by decide +kernel
theorem dX8_step_146 : decode cX8_step 146 = .ok (.iinc 2 1, 3) := by decide +kernel
theorem dX8_step_149 : decode cX8_step 149 = .ok (.goto (-86), 3) := by decide +kernel
theorem dX8_step_152 : decode cX8_step 152 = .ok (.iload_n 1, 1) := by decide +kernel
theorem dX8_step_153 : decode cX8_step 153 = .ok (.ireturn, 1) := by decide +kernel
theorem dX8_go_0 : decode cX8_go 0 = .ok (.aload_n 0, 1) := by decide +kernel
theorem dX8_go_1 : decode cX8_go 1 = .ok (.iconst 0, 1) := by decide +kernel
theorem dX8_go_2 : decode cX8_go 2 = .ok (.putfield 1, 3) := by decide +kernel
theorem dX8_go_5 : decode cX8_go 5 = .ok (.aload_n 0, 1) := by decide +kernel
theorem dX8_go_6 : decode cX8_go 6 = .ok (.iload_n 1, 1) := by decide +kernel
theorem dX8_go_7 : decode cX8_go 7 = .ok (.invokevirtual 94, 3) := by decide +kernel
theorem dX8_go_10 : decode cX8_go 10 = .ok (.ifCond .ne 6, 3) := by decide +kernel
theorem dX8_go_13 : decode cX8_go 13 = .ok (.ldc 98, 2) := by decide +kernel
theorem dX8_go_15 : decode cX8_go 15 = .ok (.ireturn, 1) := by decide +kernel
theorem dX8_go_16 : decode cX8_go 16 = .ok (.aload_n 0, 1) := by decide +kernel
theorem dX8_go_17 : decode cX8_go 17 = .ok (.invokevirtual 111, 3) := by decide +kernel
theorem dX8_go_20 : decode cX8_go 20 = .ok (.aload_n 0, 1) := by decide +kernel
theorem dX8_go_21 : decode cX8_go 21 = .ok (.getfield 13, 3) := by decide +kernel
theorem dX8_go_24 : decode cX8_go 24 = .ok (.iload_n 1, 1) := by decide +kernel
theorem dX8_go_25 : decode cX8_go 25 = .ok (.iaload, 1) := by decide +kernel
theorem dX8_go_26 : decode cX8_go 26 = .ok (.ifCond .ne 7, 3) := by decide +kernel
theorem dX8_go_29 : decode cX8_go 29 = .ok (.iconst 0, 1) := by decide +kernel
theorem dX8_go_30 : decode cX8_go 30 = .ok (.goto 8, 3) := by decide +kernel
theorem dX8_go_33 : decode cX8_go 33 = .ok (.aload_n 0, 1) := by decide +kernel
theorem dX8_go_34 : decode cX8_go 34 = .ok (.iload_n 1, 1) := by decide +kernel
theorem dX8_go_35 : decode cX8_go 35 = .ok (.invokevirtual 121, 3) := by decide +kernel
theorem dX8_go_38 : decode cX8_go 38 = .ok (.istore_n 3, 1) := by decide +kernel
theorem dX8_go_39 : decode cX8_go 39 = .ok (.iload_n 3, 1) := by decide +kernel
theorem dX8_go_40 : decode cX8_go 40 = .ok (.ifCond .ne 6, 3) := by decide +kernel
theorem dX8_go_43 : decode cX8_go 43 = .ok (.ldc 137, 2) := by decide +kernel
theorem dX8_go_45 : decode cX8_go 45 = .ok (.ireturn, 1) := by decide +kernel
theorem dX8_go_46 : decode cX8_go 46 = .ok (.iload_n 3, 1) := by decide +kernel
theorem dX8_go_47 : decode cX8_go 47 = .ok (.iconst 2, 1) := by decide +kernel
theorem dX8_go_48 : decode cX8_go 48 = .ok (.if_icmp .ne 16, 3) := by decide +kernel
theorem dX8_go_51 : decode cX8_go 51 = .ok (.iload_n 2, 1) := by decide +kernel
theorem dX8_go_52 : decode cX8_go 52 = .ok (.iconst 1, 1) := by decide +kernel
theorem dX8_go_53 : decode cX8_go 53 = .ok (.if_icmp .ne 7, 3) := by decide +kernel
theorem dX8_go_56 : decode cX8_go 56 = .ok (.iconst 1, 1) := by decide +kernel
theorem dX8_go_57 : decode cX8_go 57 = .ok (.goto 8, 3) := by decide +kernel
theorem dX8_go_60 : decode cX8_go 60 = .ok (.iconst (-1), 1) := by decide +kernel
theorem dX8_go_61 : decode cX8_go 61 = .ok (.goto 4, 3) := by decide +kernel
theorem dX8_go_64 : decode cX8_go 64 = .ok (.iload_n 3, 1) := by decide +kernel
theorem dX8_go_65 : decode cX8_go 65 = .ok (.istore 4, 2) := by decide +kernel
theorem dX8_go_67 : decode cX8_go 67 = .ok (.aload_n 0, 1) := by decide +kernel
theorem dX8_go_68 : decode cX8_go 68 = .ok (.getfield 13, 3) := by decide +kernel
theorem dX8_go_71 : decode cX8_go 71 = .ok (.iload_n 1, 1) := by decide +kernel
theorem dX8_go_72 : decode cX8_go 72 = .ok (.dup2, 1) := by decide +kernel
theorem dX8_go_73 : decode cX8_go 73 = .ok (.iaload, 1) := by decide +kernel
theorem dX8_go_74 : decode cX8_go 74 = .ok (.iconst 1, 1) := by decide +kernel
theorem dX8_go_75 : decode cX8_go 75 = .ok (.isub, 1) := by decide +kernel
theorem dX8_go_76 : decode cX8_go 76 = .ok (.iastore, 1) := by decide +kernel
theorem dX8_go_77 : decode cX8_go 77 = .ok (.aload_n 0, 1) := by decide +kernel
theorem dX8_go_78 : decode cX8_go 78 = .ok (.getfield 13, 3) := by decide +kernel
theorem dX8_go_81 : decode cX8_go 81 = .ok (.iload_n 1, 1) := by decide +kernel
theorem dX8_go_82 : decode cX8_go 82 = .ok (.iload 4, 2) := by decide +kernel
theorem dX8_go_84 : decode cX8_go 84 = .ok (.iadd, 1) := by decide +kernel
theorem dX8_go_85 : decode cX8_go 85 = .ok (.aload_n 0, 1) := by decide +kernel
theorem dX8_go_86 : decode cX8_go 86 = .ok (.getfield 87, 3) := by decide +kernel
theorem dX8_go_89 : decode cX8_go 89 = .ok (.iadd, 1) := by decide +kernel
theorem dX8_go_90 : decode cX8_go 90 = .ok (.aload_n 0, 1) := by decide +kernel
theorem dX8_go_91 : decode cX8_go 91 = .ok (.getfield 87, 3) := by decide +kernel
theorem dX8_go_94 : decode cX8_go 94 = .ok (.irem, 1) := by decide +kernel
theorem dX8_go_95 : decode cX8_go 95 = .ok (.dup2, 1) := by decide +kernel
theorem dX8_go_96 : decode cX8_go 96 = .ok (.iaload, 1) := by decide +kernel
theorem dX8_go_97 : decode cX8_go 97 = .ok (.iconst 1, 1) := by decide +kernel
theorem dX8_go_98 : decode cX8_go 98 = .ok (.iadd, 1) := by decide +kernel
theorem dX8_go_99 : decode cX8_go 99 = .ok (.iastore, 1) := by decide +kernel
theorem dX8_go_100 : decode cX8_go 100 = .ok (.iconst 1, 1) := by decide +kernel
theorem dX8_go_101 : decode cX8_go 101 = .ok (.ireturn, 1) := by decide +kernel
theorem dX8_feed_0 : decode cX8_feed 0 = .ok (.aload_n 0, 1) := by decide +kernel
theorem dX8_feed_1 : decode cX8_feed 1 = .ok (.iconst 0, 1) := by decide +kernel
theorem dX8_feed_2 : decode cX8_feed 2 = .ok (.putfield 1, 3) := by decide +kernel
theorem dX8_feed_5 : decode cX8_feed 5 = .ok (.iload_n 3, 1) := by decide +kernel
theorem dX8_feed_6 : decode cX8_feed 6 = .ok (.i2l, 1) := by decide +kernel
theorem dX8_feed_7 : decode cX8_feed 7 = .ok (.lconst 1, 1) := by decide +kernel
theorem dX8_feed_8 : decode cX8_feed 8 = .ok (.ldc2_w 138, 3) := by decide +kernel
theorem dX8_feed_11 : decode cX8_feed 11 = .ok (.invokestatic 90, 3) := by decide +kernel
theorem dX8_feed_14 : decode cX8_feed 14 = .ok (.ifCond .ne 6, 3) := by decide +kernel
theorem dX8_feed_17 : decode cX8_feed 17 = .ok (.ldc 98, 2) := by decide +kernel
theorem dX8_feed_19 : decode cX8_feed 19 = .ok (.ireturn, 1) := by decide +kernel
theorem dX8_feed_20 : decode cX8_feed 20 = .ok (.aload_n 0, 1) := by decide +kernel
theorem dX8_feed_21 : decode cX8_feed 21 = .ok (.getfield 140, 3) := by decide +kernel
theorem dX8_feed_24 : decode cX8_feed 24 = .ok (.iload_n 3, 1) := by decide +kernel
theorem dX8_feed_25 : decode cX8_feed 25 = .ok (.iadd, 1) := by decide +kernel
theorem dX8_feed_26 : decode cX8_feed 26 = .ok (.sipush 400, 3) := by decide +kernel
theorem dX8_feed_29 : decode cX8_feed 29 = .ok (.if_icmp .le 6, 3) := by decide +kernel
theorem dX8_feed_32 : decode cX8_feed 32 = .ok (.ldc 102, 2) := by decide +kernel
theorem dX8_feed_34 : decode cX8_feed 34 = .ok (.ireturn, 1) := by decide +kernel
theorem dX8_feed_35 : decode cX8_feed 35 = .ok (.iload_n 3, 1) := by decide +kernel
theorem dX8_feed_36 : decode cX8_feed 36 = .ok (.iconst 1, 1) := by decide +kernel
theorem dX8_feed_37 : decode cX8_feed 37 = .ok (.isub, 1) := by decide +kernel
theorem dX8_feed_38 : decode cX8_feed 38 = .ok (.istore 4, 2) := by decide +kernel
theorem dX8_feed_40 : decode cX8_feed 40 = .ok (.iload 4, 2) := by decide +kernel
theorem dX8_feed_42 : decode cX8_feed 42 = .ok (.ifCond .lt 40, 3) := by decide +kernel
theorem dX8_feed_45 : decode cX8_feed 45 = .ok (.aload_n 0, 1) := by decide +kernel
theorem dX8_feed_46 : decode cX8_feed 46 = .ok (.getfield 44, 3) := by decide +kernel
theorem dX8_feed_49 : decode cX8_feed 49 = .ok (.aload_n 0, 1) := by decide +kernel
theorem dX8_feed_50 : decode cX8_feed 50 = .ok (.getfield 140, 3) := by decide +kernel
theorem dX8_feed_53 : decode cX8_feed 53 = .ok (.lload_n 1, 1) := by decide +kernel
theorem dX8_feed_54 : decode cX8_feed 54 = .ok (.bipush 8, 2) := by decide +kernel
theorem dX8_feed_56 : decode cX8_feed 56 = .ok (.iload 4, 2) := by decide +kernel
theorem dX8_feed_58 : decode cX8_feed 58 = .ok (.imul, 1) := by decide +kernel
theorem dX8_feed_59 : decode cX8_feed 59 = .ok (.lshr, 1) := by decide +kernel
theorem dX8_feed_60 : decode cX8_feed 60 = .ok (.ldc2_w 143, 3) := by decide +kernel
theorem dX8_feed_63 : decode cX8_feed 63 = .ok (.land, 1) := by decide +kernel
theorem dX8_feed_64 : decode cX8_feed 64 = .ok (.l2i, 1) := by decide +kernel
theorem dX8_feed_65 : decode cX8_feed 65 = .ok (.iastore, 1) := by decide +kernel
theorem dX8_feed_66 : decode cX8_feed 66 = .ok (.aload_n 0, 1) := by decide +kernel
theorem dX8_feed_67 : decode cX8_feed 67 = .ok (.dup, 1) := by decide +kernel
theorem dX8_feed_68 : decode cX8_feed 68 = .ok (.getfield 140, 3) := by decide +kernel
theorem dX8_feed_71 : decode cX8_feed 71 = .ok (.iconst 1, 1) := by decide +kernel
theorem dX8_feed_72 : decode cX8_feed 72 = .ok (.iadd, 1) := by decide +kernel
theorem dX8_feed_73 : decode cX8_feed 73 = .ok (.putfield 140, 3) := by decide +kernel
theorem dX8_feed_76 : decode cX8_feed 76 = .ok (.iinc 4 (-1), 3) := by decide +kernel
theorem dX8_feed_79 : decode cX8_feed 79 = .ok (.goto (-39), 3) := by decide +kernel
theorem dX8_feed_82 : decode cX8_feed 82 = .ok (.aload_n 0, 1) := by decide +kernel
theorem dX8_feed_83 : decode cX8_feed 83 = .ok (.getfield 140, 3) := by decide +kernel
theorem dX8_feed_86 : decode cX8_feed 86 = .ok (.ireturn, 1) := by decide +kernel
theorem dX8_byteAt_0 : decode cX8_byteAt 0 = .ok (.iload_n 1, 1) := by decide +kernel
theorem dX8_byteAt_1 : decode cX8_byteAt 1 = .ok (.aload_n 0, 1) := by decide +kernel
theorem dX8_byteAt_2 : decode cX8_byteAt 2 = .ok (.getfield 145, 3) := by decide +kernel
theorem dX8_byteAt_5 : decode cX8_byteAt 5 = .ok (.if_icmp .ge 12, 3) := by decide +kernel
theorem dX8_byteAt_8 : decode cX8_byteAt 8 = .ok (.aload_n 0, 1) := by decide +kernel
theorem dX8_byteAt_9 : decode cX8_byteAt 9 = .ok (.getfield 44, 3) := by decide +kernel
theorem dX8_byteAt_12 : decode cX8_byteAt 12 = .ok (.iload_n 1, 1) := by decide +kernel
theorem dX8_byteAt_13 : decode cX8_byteAt 13 = .ok (.iaload, 1) := by decide +kernel
theorem dX8_byteAt_14 : decode cX8_byteAt 14 = .ok (.goto 5, 3) := by decide +kernel
theorem dX8_byteAt_17 : decode cX8_byteAt 17 = .ok (.ldc 110, 2) := by decide +kernel
theorem dX8_byteAt_19 : decode cX8_byteAt 19 = .ok (.ireturn, 1) := by decide +kernel
theorem dX8_isLetter_0 : decode cX8_isLetter 0 = .ok (.iload_n 0, 1) := by decide +kernel
theorem dX8_isLetter_1 : decode cX8_isLetter 1 = .ok (.bipush 97, 2) := by decide +kernel
theorem dX8_isLetter_3 : decode cX8_isLetter 3 = .ok (.if_icmp .lt 13, 3) := by decide +kernel
theorem dX8_isLetter_6 : decode cX8_isLetter 6 = .ok (.iload_n 0, 1) := by decide +kernel
theorem dX8_isLetter_7 : decode cX8_isLetter 7 = .ok (.bipush 122, 2) := by decide +kernel
theorem dX8_isLetter_9 : decode cX8_isLetter 9 = .ok (.if_icmp .gt 7, 3) := by decide +kernel
theorem dX8_isLetter_12 : decode cX8_isLetter 12 = .ok (.iconst 1, 1) := by decide +kernel
theorem dX8_isLetter_13 : decode cX8_isLetter 13 = .ok (.goto 4, 3) := by decide +kernel
theorem dX8_isLetter_16 : decode cX8_isLetter 16 = .ok (.iconst 0, 1) := by decide +kernel
theorem dX8_isLetter_17 : decode cX8_isLetter 17 = .ok (.ireturn, 1) := by decide +kernel
theorem dX8_isFigure_0 : decode cX8_isFigure 0 = .ok (.iload_n 0, 1) := by decide +kernel
theorem dX8_isFigure_1 : decode cX8_isFigure 1 = .ok (.bipush 48, 2) := by decide +kernel
theorem dX8_isFigure_3 : decode cX8_isFigure 3 = .ok (.if_icmp .lt 13, 3) := by decide +kernel
theorem dX8_isFigure_6 : decode cX8_isFigure 6 = .ok (.iload_n 0, 1) := by decide +kernel
theorem dX8_isFigure_7 : decode cX8_isFigure 7 = .ok (.bipush 57, 2) := by decide +kernel
theorem dX8_isFigure_9 : decode cX8_isFigure 9 = .ok (.if_icmp .gt 7, 3) := by decide +kernel
theorem dX8_isFigure_12 : decode cX8_isFigure 12 = .ok (.iconst 1, 1) := by decide +kernel
theorem dX8_isFigure_13 : decode cX8_isFigure 13 = .ok (.goto 4, 3) := by decide +kernel
theorem dX8_isFigure_16 : decode cX8_isFigure 16 = .ok (.iconst 0, 1) := by decide +kernel
theorem dX8_isFigure_17 : decode cX8_isFigure 17 = .ok (.ireturn, 1) := by decide +kernel
theorem dX8_next_0 : decode cX8_next 0 = .ok (.aload_n 0, 1) := by decide +kernel
theorem dX8_next_1 : decode cX8_next 1 = .ok (.aload_n 0, 1) := by decide +kernel
theorem dX8_next_2 : decode cX8_next 2 = .ok (.getfield 148, 3) := by decide +kernel
theorem dX8_next_5 : decode cX8_next 5 = .ok (.invokevirtual 151, 3) := by decide +kernel
theorem dX8_next_8 : decode cX8_next 8 = .ok (.bipush 32, 2) := by decide +kernel
theorem dX8_next_10 : decode cX8_next 10 = .ok (.if_icmp .eq 16, 3) := by decide +kernel
theorem dX8_next_13 : decode cX8_next 13 = .ok (.aload_n 0, 1) := by decide +kernel
theorem dX8_next_14 : decode cX8_next 14 = .ok (.aload_n 0, 1) := by decide +kernel
theorem dX8_next_15 : decode cX8_next 15 = .ok (.getfield 148, 3) := by decide +kernel
theorem dX8_next_18 : decode cX8_next 18 = .ok (.invokevirtual 151, 3) := by decide +kernel
theorem dX8_next_21 : decode cX8_next 21 = .ok (.bipush 10, 2) := by decide +kernel
theorem dX8_next_23 : decode cX8_next 23 = .ok (.if_icmp .ne 16, 3) := by decide +kernel
theorem dX8_next_26 : decode cX8_next 26 = .ok (.aload_n 0, 1) := by decide +kernel
theorem dX8_next_27 : decode cX8_next 27 = .ok (.dup, 1) := by decide +kernel
theorem dX8_next_28 : decode cX8_next 28 = .ok (.getfield 148, 3) := by decide +kernel
theorem dX8_next_31 : decode cX8_next 31 = .ok (.iconst 1, 1) := by decide +kernel
theorem dX8_next_32 : decode cX8_next 32 = .ok (.iadd, 1) := by decide +kernel
theorem dX8_next_33 : decode cX8_next 33 = .ok (.putfield 148, 3) := by decide +kernel
theorem dX8_next_36 : decode cX8_next 36 = .ok (.goto (-36), 3) := by decide +kernel
theorem dX8_next_39 : decode cX8_next 39 = .ok (.aload_n 0, 1) := by decide +kernel
theorem dX8_next_40 : decode cX8_next 40 = .ok (.aload_n 0, 1) := by decide +kernel
theorem dX8_next_41 : decode cX8_next 41 = .ok (.getfield 148, 3) := by decide +kernel
theorem dX8_next_44 : decode cX8_next 44 = .ok (.putfield 154, 3) := by decide +kernel
theorem dX8_next_47 : decode cX8_next 47 = .ok (.aload_n 0, 1) := by decide +kernel
theorem dX8_next_48 : decode cX8_next 48 = .ok (.aload_n 0, 1) := by decide +kernel
theorem dX8_next_49 : decode cX8_next 49 = .ok (.getfield 148, 3) := by decide +kernel
theorem dX8_next_52 : decode cX8_next 52 = .ok (.invokevirtual 151, 3) := by decide +kernel
theorem dX8_next_55 : decode cX8_next 55 = .ok (.istore_n 1, 1) := by decide +kernel
theorem dX8_next_56 : decode cX8_next 56 = .ok (.iload_n 1, 1) := by decide +kernel
theorem dX8_next_57 : decode cX8_next 57 = .ok (.ldc 110, 2) := by decide +kernel
theorem dX8_next_59 : decode cX8_next 59 = .ok (.if_icmp .ne 11, 3) := by decide +kernel
theorem dX8_next_62 : decode cX8_next 62 = .ok (.aload_n 0, 1) := by decide +kernel
theorem dX8_next_63 : decode cX8_next 63 = .ok (.iconst 1, 1) := by decide +kernel
theorem dX8_next_64 : decode cX8_next 64 = .ok (.putfield 157, 3) := by decide +kernel
theorem dX8_next_67 : decode cX8_next 67 = .ok (.goto 153, 3) := by decide +kernel
theorem dX8_next_70 : decode cX8_next 70 = .ok (.iload_n 1, 1) := by decide +kernel
theorem dX8_next_71 : decode cX8_next 71 = .ok (.invokestatic 160, 3) := by decide +kernel
theorem dX8_next_74 : decode cX8_next 74 = .ok (.ifCond .eq 56, 3) := by decide +kernel
theorem dX8_next_77 : decode cX8_next 77 = .ok (.aload_n 0, 1) := by decide +kernel
theorem dX8_next_78 : decode cX8_next 78 = .ok (.aload_n 0, 1) := by decide +kernel
theorem dX8_next_79 : decode cX8_next 79 = .ok (.getfield 148, 3) := by decide +kernel
theorem dX8_next_82 : decode cX8_next 82 = .ok (.invokevirtual 151, 3) := by decide +kernel
theorem dX8_next_85 : decode cX8_next 85 = .ok (.invokestatic 160, 3) := by decide +kernel
theorem dX8_next_88 : decode cX8_next 88 = .ok (.ifCond .eq 16, 3) := by decide +kernel
theorem dX8_next_91 : decode cX8_next 91 = .ok (.aload_n 0, 1) := by decide +kernel
theorem dX8_next_92 : decode cX8_next 92 = .ok (.dup, 1) := by decide +kernel
theorem dX8_next_93 : decode cX8_next 93 = .ok (.getfield 148, 3) := by decide +kernel
theorem dX8_next_96 : decode cX8_next 96 = .ok (.iconst 1, 1) := by decide +kernel
theorem dX8_next_97 : decode cX8_next 97 = .ok (.iadd, 1) := by decide +kernel
theorem dX8_next_98 : decode cX8_next 98 = .ok (.putfield 148, 3) := by decide +kernel
theorem dX8_next_101 : decode cX8_next 101 = .ok (.goto (-24), 3) := by decide +kernel
theorem dX8_next_104 : decode cX8_next 104 = .ok (.aload_n 0, 1) := by decide +kernel
theorem dX8_next_105 : decode cX8_next 105 = .ok (.aload_n 0, 1) := by decide +kernel
theorem dX8_next_106 : decode cX8_next 106 = .ok (.getfield 148, 3) := by decide +kernel
theorem dX8_next_109 : decode cX8_next 109 = .ok (.aload_n 0, 1) := by decide +kernel
theorem dX8_next_110 : decode cX8_next 110 = .ok (.getfield 154, 3) := by decide +kernel
theorem dX8_next_113 : decode cX8_next 113 = .ok (.isub, 1) := by decide +kernel
theorem dX8_next_114 : decode cX8_next 114 = .ok (.bipush 6, 2) := by decide +kernel
theorem dX8_next_116 : decode cX8_next 116 = .ok (.if_icmp .le 7, 3) := by decide +kernel
theorem dX8_next_119 : decode cX8_next 119 = .ok (.iconst 0, 1) := by decide +kernel
theorem dX8_next_120 : decode cX8_next 120 = .ok (.goto 4, 3) := by decide +kernel
theorem dX8_next_123 : decode cX8_next 123 = .ok (.iconst 2, 1) := by decide +kernel
theorem dX8_next_124 : decode cX8_next 124 = .ok (.putfield 157, 3) := by decide +kernel
theorem dX8_next_127 : decode cX8_next 127 = .ok (.goto 93, 3) := by decide +kernel
theorem dX8_next_130 : decode cX8_next 130 = .ok (.iload_n 1, 1) := by decide +kernel
theorem dX8_next_131 : decode cX8_next 131 = .ok (.invokestatic 163, 3) := by decide +kernel
theorem dX8_next_134 : decode cX8_next 134 = .ok (.ifCond .eq 55, 3) := by decide +kernel
theorem dX8_next_137 : decode cX8_next 137 = .ok (.aload_n 0, 1) := by decide +kernel
theorem dX8_next_138 : decode cX8_next 138 = .ok (.aload_n 0, 1) := by decide +kernel
theorem dX8_next_139 : decode cX8_next 139 = .ok (.getfield 148, 3) := by decide +kernel
theorem dX8_next_142 : decode cX8_next 142 = .ok (.invokevirtual 151, 3) := by decide +kernel
theorem dX8_next_145 : decode cX8_next 145 = .ok (.invokestatic 163, 3) := by decide +kernel
theorem dX8_next_148 : decode cX8_next 148 = .ok (.ifCond .eq 16, 3) := by decide +kernel
theorem dX8_next_151 : decode cX8_next 151 = .ok (.aload_n 0, 1) := by decide +kernel
theorem dX8_next_152 : decode cX8_next 152 = .ok (.dup, 1) := by decide +kernel
theorem dX8_next_153 : decode cX8_next 153 = .ok (.getfield 148, 3) := by decide +kernel
theorem dX8_next_156 : decode cX8_next 156 = .ok (.iconst 1, 1) := by decide +kernel
theorem dX8_next_157 : decode cX8_next 157 = .ok (.iadd, 1) := by decide +kernel
theorem dX8_next_158 : decode cX8_next 158 = .ok (.putfield 148, 3) := by decide +kernel
theorem dX8_next_161 : decode cX8_next 161 = .ok (.goto (-24), 3) := by decide +kernel
theorem dX8_next_164 : decode cX8_next 164 = .ok (.aload_n 0, 1) := by decide +kernel
theorem dX8_next_165 : decode cX8_next 165 = .ok (.aload_n 0, 1) := by decide +kernel
theorem dX8_next_166 : decode cX8_next 166 = .ok (.getfield 148, 3) := by decide +kernel
theorem dX8_next_169 : decode cX8_next 169 = .ok (.aload_n 0, 1) := by decide +kernel
theorem dX8_next_170 : decode cX8_next 170 = .ok (.getfield 154, 3) := by decide +kernel
theorem dX8_next_173 : decode cX8_next 173 = .ok (.isub, 1) := by decide +kernel
theorem dX8_next_174 : decode cX8_next 174 = .ok (.iconst 2, 1) := by decide +kernel
theorem dX8_next_175 : decode cX8_next 175 = .ok (.if_icmp .le 7, 3) := by decide +kernel
theorem dX8_next_178 : decode cX8_next 178 = .ok (.iconst 0, 1) := by decide +kernel
theorem dX8_next_179 : decode cX8_next 179 = .ok (.goto 4, 3) := by decide +kernel
theorem dX8_next_182 : decode cX8_next 182 = .ok (.iconst 3, 1) := by decide +kernel
theorem dX8_next_183 : decode cX8_next 183 = .ok (.putfield 157, 3) := by decide +kernel
theorem dX8_next_186 : decode cX8_next 186 = .ok (.goto 34, 3) := by decide +kernel
theorem dX8_next_189 : decode cX8_next 189 = .ok (.aload_n 0, 1) := by decide +kernel
theorem dX8_next_190 : decode cX8_next 190 = .ok (.dup, 1) := by decide +kernel
theorem dX8_next_191 : decode cX8_next 191 = .ok (.getfield 148, 3) := by decide +kernel
theorem dX8_next_194 : decode cX8_next 194 = .ok (.iconst 1, 1) := by decide +kernel
theorem dX8_next_195 : decode cX8_next 195 = .ok (.iadd, 1) := by decide +kernel
theorem dX8_next_196 : decode cX8_next 196 = .ok (.putfield 148, 3) := by decide +kernel
theorem dX8_next_199 : decode cX8_next 199 = .ok (.aload_n 0, 1) := by decide +kernel
theorem dX8_next_200 : decode cX8_next 200 = .ok (.iload_n 1, 1) := by decide +kernel
theorem dX8_next_201 : decode cX8_next 201 = .ok (.bipush 59, 2) := by decide +kernel
theorem dX8_next_203 : decode cX8_next 203 = .ok (.if_icmp .eq 9, 3) := by decide +kernel
theorem dX8_next_206 : decode cX8_next 206 = .ok (.iload_n 1, 1) := by decide +kernel
theorem dX8_next_207 : decode cX8_next 207 = .ok (.bipush 44, 2) := by decide +kernel
theorem dX8_next_209 : decode cX8_next 209 = .ok (.if_icmp .ne 7, 3) := by decide +kernel
theorem dX8_next_212 : decode cX8_next 212 = .ok (.iconst 4, 1) := by decide +kernel
theorem dX8_next_213 : decode cX8_next 213 = .ok (.goto 4, 3) := by decide +kernel
theorem dX8_next_216 : decode cX8_next 216 = .ok (.iconst 0, 1) := by decide +kernel
theorem dX8_next_217 : decode cX8_next 217 = .ok (.putfield 157, 3) := by decide +kernel
theorem dX8_next_220 : decode cX8_next 220 = .ok (.aload_n 0, 1) := by decide +kernel
theorem dX8_next_221 : decode cX8_next 221 = .ok (.aload_n 0, 1) := by decide +kernel
theorem dX8_next_222 : decode cX8_next 222 = .ok (.getfield 148, 3) := by decide +kernel
theorem dX8_next_225 : decode cX8_next 225 = .ok (.putfield 166, 3) := by decide +kernel
theorem dX8_next_228 : decode cX8_next 228 = .ok (.return_, 1) := by decide +kernel
theorem dX8_bad_0 : decode cX8_bad 0 = .ok (.aload_n 0, 1) := by decide +kernel
theorem dX8_bad_1 : decode cX8_bad 1 = .ok (.getfield 169, 3) := by decide +kernel
theorem dX8_bad_4 : decode cX8_bad 4 = .ok (.ifCond .ne 16, 3) := by decide +kernel
theorem dX8_bad_7 : decode cX8_bad 7 = .ok (.aload_n 0, 1) := by decide +kernel
theorem dX8_bad_8 : decode cX8_bad 8 = .ok (.iload_n 1, 1) := by decide +kernel
theorem dX8_bad_9 : decode cX8_bad 9 = .ok (.putfield 169, 3) := by decide +kernel
theorem dX8_bad_12 : decode cX8_bad 12 = .ok (.aload_n 0, 1) := by decide +kernel
theorem dX8_bad_13 : decode cX8_bad 13 = .ok (.aload_n 0, 1) := by decide +kernel
theorem dX8_bad_14 : decode cX8_bad 14 = .ok (.getfield 154, 3) := by decide +kernel
theorem dX8_bad_17 : decode cX8_bad 17 = .ok (.putfield 172, 3) := by decide +kernel
theorem dX8_bad_20 : decode cX8_bad 20 = .ok (.return_, 1) := by decide +kernel
theorem dX8_need_0 : decode cX8_need 0 = .ok (.iload_n 1, 1) := by decide +kernel
theorem dX8_need_1 : decode cX8_need 1 = .ok (.ifCond .ne 8, 3) := by decide +kernel
theorem dX8_need_4 : decode cX8_need 4 = .ok (.aload_n 0, 1) := by decide +kernel
theorem dX8_need_5 : decode cX8_need 5 = .ok (.iconst 1, 1) := by decide +kernel
theorem dX8_need_6 : decode cX8_need 6 = .ok (.invokevirtual 175, 3) := by decide +kernel
theorem dX8_need_9 : decode cX8_need 9 = .ok (.aload_n 0, 1) := by decide +kernel
theorem dX8_need_10 : decode cX8_need 10 = .ok (.getfield 169, 3) := by decide +kernel
theorem dX8_need_13 : decode cX8_need 13 = .ok (.ifCond .ne 7, 3) := by decide +kernel
theorem dX8_need_16 : decode cX8_need 16 = .ok (.aload_n 0, 1) := by decide +kernel
theorem dX8_need_17 : decode cX8_need 17 = .ok (.invokevirtual 179, 3) := by decide +kernel
theorem dX8_need_20 : decode cX8_need 20 = .ok (.return_, 1) := by decide +kernel
theorem dX8_is_0 : decode cX8_is 0 = .ok (.aload_n 0, 1) := by decide +kernel
theorem dX8_is_1 : decode cX8_is 1 = .ok (.getfield 157, 3) := by decide +kernel
theorem dX8_is_4 : decode cX8_is 4 = .ok (.iconst 4, 1) := by decide +kernel
theorem dX8_is_5 : decode cX8_is 5 = .ok (.if_icmp .ne 20, 3) := by decide +kernel
theorem dX8_is_8 : decode cX8_is 8 = .ok (.aload_n 0, 1) := by decide +kernel
theorem dX8_is_9 : decode cX8_is 9 = .ok (.getfield 44, 3) := by decide +kernel
theorem dX8_is_12 : decode cX8_is 12 = .ok (.aload_n 0, 1) := by decide +kernel
theorem dX8_is_13 : decode cX8_is 13 = .ok (.getfield 154, 3) := by decide +kernel
theorem dX8_is_16 : decode cX8_is 16 = .ok (.iaload, 1) := by decide +kernel
theorem dX8_is_17 : decode cX8_is 17 = .ok (.iload_n 1, 1) := by decide +kernel
theorem dX8_is_18 : decode cX8_is 18 = .ok (.if_icmp .ne 7, 3) := by decide +kernel
theorem dX8_is_21 : decode cX8_is 21 = .ok (.iconst 1, 1) := by decide +kernel
theorem dX8_is_22 : decode cX8_is 22 = .ok (.goto 4, 3) := by decide +kernel
theorem dX8_is_25 : decode cX8_is 25 = .ok (.iconst 0, 1) := by decide +kernel
theorem dX8_is_26 : decode cX8_is 26 = .ok (.ireturn, 1) := by decide +kernel
theorem dX8_word_0 : decode cX8_word 0 = .ok (.lconst 0, 1) := by decide +kernel
theorem dX8_word_1 : decode cX8_word 1 = .ok (.lstore_n 1, 1) := by decide +kernel
theorem dX8_word_2 : decode cX8_word 2 = .ok (.aload_n 0, 1) := by decide +kernel
theorem dX8_word_3 : decode cX8_word 3 = .ok (.getfield 154, 3) := by decide +kernel
theorem dX8_word_6 : decode cX8_word 6 = .ok (.istore_n 3, 1) := by decide +kernel
theorem dX8_word_7 : decode cX8_word 7 = .ok (.iload_n 3, 1) := by decide +kernel
theorem dX8_word_8 : decode cX8_word 8 = .ok (.aload_n 0, 1) := by decide +kernel
theorem dX8_word_9 : decode cX8_word 9 = .ok (.getfield 166, 3) := by decide +kernel
theorem dX8_word_12 : decode cX8_word 12 = .ok (.if_icmp .ge 30, 3) := by decide +kernel
theorem dX8_word_15 : decode cX8_word 15 = .ok (.aload_n 0, 1) := by decide +kernel
theorem dX8_word_16 : decode cX8_word 16 = .ok (.getfield 157, 3) := by decide +kernel
theorem dX8_word_19 : decode cX8_word 19 = .ok (.iconst 2, 1) := by decide +kernel
theorem dX8_word_20 : decode cX8_word 20 = .ok (.if_icmp .ne 22, 3) := by decide +kernel
theorem dX8_word_23 : decode cX8_word 23 = .ok (.lload_n 1, 1) := by decide +kernel
theorem dX8_word_24 : decode cX8_word 24 = .ok (.bipush 8, 2) := by decide +kernel
theorem dX8_word_26 : decode cX8_word 26 = .ok (.lshl, 1) := by decide +kernel
theorem dX8_word_27 : decode cX8_word 27 = .ok (.aload_n 0, 1) := by decide +kernel
theorem dX8_word_28 : decode cX8_word 28 = .ok (.getfield 44, 3) := by decide +kernel
theorem dX8_word_31 : decode cX8_word 31 = .ok (.iload_n 3, 1) := by decide +kernel
theorem dX8_word_32 : decode cX8_word 32 = .ok (.iaload, 1) := by decide +kernel
theorem dX8_word_33 : decode cX8_word 33 = .ok (.i2l, 1) := by decide +kernel
theorem dX8_word_34 : decode cX8_word 34 = .ok (.lor, 1) := by decide +kernel
theorem dX8_word_35 : decode cX8_word 35 = .ok (.lstore_n 1, 1) := by decide +kernel
theorem dX8_word_36 : decode cX8_word 36 = .ok (.iinc 3 1, 3) := by decide +kernel
theorem dX8_word_39 : decode cX8_word 39 = .ok (.goto (-32), 3) := by decide +kernel
theorem dX8_word_42 : decode cX8_word 42 = .ok (.lload_n 1, 1) := by decide +kernel
theorem dX8_word_43 : decode cX8_word 43 = .ok (.lreturn, 1) := by decide +kernel
theorem dX8_aNumber_0 : decode cX8_aNumber 0 = .ok (.iconst 0, 1) := by decide +kernel
theorem dX8_aNumber_1 : decode cX8_aNumber 1 = .ok (.istore_n 1, 1) := by decide +kernel
theorem dX8_aNumber_2 : decode cX8_aNumber 2 = .ok (.aload_n 0, 1) := by decide +kernel
theorem dX8_aNumber_3 : decode cX8_aNumber 3 = .ok (.getfield 154, 3) := by decide +kernel
theorem dX8_aNumber_6 : decode cX8_aNumber 6 = .ok (.istore_n 2, 1) := by decide +kernel
theorem dX8_aNumber_7 : decode cX8_aNumber 7 = .ok (.iload_n 2, 1) := by decide +kernel
theorem dX8_aNumber_8 : decode cX8_aNumber 8 = .ok (.aload_n 0, 1) := by decide +kernel
theorem dX8_aNumber_9 : decode cX8_aNumber 9 = .ok (.getfield 166, 3) := by decide +kernel
theorem dX8_aNumber_12 : decode cX8_aNumber 12 = .ok (.if_icmp .ge 32, 3) := by decide +kernel
theorem dX8_aNumber_15 : decode cX8_aNumber 15 = .ok (.aload_n 0, 1) := by decide +kernel
theorem dX8_aNumber_16 : decode cX8_aNumber 16 = .ok (.getfield 157, 3) := by decide +kernel
theorem dX8_aNumber_19 : decode cX8_aNumber 19 = .ok (.iconst 3, 1) := by decide +kernel
theorem dX8_aNumber_20 : decode cX8_aNumber 20 = .ok (.if_icmp .ne 24, 3) := by decide +kernel
theorem dX8_aNumber_23 : decode cX8_aNumber 23 = .ok (.bipush 10, 2) := by decide +kernel
theorem dX8_aNumber_25 : decode cX8_aNumber 25 = .ok (.iload_n 1, 1) := by decide +kernel
theorem dX8_aNumber_26 : decode cX8_aNumber 26 = .ok (.imul, 1) := by decide +kernel
theorem dX8_aNumber_27 : decode cX8_aNumber 27 = .ok (.aload_n 0, 1) := by decide +kernel
theorem dX8_aNumber_28 : decode cX8_aNumber 28 = .ok (.getfield 44, 3) := by decide +kernel
theorem dX8_aNumber_31 : decode cX8_aNumber 31 = .ok (.iload_n 2, 1) := by decide +kernel
theorem dX8_aNumber_32 : decode cX8_aNumber 32 = .ok (.iaload, 1) := by decide +kernel
theorem dX8_aNumber_33 : decode cX8_aNumber 33 = .ok (.iadd, 1) := by decide +kernel
theorem dX8_aNumber_34 : decode cX8_aNumber 34 = .ok (.bipush 48, 2) := by decide +kernel
theorem dX8_aNumber_36 : decode cX8_aNumber 36 = .ok (.isub, 1) := by decide +kernel
theorem dX8_aNumber_37 : decode cX8_aNumber 37 = .ok (.istore_n 1, 1) := by decide +kernel
theorem dX8_aNumber_38 : decode cX8_aNumber 38 = .ok (.iinc 2 1, 3) := by decide +kernel
theorem dX8_aNumber_41 : decode cX8_aNumber 41 = .ok (.goto (-34), 3) := by decide +kernel
theorem dX8_aNumber_44 : decode cX8_aNumber 44 = .ok (.aload_n 0, 1) := by decide +kernel
theorem dX8_aNumber_45 : decode cX8_aNumber 45 = .ok (.getfield 157, 3) := by decide +kernel
theorem dX8_aNumber_48 : decode cX8_aNumber 48 = .ok (.iconst 3, 1) := by decide +kernel
theorem dX8_aNumber_49 : decode cX8_aNumber 49 = .ok (.if_icmp .ne 12, 3) := by decide +kernel
theorem dX8_aNumber_52 : decode cX8_aNumber 52 = .ok (.iload_n 1, 1) := by decide +kernel
theorem dX8_aNumber_53 : decode cX8_aNumber 53 = .ok (.ifCond .ne 8, 3) := by decide +kernel
theorem dX8_aNumber_56 : decode cX8_aNumber 56 = .ok (.aload_n 0, 1) := by decide +kernel
theorem dX8_aNumber_57 : decode cX8_aNumber 57 = .ok (.iconst 2, 1) := by decide +kernel
theorem dX8_aNumber_58 : decode cX8_aNumber 58 = .ok (.invokevirtual 175, 3) := by decide +kernel
theorem dX8_aNumber_61 : decode cX8_aNumber 61 = .ok (.aload_n 0, 1) := by decide +kernel
theorem dX8_aNumber_62 : decode cX8_aNumber 62 = .ok (.aload_n 0, 1) := by decide +kernel
theorem dX8_aNumber_63 : decode cX8_aNumber 63 = .ok (.getfield 157, 3) := by decide +kernel
theorem dX8_aNumber_66 : decode cX8_aNumber 66 = .ok (.iconst 3, 1) := by decide +kernel
theorem dX8_aNumber_67 : decode cX8_aNumber 67 = .ok (.if_icmp .ne 7, 3) := by decide +kernel
theorem dX8_aNumber_70 : decode cX8_aNumber 70 = .ok (.iconst 1, 1) := by decide +kernel
theorem dX8_aNumber_71 : decode cX8_aNumber 71 = .ok (.goto 4, 3) := by decide +kernel
theorem dX8_aNumber_74 : decode cX8_aNumber 74 = .ok (.iconst 0, 1) := by decide +kernel
theorem dX8_aNumber_75 : decode cX8_aNumber 75 = .ok (.invokevirtual 182, 3) := by decide +kernel
theorem dX8_aNumber_78 : decode cX8_aNumber 78 = .ok (.iload_n 1, 1) := by decide +kernel
theorem dX8_aNumber_79 : decode cX8_aNumber 79 = .ok (.ireturn, 1) := by decide +kernel
theorem dX8_readPair_0 : decode cX8_readPair 0 = .ok (.aload_n 0, 1) := by decide +kernel
theorem dX8_readPair_1 : decode cX8_readPair 1 = .ok (.invokevirtual 186, 3) := by decide +kernel
theorem dX8_readPair_4 : decode cX8_readPair 4 = .ok (.istore_n 2, 1) := by decide +kernel
theorem dX8_readPair_5 : decode cX8_readPair 5 = .ok (.aload_n 0, 1) := by decide +kernel
theorem dX8_readPair_6 : decode cX8_readPair 6 = .ok (.invokevirtual 186, 3) := by decide +kernel
theorem dX8_readPair_9 : decode cX8_readPair 9 = .ok (.istore_n 3, 1) := by decide +kernel
theorem dX8_readPair_10 : decode cX8_readPair 10 = .ok (.aload_n 0, 1) := by decide +kernel
theorem dX8_readPair_11 : decode cX8_readPair 11 = .ok (.getfield 56, 3) := by decide +kernel
theorem dX8_readPair_14 : decode cX8_readPair 14 = .ok (.iconst 2, 1) := by decide +kernel
theorem dX8_readPair_15 : decode cX8_readPair 15 = .ok (.iload_n 1, 1) := by decide +kernel
theorem dX8_readPair_16 : decode cX8_readPair 16 = .ok (.imul, 1) := by decide +kernel
