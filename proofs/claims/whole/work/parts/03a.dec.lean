theorem dX1_init_0 : decode cX1_init 0 = .ok (.aload_n 0, 1) := by decide +kernel
theorem dX1_init_1 : decode cX1_init 1 = .ok (.invokespecial 3, 3) := by decide +kernel
theorem dX1_init_4 : decode cX1_init 4 = .ok (.aload_n 0, 1) := by decide +kernel
theorem dX1_init_5 : decode cX1_init 5 = .ok (.bipush 64, 2) := by decide +kernel
theorem dX1_init_7 : decode cX1_init 7 = .ok (.newarray .int, 2) := by decide +kernel
theorem dX1_init_9 : decode cX1_init 9 = .ok (.putfield 9, 3) := by decide +kernel
theorem dX1_init_12 : decode cX1_init 12 = .ok (.aload_n 0, 1) := by decide +kernel
theorem dX1_init_13 : decode cX1_init 13 = .ok (.bipush 64, 2) := by decide +kernel
theorem dX1_init_15 : decode cX1_init 15 = .ok (.newarray .int, 2) := by decide +kernel
theorem dX1_init_17 : decode cX1_init 17 = .ok (.putfield 15, 3) := by decide +kernel
theorem dX1_init_20 : decode cX1_init 20 = .ok (.aload_n 0, 1) := by decide +kernel
theorem dX1_init_21 : decode cX1_init 21 = .ok (.aload_n 1, 1) := by decide +kernel
theorem dX1_init_22 : decode cX1_init 22 = .ok (.putfield 18, 3) := by decide +kernel
theorem dX1_init_25 : decode cX1_init 25 = .ok (.aload_n 0, 1) := by decide +kernel
theorem dX1_init_26 : decode cX1_init 26 = .ok (.aload_n 2, 1) := by decide +kernel
theorem dX1_init_27 : decode cX1_init 27 = .ok (.putfield 22, 3) := by decide +kernel
theorem dX1_init_30 : decode cX1_init 30 = .ok (.aload_n 0, 1) := by decide +kernel
theorem dX1_init_31 : decode cX1_init 31 = .ok (.aload_n 3, 1) := by decide +kernel
theorem dX1_init_32 : decode cX1_init 32 = .ok (.putfield 26, 3) := by decide +kernel
theorem dX1_init_35 : decode cX1_init 35 = .ok (.aload_n 0, 1) := by decide +kernel
theorem dX1_init_36 : decode cX1_init 36 = .ok (.aload 4, 2) := by decide +kernel
theorem dX1_init_38 : decode cX1_init 38 = .ok (.putfield 30, 3) := by decide +kernel
theorem dX1_init_41 : decode cX1_init 41 = .ok (.aload_n 0, 1) := by decide +kernel
theorem dX1_init_42 : decode cX1_init 42 = .ok (.aload 5, 2) := by decide +kernel
theorem dX1_init_44 : decode cX1_init 44 = .ok (.putfield 34, 3) := by decide +kernel
theorem dX1_init_47 : decode cX1_init 47 = .ok (.return_, 1) := by decide +kernel
theorem dX1_putSlowness_0 : decode cX1_putSlowness 0 = .ok (.aload_n 0, 1) := by decide +kernel
theorem dX1_putSlowness_1 : decode cX1_putSlowness 1 = .ok (.getfield 18, 3) := by decide +kernel
theorem dX1_putSlowness_4 : decode cX1_putSlowness 4 = .ok (.getfield 38, 3) := by decide +kernel
theorem dX1_putSlowness_7 : decode cX1_putSlowness 7 = .ok (.iload_n 1, 1) := by decide +kernel
theorem dX1_putSlowness_8 : decode cX1_putSlowness 8 = .ok (.iload_n 2, 1) := by decide +kernel
theorem dX1_putSlowness_9 : decode cX1_putSlowness 9 = .ok (.iastore, 1) := by decide +kernel
theorem dX1_putSlowness_10 : decode cX1_putSlowness 10 = .ok (.aload_n 0, 1) := by decide +kernel
theorem dX1_putSlowness_11 : decode cX1_putSlowness 11 = .ok (.getfield 30, 3) := by decide +kernel
theorem dX1_putSlowness_14 : decode cX1_putSlowness 14 = .ok (.invokevirtual 43, 3) := by decide +kernel
theorem dX1_putSlowness_17 : decode cX1_putSlowness 17 = .ok (.return_, 1) := by decide +kernel
theorem dX1_incline_0 : decode cX1_incline 0 = .ok (.iconst 0, 1) := by decide +kernel
theorem dX1_incline_1 : decode cX1_incline 1 = .ok (.istore 5, 2) := by decide +kernel
theorem dX1_incline_3 : decode cX1_incline 3 = .ok (.iload 5, 2) := by decide +kernel
theorem dX1_incline_5 : decode cX1_incline 5 = .ok (.aload_n 0, 1) := by decide +kernel
theorem dX1_incline_6 : decode cX1_incline 6 = .ok (.getfield 18, 3) := by decide +kernel
theorem dX1_incline_9 : decode cX1_incline 9 = .ok (.getfield 48, 3) := by decide +kernel
theorem dX1_incline_12 : decode cX1_incline 12 = .ok (.if_icmp .ge 67, 3) := by decide +kernel
theorem dX1_incline_15 : decode cX1_incline 15 = .ok (.iconst 0, 1) := by decide +kernel
theorem dX1_incline_16 : decode cX1_incline 16 = .ok (.istore 6, 2) := by decide +kernel
theorem dX1_incline_18 : decode cX1_incline 18 = .ok (.iload 6, 2) := by decide +kernel
theorem dX1_incline_20 : decode cX1_incline 20 = .ok (.aload_n 0, 1) := by decide +kernel
theorem dX1_incline_21 : decode cX1_incline 21 = .ok (.getfield 18, 3) := by decide +kernel
theorem dX1_incline_24 : decode cX1_incline 24 = .ok (.getfield 52, 3) := by decide +kernel
theorem dX1_incline_27 : decode cX1_incline 27 = .ok (.if_icmp .ge 46, 3) := by decide +kernel
theorem dX1_incline_30 : decode cX1_incline 30 = .ok (.aload_n 0, 1) := by decide +kernel
theorem dX1_incline_31 : decode cX1_incline 31 = .ok (.getfield 9, 3) := by decide +kernel
theorem dX1_incline_34 : decode cX1_incline 34 = .ok (.aload_n 0, 1) := by decide +kernel
theorem dX1_incline_35 : decode cX1_incline 35 = .ok (.getfield 18, 3) := by decide +kernel
theorem dX1_incline_38 : decode cX1_incline 38 = .ok (.getfield 52, 3) := by decide +kernel
theorem dX1_incline_41 : decode cX1_incline 41 = .ok (.iload 5, 2) := by decide +kernel
theorem dX1_incline_43 : decode cX1_incline 43 = .ok (.imul, 1) := by decide +kernel
theorem dX1_incline_44 : decode cX1_incline 44 = .ok (.iload 6, 2) := by decide +kernel
theorem dX1_incline_46 : decode cX1_incline 46 = .ok (.iadd, 1) := by decide +kernel
theorem dX1_incline_47 : decode cX1_incline 47 = .ok (.iload_n 2, 1) := by decide +kernel
theorem dX1_incline_48 : decode cX1_incline 48 = .ok (.iload_n 3, 1) := by decide +kernel
theorem dX1_incline_49 : decode cX1_incline 49 = .ok (.iload 6, 2) := by decide +kernel
theorem dX1_incline_51 : decode cX1_incline 51 = .ok (.imul, 1) := by decide +kernel
theorem dX1_incline_52 : decode cX1_incline 52 = .ok (.iadd, 1) := by decide +kernel
theorem dX1_incline_53 : decode cX1_incline 53 = .ok (.iload 4, 2) := by decide +kernel
theorem dX1_incline_55 : decode cX1_incline 55 = .ok (.iload 5, 2) := by decide +kernel
theorem dX1_incline_57 : decode cX1_incline 57 = .ok (.imul, 1) := by decide +kernel
theorem dX1_incline_58 : decode cX1_incline 58 = .ok (.iadd, 1) := by decide +kernel
theorem dX1_incline_59 : decode cX1_incline 59 = .ok (.i2l, 1) := by decide +kernel
theorem dX1_incline_60 : decode cX1_incline 60 = .ok (.iconst 1, 1) := by decide +kernel
theorem dX1_incline_61 : decode cX1_incline 61 = .ok (.ldc 55, 2) := by decide +kernel
theorem dX1_incline_63 : decode cX1_incline 63 = .ok (.invokestatic 56, 3) := by decide +kernel
theorem dX1_incline_66 : decode cX1_incline 66 = .ok (.iastore, 1) := by decide +kernel
theorem dX1_incline_67 : decode cX1_incline 67 = .ok (.iinc 6 1, 3) := by decide +kernel
theorem dX1_incline_70 : decode cX1_incline 70 = .ok (.goto (-52), 3) := by decide +kernel
theorem dX1_incline_73 : decode cX1_incline 73 = .ok (.iinc 5 1, 3) := by decide +kernel
theorem dX1_incline_76 : decode cX1_incline 76 = .ok (.goto (-73), 3) := by decide +kernel
theorem dX1_incline_79 : decode cX1_incline 79 = .ok (.aload_n 0, 1) := by decide +kernel
theorem dX1_incline_80 : decode cX1_incline 80 = .ok (.iload_n 1, 1) := by decide +kernel
theorem dX1_incline_81 : decode cX1_incline 81 = .ok (.ifCond .eq 13, 3) := by decide +kernel
theorem dX1_incline_84 : decode cX1_incline 84 = .ok (.aload_n 0, 1) := by decide +kernel
theorem dX1_incline_85 : decode cX1_incline 85 = .ok (.getfield 18, 3) := by decide +kernel
theorem dX1_incline_88 : decode cX1_incline 88 = .ok (.getfield 60, 3) := by decide +kernel
theorem dX1_incline_91 : decode cX1_incline 91 = .ok (.goto 10, 3) := by decide +kernel
theorem dX1_incline_94 : decode cX1_incline 94 = .ok (.aload_n 0, 1) := by decide +kernel
theorem dX1_incline_95 : decode cX1_incline 95 = .ok (.getfield 18, 3) := by decide +kernel
theorem dX1_incline_98 : decode cX1_incline 98 = .ok (.getfield 38, 3) := by decide +kernel
theorem dX1_incline_101 : decode cX1_incline 101 = .ok (.invokevirtual 63, 3) := by decide +kernel
theorem dX1_incline_104 : decode cX1_incline 104 = .ok (.ireturn, 1) := by decide +kernel
theorem dX1_takeOver_0 : decode cX1_takeOver 0 = .ok (.iconst 0, 1) := by decide +kernel
theorem dX1_takeOver_1 : decode cX1_takeOver 1 = .ok (.istore_n 2, 1) := by decide +kernel
theorem dX1_takeOver_2 : decode cX1_takeOver 2 = .ok (.iconst 0, 1) := by decide +kernel
theorem dX1_takeOver_3 : decode cX1_takeOver 3 = .ok (.istore_n 3, 1) := by decide +kernel
theorem dX1_takeOver_4 : decode cX1_takeOver 4 = .ok (.iload_n 3, 1) := by decide +kernel
theorem dX1_takeOver_5 : decode cX1_takeOver 5 = .ok (.aload_n 0, 1) := by decide +kernel
theorem dX1_takeOver_6 : decode cX1_takeOver 6 = .ok (.getfield 18, 3) := by decide +kernel
theorem dX1_takeOver_9 : decode cX1_takeOver 9 = .ok (.invokevirtual 67, 3) := by decide +kernel
theorem dX1_takeOver_12 : decode cX1_takeOver 12 = .ok (.if_icmp .ge 33, 3) := by decide +kernel
theorem dX1_takeOver_15 : decode cX1_takeOver 15 = .ok (.aload_n 1, 1) := by decide +kernel
theorem dX1_takeOver_16 : decode cX1_takeOver 16 = .ok (.iload_n 3, 1) := by decide +kernel
theorem dX1_takeOver_17 : decode cX1_takeOver 17 = .ok (.iaload, 1) := by decide +kernel
theorem dX1_takeOver_18 : decode cX1_takeOver 18 = .ok (.aload_n 0, 1) := by decide +kernel
theorem dX1_takeOver_19 : decode cX1_takeOver 19 = .ok (.getfield 9, 3) := by decide +kernel
theorem dX1_takeOver_22 : decode cX1_takeOver 22 = .ok (.iload_n 3, 1) := by decide +kernel
theorem dX1_takeOver_23 : decode cX1_takeOver 23 = .ok (.iaload, 1) := by decide +kernel
theorem dX1_takeOver_24 : decode cX1_takeOver 24 = .ok (.if_icmp .eq 15, 3) := by decide +kernel
theorem dX1_takeOver_27 : decode cX1_takeOver 27 = .ok (.aload_n 1, 1) := by decide +kernel
theorem dX1_takeOver_28 : decode cX1_takeOver 28 = .ok (.iload_n 3, 1) := by decide +kernel
theorem dX1_takeOver_29 : decode cX1_takeOver 29 = .ok (.aload_n 0, 1) := by decide +kernel
theorem dX1_takeOver_30 : decode cX1_takeOver 30 = .ok (.getfield 9, 3) := by decide +kernel
theorem dX1_takeOver_33 : decode cX1_takeOver 33 = .ok (.iload_n 3, 1) := by decide +kernel
theorem dX1_takeOver_34 : decode cX1_takeOver 34 = .ok (.iaload, 1) := by decide +kernel
theorem dX1_takeOver_35 : decode cX1_takeOver 35 = .ok (.iastore, 1) := by decide +kernel
theorem dX1_takeOver_36 : decode cX1_takeOver 36 = .ok (.iinc 2 1, 3) := by decide +kernel
theorem dX1_takeOver_39 : decode cX1_takeOver 39 = .ok (.iinc 3 1, 3) := by decide +kernel
theorem dX1_takeOver_42 : decode cX1_takeOver 42 = .ok (.goto (-38), 3) := by decide +kernel
theorem dX1_takeOver_45 : decode cX1_takeOver 45 = .ok (.aload_n 0, 1) := by decide +kernel
theorem dX1_takeOver_46 : decode cX1_takeOver 46 = .ok (.getfield 30, 3) := by decide +kernel
theorem dX1_takeOver_49 : decode cX1_takeOver 49 = .ok (.invokevirtual 43, 3) := by decide +kernel
theorem dX1_takeOver_52 : decode cX1_takeOver 52 = .ok (.iload_n 2, 1) := by decide +kernel
theorem dX1_takeOver_53 : decode cX1_takeOver 53 = .ok (.ireturn, 1) := by decide +kernel
theorem dX1_takeTimes_0 : decode cX1_takeTimes 0 = .ok (.iload_n 2, 1) := by decide +kernel
theorem dX1_takeTimes_1 : decode cX1_takeTimes 1 = .ok (.i2l, 1) := by decide +kernel
theorem dX1_takeTimes_2 : decode cX1_takeTimes 2 = .ok (.lstore_n 3, 1) := by decide +kernel
theorem dX1_takeTimes_3 : decode cX1_takeTimes 3 = .ok (.iconst 0, 1) := by decide +kernel
theorem dX1_takeTimes_4 : decode cX1_takeTimes 4 = .ok (.istore 5, 2) := by decide +kernel
theorem dX1_takeTimes_6 : decode cX1_takeTimes 6 = .ok (.iload 5, 2) := by decide +kernel
theorem dX1_takeTimes_8 : decode cX1_takeTimes 8 = .ok (.aload_n 0, 1) := by decide +kernel
theorem dX1_takeTimes_9 : decode cX1_takeTimes 9 = .ok (.getfield 18, 3) := by decide +kernel
theorem dX1_takeTimes_12 : decode cX1_takeTimes 12 = .ok (.getfield 71, 3) := by decide +kernel
theorem dX1_takeTimes_15 : decode cX1_takeTimes 15 = .ok (.if_icmp .ge 87, 3) := by decide +kernel
theorem dX1_takeTimes_18 : decode cX1_takeTimes 18 = .ok (.aload_n 0, 1) := by decide +kernel
theorem dX1_takeTimes_19 : decode cX1_takeTimes 19 = .ok (.getfield 26, 3) := by decide +kernel
theorem dX1_takeTimes_22 : decode cX1_takeTimes 22 = .ok (.aload_n 0, 1) := by decide +kernel
theorem dX1_takeTimes_23 : decode cX1_takeTimes 23 = .ok (.getfield 18, 3) := by decide +kernel
theorem dX1_takeTimes_26 : decode cX1_takeTimes 26 = .ok (.getfield 60, 3) := by decide +kernel
theorem dX1_takeTimes_29 : decode cX1_takeTimes 29 = .ok (.aload_n 0, 1) := by decide +kernel
theorem dX1_takeTimes_30 : decode cX1_takeTimes 30 = .ok (.getfield 18, 3) := by decide +kernel
theorem dX1_takeTimes_33 : decode cX1_takeTimes 33 = .ok (.iload 5, 2) := by decide +kernel
theorem dX1_takeTimes_35 : decode cX1_takeTimes 35 = .ok (.invokevirtual 74, 3) := by decide +kernel
theorem dX1_takeTimes_38 : decode cX1_takeTimes 38 = .ok (.aload_n 0, 1) := by decide +kernel
theorem dX1_takeTimes_39 : decode cX1_takeTimes 39 = .ok (.getfield 18, 3) := by decide +kernel
theorem dX1_takeTimes_42 : decode cX1_takeTimes 42 = .ok (.iload 5, 2) := by decide +kernel
theorem dX1_takeTimes_44 : decode cX1_takeTimes 44 = .ok (.invokevirtual 78, 3) := by decide +kernel
theorem dX1_takeTimes_47 : decode cX1_takeTimes 47 = .ok (.invokevirtual 81, 3) := by decide +kernel
theorem dX1_takeTimes_50 : decode cX1_takeTimes 50 = .ok (.lstore 6, 2) := by decide +kernel
theorem dX1_takeTimes_52 : decode cX1_takeTimes 52 = .ok (.lload_n 3, 1) := by decide +kernel
theorem dX1_takeTimes_53 : decode cX1_takeTimes 53 = .ok (.invokestatic 87, 3) := by decide +kernel
theorem dX1_takeTimes_56 : decode cX1_takeTimes 56 = .ok (.lstore_n 3, 1) := by decide +kernel
theorem dX1_takeTimes_57 : decode cX1_takeTimes 57 = .ok (.ldc2_w 91, 3) := by decide +kernel
theorem dX1_takeTimes_60 : decode cX1_takeTimes 60 = .ok (.lload_n 3, 1) := by decide +kernel
theorem dX1_takeTimes_61 : decode cX1_takeTimes 61 = .ok (.invokestatic 93, 3) := by decide +kernel
theorem dX1_takeTimes_64 : decode cX1_takeTimes 64 = .ok (.iconst 2, 1) := by decide +kernel
theorem dX1_takeTimes_65 : decode cX1_takeTimes 65 = .ok (.iload_n 1, 1) := by decide +kernel
theorem dX1_takeTimes_66 : decode cX1_takeTimes 66 = .ok (.imul, 1) := by decide +kernel
theorem dX1_takeTimes_67 : decode cX1_takeTimes 67 = .ok (.iconst 1, 1) := by decide +kernel
theorem dX1_takeTimes_68 : decode cX1_takeTimes 68 = .ok (.iadd, 1) := by decide +kernel
theorem dX1_takeTimes_69 : decode cX1_takeTimes 69 = .ok (.i2l, 1) := by decide +kernel
theorem dX1_takeTimes_70 : decode cX1_takeTimes 70 = .ok (.lrem, 1) := by decide +kernel
theorem dX1_takeTimes_71 : decode cX1_takeTimes 71 = .ok (.iload_n 1, 1) := by decide +kernel
theorem dX1_takeTimes_72 : decode cX1_takeTimes 72 = .ok (.i2l, 1) := by decide +kernel
theorem dX1_takeTimes_73 : decode cX1_takeTimes 73 = .ok (.lsub, 1) := by decide +kernel
theorem dX1_takeTimes_74 : decode cX1_takeTimes 74 = .ok (.lmul, 1) := by decide +kernel
theorem dX1_takeTimes_75 : decode cX1_takeTimes 75 = .ok (.lstore 8, 2) := by decide +kernel
theorem dX1_takeTimes_77 : decode cX1_takeTimes 77 = .ok (.aload_n 0, 1) := by decide +kernel
theorem dX1_takeTimes_78 : decode cX1_takeTimes 78 = .ok (.getfield 18, 3) := by decide +kernel
theorem dX1_takeTimes_81 : decode cX1_takeTimes 81 = .ok (.getfield 96, 3) := by decide +kernel
theorem dX1_takeTimes_84 : decode cX1_takeTimes 84 = .ok (.iload 5, 2) := by decide +kernel
theorem dX1_takeTimes_86 : decode cX1_takeTimes 86 = .ok (.lload 6, 2) := by decide +kernel
theorem dX1_takeTimes_88 : decode cX1_takeTimes 88 = .ok (.lload 8, 2) := by decide +kernel
theorem dX1_takeTimes_90 : decode cX1_takeTimes 90 = .ok (.ladd, 1) := by decide +kernel
theorem dX1_takeTimes_91 : decode cX1_takeTimes 91 = .ok (.lconst 0, 1) := by decide +kernel
theorem dX1_takeTimes_92 : decode cX1_takeTimes 92 = .ok (.invokestatic 100, 3) := by decide +kernel
theorem dX1_takeTimes_95 : decode cX1_takeTimes 95 = .ok (.lastore, 1) := by decide +kernel
theorem dX1_takeTimes_96 : decode cX1_takeTimes 96 = .ok (.iinc 5 1, 3) := by decide +kernel
theorem dX1_takeTimes_99 : decode cX1_takeTimes 99 = .ok (.goto (-93), 3) := by decide +kernel
theorem dX1_takeTimes_102 : decode cX1_takeTimes 102 = .ok (.return_, 1) := by decide +kernel
theorem dX1_project_0 : decode cX1_project 0 = .ok (.aload_n 0, 1) := by decide +kernel
theorem dX1_project_1 : decode cX1_project 1 = .ok (.getfield 18, 3) := by decide +kernel
theorem dX1_project_4 : decode cX1_project 4 = .ok (.getfield 96, 3) := by decide +kernel
theorem dX1_project_7 : decode cX1_project 7 = .ok (.iload_n 1, 1) := by decide +kernel
theorem dX1_project_8 : decode cX1_project 8 = .ok (.laload, 1) := by decide +kernel
theorem dX1_project_9 : decode cX1_project 9 = .ok (.aload_n 0, 1) := by decide +kernel
theorem dX1_project_10 : decode cX1_project 10 = .ok (.getfield 30, 3) := by decide +kernel
theorem dX1_project_13 : decode cX1_project 13 = .ok (.iload_n 1, 1) := by decide +kernel
theorem dX1_project_14 : decode cX1_project 14 = .ok (.invokevirtual 106, 3) := by decide +kernel
theorem dX1_project_17 : decode cX1_project 17 = .ok (.lsub, 1) := by decide +kernel
theorem dX1_project_18 : decode cX1_project 18 = .ok (.lstore_n 2, 1) := by decide +kernel
theorem dX1_project_19 : decode cX1_project 19 = .ok (.aload_n 0, 1) := by decide +kernel
theorem dX1_project_20 : decode cX1_project 20 = .ok (.getfield 30, 3) := by decide +kernel
theorem dX1_project_23 : decode cX1_project 23 = .ok (.getfield 110, 3) := by decide +kernel
theorem dX1_project_26 : decode cX1_project 26 = .ok (.iload_n 1, 1) := by decide +kernel
theorem dX1_project_27 : decode cX1_project 27 = .ok (.aaload, 1) := by decide +kernel
theorem dX1_project_28 : decode cX1_project 28 = .ok (.astore 4, 2) := by decide +kernel
theorem dX1_project_30 : decode cX1_project 30 = .ok (.aload_n 0, 1) := by decide +kernel
theorem dX1_project_31 : decode cX1_project 31 = .ok (.getfield 30, 3) := by decide +kernel
theorem dX1_project_34 : decode cX1_project 34 = .ok (.getfield 114, 3) := by decide +kernel
theorem dX1_project_37 : decode cX1_project 37 = .ok (.iload_n 1, 1) := by decide +kernel
theorem dX1_project_38 : decode cX1_project 38 = .ok (.aaload, 1) := by decide +kernel
theorem dX1_project_39 : decode cX1_project 39 = .ok (.astore 5, 2) := by decide +kernel
theorem dX1_project_41 : decode cX1_project 41 = .ok (.aload_n 0, 1) := by decide +kernel
theorem dX1_project_42 : decode cX1_project 42 = .ok (.getfield 30, 3) := by decide +kernel
theorem dX1_project_45 : decode cX1_project 45 = .ok (.getfield 117, 3) := by decide +kernel
theorem dX1_project_48 : decode cX1_project 48 = .ok (.iload_n 1, 1) := by decide +kernel
theorem dX1_project_49 : decode cX1_project 49 = .ok (.iaload, 1) := by decide +kernel
theorem dX1_project_50 : decode cX1_project 50 = .ok (.istore 6, 2) := by decide +kernel
theorem dX1_project_52 : decode cX1_project 52 = .ok (.lconst 0, 1) := by decide +kernel
theorem dX1_project_53 : decode cX1_project 53 = .ok (.lstore 7, 2) := by decide +kernel
theorem dX1_project_55 : decode cX1_project 55 = .ok (.iconst 0, 1) := by decide +kernel
theorem dX1_project_56 : decode cX1_project 56 = .ok (.istore 9, 2) := by decide +kernel
theorem dX1_project_58 : decode cX1_project 58 = .ok (.iload 9, 2) := by decide +kernel
theorem dX1_project_60 : decode cX1_project 60 = .ok (.iload 6, 2) := by decide +kernel
theorem dX1_project_62 : decode cX1_project 62 = .ok (.if_icmp .ge 33, 3) := by decide +kernel
theorem dX1_project_65 : decode cX1_project 65 = .ok (.lload 7, 2) := by decide +kernel
theorem dX1_project_67 : decode cX1_project 67 = .ok (.aload 5, 2) := by decide +kernel
theorem dX1_project_69 : decode cX1_project 69 = .ok (.aload 4, 2) := by decide +kernel
theorem dX1_project_71 : decode cX1_project 71 = .ok (.iload 9, 2) := by decide +kernel
theorem dX1_project_73 : decode cX1_project 73 = .ok (.iaload, 1) := by decide +kernel
theorem dX1_project_74 : decode cX1_project 74 = .ok (.iaload, 1) := by decide +kernel
theorem dX1_project_75 : decode cX1_project 75 = .ok (.i2l, 1) := by decide +kernel
theorem dX1_project_76 : decode cX1_project 76 = .ok (.aload 5, 2) := by decide +kernel
theorem dX1_project_78 : decode cX1_project 78 = .ok (.aload 4, 2) := by decide +kernel
theorem dX1_project_80 : decode cX1_project 80 = .ok (.iload 9, 2) := by decide +kernel
theorem dX1_project_82 : decode cX1_project 82 = .ok (.iaload, 1) := by decide +kernel
theorem dX1_project_83 : decode cX1_project 83 = .ok (.iaload, 1) := by decide +kernel
theorem dX1_project_84 : decode cX1_project 84 = .ok (.i2l, 1) := by decide +kernel
theorem dX1_project_85 : decode cX1_project 85 = .ok (.lmul, 1) := by decide +kernel
theorem dX1_project_86 : decode cX1_project 86 = .ok (.ladd, 1) := by decide +kernel
theorem dX1_project_87 : decode cX1_project 87 = .ok (.lstore 7, 2) := by decide +kernel
theorem dX1_project_89 : decode cX1_project 89 = .ok (.iinc 9 1, 3) := by decide +kernel
theorem dX1_project_92 : decode cX1_project 92 = .ok (.goto (-34), 3) := by decide +kernel
theorem dX1_project_95 : decode cX1_project 95 = .ok (.iconst 0, 1) := by decide +kernel
theorem dX1_project_96 : decode cX1_project 96 = .ok (.istore 9, 2) := by decide +kernel
theorem dX1_project_98 : decode cX1_project 98 = .ok (.iconst 0, 1) := by decide +kernel
theorem dX1_project_99 : decode cX1_project 99 = .ok (.istore 10, 2) := by decide +kernel
theorem dX1_project_101 : decode cX1_project 101 = .ok (.iload 10, 2) := by decide +kernel
theorem dX1_project_103 : decode cX1_project 103 = .ok (.iload 6, 2) := by decide +kernel
theorem dX1_project_105 : decode cX1_project 105 = .ok (.if_icmp .ge 107, 3) := by decide +kernel
theorem dX1_project_108 : decode cX1_project 108 = .ok (.aload 4, 2) := by decide +kernel
theorem dX1_project_110 : decode cX1_project 110 = .ok (.iload 10, 2) := by decide +kernel
theorem dX1_project_112 : decode cX1_project 112 = .ok (.iaload, 1) := by decide +kernel
theorem dX1_project_113 : decode cX1_project 113 = .ok (.istore 11, 2) := by decide +kernel
theorem dX1_project_115 : decode cX1_project 115 = .ok (.aload_n 0, 1) := by decide +kernel
theorem dX1_project_116 : decode cX1_project 116 = .ok (.getfield 18, 3) := by decide +kernel
theorem dX1_project_119 : decode cX1_project 119 = .ok (.getfield 120, 3) := by decide +kernel
theorem dX1_project_122 : decode cX1_project 122 = .ok (.i2l, 1) := by decide +kernel
theorem dX1_project_123 : decode cX1_project 123 = .ok (.lload_n 2, 1) := by decide +kernel
theorem dX1_project_124 : decode cX1_project 124 = .ok (.lmul, 1) := by decide +kernel
theorem dX1_project_125 : decode cX1_project 125 = .ok (.aload 5, 2) := by decide +kernel
theorem dX1_project_127 : decode cX1_project 127 = .ok (.iload 11, 2) := by decide +kernel
theorem dX1_project_129 : decode cX1_project 129 = .ok (.iaload, 1) := by decide +kernel
theorem dX1_project_130 : decode cX1_project 130 = .ok (.i2l, 1) := by decide +kernel
theorem dX1_project_131 : decode cX1_project 131 = .ok (.lmul, 1) := by decide +kernel
theorem dX1_project_132 : decode cX1_project 132 = .ok (.ldc2_w 91, 3) := by decide +kernel
theorem dX1_project_135 : decode cX1_project 135 = .ok (.lload 7, 2) := by decide +kernel
theorem dX1_project_137 : decode cX1_project 137 = .ok (.lmul, 1) := by decide +kernel
theorem dX1_project_138 : decode cX1_project 138 = .ok (.invokestatic 123, 3) := by decide +kernel
theorem dX1_project_141 : decode cX1_project 141 = .ok (.lstore 12, 2) := by decide +kernel
theorem dX1_project_143 : decode cX1_project 143 = .ok (.aload_n 0, 1) := by decide +kernel
theorem dX1_project_144 : decode cX1_project 144 = .ok (.getfield 18, 3) := by decide +kernel
theorem dX1_project_147 : decode cX1_project 147 = .ok (.getfield 38, 3) := by decide +kernel
theorem dX1_project_150 : decode cX1_project 150 = .ok (.iload 11, 2) := by decide +kernel
theorem dX1_project_152 : decode cX1_project 152 = .ok (.iaload, 1) := by decide +kernel
theorem dX1_project_153 : decode cX1_project 153 = .ok (.i2l, 1) := by decide +kernel
theorem dX1_project_154 : decode cX1_project 154 = .ok (.lload 12, 2) := by decide +kernel
theorem dX1_project_156 : decode cX1_project 156 = .ok (.ladd, 1) := by decide +kernel
theorem dX1_project_157 : decode cX1_project 157 = .ok (.aload_n 0, 1) := by decide +kernel
theorem dX1_project_158 : decode cX1_project 158 = .ok (.getfield 18, 3) := by decide +kernel
theorem dX1_project_161 : decode cX1_project 161 = .ok (.getfield 126, 3) := by decide +kernel
theorem dX1_project_164 : decode cX1_project 164 = .ok (.aload_n 0, 1) := by decide +kernel
theorem dX1_project_165 : decode cX1_project 165 = .ok (.getfield 18, 3) := by decide +kernel
theorem dX1_project_168 : decode cX1_project 168 = .ok (.getfield 129, 3) := by decide +kernel
theorem dX1_project_171 : decode cX1_project 171 = .ok (.invokestatic 56, 3) := by decide +kernel
theorem dX1_project_174 : decode cX1_project 174 = .ok (.istore 14, 2) := by decide +kernel
theorem dX1_project_176 : decode cX1_project 176 = .ok (.iload 14, 2) := by decide +kernel
theorem dX1_project_178 : decode cX1_project 178 = .ok (.aload_n 0, 1) := by decide +kernel
theorem dX1_project_179 : decode cX1_project 179 = .ok (.getfield 18, 3) := by decide +kernel
theorem dX1_project_182 : decode cX1_project 182 = .ok (.getfield 38, 3) := by decide +kernel
theorem dX1_project_185 : decode cX1_project 185 = .ok (.iload 11, 2) := by decide +kernel
theorem dX1_project_187 : decode cX1_project 187 = .ok (.iaload, 1) := by decide +kernel
theorem dX1_project_188 : decode cX1_project 188 = .ok (.if_icmp .eq 18, 3) := by decide +kernel
theorem dX1_project_191 : decode cX1_project 191 = .ok (.aload_n 0, 1) := by decide +kernel
theorem dX1_project_192 : decode cX1_project 192 = .ok (.getfield 18, 3) := by decide +kernel
theorem dX1_project_195 : decode cX1_project 195 = .ok (.getfield 38, 3) := by decide +kernel
theorem dX1_project_198 : decode cX1_project 198 = .ok (.iload 11, 2) := by decide +kernel
theorem dX1_project_200 : decode cX1_project 200 = .ok (.iload 14, 2) := by decide +kernel
theorem dX1_project_202 : decode cX1_project 202 = .ok (.iastore, 1) := by decide +kernel
theorem dX1_project_203 : decode cX1_project 203 = .ok (.iinc 9 1, 3) := by decide +kernel
theorem dX1_project_206 : decode cX1_project 206 = .ok (.iinc 10 1, 3) := by decide +kernel
theorem dX1_project_209 : decode cX1_project 209 = .ok (.goto (-108), 3) := by decide +kernel
theorem dX1_project_212 : decode cX1_project 212 = .ok (.iload 9, 2) := by decide +kernel
theorem dX1_project_214 : decode cX1_project 214 = .ok (.ifCond .le 10, 3) := by decide +kernel
theorem dX1_project_217 : decode cX1_project 217 = .ok (.aload_n 0, 1) := by decide +kernel
theorem dX1_project_218 : decode cX1_project 218 = .ok (.getfield 30, 3) := by decide +kernel
theorem dX1_project_221 : decode cX1_project 221 = .ok (.invokevirtual 43, 3) := by decide +kernel
theorem dX1_project_224 : decode cX1_project 224 = .ok (.iload 9, 2) := by decide +kernel
theorem dX1_project_226 : decode cX1_project 226 = .ok (.ireturn, 1) := by decide +kernel
theorem dX1_smoothOut_0 : decode cX1_smoothOut 0 = .ok (.iconst 0, 1) := by decide +kernel
theorem dX1_smoothOut_1 : decode cX1_smoothOut 1 = .ok (.istore_n 2, 1) := by decide +kernel
theorem dX1_smoothOut_2 : decode cX1_smoothOut 2 = .ok (.iload_n 2, 1) := by decide +kernel
theorem dX1_smoothOut_3 : decode cX1_smoothOut 3 = .ok (.aload_n 0, 1) := by decide +kernel
theorem dX1_smoothOut_4 : decode cX1_smoothOut 4 = .ok (.getfield 18, 3) := by decide +kernel
theorem dX1_smoothOut_7 : decode cX1_smoothOut 7 = .ok (.invokevirtual 67, 3) := by decide +kernel
theorem dX1_smoothOut_10 : decode cX1_smoothOut 10 = .ok (.if_icmp .ge 108, 3) := by decide +kernel
theorem dX1_smoothOut_13 : decode cX1_smoothOut 13 = .ok (.iload_n 1, 1) := by decide +kernel
theorem dX1_smoothOut_14 : decode cX1_smoothOut 14 = .ok (.i2l, 1) := by decide +kernel
theorem dX1_smoothOut_15 : decode cX1_smoothOut 15 = .ok (.aload_n 0, 1) := by decide +kernel
theorem dX1_smoothOut_16 : decode cX1_smoothOut 16 = .ok (.getfield 18, 3) := by decide +kernel
theorem dX1_smoothOut_19 : decode cX1_smoothOut 19 = .ok (.getfield 38, 3) := by decide +kernel
theorem dX1_smoothOut_22 : decode cX1_smoothOut 22 = .ok (.iload_n 2, 1) := by decide +kernel
theorem dX1_smoothOut_23 : decode cX1_smoothOut 23 = .ok (.iaload, 1) := by decide +kernel
theorem dX1_smoothOut_24 : decode cX1_smoothOut 24 = .ok (.i2l, 1) := by decide +kernel
theorem dX1_smoothOut_25 : decode cX1_smoothOut 25 = .ok (.lmul, 1) := by decide +kernel
theorem dX1_smoothOut_26 : decode cX1_smoothOut 26 = .ok (.lstore_n 3, 1) := by decide +kernel
theorem dX1_smoothOut_27 : decode cX1_smoothOut 27 = .ok (.iload_n 1, 1) := by decide +kernel
theorem dX1_smoothOut_28 : decode cX1_smoothOut 28 = .ok (.istore 5, 2) := by decide +kernel
theorem dX1_smoothOut_30 : decode cX1_smoothOut 30 = .ok (.iconst 0, 1) := by decide +kernel
theorem dX1_smoothOut_31 : decode cX1_smoothOut 31 = .ok (.istore 6, 2) := by decide +kernel
theorem dX1_smoothOut_33 : decode cX1_smoothOut 33 = .ok (.iload 6, 2) := by decide +kernel
theorem dX1_smoothOut_35 : decode cX1_smoothOut 35 = .ok (.aload_n 0, 1) := by decide +kernel
theorem dX1_smoothOut_36 : decode cX1_smoothOut 36 = .ok (.getfield 22, 3) := by decide +kernel
theorem dX1_smoothOut_39 : decode cX1_smoothOut 39 = .ok (.getfield 132, 3) := by decide +kernel
theorem dX1_smoothOut_42 : decode cX1_smoothOut 42 = .ok (.iload_n 2, 1) := by decide +kernel
theorem dX1_smoothOut_43 : decode cX1_smoothOut 43 = .ok (.iaload, 1) := by decide +kernel
theorem dX1_smoothOut_44 : decode cX1_smoothOut 44 = .ok (.if_icmp .ge 54, 3) := by decide +kernel
theorem dX1_smoothOut_47 : decode cX1_smoothOut 47 = .ok (.aload_n 0, 1) := by decide +kernel
theorem dX1_smoothOut_48 : decode cX1_smoothOut 48 = .ok (.getfield 22, 3) := by decide +kernel
theorem dX1_smoothOut_51 : decode cX1_smoothOut 51 = .ok (.getfield 135, 3) := by decide +kernel
theorem dX1_smoothOut_54 : decode cX1_smoothOut 54 = .ok (.iload_n 2, 1) := by decide +kernel
theorem dX1_smoothOut_55 : decode cX1_smoothOut 55 = .ok (.aaload, 1) := by decide +kernel
theorem dX1_smoothOut_56 : decode cX1_smoothOut 56 = .ok (.iload 6, 2) := by decide +kernel
theorem dX1_smoothOut_58 : decode cX1_smoothOut 58 = .ok (.iaload, 1) := by decide +kernel
theorem dX1_smoothOut_59 : decode cX1_smoothOut 59 = .ok (.sipush 1000, 3) := by decide +kernel
theorem dX1_smoothOut_62 : decode cX1_smoothOut 62 = .ok (.if_icmp .ne 30, 3) := by decide +kernel
theorem dX1_smoothOut_65 : decode cX1_smoothOut 65 = .ok (.lload_n 3, 1) := by decide +kernel
theorem dX1_smoothOut_66 : decode cX1_smoothOut 66 = .ok (.aload_n 0, 1) := by decide +kernel
theorem dX1_smoothOut_67 : decode cX1_smoothOut 67 = .ok (.getfield 18, 3) := by decide +kernel
theorem dX1_smoothOut_70 : decode cX1_smoothOut 70 = .ok (.getfield 38, 3) := by decide +kernel
theorem dX1_smoothOut_73 : decode cX1_smoothOut 73 = .ok (.aload_n 0, 1) := by decide +kernel
theorem dX1_smoothOut_74 : decode cX1_smoothOut 74 = .ok (.getfield 22, 3) := by decide +kernel
theorem dX1_smoothOut_77 : decode cX1_smoothOut 77 = .ok (.getfield 138, 3) := by decide +kernel
theorem dX1_smoothOut_80 : decode cX1_smoothOut 80 = .ok (.iload_n 2, 1) := by decide +kernel
theorem dX1_smoothOut_81 : decode cX1_smoothOut 81 = .ok (.aaload, 1) := by decide +kernel
theorem dX1_smoothOut_82 : decode cX1_smoothOut 82 = .ok (.iload 6, 2) := by decide +kernel
theorem dX1_smoothOut_84 : decode cX1_smoothOut 84 = .ok (.iaload, 1) := by decide +kernel
theorem dX1_smoothOut_85 : decode cX1_smoothOut 85 = .ok (.iaload, 1) := by decide +kernel
theorem dX1_smoothOut_86 : decode cX1_smoothOut 86 = .ok (.i2l, 1) := by decide +kernel
theorem dX1_smoothOut_87 : decode cX1_smoothOut 87 = .ok (.ladd, 1) := by decide +kernel
theorem dX1_smoothOut_88 : decode cX1_smoothOut 88 = .ok (.lstore_n 3, 1) := by decide +kernel
theorem dX1_smoothOut_89 : decode cX1_smoothOut 89 = .ok (.iinc 5 1, 3) := by decide +kernel
theorem dX1_smoothOut_92 : decode cX1_smoothOut 92 = .ok (.iinc 6 1, 3) := by decide +kernel
theorem dX1_smoothOut_95 : decode cX1_smoothOut 95 = .ok (.goto (-62), 3) := by decide +kernel
theorem dX1_smoothOut_98 : decode cX1_smoothOut 98 = .ok (.aload_n 0, 1) := by decide +kernel
theorem dX1_smoothOut_99 : decode cX1_smoothOut 99 = .ok (.getfield 9, 3) := by decide +kernel
theorem dX1_smoothOut_102 : decode cX1_smoothOut 102 = .ok (.iload_n 2, 1) := by decide +kernel
theorem dX1_smoothOut_103 : decode cX1_smoothOut 103 = .ok (.lload_n 3, 1) := by decide +kernel
theorem dX1_smoothOut_104 : decode cX1_smoothOut 104 = .ok (.iload 5, 2) := by decide +kernel
theorem dX1_smoothOut_106 : decode cX1_smoothOut 106 = .ok (.i2l, 1) := by decide +kernel
theorem dX1_smoothOut_107 : decode cX1_smoothOut 107 = .ok (.invokestatic 123, 3) := by decide +kernel
theorem dX1_smoothOut_110 : decode cX1_smoothOut 110 = .ok (.l2i, 1) := by decide +kernel
theorem dX1_smoothOut_111 : decode cX1_smoothOut 111 = .ok (.iastore, 1) := by decide +kernel
theorem dX1_smoothOut_112 : decode cX1_smoothOut 112 = .ok (.iinc 2 1, 3) := by decide +kernel
theorem dX1_smoothOut_115 : decode cX1_smoothOut 115 = .ok (.goto (-113), 3) := by decide +kernel
theorem dX1_smoothOut_118 : decode cX1_smoothOut 118 = .ok (.aload_n 0, 1) := by decide +kernel
theorem dX1_smoothOut_119 : decode cX1_smoothOut 119 = .ok (.aload_n 0, 1) := by decide +kernel
theorem dX1_smoothOut_120 : decode cX1_smoothOut 120 = .ok (.getfield 18, 3) := by decide +kernel
theorem dX1_smoothOut_123 : decode cX1_smoothOut 123 = .ok (.getfield 38, 3) := by decide +kernel
theorem dX1_smoothOut_126 : decode cX1_smoothOut 126 = .ok (.invokevirtual 63, 3) := by decide +kernel
theorem dX1_smoothOut_129 : decode cX1_smoothOut 129 = .ok (.ireturn, 1) := by decide +kernel
theorem dX1_fillGaps_0 : decode cX1_fillGaps 0 = .ok (.iconst 0, 1) := by decide +kernel
theorem dX1_fillGaps_1 : decode cX1_fillGaps 1 = .ok (.istore_n 1, 1) := by decide +kernel
theorem dX1_fillGaps_2 : decode cX1_fillGaps 2 = .ok (.iload_n 1, 1) := by decide +kernel
theorem dX1_fillGaps_3 : decode cX1_fillGaps 3 = .ok (.aload_n 0, 1) := by decide +kernel
theorem dX1_fillGaps_4 : decode cX1_fillGaps 4 = .ok (.getfield 18, 3) := by decide +kernel
theorem dX1_fillGaps_7 : decode cX1_fillGaps 7 = .ok (.invokevirtual 67, 3) := by decide +kernel
theorem dX1_fillGaps_10 : decode cX1_fillGaps 10 = .ok (.if_icmp .ge 23, 3) := by decide +kernel
theorem dX1_fillGaps_13 : decode cX1_fillGaps 13 = .ok (.aload_n 0, 1) := by decide +kernel
theorem dX1_fillGaps_14 : decode cX1_fillGaps 14 = .ok (.getfield 15, 3) := by decide +kernel
theorem dX1_fillGaps_17 : decode cX1_fillGaps 17 = .ok (.iload_n 1, 1) := by decide +kernel
theorem dX1_fillGaps_18 : decode cX1_fillGaps 18 = .ok (.aload_n 0, 1) := by decide +kernel
theorem dX1_fillGaps_19 : decode cX1_fillGaps 19 = .ok (.getfield 34, 3) := by decide +kernel
theorem dX1_fillGaps_22 : decode cX1_fillGaps 22 = .ok (.iload_n 1, 1) := by decide +kernel
theorem dX1_fillGaps_23 : decode cX1_fillGaps 23 = .ok (.invokevirtual 141, 3) := by decide +kernel
theorem dX1_fillGaps_26 : decode cX1_fillGaps 26 = .ok (.iastore, 1) := by decide +kernel
theorem dX1_fillGaps_27 : decode cX1_fillGaps 27 = .ok (.iinc 1 1, 3) := by decide +kernel
theorem dX1_fillGaps_30 : decode cX1_fillGaps 30 = .ok (.goto (-28), 3) := by decide +kernel
theorem dX1_fillGaps_33 : decode cX1_fillGaps 33 = .ok (.iconst 0, 1) := by decide +kernel
theorem dX1_fillGaps_34 : decode cX1_fillGaps 34 = .ok (.istore_n 1, 1) := by decide +kernel
theorem dX1_fillGaps_35 : decode cX1_fillGaps 35 = .ok (.iload_n 1, 1) := by decide +kernel
theorem dX1_fillGaps_36 : decode cX1_fillGaps 36 = .ok (.aload_n 0, 1) := by decide +kernel
theorem dX1_fillGaps_37 : decode cX1_fillGaps 37 = .ok (.getfield 18, 3) := by decide +kernel
theorem dX1_fillGaps_40 : decode cX1_fillGaps 40 = .ok (.invokevirtual 67, 3) := by decide +kernel
theorem dX1_fillGaps_43 : decode cX1_fillGaps 43 = .ok (.if_icmp .ge 41, 3) := by decide +kernel
theorem dX1_fillGaps_46 : decode cX1_fillGaps 46 = .ok (.aload_n 0, 1) := by decide +kernel
theorem dX1_fillGaps_47 : decode cX1_fillGaps 47 = .ok (.getfield 9, 3) := by decide +kernel
theorem dX1_fillGaps_50 : decode cX1_fillGaps 50 = .ok (.iload_n 1, 1) := by decide +kernel
theorem dX1_fillGaps_51 : decode cX1_fillGaps 51 = .ok (.aload_n 0, 1) := by decide +kernel
theorem dX1_fillGaps_52 : decode cX1_fillGaps 52 = .ok (.getfield 15, 3) := by decide +kernel
theorem dX1_fillGaps_55 : decode cX1_fillGaps 55 = .ok (.iload_n 1, 1) := by decide +kernel
theorem dX1_fillGaps_56 : decode cX1_fillGaps 56 = .ok (.iaload, 1) := by decide +kernel
theorem dX1_fillGaps_57 : decode cX1_fillGaps 57 = .ok (.ifCond .ne 11, 3) := by decide +kernel
theorem dX1_fillGaps_60 : decode cX1_fillGaps 60 = .ok (.aload_n 0, 1) := by decide +kernel
theorem dX1_fillGaps_61 : decode cX1_fillGaps 61 = .ok (.iload_n 1, 1) := by decide +kernel
theorem dX1_fillGaps_62 : decode cX1_fillGaps 62 = .ok (.invokevirtual 146, 3) := by decide +kernel
theorem dX1_fillGaps_65 : decode cX1_fillGaps 65 = .ok (.goto 12, 3) := by decide +kernel
theorem dX1_fillGaps_68 : decode cX1_fillGaps 68 = .ok (.aload_n 0, 1) := by decide +kernel
theorem dX1_fillGaps_69 : decode cX1_fillGaps 69 = .ok (.getfield 18, 3) := by decide +kernel
theorem dX1_fillGaps_72 : decode cX1_fillGaps 72 = .ok (.getfield 38, 3) := by decide +kernel
theorem dX1_fillGaps_75 : decode cX1_fillGaps 75 = .ok (.iload_n 1, 1) := by decide +kernel
theorem dX1_fillGaps_76 : decode cX1_fillGaps 76 = .ok (.iaload, 1) := by decide +kernel
theorem dX1_fillGaps_77 : decode cX1_fillGaps 77 = .ok (.iastore, 1) := by decide +kernel
theorem dX1_fillGaps_78 : decode cX1_fillGaps 78 = .ok (.iinc 1 1, 3) := by decide +kernel
theorem dX1_fillGaps_81 : decode cX1_fillGaps 81 = .ok (.goto (-46), 3) := by decide +kernel
theorem dX1_fillGaps_84 : decode cX1_fillGaps 84 = .ok (.aload_n 0, 1) := by decide +kernel
theorem dX1_fillGaps_85 : decode cX1_fillGaps 85 = .ok (.aload_n 0, 1) := by decide +kernel
theorem dX1_fillGaps_86 : decode cX1_fillGaps 86 = .ok (.getfield 18, 3) := by decide +kernel
theorem dX1_fillGaps_89 : decode cX1_fillGaps 89 = .ok (.getfield 38, 3) := by decide +kernel
theorem dX1_fillGaps_92 : decode cX1_fillGaps 92 = .ok (.invokevirtual 63, 3) := by decide +kernel
theorem dX1_fillGaps_95 : decode cX1_fillGaps 95 = .ok (.ireturn, 1) := by decide +kernel
theorem dX1_meanAround_0 : decode cX1_meanAround 0 = .ok (.lconst 0, 1) := by decide +kernel
theorem dX1_meanAround_1 : decode cX1_meanAround 1 = .ok (.lstore_n 2, 1) := by decide +kernel
theorem dX1_meanAround_2 : decode cX1_meanAround 2 = .ok (.iconst 0, 1) := by decide +kernel
theorem dX1_meanAround_3 : decode cX1_meanAround 3 = .ok (.istore 4, 2) := by decide +kernel
theorem dX1_meanAround_5 : decode cX1_meanAround 5 = .ok (.iconst 0, 1) := by decide +kernel
theorem dX1_meanAround_6 : decode cX1_meanAround 6 = .ok (.istore 5, 2) := by decide +kernel
theorem dX1_meanAround_8 : decode cX1_meanAround 8 = .ok (.iload 5, 2) := by decide +kernel
theorem dX1_meanAround_10 : decode cX1_meanAround 10 = .ok (.aload_n 0, 1) := by decide +kernel
theorem dX1_meanAround_11 : decode cX1_meanAround 11 = .ok (.getfield 22, 3) := by decide +kernel
theorem dX1_meanAround_14 : decode cX1_meanAround 14 = .ok (.getfield 132, 3) := by decide +kernel
theorem dX1_meanAround_17 : decode cX1_meanAround 17 = .ok (.iload_n 1, 1) := by decide +kernel
theorem dX1_meanAround_18 : decode cX1_meanAround 18 = .ok (.iaload, 1) := by decide +kernel
theorem dX1_meanAround_19 : decode cX1_meanAround 19 = .ok (.if_icmp .ge 50, 3) := by decide +kernel
theorem dX1_meanAround_22 : decode cX1_meanAround 22 = .ok (.aload_n 0, 1) := by decide +kernel
theorem dX1_meanAround_23 : decode cX1_meanAround 23 = .ok (.getfield 22, 3) := by decide +kernel
theorem dX1_meanAround_26 : decode cX1_meanAround 26 = .ok (.getfield 138, 3) := by decide +kernel
theorem dX1_meanAround_29 : decode cX1_meanAround 29 = .ok (.iload_n 1, 1) := by decide +kernel
theorem dX1_meanAround_30 : decode cX1_meanAround 30 = .ok (.aaload, 1) := by decide +kernel
theorem dX1_meanAround_31 : decode cX1_meanAround 31 = .ok (.iload 5, 2) := by decide +kernel
theorem dX1_meanAround_33 : decode cX1_meanAround 33 = .ok (.iaload, 1) := by decide +kernel
theorem dX1_meanAround_34 : decode cX1_meanAround 34 = .ok (.istore 6, 2) := by decide +kernel
theorem dX1_meanAround_36 : decode cX1_meanAround 36 = .ok (.aload_n 0, 1) := by decide +kernel
theorem dX1_meanAround_37 : decode cX1_meanAround 37 = .ok (.getfield 15, 3) := by decide +kernel
theorem dX1_meanAround_40 : decode cX1_meanAround 40 = .ok (.iload 6, 2) := by decide +kernel
theorem dX1_meanAround_42 : decode cX1_meanAround 42 = .ok (.iaload, 1) := by decide +kernel
theorem dX1_meanAround_43 : decode cX1_meanAround 43 = .ok (.ifCond .le 20, 3) := by decide +kernel
theorem dX1_meanAround_46 : decode cX1_meanAround 46 = .ok (.lload_n 2, 1) := by decide +kernel
theorem dX1_meanAround_47 : decode cX1_meanAround 47 = .ok (.aload_n 0, 1) := by decide +kernel
theorem dX1_meanAround_48 : decode cX1_meanAround 48 = .ok (.getfield 18, 3) := by decide +kernel
theorem dX1_meanAround_51 : decode cX1_meanAround 51 = .ok (.getfield 38, 3) := by decide +kernel
theorem dX1_meanAround_54 : decode cX1_meanAround 54 = .ok (.iload 6, 2) := by decide +kernel
theorem dX1_meanAround_56 : decode cX1_meanAround 56 = .ok (.iaload, 1) := by decide +kernel
theorem dX1_meanAround_57 : decode cX1_meanAround 57 = .ok (.i2l, 1) := by decide +kernel
theorem dX1_meanAround_58 : decode cX1_meanAround 58 = .ok (.ladd, 1) := by decide +kernel
theorem dX1_meanAround_59 : decode cX1_meanAround 59 = .ok (.lstore_n 2, 1) := by decide +kernel
theorem dX1_meanAround_60 : decode cX1_meanAround 60 = .ok (.iinc 4 1, 3) := by decide +kernel
theorem dX1_meanAround_63 : decode cX1_meanAround 63 = .ok (.iinc 5 1, 3) := by decide +kernel
theorem dX1_meanAround_66 : decode cX1_meanAround 66 = .ok (.goto (-58), 3) := by decide +kernel
theorem dX1_meanAround_69 : decode cX1_meanAround 69 = .ok (.iload 4, 2) := by decide +kernel
theorem dX1_meanAround_71 : decode cX1_meanAround 71 = .ok (.ifCond .ne 15, 3) := by decide +kernel
theorem dX1_meanAround_74 : decode cX1_meanAround 74 = .ok (.aload_n 0, 1) := by decide +kernel
theorem dX1_meanAround_75 : decode cX1_meanAround 75 = .ok (.getfield 18, 3) := by decide +kernel
theorem dX1_meanAround_78 : decode cX1_meanAround 78 = .ok (.getfield 38, 3) := by decide +kernel
theorem dX1_meanAround_81 : decode cX1_meanAround 81 = .ok (.iload_n 1, 1) := by decide +kernel
theorem dX1_meanAround_82 : decode cX1_meanAround 82 = .ok (.iaload, 1) := by decide +kernel
theorem dX1_meanAround_83 : decode cX1_meanAround 83 = .ok (.goto 11, 3) := by decide +kernel
theorem dX1_meanAround_86 : decode cX1_meanAround 86 = .ok (.lload_n 2, 1) := by decide +kernel
theorem dX1_meanAround_87 : decode cX1_meanAround 87 = .ok (.iload 4, 2) := by decide +kernel
theorem dX1_meanAround_89 : decode cX1_meanAround 89 = .ok (.i2l, 1) := by decide +kernel
theorem dX1_meanAround_90 : decode cX1_meanAround 90 = .ok (.invokestatic 123, 3) := by decide +kernel
theorem dX1_meanAround_93 : decode cX1_meanAround 93 = .ok (.l2i, 1) := by decide +kernel
theorem dX1_meanAround_94 : decode cX1_meanAround 94 = .ok (.ireturn, 1) := by decide +kernel
theorem dX2_init_0 : decode cX2_init 0 = .ok (.aload_n 0, 1) := by decide +kernel
theorem dX2_init_1 : decode cX2_init 1 = .ok (.invokespecial 3, 3) := by decide +kernel
theorem dX2_init_4 : decode cX2_init 4 = .ok (.aload_n 0, 1) := by decide +kernel
theorem dX2_init_5 : decode cX2_init 5 = .ok (.bipush 64, 2) := by decide +kernel
theorem dX2_init_7 : decode cX2_init 7 = .ok (.newarray .int, 2) := by decide +kernel
theorem dX2_init_9 : decode cX2_init 9 = .ok (.putfield 9, 3) := by decide +kernel
theorem dX2_init_12 : decode cX2_init 12 = .ok (.aload_n 0, 1) := by decide +kernel
theorem dX2_init_13 : decode cX2_init 13 = .ok (.bipush 64, 2) := by decide +kernel
theorem dX2_init_15 : decode cX2_init 15 = .ok (.bipush 8, 2) := by decide +kernel
theorem dX2_init_17 : decode cX2_init 17 = .ok (.multianewarray 15 2, 4) := by decide +kernel
theorem dX2_init_21 : decode cX2_init 21 = .ok (.putfield 17, 3) := by decide +kernel
theorem dX2_init_24 : decode cX2_init 24 = .ok (.aload_n 0, 1) := by decide +kernel
theorem dX2_init_25 : decode cX2_init 25 = .ok (.bipush 64, 2) := by decide +kernel
theorem dX2_init_27 : decode cX2_init 27 = .ok (.bipush 8, 2) := by decide +kernel
theorem dX2_init_29 : decode cX2_init 29 = .ok (.multianewarray 15 2, 4) := by decide +kernel
theorem dX2_init_33 : decode cX2_init 33 = .ok (.putfield 20, 3) := by decide +kernel
theorem dX2_init_36 : decode cX2_init 36 = .ok (.return_, 1) := by decide +kernel
theorem dX2_lay_0 : decode cX2_lay 0 = .ok (.aload_n 0, 1) := by decide +kernel
theorem dX2_lay_1 : decode cX2_lay 1 = .ok (.iload_n 1, 1) := by decide +kernel
theorem dX2_lay_2 : decode cX2_lay 2 = .ok (.iload_n 2, 1) := by decide +kernel
theorem dX2_lay_3 : decode cX2_lay 3 = .ok (.imul, 1) := by decide +kernel
theorem dX2_lay_4 : decode cX2_lay 4 = .ok (.putfield 23, 3) := by decide +kernel
theorem dX2_lay_7 : decode cX2_lay 7 = .ok (.iconst 0, 1) := by decide +kernel
theorem dX2_lay_8 : decode cX2_lay 8 = .ok (.istore_n 3, 1) := by decide +kernel
theorem dX2_lay_9 : decode cX2_lay 9 = .ok (.iload_n 3, 1) := by decide +kernel
theorem dX2_lay_10 : decode cX2_lay 10 = .ok (.iload_n 2, 1) := by decide +kernel
theorem dX2_lay_11 : decode cX2_lay 11 = .ok (.if_icmp .ge 33, 3) := by decide +kernel
theorem dX2_lay_14 : decode cX2_lay 14 = .ok (.iconst 0, 1) := by decide +kernel
theorem dX2_lay_15 : decode cX2_lay 15 = .ok (.istore 4, 2) := by decide +kernel
theorem dX2_lay_17 : decode cX2_lay 17 = .ok (.iload 4, 2) := by decide +kernel
theorem dX2_lay_19 : decode cX2_lay 19 = .ok (.iload_n 1, 1) := by decide +kernel
theorem dX2_lay_20 : decode cX2_lay 20 = .ok (.if_icmp .ge 18, 3) := by decide +kernel
theorem dX2_lay_23 : decode cX2_lay 23 = .ok (.aload_n 0, 1) := by decide +kernel
theorem dX2_lay_24 : decode cX2_lay 24 = .ok (.iload 4, 2) := by decide +kernel
theorem dX2_lay_26 : decode cX2_lay 26 = .ok (.iload_n 3, 1) := by decide +kernel
theorem dX2_lay_27 : decode cX2_lay 27 = .ok (.iload_n 1, 1) := by decide +kernel
theorem dX2_lay_28 : decode cX2_lay 28 = .ok (.iload_n 2, 1) := by decide +kernel
theorem dX2_lay_29 : decode cX2_lay 29 = .ok (.invokevirtual 27, 3) := by decide +kernel
theorem dX2_lay_32 : decode cX2_lay 32 = .ok (.iinc 4 1, 3) := by decide +kernel
theorem dX2_lay_35 : decode cX2_lay 35 = .ok (.goto (-18), 3) := by decide +kernel
theorem dX2_lay_38 : decode cX2_lay 38 = .ok (.iinc 3 1, 3) := by decide +kernel
theorem dX2_lay_41 : decode cX2_lay 41 = .ok (.goto (-32), 3) := by decide +kernel
theorem dX2_lay_44 : decode cX2_lay 44 = .ok (.return_, 1) := by decide +kernel
theorem dX2_layCell_0 : decode cX2_layCell 0 = .ok (.iload_n 3, 1) := by decide +kernel
theorem dX2_layCell_1 : decode cX2_layCell 1 = .ok (.iload_n 2, 1) := by decide +kernel
theorem dX2_layCell_2 : decode cX2_layCell 2 = .ok (.imul, 1) := by decide +kernel
theorem dX2_layCell_3 : decode cX2_layCell 3 = .ok (.iload_n 1, 1) := by decide +kernel
theorem dX2_layCell_4 : decode cX2_layCell 4 = .ok (.iadd, 1) := by decide +kernel
theorem dX2_layCell_5 : decode cX2_layCell 5 = .ok (.istore 5, 2) := by decide +kernel
theorem dX2_layCell_7 : decode cX2_layCell 7 = .ok (.iconst 0, 1) := by decide +kernel
theorem dX2_layCell_8 : decode cX2_layCell 8 = .ok (.istore 6, 2) := by decide +kernel
theorem dX2_layCell_10 : decode cX2_layCell 10 = .ok (.iload_n 2, 1) := by decide +kernel
theorem dX2_layCell_11 : decode cX2_layCell 11 = .ok (.iconst 1, 1) := by decide +kernel
theorem dX2_layCell_12 : decode cX2_layCell 12 = .ok (.isub, 1) := by decide +kernel
theorem dX2_layCell_13 : decode cX2_layCell 13 = .ok (.iconst 0, 1) := by decide +kernel
theorem dX2_layCell_14 : decode cX2_layCell 14 = .ok (.invokestatic 31, 3) := by decide +kernel
theorem dX2_layCell_17 : decode cX2_layCell 17 = .ok (.istore 7, 2) := by decide +kernel
theorem dX2_layCell_19 : decode cX2_layCell 19 = .ok (.iload 7, 2) := by decide +kernel
theorem dX2_layCell_21 : decode cX2_layCell 21 = .ok (.iload_n 2, 1) := by decide +kernel
theorem dX2_layCell_22 : decode cX2_layCell 22 = .ok (.iconst 1, 1) := by decide +kernel
theorem dX2_layCell_23 : decode cX2_layCell 23 = .ok (.iadd, 1) := by decide +kernel
theorem dX2_layCell_24 : decode cX2_layCell 24 = .ok (.iload 4, 2) := by decide +kernel
theorem dX2_layCell_26 : decode cX2_layCell 26 = .ok (.iconst 1, 1) := by decide +kernel
theorem dX2_layCell_27 : decode cX2_layCell 27 = .ok (.isub, 1) := by decide +kernel
theorem dX2_layCell_28 : decode cX2_layCell 28 = .ok (.invokestatic 37, 3) := by decide +kernel
theorem dX2_layCell_31 : decode cX2_layCell 31 = .ok (.if_icmp .gt 101, 3) := by decide +kernel
theorem dX2_layCell_34 : decode cX2_layCell 34 = .ok (.iload_n 1, 1) := by decide +kernel
theorem dX2_layCell_35 : decode cX2_layCell 35 = .ok (.iconst 1, 1) := by decide +kernel
theorem dX2_layCell_36 : decode cX2_layCell 36 = .ok (.isub, 1) := by decide +kernel
theorem dX2_layCell_37 : decode cX2_layCell 37 = .ok (.iconst 0, 1) := by decide +kernel
theorem dX2_layCell_38 : decode cX2_layCell 38 = .ok (.invokestatic 31, 3) := by decide +kernel
theorem dX2_layCell_41 : decode cX2_layCell 41 = .ok (.istore 8, 2) := by decide +kernel
theorem dX2_layCell_43 : decode cX2_layCell 43 = .ok (.iload 8, 2) := by decide +kernel
theorem dX2_layCell_45 : decode cX2_layCell 45 = .ok (.iload_n 1, 1) := by decide +kernel
theorem dX2_layCell_46 : decode cX2_layCell 46 = .ok (.iconst 1, 1) := by decide +kernel
theorem dX2_layCell_47 : decode cX2_layCell 47 = .ok (.iadd, 1) := by decide +kernel
theorem dX2_layCell_48 : decode cX2_layCell 48 = .ok (.iload_n 3, 1) := by decide +kernel
theorem dX2_layCell_49 : decode cX2_layCell 49 = .ok (.iconst 1, 1) := by decide +kernel
theorem dX2_layCell_50 : decode cX2_layCell 50 = .ok (.isub, 1) := by decide +kernel
theorem dX2_layCell_51 : decode cX2_layCell 51 = .ok (.invokestatic 37, 3) := by decide +kernel
theorem dX2_layCell_54 : decode cX2_layCell 54 = .ok (.if_icmp .gt 72, 3) := by decide +kernel
theorem dX2_layCell_57 : decode cX2_layCell 57 = .ok (.iload 8, 2) := by decide +kernel
theorem dX2_layCell_59 : decode cX2_layCell 59 = .ok (.iload_n 1, 1) := by decide +kernel
theorem dX2_layCell_60 : decode cX2_layCell 60 = .ok (.if_icmp .ne 9, 3) := by decide +kernel
theorem dX2_layCell_63 : decode cX2_layCell 63 = .ok (.iload 7, 2) := by decide +kernel
theorem dX2_layCell_65 : decode cX2_layCell 65 = .ok (.iload_n 2, 1) := by decide +kernel
theorem dX2_layCell_66 : decode cX2_layCell 66 = .ok (.if_icmp .eq 54, 3) := by decide +kernel
theorem dX2_layCell_69 : decode cX2_layCell 69 = .ok (.aload_n 0, 1) := by decide +kernel
theorem dX2_layCell_70 : decode cX2_layCell 70 = .ok (.getfield 17, 3) := by decide +kernel
theorem dX2_layCell_73 : decode cX2_layCell 73 = .ok (.iload 5, 2) := by decide +kernel
theorem dX2_layCell_75 : decode cX2_layCell 75 = .ok (.aaload, 1) := by decide +kernel
theorem dX2_layCell_76 : decode cX2_layCell 76 = .ok (.iload 6, 2) := by decide +kernel
theorem dX2_layCell_78 : decode cX2_layCell 78 = .ok (.iload_n 3, 1) := by decide +kernel
theorem dX2_layCell_79 : decode cX2_layCell 79 = .ok (.iload 7, 2) := by decide +kernel
theorem dX2_layCell_81 : decode cX2_layCell 81 = .ok (.imul, 1) := by decide +kernel
theorem dX2_layCell_82 : decode cX2_layCell 82 = .ok (.iload 8, 2) := by decide +kernel
theorem dX2_layCell_84 : decode cX2_layCell 84 = .ok (.iadd, 1) := by decide +kernel
theorem dX2_layCell_85 : decode cX2_layCell 85 = .ok (.iastore, 1) := by decide +kernel
theorem dX2_layCell_86 : decode cX2_layCell 86 = .ok (.aload_n 0, 1) := by decide +kernel
theorem dX2_layCell_87 : decode cX2_layCell 87 = .ok (.getfield 20, 3) := by decide +kernel
theorem dX2_layCell_90 : decode cX2_layCell 90 = .ok (.iload 5, 2) := by decide +kernel
theorem dX2_layCell_92 : decode cX2_layCell 92 = .ok (.aaload, 1) := by decide +kernel
theorem dX2_layCell_93 : decode cX2_layCell 93 = .ok (.iload 6, 2) := by decide +kernel
theorem dX2_layCell_95 : decode cX2_layCell 95 = .ok (.iload 8, 2) := by decide +kernel
theorem dX2_layCell_97 : decode cX2_layCell 97 = .ok (.iload_n 1, 1) := by decide +kernel
theorem dX2_layCell_98 : decode cX2_layCell 98 = .ok (.if_icmp .eq 9, 3) := by decide +kernel
theorem dX2_layCell_101 : decode cX2_layCell 101 = .ok (.iload 7, 2) := by decide +kernel
theorem dX2_layCell_103 : decode cX2_layCell 103 = .ok (.iload_n 2, 1) := by decide +kernel
theorem dX2_layCell_104 : decode cX2_layCell 104 = .ok (.if_icmp .ne 9, 3) := by decide +kernel
theorem dX2_layCell_107 : decode cX2_layCell 107 = .ok (.sipush 1000, 3) := by decide +kernel
theorem dX2_layCell_110 : decode cX2_layCell 110 = .ok (.goto 6, 3) := by decide +kernel
theorem dX2_layCell_113 : decode cX2_layCell 113 = .ok (.sipush 1414, 3) := by decide +kernel
theorem dX2_layCell_116 : decode cX2_layCell 116 = .ok (.iastore, 1) := by decide +kernel
theorem dX2_layCell_117 : decode cX2_layCell 117 = .ok (.iinc 6 1, 3) := by decide +kernel
theorem dX2_layCell_120 : decode cX2_layCell 120 = .ok (.iinc 8 1, 3) := by decide +kernel
theorem dX2_layCell_123 : decode cX2_layCell 123 = .ok (.goto (-80), 3) := by decide +kernel
theorem dX2_layCell_126 : decode cX2_layCell 126 = .ok (.iinc 7 1, 3) := by decide +kernel
theorem dX2_layCell_129 : decode cX2_layCell 129 = .ok (.goto (-110), 3) := by decide +kernel
theorem dX2_layCell_132 : decode cX2_layCell 132 = .ok (.aload_n 0, 1) := by decide +kernel
theorem dX2_layCell_133 : decode cX2_layCell 133 = .ok (.getfield 9, 3) := by decide +kernel
theorem dX2_layCell_136 : decode cX2_layCell 136 = .ok (.iload 5, 2) := by decide +kernel
theorem dX2_layCell_138 : decode cX2_layCell 138 = .ok (.iload 6, 2) := by decide +kernel
theorem dX2_layCell_140 : decode cX2_layCell 140 = .ok (.iastore, 1) := by decide +kernel
theorem dX2_layCell_141 : decode cX2_layCell 141 = .ok (.return_, 1) := by decide +kernel
theorem dX3_init_0 : decode cX3_init 0 = .ok (.aload_n 0, 1) := by decide +kernel
theorem dX3_init_1 : decode cX3_init 1 = .ok (.invokespecial 3, 3) := by decide +kernel
theorem dX3_init_4 : decode cX3_init 4 = .ok (.aload_n 0, 1) := by decide +kernel
theorem dX3_init_5 : decode cX3_init 5 = .ok (.iconst 4, 1) := by decide +kernel
theorem dX3_init_6 : decode cX3_init 6 = .ok (.anewarray 9, 3) := by decide +kernel
theorem dX3_init_9 : decode cX3_init 9 = .ok (.putfield 11, 3) := by decide +kernel
theorem dX3_init_12 : decode cX3_init 12 = .ok (.iconst 0, 1) := by decide +kernel
theorem dX3_init_13 : decode cX3_init 13 = .ok (.istore_n 1, 1) := by decide +kernel
theorem dX3_init_14 : decode cX3_init 14 = .ok (.iload_n 1, 1) := by decide +kernel
theorem dX3_init_15 : decode cX3_init 15 = .ok (.iconst 4, 1) := by decide +kernel
theorem dX3_init_16 : decode cX3_init 16 = .ok (.if_icmp .ge 22, 3) := by decide +kernel
theorem dX3_init_19 : decode cX3_init 19 = .ok (.aload_n 0, 1) := by decide +kernel
theorem dX3_init_20 : decode cX3_init 20 = .ok (.getfield 11, 3) := by decide +kernel
theorem dX3_init_23 : decode cX3_init 23 = .ok (.iload_n 1, 1) := by decide +kernel
theorem dX3_init_24 : decode cX3_init 24 = .ok (.new 9, 3) := by decide +kernel
theorem dX3_init_27 : decode cX3_init 27 = .ok (.dup, 1) := by decide +kernel
theorem dX3_init_28 : decode cX3_init 28 = .ok (.invokespecial 17, 3) := by decide +kernel
theorem dX3_init_31 : decode cX3_init 31 = .ok (.aastore, 1) := by decide +kernel
theorem dX3_init_32 : decode cX3_init 32 = .ok (.iinc 1 1, 3) := by decide +kernel
theorem dX3_init_35 : decode cX3_init 35 = .ok (.goto (-21), 3) := by decide +kernel
theorem dX3_init_38 : decode cX3_init 38 = .ok (.return_, 1) := by decide +kernel
theorem dX3_save_0 : decode cX3_save 0 = .ok (.aload_n 0, 1) := by decide +kernel
theorem dX3_save_1 : decode cX3_save 1 = .ok (.getfield 11, 3) := by decide +kernel
theorem dX3_save_4 : decode cX3_save 4 = .ok (.aload_n 0, 1) := by decide +kernel
theorem dX3_save_5 : decode cX3_save 5 = .ok (.getfield 18, 3) := by decide +kernel
theorem dX3_save_8 : decode cX3_save 8 = .ok (.aload_n 0, 1) := by decide +kernel
theorem dX3_save_9 : decode cX3_save 9 = .ok (.getfield 22, 3) := by decide +kernel
theorem dX3_save_12 : decode cX3_save 12 = .ok (.iadd, 1) := by decide +kernel
theorem dX3_save_13 : decode cX3_save 13 = .ok (.iconst 4, 1) := by decide +kernel
theorem dX3_save_14 : decode cX3_save 14 = .ok (.irem, 1) := by decide +kernel
theorem dX3_save_15 : decode cX3_save 15 = .ok (.aaload, 1) := by decide +kernel
theorem dX3_save_16 : decode cX3_save 16 = .ok (.astore_n 2, 1) := by decide +kernel
theorem dX3_save_17 : decode cX3_save 17 = .ok (.aload_n 2, 1) := by decide +kernel
theorem dX3_save_18 : decode cX3_save 18 = .ok (.ifnonnull 4, 3) := by decide +kernel
theorem dX3_save_21 : decode cX3_save 21 = .ok (.return_, 1) := by decide +kernel
theorem dX3_save_22 : decode cX3_save 22 = .ok (.aload_n 2, 1) := by decide +kernel
theorem dX3_save_23 : decode cX3_save 23 = .ok (.aload_n 1, 1) := by decide +kernel
theorem dX3_save_24 : decode cX3_save 24 = .ok (.invokevirtual 25, 3) := by decide +kernel
theorem dX3_save_27 : decode cX3_save 27 = .ok (.aload_n 0, 1) := by decide +kernel
theorem dX3_save_28 : decode cX3_save 28 = .ok (.getfield 22, 3) := by decide +kernel
theorem dX3_save_31 : decode cX3_save 31 = .ok (.iconst 4, 1) := by decide +kernel
theorem dX3_save_32 : decode cX3_save 32 = .ok (.if_icmp .ge 16, 3) := by decide +kernel
theorem dX3_save_35 : decode cX3_save 35 = .ok (.aload_n 0, 1) := by decide +kernel
theorem dX3_save_36 : decode cX3_save 36 = .ok (.dup, 1) := by decide +kernel
theorem dX3_save_37 : decode cX3_save 37 = .ok (.getfield 22, 3) := by decide +kernel
theorem dX3_save_40 : decode cX3_save 40 = .ok (.iconst 1, 1) := by decide +kernel
theorem dX3_save_41 : decode cX3_save 41 = .ok (.iadd, 1) := by decide +kernel
theorem dX3_save_42 : decode cX3_save 42 = .ok (.putfield 22, 3) := by decide +kernel
theorem dX3_save_45 : decode cX3_save 45 = .ok (.goto 15, 3) := by decide +kernel
theorem dX3_save_48 : decode cX3_save 48 = .ok (.aload_n 0, 1) := by decide +kernel
theorem dX3_save_49 : decode cX3_save 49 = .ok (.aload_n 0, 1) := by decide +kernel
theorem dX3_save_50 : decode cX3_save 50 = .ok (.getfield 18, 3) := by decide +kernel
theorem dX3_save_53 : decode cX3_save 53 = .ok (.iconst 1, 1) := by decide +kernel
theorem dX3_save_54 : decode cX3_save 54 = .ok (.iadd, 1) := by decide +kernel
theorem dX3_save_55 : decode cX3_save 55 = .ok (.iconst 4, 1) := by decide +kernel
theorem dX3_save_56 : decode cX3_save 56 = .ok (.irem, 1) := by decide +kernel
theorem dX3_save_57 : decode cX3_save 57 = .ok (.putfield 18, 3) := by decide +kernel
theorem dX3_save_60 : decode cX3_save 60 = .ok (.return_, 1) := by decide +kernel
theorem dX3_restore_0 : decode cX3_restore 0 = .ok (.aload_n 0, 1) := by decide +kernel
theorem dX3_restore_1 : decode cX3_restore 1 = .ok (.getfield 22, 3) := by decide +kernel
theorem dX3_restore_4 : decode cX3_restore 4 = .ok (.ifCond .ne 4, 3) := by decide +kernel
theorem dX3_restore_7 : decode cX3_restore 7 = .ok (.return_, 1) := by decide +kernel
theorem dX3_restore_8 : decode cX3_restore 8 = .ok (.aload_n 0, 1) := by decide +kernel
theorem dX3_restore_9 : decode cX3_restore 9 = .ok (.dup, 1) := by decide +kernel
theorem dX3_restore_10 : decode cX3_restore 10 = .ok (.getfield 22, 3) := by decide +kernel
theorem dX3_restore_13 : decode cX3_restore 13 = .ok (.iconst 1, 1) := by decide +kernel
theorem dX3_restore_14 : decode cX3_restore 14 = .ok (.isub, 1) := by decide +kernel
theorem dX3_restore_15 : decode cX3_restore 15 = .ok (.putfield 22, 3) := by decide +kernel
theorem dX3_restore_18 : decode cX3_restore 18 = .ok (.aload_n 0, 1) := by decide +kernel
theorem dX3_restore_19 : decode cX3_restore 19 = .ok (.getfield 11, 3) := by decide +kernel
theorem dX3_restore_22 : decode cX3_restore 22 = .ok (.aload_n 0, 1) := by decide +kernel
theorem dX3_restore_23 : decode cX3_restore 23 = .ok (.getfield 18, 3) := by decide +kernel
theorem dX3_restore_26 : decode cX3_restore 26 = .ok (.aload_n 0, 1) := by decide +kernel
theorem dX3_restore_27 : decode cX3_restore 27 = .ok (.getfield 22, 3) := by decide +kernel
theorem dX3_restore_30 : decode cX3_restore 30 = .ok (.iadd, 1) := by decide +kernel
theorem dX3_restore_31 : decode cX3_restore 31 = .ok (.iconst 4, 1) := by decide +kernel
theorem dX3_restore_32 : decode cX3_restore 32 = .ok (.irem, 1) := by decide +kernel
theorem dX3_restore_33 : decode cX3_restore 33 = .ok (.aaload, 1) := by decide +kernel
theorem dX3_restore_34 : decode cX3_restore 34 = .ok (.astore_n 2, 1) := by decide +kernel
theorem dX3_restore_35 : decode cX3_restore 35 = .ok (.aload_n 2, 1) := by decide +kernel
theorem dX3_restore_36 : decode cX3_restore 36 = .ok (.ifnull 8, 3) := by decide +kernel
theorem dX3_restore_39 : decode cX3_restore 39 = .ok (.aload_n 1, 1) := by decide +kernel
theorem dX3_restore_40 : decode cX3_restore 40 = .ok (.aload_n 2, 1) := by decide +kernel
theorem dX3_restore_41 : decode cX3_restore 41 = .ok (.invokevirtual 25, 3) := by decide +kernel
theorem dX3_restore_44 : decode cX3_restore 44 = .ok (.return_, 1) := by decide +kernel
theorem dX4_init_0 : decode cX4_init 0 = .ok (.aload_n 0, 1) := by decide +kernel
theorem dX4_init_1 : decode cX4_init 1 = .ok (.invokespecial 3, 3) := by decide +kernel
theorem dX4_init_4 : decode cX4_init 4 = .ok (.aload_n 0, 1) := by decide +kernel
theorem dX4_init_5 : decode cX4_init 5 = .ok (.aload_n 1, 1) := by decide +kernel
theorem dX4_init_6 : decode cX4_init 6 = .ok (.putfield 9, 3) := by decide +kernel
theorem dX4_init_9 : decode cX4_init 9 = .ok (.aload_n 0, 1) := by decide +kernel
theorem dX4_init_10 : decode cX4_init 10 = .ok (.aload_n 2, 1) := by decide +kernel
theorem dX4_init_11 : decode cX4_init 11 = .ok (.putfield 15, 3) := by decide +kernel
theorem dX4_init_14 : decode cX4_init 14 = .ok (.return_, 1) := by decide +kernel
theorem dX4_activeRays_0 : decode cX4_activeRays 0 = .ok (.iconst 0, 1) := by decide +kernel
theorem dX4_activeRays_1 : decode cX4_activeRays 1 = .ok (.istore_n 1, 1) := by decide +kernel
theorem dX4_activeRays_2 : decode cX4_activeRays 2 = .ok (.iconst 0, 1) := by decide +kernel
theorem dX4_activeRays_3 : decode cX4_activeRays 3 = .ok (.istore_n 2, 1) := by decide +kernel
theorem dX4_activeRays_4 : decode cX4_activeRays 4 = .ok (.iload_n 2, 1) := by decide +kernel
theorem dX4_activeRays_5 : decode cX4_activeRays 5 = .ok (.aload_n 0, 1) := by decide +kernel
theorem dX4_activeRays_6 : decode cX4_activeRays 6 = .ok (.getfield 9, 3) := by decide +kernel
theorem dX4_activeRays_9 : decode cX4_activeRays 9 = .ok (.getfield 19, 3) := by decide +kernel
theorem dX4_activeRays_12 : decode cX4_activeRays 12 = .ok (.if_icmp .ge 23, 3) := by decide +kernel
theorem dX4_activeRays_15 : decode cX4_activeRays 15 = .ok (.aload_n 0, 1) := by decide +kernel
theorem dX4_activeRays_16 : decode cX4_activeRays 16 = .ok (.getfield 9, 3) := by decide +kernel
theorem dX4_activeRays_19 : decode cX4_activeRays 19 = .ok (.iload_n 2, 1) := by decide +kernel
theorem dX4_activeRays_20 : decode cX4_activeRays 20 = .ok (.invokevirtual 25, 3) := by decide +kernel
theorem dX4_activeRays_23 : decode cX4_activeRays 23 = .ok (.ifCond .eq 6, 3) := by decide +kernel
theorem dX4_activeRays_26 : decode cX4_activeRays 26 = .ok (.iinc 1 1, 3) := by decide +kernel
theorem dX4_activeRays_29 : decode cX4_activeRays 29 = .ok (.iinc 2 1, 3) := by decide +kernel
theorem dX4_activeRays_32 : decode cX4_activeRays 32 = .ok (.goto (-28), 3) := by decide +kernel
theorem dX4_activeRays_35 : decode cX4_activeRays 35 = .ok (.iload_n 1, 1) := by decide +kernel
theorem dX4_activeRays_36 : decode cX4_activeRays 36 = .ok (.ireturn, 1) := by decide +kernel
theorem dX4_coverage_0 : decode cX4_coverage 0 = .ok (.iconst 0, 1) := by decide +kernel
theorem dX4_coverage_1 : decode cX4_coverage 1 = .ok (.istore_n 2, 1) := by decide +kernel
theorem dX4_coverage_2 : decode cX4_coverage 2 = .ok (.iconst 0, 1) := by decide +kernel
theorem dX4_coverage_3 : decode cX4_coverage 3 = .ok (.istore_n 3, 1) := by decide +kernel
theorem dX4_coverage_4 : decode cX4_coverage 4 = .ok (.iload_n 3, 1) := by decide +kernel
theorem dX4_coverage_5 : decode cX4_coverage 5 = .ok (.aload_n 0, 1) := by decide +kernel
theorem dX4_coverage_6 : decode cX4_coverage 6 = .ok (.getfield 9, 3) := by decide +kernel
theorem dX4_coverage_9 : decode cX4_coverage 9 = .ok (.getfield 19, 3) := by decide +kernel
theorem dX4_coverage_12 : decode cX4_coverage 12 = .ok (.if_icmp .ge 46, 3) := by decide +kernel
theorem dX4_coverage_15 : decode cX4_coverage 15 = .ok (.aload_n 0, 1) := by decide +kernel
theorem dX4_coverage_16 : decode cX4_coverage 16 = .ok (.getfield 9, 3) := by decide +kernel
theorem dX4_coverage_19 : decode cX4_coverage 19 = .ok (.iload_n 3, 1) := by decide +kernel
theorem dX4_coverage_20 : decode cX4_coverage 20 = .ok (.invokevirtual 25, 3) := by decide +kernel
theorem dX4_coverage_23 : decode cX4_coverage 23 = .ok (.ifCond .eq 29, 3) := by decide +kernel
theorem dX4_coverage_26 : decode cX4_coverage 26 = .ok (.aload_n 0, 1) := by decide +kernel
theorem dX4_coverage_27 : decode cX4_coverage 27 = .ok (.getfield 15, 3) := by decide +kernel
theorem dX4_coverage_30 : decode cX4_coverage 30 = .ok (.iload_n 3, 1) := by decide +kernel
theorem dX4_coverage_31 : decode cX4_coverage 31 = .ok (.invokevirtual 29, 3) := by decide +kernel
theorem dX4_coverage_34 : decode cX4_coverage 34 = .ok (.pop2, 1) := by decide +kernel
theorem dX4_coverage_35 : decode cX4_coverage 35 = .ok (.aload_n 0, 1) := by decide +kernel
theorem dX4_coverage_36 : decode cX4_coverage 36 = .ok (.getfield 15, 3) := by decide +kernel
theorem dX4_coverage_39 : decode cX4_coverage 39 = .ok (.getfield 35, 3) := by decide +kernel
theorem dX4_coverage_42 : decode cX4_coverage 42 = .ok (.iload_n 3, 1) := by decide +kernel
theorem dX4_coverage_43 : decode cX4_coverage 43 = .ok (.aaload, 1) := by decide +kernel
theorem dX4_coverage_44 : decode cX4_coverage 44 = .ok (.iload_n 1, 1) := by decide +kernel
theorem dX4_coverage_45 : decode cX4_coverage 45 = .ok (.iaload, 1) := by decide +kernel
theorem dX4_coverage_46 : decode cX4_coverage 46 = .ok (.ifCond .le 6, 3) := by decide +kernel
theorem dX4_coverage_49 : decode cX4_coverage 49 = .ok (.iinc 2 1, 3) := by decide +kernel
theorem dX4_coverage_52 : decode cX4_coverage 52 = .ok (.iinc 3 1, 3) := by decide +kernel
theorem dX4_coverage_55 : decode cX4_coverage 55 = .ok (.goto (-51), 3) := by decide +kernel
theorem dX4_coverage_58 : decode cX4_coverage 58 = .ok (.iload_n 2, 1) := by decide +kernel
theorem dX4_coverage_59 : decode cX4_coverage 59 = .ok (.ireturn, 1) := by decide +kernel
theorem dX4_lengthSum_0 : decode cX4_lengthSum 0 = .ok (.iconst 0, 1) := by decide +kernel
theorem dX4_lengthSum_1 : decode cX4_lengthSum 1 = .ok (.istore_n 2, 1) := by decide +kernel
theorem dX4_lengthSum_2 : decode cX4_lengthSum 2 = .ok (.iconst 0, 1) := by decide +kernel
theorem dX4_lengthSum_3 : decode cX4_lengthSum 3 = .ok (.istore_n 3, 1) := by decide +kernel
theorem dX4_lengthSum_4 : decode cX4_lengthSum 4 = .ok (.iload_n 3, 1) := by decide +kernel
theorem dX4_lengthSum_5 : decode cX4_lengthSum 5 = .ok (.aload_n 0, 1) := by decide +kernel
theorem dX4_lengthSum_6 : decode cX4_lengthSum 6 = .ok (.getfield 9, 3) := by decide +kernel
theorem dX4_lengthSum_9 : decode cX4_lengthSum 9 = .ok (.getfield 19, 3) := by decide +kernel
theorem dX4_lengthSum_12 : decode cX4_lengthSum 12 = .ok (.if_icmp .ge 43, 3) := by decide +kernel
theorem dX4_lengthSum_15 : decode cX4_lengthSum 15 = .ok (.aload_n 0, 1) := by decide +kernel
theorem dX4_lengthSum_16 : decode cX4_lengthSum 16 = .ok (.getfield 9, 3) := by decide +kernel
theorem dX4_lengthSum_19 : decode cX4_lengthSum 19 = .ok (.iload_n 3, 1) := by decide +kernel
theorem dX4_lengthSum_20 : decode cX4_lengthSum 20 = .ok (.invokevirtual 25, 3) := by decide +kernel
theorem dX4_lengthSum_23 : decode cX4_lengthSum 23 = .ok (.ifCond .eq 26, 3) := by decide +kernel
theorem dX4_lengthSum_26 : decode cX4_lengthSum 26 = .ok (.aload_n 0, 1) := by decide +kernel
theorem dX4_lengthSum_27 : decode cX4_lengthSum 27 = .ok (.getfield 15, 3) := by decide +kernel
theorem dX4_lengthSum_30 : decode cX4_lengthSum 30 = .ok (.iload_n 3, 1) := by decide +kernel
theorem dX4_lengthSum_31 : decode cX4_lengthSum 31 = .ok (.invokevirtual 29, 3) := by decide +kernel
theorem dX4_lengthSum_34 : decode cX4_lengthSum 34 = .ok (.pop2, 1) := by decide +kernel
theorem dX4_lengthSum_35 : decode cX4_lengthSum 35 = .ok (.iload_n 2, 1) := by decide +kernel
theorem dX4_lengthSum_36 : decode cX4_lengthSum 36 = .ok (.aload_n 0, 1) := by decide +kernel
theorem dX4_lengthSum_37 : decode cX4_lengthSum 37 = .ok (.getfield 15, 3) := by decide +kernel
theorem dX4_lengthSum_40 : decode cX4_lengthSum 40 = .ok (.getfield 35, 3) := by decide +kernel
theorem dX4_lengthSum_43 : decode cX4_lengthSum 43 = .ok (.iload_n 3, 1) := by decide +kernel
theorem dX4_lengthSum_44 : decode cX4_lengthSum 44 = .ok (.aaload, 1) := by decide +kernel
theorem dX4_lengthSum_45 : decode cX4_lengthSum 45 = .ok (.iload_n 1, 1) := by decide +kernel
theorem dX4_lengthSum_46 : decode cX4_lengthSum 46 = .ok (.iaload, 1) := by decide +kernel
theorem dX4_lengthSum_47 : decode cX4_lengthSum 47 = .ok (.iadd, 1) := by decide +kernel
theorem dX4_lengthSum_48 : decode cX4_lengthSum 48 = .ok (.istore_n 2, 1) := by decide +kernel
theorem dX4_lengthSum_49 : decode cX4_lengthSum 49 = .ok (.iinc 3 1, 3) := by decide +kernel
theorem dX4_lengthSum_52 : decode cX4_lengthSum 52 = .ok (.goto (-48), 3) := by decide +kernel
theorem dX4_lengthSum_55 : decode cX4_lengthSum 55 = .ok (.iload_n 2, 1) := by decide +kernel
theorem dX4_lengthSum_56 : decode cX4_lengthSum 56 = .ok (.ireturn, 1) := by decide +kernel
theorem dX4_uncoveredCells_0 : decode cX4_uncoveredCells 0 = .ok (.iconst 0, 1) := by decide +kernel
theorem dX4_uncoveredCells_1 : decode cX4_uncoveredCells 1 = .ok (.istore_n 1, 1) := by decide +kernel
theorem dX4_uncoveredCells_2 : decode cX4_uncoveredCells 2 = .ok (.iconst 0, 1) := by decide +kernel
theorem dX4_uncoveredCells_3 : decode cX4_uncoveredCells 3 = .ok (.istore_n 2, 1) := by decide +kernel
theorem dX4_uncoveredCells_4 : decode cX4_uncoveredCells 4 = .ok (.iload_n 2, 1) := by decide +kernel
theorem dX4_uncoveredCells_5 : decode cX4_uncoveredCells 5 = .ok (.aload_n 0, 1) := by decide +kernel
theorem dX4_uncoveredCells_6 : decode cX4_uncoveredCells 6 = .ok (.getfield 9, 3) := by decide +kernel
theorem dX4_uncoveredCells_9 : decode cX4_uncoveredCells 9 = .ok (.invokevirtual 39, 3) := by decide +kernel
theorem dX4_uncoveredCells_12 : decode cX4_uncoveredCells 12 = .ok (.if_icmp .ge 20, 3) := by decide +kernel
theorem dX4_uncoveredCells_15 : decode cX4_uncoveredCells 15 = .ok (.aload_n 0, 1) := by decide +kernel
theorem dX4_uncoveredCells_16 : decode cX4_uncoveredCells 16 = .ok (.iload_n 2, 1) := by decide +kernel
theorem dX4_uncoveredCells_17 : decode cX4_uncoveredCells 17 = .ok (.invokevirtual 43, 3) := by decide +kernel
theorem dX4_uncoveredCells_20 : decode cX4_uncoveredCells 20 = .ok (.ifCond .ne 6, 3) := by decide +kernel
theorem dX4_uncoveredCells_23 : decode cX4_uncoveredCells 23 = .ok (.iinc 1 1, 3) := by decide +kernel
theorem dX4_uncoveredCells_26 : decode cX4_uncoveredCells 26 = .ok (.iinc 2 1, 3) := by decide +kernel
theorem dX4_uncoveredCells_29 : decode cX4_uncoveredCells 29 = .ok (.goto (-25), 3) := by decide +kernel
theorem dX4_uncoveredCells_32 : decode cX4_uncoveredCells 32 = .ok (.iload_n 1, 1) := by decide +kernel
theorem dX4_uncoveredCells_33 : decode cX4_uncoveredCells 33 = .ok (.ireturn, 1) := by decide +kernel
theorem dX4_cellsOutsideBounds_0 : decode cX4_cellsOutsideBounds 0 = .ok (.iconst 0, 1) := by decide +kernel
theorem dX4_cellsOutsideBounds_1 : decode cX4_cellsOutsideBounds 1 = .ok (.istore_n 1, 1) := by decide +kernel
theorem dX4_cellsOutsideBounds_2 : decode cX4_cellsOutsideBounds 2 = .ok (.iconst 0, 1) := by decide +kernel
theorem dX4_cellsOutsideBounds_3 : decode cX4_cellsOutsideBounds 3 = .ok (.istore_n 2, 1) := by decide +kernel
theorem dX4_cellsOutsideBounds_4 : decode cX4_cellsOutsideBounds 4 = .ok (.iload_n 2, 1) := by decide +kernel
theorem dX4_cellsOutsideBounds_5 : decode cX4_cellsOutsideBounds 5 = .ok (.aload_n 0, 1) := by decide +kernel
theorem dX4_cellsOutsideBounds_6 : decode cX4_cellsOutsideBounds 6 = .ok (.getfield 9, 3) := by decide +kernel
theorem dX4_cellsOutsideBounds_9 : decode cX4_cellsOutsideBounds 9 = .ok (.invokevirtual 39, 3) := by decide +kernel
theorem dX4_cellsOutsideBounds_12 : decode cX4_cellsOutsideBounds 12 = .ok (.if_icmp .ge 41, 3) := by decide +kernel
theorem dX4_cellsOutsideBounds_15 : decode cX4_cellsOutsideBounds 15 = .ok (.aload_n 0, 1) := by decide +kernel
theorem dX4_cellsOutsideBounds_16 : decode cX4_cellsOutsideBounds 16 = .ok (.getfield 9, 3) := by decide +kernel
theorem dX4_cellsOutsideBounds_19 : decode cX4_cellsOutsideBounds 19 = .ok (.getfield 47, 3) := by decide +kernel
theorem dX4_cellsOutsideBounds_22 : decode cX4_cellsOutsideBounds 22 = .ok (.iload_n 2, 1) := by decide +kernel
theorem dX4_cellsOutsideBounds_23 : decode cX4_cellsOutsideBounds 23 = .ok (.iaload, 1) := by decide +kernel
theorem dX4_cellsOutsideBounds_24 : decode cX4_cellsOutsideBounds 24 = .ok (.aload_n 0, 1) := by decide +kernel
theorem dX4_cellsOutsideBounds_25 : decode cX4_cellsOutsideBounds 25 = .ok (.getfield 9, 3) := by decide +kernel
theorem dX4_cellsOutsideBounds_28 : decode cX4_cellsOutsideBounds 28 = .ok (.getfield 51, 3) := by decide +kernel
theorem dX4_cellsOutsideBounds_31 : decode cX4_cellsOutsideBounds 31 = .ok (.aload_n 0, 1) := by decide +kernel
theorem dX4_cellsOutsideBounds_32 : decode cX4_cellsOutsideBounds 32 = .ok (.getfield 9, 3) := by decide +kernel
theorem dX4_cellsOutsideBounds_35 : decode cX4_cellsOutsideBounds 35 = .ok (.getfield 54, 3) := by decide +kernel
theorem dX4_cellsOutsideBounds_38 : decode cX4_cellsOutsideBounds 38 = .ok (.invokestatic 57, 3) := by decide +kernel
theorem dX4_cellsOutsideBounds_41 : decode cX4_cellsOutsideBounds 41 = .ok (.ifCond .ne 6, 3) := by decide +kernel
theorem dX4_cellsOutsideBounds_44 : decode cX4_cellsOutsideBounds 44 = .ok (.iinc 1 1, 3) := by decide +kernel
theorem dX4_cellsOutsideBounds_47 : decode cX4_cellsOutsideBounds 47 = .ok (.iinc 2 1, 3) := by decide +kernel
theorem dX4_cellsOutsideBounds_50 : decode cX4_cellsOutsideBounds 50 = .ok (.goto (-46), 3) := by decide +kernel
theorem dX4_cellsOutsideBounds_53 : decode cX4_cellsOutsideBounds 53 = .ok (.iload_n 1, 1) := by decide +kernel
theorem dX4_cellsOutsideBounds_54 : decode cX4_cellsOutsideBounds 54 = .ok (.ireturn, 1) := by decide +kernel
theorem dX4_misfitSum_0 : decode cX4_misfitSum 0 = .ok (.lconst 0, 1) := by decide +kernel
theorem dX4_misfitSum_1 : decode cX4_misfitSum 1 = .ok (.lstore_n 1, 1) := by decide +kernel
theorem dX4_misfitSum_2 : decode cX4_misfitSum 2 = .ok (.iconst 0, 1) := by decide +kernel
theorem dX4_misfitSum_3 : decode cX4_misfitSum 3 = .ok (.istore_n 3, 1) := by decide +kernel
theorem dX4_misfitSum_4 : decode cX4_misfitSum 4 = .ok (.iload_n 3, 1) := by decide +kernel
theorem dX4_misfitSum_5 : decode cX4_misfitSum 5 = .ok (.aload_n 0, 1) := by decide +kernel
theorem dX4_misfitSum_6 : decode cX4_misfitSum 6 = .ok (.getfield 9, 3) := by decide +kernel
theorem dX4_misfitSum_9 : decode cX4_misfitSum 9 = .ok (.getfield 19, 3) := by decide +kernel
theorem dX4_misfitSum_12 : decode cX4_misfitSum 12 = .ok (.if_icmp .ge 44, 3) := by decide +kernel
theorem dX4_misfitSum_15 : decode cX4_misfitSum 15 = .ok (.aload_n 0, 1) := by decide +kernel
theorem dX4_misfitSum_16 : decode cX4_misfitSum 16 = .ok (.getfield 9, 3) := by decide +kernel
theorem dX4_misfitSum_19 : decode cX4_misfitSum 19 = .ok (.iload_n 3, 1) := by decide +kernel
theorem dX4_misfitSum_20 : decode cX4_misfitSum 20 = .ok (.invokevirtual 25, 3) := by decide +kernel
theorem dX4_misfitSum_23 : decode cX4_misfitSum 23 = .ok (.ifCond .eq 27, 3) := by decide +kernel
theorem dX4_misfitSum_26 : decode cX4_misfitSum 26 = .ok (.lload_n 1, 1) := by decide +kernel
theorem dX4_misfitSum_27 : decode cX4_misfitSum 27 = .ok (.aload_n 0, 1) := by decide +kernel
theorem dX4_misfitSum_28 : decode cX4_misfitSum 28 = .ok (.getfield 9, 3) := by decide +kernel
theorem dX4_misfitSum_31 : decode cX4_misfitSum 31 = .ok (.getfield 61, 3) := by decide +kernel
theorem dX4_misfitSum_34 : decode cX4_misfitSum 34 = .ok (.iload_n 3, 1) := by decide +kernel
theorem dX4_misfitSum_35 : decode cX4_misfitSum 35 = .ok (.laload, 1) := by decide +kernel
theorem dX4_misfitSum_36 : decode cX4_misfitSum 36 = .ok (.aload_n 0, 1) := by decide +kernel
theorem dX4_misfitSum_37 : decode cX4_misfitSum 37 = .ok (.getfield 15, 3) := by decide +kernel
theorem dX4_misfitSum_40 : decode cX4_misfitSum 40 = .ok (.iload_n 3, 1) := by decide +kernel
theorem dX4_misfitSum_41 : decode cX4_misfitSum 41 = .ok (.invokevirtual 29, 3) := by decide +kernel
theorem dX4_misfitSum_44 : decode cX4_misfitSum 44 = .ok (.lsub, 1) := by decide +kernel
theorem dX4_misfitSum_45 : decode cX4_misfitSum 45 = .ok (.invokestatic 65, 3) := by decide +kernel
theorem dX4_misfitSum_48 : decode cX4_misfitSum 48 = .ok (.ladd, 1) := by decide +kernel
theorem dX4_misfitSum_49 : decode cX4_misfitSum 49 = .ok (.lstore_n 1, 1) := by decide +kernel
theorem dX4_misfitSum_50 : decode cX4_misfitSum 50 = .ok (.iinc 3 1, 3) := by decide +kernel
theorem dX4_misfitSum_53 : decode cX4_misfitSum 53 = .ok (.goto (-49), 3) := by decide +kernel
theorem dX4_misfitSum_56 : decode cX4_misfitSum 56 = .ok (.lload_n 1, 1) := by decide +kernel
theorem dX4_misfitSum_57 : decode cX4_misfitSum 57 = .ok (.lreturn, 1) := by decide +kernel
theorem dX4_greatestMisfit_0 : decode cX4_greatestMisfit 0 = .ok (.aload_n 0, 1) := by decide +kernel
theorem dX4_greatestMisfit_1 : decode cX4_greatestMisfit 1 = .ok (.invokevirtual 71, 3) := by decide +kernel
theorem dX4_greatestMisfit_4 : decode cX4_greatestMisfit 4 = .ok (.istore_n 1, 1) := by decide +kernel
theorem dX4_greatestMisfit_5 : decode cX4_greatestMisfit 5 = .ok (.iload_n 1, 1) := by decide +kernel
theorem dX4_greatestMisfit_6 : decode cX4_greatestMisfit 6 = .ok (.iconst (-1), 1) := by decide +kernel
theorem dX4_greatestMisfit_7 : decode cX4_greatestMisfit 7 = .ok (.if_icmp .ne 7, 3) := by decide +kernel
theorem dX4_greatestMisfit_10 : decode cX4_greatestMisfit 10 = .ok (.lconst 0, 1) := by decide +kernel
theorem dX4_greatestMisfit_11 : decode cX4_greatestMisfit 11 = .ok (.goto 24, 3) := by decide +kernel
theorem dX4_greatestMisfit_14 : decode cX4_greatestMisfit 14 = .ok (.aload_n 0, 1) := by decide +kernel
theorem dX4_greatestMisfit_15 : decode cX4_greatestMisfit 15 = .ok (.getfield 9, 3) := by decide +kernel
theorem dX4_greatestMisfit_18 : decode cX4_greatestMisfit 18 = .ok (.getfield 61, 3) := by decide +kernel
theorem dX4_greatestMisfit_21 : decode cX4_greatestMisfit 21 = .ok (.iload_n 1, 1) := by decide +kernel
theorem dX4_greatestMisfit_22 : decode cX4_greatestMisfit 22 = .ok (.laload, 1) := by decide +kernel
theorem dX4_greatestMisfit_23 : decode cX4_greatestMisfit 23 = .ok (.aload_n 0, 1) := by decide +kernel
theorem dX4_greatestMisfit_24 : decode cX4_greatestMisfit 24 = .ok (.getfield 15, 3) := by decide +kernel
theorem dX4_greatestMisfit_27 : decode cX4_greatestMisfit 27 = .ok (.iload_n 1, 1) := by decide +kernel
theorem dX4_greatestMisfit_28 : decode cX4_greatestMisfit 28 = .ok (.invokevirtual 29, 3) := by decide +kernel
theorem dX4_greatestMisfit_31 : decode cX4_greatestMisfit 31 = .ok (.lsub, 1) := by decide +kernel
theorem dX4_greatestMisfit_32 : decode cX4_greatestMisfit 32 = .ok (.invokestatic 65, 3) := by decide +kernel
theorem dX4_greatestMisfit_35 : decode cX4_greatestMisfit 35 = .ok (.lreturn, 1) := by decide +kernel
theorem dX4_worstRay_0 : decode cX4_worstRay 0 = .ok (.iconst (-1), 1) := by decide +kernel
theorem dX4_worstRay_1 : decode cX4_worstRay 1 = .ok (.istore_n 1, 1) := by decide +kernel
theorem dX4_worstRay_2 : decode cX4_worstRay 2 = .ok (.ldc2_w 74, 3) := by decide +kernel
theorem dX4_worstRay_5 : decode cX4_worstRay 5 = .ok (.lstore_n 2, 1) := by decide +kernel
theorem dX4_worstRay_6 : decode cX4_worstRay 6 = .ok (.iconst 0, 1) := by decide +kernel
theorem dX4_worstRay_7 : decode cX4_worstRay 7 = .ok (.istore 4, 2) := by decide +kernel
theorem dX4_worstRay_9 : decode cX4_worstRay 9 = .ok (.iload 4, 2) := by decide +kernel
theorem dX4_worstRay_11 : decode cX4_worstRay 11 = .ok (.aload_n 0, 1) := by decide +kernel
theorem dX4_worstRay_12 : decode cX4_worstRay 12 = .ok (.getfield 9, 3) := by decide +kernel
theorem dX4_worstRay_15 : decode cX4_worstRay 15 = .ok (.getfield 19, 3) := by decide +kernel
theorem dX4_worstRay_18 : decode cX4_worstRay 18 = .ok (.if_icmp .ge 59, 3) := by decide +kernel
theorem dX4_worstRay_21 : decode cX4_worstRay 21 = .ok (.aload_n 0, 1) := by decide +kernel
theorem dX4_worstRay_22 : decode cX4_worstRay 22 = .ok (.getfield 9, 3) := by decide +kernel
theorem dX4_worstRay_25 : decode cX4_worstRay 25 = .ok (.iload 4, 2) := by decide +kernel
theorem dX4_worstRay_27 : decode cX4_worstRay 27 = .ok (.invokevirtual 25, 3) := by decide +kernel
theorem dX4_worstRay_30 : decode cX4_worstRay 30 = .ok (.ifCond .eq 41, 3) := by decide +kernel
theorem dX4_worstRay_33 : decode cX4_worstRay 33 = .ok (.aload_n 0, 1) := by decide +kernel
theorem dX4_worstRay_34 : decode cX4_worstRay 34 = .ok (.getfield 9, 3) := by decide +kernel
theorem dX4_worstRay_37 : decode cX4_worstRay 37 = .ok (.getfield 61, 3) := by decide +kernel
theorem dX4_worstRay_40 : decode cX4_worstRay 40 = .ok (.iload 4, 2) := by decide +kernel
theorem dX4_worstRay_42 : decode cX4_worstRay 42 = .ok (.laload, 1) := by decide +kernel
theorem dX4_worstRay_43 : decode cX4_worstRay 43 = .ok (.aload_n 0, 1) := by decide +kernel
theorem dX4_worstRay_44 : decode cX4_worstRay 44 = .ok (.getfield 15, 3) := by decide +kernel
theorem dX4_worstRay_47 : decode cX4_worstRay 47 = .ok (.iload 4, 2) := by decide +kernel
theorem dX4_worstRay_49 : decode cX4_worstRay 49 = .ok (.invokevirtual 29, 3) := by decide +kernel
theorem dX4_worstRay_52 : decode cX4_worstRay 52 = .ok (.lsub, 1) := by decide +kernel
theorem dX4_worstRay_53 : decode cX4_worstRay 53 = .ok (.invokestatic 65, 3) := by decide +kernel
theorem dX4_worstRay_56 : decode cX4_worstRay 56 = .ok (.lstore 5, 2) := by decide +kernel
theorem dX4_worstRay_58 : decode cX4_worstRay 58 = .ok (.lload 5, 2) := by decide +kernel
theorem dX4_worstRay_60 : decode cX4_worstRay 60 = .ok (.lload_n 2, 1) := by decide +kernel
theorem dX4_worstRay_61 : decode cX4_worstRay 61 = .ok (.lcmp, 1) := by decide +kernel
theorem dX4_worstRay_62 : decode cX4_worstRay 62 = .ok (.ifCond .le 9, 3) := by decide +kernel
theorem dX4_worstRay_65 : decode cX4_worstRay 65 = .ok (.lload 5, 2) := by decide +kernel
theorem dX4_worstRay_67 : decode cX4_worstRay 67 = .ok (.lstore_n 2, 1) := by decide +kernel
theorem dX4_worstRay_68 : decode cX4_worstRay 68 = .ok (.iload 4, 2) := by decide +kernel
theorem dX4_worstRay_70 : decode cX4_worstRay 70 = .ok (.istore_n 1, 1) := by decide +kernel
theorem dX4_worstRay_71 : decode cX4_worstRay 71 = .ok (.iinc 4 1, 3) := by decide +kernel
theorem dX4_worstRay_74 : decode cX4_worstRay 74 = .ok (.goto (-65), 3) := by decide +kernel
theorem dX4_worstRay_77 : decode cX4_worstRay 77 = .ok (.iload_n 1, 1) := by decide +kernel
theorem dX4_worstRay_78 : decode cX4_worstRay 78 = .ok (.ireturn, 1) := by decide +kernel
theorem dX4_distanceFromTruth_0 : decode cX4_distanceFromTruth 0 = .ok (.lconst 0, 1) := by decide +kernel
theorem dX4_distanceFromTruth_1 : decode cX4_distanceFromTruth 1 = .ok (.lstore_n 1, 1) := by decide +kernel
theorem dX4_distanceFromTruth_2 : decode cX4_distanceFromTruth 2 = .ok (.iconst 0, 1) := by decide +kernel
theorem dX4_distanceFromTruth_3 : decode cX4_distanceFromTruth 3 = .ok (.istore_n 3, 1) := by decide +kernel
theorem dX4_distanceFromTruth_4 : decode cX4_distanceFromTruth 4 = .ok (.iload_n 3, 1) := by decide +kernel
theorem dX4_distanceFromTruth_5 : decode cX4_distanceFromTruth 5 = .ok (.aload_n 0, 1) := by decide +kernel
theorem dX4_distanceFromTruth_6 : decode cX4_distanceFromTruth 6 = .ok (.getfield 9, 3) := by decide +kernel
theorem dX4_distanceFromTruth_9 : decode cX4_distanceFromTruth 9 = .ok (.invokevirtual 39, 3) := by decide +kernel
theorem dX4_distanceFromTruth_12 : decode cX4_distanceFromTruth 12 = .ok (.if_icmp .ge 35, 3) := by decide +kernel
theorem dX4_distanceFromTruth_15 : decode cX4_distanceFromTruth 15 = .ok (.lload_n 1, 1) := by decide +kernel
theorem dX4_distanceFromTruth_16 : decode cX4_distanceFromTruth 16 = .ok (.aload_n 0, 1) := by decide +kernel
theorem dX4_distanceFromTruth_17 : decode cX4_distanceFromTruth 17 = .ok (.getfield 9, 3) := by decide +kernel
theorem dX4_distanceFromTruth_20 : decode cX4_distanceFromTruth 20 = .ok (.getfield 47, 3) := by decide +kernel
theorem dX4_distanceFromTruth_23 : decode cX4_distanceFromTruth 23 = .ok (.iload_n 3, 1) := by decide +kernel
theorem dX4_distanceFromTruth_24 : decode cX4_distanceFromTruth 24 = .ok (.iaload, 1) := by decide +kernel
theorem dX4_distanceFromTruth_25 : decode cX4_distanceFromTruth 25 = .ok (.aload_n 0, 1) := by decide +kernel
theorem dX4_distanceFromTruth_26 : decode cX4_distanceFromTruth 26 = .ok (.getfield 9, 3) := by decide +kernel
theorem dX4_distanceFromTruth_29 : decode cX4_distanceFromTruth 29 = .ok (.getfield 76, 3) := by decide +kernel
theorem dX4_distanceFromTruth_32 : decode cX4_distanceFromTruth 32 = .ok (.iload_n 3, 1) := by decide +kernel
theorem dX4_distanceFromTruth_33 : decode cX4_distanceFromTruth 33 = .ok (.iaload, 1) := by decide +kernel
theorem dX4_distanceFromTruth_34 : decode cX4_distanceFromTruth 34 = .ok (.isub, 1) := by decide +kernel
theorem dX4_distanceFromTruth_35 : decode cX4_distanceFromTruth 35 = .ok (.invokestatic 79, 3) := by decide +kernel
theorem dX4_distanceFromTruth_38 : decode cX4_distanceFromTruth 38 = .ok (.i2l, 1) := by decide +kernel
theorem dX4_distanceFromTruth_39 : decode cX4_distanceFromTruth 39 = .ok (.ladd, 1) := by decide +kernel
theorem dX4_distanceFromTruth_40 : decode cX4_distanceFromTruth 40 = .ok (.lstore_n 1, 1) := by decide +kernel
theorem dX4_distanceFromTruth_41 : decode cX4_distanceFromTruth 41 = .ok (.iinc 3 1, 3) := by decide +kernel
theorem dX4_distanceFromTruth_44 : decode cX4_distanceFromTruth 44 = .ok (.goto (-40), 3) := by decide +kernel
theorem dX4_distanceFromTruth_47 : decode cX4_distanceFromTruth 47 = .ok (.lload_n 1, 1) := by decide +kernel
theorem dX4_distanceFromTruth_48 : decode cX4_distanceFromTruth 48 = .ok (.lreturn, 1) := by decide +kernel
theorem dX4_slownessSum_0 : decode cX4_slownessSum 0 = .ok (.lconst 0, 1) := by decide +kernel
theorem dX4_slownessSum_1 : decode cX4_slownessSum 1 = .ok (.lstore_n 1, 1) := by decide +kernel
theorem dX4_slownessSum_2 : decode cX4_slownessSum 2 = .ok (.iconst 0, 1) := by decide +kernel
theorem dX4_slownessSum_3 : decode cX4_slownessSum 3 = .ok (.istore_n 3, 1) := by decide +kernel
theorem dX4_slownessSum_4 : decode cX4_slownessSum 4 = .ok (.iload_n 3, 1) := by decide +kernel
theorem dX4_slownessSum_5 : decode cX4_slownessSum 5 = .ok (.aload_n 0, 1) := by decide +kernel
theorem dX4_slownessSum_6 : decode cX4_slownessSum 6 = .ok (.getfield 9, 3) := by decide +kernel
theorem dX4_slownessSum_9 : decode cX4_slownessSum 9 = .ok (.invokevirtual 39, 3) := by decide +kernel
theorem dX4_slownessSum_12 : decode cX4_slownessSum 12 = .ok (.if_icmp .ge 22, 3) := by decide +kernel
theorem dX4_slownessSum_15 : decode cX4_slownessSum 15 = .ok (.lload_n 1, 1) := by decide +kernel
theorem dX4_slownessSum_16 : decode cX4_slownessSum 16 = .ok (.aload_n 0, 1) := by decide +kernel
theorem dX4_slownessSum_17 : decode cX4_slownessSum 17 = .ok (.getfield 9, 3) := by decide +kernel
theorem dX4_slownessSum_20 : decode cX4_slownessSum 20 = .ok (.getfield 47, 3) := by decide +kernel
theorem dX4_slownessSum_23 : decode cX4_slownessSum 23 = .ok (.iload_n 3, 1) := by decide +kernel
theorem dX4_slownessSum_24 : decode cX4_slownessSum 24 = .ok (.iaload, 1) := by decide +kernel
theorem dX4_slownessSum_25 : decode cX4_slownessSum 25 = .ok (.i2l, 1) := by decide +kernel
theorem dX4_slownessSum_26 : decode cX4_slownessSum 26 = .ok (.ladd, 1) := by decide +kernel
theorem dX4_slownessSum_27 : decode cX4_slownessSum 27 = .ok (.lstore_n 1, 1) := by decide +kernel
theorem dX4_slownessSum_28 : decode cX4_slownessSum 28 = .ok (.iinc 3 1, 3) := by decide +kernel
theorem dX4_slownessSum_31 : decode cX4_slownessSum 31 = .ok (.goto (-27), 3) := by decide +kernel
theorem dX4_slownessSum_34 : decode cX4_slownessSum 34 = .ok (.lload_n 1, 1) := by decide +kernel
theorem dX4_slownessSum_35 : decode cX4_slownessSum 35 = .ok (.lreturn, 1) := by decide +kernel
theorem dX5_init_0 : decode cX5_init 0 = .ok (.aload_n 0, 1) := by decide +kernel
theorem dX5_init_1 : decode cX5_init 1 = .ok (.invokespecial 3, 3) := by decide +kernel
theorem dX5_init_4 : decode cX5_init 4 = .ok (.aload_n 0, 1) := by decide +kernel
theorem dX5_init_5 : decode cX5_init 5 = .ok (.bipush 120, 2) := by decide +kernel
theorem dX5_init_7 : decode cX5_init 7 = .ok (.newarray .byte, 2) := by decide +kernel
theorem dX5_init_9 : decode cX5_init 9 = .ok (.putfield 9, 3) := by decide +kernel
theorem dX5_init_12 : decode cX5_init 12 = .ok (.aload_n 0, 1) := by decide +kernel
theorem dX5_init_13 : decode cX5_init 13 = .ok (.bipush 120, 2) := by decide +kernel
theorem dX5_init_15 : decode cX5_init 15 = .ok (.anewarray 15, 3) := by decide +kernel
theorem dX5_init_18 : decode cX5_init 18 = .ok (.putfield 17, 3) := by decide +kernel
theorem dX5_init_21 : decode cX5_init 21 = .ok (.aload_n 0, 1) := by decide +kernel
theorem dX5_init_22 : decode cX5_init 22 = .ok (.bipush 120, 2) := by decide +kernel
theorem dX5_init_24 : decode cX5_init 24 = .ok (.newarray .int, 2) := by decide +kernel
theorem dX5_init_26 : decode cX5_init 26 = .ok (.putfield 21, 3) := by decide +kernel
theorem dX5_init_29 : decode cX5_init 29 = .ok (.aload_n 0, 1) := by decide +kernel
theorem dX5_init_30 : decode cX5_init 30 = .ok (.bipush 120, 2) := by decide +kernel
theorem dX5_init_32 : decode cX5_init 32 = .ok (.newarray .int, 2) := by decide +kernel
theorem dX5_init_34 : decode cX5_init 34 = .ok (.putfield 25, 3) := by decide +kernel
theorem dX5_init_37 : decode cX5_init 37 = .ok (.return_, 1) := by decide +kernel
theorem dX5_append_0 : decode cX5_append 0 = .ok (.aload_n 0, 1) := by decide +kernel
theorem dX5_append_1 : decode cX5_append 1 = .ok (.getfield 28, 3) := by decide +kernel
theorem dX5_append_4 : decode cX5_append 4 = .ok (.bipush 120, 2) := by decide +kernel
theorem dX5_append_6 : decode cX5_append 6 = .ok (.if_icmp .ge 24, 3) := by decide +kernel
theorem dX5_append_9 : decode cX5_append 9 = .ok (.aload_n 0, 1) := by decide +kernel
theorem dX5_append_10 : decode cX5_append 10 = .ok (.getfield 9, 3) := by decide +kernel
theorem dX5_append_13 : decode cX5_append 13 = .ok (.aload_n 0, 1) := by decide +kernel
theorem dX5_append_14 : decode cX5_append 14 = .ok (.getfield 28, 3) := by decide +kernel
theorem dX5_append_17 : decode cX5_append 17 = .ok (.iload_n 1, 1) := by decide +kernel
theorem dX5_append_18 : decode cX5_append 18 = .ok (.i2b, 1) := by decide +kernel
theorem dX5_append_19 : decode cX5_append 19 = .ok (.bastore, 1) := by decide +kernel
theorem dX5_append_20 : decode cX5_append 20 = .ok (.aload_n 0, 1) := by decide +kernel
theorem dX5_append_21 : decode cX5_append 21 = .ok (.dup, 1) := by decide +kernel
theorem dX5_append_22 : decode cX5_append 22 = .ok (.getfield 28, 3) := by decide +kernel
theorem dX5_append_25 : decode cX5_append 25 = .ok (.iconst 1, 1) := by decide +kernel
theorem dX5_append_26 : decode cX5_append 26 = .ok (.iadd, 1) := by decide +kernel
theorem dX5_append_27 : decode cX5_append 27 = .ok (.putfield 28, 3) := by decide +kernel
theorem dX5_append_30 : decode cX5_append 30 = .ok (.return_, 1) := by decide +kernel
theorem dX5_parse_0 : decode cX5_parse 0 = .ok (.aload_n 0, 1) := by decide +kernel
theorem dX5_parse_1 : decode cX5_parse 1 = .ok (.iconst 0, 1) := by decide +kernel
theorem dX5_parse_2 : decode cX5_parse 2 = .ok (.putfield 32, 3) := by decide +kernel
theorem dX5_parse_5 : decode cX5_parse 5 = .ok (.aload_n 0, 1) := by decide +kernel
theorem dX5_parse_6 : decode cX5_parse 6 = .ok (.iconst 0, 1) := by decide +kernel
theorem dX5_parse_7 : decode cX5_parse 7 = .ok (.putfield 35, 3) := by decide +kernel
theorem dX5_parse_10 : decode cX5_parse 10 = .ok (.iconst (-1), 1) := by decide +kernel
theorem dX5_parse_11 : decode cX5_parse 11 = .ok (.istore_n 1, 1) := by decide +kernel
theorem dX5_parse_12 : decode cX5_parse 12 = .ok (.iconst 0, 1) := by decide +kernel
theorem dX5_parse_13 : decode cX5_parse 13 = .ok (.istore_n 2, 1) := by decide +kernel
theorem dX5_parse_14 : decode cX5_parse 14 = .ok (.iload_n 2, 1) := by decide +kernel
theorem dX5_parse_15 : decode cX5_parse 15 = .ok (.bipush 120, 2) := by decide +kernel
theorem dX5_parse_17 : decode cX5_parse 17 = .ok (.if_icmp .ge 38, 3) := by decide +kernel
theorem dX5_parse_20 : decode cX5_parse 20 = .ok (.iload_n 1, 1) := by decide +kernel
theorem dX5_parse_21 : decode cX5_parse 21 = .ok (.iconst (-1), 1) := by decide +kernel
theorem dX5_parse_22 : decode cX5_parse 22 = .ok (.if_icmp .ne 33, 3) := by decide +kernel
theorem dX5_parse_25 : decode cX5_parse 25 = .ok (.aload_n 0, 1) := by decide +kernel
theorem dX5_parse_26 : decode cX5_parse 26 = .ok (.invokevirtual 38, 3) := by decide +kernel
theorem dX5_parse_29 : decode cX5_parse 29 = .ok (.pop, 1) := by decide +kernel
theorem dX5_parse_30 : decode cX5_parse 30 = .ok (.aload_n 0, 1) := by decide +kernel
theorem dX5_parse_31 : decode cX5_parse 31 = .ok (.getfield 32, 3) := by decide +kernel
theorem dX5_parse_34 : decode cX5_parse 34 = .ok (.aload_n 0, 1) := by decide +kernel
theorem dX5_parse_35 : decode cX5_parse 35 = .ok (.getfield 28, 3) := by decide +kernel
theorem dX5_parse_38 : decode cX5_parse 38 = .ok (.if_icmp .lt 6, 3) := by decide +kernel
theorem dX5_parse_41 : decode cX5_parse 41 = .ok (.goto 14, 3) := by decide +kernel
theorem dX5_parse_44 : decode cX5_parse 44 = .ok (.aload_n 0, 1) := by decide +kernel
theorem dX5_parse_45 : decode cX5_parse 45 = .ok (.invokevirtual 42, 3) := by decide +kernel
theorem dX5_parse_48 : decode cX5_parse 48 = .ok (.istore_n 1, 1) := by decide +kernel
theorem dX5_parse_49 : decode cX5_parse 49 = .ok (.iinc 2 1, 3) := by decide +kernel
theorem dX5_parse_52 : decode cX5_parse 52 = .ok (.goto (-38), 3) := by decide +kernel
theorem dX5_parse_55 : decode cX5_parse 55 = .ok (.iload_n 1, 1) := by decide +kernel
theorem dX5_parse_56 : decode cX5_parse 56 = .ok (.ireturn, 1) := by decide +kernel
theorem dX5_readCommand_0 : decode cX5_readCommand 0 = .ok (.aload_n 0, 1) := by decide +kernel
theorem dX5_readCommand_1 : decode cX5_readCommand 1 = .ok (.getfield 32, 3) := by decide +kernel
theorem dX5_readCommand_4 : decode cX5_readCommand 4 = .ok (.istore_n 1, 1) := by decide +kernel
theorem dX5_readCommand_5 : decode cX5_readCommand 5 = .ok (.aload_n 0, 1) := by decide +kernel
theorem dX5_readCommand_6 : decode cX5_readCommand 6 = .ok (.invokevirtual 46, 3) := by decide +kernel
theorem dX5_readCommand_9 : decode cX5_readCommand 9 = .ok (.aload_n 0, 1) := by decide +kernel
theorem dX5_readCommand_10 : decode cX5_readCommand 10 = .ok (.iload_n 1, 1) := by decide +kernel
theorem dX5_readCommand_11 : decode cX5_readCommand 11 = .ok (.aload_n 0, 1) := by decide +kernel
theorem dX5_readCommand_12 : decode cX5_readCommand 12 = .ok (.getfield 32, 3) := by decide +kernel
theorem dX5_readCommand_15 : decode cX5_readCommand 15 = .ok (.invokevirtual 49, 3) := by decide +kernel
theorem dX5_readCommand_18 : decode cX5_readCommand 18 = .ok (.astore_n 2, 1) := by decide +kernel
theorem dX5_readCommand_19 : decode cX5_readCommand 19 = .ok (.aload_n 2, 1) := by decide +kernel
theorem dX5_readCommand_20 : decode cX5_readCommand 20 = .ok (.ifnonnull 5, 3) := by decide +kernel
theorem dX5_readCommand_23 : decode cX5_readCommand 23 = .ok (.iload_n 1, 1) := by decide +kernel
theorem dX5_readCommand_24 : decode cX5_readCommand 24 = .ok (.ireturn, 1) := by decide +kernel
theorem dX5_readCommand_25 : decode cX5_readCommand 25 = .ok (.iconst 0, 1) := by decide +kernel
theorem dX5_readCommand_26 : decode cX5_readCommand 26 = .ok (.istore_n 3, 1) := by decide +kernel
theorem dX5_readCommand_27 : decode cX5_readCommand 27 = .ok (.iload_n 3, 1) := by decide +kernel
theorem dX5_readCommand_28 : decode cX5_readCommand 28 = .ok (.aload_n 2, 1) := by decide +kernel
theorem dX5_readCommand_29 : decode cX5_readCommand 29 = .ok (.getfield 53, 3) := by decide +kernel
theorem dX5_readCommand_32 : decode cX5_readCommand 32 = .ok (.if_icmp .ge 63, 3) := by decide +kernel
theorem dX5_readCommand_35 : decode cX5_readCommand 35 = .ok (.aload_n 0, 1) := by decide +kernel
theorem dX5_readCommand_36 : decode cX5_readCommand 36 = .ok (.invokevirtual 38, 3) := by decide +kernel
theorem dX5_readCommand_39 : decode cX5_readCommand 39 = .ok (.ifCond .eq 10, 3) := by decide +kernel
theorem dX5_readCommand_42 : decode cX5_readCommand 42 = .ok (.aload_n 0, 1) := by decide +kernel
theorem dX5_readCommand_43 : decode cX5_readCommand 43 = .ok (.invokevirtual 56, 3) := by decide +kernel
theorem dX5_readCommand_46 : decode cX5_readCommand 46 = .ok (.ifCond .ne 8, 3) := by decide +kernel
theorem dX5_readCommand_49 : decode cX5_readCommand 49 = .ok (.aload_n 0, 1) := by decide +kernel
theorem dX5_readCommand_50 : decode cX5_readCommand 50 = .ok (.getfield 32, 3) := by decide +kernel
theorem dX5_readCommand_53 : decode cX5_readCommand 53 = .ok (.ireturn, 1) := by decide +kernel
theorem dX5_readCommand_54 : decode cX5_readCommand 54 = .ok (.aload_n 0, 1) := by decide +kernel
theorem dX5_readCommand_55 : decode cX5_readCommand 55 = .ok (.invokevirtual 59, 3) := by decide +kernel
theorem dX5_readCommand_58 : decode cX5_readCommand 58 = .ok (.istore 4, 2) := by decide +kernel
theorem dX5_readCommand_60 : decode cX5_readCommand 60 = .ok (.iload_n 3, 1) := by decide +kernel
theorem dX5_readCommand_61 : decode cX5_readCommand 61 = .ok (.ifCond .ne 17, 3) := by decide +kernel
theorem dX5_readCommand_64 : decode cX5_readCommand 64 = .ok (.aload_n 0, 1) := by decide +kernel
theorem dX5_readCommand_65 : decode cX5_readCommand 65 = .ok (.getfield 21, 3) := by decide +kernel
theorem dX5_readCommand_68 : decode cX5_readCommand 68 = .ok (.aload_n 0, 1) := by decide +kernel
theorem dX5_readCommand_69 : decode cX5_readCommand 69 = .ok (.getfield 35, 3) := by decide +kernel
theorem dX5_readCommand_72 : decode cX5_readCommand 72 = .ok (.iload 4, 2) := by decide +kernel
theorem dX5_readCommand_74 : decode cX5_readCommand 74 = .ok (.iastore, 1) := by decide +kernel
theorem dX5_readCommand_75 : decode cX5_readCommand 75 = .ok (.goto 14, 3) := by decide +kernel
theorem dX5_readCommand_78 : decode cX5_readCommand 78 = .ok (.aload_n 0, 1) := by decide +kernel
theorem dX5_readCommand_79 : decode cX5_readCommand 79 = .ok (.getfield 25, 3) := by decide +kernel
theorem dX5_readCommand_82 : decode cX5_readCommand 82 = .ok (.aload_n 0, 1) := by decide +kernel
theorem dX5_readCommand_83 : decode cX5_readCommand 83 = .ok (.getfield 35, 3) := by decide +kernel
theorem dX5_readCommand_86 : decode cX5_readCommand 86 = .ok (.iload 4, 2) := by decide +kernel
theorem dX5_readCommand_88 : decode cX5_readCommand 88 = .ok (.iastore, 1) := by decide +kernel
theorem dX5_readCommand_89 : decode cX5_readCommand 89 = .ok (.iinc 3 1, 3) := by decide +kernel
theorem dX5_readCommand_92 : decode cX5_readCommand 92 = .ok (.goto (-65), 3) := by decide +kernel
theorem dX5_readCommand_95 : decode cX5_readCommand 95 = .ok (.aload_n 0, 1) := by decide +kernel
theorem dX5_readCommand_96 : decode cX5_readCommand 96 = .ok (.invokevirtual 38, 3) := by decide +kernel
theorem dX5_readCommand_99 : decode cX5_readCommand 99 = .ok (.pop, 1) := by decide +kernel
theorem dX5_readCommand_100 : decode cX5_readCommand 100 = .ok (.aload_n 0, 1) := by decide +kernel
theorem dX5_readCommand_101 : decode cX5_readCommand 101 = .ok (.getfield 32, 3) := by decide +kernel
theorem dX5_readCommand_104 : decode cX5_readCommand 104 = .ok (.aload_n 0, 1) := by decide +kernel
theorem dX5_readCommand_105 : decode cX5_readCommand 105 = .ok (.getfield 28, 3) := by decide +kernel
theorem dX5_readCommand_108 : decode cX5_readCommand 108 = .ok (.if_icmp .ge 17, 3) := by decide +kernel
theorem dX5_readCommand_111 : decode cX5_readCommand 111 = .ok (.aload_n 0, 1) := by decide +kernel
theorem dX5_readCommand_112 : decode cX5_readCommand 112 = .ok (.getfield 9, 3) := by decide +kernel
theorem dX5_readCommand_115 : decode cX5_readCommand 115 = .ok (.aload_n 0, 1) := by decide +kernel
theorem dX5_readCommand_116 : decode cX5_readCommand 116 = .ok (.getfield 32, 3) := by decide +kernel
theorem dX5_readCommand_119 : decode cX5_readCommand 119 = .ok (.baload, 1) := by decide +kernel
theorem dX5_readCommand_120 : decode cX5_readCommand 120 = .ok (.bipush 59, 2) := by decide +kernel
theorem dX5_readCommand_122 : decode cX5_readCommand 122 = .ok (.if_icmp .eq 8, 3) := by decide +kernel
theorem dX5_readCommand_125 : decode cX5_readCommand 125 = .ok (.aload_n 0, 1) := by decide +kernel
theorem dX5_readCommand_126 : decode cX5_readCommand 126 = .ok (.getfield 32, 3) := by decide +kernel
theorem dX5_readCommand_129 : decode cX5_readCommand 129 = .ok (.ireturn, 1) := by decide +kernel
theorem dX5_readCommand_130 : decode cX5_readCommand 130 = .ok (.aload_n 0, 1) := by decide +kernel
theorem dX5_readCommand_131 : decode cX5_readCommand 131 = .ok (.dup, 1) := by decide +kernel
theorem dX5_readCommand_132 : decode cX5_readCommand 132 = .ok (.getfield 32, 3) := by decide +kernel
theorem dX5_readCommand_135 : decode cX5_readCommand 135 = .ok (.iconst 1, 1) := by decide +kernel
theorem dX5_readCommand_136 : decode cX5_readCommand 136 = .ok (.iadd, 1) := by decide +kernel
theorem dX5_readCommand_137 : decode cX5_readCommand 137 = .ok (.putfield 32, 3) := by decide +kernel
theorem dX5_readCommand_140 : decode cX5_readCommand 140 = .ok (.aload_n 0, 1) := by decide +kernel
theorem dX5_readCommand_141 : decode cX5_readCommand 141 = .ok (.getfield 17, 3) := by decide +kernel
theorem dX5_readCommand_144 : decode cX5_readCommand 144 = .ok (.aload_n 0, 1) := by decide +kernel
theorem dX5_readCommand_145 : decode cX5_readCommand 145 = .ok (.getfield 35, 3) := by decide +kernel
theorem dX5_readCommand_148 : decode cX5_readCommand 148 = .ok (.aload_n 2, 1) := by decide +kernel
theorem dX5_readCommand_149 : decode cX5_readCommand 149 = .ok (.aastore, 1) := by decide +kernel
theorem dX5_readCommand_150 : decode cX5_readCommand 150 = .ok (.aload_n 0, 1) := by decide +kernel
theorem dX5_readCommand_151 : decode cX5_readCommand 151 = .ok (.dup, 1) := by decide +kernel
theorem dX5_readCommand_152 : decode cX5_readCommand 152 = .ok (.getfield 35, 3) := by decide +kernel
theorem dX5_readCommand_155 : decode cX5_readCommand 155 = .ok (.iconst 1, 1) := by decide +kernel
theorem dX5_readCommand_156 : decode cX5_readCommand 156 = .ok (.iadd, 1) := by decide +kernel
theorem dX5_readCommand_157 : decode cX5_readCommand 157 = .ok (.putfield 35, 3) := by decide +kernel
theorem dX5_readCommand_160 : decode cX5_readCommand 160 = .ok (.iconst (-1), 1) := by decide +kernel
theorem dX5_readCommand_161 : decode cX5_readCommand 161 = .ok (.ireturn, 1) := by decide +kernel
theorem dX5_skipSpaces_0 : decode cX5_skipSpaces 0 = .ok (.aload_n 0, 1) := by decide +kernel
theorem dX5_skipSpaces_1 : decode cX5_skipSpaces 1 = .ok (.getfield 32, 3) := by decide +kernel
theorem dX5_skipSpaces_4 : decode cX5_skipSpaces 4 = .ok (.istore_n 1, 1) := by decide +kernel
theorem dX5_skipSpaces_5 : decode cX5_skipSpaces 5 = .ok (.aload_n 0, 1) := by decide +kernel
theorem dX5_skipSpaces_6 : decode cX5_skipSpaces 6 = .ok (.getfield 32, 3) := by decide +kernel
theorem dX5_skipSpaces_9 : decode cX5_skipSpaces 9 = .ok (.aload_n 0, 1) := by decide +kernel
theorem dX5_skipSpaces_10 : decode cX5_skipSpaces 10 = .ok (.getfield 28, 3) := by decide +kernel
theorem dX5_skipSpaces_13 : decode cX5_skipSpaces 13 = .ok (.if_icmp .ge 30, 3) := by decide +kernel
theorem dX5_skipSpaces_16 : decode cX5_skipSpaces 16 = .ok (.aload_n 0, 1) := by decide +kernel
theorem dX5_skipSpaces_17 : decode cX5_skipSpaces 17 = .ok (.getfield 9, 3) := by decide +kernel
theorem dX5_skipSpaces_20 : decode cX5_skipSpaces 20 = .ok (.aload_n 0, 1) := by decide +kernel
theorem dX5_skipSpaces_21 : decode cX5_skipSpaces 21 = .ok (.getfield 32, 3) := by decide +kernel
theorem dX5_skipSpaces_24 : decode cX5_skipSpaces 24 = .ok (.baload, 1) := by decide +kernel
theorem dX5_skipSpaces_25 : decode cX5_skipSpaces 25 = .ok (.bipush 32, 2) := by decide +kernel
theorem dX5_skipSpaces_27 : decode cX5_skipSpaces 27 = .ok (.if_icmp .ne 16, 3) := by decide +kernel
theorem dX5_skipSpaces_30 : decode cX5_skipSpaces 30 = .ok (.aload_n 0, 1) := by decide +kernel
theorem dX5_skipSpaces_31 : decode cX5_skipSpaces 31 = .ok (.dup, 1) := by decide +kernel
theorem dX5_skipSpaces_32 : decode cX5_skipSpaces 32 = .ok (.getfield 32, 3) := by decide +kernel
theorem dX5_skipSpaces_35 : decode cX5_skipSpaces 35 = .ok (.iconst 1, 1) := by decide +kernel
theorem dX5_skipSpaces_36 : decode cX5_skipSpaces 36 = .ok (.iadd, 1) := by decide +kernel
theorem dX5_skipSpaces_37 : decode cX5_skipSpaces 37 = .ok (.putfield 32, 3) := by decide +kernel
theorem dX5_skipSpaces_40 : decode cX5_skipSpaces 40 = .ok (.goto (-35), 3) := by decide +kernel
theorem dX5_skipSpaces_43 : decode cX5_skipSpaces 43 = .ok (.aload_n 0, 1) := by decide +kernel
theorem dX5_skipSpaces_44 : decode cX5_skipSpaces 44 = .ok (.getfield 32, 3) := by decide +kernel
theorem dX5_skipSpaces_47 : decode cX5_skipSpaces 47 = .ok (.iload_n 1, 1) := by decide +kernel
theorem dX5_skipSpaces_48 : decode cX5_skipSpaces 48 = .ok (.if_icmp .le 7, 3) := by decide +kernel
theorem dX5_skipSpaces_51 : decode cX5_skipSpaces 51 = .ok (.iconst 1, 1) := by decide +kernel
theorem dX5_skipSpaces_52 : decode cX5_skipSpaces 52 = .ok (.goto 4, 3) := by decide +kernel
theorem dX5_skipSpaces_55 : decode cX5_skipSpaces 55 = .ok (.iconst 0, 1) := by decide +kernel
theorem dX5_skipSpaces_56 : decode cX5_skipSpaces 56 = .ok (.ireturn, 1) := by decide +kernel
theorem dX5_skipLetters_0 : decode cX5_skipLetters 0 = .ok (.aload_n 0, 1) := by decide +kernel
theorem dX5_skipLetters_1 : decode cX5_skipLetters 1 = .ok (.getfield 32, 3) := by decide +kernel
theorem dX5_skipLetters_4 : decode cX5_skipLetters 4 = .ok (.aload_n 0, 1) := by decide +kernel
theorem dX5_skipLetters_5 : decode cX5_skipLetters 5 = .ok (.getfield 28, 3) := by decide +kernel
theorem dX5_skipLetters_8 : decode cX5_skipLetters 8 = .ok (.if_icmp .ge 44, 3) := by decide +kernel
theorem dX5_skipLetters_11 : decode cX5_skipLetters 11 = .ok (.aload_n 0, 1) := by decide +kernel
theorem dX5_skipLetters_12 : decode cX5_skipLetters 12 = .ok (.getfield 9, 3) := by decide +kernel
theorem dX5_skipLetters_15 : decode cX5_skipLetters 15 = .ok (.aload_n 0, 1) := by decide +kernel
theorem dX5_skipLetters_16 : decode cX5_skipLetters 16 = .ok (.getfield 32, 3) := by decide +kernel
theorem dX5_skipLetters_19 : decode cX5_skipLetters 19 = .ok (.baload, 1) := by decide +kernel
theorem dX5_skipLetters_20 : decode cX5_skipLetters 20 = .ok (.bipush 97, 2) := by decide +kernel
theorem dX5_skipLetters_22 : decode cX5_skipLetters 22 = .ok (.if_icmp .lt 30, 3) := by decide +kernel
theorem dX5_skipLetters_25 : decode cX5_skipLetters 25 = .ok (.aload_n 0, 1) := by decide +kernel
theorem dX5_skipLetters_26 : decode cX5_skipLetters 26 = .ok (.getfield 9, 3) := by decide +kernel
theorem dX5_skipLetters_29 : decode cX5_skipLetters 29 = .ok (.aload_n 0, 1) := by decide +kernel
theorem dX5_skipLetters_30 : decode cX5_skipLetters 30 = .ok (.getfield 32, 3) := by decide +kernel
theorem dX5_skipLetters_33 : decode cX5_skipLetters 33 = .ok (.baload, 1) := by decide +kernel
theorem dX5_skipLetters_34 : decode cX5_skipLetters 34 = .ok (.bipush 122, 2) := by decide +kernel
theorem dX5_skipLetters_36 : decode cX5_skipLetters 36 = .ok (.if_icmp .gt 16, 3) := by decide +kernel
theorem dX5_skipLetters_39 : decode cX5_skipLetters 39 = .ok (.aload_n 0, 1) := by decide +kernel
theorem dX5_skipLetters_40 : decode cX5_skipLetters 40 = .ok (.dup, 1) := by decide +kernel
theorem dX5_skipLetters_41 : decode cX5_skipLetters 41 = .ok (.getfield 32, 3) := by decide +kernel
theorem dX5_skipLetters_44 : decode cX5_skipLetters 44 = .ok (.iconst 1, 1) := by decide +kernel
theorem dX5_skipLetters_45 : decode cX5_skipLetters 45 = .ok (.iadd, 1) := by decide +kernel
theorem dX5_skipLetters_46 : decode cX5_skipLetters 46 = .ok (.putfield 32, 3) := by decide +kernel
theorem dX5_skipLetters_49 : decode cX5_skipLetters 49 = .ok (.goto (-49), 3) := by decide +kernel
theorem dX5_skipLetters_52 : decode cX5_skipLetters 52 = .ok (.return_, 1) := by decide +kernel
theorem dX5_isDigitNext_0 : decode cX5_isDigitNext 0 = .ok (.aload_n 0, 1) := by decide +kernel
theorem dX5_isDigitNext_1 : decode cX5_isDigitNext 1 = .ok (.getfield 32, 3) := by decide +kernel
theorem dX5_isDigitNext_4 : decode cX5_isDigitNext 4 = .ok (.aload_n 0, 1) := by decide +kernel
theorem dX5_isDigitNext_5 : decode cX5_isDigitNext 5 = .ok (.getfield 28, 3) := by decide +kernel
theorem dX5_isDigitNext_8 : decode cX5_isDigitNext 8 = .ok (.if_icmp .ge 35, 3) := by decide +kernel
theorem dX5_isDigitNext_11 : decode cX5_isDigitNext 11 = .ok (.aload_n 0, 1) := by decide +kernel
theorem dX5_isDigitNext_12 : decode cX5_isDigitNext 12 = .ok (.getfield 9, 3) := by decide +kernel
theorem dX5_isDigitNext_15 : decode cX5_isDigitNext 15 = .ok (.aload_n 0, 1) := by decide +kernel
theorem dX5_isDigitNext_16 : decode cX5_isDigitNext 16 = .ok (.getfield 32, 3) := by decide +kernel
theorem dX5_isDigitNext_19 : decode cX5_isDigitNext 19 = .ok (.baload, 1) := by decide +kernel
theorem dX5_isDigitNext_20 : decode cX5_isDigitNext 20 = .ok (.bipush 48, 2) := by decide +kernel
theorem dX5_isDigitNext_22 : decode cX5_isDigitNext 22 = .ok (.if_icmp .lt 21, 3) := by decide +kernel
theorem dX5_isDigitNext_25 : decode cX5_isDigitNext 25 = .ok (.aload_n 0, 1) := by decide +kernel
theorem dX5_isDigitNext_26 : decode cX5_isDigitNext 26 = .ok (.getfield 9, 3) := by decide +kernel
theorem dX5_isDigitNext_29 : decode cX5_isDigitNext 29 = .ok (.aload_n 0, 1) := by decide +kernel
theorem dX5_isDigitNext_30 : decode cX5_isDigitNext 30 = .ok (.getfield 32, 3) := by decide +kernel
theorem dX5_isDigitNext_33 : decode cX5_isDigitNext 33 = .ok (.baload, 1) := by decide +kernel
theorem dX5_isDigitNext_34 : decode cX5_isDigitNext 34 = .ok (.bipush 57, 2) := by decide +kernel
theorem dX5_isDigitNext_36 : decode cX5_isDigitNext 36 = .ok (.if_icmp .gt 7, 3) := by decide +kernel
theorem dX5_isDigitNext_39 : decode cX5_isDigitNext 39 = .ok (.iconst 1, 1) := by decide +kernel
theorem dX5_isDigitNext_40 : decode cX5_isDigitNext 40 = .ok (.goto 4, 3) := by decide +kernel
theorem dX5_isDigitNext_43 : decode cX5_isDigitNext 43 = .ok (.iconst 0, 1) := by decide +kernel
theorem dX5_isDigitNext_44 : decode cX5_isDigitNext 44 = .ok (.ireturn, 1) := by decide +kernel
theorem dX5_readNumber_0 : decode cX5_readNumber 0 = .ok (.iconst 0, 1) := by decide +kernel
theorem dX5_readNumber_1 : decode cX5_readNumber 1 = .ok (.istore_n 1, 1) := by decide +kernel
theorem dX5_readNumber_2 : decode cX5_readNumber 2 = .ok (.iconst 0, 1) := by decide +kernel
theorem dX5_readNumber_3 : decode cX5_readNumber 3 = .ok (.istore_n 2, 1) := by decide +kernel
theorem dX5_readNumber_4 : decode cX5_readNumber 4 = .ok (.iload_n 2, 1) := by decide +kernel
theorem dX5_readNumber_5 : decode cX5_readNumber 5 = .ok (.bipush 6, 2) := by decide +kernel
theorem dX5_readNumber_7 : decode cX5_readNumber 7 = .ok (.if_icmp .ge 44, 3) := by decide +kernel
theorem dX5_readNumber_10 : decode cX5_readNumber 10 = .ok (.aload_n 0, 1) := by decide +kernel
theorem dX5_readNumber_11 : decode cX5_readNumber 11 = .ok (.invokevirtual 56, 3) := by decide +kernel
theorem dX5_readNumber_14 : decode cX5_readNumber 14 = .ok (.ifCond .eq 37, 3) := by decide +kernel
theorem dX5_readNumber_17 : decode cX5_readNumber 17 = .ok (.bipush 10, 2) := by decide +kernel
theorem dX5_readNumber_19 : decode cX5_readNumber 19 = .ok (.iload_n 1, 1) := by decide +kernel
theorem dX5_readNumber_20 : decode cX5_readNumber 20 = .ok (.imul, 1) := by decide +kernel
theorem dX5_readNumber_21 : decode cX5_readNumber 21 = .ok (.aload_n 0, 1) := by decide +kernel
theorem dX5_readNumber_22 : decode cX5_readNumber 22 = .ok (.getfield 9, 3) := by decide +kernel
theorem dX5_readNumber_25 : decode cX5_readNumber 25 = .ok (.aload_n 0, 1) := by decide +kernel
theorem dX5_readNumber_26 : decode cX5_readNumber 26 = .ok (.getfield 32, 3) := by decide +kernel
theorem dX5_readNumber_29 : decode cX5_readNumber 29 = .ok (.baload, 1) := by decide +kernel
theorem dX5_readNumber_30 : decode cX5_readNumber 30 = .ok (.iadd, 1) := by decide +kernel
theorem dX5_readNumber_31 : decode cX5_readNumber 31 = .ok (.bipush 48, 2) := by decide +kernel
theorem dX5_readNumber_33 : decode cX5_readNumber 33 = .ok (.isub, 1) := by decide +kernel
theorem dX5_readNumber_34 : decode cX5_readNumber 34 = .ok (.istore_n 1, 1) := by decide +kernel
theorem dX5_readNumber_35 : decode cX5_readNumber 35 = .ok (.aload_n 0, 1) := by decide +kernel
theorem dX5_readNumber_36 : decode cX5_readNumber 36 = .ok (.dup, 1) := by decide +kernel
theorem dX5_readNumber_37 : decode cX5_readNumber 37 = .ok (.getfield 32, 3) := by decide +kernel
theorem dX5_readNumber_40 : decode cX5_readNumber 40 = .ok (.iconst 1, 1) := by decide +kernel
theorem dX5_readNumber_41 : decode cX5_readNumber 41 = .ok (.iadd, 1) := by decide +kernel
theorem dX5_readNumber_42 : decode cX5_readNumber 42 = .ok (.putfield 32, 3) := by decide +kernel
theorem dX5_readNumber_45 : decode cX5_readNumber 45 = .ok (.iinc 2 1, 3) := by decide +kernel
theorem dX5_readNumber_48 : decode cX5_readNumber 48 = .ok (.goto (-44), 3) := by decide +kernel
theorem dX5_readNumber_51 : decode cX5_readNumber 51 = .ok (.iload_n 1, 1) := by decide +kernel
theorem dX5_readNumber_52 : decode cX5_readNumber 52 = .ok (.ireturn, 1) := by decide +kernel
theorem dX5_wordBetween_0 : decode cX5_wordBetween 0 = .ok (.iconst 0, 1) := by decide +kernel
theorem dX5_wordBetween_1 : decode cX5_wordBetween 1 = .ok (.istore_n 3, 1) := by decide +kernel
theorem dX5_wordBetween_2 : decode cX5_wordBetween 2 = .ok (.iload_n 3, 1) := by decide +kernel
theorem dX5_wordBetween_3 : decode cX5_wordBetween 3 = .ok (.getstatic 62, 3) := by decide +kernel
theorem dX5_wordBetween_6 : decode cX5_wordBetween 6 = .ok (.arraylength, 1) := by decide +kernel
theorem dX5_wordBetween_7 : decode cX5_wordBetween 7 = .ok (.if_icmp .ge 38, 3) := by decide +kernel
theorem dX5_wordBetween_10 : decode cX5_wordBetween 10 = .ok (.getstatic 62, 3) := by decide +kernel
theorem dX5_wordBetween_13 : decode cX5_wordBetween 13 = .ok (.iload_n 3, 1) := by decide +kernel
theorem dX5_wordBetween_14 : decode cX5_wordBetween 14 = .ok (.aaload, 1) := by decide +kernel
theorem dX5_wordBetween_15 : decode cX5_wordBetween 15 = .ok (.astore 4, 2) := by decide +kernel
theorem dX5_wordBetween_17 : decode cX5_wordBetween 17 = .ok (.aload 4, 2) := by decide +kernel
theorem dX5_wordBetween_19 : decode cX5_wordBetween 19 = .ok (.ifnull 20, 3) := by decide +kernel
theorem dX5_wordBetween_22 : decode cX5_wordBetween 22 = .ok (.aload_n 0, 1) := by decide +kernel
theorem dX5_wordBetween_23 : decode cX5_wordBetween 23 = .ok (.aload 4, 2) := by decide +kernel
theorem dX5_wordBetween_25 : decode cX5_wordBetween 25 = .ok (.getfield 65, 3) := by decide +kernel
theorem dX5_wordBetween_28 : decode cX5_wordBetween 28 = .ok (.iload_n 1, 1) := by decide +kernel
theorem dX5_wordBetween_29 : decode cX5_wordBetween 29 = .ok (.iload_n 2, 1) := by decide +kernel
theorem dX5_wordBetween_30 : decode cX5_wordBetween 30 = .ok (.invokevirtual 69, 3) := by decide +kernel
theorem dX5_wordBetween_33 : decode cX5_wordBetween 33 = .ok (.ifCond .eq 6, 3) := by decide +kernel
theorem dX5_wordBetween_36 : decode cX5_wordBetween 36 = .ok (.aload 4, 2) := by decide +kernel
theorem dX5_wordBetween_38 : decode cX5_wordBetween 38 = .ok (.areturn, 1) := by decide +kernel
theorem dX5_wordBetween_39 : decode cX5_wordBetween 39 = .ok (.iinc 3 1, 3) := by decide +kernel
theorem dX5_wordBetween_42 : decode cX5_wordBetween 42 = .ok (.goto (-40), 3) := by decide +kernel
theorem dX5_wordBetween_45 : decode cX5_wordBetween 45 = .ok (.aconst_null, 1) := by decide +kernel
theorem dX5_wordBetween_46 : decode cX5_wordBetween 46 = .ok (.areturn, 1) := by decide +kernel
theorem dX5_isText_0 : decode cX5_isText 0 = .ok (.aload_n 1, 1) := by decide +kernel
theorem dX5_isText_1 : decode cX5_isText 1 = .ok (.ifnull 13, 3) := by decide +kernel
theorem dX5_isText_4 : decode cX5_isText 4 = .ok (.aload_n 1, 1) := by decide +kernel
theorem dX5_isText_5 : decode cX5_isText 5 = .ok (.invokevirtual 73, 3) := by decide +kernel
theorem dX5_isText_8 : decode cX5_isText 8 = .ok (.iload_n 3, 1) := by decide +kernel
theorem dX5_isText_9 : decode cX5_isText 9 = .ok (.iload_n 2, 1) := by decide +kernel
theorem dX5_isText_10 : decode cX5_isText 10 = .ok (.isub, 1) := by decide +kernel
theorem dX5_isText_11 : decode cX5_isText 11 = .ok (.if_icmp .eq 5, 3) := by decide +kernel
theorem dX5_isText_14 : decode cX5_isText 14 = .ok (.iconst 0, 1) := by decide +kernel
theorem dX5_isText_15 : decode cX5_isText 15 = .ok (.ireturn, 1) := by decide +kernel
theorem dX5_isText_16 : decode cX5_isText 16 = .ok (.iconst 0, 1) := by decide +kernel
theorem dX5_isText_17 : decode cX5_isText 17 = .ok (.istore 4, 2) := by decide +kernel
theorem dX5_isText_19 : decode cX5_isText 19 = .ok (.iload 4, 2) := by decide +kernel
theorem dX5_isText_21 : decode cX5_isText 21 = .ok (.aload_n 1, 1) := by decide +kernel
theorem dX5_isText_22 : decode cX5_isText 22 = .ok (.invokevirtual 73, 3) := by decide +kernel
theorem dX5_isText_25 : decode cX5_isText 25 = .ok (.if_icmp .ge 29, 3) := by decide +kernel
theorem dX5_isText_28 : decode cX5_isText 28 = .ok (.aload_n 0, 1) := by decide +kernel
theorem dX5_isText_29 : decode cX5_isText 29 = .ok (.getfield 9, 3) := by decide +kernel
theorem dX5_isText_32 : decode cX5_isText 32 = .ok (.iload_n 2, 1) := by decide +kernel
theorem dX5_isText_33 : decode cX5_isText 33 = .ok (.iload 4, 2) := by decide +kernel
theorem dX5_isText_35 : decode cX5_isText 35 = .ok (.iadd, 1) := by decide +kernel
theorem dX5_isText_36 : decode cX5_isText 36 = .ok (.baload, 1) := by decide +kernel
theorem dX5_isText_37 : decode cX5_isText 37 = .ok (.aload_n 1, 1) := by decide +kernel
theorem dX5_isText_38 : decode cX5_isText 38 = .ok (.iload 4, 2) := by decide +kernel
theorem dX5_isText_40 : decode cX5_isText 40 = .ok (.invokevirtual 78, 3) := by decide +kernel
theorem dX5_isText_43 : decode cX5_isText 43 = .ok (.if_icmp .eq 5, 3) := by decide +kernel
theorem dX5_isText_46 : decode cX5_isText 46 = .ok (.iconst 0, 1) := by decide +kernel
theorem dX5_isText_47 : decode cX5_isText 47 = .ok (.ireturn, 1) := by decide +kernel
theorem dX5_isText_48 : decode cX5_isText 48 = .ok (.iinc 4 1, 3) := by decide +kernel
theorem dX5_isText_51 : decode cX5_isText 51 = .ok (.goto (-32), 3) := by decide +kernel
theorem dX5_isText_54 : decode cX5_isText 54 = .ok (.iconst 1, 1) := by decide +kernel
theorem dX5_isText_55 : decode cX5_isText 55 = .ok (.ireturn, 1) := by decide +kernel
theorem dX6_init_0 : decode cX6_init 0 = .ok (.aload_n 0, 1) := by decide +kernel
theorem dX6_init_1 : decode cX6_init 1 = .ok (.invokespecial 3, 3) := by decide +kernel
theorem dX6_init_4 : decode cX6_init 4 = .ok (.aload_n 0, 1) := by decide +kernel
theorem dX6_init_5 : decode cX6_init 5 = .ok (.bipush 64, 2) := by decide +kernel
theorem dX6_init_7 : decode cX6_init 7 = .ok (.newarray .long, 2) := by decide +kernel
theorem dX6_init_9 : decode cX6_init 9 = .ok (.putfield 9, 3) := by decide +kernel
theorem dX6_init_12 : decode cX6_init 12 = .ok (.aload_n 0, 1) := by decide +kernel
theorem dX6_init_13 : decode cX6_init 13 = .ok (.bipush 64, 2) := by decide +kernel
theorem dX6_init_15 : decode cX6_init 15 = .ok (.newarray .int, 2) := by decide +kernel
theorem dX6_init_17 : decode cX6_init 17 = .ok (.putfield 15, 3) := by decide +kernel
theorem dX6_init_20 : decode cX6_init 20 = .ok (.aload_n 0, 1) := by decide +kernel
theorem dX6_init_21 : decode cX6_init 21 = .ok (.aload_n 1, 1) := by decide +kernel
theorem dX6_init_22 : decode cX6_init 22 = .ok (.putfield 19, 3) := by decide +kernel
theorem dX6_init_25 : decode cX6_init 25 = .ok (.return_, 1) := by decide +kernel
theorem dX6_leastTime_0 : decode cX6_leastTime 0 = .ok (.aload_n 0, 1) := by decide +kernel
theorem dX6_leastTime_1 : decode cX6_leastTime 1 = .ok (.getfield 9, 3) := by decide +kernel
theorem dX6_leastTime_4 : decode cX6_leastTime 4 = .ok (.ldc2_w 23, 3) := by decide +kernel
theorem dX6_leastTime_7 : decode cX6_leastTime 7 = .ok (.invokestatic 25, 3) := by decide +kernel
theorem dX6_leastTime_10 : decode cX6_leastTime 10 = .ok (.aload_n 0, 1) := by decide +kernel
theorem dX6_leastTime_11 : decode cX6_leastTime 11 = .ok (.getfield 9, 3) := by decide +kernel
theorem dX6_leastTime_14 : decode cX6_leastTime 14 = .ok (.iload_n 2, 1) := by decide +kernel
theorem dX6_leastTime_15 : decode cX6_leastTime 15 = .ok (.lconst 0, 1) := by decide +kernel
theorem dX6_leastTime_16 : decode cX6_leastTime 16 = .ok (.lastore, 1) := by decide +kernel
theorem dX6_leastTime_17 : decode cX6_leastTime 17 = .ok (.aload_n 0, 1) := by decide +kernel
theorem dX6_leastTime_18 : decode cX6_leastTime 18 = .ok (.getfield 15, 3) := by decide +kernel
theorem dX6_leastTime_21 : decode cX6_leastTime 21 = .ok (.iconst 0, 1) := by decide +kernel
theorem dX6_leastTime_22 : decode cX6_leastTime 22 = .ok (.iload_n 2, 1) := by decide +kernel
theorem dX6_leastTime_23 : decode cX6_leastTime 23 = .ok (.iastore, 1) := by decide +kernel
theorem dX6_leastTime_24 : decode cX6_leastTime 24 = .ok (.aload_n 0, 1) := by decide +kernel
theorem dX6_leastTime_25 : decode cX6_leastTime 25 = .ok (.iconst 1, 1) := by decide +kernel
theorem dX6_leastTime_26 : decode cX6_leastTime 26 = .ok (.putfield 31, 3) := by decide +kernel
theorem dX6_leastTime_29 : decode cX6_leastTime 29 = .ok (.iconst 0, 1) := by decide +kernel
theorem dX6_leastTime_30 : decode cX6_leastTime 30 = .ok (.istore 4, 2) := by decide +kernel
theorem dX6_leastTime_32 : decode cX6_leastTime 32 = .ok (.iload 4, 2) := by decide +kernel
theorem dX6_leastTime_34 : decode cX6_leastTime 34 = .ok (.aload_n 0, 1) := by decide +kernel
theorem dX6_leastTime_35 : decode cX6_leastTime 35 = .ok (.getfield 19, 3) := by decide +kernel
theorem dX6_leastTime_38 : decode cX6_leastTime 38 = .ok (.getfield 35, 3) := by decide +kernel
theorem dX6_leastTime_41 : decode cX6_leastTime 41 = .ok (.if_icmp .ge 38, 3) := by decide +kernel
theorem dX6_leastTime_44 : decode cX6_leastTime 44 = .ok (.aload_n 0, 1) := by decide +kernel
theorem dX6_leastTime_45 : decode cX6_leastTime 45 = .ok (.getfield 31, 3) := by decide +kernel
theorem dX6_leastTime_48 : decode cX6_leastTime 48 = .ok (.ifCond .le 31, 3) := by decide +kernel
theorem dX6_leastTime_51 : decode cX6_leastTime 51 = .ok (.aload_n 0, 1) := by decide +kernel
theorem dX6_leastTime_52 : decode cX6_leastTime 52 = .ok (.invokevirtual 40, 3) := by decide +kernel
theorem dX6_leastTime_55 : decode cX6_leastTime 55 = .ok (.istore 5, 2) := by decide +kernel
theorem dX6_leastTime_57 : decode cX6_leastTime 57 = .ok (.iload 5, 2) := by decide +kernel
theorem dX6_leastTime_59 : decode cX6_leastTime 59 = .ok (.iload_n 3, 1) := by decide +kernel
theorem dX6_leastTime_60 : decode cX6_leastTime 60 = .ok (.if_icmp .ne 6, 3) := by decide +kernel
theorem dX6_leastTime_63 : decode cX6_leastTime 63 = .ok (.goto 16, 3) := by decide +kernel
theorem dX6_leastTime_66 : decode cX6_leastTime 66 = .ok (.aload_n 0, 1) := by decide +kernel
theorem dX6_leastTime_67 : decode cX6_leastTime 67 = .ok (.aload_n 1, 1) := by decide +kernel
theorem dX6_leastTime_68 : decode cX6_leastTime 68 = .ok (.iload 5, 2) := by decide +kernel
theorem dX6_leastTime_70 : decode cX6_leastTime 70 = .ok (.invokevirtual 44, 3) := by decide +kernel
theorem dX6_leastTime_73 : decode cX6_leastTime 73 = .ok (.iinc 4 1, 3) := by decide +kernel
theorem dX6_leastTime_76 : decode cX6_leastTime 76 = .ok (.goto (-44), 3) := by decide +kernel
theorem dX6_leastTime_79 : decode cX6_leastTime 79 = .ok (.aload_n 0, 1) := by decide +kernel
theorem dX6_leastTime_80 : decode cX6_leastTime 80 = .ok (.getfield 9, 3) := by decide +kernel
theorem dX6_leastTime_83 : decode cX6_leastTime 83 = .ok (.iload_n 3, 1) := by decide +kernel
theorem dX6_leastTime_84 : decode cX6_leastTime 84 = .ok (.laload, 1) := by decide +kernel
theorem dX6_leastTime_85 : decode cX6_leastTime 85 = .ok (.lreturn, 1) := by decide +kernel
theorem dX6_takeNearest_0 : decode cX6_takeNearest 0 = .ok (.iconst 0, 1) := by decide +kernel
theorem dX6_takeNearest_1 : decode cX6_takeNearest 1 = .ok (.istore_n 1, 1) := by decide +kernel
theorem dX6_takeNearest_2 : decode cX6_takeNearest 2 = .ok (.aload_n 0, 1) := by decide +kernel
theorem dX6_takeNearest_3 : decode cX6_takeNearest 3 = .ok (.getfield 9, 3) := by decide +kernel
theorem dX6_takeNearest_6 : decode cX6_takeNearest 6 = .ok (.aload_n 0, 1) := by decide +kernel
theorem dX6_takeNearest_7 : decode cX6_takeNearest 7 = .ok (.getfield 15, 3) := by decide +kernel
theorem dX6_takeNearest_10 : decode cX6_takeNearest 10 = .ok (.iconst 0, 1) := by decide +kernel
theorem dX6_takeNearest_11 : decode cX6_takeNearest 11 = .ok (.iaload, 1) := by decide +kernel
theorem dX6_takeNearest_12 : decode cX6_takeNearest 12 = .ok (.laload, 1) := by decide +kernel
theorem dX6_takeNearest_13 : decode cX6_takeNearest 13 = .ok (.lstore_n 2, 1) := by decide +kernel
theorem dX6_takeNearest_14 : decode cX6_takeNearest 14 = .ok (.iconst 1, 1) := by decide +kernel
theorem dX6_takeNearest_15 : decode cX6_takeNearest 15 = .ok (.istore 4, 2) := by decide +kernel
theorem dX6_takeNearest_17 : decode cX6_takeNearest 17 = .ok (.iload 4, 2) := by decide +kernel
theorem dX6_takeNearest_19 : decode cX6_takeNearest 19 = .ok (.aload_n 0, 1) := by decide +kernel
theorem dX6_takeNearest_20 : decode cX6_takeNearest 20 = .ok (.getfield 31, 3) := by decide +kernel
theorem dX6_takeNearest_23 : decode cX6_takeNearest 23 = .ok (.if_icmp .ge 36, 3) := by decide +kernel
theorem dX6_takeNearest_26 : decode cX6_takeNearest 26 = .ok (.aload_n 0, 1) := by decide +kernel
theorem dX6_takeNearest_27 : decode cX6_takeNearest 27 = .ok (.getfield 9, 3) := by decide +kernel
theorem dX6_takeNearest_30 : decode cX6_takeNearest 30 = .ok (.aload_n 0, 1) := by decide +kernel
theorem dX6_takeNearest_31 : decode cX6_takeNearest 31 = .ok (.getfield 15, 3) := by decide +kernel
theorem dX6_takeNearest_34 : decode cX6_takeNearest 34 = .ok (.iload 4, 2) := by decide +kernel
theorem dX6_takeNearest_36 : decode cX6_takeNearest 36 = .ok (.iaload, 1) := by decide +kernel
theorem dX6_takeNearest_37 : decode cX6_takeNearest 37 = .ok (.laload, 1) := by decide +kernel
theorem dX6_takeNearest_38 : decode cX6_takeNearest 38 = .ok (.lstore 5, 2) := by decide +kernel
theorem dX6_takeNearest_40 : decode cX6_takeNearest 40 = .ok (.lload 5, 2) := by decide +kernel
theorem dX6_takeNearest_42 : decode cX6_takeNearest 42 = .ok (.lload_n 2, 1) := by decide +kernel
theorem dX6_takeNearest_43 : decode cX6_takeNearest 43 = .ok (.lcmp, 1) := by decide +kernel
theorem dX6_takeNearest_44 : decode cX6_takeNearest 44 = .ok (.ifCond .ge 9, 3) := by decide +kernel
theorem dX6_takeNearest_47 : decode cX6_takeNearest 47 = .ok (.lload 5, 2) := by decide +kernel
theorem dX6_takeNearest_49 : decode cX6_takeNearest 49 = .ok (.lstore_n 2, 1) := by decide +kernel
theorem dX6_takeNearest_50 : decode cX6_takeNearest 50 = .ok (.iload 4, 2) := by decide +kernel
theorem dX6_takeNearest_52 : decode cX6_takeNearest 52 = .ok (.istore_n 1, 1) := by decide +kernel
theorem dX6_takeNearest_53 : decode cX6_takeNearest 53 = .ok (.iinc 4 1, 3) := by decide +kernel
theorem dX6_takeNearest_56 : decode cX6_takeNearest 56 = .ok (.goto (-39), 3) := by decide +kernel
theorem dX6_takeNearest_59 : decode cX6_takeNearest 59 = .ok (.aload_n 0, 1) := by decide +kernel
theorem dX6_takeNearest_60 : decode cX6_takeNearest 60 = .ok (.getfield 15, 3) := by decide +kernel
theorem dX6_takeNearest_63 : decode cX6_takeNearest 63 = .ok (.iload_n 1, 1) := by decide +kernel
theorem dX6_takeNearest_64 : decode cX6_takeNearest 64 = .ok (.iaload, 1) := by decide +kernel
theorem dX6_takeNearest_65 : decode cX6_takeNearest 65 = .ok (.istore 4, 2) := by decide +kernel
theorem dX6_takeNearest_67 : decode cX6_takeNearest 67 = .ok (.aload_n 0, 1) := by decide +kernel
theorem dX6_takeNearest_68 : decode cX6_takeNearest 68 = .ok (.dup, 1) := by decide +kernel
theorem dX6_takeNearest_69 : decode cX6_takeNearest 69 = .ok (.getfield 31, 3) := by decide +kernel
theorem dX6_takeNearest_72 : decode cX6_takeNearest 72 = .ok (.iconst 1, 1) := by decide +kernel
theorem dX6_takeNearest_73 : decode cX6_takeNearest 73 = .ok (.isub, 1) := by decide +kernel
theorem dX6_takeNearest_74 : decode cX6_takeNearest 74 = .ok (.putfield 31, 3) := by decide +kernel
theorem dX6_takeNearest_77 : decode cX6_takeNearest 77 = .ok (.aload_n 0, 1) := by decide +kernel
theorem dX6_takeNearest_78 : decode cX6_takeNearest 78 = .ok (.getfield 15, 3) := by decide +kernel
theorem dX6_takeNearest_81 : decode cX6_takeNearest 81 = .ok (.iload_n 1, 1) := by decide +kernel
theorem dX6_takeNearest_82 : decode cX6_takeNearest 82 = .ok (.aload_n 0, 1) := by decide +kernel
theorem dX6_takeNearest_83 : decode cX6_takeNearest 83 = .ok (.getfield 15, 3) := by decide +kernel
theorem dX6_takeNearest_86 : decode cX6_takeNearest 86 = .ok (.aload_n 0, 1) := by decide +kernel
theorem dX6_takeNearest_87 : decode cX6_takeNearest 87 = .ok (.getfield 31, 3) := by decide +kernel
theorem dX6_takeNearest_90 : decode cX6_takeNearest 90 = .ok (.iaload, 1) := by decide +kernel
theorem dX6_takeNearest_91 : decode cX6_takeNearest 91 = .ok (.iastore, 1) := by decide +kernel
theorem dX6_takeNearest_92 : decode cX6_takeNearest 92 = .ok (.iload 4, 2) := by decide +kernel
theorem dX6_takeNearest_94 : decode cX6_takeNearest 94 = .ok (.ireturn, 1) := by decide +kernel
theorem dX6_reachNeighbours_0 : decode cX6_reachNeighbours 0 = .ok (.aload_n 0, 1) := by decide +kernel
theorem dX6_reachNeighbours_1 : decode cX6_reachNeighbours 1 = .ok (.getfield 19, 3) := by decide +kernel
theorem dX6_reachNeighbours_4 : decode cX6_reachNeighbours 4 = .ok (.getfield 48, 3) := by decide +kernel
theorem dX6_reachNeighbours_7 : decode cX6_reachNeighbours 7 = .ok (.iload_n 2, 1) := by decide +kernel
theorem dX6_reachNeighbours_8 : decode cX6_reachNeighbours 8 = .ok (.aaload, 1) := by decide +kernel
theorem dX6_reachNeighbours_9 : decode cX6_reachNeighbours 9 = .ok (.astore_n 3, 1) := by decide +kernel
theorem dX6_reachNeighbours_10 : decode cX6_reachNeighbours 10 = .ok (.aload_n 0, 1) := by decide +kernel
theorem dX6_reachNeighbours_11 : decode cX6_reachNeighbours 11 = .ok (.getfield 19, 3) := by decide +kernel
theorem dX6_reachNeighbours_14 : decode cX6_reachNeighbours 14 = .ok (.getfield 52, 3) := by decide +kernel
theorem dX6_reachNeighbours_17 : decode cX6_reachNeighbours 17 = .ok (.iload_n 2, 1) := by decide +kernel
theorem dX6_reachNeighbours_18 : decode cX6_reachNeighbours 18 = .ok (.aaload, 1) := by decide +kernel
theorem dX6_reachNeighbours_19 : decode cX6_reachNeighbours 19 = .ok (.astore 4, 2) := by decide +kernel
theorem dX6_reachNeighbours_21 : decode cX6_reachNeighbours 21 = .ok (.aload_n 0, 1) := by decide +kernel
theorem dX6_reachNeighbours_22 : decode cX6_reachNeighbours 22 = .ok (.getfield 19, 3) := by decide +kernel
theorem dX6_reachNeighbours_25 : decode cX6_reachNeighbours 25 = .ok (.getfield 55, 3) := by decide +kernel
theorem dX6_reachNeighbours_28 : decode cX6_reachNeighbours 28 = .ok (.iload_n 2, 1) := by decide +kernel
theorem dX6_reachNeighbours_29 : decode cX6_reachNeighbours 29 = .ok (.iaload, 1) := by decide +kernel
theorem dX6_reachNeighbours_30 : decode cX6_reachNeighbours 30 = .ok (.istore 5, 2) := by decide +kernel
theorem dX6_reachNeighbours_32 : decode cX6_reachNeighbours 32 = .ok (.aload_n 0, 1) := by decide +kernel
theorem dX6_reachNeighbours_33 : decode cX6_reachNeighbours 33 = .ok (.getfield 9, 3) := by decide +kernel
theorem dX6_reachNeighbours_36 : decode cX6_reachNeighbours 36 = .ok (.iload_n 2, 1) := by decide +kernel
theorem dX6_reachNeighbours_37 : decode cX6_reachNeighbours 37 = .ok (.laload, 1) := by decide +kernel
theorem dX6_reachNeighbours_38 : decode cX6_reachNeighbours 38 = .ok (.lstore 6, 2) := by decide +kernel
theorem dX6_reachNeighbours_40 : decode cX6_reachNeighbours 40 = .ok (.iconst 0, 1) := by decide +kernel
theorem dX6_reachNeighbours_41 : decode cX6_reachNeighbours 41 = .ok (.istore 8, 2) := by decide +kernel
theorem dX6_reachNeighbours_43 : decode cX6_reachNeighbours 43 = .ok (.iload 8, 2) := by decide +kernel
theorem dX6_reachNeighbours_45 : decode cX6_reachNeighbours 45 = .ok (.iload 5, 2) := by decide +kernel
theorem dX6_reachNeighbours_47 : decode cX6_reachNeighbours 47 = .ok (.if_icmp .ge 102, 3) := by decide +kernel
theorem dX6_reachNeighbours_50 : decode cX6_reachNeighbours 50 = .ok (.aload_n 3, 1) := by decide +kernel
theorem dX6_reachNeighbours_51 : decode cX6_reachNeighbours 51 = .ok (.iload 8, 2) := by decide +kernel
theorem dX6_reachNeighbours_53 : decode cX6_reachNeighbours 53 = .ok (.iaload, 1) := by decide +kernel
theorem dX6_reachNeighbours_54 : decode cX6_reachNeighbours 54 = .ok (.istore 9, 2) := by decide +kernel
theorem dX6_reachNeighbours_56 : decode cX6_reachNeighbours 56 = .ok (.lload 6, 2) := by decide +kernel
theorem dX6_reachNeighbours_58 : decode cX6_reachNeighbours 58 = .ok (.aload 4, 2) := by decide +kernel
theorem dX6_reachNeighbours_60 : decode cX6_reachNeighbours 60 = .ok (.iload 8, 2) := by decide +kernel
theorem dX6_reachNeighbours_62 : decode cX6_reachNeighbours 62 = .ok (.iaload, 1) := by decide +kernel
theorem dX6_reachNeighbours_63 : decode cX6_reachNeighbours 63 = .ok (.i2l, 1) := by decide +kernel
theorem dX6_reachNeighbours_64 : decode cX6_reachNeighbours 64 = .ok (.aload_n 1, 1) := by decide +kernel
theorem dX6_reachNeighbours_65 : decode cX6_reachNeighbours 65 = .ok (.iload_n 2, 1) := by decide +kernel
theorem dX6_reachNeighbours_66 : decode cX6_reachNeighbours 66 = .ok (.iaload, 1) := by decide +kernel
theorem dX6_reachNeighbours_67 : decode cX6_reachNeighbours 67 = .ok (.aload_n 1, 1) := by decide +kernel
theorem dX6_reachNeighbours_68 : decode cX6_reachNeighbours 68 = .ok (.iload 9, 2) := by decide +kernel
theorem dX6_reachNeighbours_70 : decode cX6_reachNeighbours 70 = .ok (.iaload, 1) := by decide +kernel
theorem dX6_reachNeighbours_71 : decode cX6_reachNeighbours 71 = .ok (.iadd, 1) := by decide +kernel
theorem dX6_reachNeighbours_72 : decode cX6_reachNeighbours 72 = .ok (.i2l, 1) := by decide +kernel
theorem dX6_reachNeighbours_73 : decode cX6_reachNeighbours 73 = .ok (.lmul, 1) := by decide +kernel
theorem dX6_reachNeighbours_74 : decode cX6_reachNeighbours 74 = .ok (.ladd, 1) := by decide +kernel
theorem dX6_reachNeighbours_75 : decode cX6_reachNeighbours 75 = .ok (.lstore 10, 2) := by decide +kernel
theorem dX6_reachNeighbours_77 : decode cX6_reachNeighbours 77 = .ok (.lload 10, 2) := by decide +kernel
theorem dX6_reachNeighbours_79 : decode cX6_reachNeighbours 79 = .ok (.aload_n 0, 1) := by decide +kernel
theorem dX6_reachNeighbours_80 : decode cX6_reachNeighbours 80 = .ok (.getfield 9, 3) := by decide +kernel
theorem dX6_reachNeighbours_83 : decode cX6_reachNeighbours 83 = .ok (.iload 9, 2) := by decide +kernel
theorem dX6_reachNeighbours_85 : decode cX6_reachNeighbours 85 = .ok (.laload, 1) := by decide +kernel
theorem dX6_reachNeighbours_86 : decode cX6_reachNeighbours 86 = .ok (.lcmp, 1) := by decide +kernel
theorem dX6_reachNeighbours_87 : decode cX6_reachNeighbours 87 = .ok (.ifCond .ge 56, 3) := by decide +kernel
theorem dX6_reachNeighbours_90 : decode cX6_reachNeighbours 90 = .ok (.aload_n 0, 1) := by decide +kernel
theorem dX6_reachNeighbours_91 : decode cX6_reachNeighbours 91 = .ok (.getfield 9, 3) := by decide +kernel
theorem dX6_reachNeighbours_94 : decode cX6_reachNeighbours 94 = .ok (.iload 9, 2) := by decide +kernel
theorem dX6_reachNeighbours_96 : decode cX6_reachNeighbours 96 = .ok (.laload, 1) := by decide +kernel
theorem dX6_reachNeighbours_97 : decode cX6_reachNeighbours 97 = .ok (.ldc2_w 23, 3) := by decide +kernel
theorem dX6_reachNeighbours_100 : decode cX6_reachNeighbours 100 = .ok (.lcmp, 1) := by decide +kernel
theorem dX6_reachNeighbours_101 : decode cX6_reachNeighbours 101 = .ok (.ifCond .ne 33, 3) := by decide +kernel
theorem dX6_reachNeighbours_104 : decode cX6_reachNeighbours 104 = .ok (.aload_n 0, 1) := by decide +kernel
theorem dX6_reachNeighbours_105 : decode cX6_reachNeighbours 105 = .ok (.getfield 31, 3) := by decide +kernel
theorem dX6_reachNeighbours_108 : decode cX6_reachNeighbours 108 = .ok (.bipush 64, 2) := by decide +kernel
theorem dX6_reachNeighbours_110 : decode cX6_reachNeighbours 110 = .ok (.if_icmp .ge 24, 3) := by decide +kernel
theorem dX6_reachNeighbours_113 : decode cX6_reachNeighbours 113 = .ok (.aload_n 0, 1) := by decide +kernel
theorem dX6_reachNeighbours_114 : decode cX6_reachNeighbours 114 = .ok (.getfield 15, 3) := by decide +kernel
theorem dX6_reachNeighbours_117 : decode cX6_reachNeighbours 117 = .ok (.aload_n 0, 1) := by decide +kernel
theorem dX6_reachNeighbours_118 : decode cX6_reachNeighbours 118 = .ok (.getfield 31, 3) := by decide +kernel
theorem dX6_reachNeighbours_121 : decode cX6_reachNeighbours 121 = .ok (.iload 9, 2) := by decide +kernel
theorem dX6_reachNeighbours_123 : decode cX6_reachNeighbours 123 = .ok (.iastore, 1) := by decide +kernel
theorem dX6_reachNeighbours_124 : decode cX6_reachNeighbours 124 = .ok (.aload_n 0, 1) := by decide +kernel
theorem dX6_reachNeighbours_125 : decode cX6_reachNeighbours 125 = .ok (.dup, 1) := by decide +kernel
theorem dX6_reachNeighbours_126 : decode cX6_reachNeighbours 126 = .ok (.getfield 31, 3) := by decide +kernel
theorem dX6_reachNeighbours_129 : decode cX6_reachNeighbours 129 = .ok (.iconst 1, 1) := by decide +kernel
theorem dX6_reachNeighbours_130 : decode cX6_reachNeighbours 130 = .ok (.iadd, 1) := by decide +kernel
theorem dX6_reachNeighbours_131 : decode cX6_reachNeighbours 131 = .ok (.putfield 31, 3) := by decide +kernel
theorem dX6_reachNeighbours_134 : decode cX6_reachNeighbours 134 = .ok (.aload_n 0, 1) := by decide +kernel
theorem dX6_reachNeighbours_135 : decode cX6_reachNeighbours 135 = .ok (.getfield 9, 3) := by decide +kernel
theorem dX6_reachNeighbours_138 : decode cX6_reachNeighbours 138 = .ok (.iload 9, 2) := by decide +kernel
theorem dX6_reachNeighbours_140 : decode cX6_reachNeighbours 140 = .ok (.lload 10, 2) := by decide +kernel
theorem dX6_reachNeighbours_142 : decode cX6_reachNeighbours 142 = .ok (.lastore, 1) := by decide +kernel
theorem dX6_reachNeighbours_143 : decode cX6_reachNeighbours 143 = .ok (.iinc 8 1, 3) := by decide +kernel
theorem dX6_reachNeighbours_146 : decode cX6_reachNeighbours 146 = .ok (.goto (-103), 3) := by decide +kernel
theorem dX6_reachNeighbours_149 : decode cX6_reachNeighbours 149 = .ok (.return_, 1) := by decide +kernel
theorem dX6_placeBefore_0 : decode cX6_placeBefore 0 = .ok (.iconst 0, 1) := by decide +kernel
theorem dX6_placeBefore_1 : decode cX6_placeBefore 1 = .ok (.istore_n 3, 1) := by decide +kernel
theorem dX6_placeBefore_2 : decode cX6_placeBefore 2 = .ok (.iload_n 3, 1) := by decide +kernel
theorem dX6_placeBefore_3 : decode cX6_placeBefore 3 = .ok (.aload_n 0, 1) := by decide +kernel
theorem dX6_placeBefore_4 : decode cX6_placeBefore 4 = .ok (.getfield 19, 3) := by decide +kernel
theorem dX6_placeBefore_7 : decode cX6_placeBefore 7 = .ok (.getfield 55, 3) := by decide +kernel
theorem dX6_placeBefore_10 : decode cX6_placeBefore 10 = .ok (.iload_n 2, 1) := by decide +kernel
theorem dX6_placeBefore_11 : decode cX6_placeBefore 11 = .ok (.iaload, 1) := by decide +kernel
theorem dX6_placeBefore_12 : decode cX6_placeBefore 12 = .ok (.if_icmp .ge 68, 3) := by decide +kernel
theorem dX6_placeBefore_15 : decode cX6_placeBefore 15 = .ok (.aload_n 0, 1) := by decide +kernel
theorem dX6_placeBefore_16 : decode cX6_placeBefore 16 = .ok (.getfield 19, 3) := by decide +kernel
theorem dX6_placeBefore_19 : decode cX6_placeBefore 19 = .ok (.getfield 48, 3) := by decide +kernel
theorem dX6_placeBefore_22 : decode cX6_placeBefore 22 = .ok (.iload_n 2, 1) := by decide +kernel
theorem dX6_placeBefore_23 : decode cX6_placeBefore 23 = .ok (.aaload, 1) := by decide +kernel
theorem dX6_placeBefore_24 : decode cX6_placeBefore 24 = .ok (.iload_n 3, 1) := by decide +kernel
theorem dX6_placeBefore_25 : decode cX6_placeBefore 25 = .ok (.iaload, 1) := by decide +kernel
theorem dX6_placeBefore_26 : decode cX6_placeBefore 26 = .ok (.istore 4, 2) := by decide +kernel
theorem dX6_placeBefore_28 : decode cX6_placeBefore 28 = .ok (.aload_n 0, 1) := by decide +kernel
theorem dX6_placeBefore_29 : decode cX6_placeBefore 29 = .ok (.getfield 19, 3) := by decide +kernel
theorem dX6_placeBefore_32 : decode cX6_placeBefore 32 = .ok (.getfield 52, 3) := by decide +kernel
theorem dX6_placeBefore_35 : decode cX6_placeBefore 35 = .ok (.iload_n 2, 1) := by decide +kernel
theorem dX6_placeBefore_36 : decode cX6_placeBefore 36 = .ok (.aaload, 1) := by decide +kernel
theorem dX6_placeBefore_37 : decode cX6_placeBefore 37 = .ok (.iload_n 3, 1) := by decide +kernel
theorem dX6_placeBefore_38 : decode cX6_placeBefore 38 = .ok (.iaload, 1) := by decide +kernel
theorem dX6_placeBefore_39 : decode cX6_placeBefore 39 = .ok (.i2l, 1) := by decide +kernel
theorem dX6_placeBefore_40 : decode cX6_placeBefore 40 = .ok (.aload_n 1, 1) := by decide +kernel
theorem dX6_placeBefore_41 : decode cX6_placeBefore 41 = .ok (.iload_n 2, 1) := by decide +kernel
theorem dX6_placeBefore_42 : decode cX6_placeBefore 42 = .ok (.iaload, 1) := by decide +kernel
theorem dX6_placeBefore_43 : decode cX6_placeBefore 43 = .ok (.aload_n 1, 1) := by decide +kernel
theorem dX6_placeBefore_44 : decode cX6_placeBefore 44 = .ok (.iload 4, 2) := by decide +kernel
theorem dX6_placeBefore_46 : decode cX6_placeBefore 46 = .ok (.iaload, 1) := by decide +kernel
theorem dX6_placeBefore_47 : decode cX6_placeBefore 47 = .ok (.iadd, 1) := by decide +kernel
theorem dX6_placeBefore_48 : decode cX6_placeBefore 48 = .ok (.i2l, 1) := by decide +kernel
theorem dX6_placeBefore_49 : decode cX6_placeBefore 49 = .ok (.lmul, 1) := by decide +kernel
theorem dX6_placeBefore_50 : decode cX6_placeBefore 50 = .ok (.lstore 5, 2) := by decide +kernel
theorem dX6_placeBefore_52 : decode cX6_placeBefore 52 = .ok (.aload_n 0, 1) := by decide +kernel
theorem dX6_placeBefore_53 : decode cX6_placeBefore 53 = .ok (.getfield 9, 3) := by decide +kernel
theorem dX6_placeBefore_56 : decode cX6_placeBefore 56 = .ok (.iload 4, 2) := by decide +kernel
theorem dX6_placeBefore_58 : decode cX6_placeBefore 58 = .ok (.laload, 1) := by decide +kernel
theorem dX6_placeBefore_59 : decode cX6_placeBefore 59 = .ok (.lload 5, 2) := by decide +kernel
theorem dX6_placeBefore_61 : decode cX6_placeBefore 61 = .ok (.ladd, 1) := by decide +kernel
theorem dX6_placeBefore_62 : decode cX6_placeBefore 62 = .ok (.aload_n 0, 1) := by decide +kernel
theorem dX6_placeBefore_63 : decode cX6_placeBefore 63 = .ok (.getfield 9, 3) := by decide +kernel
theorem dX6_placeBefore_66 : decode cX6_placeBefore 66 = .ok (.iload_n 2, 1) := by decide +kernel
theorem dX6_placeBefore_67 : decode cX6_placeBefore 67 = .ok (.laload, 1) := by decide +kernel
theorem dX6_placeBefore_68 : decode cX6_placeBefore 68 = .ok (.lcmp, 1) := by decide +kernel
theorem dX6_placeBefore_69 : decode cX6_placeBefore 69 = .ok (.ifCond .ne 5, 3) := by decide +kernel
theorem dX6_placeBefore_72 : decode cX6_placeBefore 72 = .ok (.iload_n 3, 1) := by decide +kernel
theorem dX6_placeBefore_73 : decode cX6_placeBefore 73 = .ok (.ireturn, 1) := by decide +kernel
theorem dX6_placeBefore_74 : decode cX6_placeBefore 74 = .ok (.iinc 3 1, 3) := by decide +kernel
theorem dX6_placeBefore_77 : decode cX6_placeBefore 77 = .ok (.goto (-75), 3) := by decide +kernel
theorem dX6_placeBefore_80 : decode cX6_placeBefore 80 = .ok (.iconst (-1), 1) := by decide +kernel
theorem dX6_placeBefore_81 : decode cX6_placeBefore 81 = .ok (.ireturn, 1) := by decide +kernel
theorem dX7_init_0 : decode cX7_init 0 = .ok (.aload_n 0, 1) := by decide +kernel
theorem dX7_init_1 : decode cX7_init 1 = .ok (.invokespecial 3, 3) := by decide +kernel
theorem dX7_init_4 : decode cX7_init 4 = .ok (.aload_n 0, 1) := by decide +kernel
theorem dX7_init_5 : decode cX7_init 5 = .ok (.iconst 4, 1) := by decide +kernel
theorem dX7_init_6 : decode cX7_init 6 = .ok (.putfield 9, 3) := by decide +kernel
theorem dX7_init_9 : decode cX7_init 9 = .ok (.aload_n 0, 1) := by decide +kernel
theorem dX7_init_10 : decode cX7_init 10 = .ok (.iconst 4, 1) := by decide +kernel
theorem dX7_init_11 : decode cX7_init 11 = .ok (.putfield 15, 3) := by decide +kernel
theorem dX7_init_14 : decode cX7_init 14 = .ok (.aload_n 0, 1) := by decide +kernel
theorem dX7_init_15 : decode cX7_init 15 = .ok (.iconst 1, 1) := by decide +kernel
theorem dX7_init_16 : decode cX7_init 16 = .ok (.putfield 18, 3) := by decide +kernel
theorem dX7_init_19 : decode cX7_init 19 = .ok (.aload_n 0, 1) := by decide +kernel
theorem dX7_init_20 : decode cX7_init 20 = .ok (.ldc 21, 2) := by decide +kernel
theorem dX7_init_22 : decode cX7_init 22 = .ok (.putfield 22, 3) := by decide +kernel
theorem dX7_init_25 : decode cX7_init 25 = .ok (.aload_n 0, 1) := by decide +kernel
theorem dX7_init_26 : decode cX7_init 26 = .ok (.sipush 1000, 3) := by decide +kernel
theorem dX7_init_29 : decode cX7_init 29 = .ok (.putfield 25, 3) := by decide +kernel
theorem dX7_init_32 : decode cX7_init 32 = .ok (.aload_n 0, 1) := by decide +kernel
theorem dX7_init_33 : decode cX7_init 33 = .ok (.iconst 0, 1) := by decide +kernel
theorem dX7_init_34 : decode cX7_init 34 = .ok (.putfield 28, 3) := by decide +kernel
theorem dX7_init_37 : decode cX7_init 37 = .ok (.aload_n 0, 1) := by decide +kernel
theorem dX7_init_38 : decode cX7_init 38 = .ok (.bipush 64, 2) := by decide +kernel
theorem dX7_init_40 : decode cX7_init 40 = .ok (.newarray .int, 2) := by decide +kernel
theorem dX7_init_42 : decode cX7_init 42 = .ok (.putfield 31, 3) := by decide +kernel
theorem dX7_init_45 : decode cX7_init 45 = .ok (.aload_n 0, 1) := by decide +kernel
theorem dX7_init_46 : decode cX7_init 46 = .ok (.bipush 64, 2) := by decide +kernel
theorem dX7_init_48 : decode cX7_init 48 = .ok (.newarray .int, 2) := by decide +kernel
theorem dX7_init_50 : decode cX7_init 50 = .ok (.putfield 35, 3) := by decide +kernel
theorem dX7_init_53 : decode cX7_init 53 = .ok (.aload_n 0, 1) := by decide +kernel
theorem dX7_init_54 : decode cX7_init 54 = .ok (.bipush 16, 2) := by decide +kernel
theorem dX7_init_56 : decode cX7_init 56 = .ok (.newarray .int, 2) := by decide +kernel
theorem dX7_init_58 : decode cX7_init 58 = .ok (.putfield 38, 3) := by decide +kernel
theorem dX7_init_61 : decode cX7_init 61 = .ok (.aload_n 0, 1) := by decide +kernel
theorem dX7_init_62 : decode cX7_init 62 = .ok (.bipush 16, 2) := by decide +kernel
theorem dX7_init_64 : decode cX7_init 64 = .ok (.newarray .int, 2) := by decide +kernel
theorem dX7_init_66 : decode cX7_init 66 = .ok (.putfield 41, 3) := by decide +kernel
theorem dX7_init_69 : decode cX7_init 69 = .ok (.aload_n 0, 1) := by decide +kernel
theorem dX7_init_70 : decode cX7_init 70 = .ok (.bipush 16, 2) := by decide +kernel
theorem dX7_init_72 : decode cX7_init 72 = .ok (.newarray .long, 2) := by decide +kernel
theorem dX7_init_74 : decode cX7_init 74 = .ok (.putfield 44, 3) := by decide +kernel
theorem dX7_init_77 : decode cX7_init 77 = .ok (.aload_n 0, 1) := by decide +kernel
theorem dX7_init_78 : decode cX7_init 78 = .ok (.bipush 16, 2) := by decide +kernel
theorem dX7_init_80 : decode cX7_init 80 = .ok (.newarray .boolean, 2) := by decide +kernel
theorem dX7_init_82 : decode cX7_init 82 = .ok (.putfield 48, 3) := by decide +kernel
theorem dX7_init_85 : decode cX7_init 85 = .ok (.aload_n 0, 1) := by decide +kernel
theorem dX7_init_86 : decode cX7_init 86 = .ok (.getfield 31, 3) := by decide +kernel
theorem dX7_init_89 : decode cX7_init 89 = .ok (.sipush 1000, 3) := by decide +kernel
theorem dX7_init_92 : decode cX7_init 92 = .ok (.invokestatic 52, 3) := by decide +kernel
theorem dX7_init_95 : decode cX7_init 95 = .ok (.aload_n 0, 1) := by decide +kernel
theorem dX7_init_96 : decode cX7_init 96 = .ok (.getfield 35, 3) := by decide +kernel
theorem dX7_init_99 : decode cX7_init 99 = .ok (.sipush 1000, 3) := by decide +kernel
theorem dX7_init_102 : decode cX7_init 102 = .ok (.invokestatic 52, 3) := by decide +kernel
theorem dX7_init_105 : decode cX7_init 105 = .ok (.return_, 1) := by decide +kernel
theorem dX7_cellCount_0 : decode cX7_cellCount 0 = .ok (.aload_n 0, 1) := by decide +kernel
theorem dX7_cellCount_1 : decode cX7_cellCount 1 = .ok (.getfield 9, 3) := by decide +kernel
theorem dX7_cellCount_4 : decode cX7_cellCount 4 = .ok (.aload_n 0, 1) := by decide +kernel
theorem dX7_cellCount_5 : decode cX7_cellCount 5 = .ok (.getfield 15, 3) := by decide +kernel
theorem dX7_cellCount_8 : decode cX7_cellCount 8 = .ok (.imul, 1) := by decide +kernel
theorem dX7_cellCount_9 : decode cX7_cellCount 9 = .ok (.ireturn, 1) := by decide +kernel
theorem dX7_sourceCell_0 : decode cX7_sourceCell 0 = .ok (.aload_n 0, 1) := by decide +kernel
theorem dX7_sourceCell_1 : decode cX7_sourceCell 1 = .ok (.getfield 9, 3) := by decide +kernel
theorem dX7_sourceCell_4 : decode cX7_sourceCell 4 = .ok (.aload_n 0, 1) := by decide +kernel
theorem dX7_sourceCell_5 : decode cX7_sourceCell 5 = .ok (.getfield 38, 3) := by decide +kernel
theorem dX7_sourceCell_8 : decode cX7_sourceCell 8 = .ok (.iload_n 1, 1) := by decide +kernel
theorem dX7_sourceCell_9 : decode cX7_sourceCell 9 = .ok (.iaload, 1) := by decide +kernel
theorem dX7_sourceCell_10 : decode cX7_sourceCell 10 = .ok (.imul, 1) := by decide +kernel
theorem dX7_sourceCell_11 : decode cX7_sourceCell 11 = .ok (.ireturn, 1) := by decide +kernel
theorem dX7_receiverCell_0 : decode cX7_receiverCell 0 = .ok (.aload_n 0, 1) := by decide +kernel
theorem dX7_receiverCell_1 : decode cX7_receiverCell 1 = .ok (.getfield 9, 3) := by decide +kernel
theorem dX7_receiverCell_4 : decode cX7_receiverCell 4 = .ok (.aload_n 0, 1) := by decide +kernel
theorem dX7_receiverCell_5 : decode cX7_receiverCell 5 = .ok (.getfield 41, 3) := by decide +kernel
theorem dX7_receiverCell_8 : decode cX7_receiverCell 8 = .ok (.iload_n 1, 1) := by decide +kernel
theorem dX7_receiverCell_9 : decode cX7_receiverCell 9 = .ok (.iaload, 1) := by decide +kernel
theorem dX7_receiverCell_10 : decode cX7_receiverCell 10 = .ok (.imul, 1) := by decide +kernel
theorem dX7_receiverCell_11 : decode cX7_receiverCell 11 = .ok (.aload_n 0, 1) := by decide +kernel
theorem dX7_receiverCell_12 : decode cX7_receiverCell 12 = .ok (.getfield 9, 3) := by decide +kernel
theorem dX7_receiverCell_15 : decode cX7_receiverCell 15 = .ok (.iadd, 1) := by decide +kernel
theorem dX7_receiverCell_16 : decode cX7_receiverCell 16 = .ok (.iconst 1, 1) := by decide +kernel
theorem dX7_receiverCell_17 : decode cX7_receiverCell 17 = .ok (.isub, 1) := by decide +kernel
theorem dX7_receiverCell_18 : decode cX7_receiverCell 18 = .ok (.ireturn, 1) := by decide +kernel
theorem dX7_isActive_0 : decode cX7_isActive 0 = .ok (.aload_n 0, 1) := by decide +kernel
theorem dX7_isActive_1 : decode cX7_isActive 1 = .ok (.getfield 48, 3) := by decide +kernel
theorem dX7_isActive_4 : decode cX7_isActive 4 = .ok (.iload_n 1, 1) := by decide +kernel
theorem dX7_isActive_5 : decode cX7_isActive 5 = .ok (.baload, 1) := by decide +kernel
theorem dX7_isActive_6 : decode cX7_isActive 6 = .ok (.ifCond .eq 20, 3) := by decide +kernel
theorem dX7_isActive_9 : decode cX7_isActive 9 = .ok (.aload_n 0, 1) := by decide +kernel
theorem dX7_isActive_10 : decode cX7_isActive 10 = .ok (.getfield 44, 3) := by decide +kernel
theorem dX7_isActive_13 : decode cX7_isActive 13 = .ok (.iload_n 1, 1) := by decide +kernel
theorem dX7_isActive_14 : decode cX7_isActive 14 = .ok (.laload, 1) := by decide +kernel
theorem dX7_isActive_15 : decode cX7_isActive 15 = .ok (.ldc2_w 58, 3) := by decide +kernel
theorem dX7_isActive_18 : decode cX7_isActive 18 = .ok (.lcmp, 1) := by decide +kernel
theorem dX7_isActive_19 : decode cX7_isActive 19 = .ok (.ifCond .eq 7, 3) := by decide +kernel
theorem dX7_isActive_22 : decode cX7_isActive 22 = .ok (.iconst 1, 1) := by decide +kernel
theorem dX7_isActive_23 : decode cX7_isActive 23 = .ok (.goto 4, 3) := by decide +kernel
theorem dX7_isActive_26 : decode cX7_isActive 26 = .ok (.iconst 0, 1) := by decide +kernel
theorem dX7_isActive_27 : decode cX7_isActive 27 = .ok (.ireturn, 1) := by decide +kernel
theorem dX7_startAnew_0 : decode cX7_startAnew 0 = .ok (.aload_n 0, 1) := by decide +kernel
theorem dX7_startAnew_1 : decode cX7_startAnew 1 = .ok (.iload_n 1, 1) := by decide +kernel
theorem dX7_startAnew_2 : decode cX7_startAnew 2 = .ok (.putfield 9, 3) := by decide +kernel
theorem dX7_startAnew_5 : decode cX7_startAnew 5 = .ok (.aload_n 0, 1) := by decide +kernel
theorem dX7_startAnew_6 : decode cX7_startAnew 6 = .ok (.iload_n 2, 1) := by decide +kernel
theorem dX7_startAnew_7 : decode cX7_startAnew 7 = .ok (.putfield 15, 3) := by decide +kernel
theorem dX7_startAnew_10 : decode cX7_startAnew 10 = .ok (.aload_n 0, 1) := by decide +kernel
theorem dX7_startAnew_11 : decode cX7_startAnew 11 = .ok (.iconst 0, 1) := by decide +kernel
theorem dX7_startAnew_12 : decode cX7_startAnew 12 = .ok (.putfield 60, 3) := by decide +kernel
theorem dX7_startAnew_15 : decode cX7_startAnew 15 = .ok (.aload_n 0, 1) := by decide +kernel
theorem dX7_startAnew_16 : decode cX7_startAnew 16 = .ok (.getfield 31, 3) := by decide +kernel
theorem dX7_startAnew_19 : decode cX7_startAnew 19 = .ok (.sipush 1000, 3) := by decide +kernel
theorem dX7_startAnew_22 : decode cX7_startAnew 22 = .ok (.invokestatic 52, 3) := by decide +kernel
theorem dX7_startAnew_25 : decode cX7_startAnew 25 = .ok (.aload_n 0, 1) := by decide +kernel
theorem dX7_startAnew_26 : decode cX7_startAnew 26 = .ok (.getfield 35, 3) := by decide +kernel
theorem dX7_startAnew_29 : decode cX7_startAnew 29 = .ok (.sipush 1000, 3) := by decide +kernel
theorem dX7_startAnew_32 : decode cX7_startAnew 32 = .ok (.invokestatic 52, 3) := by decide +kernel
theorem dX7_startAnew_35 : decode cX7_startAnew 35 = .ok (.return_, 1) := by decide +kernel
theorem dX7_copyFrom_0 : decode cX7_copyFrom 0 = .ok (.aload_n 0, 1) := by decide +kernel
theorem dX7_copyFrom_1 : decode cX7_copyFrom 1 = .ok (.aload_n 1, 1) := by decide +kernel
theorem dX7_copyFrom_2 : decode cX7_copyFrom 2 = .ok (.getfield 9, 3) := by decide +kernel
theorem dX7_copyFrom_5 : decode cX7_copyFrom 5 = .ok (.putfield 9, 3) := by decide +kernel
theorem dX7_copyFrom_8 : decode cX7_copyFrom 8 = .ok (.aload_n 0, 1) := by decide +kernel
theorem dX7_copyFrom_9 : decode cX7_copyFrom 9 = .ok (.aload_n 1, 1) := by decide +kernel
theorem dX7_copyFrom_10 : decode cX7_copyFrom 10 = .ok (.getfield 15, 3) := by decide +kernel
theorem dX7_copyFrom_13 : decode cX7_copyFrom 13 = .ok (.putfield 15, 3) := by decide +kernel
theorem dX7_copyFrom_16 : decode cX7_copyFrom 16 = .ok (.aload_n 0, 1) := by decide +kernel
theorem dX7_copyFrom_17 : decode cX7_copyFrom 17 = .ok (.aload_n 1, 1) := by decide +kernel
theorem dX7_copyFrom_18 : decode cX7_copyFrom 18 = .ok (.getfield 18, 3) := by decide +kernel
theorem dX7_copyFrom_21 : decode cX7_copyFrom 21 = .ok (.putfield 18, 3) := by decide +kernel
theorem dX7_copyFrom_24 : decode cX7_copyFrom 24 = .ok (.aload_n 0, 1) := by decide +kernel
theorem dX7_copyFrom_25 : decode cX7_copyFrom 25 = .ok (.aload_n 1, 1) := by decide +kernel
theorem dX7_copyFrom_26 : decode cX7_copyFrom 26 = .ok (.getfield 22, 3) := by decide +kernel
theorem dX7_copyFrom_29 : decode cX7_copyFrom 29 = .ok (.putfield 22, 3) := by decide +kernel
theorem dX7_copyFrom_32 : decode cX7_copyFrom 32 = .ok (.aload_n 0, 1) := by decide +kernel
theorem dX7_copyFrom_33 : decode cX7_copyFrom 33 = .ok (.aload_n 1, 1) := by decide +kernel
theorem dX7_copyFrom_34 : decode cX7_copyFrom 34 = .ok (.getfield 25, 3) := by decide +kernel
theorem dX7_copyFrom_37 : decode cX7_copyFrom 37 = .ok (.putfield 25, 3) := by decide +kernel
theorem dX7_copyFrom_40 : decode cX7_copyFrom 40 = .ok (.aload_n 0, 1) := by decide +kernel
theorem dX7_copyFrom_41 : decode cX7_copyFrom 41 = .ok (.aload_n 1, 1) := by decide +kernel
theorem dX7_copyFrom_42 : decode cX7_copyFrom 42 = .ok (.getfield 28, 3) := by decide +kernel
theorem dX7_copyFrom_45 : decode cX7_copyFrom 45 = .ok (.putfield 28, 3) := by decide +kernel
theorem dX7_copyFrom_48 : decode cX7_copyFrom 48 = .ok (.aload_n 0, 1) := by decide +kernel
theorem dX7_copyFrom_49 : decode cX7_copyFrom 49 = .ok (.aload_n 1, 1) := by decide +kernel
theorem dX7_copyFrom_50 : decode cX7_copyFrom 50 = .ok (.getfield 63, 3) := by decide +kernel
theorem dX7_copyFrom_53 : decode cX7_copyFrom 53 = .ok (.putfield 63, 3) := by decide +kernel
theorem dX7_copyFrom_56 : decode cX7_copyFrom 56 = .ok (.aload_n 0, 1) := by decide +kernel
theorem dX7_copyFrom_57 : decode cX7_copyFrom 57 = .ok (.aload_n 1, 1) := by decide +kernel
theorem dX7_copyFrom_58 : decode cX7_copyFrom 58 = .ok (.getfield 60, 3) := by decide +kernel
theorem dX7_copyFrom_61 : decode cX7_copyFrom 61 = .ok (.putfield 60, 3) := by decide +kernel
theorem dX7_copyFrom_64 : decode cX7_copyFrom 64 = .ok (.aload_n 1, 1) := by decide +kernel
theorem dX7_copyFrom_65 : decode cX7_copyFrom 65 = .ok (.getfield 31, 3) := by decide +kernel
theorem dX7_copyFrom_68 : decode cX7_copyFrom 68 = .ok (.iconst 0, 1) := by decide +kernel
theorem dX7_copyFrom_69 : decode cX7_copyFrom 69 = .ok (.aload_n 0, 1) := by decide +kernel
theorem dX7_copyFrom_70 : decode cX7_copyFrom 70 = .ok (.getfield 31, 3) := by decide +kernel
theorem dX7_copyFrom_73 : decode cX7_copyFrom 73 = .ok (.iconst 0, 1) := by decide +kernel
theorem dX7_copyFrom_74 : decode cX7_copyFrom 74 = .ok (.bipush 64, 2) := by decide +kernel
theorem dX7_copyFrom_76 : decode cX7_copyFrom 76 = .ok (.invokestatic 67, 3) := by decide +kernel
theorem dX7_copyFrom_79 : decode cX7_copyFrom 79 = .ok (.aload_n 1, 1) := by decide +kernel
theorem dX7_copyFrom_80 : decode cX7_copyFrom 80 = .ok (.getfield 35, 3) := by decide +kernel
theorem dX7_copyFrom_83 : decode cX7_copyFrom 83 = .ok (.iconst 0, 1) := by decide +kernel
theorem dX7_copyFrom_84 : decode cX7_copyFrom 84 = .ok (.aload_n 0, 1) := by decide +kernel
theorem dX7_copyFrom_85 : decode cX7_copyFrom 85 = .ok (.getfield 35, 3) := by decide +kernel
theorem dX7_copyFrom_88 : decode cX7_copyFrom 88 = .ok (.iconst 0, 1) := by decide +kernel
theorem dX7_copyFrom_89 : decode cX7_copyFrom 89 = .ok (.bipush 64, 2) := by decide +kernel
theorem dX7_copyFrom_91 : decode cX7_copyFrom 91 = .ok (.invokestatic 67, 3) := by decide +kernel
theorem dX7_copyFrom_94 : decode cX7_copyFrom 94 = .ok (.aload_n 1, 1) := by decide +kernel
theorem dX7_copyFrom_95 : decode cX7_copyFrom 95 = .ok (.getfield 38, 3) := by decide +kernel
theorem dX7_copyFrom_98 : decode cX7_copyFrom 98 = .ok (.iconst 0, 1) := by decide +kernel
theorem dX7_copyFrom_99 : decode cX7_copyFrom 99 = .ok (.aload_n 0, 1) := by decide +kernel
theorem dX7_copyFrom_100 : decode cX7_copyFrom 100 = .ok (.getfield 38, 3) := by decide +kernel
theorem dX7_copyFrom_103 : decode cX7_copyFrom 103 = .ok (.iconst 0, 1) := by decide +kernel
theorem dX7_copyFrom_104 : decode cX7_copyFrom 104 = .ok (.bipush 16, 2) := by decide +kernel
theorem dX7_copyFrom_106 : decode cX7_copyFrom 106 = .ok (.invokestatic 67, 3) := by decide +kernel
theorem dX7_copyFrom_109 : decode cX7_copyFrom 109 = .ok (.aload_n 1, 1) := by decide +kernel
theorem dX7_copyFrom_110 : decode cX7_copyFrom 110 = .ok (.getfield 41, 3) := by decide +kernel
theorem dX7_copyFrom_113 : decode cX7_copyFrom 113 = .ok (.iconst 0, 1) := by decide +kernel
theorem dX7_copyFrom_114 : decode cX7_copyFrom 114 = .ok (.aload_n 0, 1) := by decide +kernel
theorem dX7_copyFrom_115 : decode cX7_copyFrom 115 = .ok (.getfield 41, 3) := by decide +kernel
theorem dX7_copyFrom_118 : decode cX7_copyFrom 118 = .ok (.iconst 0, 1) := by decide +kernel
theorem dX7_copyFrom_119 : decode cX7_copyFrom 119 = .ok (.bipush 16, 2) := by decide +kernel
theorem dX7_copyFrom_121 : decode cX7_copyFrom 121 = .ok (.invokestatic 67, 3) := by decide +kernel
theorem dX7_copyFrom_124 : decode cX7_copyFrom 124 = .ok (.aload_n 1, 1) := by decide +kernel
theorem dX7_copyFrom_125 : decode cX7_copyFrom 125 = .ok (.getfield 44, 3) := by decide +kernel
theorem dX7_copyFrom_128 : decode cX7_copyFrom 128 = .ok (.iconst 0, 1) := by decide +kernel
theorem dX7_copyFrom_129 : decode cX7_copyFrom 129 = .ok (.aload_n 0, 1) := by decide +kernel
theorem dX7_copyFrom_130 : decode cX7_copyFrom 130 = .ok (.getfield 44, 3) := by decide +kernel
theorem dX7_copyFrom_133 : decode cX7_copyFrom 133 = .ok (.iconst 0, 1) := by decide +kernel
theorem dX7_copyFrom_134 : decode cX7_copyFrom 134 = .ok (.bipush 16, 2) := by decide +kernel
theorem dX7_copyFrom_136 : decode cX7_copyFrom 136 = .ok (.invokestatic 67, 3) := by decide +kernel
theorem dX7_copyFrom_139 : decode cX7_copyFrom 139 = .ok (.aload_n 1, 1) := by decide +kernel
theorem dX7_copyFrom_140 : decode cX7_copyFrom 140 = .ok (.getfield 48, 3) := by decide +kernel
theorem dX7_copyFrom_143 : decode cX7_copyFrom 143 = .ok (.iconst 0, 1) := by decide +kernel
theorem dX7_copyFrom_144 : decode cX7_copyFrom 144 = .ok (.aload_n 0, 1) := by decide +kernel
theorem dX7_copyFrom_145 : decode cX7_copyFrom 145 = .ok (.getfield 48, 3) := by decide +kernel
theorem dX7_copyFrom_148 : decode cX7_copyFrom 148 = .ok (.iconst 0, 1) := by decide +kernel
theorem dX7_copyFrom_149 : decode cX7_copyFrom 149 = .ok (.bipush 16, 2) := by decide +kernel
theorem dX7_copyFrom_151 : decode cX7_copyFrom 151 = .ok (.invokestatic 67, 3) := by decide +kernel
theorem dX7_copyFrom_154 : decode cX7_copyFrom 154 = .ok (.return_, 1) := by decide +kernel
theorem dX8_init_0 : decode cX8_init 0 = .ok (.aload_n 0, 1) := by decide +kernel
theorem dX8_init_1 : decode cX8_init 1 = .ok (.invokespecial 3, 3) := by decide +kernel
theorem dX8_init_4 : decode cX8_init 4 = .ok (.aload_n 0, 1) := by decide +kernel
theorem dX8_init_5 : decode cX8_init 5 = .ok (.bipush 16, 2) := by decide +kernel
theorem dX8_init_7 : decode cX8_init 7 = .ok (.newarray .int, 2) := by decide +kernel
theorem dX8_init_9 : decode cX8_init 9 = .ok (.putfield 9, 3) := by decide +kernel
theorem dX8_init_12 : decode cX8_init 12 = .ok (.aload_n 0, 1) := by decide +kernel
theorem dX8_init_13 : decode cX8_init 13 = .ok (.bipush 16, 2) := by decide +kernel
theorem dX8_init_15 : decode cX8_init 15 = .ok (.newarray .long, 2) := by decide +kernel
theorem dX8_init_17 : decode cX8_init 17 = .ok (.putfield 15, 3) := by decide +kernel
theorem dX8_init_20 : decode cX8_init 20 = .ok (.aload_n 0, 1) := by decide +kernel
theorem dX8_init_21 : decode cX8_init 21 = .ok (.aload_n 1, 1) := by decide +kernel
theorem dX8_init_22 : decode cX8_init 22 = .ok (.putfield 19, 3) := by decide +kernel
theorem dX8_init_25 : decode cX8_init 25 = .ok (.aload_n 0, 1) := by decide +kernel
theorem dX8_init_26 : decode cX8_init 26 = .ok (.aload_n 2, 1) := by decide +kernel
theorem dX8_init_27 : decode cX8_init 27 = .ok (.putfield 23, 3) := by decide +kernel
theorem dX8_init_30 : decode cX8_init 30 = .ok (.aload_n 0, 1) := by decide +kernel
theorem dX8_init_31 : decode cX8_init 31 = .ok (.aload_n 3, 1) := by decide +kernel
theorem dX8_init_32 : decode cX8_init 32 = .ok (.putfield 27, 3) := by decide +kernel
theorem dX8_init_35 : decode cX8_init 35 = .ok (.return_, 1) := by decide +kernel
theorem dX8_makeSweeps_0 : decode cX8_makeSweeps 0 = .ok (.iconst 0, 1) := by decide +kernel
theorem dX8_makeSweeps_1 : decode cX8_makeSweeps 1 = .ok (.istore_n 2, 1) := by decide +kernel
theorem dX8_makeSweeps_2 : decode cX8_makeSweeps 2 = .ok (.iconst 0, 1) := by decide +kernel
theorem dX8_makeSweeps_3 : decode cX8_makeSweeps 3 = .ok (.istore_n 3, 1) := by decide +kernel
theorem dX8_makeSweeps_4 : decode cX8_makeSweeps 4 = .ok (.iload_n 3, 1) := by decide +kernel
theorem dX8_makeSweeps_5 : decode cX8_makeSweeps 5 = .ok (.iload_n 1, 1) := by decide +kernel
theorem dX8_makeSweeps_6 : decode cX8_makeSweeps 6 = .ok (.if_icmp .ge 57, 3) := by decide +kernel
theorem dX8_makeSweeps_9 : decode cX8_makeSweeps 9 = .ok (.aload_n 0, 1) := by decide +kernel
theorem dX8_makeSweeps_10 : decode cX8_makeSweeps 10 = .ok (.invokevirtual 31, 3) := by decide +kernel
theorem dX8_makeSweeps_13 : decode cX8_makeSweeps 13 = .ok (.istore 4, 2) := by decide +kernel
theorem dX8_makeSweeps_15 : decode cX8_makeSweeps 15 = .ok (.aload_n 0, 1) := by decide +kernel
theorem dX8_makeSweeps_16 : decode cX8_makeSweeps 16 = .ok (.iload 4, 2) := by decide +kernel
theorem dX8_makeSweeps_18 : decode cX8_makeSweeps 18 = .ok (.invokevirtual 35, 3) := by decide +kernel
theorem dX8_makeSweeps_21 : decode cX8_makeSweeps 21 = .ok (.iconst 0, 1) := by decide +kernel
theorem dX8_makeSweeps_22 : decode cX8_makeSweeps 22 = .ok (.istore 5, 2) := by decide +kernel
theorem dX8_makeSweeps_24 : decode cX8_makeSweeps 24 = .ok (.iload 5, 2) := by decide +kernel
theorem dX8_makeSweeps_26 : decode cX8_makeSweeps 26 = .ok (.iload 4, 2) := by decide +kernel
theorem dX8_makeSweeps_28 : decode cX8_makeSweeps 28 = .ok (.if_icmp .ge 24, 3) := by decide +kernel
theorem dX8_makeSweeps_31 : decode cX8_makeSweeps 31 = .ok (.aload_n 0, 1) := by decide +kernel
theorem dX8_makeSweeps_32 : decode cX8_makeSweeps 32 = .ok (.getfield 27, 3) := by decide +kernel
theorem dX8_makeSweeps_35 : decode cX8_makeSweeps 35 = .ok (.aload_n 0, 1) := by decide +kernel
theorem dX8_makeSweeps_36 : decode cX8_makeSweeps 36 = .ok (.getfield 9, 3) := by decide +kernel
theorem dX8_makeSweeps_39 : decode cX8_makeSweeps 39 = .ok (.iload 5, 2) := by decide +kernel
theorem dX8_makeSweeps_41 : decode cX8_makeSweeps 41 = .ok (.iaload, 1) := by decide +kernel
theorem dX8_makeSweeps_42 : decode cX8_makeSweeps 42 = .ok (.invokevirtual 39, 3) := by decide +kernel
theorem dX8_makeSweeps_45 : decode cX8_makeSweeps 45 = .ok (.pop, 1) := by decide +kernel
theorem dX8_makeSweeps_46 : decode cX8_makeSweeps 46 = .ok (.iinc 5 1, 3) := by decide +kernel
theorem dX8_makeSweeps_49 : decode cX8_makeSweeps 49 = .ok (.goto (-25), 3) := by decide +kernel
theorem dX8_makeSweeps_52 : decode cX8_makeSweeps 52 = .ok (.iload_n 2, 1) := by decide +kernel
theorem dX8_makeSweeps_53 : decode cX8_makeSweeps 53 = .ok (.iload 4, 2) := by decide +kernel
theorem dX8_makeSweeps_55 : decode cX8_makeSweeps 55 = .ok (.iadd, 1) := by decide +kernel
theorem dX8_makeSweeps_56 : decode cX8_makeSweeps 56 = .ok (.istore_n 2, 1) := by decide +kernel
theorem dX8_makeSweeps_57 : decode cX8_makeSweeps 57 = .ok (.iinc 3 1, 3) := by decide +kernel
theorem dX8_makeSweeps_60 : decode cX8_makeSweeps 60 = .ok (.goto (-56), 3) := by decide +kernel
theorem dX8_makeSweeps_63 : decode cX8_makeSweeps 63 = .ok (.iload_n 2, 1) := by decide +kernel
theorem dX8_makeSweeps_64 : decode cX8_makeSweeps 64 = .ok (.ireturn, 1) := by decide +kernel
theorem dX8_queueActive_0 : decode cX8_queueActive 0 = .ok (.aload_n 0, 1) := by decide +kernel
theorem dX8_queueActive_1 : decode cX8_queueActive 1 = .ok (.getfield 19, 3) := by decide +kernel
theorem dX8_queueActive_4 : decode cX8_queueActive 4 = .ok (.getfield 45, 3) := by decide +kernel
theorem dX8_queueActive_7 : decode cX8_queueActive 7 = .ok (.iconst 2, 1) := by decide +kernel
theorem dX8_queueActive_8 : decode cX8_queueActive 8 = .ok (.if_icmp .ne 7, 3) := by decide +kernel
theorem dX8_queueActive_11 : decode cX8_queueActive 11 = .ok (.iconst 1, 1) := by decide +kernel
theorem dX8_queueActive_12 : decode cX8_queueActive 12 = .ok (.goto 4, 3) := by decide +kernel
theorem dX8_queueActive_15 : decode cX8_queueActive 15 = .ok (.iconst 0, 1) := by decide +kernel
theorem dX8_queueActive_16 : decode cX8_queueActive 16 = .ok (.istore_n 1, 1) := by decide +kernel
theorem dX8_queueActive_17 : decode cX8_queueActive 17 = .ok (.iconst 0, 1) := by decide +kernel
theorem dX8_queueActive_18 : decode cX8_queueActive 18 = .ok (.istore_n 2, 1) := by decide +kernel
theorem dX8_queueActive_19 : decode cX8_queueActive 19 = .ok (.iconst 0, 1) := by decide +kernel
theorem dX8_queueActive_20 : decode cX8_queueActive 20 = .ok (.istore_n 3, 1) := by decide +kernel
theorem dX8_queueActive_21 : decode cX8_queueActive 21 = .ok (.iload_n 3, 1) := by decide +kernel
theorem dX8_queueActive_22 : decode cX8_queueActive 22 = .ok (.aload_n 0, 1) := by decide +kernel
theorem dX8_queueActive_23 : decode cX8_queueActive 23 = .ok (.getfield 19, 3) := by decide +kernel
theorem dX8_queueActive_26 : decode cX8_queueActive 26 = .ok (.getfield 51, 3) := by decide +kernel
theorem dX8_queueActive_29 : decode cX8_queueActive 29 = .ok (.if_icmp .ge 65, 3) := by decide +kernel
theorem dX8_queueActive_32 : decode cX8_queueActive 32 = .ok (.aload_n 0, 1) := by decide +kernel
theorem dX8_queueActive_33 : decode cX8_queueActive 33 = .ok (.getfield 19, 3) := by decide +kernel
theorem dX8_queueActive_36 : decode cX8_queueActive 36 = .ok (.iload_n 3, 1) := by decide +kernel
theorem dX8_queueActive_37 : decode cX8_queueActive 37 = .ok (.invokevirtual 54, 3) := by decide +kernel
theorem dX8_queueActive_40 : decode cX8_queueActive 40 = .ok (.ifCond .eq 48, 3) := by decide +kernel
theorem dX8_queueActive_43 : decode cX8_queueActive 43 = .ok (.aload_n 0, 1) := by decide +kernel
theorem dX8_queueActive_44 : decode cX8_queueActive 44 = .ok (.getfield 9, 3) := by decide +kernel
theorem dX8_queueActive_47 : decode cX8_queueActive 47 = .ok (.iload_n 2, 1) := by decide +kernel
theorem dX8_queueActive_48 : decode cX8_queueActive 48 = .ok (.iload_n 3, 1) := by decide +kernel
theorem dX8_queueActive_49 : decode cX8_queueActive 49 = .ok (.iastore, 1) := by decide +kernel
theorem dX8_queueActive_50 : decode cX8_queueActive 50 = .ok (.aload_n 0, 1) := by decide +kernel
theorem dX8_queueActive_51 : decode cX8_queueActive 51 = .ok (.getfield 15, 3) := by decide +kernel
theorem dX8_queueActive_54 : decode cX8_queueActive 54 = .ok (.iload_n 2, 1) := by decide +kernel
theorem dX8_queueActive_55 : decode cX8_queueActive 55 = .ok (.iload_n 1, 1) := by decide +kernel
theorem dX8_queueActive_56 : decode cX8_queueActive 56 = .ok (.ifCond .eq 27, 3) := by decide +kernel
theorem dX8_queueActive_59 : decode cX8_queueActive 59 = .ok (.aload_n 0, 1) := by decide +kernel
theorem dX8_queueActive_60 : decode cX8_queueActive 60 = .ok (.getfield 19, 3) := by decide +kernel
theorem dX8_queueActive_63 : decode cX8_queueActive 63 = .ok (.getfield 58, 3) := by decide +kernel
theorem dX8_queueActive_66 : decode cX8_queueActive 66 = .ok (.iload_n 3, 1) := by decide +kernel
theorem dX8_queueActive_67 : decode cX8_queueActive 67 = .ok (.laload, 1) := by decide +kernel
theorem dX8_queueActive_68 : decode cX8_queueActive 68 = .ok (.aload_n 0, 1) := by decide +kernel
theorem dX8_queueActive_69 : decode cX8_queueActive 69 = .ok (.getfield 23, 3) := by decide +kernel
theorem dX8_queueActive_72 : decode cX8_queueActive 72 = .ok (.iload_n 3, 1) := by decide +kernel
theorem dX8_queueActive_73 : decode cX8_queueActive 73 = .ok (.invokevirtual 61, 3) := by decide +kernel
theorem dX8_queueActive_76 : decode cX8_queueActive 76 = .ok (.lsub, 1) := by decide +kernel
theorem dX8_queueActive_77 : decode cX8_queueActive 77 = .ok (.invokestatic 67, 3) := by decide +kernel
theorem dX8_queueActive_80 : decode cX8_queueActive 80 = .ok (.goto 4, 3) := by decide +kernel
theorem dX8_queueActive_83 : decode cX8_queueActive 83 = .ok (.lconst 0, 1) := by decide +kernel
theorem dX8_queueActive_84 : decode cX8_queueActive 84 = .ok (.lastore, 1) := by decide +kernel
theorem dX8_queueActive_85 : decode cX8_queueActive 85 = .ok (.iinc 2 1, 3) := by decide +kernel
theorem dX8_queueActive_88 : decode cX8_queueActive 88 = .ok (.iinc 3 1, 3) := by decide +kernel
theorem dX8_queueActive_91 : decode cX8_queueActive 91 = .ok (.goto (-70), 3) := by decide +kernel
theorem dX8_queueActive_94 : decode cX8_queueActive 94 = .ok (.iload_n 2, 1) := by decide +kernel
theorem dX8_queueActive_95 : decode cX8_queueActive 95 = .ok (.ireturn, 1) := by decide +kernel
theorem dX8_arrange_0 : decode cX8_arrange 0 = .ok (.aload_n 0, 1) := by decide +kernel
theorem dX8_arrange_1 : decode cX8_arrange 1 = .ok (.getfield 19, 3) := by decide +kernel
theorem dX8_arrange_4 : decode cX8_arrange 4 = .ok (.getfield 45, 3) := by decide +kernel
theorem dX8_arrange_7 : decode cX8_arrange 7 = .ok (.tableswitch 52 1 3 #[25, 36, 44], 25) := by decide +kernel
theorem dX8_arrange_32 : decode cX8_arrange 32 = .ok (.aload_n 0, 1) := by decide +kernel
theorem dX8_arrange_33 : decode cX8_arrange 33 = .ok (.getfield 9, 3) := by decide +kernel
theorem dX8_arrange_36 : decode cX8_arrange 36 = .ok (.iload_n 1, 1) := by decide +kernel
theorem dX8_arrange_37 : decode cX8_arrange 37 = .ok (.invokestatic 73, 3) := by decide +kernel
theorem dX8_arrange_40 : decode cX8_arrange 40 = .ok (.goto 19, 3) := by decide +kernel
theorem dX8_arrange_43 : decode cX8_arrange 43 = .ok (.aload_n 0, 1) := by decide +kernel
theorem dX8_arrange_44 : decode cX8_arrange 44 = .ok (.iload_n 1, 1) := by decide +kernel
theorem dX8_arrange_45 : decode cX8_arrange 45 = .ok (.invokevirtual 77, 3) := by decide +kernel
theorem dX8_arrange_48 : decode cX8_arrange 48 = .ok (.goto 11, 3) := by decide +kernel
theorem dX8_arrange_51 : decode cX8_arrange 51 = .ok (.aload_n 0, 1) := by decide +kernel
theorem dX8_arrange_52 : decode cX8_arrange 52 = .ok (.iload_n 1, 1) := by decide +kernel
theorem dX8_arrange_53 : decode cX8_arrange 53 = .ok (.invokevirtual 80, 3) := by decide +kernel
theorem dX8_arrange_56 : decode cX8_arrange 56 = .ok (.goto 3, 3) := by decide +kernel
theorem dX8_arrange_59 : decode cX8_arrange 59 = .ok (.return_, 1) := by decide +kernel
theorem dX8_sortByMisfit_0 : decode cX8_sortByMisfit 0 = .ok (.iconst 1, 1) := by decide +kernel
theorem dX8_sortByMisfit_1 : decode cX8_sortByMisfit 1 = .ok (.istore_n 2, 1) := by decide +kernel
theorem dX8_sortByMisfit_2 : decode cX8_sortByMisfit 2 = .ok (.iload_n 2, 1) := by decide +kernel
theorem dX8_sortByMisfit_3 : decode cX8_sortByMisfit 3 = .ok (.iload_n 1, 1) := by decide +kernel
theorem dX8_sortByMisfit_4 : decode cX8_sortByMisfit 4 = .ok (.if_icmp .ge 102, 3) := by decide +kernel
theorem dX8_sortByMisfit_7 : decode cX8_sortByMisfit 7 = .ok (.aload_n 0, 1) := by decide +kernel
theorem dX8_sortByMisfit_8 : decode cX8_sortByMisfit 8 = .ok (.getfield 9, 3) := by decide +kernel
theorem dX8_sortByMisfit_11 : decode cX8_sortByMisfit 11 = .ok (.iload_n 2, 1) := by decide +kernel
theorem dX8_sortByMisfit_12 : decode cX8_sortByMisfit 12 = .ok (.iaload, 1) := by decide +kernel
theorem dX8_sortByMisfit_13 : decode cX8_sortByMisfit 13 = .ok (.istore_n 3, 1) := by decide +kernel
theorem dX8_sortByMisfit_14 : decode cX8_sortByMisfit 14 = .ok (.aload_n 0, 1) := by decide +kernel
theorem dX8_sortByMisfit_15 : decode cX8_sortByMisfit 15 = .ok (.getfield 15, 3) := by decide +kernel
theorem dX8_sortByMisfit_18 : decode cX8_sortByMisfit 18 = .ok (.iload_n 2, 1) := by decide +kernel
theorem dX8_sortByMisfit_19 : decode cX8_sortByMisfit 19 = .ok (.laload, 1) := by decide +kernel
theorem dX8_sortByMisfit_20 : decode cX8_sortByMisfit 20 = .ok (.lstore 4, 2) := by decide +kernel
theorem dX8_sortByMisfit_22 : decode cX8_sortByMisfit 22 = .ok (.iload_n 2, 1) := by decide +kernel
theorem dX8_sortByMisfit_23 : decode cX8_sortByMisfit 23 = .ok (.istore 6, 2) := by decide +kernel
theorem dX8_sortByMisfit_25 : decode cX8_sortByMisfit 25 = .ok (.iload 6, 2) := by decide +kernel
theorem dX8_sortByMisfit_27 : decode cX8_sortByMisfit 27 = .ok (.ifCond .le 56, 3) := by decide +kernel
theorem dX8_sortByMisfit_30 : decode cX8_sortByMisfit 30 = .ok (.aload_n 0, 1) := by decide +kernel
theorem dX8_sortByMisfit_31 : decode cX8_sortByMisfit 31 = .ok (.getfield 15, 3) := by decide +kernel
theorem dX8_sortByMisfit_34 : decode cX8_sortByMisfit 34 = .ok (.iload 6, 2) := by decide +kernel
theorem dX8_sortByMisfit_36 : decode cX8_sortByMisfit 36 = .ok (.iconst 1, 1) := by decide +kernel
theorem dX8_sortByMisfit_37 : decode cX8_sortByMisfit 37 = .ok (.isub, 1) := by decide +kernel
theorem dX8_sortByMisfit_38 : decode cX8_sortByMisfit 38 = .ok (.laload, 1) := by decide +kernel
theorem dX8_sortByMisfit_39 : decode cX8_sortByMisfit 39 = .ok (.lload 4, 2) := by decide +kernel
theorem dX8_sortByMisfit_41 : decode cX8_sortByMisfit 41 = .ok (.lcmp, 1) := by decide +kernel
theorem dX8_sortByMisfit_42 : decode cX8_sortByMisfit 42 = .ok (.ifCond .ge 41, 3) := by decide +kernel
theorem dX8_sortByMisfit_45 : decode cX8_sortByMisfit 45 = .ok (.aload_n 0, 1) := by decide +kernel
theorem dX8_sortByMisfit_46 : decode cX8_sortByMisfit 46 = .ok (.getfield 15, 3) := by decide +kernel
theorem dX8_sortByMisfit_49 : decode cX8_sortByMisfit 49 = .ok (.iload 6, 2) := by decide +kernel
theorem dX8_sortByMisfit_51 : decode cX8_sortByMisfit 51 = .ok (.aload_n 0, 1) := by decide +kernel
theorem dX8_sortByMisfit_52 : decode cX8_sortByMisfit 52 = .ok (.getfield 15, 3) := by decide +kernel
theorem dX8_sortByMisfit_55 : decode cX8_sortByMisfit 55 = .ok (.iload 6, 2) := by decide +kernel
theorem dX8_sortByMisfit_57 : decode cX8_sortByMisfit 57 = .ok (.iconst 1, 1) := by decide +kernel
theorem dX8_sortByMisfit_58 : decode cX8_sortByMisfit 58 = .ok (.isub, 1) := by decide +kernel
theorem dX8_sortByMisfit_59 : decode cX8_sortByMisfit 59 = .ok (.laload, 1) := by decide +kernel
theorem dX8_sortByMisfit_60 : decode cX8_sortByMisfit 60 = .ok (.lastore, 1) := by decide +kernel
theorem dX8_sortByMisfit_61 : decode cX8_sortByMisfit 61 = .ok (.aload_n 0, 1) := by decide +kernel
theorem dX8_sortByMisfit_62 : decode cX8_sortByMisfit 62 = .ok (.getfield 9, 3) := by decide +kernel
theorem dX8_sortByMisfit_65 : decode cX8_sortByMisfit 65 = .ok (.iload 6, 2) := by decide +kernel
theorem dX8_sortByMisfit_67 : decode cX8_sortByMisfit 67 = .ok (.aload_n 0, 1) := by decide +kernel
theorem dX8_sortByMisfit_68 : decode cX8_sortByMisfit 68 = .ok (.getfield 9, 3) := by decide +kernel
theorem dX8_sortByMisfit_71 : decode cX8_sortByMisfit 71 = .ok (.iload 6, 2) := by decide +kernel
theorem dX8_sortByMisfit_73 : decode cX8_sortByMisfit 73 = .ok (.iconst 1, 1) := by decide +kernel
theorem dX8_sortByMisfit_74 : decode cX8_sortByMisfit 74 = .ok (.isub, 1) := by decide +kernel
theorem dX8_sortByMisfit_75 : decode cX8_sortByMisfit 75 = .ok (.iaload, 1) := by decide +kernel
theorem dX8_sortByMisfit_76 : decode cX8_sortByMisfit 76 = .ok (.iastore, 1) := by decide +kernel
theorem dX8_sortByMisfit_77 : decode cX8_sortByMisfit 77 = .ok (.iinc 6 (-1), 3) := by decide +kernel
theorem dX8_sortByMisfit_80 : decode cX8_sortByMisfit 80 = .ok (.goto (-55), 3) := by decide +kernel
theorem dX8_sortByMisfit_83 : decode cX8_sortByMisfit 83 = .ok (.aload_n 0, 1) := by decide +kernel
theorem dX8_sortByMisfit_84 : decode cX8_sortByMisfit 84 = .ok (.getfield 15, 3) := by decide +kernel
theorem dX8_sortByMisfit_87 : decode cX8_sortByMisfit 87 = .ok (.iload 6, 2) := by decide +kernel
theorem dX8_sortByMisfit_89 : decode cX8_sortByMisfit 89 = .ok (.lload 4, 2) := by decide +kernel
theorem dX8_sortByMisfit_91 : decode cX8_sortByMisfit 91 = .ok (.lastore, 1) := by decide +kernel
theorem dX8_sortByMisfit_92 : decode cX8_sortByMisfit 92 = .ok (.aload_n 0, 1) := by decide +kernel
theorem dX8_sortByMisfit_93 : decode cX8_sortByMisfit 93 = .ok (.getfield 9, 3) := by decide +kernel
theorem dX8_sortByMisfit_96 : decode cX8_sortByMisfit 96 = .ok (.iload 6, 2) := by decide +kernel
theorem dX8_sortByMisfit_98 : decode cX8_sortByMisfit 98 = .ok (.iload_n 3, 1) := by decide +kernel
theorem dX8_sortByMisfit_99 : decode cX8_sortByMisfit 99 = .ok (.iastore, 1) := by decide +kernel
theorem dX8_sortByMisfit_100 : decode cX8_sortByMisfit 100 = .ok (.iinc 2 1, 3) := by decide +kernel
theorem dX8_sortByMisfit_103 : decode cX8_sortByMisfit 103 = .ok (.goto (-101), 3) := by decide +kernel
theorem dX8_sortByMisfit_106 : decode cX8_sortByMisfit 106 = .ok (.return_, 1) := by decide +kernel
theorem dX8_drawLots_0 : decode cX8_drawLots 0 = .ok (.iconst 0, 1) := by decide +kernel
theorem dX8_drawLots_1 : decode cX8_drawLots 1 = .ok (.istore_n 2, 1) := by decide +kernel
theorem dX8_drawLots_2 : decode cX8_drawLots 2 = .ok (.iload_n 2, 1) := by decide +kernel
theorem dX8_drawLots_3 : decode cX8_drawLots 3 = .ok (.iload_n 1, 1) := by decide +kernel
theorem dX8_drawLots_4 : decode cX8_drawLots 4 = .ok (.if_icmp .ge 92, 3) := by decide +kernel
theorem dX8_drawLots_7 : decode cX8_drawLots 7 = .ok (.aload_n 0, 1) := by decide +kernel
theorem dX8_drawLots_8 : decode cX8_drawLots 8 = .ok (.getfield 19, 3) := by decide +kernel
theorem dX8_drawLots_11 : decode cX8_drawLots 11 = .ok (.aload_n 0, 1) := by decide +kernel
theorem dX8_drawLots_12 : decode cX8_drawLots 12 = .ok (.getfield 19, 3) := by decide +kernel
theorem dX8_drawLots_15 : decode cX8_drawLots 15 = .ok (.getfield 83, 3) := by decide +kernel
theorem dX8_drawLots_18 : decode cX8_drawLots 18 = .ok (.invokestatic 87, 3) := by decide +kernel
theorem dX8_drawLots_21 : decode cX8_drawLots 21 = .ok (.putfield 83, 3) := by decide +kernel
theorem dX8_drawLots_24 : decode cX8_drawLots 24 = .ok (.iload_n 2, 1) := by decide +kernel
theorem dX8_drawLots_25 : decode cX8_drawLots 25 = .ok (.aload_n 0, 1) := by decide +kernel
theorem dX8_drawLots_26 : decode cX8_drawLots 26 = .ok (.getfield 19, 3) := by decide +kernel
theorem dX8_drawLots_29 : decode cX8_drawLots 29 = .ok (.getfield 83, 3) := by decide +kernel
theorem dX8_drawLots_32 : decode cX8_drawLots 32 = .ok (.invokestatic 90, 3) := by decide +kernel
theorem dX8_drawLots_35 : decode cX8_drawLots 35 = .ok (.iload_n 1, 1) := by decide +kernel
theorem dX8_drawLots_36 : decode cX8_drawLots 36 = .ok (.iload_n 2, 1) := by decide +kernel
theorem dX8_drawLots_37 : decode cX8_drawLots 37 = .ok (.isub, 1) := by decide +kernel
theorem dX8_drawLots_38 : decode cX8_drawLots 38 = .ok (.i2l, 1) := by decide +kernel
theorem dX8_drawLots_39 : decode cX8_drawLots 39 = .ok (.lrem, 1) := by decide +kernel
theorem dX8_drawLots_40 : decode cX8_drawLots 40 = .ok (.l2i, 1) := by decide +kernel
theorem dX8_drawLots_41 : decode cX8_drawLots 41 = .ok (.iadd, 1) := by decide +kernel
theorem dX8_drawLots_42 : decode cX8_drawLots 42 = .ok (.istore_n 3, 1) := by decide +kernel
theorem dX8_drawLots_43 : decode cX8_drawLots 43 = .ok (.aload_n 0, 1) := by decide +kernel
theorem dX8_drawLots_44 : decode cX8_drawLots 44 = .ok (.getfield 9, 3) := by decide +kernel
theorem dX8_drawLots_47 : decode cX8_drawLots 47 = .ok (.iload_n 3, 1) := by decide +kernel
theorem dX8_drawLots_48 : decode cX8_drawLots 48 = .ok (.iaload, 1) := by decide +kernel
theorem dX8_drawLots_49 : decode cX8_drawLots 49 = .ok (.istore 4, 2) := by decide +kernel
theorem dX8_drawLots_51 : decode cX8_drawLots 51 = .ok (.iload_n 3, 1) := by decide +kernel
theorem dX8_drawLots_52 : decode cX8_drawLots 52 = .ok (.istore 5, 2) := by decide +kernel
theorem dX8_drawLots_54 : decode cX8_drawLots 54 = .ok (.iload 5, 2) := by decide +kernel
theorem dX8_drawLots_56 : decode cX8_drawLots 56 = .ok (.iload_n 2, 1) := by decide +kernel
theorem dX8_drawLots_57 : decode cX8_drawLots 57 = .ok (.if_icmp .le 25, 3) := by decide +kernel
theorem dX8_drawLots_60 : decode cX8_drawLots 60 = .ok (.aload_n 0, 1) := by decide +kernel
theorem dX8_drawLots_61 : decode cX8_drawLots 61 = .ok (.getfield 9, 3) := by decide +kernel
theorem dX8_drawLots_64 : decode cX8_drawLots 64 = .ok (.iload 5, 2) := by decide +kernel
theorem dX8_drawLots_66 : decode cX8_drawLots 66 = .ok (.aload_n 0, 1) := by decide +kernel
theorem dX8_drawLots_67 : decode cX8_drawLots 67 = .ok (.getfield 9, 3) := by decide +kernel
theorem dX8_drawLots_70 : decode cX8_drawLots 70 = .ok (.iload 5, 2) := by decide +kernel
theorem dX8_drawLots_72 : decode cX8_drawLots 72 = .ok (.iconst 1, 1) := by decide +kernel
theorem dX8_drawLots_73 : decode cX8_drawLots 73 = .ok (.isub, 1) := by decide +kernel
theorem dX8_drawLots_74 : decode cX8_drawLots 74 = .ok (.iaload, 1) := by decide +kernel
theorem dX8_drawLots_75 : decode cX8_drawLots 75 = .ok (.iastore, 1) := by decide +kernel
theorem dX8_drawLots_76 : decode cX8_drawLots 76 = .ok (.iinc 5 (-1), 3) := by decide +kernel
theorem dX8_drawLots_79 : decode cX8_drawLots 79 = .ok (.goto (-25), 3) := by decide +kernel
theorem dX8_drawLots_82 : decode cX8_drawLots 82 = .ok (.aload_n 0, 1) := by decide +kernel
theorem dX8_drawLots_83 : decode cX8_drawLots 83 = .ok (.getfield 9, 3) := by decide +kernel
theorem dX8_drawLots_86 : decode cX8_drawLots 86 = .ok (.iload_n 2, 1) := by decide +kernel
theorem dX8_drawLots_87 : decode cX8_drawLots 87 = .ok (.iload 4, 2) := by decide +kernel
theorem dX8_drawLots_89 : decode cX8_drawLots 89 = .ok (.iastore, 1) := by decide +kernel
theorem dX8_drawLots_90 : decode cX8_drawLots 90 = .ok (.iinc 2 1, 3) := by decide +kernel
theorem dX8_drawLots_93 : decode cX8_drawLots 93 = .ok (.goto (-91), 3) := by decide +kernel
theorem dX8_drawLots_96 : decode cX8_drawLots 96 = .ok (.return_, 1) := by decide +kernel
theorem dX9_init_0 : decode cX9_init 0 = .ok (.aload_n 0, 1) := by decide +kernel
theorem dX9_init_1 : decode cX9_init 1 = .ok (.invokespecial 3, 3) := by decide +kernel
theorem dX9_init_4 : decode cX9_init 4 = .ok (.aload_n 0, 1) := by decide +kernel
theorem dX9_init_5 : decode cX9_init 5 = .ok (.bipush 16, 2) := by decide +kernel
theorem dX9_init_7 : decode cX9_init 7 = .ok (.newarray .boolean, 2) := by decide +kernel
theorem dX9_init_9 : decode cX9_init 9 = .ok (.putfield 9, 3) := by decide +kernel
theorem dX9_init_12 : decode cX9_init 12 = .ok (.aload_n 0, 1) := by decide +kernel
theorem dX9_init_13 : decode cX9_init 13 = .ok (.bipush 64, 2) := by decide +kernel
theorem dX9_init_15 : decode cX9_init 15 = .ok (.newarray .int, 2) := by decide +kernel
theorem dX9_init_17 : decode cX9_init 17 = .ok (.putfield 15, 3) := by decide +kernel
theorem dX9_init_20 : decode cX9_init 20 = .ok (.aload_n 0, 1) := by decide +kernel
theorem dX9_init_21 : decode cX9_init 21 = .ok (.bipush 16, 2) := by decide +kernel
theorem dX9_init_23 : decode cX9_init 23 = .ok (.newarray .long, 2) := by decide +kernel
theorem dX9_init_25 : decode cX9_init 25 = .ok (.putfield 19, 3) := by decide +kernel
theorem dX9_init_28 : decode cX9_init 28 = .ok (.aload_n 0, 1) := by decide +kernel
theorem dX9_init_29 : decode cX9_init 29 = .ok (.bipush 16, 2) := by decide +kernel
theorem dX9_init_31 : decode cX9_init 31 = .ok (.newarray .int, 2) := by decide +kernel
theorem dX9_init_33 : decode cX9_init 33 = .ok (.putfield 23, 3) := by decide +kernel
theorem dX9_init_36 : decode cX9_init 36 = .ok (.aload_n 0, 1) := by decide +kernel
theorem dX9_init_37 : decode cX9_init 37 = .ok (.bipush 16, 2) := by decide +kernel
theorem dX9_init_39 : decode cX9_init 39 = .ok (.bipush 64, 2) := by decide +kernel
theorem dX9_init_41 : decode cX9_init 41 = .ok (.multianewarray 26 2, 4) := by decide +kernel
theorem dX9_init_45 : decode cX9_init 45 = .ok (.putfield 28, 3) := by decide +kernel
theorem dX9_init_48 : decode cX9_init 48 = .ok (.aload_n 0, 1) := by decide +kernel
theorem dX9_init_49 : decode cX9_init 49 = .ok (.bipush 16, 2) := by decide +kernel
theorem dX9_init_51 : decode cX9_init 51 = .ok (.bipush 64, 2) := by decide +kernel
theorem dX9_init_53 : decode cX9_init 53 = .ok (.multianewarray 26 2, 4) := by decide +kernel
theorem dX9_init_57 : decode cX9_init 57 = .ok (.putfield 31, 3) := by decide +kernel
theorem dX9_init_60 : decode cX9_init 60 = .ok (.aload_n 0, 1) := by decide +kernel
theorem dX9_init_61 : decode cX9_init 61 = .ok (.aload_n 1, 1) := by decide +kernel
theorem dX9_init_62 : decode cX9_init 62 = .ok (.putfield 34, 3) := by decide +kernel
theorem dX9_init_65 : decode cX9_init 65 = .ok (.aload_n 0, 1) := by decide +kernel
theorem dX9_init_66 : decode cX9_init 66 = .ok (.aload_n 2, 1) := by decide +kernel
theorem dX9_init_67 : decode cX9_init 67 = .ok (.putfield 38, 3) := by decide +kernel
theorem dX9_init_70 : decode cX9_init 70 = .ok (.aload_n 0, 1) := by decide +kernel
theorem dX9_init_71 : decode cX9_init 71 = .ok (.aload_n 3, 1) := by decide +kernel
theorem dX9_init_72 : decode cX9_init 72 = .ok (.putfield 42, 3) := by decide +kernel
theorem dX9_init_75 : decode cX9_init 75 = .ok (.return_, 1) := by decide +kernel
theorem dX9_forgetAll_0 : decode cX9_forgetAll 0 = .ok (.iconst 0, 1) := by decide +kernel
theorem dX9_forgetAll_1 : decode cX9_forgetAll 1 = .ok (.istore_n 1, 1) := by decide +kernel
theorem dX9_forgetAll_2 : decode cX9_forgetAll 2 = .ok (.iload_n 1, 1) := by decide +kernel
theorem dX9_forgetAll_3 : decode cX9_forgetAll 3 = .ok (.bipush 16, 2) := by decide +kernel
theorem dX9_forgetAll_5 : decode cX9_forgetAll 5 = .ok (.if_icmp .ge 16, 3) := by decide +kernel
theorem dX9_forgetAll_8 : decode cX9_forgetAll 8 = .ok (.aload_n 0, 1) := by decide +kernel
theorem dX9_forgetAll_9 : decode cX9_forgetAll 9 = .ok (.getfield 9, 3) := by decide +kernel
theorem dX9_forgetAll_12 : decode cX9_forgetAll 12 = .ok (.iload_n 1, 1) := by decide +kernel
theorem dX9_forgetAll_13 : decode cX9_forgetAll 13 = .ok (.iconst 0, 1) := by decide +kernel
theorem dX9_forgetAll_14 : decode cX9_forgetAll 14 = .ok (.bastore, 1) := by decide +kernel
theorem dX9_forgetAll_15 : decode cX9_forgetAll 15 = .ok (.iinc 1 1, 3) := by decide +kernel
theorem dX9_forgetAll_18 : decode cX9_forgetAll 18 = .ok (.goto (-16), 3) := by decide +kernel
theorem dX9_forgetAll_21 : decode cX9_forgetAll 21 = .ok (.return_, 1) := by decide +kernel
theorem dX9_find_0 : decode cX9_find 0 = .ok (.aload_n 0, 1) := by decide +kernel
theorem dX9_find_1 : decode cX9_find 1 = .ok (.getfield 9, 3) := by decide +kernel
theorem dX9_find_4 : decode cX9_find 4 = .ok (.iload_n 1, 1) := by decide +kernel
theorem dX9_find_5 : decode cX9_find 5 = .ok (.baload, 1) := by decide +kernel
theorem dX9_find_6 : decode cX9_find 6 = .ok (.ifCond .ne 72, 3) := by decide +kernel
theorem dX9_find_9 : decode cX9_find 9 = .ok (.aload_n 0, 1) := by decide +kernel
theorem dX9_find_10 : decode cX9_find 10 = .ok (.getfield 34, 3) := by decide +kernel
theorem dX9_find_13 : decode cX9_find 13 = .ok (.iload_n 1, 1) := by decide +kernel
theorem dX9_find_14 : decode cX9_find 14 = .ok (.invokevirtual 46, 3) := by decide +kernel
theorem dX9_find_17 : decode cX9_find 17 = .ok (.istore_n 2, 1) := by decide +kernel
theorem dX9_find_18 : decode cX9_find 18 = .ok (.aload_n 0, 1) := by decide +kernel
theorem dX9_find_19 : decode cX9_find 19 = .ok (.getfield 34, 3) := by decide +kernel
theorem dX9_find_22 : decode cX9_find 22 = .ok (.iload_n 1, 1) := by decide +kernel
theorem dX9_find_23 : decode cX9_find 23 = .ok (.invokevirtual 52, 3) := by decide +kernel
theorem dX9_find_26 : decode cX9_find 26 = .ok (.istore_n 3, 1) := by decide +kernel
theorem dX9_find_27 : decode cX9_find 27 = .ok (.aload_n 0, 1) := by decide +kernel
theorem dX9_find_28 : decode cX9_find 28 = .ok (.getfield 19, 3) := by decide +kernel
theorem dX9_find_31 : decode cX9_find 31 = .ok (.iload_n 1, 1) := by decide +kernel
theorem dX9_find_32 : decode cX9_find 32 = .ok (.aload_n 0, 1) := by decide +kernel
theorem dX9_find_33 : decode cX9_find 33 = .ok (.getfield 42, 3) := by decide +kernel
theorem dX9_find_36 : decode cX9_find 36 = .ok (.aload_n 0, 1) := by decide +kernel
theorem dX9_find_37 : decode cX9_find 37 = .ok (.getfield 34, 3) := by decide +kernel
theorem dX9_find_40 : decode cX9_find 40 = .ok (.getfield 55, 3) := by decide +kernel
theorem dX9_find_43 : decode cX9_find 43 = .ok (.iload_n 2, 1) := by decide +kernel
theorem dX9_find_44 : decode cX9_find 44 = .ok (.iload_n 3, 1) := by decide +kernel
theorem dX9_find_45 : decode cX9_find 45 = .ok (.invokevirtual 58, 3) := by decide +kernel
theorem dX9_find_48 : decode cX9_find 48 = .ok (.lastore, 1) := by decide +kernel
theorem dX9_find_49 : decode cX9_find 49 = .ok (.aload_n 0, 1) := by decide +kernel
theorem dX9_find_50 : decode cX9_find 50 = .ok (.iload_n 1, 1) := by decide +kernel
theorem dX9_find_51 : decode cX9_find 51 = .ok (.iload_n 2, 1) := by decide +kernel
theorem dX9_find_52 : decode cX9_find 52 = .ok (.iload_n 3, 1) := by decide +kernel
theorem dX9_find_53 : decode cX9_find 53 = .ok (.invokevirtual 64, 3) := by decide +kernel
theorem dX9_find_56 : decode cX9_find 56 = .ok (.aload_n 0, 1) := by decide +kernel
theorem dX9_find_57 : decode cX9_find 57 = .ok (.getfield 28, 3) := by decide +kernel
theorem dX9_find_60 : decode cX9_find 60 = .ok (.iload_n 1, 1) := by decide +kernel
theorem dX9_find_61 : decode cX9_find 61 = .ok (.aaload, 1) := by decide +kernel
theorem dX9_find_62 : decode cX9_find 62 = .ok (.aload_n 0, 1) := by decide +kernel
theorem dX9_find_63 : decode cX9_find 63 = .ok (.getfield 23, 3) := by decide +kernel
theorem dX9_find_66 : decode cX9_find 66 = .ok (.iload_n 1, 1) := by decide +kernel
theorem dX9_find_67 : decode cX9_find 67 = .ok (.iaload, 1) := by decide +kernel
theorem dX9_find_68 : decode cX9_find 68 = .ok (.invokestatic 68, 3) := by decide +kernel
theorem dX9_find_71 : decode cX9_find 71 = .ok (.aload_n 0, 1) := by decide +kernel
theorem dX9_find_72 : decode cX9_find 72 = .ok (.getfield 9, 3) := by decide +kernel
theorem dX9_find_75 : decode cX9_find 75 = .ok (.iload_n 1, 1) := by decide +kernel
theorem dX9_find_76 : decode cX9_find 76 = .ok (.iconst 1, 1) := by decide +kernel
theorem dX9_find_77 : decode cX9_find 77 = .ok (.bastore, 1) := by decide +kernel
theorem dX9_find_78 : decode cX9_find 78 = .ok (.aload_n 0, 1) := by decide +kernel
theorem dX9_find_79 : decode cX9_find 79 = .ok (.getfield 19, 3) := by decide +kernel
theorem dX9_find_82 : decode cX9_find 82 = .ok (.iload_n 1, 1) := by decide +kernel
theorem dX9_find_83 : decode cX9_find 83 = .ok (.laload, 1) := by decide +kernel
theorem dX9_find_84 : decode cX9_find 84 = .ok (.lreturn, 1) := by decide +kernel
theorem dX9_traceBack_0 : decode cX9_traceBack 0 = .ok (.aload_n 0, 1) := by decide +kernel
theorem dX9_traceBack_1 : decode cX9_traceBack 1 = .ok (.getfield 28, 3) := by decide +kernel
theorem dX9_traceBack_4 : decode cX9_traceBack 4 = .ok (.iload_n 1, 1) := by decide +kernel
theorem dX9_traceBack_5 : decode cX9_traceBack 5 = .ok (.aaload, 1) := by decide +kernel
theorem dX9_traceBack_6 : decode cX9_traceBack 6 = .ok (.astore 4, 2) := by decide +kernel
theorem dX9_traceBack_8 : decode cX9_traceBack 8 = .ok (.aload_n 0, 1) := by decide +kernel
theorem dX9_traceBack_9 : decode cX9_traceBack 9 = .ok (.getfield 31, 3) := by decide +kernel
theorem dX9_traceBack_12 : decode cX9_traceBack 12 = .ok (.iload_n 1, 1) := by decide +kernel
theorem dX9_traceBack_13 : decode cX9_traceBack 13 = .ok (.aaload, 1) := by decide +kernel
theorem dX9_traceBack_14 : decode cX9_traceBack 14 = .ok (.astore 5, 2) := by decide +kernel
theorem dX9_traceBack_16 : decode cX9_traceBack 16 = .ok (.aload 5, 2) := by decide +kernel
theorem dX9_traceBack_18 : decode cX9_traceBack 18 = .ok (.iconst 0, 1) := by decide +kernel
theorem dX9_traceBack_19 : decode cX9_traceBack 19 = .ok (.invokestatic 72, 3) := by decide +kernel
theorem dX9_traceBack_22 : decode cX9_traceBack 22 = .ok (.aload 4, 2) := by decide +kernel
theorem dX9_traceBack_24 : decode cX9_traceBack 24 = .ok (.iconst 0, 1) := by decide +kernel
theorem dX9_traceBack_25 : decode cX9_traceBack 25 = .ok (.iload_n 3, 1) := by decide +kernel
theorem dX9_traceBack_26 : decode cX9_traceBack 26 = .ok (.iastore, 1) := by decide +kernel
theorem dX9_traceBack_27 : decode cX9_traceBack 27 = .ok (.iconst 1, 1) := by decide +kernel
theorem dX9_traceBack_28 : decode cX9_traceBack 28 = .ok (.istore 6, 2) := by decide +kernel
theorem dX9_traceBack_30 : decode cX9_traceBack 30 = .ok (.iload_n 3, 1) := by decide +kernel
theorem dX9_traceBack_31 : decode cX9_traceBack 31 = .ok (.istore 7, 2) := by decide +kernel
theorem dX9_traceBack_33 : decode cX9_traceBack 33 = .ok (.iload 7, 2) := by decide +kernel
theorem dX9_traceBack_35 : decode cX9_traceBack 35 = .ok (.iload_n 2, 1) := by decide +kernel
theorem dX9_traceBack_36 : decode cX9_traceBack 36 = .ok (.if_icmp .eq 104, 3) := by decide +kernel
theorem dX9_traceBack_39 : decode cX9_traceBack 39 = .ok (.iload 6, 2) := by decide +kernel
theorem dX9_traceBack_41 : decode cX9_traceBack 41 = .ok (.bipush 64, 2) := by decide +kernel
theorem dX9_traceBack_43 : decode cX9_traceBack 43 = .ok (.if_icmp .ge 97, 3) := by decide +kernel
theorem dX9_traceBack_46 : decode cX9_traceBack 46 = .ok (.aload_n 0, 1) := by decide +kernel
theorem dX9_traceBack_47 : decode cX9_traceBack 47 = .ok (.getfield 42, 3) := by decide +kernel
theorem dX9_traceBack_50 : decode cX9_traceBack 50 = .ok (.aload_n 0, 1) := by decide +kernel
theorem dX9_traceBack_51 : decode cX9_traceBack 51 = .ok (.getfield 34, 3) := by decide +kernel
theorem dX9_traceBack_54 : decode cX9_traceBack 54 = .ok (.getfield 55, 3) := by decide +kernel
theorem dX9_traceBack_57 : decode cX9_traceBack 57 = .ok (.iload 7, 2) := by decide +kernel
theorem dX9_traceBack_59 : decode cX9_traceBack 59 = .ok (.invokevirtual 77, 3) := by decide +kernel
theorem dX9_traceBack_62 : decode cX9_traceBack 62 = .ok (.istore 8, 2) := by decide +kernel
theorem dX9_traceBack_64 : decode cX9_traceBack 64 = .ok (.iload 8, 2) := by decide +kernel
theorem dX9_traceBack_66 : decode cX9_traceBack 66 = .ok (.iconst (-1), 1) := by decide +kernel
theorem dX9_traceBack_67 : decode cX9_traceBack 67 = .ok (.if_icmp .ne 6, 3) := by decide +kernel
theorem dX9_traceBack_70 : decode cX9_traceBack 70 = .ok (.goto 70, 3) := by decide +kernel
theorem dX9_traceBack_73 : decode cX9_traceBack 73 = .ok (.aload_n 0, 1) := by decide +kernel
theorem dX9_traceBack_74 : decode cX9_traceBack 74 = .ok (.getfield 38, 3) := by decide +kernel
theorem dX9_traceBack_77 : decode cX9_traceBack 77 = .ok (.getfield 81, 3) := by decide +kernel
theorem dX9_traceBack_80 : decode cX9_traceBack 80 = .ok (.iload 7, 2) := by decide +kernel
theorem dX9_traceBack_82 : decode cX9_traceBack 82 = .ok (.aaload, 1) := by decide +kernel
theorem dX9_traceBack_83 : decode cX9_traceBack 83 = .ok (.iload 8, 2) := by decide +kernel
theorem dX9_traceBack_85 : decode cX9_traceBack 85 = .ok (.iaload, 1) := by decide +kernel
theorem dX9_traceBack_86 : decode cX9_traceBack 86 = .ok (.istore 9, 2) := by decide +kernel
theorem dX9_traceBack_88 : decode cX9_traceBack 88 = .ok (.aload_n 0, 1) := by decide +kernel
theorem dX9_traceBack_89 : decode cX9_traceBack 89 = .ok (.getfield 38, 3) := by decide +kernel
theorem dX9_traceBack_92 : decode cX9_traceBack 92 = .ok (.getfield 86, 3) := by decide +kernel
theorem dX9_traceBack_95 : decode cX9_traceBack 95 = .ok (.iload 7, 2) := by decide +kernel
theorem dX9_traceBack_97 : decode cX9_traceBack 97 = .ok (.aaload, 1) := by decide +kernel
theorem dX9_traceBack_98 : decode cX9_traceBack 98 = .ok (.iload 8, 2) := by decide +kernel
theorem dX9_traceBack_100 : decode cX9_traceBack 100 = .ok (.iaload, 1) := by decide +kernel
theorem dX9_traceBack_101 : decode cX9_traceBack 101 = .ok (.istore 10, 2) := by decide +kernel
theorem dX9_traceBack_103 : decode cX9_traceBack 103 = .ok (.aload 5, 2) := by decide +kernel
theorem dX9_traceBack_105 : decode cX9_traceBack 105 = .ok (.iload 7, 2) := by decide +kernel
theorem dX9_traceBack_107 : decode cX9_traceBack 107 = .ok (.dup2, 1) := by decide +kernel
theorem dX9_traceBack_108 : decode cX9_traceBack 108 = .ok (.iaload, 1) := by decide +kernel
theorem dX9_traceBack_109 : decode cX9_traceBack 109 = .ok (.iload 10, 2) := by decide +kernel
theorem dX9_traceBack_111 : decode cX9_traceBack 111 = .ok (.iadd, 1) := by decide +kernel
theorem dX9_traceBack_112 : decode cX9_traceBack 112 = .ok (.iastore, 1) := by decide +kernel
theorem dX9_traceBack_113 : decode cX9_traceBack 113 = .ok (.aload 5, 2) := by decide +kernel
theorem dX9_traceBack_115 : decode cX9_traceBack 115 = .ok (.iload 9, 2) := by decide +kernel
theorem dX9_traceBack_117 : decode cX9_traceBack 117 = .ok (.dup2, 1) := by decide +kernel
theorem dX9_traceBack_118 : decode cX9_traceBack 118 = .ok (.iaload, 1) := by decide +kernel
theorem dX9_traceBack_119 : decode cX9_traceBack 119 = .ok (.iload 10, 2) := by decide +kernel
theorem dX9_traceBack_121 : decode cX9_traceBack 121 = .ok (.iadd, 1) := by decide +kernel
theorem dX9_traceBack_122 : decode cX9_traceBack 122 = .ok (.iastore, 1) := by decide +kernel
theorem dX9_traceBack_123 : decode cX9_traceBack 123 = .ok (.aload 4, 2) := by decide +kernel
theorem dX9_traceBack_125 : decode cX9_traceBack 125 = .ok (.iload 6, 2) := by decide +kernel
theorem dX9_traceBack_127 : decode cX9_traceBack 127 = .ok (.iload 9, 2) := by decide +kernel
theorem dX9_traceBack_129 : decode cX9_traceBack 129 = .ok (.iastore, 1) := by decide +kernel
theorem dX9_traceBack_130 : decode cX9_traceBack 130 = .ok (.iinc 6 1, 3) := by decide +kernel
theorem dX9_traceBack_133 : decode cX9_traceBack 133 = .ok (.iload 9, 2) := by decide +kernel
theorem dX9_traceBack_135 : decode cX9_traceBack 135 = .ok (.istore 7, 2) := by decide +kernel
theorem dX9_traceBack_137 : decode cX9_traceBack 137 = .ok (.goto (-104), 3) := by decide +kernel
theorem dX9_traceBack_140 : decode cX9_traceBack 140 = .ok (.aload_n 0, 1) := by decide +kernel
theorem dX9_traceBack_141 : decode cX9_traceBack 141 = .ok (.getfield 23, 3) := by decide +kernel
theorem dX9_traceBack_144 : decode cX9_traceBack 144 = .ok (.iload_n 1, 1) := by decide +kernel
theorem dX9_traceBack_145 : decode cX9_traceBack 145 = .ok (.iload 6, 2) := by decide +kernel
theorem dX9_traceBack_147 : decode cX9_traceBack 147 = .ok (.iastore, 1) := by decide +kernel
theorem dX9_traceBack_148 : decode cX9_traceBack 148 = .ok (.return_, 1) := by decide +kernel
theorem dX9_delayWith_0 : decode cX9_delayWith 0 = .ok (.aload_n 0, 1) := by decide +kernel
theorem dX9_delayWith_1 : decode cX9_delayWith 1 = .ok (.iload_n 1, 1) := by decide +kernel
theorem dX9_delayWith_2 : decode cX9_delayWith 2 = .ok (.invokevirtual 89, 3) := by decide +kernel
theorem dX9_delayWith_5 : decode cX9_delayWith 5 = .ok (.lstore 4, 2) := by decide +kernel
theorem dX9_delayWith_7 : decode cX9_delayWith 7 = .ok (.aload_n 0, 1) := by decide +kernel
theorem dX9_delayWith_8 : decode cX9_delayWith 8 = .ok (.getfield 34, 3) := by decide +kernel
theorem dX9_delayWith_11 : decode cX9_delayWith 11 = .ok (.getfield 55, 3) := by decide +kernel
theorem dX9_delayWith_14 : decode cX9_delayWith 14 = .ok (.iconst 0, 1) := by decide +kernel
theorem dX9_delayWith_15 : decode cX9_delayWith 15 = .ok (.aload_n 0, 1) := by decide +kernel
theorem dX9_delayWith_16 : decode cX9_delayWith 16 = .ok (.getfield 15, 3) := by decide +kernel
theorem dX9_delayWith_19 : decode cX9_delayWith 19 = .ok (.iconst 0, 1) := by decide +kernel
theorem dX9_delayWith_20 : decode cX9_delayWith 20 = .ok (.bipush 64, 2) := by decide +kernel
theorem dX9_delayWith_22 : decode cX9_delayWith 22 = .ok (.invokestatic 93, 3) := by decide +kernel
theorem dX9_delayWith_25 : decode cX9_delayWith 25 = .ok (.aload_n 0, 1) := by decide +kernel
theorem dX9_delayWith_26 : decode cX9_delayWith 26 = .ok (.getfield 15, 3) := by decide +kernel
theorem dX9_delayWith_29 : decode cX9_delayWith 29 = .ok (.iload_n 2, 1) := by decide +kernel
theorem dX9_delayWith_30 : decode cX9_delayWith 30 = .ok (.iload_n 3, 1) := by decide +kernel
theorem dX9_delayWith_31 : decode cX9_delayWith 31 = .ok (.iastore, 1) := by decide +kernel
theorem dX9_delayWith_32 : decode cX9_delayWith 32 = .ok (.aload_n 0, 1) := by decide +kernel
theorem dX9_delayWith_33 : decode cX9_delayWith 33 = .ok (.getfield 42, 3) := by decide +kernel
theorem dX9_delayWith_36 : decode cX9_delayWith 36 = .ok (.aload_n 0, 1) := by decide +kernel
theorem dX9_delayWith_37 : decode cX9_delayWith 37 = .ok (.getfield 15, 3) := by decide +kernel
theorem dX9_delayWith_40 : decode cX9_delayWith 40 = .ok (.aload_n 0, 1) := by decide +kernel
theorem dX9_delayWith_41 : decode cX9_delayWith 41 = .ok (.getfield 34, 3) := by decide +kernel
theorem dX9_delayWith_44 : decode cX9_delayWith 44 = .ok (.iload_n 1, 1) := by decide +kernel
theorem dX9_delayWith_45 : decode cX9_delayWith 45 = .ok (.invokevirtual 46, 3) := by decide +kernel
theorem dX9_delayWith_48 : decode cX9_delayWith 48 = .ok (.aload_n 0, 1) := by decide +kernel
theorem dX9_delayWith_49 : decode cX9_delayWith 49 = .ok (.getfield 34, 3) := by decide +kernel
theorem dX9_delayWith_52 : decode cX9_delayWith 52 = .ok (.iload_n 1, 1) := by decide +kernel
theorem dX9_delayWith_53 : decode cX9_delayWith 53 = .ok (.invokevirtual 52, 3) := by decide +kernel
theorem dX9_delayWith_56 : decode cX9_delayWith 56 = .ok (.invokevirtual 58, 3) := by decide +kernel
theorem dX9_delayWith_59 : decode cX9_delayWith 59 = .ok (.lload 4, 2) := by decide +kernel
theorem dX9_delayWith_61 : decode cX9_delayWith 61 = .ok (.lsub, 1) := by decide +kernel
theorem dX9_delayWith_62 : decode cX9_delayWith 62 = .ok (.lreturn, 1) := by decide +kernel
