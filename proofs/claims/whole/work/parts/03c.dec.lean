theorem dX12_init_0 : decode cX12_init 0 = .ok (.aload_n 0, 1) := by decide +kernel
theorem dX12_init_1 : decode cX12_init 1 = .ok (.invokespecial 1, 3) := by decide +kernel
theorem dX12_init_4 : decode cX12_init 4 = .ok (.aload_n 0, 1) := by decide +kernel
theorem dX12_init_5 : decode cX12_init 5 = .ok (.sipush 200, 3) := by decide +kernel
theorem dX12_init_8 : decode cX12_init 8 = .ok (.newarray .long, 2) := by decide +kernel
theorem dX12_init_10 : decode cX12_init 10 = .ok (.putfield 7, 3) := by decide +kernel
theorem dX12_init_13 : decode cX12_init 13 = .ok (.aload_n 0, 1) := by decide +kernel
theorem dX12_init_14 : decode cX12_init 14 = .ok (.sipush 800, 3) := by decide +kernel
theorem dX12_init_17 : decode cX12_init 17 = .ok (.newarray .long, 2) := by decide +kernel
theorem dX12_init_19 : decode cX12_init 19 = .ok (.putfield 13, 3) := by decide +kernel
theorem dX12_init_22 : decode cX12_init 22 = .ok (.aload_n 0, 1) := by decide +kernel
theorem dX12_init_23 : decode cX12_init 23 = .ok (.bipush 120, 2) := by decide +kernel
theorem dX12_init_25 : decode cX12_init 25 = .ok (.newarray .int, 2) := by decide +kernel
theorem dX12_init_27 : decode cX12_init 27 = .ok (.putfield 16, 3) := by decide +kernel
theorem dX12_init_30 : decode cX12_init 30 = .ok (.aload_n 0, 1) := by decide +kernel
theorem dX12_init_31 : decode cX12_init 31 = .ok (.bipush 64, 2) := by decide +kernel
theorem dX12_init_33 : decode cX12_init 33 = .ok (.newarray .long, 2) := by decide +kernel
theorem dX12_init_35 : decode cX12_init 35 = .ok (.putfield 20, 3) := by decide +kernel
theorem dX12_init_38 : decode cX12_init 38 = .ok (.aload_n 0, 1) := by decide +kernel
theorem dX12_init_39 : decode cX12_init 39 = .ok (.bipush 64, 2) := by decide +kernel
theorem dX12_init_41 : decode cX12_init 41 = .ok (.newarray .boolean, 2) := by decide +kernel
theorem dX12_init_43 : decode cX12_init 43 = .ok (.putfield 23, 3) := by decide +kernel
theorem dX12_init_46 : decode cX12_init 46 = .ok (.aload_n 0, 1) := by decide +kernel
theorem dX12_init_47 : decode cX12_init 47 = .ok (.bipush 64, 2) := by decide +kernel
theorem dX12_init_49 : decode cX12_init 49 = .ok (.newarray .int, 2) := by decide +kernel
theorem dX12_init_51 : decode cX12_init 51 = .ok (.putfield 27, 3) := by decide +kernel
theorem dX12_init_54 : decode cX12_init 54 = .ok (.aload_n 0, 1) := by decide +kernel
theorem dX12_init_55 : decode cX12_init 55 = .ok (.bipush 64, 2) := by decide +kernel
theorem dX12_init_57 : decode cX12_init 57 = .ok (.newarray .int, 2) := by decide +kernel
theorem dX12_init_59 : decode cX12_init 59 = .ok (.putfield 30, 3) := by decide +kernel
theorem dX12_init_62 : decode cX12_init 62 = .ok (.aload_n 0, 1) := by decide +kernel
theorem dX12_init_63 : decode cX12_init 63 = .ok (.bipush 64, 2) := by decide +kernel
theorem dX12_init_65 : decode cX12_init 65 = .ok (.newarray .int, 2) := by decide +kernel
theorem dX12_init_67 : decode cX12_init 67 = .ok (.putfield 33, 3) := by decide +kernel
theorem dX12_init_70 : decode cX12_init 70 = .ok (.aload_n 0, 1) := by decide +kernel
theorem dX12_init_71 : decode cX12_init 71 = .ok (.bipush 64, 2) := by decide +kernel
theorem dX12_init_73 : decode cX12_init 73 = .ok (.newarray .int, 2) := by decide +kernel
theorem dX12_init_75 : decode cX12_init 75 = .ok (.putfield 36, 3) := by decide +kernel
theorem dX12_init_78 : decode cX12_init 78 = .ok (.aload_n 0, 1) := by decide +kernel
theorem dX12_init_79 : decode cX12_init 79 = .ok (.bipush 16, 2) := by decide +kernel
theorem dX12_init_81 : decode cX12_init 81 = .ok (.newarray .int, 2) := by decide +kernel
theorem dX12_init_83 : decode cX12_init 83 = .ok (.putfield 39, 3) := by decide +kernel
theorem dX12_init_86 : decode cX12_init 86 = .ok (.aload_n 0, 1) := by decide +kernel
theorem dX12_init_87 : decode cX12_init 87 = .ok (.bipush 16, 2) := by decide +kernel
theorem dX12_init_89 : decode cX12_init 89 = .ok (.newarray .long, 2) := by decide +kernel
theorem dX12_init_91 : decode cX12_init 91 = .ok (.putfield 42, 3) := by decide +kernel
theorem dX12_init_94 : decode cX12_init 94 = .ok (.aload_n 0, 1) := by decide +kernel
theorem dX12_init_95 : decode cX12_init 95 = .ok (.bipush 16, 2) := by decide +kernel
theorem dX12_init_97 : decode cX12_init 97 = .ok (.newarray .int, 2) := by decide +kernel
theorem dX12_init_99 : decode cX12_init 99 = .ok (.putfield 45, 3) := by decide +kernel
theorem dX12_init_102 : decode cX12_init 102 = .ok (.aload_n 0, 1) := by decide +kernel
theorem dX12_init_103 : decode cX12_init 103 = .ok (.bipush 64, 2) := by decide +kernel
theorem dX12_init_105 : decode cX12_init 105 = .ok (.newarray .long, 2) := by decide +kernel
theorem dX12_init_107 : decode cX12_init 107 = .ok (.putfield 48, 3) := by decide +kernel
theorem dX12_init_110 : decode cX12_init 110 = .ok (.aload_n 0, 1) := by decide +kernel
theorem dX12_init_111 : decode cX12_init 111 = .ok (.bipush 90, 2) := by decide +kernel
theorem dX12_init_113 : decode cX12_init 113 = .ok (.newarray .int, 2) := by decide +kernel
theorem dX12_init_115 : decode cX12_init 115 = .ok (.putfield 51, 3) := by decide +kernel
theorem dX12_init_118 : decode cX12_init 118 = .ok (.aload_n 0, 1) := by decide +kernel
theorem dX12_init_119 : decode cX12_init 119 = .ok (.getfield 7, 3) := by decide +kernel
theorem dX12_init_122 : decode cX12_init 122 = .ok (.iconst 2, 1) := by decide +kernel
theorem dX12_init_123 : decode cX12_init 123 = .ok (.lconst 1, 1) := by decide +kernel
theorem dX12_init_124 : decode cX12_init 124 = .ok (.lastore, 1) := by decide +kernel
theorem dX12_init_125 : decode cX12_init 125 = .ok (.aload_n 0, 1) := by decide +kernel
theorem dX12_init_126 : decode cX12_init 126 = .ok (.getfield 7, 3) := by decide +kernel
theorem dX12_init_129 : decode cX12_init 129 = .ok (.iconst 3, 1) := by decide +kernel
theorem dX12_init_130 : decode cX12_init 130 = .ok (.ldc2_w 54, 3) := by decide +kernel
theorem dX12_init_133 : decode cX12_init 133 = .ok (.lastore, 1) := by decide +kernel
theorem dX12_init_134 : decode cX12_init 134 = .ok (.aload_n 0, 1) := by decide +kernel
theorem dX12_init_135 : decode cX12_init 135 = .ok (.getfield 7, 3) := by decide +kernel
theorem dX12_init_138 : decode cX12_init 138 = .ok (.iconst 4, 1) := by decide +kernel
theorem dX12_init_139 : decode cX12_init 139 = .ok (.ldc2_w 56, 3) := by decide +kernel
theorem dX12_init_142 : decode cX12_init 142 = .ok (.lastore, 1) := by decide +kernel
theorem dX12_init_143 : decode cX12_init 143 = .ok (.aload_n 0, 1) := by decide +kernel
theorem dX12_init_144 : decode cX12_init 144 = .ok (.iconst 4, 1) := by decide +kernel
theorem dX12_init_145 : decode cX12_init 145 = .ok (.iconst 4, 1) := by decide +kernel
theorem dX12_init_146 : decode cX12_init 146 = .ok (.invokevirtual 58, 3) := by decide +kernel
theorem dX12_init_149 : decode cX12_init 149 = .ok (.return_, 1) := by decide +kernel
theorem dX12_thrown_0 : decode cX12_thrown 0 = .ok (.aload_n 0, 1) := by decide +kernel
theorem dX12_thrown_1 : decode cX12_thrown 1 = .ok (.getfield 62, 3) := by decide +kernel
theorem dX12_thrown_4 : decode cX12_thrown 4 = .ok (.ireturn, 1) := by decide +kernel
theorem dX12_in_0 : decode cX12_in 0 = .ok (.lload_n 0, 1) := by decide +kernel
theorem dX12_in_1 : decode cX12_in 1 = .ok (.lload_n 2, 1) := by decide +kernel
theorem dX12_in_2 : decode cX12_in 2 = .ok (.lcmp, 1) := by decide +kernel
theorem dX12_in_3 : decode cX12_in 3 = .ok (.ifCond .lt 14, 3) := by decide +kernel
theorem dX12_in_6 : decode cX12_in 6 = .ok (.lload_n 0, 1) := by decide +kernel
theorem dX12_in_7 : decode cX12_in 7 = .ok (.lload 4, 2) := by decide +kernel
theorem dX12_in_9 : decode cX12_in 9 = .ok (.lcmp, 1) := by decide +kernel
theorem dX12_in_10 : decode cX12_in 10 = .ok (.ifCond .gt 7, 3) := by decide +kernel
theorem dX12_in_13 : decode cX12_in 13 = .ok (.iconst 1, 1) := by decide +kernel
theorem dX12_in_14 : decode cX12_in 14 = .ok (.goto 4, 3) := by decide +kernel
theorem dX12_in_17 : decode cX12_in 17 = .ok (.iconst 0, 1) := by decide +kernel
theorem dX12_in_18 : decode cX12_in 18 = .ok (.ireturn, 1) := by decide +kernel
theorem dX12_keep_0 : decode cX12_keep 0 = .ok (.aload_n 0, 1) := by decide +kernel
theorem dX12_keep_1 : decode cX12_keep 1 = .ok (.getfield 66, 3) := by decide +kernel
theorem dX12_keep_4 : decode cX12_keep 4 = .ok (.iconst 4, 1) := by decide +kernel
theorem dX12_keep_5 : decode cX12_keep 5 = .ok (.if_icmp .ne 44, 3) := by decide +kernel
theorem dX12_keep_8 : decode cX12_keep 8 = .ok (.iconst 0, 1) := by decide +kernel
theorem dX12_keep_9 : decode cX12_keep 9 = .ok (.istore_n 1, 1) := by decide +kernel
theorem dX12_keep_10 : decode cX12_keep 10 = .ok (.iload_n 1, 1) := by decide +kernel
theorem dX12_keep_11 : decode cX12_keep 11 = .ok (.sipush 600, 3) := by decide +kernel
theorem dX12_keep_14 : decode cX12_keep 14 = .ok (.if_icmp .ge 25, 3) := by decide +kernel
theorem dX12_keep_17 : decode cX12_keep 17 = .ok (.aload_n 0, 1) := by decide +kernel
theorem dX12_keep_18 : decode cX12_keep 18 = .ok (.getfield 13, 3) := by decide +kernel
theorem dX12_keep_21 : decode cX12_keep 21 = .ok (.iload_n 1, 1) := by decide +kernel
theorem dX12_keep_22 : decode cX12_keep 22 = .ok (.aload_n 0, 1) := by decide +kernel
theorem dX12_keep_23 : decode cX12_keep 23 = .ok (.getfield 13, 3) := by decide +kernel
theorem dX12_keep_26 : decode cX12_keep 26 = .ok (.iload_n 1, 1) := by decide +kernel
theorem dX12_keep_27 : decode cX12_keep 27 = .ok (.sipush 200, 3) := by decide +kernel
theorem dX12_keep_30 : decode cX12_keep 30 = .ok (.iadd, 1) := by decide +kernel
theorem dX12_keep_31 : decode cX12_keep 31 = .ok (.laload, 1) := by decide +kernel
theorem dX12_keep_32 : decode cX12_keep 32 = .ok (.lastore, 1) := by decide +kernel
theorem dX12_keep_33 : decode cX12_keep 33 = .ok (.iinc 1 1, 3) := by decide +kernel
theorem dX12_keep_36 : decode cX12_keep 36 = .ok (.goto (-26), 3) := by decide +kernel
theorem dX12_keep_39 : decode cX12_keep 39 = .ok (.aload_n 0, 1) := by decide +kernel
theorem dX12_keep_40 : decode cX12_keep 40 = .ok (.dup, 1) := by decide +kernel
theorem dX12_keep_41 : decode cX12_keep 41 = .ok (.getfield 66, 3) := by decide +kernel
theorem dX12_keep_44 : decode cX12_keep 44 = .ok (.iconst 1, 1) := by decide +kernel
theorem dX12_keep_45 : decode cX12_keep 45 = .ok (.isub, 1) := by decide +kernel
theorem dX12_keep_46 : decode cX12_keep 46 = .ok (.putfield 66, 3) := by decide +kernel
theorem dX12_keep_49 : decode cX12_keep 49 = .ok (.iconst 0, 1) := by decide +kernel
theorem dX12_keep_50 : decode cX12_keep 50 = .ok (.istore_n 1, 1) := by decide +kernel
theorem dX12_keep_51 : decode cX12_keep 51 = .ok (.iload_n 1, 1) := by decide +kernel
theorem dX12_keep_52 : decode cX12_keep 52 = .ok (.sipush 200, 3) := by decide +kernel
theorem dX12_keep_55 : decode cX12_keep 55 = .ok (.if_icmp .ge 30, 3) := by decide +kernel
theorem dX12_keep_58 : decode cX12_keep 58 = .ok (.aload_n 0, 1) := by decide +kernel
theorem dX12_keep_59 : decode cX12_keep 59 = .ok (.getfield 13, 3) := by decide +kernel
theorem dX12_keep_62 : decode cX12_keep 62 = .ok (.sipush 200, 3) := by decide +kernel
theorem dX12_keep_65 : decode cX12_keep 65 = .ok (.aload_n 0, 1) := by decide +kernel
theorem dX12_keep_66 : decode cX12_keep 66 = .ok (.getfield 66, 3) := by decide +kernel
theorem dX12_keep_69 : decode cX12_keep 69 = .ok (.imul, 1) := by decide +kernel
theorem dX12_keep_70 : decode cX12_keep 70 = .ok (.iload_n 1, 1) := by decide +kernel
theorem dX12_keep_71 : decode cX12_keep 71 = .ok (.iadd, 1) := by decide +kernel
theorem dX12_keep_72 : decode cX12_keep 72 = .ok (.aload_n 0, 1) := by decide +kernel
theorem dX12_keep_73 : decode cX12_keep 73 = .ok (.getfield 7, 3) := by decide +kernel
theorem dX12_keep_76 : decode cX12_keep 76 = .ok (.iload_n 1, 1) := by decide +kernel
theorem dX12_keep_77 : decode cX12_keep 77 = .ok (.laload, 1) := by decide +kernel
theorem dX12_keep_78 : decode cX12_keep 78 = .ok (.lastore, 1) := by decide +kernel
theorem dX12_keep_79 : decode cX12_keep 79 = .ok (.iinc 1 1, 3) := by decide +kernel
theorem dX12_keep_82 : decode cX12_keep 82 = .ok (.goto (-31), 3) := by decide +kernel
theorem dX12_keep_85 : decode cX12_keep 85 = .ok (.aload_n 0, 1) := by decide +kernel
theorem dX12_keep_86 : decode cX12_keep 86 = .ok (.dup, 1) := by decide +kernel
theorem dX12_keep_87 : decode cX12_keep 87 = .ok (.getfield 66, 3) := by decide +kernel
theorem dX12_keep_90 : decode cX12_keep 90 = .ok (.iconst 1, 1) := by decide +kernel
theorem dX12_keep_91 : decode cX12_keep 91 = .ok (.iadd, 1) := by decide +kernel
theorem dX12_keep_92 : decode cX12_keep 92 = .ok (.putfield 66, 3) := by decide +kernel
theorem dX12_keep_95 : decode cX12_keep 95 = .ok (.return_, 1) := by decide +kernel
theorem dX12_columns_0 : decode cX12_columns 0 = .ok (.aload_n 0, 1) := by decide +kernel
theorem dX12_columns_1 : decode cX12_columns 1 = .ok (.getfield 7, 3) := by decide +kernel
theorem dX12_columns_4 : decode cX12_columns 4 = .ok (.iconst 0, 1) := by decide +kernel
theorem dX12_columns_5 : decode cX12_columns 5 = .ok (.laload, 1) := by decide +kernel
theorem dX12_columns_6 : decode cX12_columns 6 = .ok (.l2i, 1) := by decide +kernel
theorem dX12_columns_7 : decode cX12_columns 7 = .ok (.ireturn, 1) := by decide +kernel
theorem dX12_rows_0 : decode cX12_rows 0 = .ok (.aload_n 0, 1) := by decide +kernel
theorem dX12_rows_1 : decode cX12_rows 1 = .ok (.getfield 7, 3) := by decide +kernel
theorem dX12_rows_4 : decode cX12_rows 4 = .ok (.iconst 1, 1) := by decide +kernel
theorem dX12_rows_5 : decode cX12_rows 5 = .ok (.laload, 1) := by decide +kernel
theorem dX12_rows_6 : decode cX12_rows 6 = .ok (.l2i, 1) := by decide +kernel
theorem dX12_rows_7 : decode cX12_rows 7 = .ok (.ireturn, 1) := by decide +kernel
theorem dX12_cells_0 : decode cX12_cells 0 = .ok (.aload_n 0, 1) := by decide +kernel
theorem dX12_cells_1 : decode cX12_cells 1 = .ok (.invokevirtual 69, 3) := by decide +kernel
theorem dX12_cells_4 : decode cX12_cells 4 = .ok (.aload_n 0, 1) := by decide +kernel
theorem dX12_cells_5 : decode cX12_cells 5 = .ok (.invokevirtual 73, 3) := by decide +kernel
theorem dX12_cells_8 : decode cX12_cells 8 = .ok (.imul, 1) := by decide +kernel
theorem dX12_cells_9 : decode cX12_cells 9 = .ok (.ireturn, 1) := by decide +kernel
theorem dX12_isCell_0 : decode cX12_isCell 0 = .ok (.iload_n 1, 1) := by decide +kernel
theorem dX12_isCell_1 : decode cX12_isCell 1 = .ok (.i2l, 1) := by decide +kernel
theorem dX12_isCell_2 : decode cX12_isCell 2 = .ok (.lconst 0, 1) := by decide +kernel
theorem dX12_isCell_3 : decode cX12_isCell 3 = .ok (.aload_n 0, 1) := by decide +kernel
theorem dX12_isCell_4 : decode cX12_isCell 4 = .ok (.invokevirtual 76, 3) := by decide +kernel
theorem dX12_isCell_7 : decode cX12_isCell 7 = .ok (.iconst 1, 1) := by decide +kernel
theorem dX12_isCell_8 : decode cX12_isCell 8 = .ok (.isub, 1) := by decide +kernel
theorem dX12_isCell_9 : decode cX12_isCell 9 = .ok (.i2l, 1) := by decide +kernel
theorem dX12_isCell_10 : decode cX12_isCell 10 = .ok (.invokestatic 79, 3) := by decide +kernel
theorem dX12_isCell_13 : decode cX12_isCell 13 = .ok (.ireturn, 1) := by decide +kernel
theorem dX12_isRow_0 : decode cX12_isRow 0 = .ok (.iload_n 1, 1) := by decide +kernel
theorem dX12_isRow_1 : decode cX12_isRow 1 = .ok (.i2l, 1) := by decide +kernel
theorem dX12_isRow_2 : decode cX12_isRow 2 = .ok (.lconst 0, 1) := by decide +kernel
theorem dX12_isRow_3 : decode cX12_isRow 3 = .ok (.aload_n 0, 1) := by decide +kernel
theorem dX12_isRow_4 : decode cX12_isRow 4 = .ok (.invokevirtual 73, 3) := by decide +kernel
theorem dX12_isRow_7 : decode cX12_isRow 7 = .ok (.iconst 1, 1) := by decide +kernel
theorem dX12_isRow_8 : decode cX12_isRow 8 = .ok (.isub, 1) := by decide +kernel
theorem dX12_isRow_9 : decode cX12_isRow 9 = .ok (.i2l, 1) := by decide +kernel
theorem dX12_isRow_10 : decode cX12_isRow 10 = .ok (.invokestatic 79, 3) := by decide +kernel
theorem dX12_isRow_13 : decode cX12_isRow 13 = .ok (.ireturn, 1) := by decide +kernel
theorem dX12_isSlowness_0 : decode cX12_isSlowness 0 = .ok (.iload_n 0, 1) := by decide +kernel
theorem dX12_isSlowness_1 : decode cX12_isSlowness 1 = .ok (.i2l, 1) := by decide +kernel
theorem dX12_isSlowness_2 : decode cX12_isSlowness 2 = .ok (.lconst 1, 1) := by decide +kernel
theorem dX12_isSlowness_3 : decode cX12_isSlowness 3 = .ok (.ldc2_w 54, 3) := by decide +kernel
theorem dX12_isSlowness_6 : decode cX12_isSlowness 6 = .ok (.invokestatic 79, 3) := by decide +kernel
theorem dX12_isSlowness_9 : decode cX12_isSlowness 9 = .ok (.ireturn, 1) := by decide +kernel
theorem dX12_isRay_0 : decode cX12_isRay 0 = .ok (.iload_n 1, 1) := by decide +kernel
theorem dX12_isRay_1 : decode cX12_isRay 1 = .ok (.i2l, 1) := by decide +kernel
theorem dX12_isRay_2 : decode cX12_isRay 2 = .ok (.lconst 0, 1) := by decide +kernel
theorem dX12_isRay_3 : decode cX12_isRay 3 = .ok (.aload_n 0, 1) := by decide +kernel
theorem dX12_isRay_4 : decode cX12_isRay 4 = .ok (.getfield 7, 3) := by decide +kernel
theorem dX12_isRay_7 : decode cX12_isRay 7 = .ok (.bipush 7, 2) := by decide +kernel
theorem dX12_isRay_9 : decode cX12_isRay 9 = .ok (.laload, 1) := by decide +kernel
theorem dX12_isRay_10 : decode cX12_isRay 10 = .ok (.lconst 1, 1) := by decide +kernel
theorem dX12_isRay_11 : decode cX12_isRay 11 = .ok (.lsub, 1) := by decide +kernel
theorem dX12_isRay_12 : decode cX12_isRay 12 = .ok (.invokestatic 79, 3) := by decide +kernel
theorem dX12_isRay_15 : decode cX12_isRay 15 = .ok (.ireturn, 1) := by decide +kernel
theorem dX12_of_0 : decode cX12_of 0 = .ok (.aload_n 0, 1) := by decide +kernel
theorem dX12_of_1 : decode cX12_of 1 = .ok (.getfield 7, 3) := by decide +kernel
theorem dX12_of_4 : decode cX12_of 4 = .ok (.sipush 136, 3) := by decide +kernel
theorem dX12_of_7 : decode cX12_of 7 = .ok (.iconst 4, 1) := by decide +kernel
theorem dX12_of_8 : decode cX12_of 8 = .ok (.iload_n 1, 1) := by decide +kernel
theorem dX12_of_9 : decode cX12_of 9 = .ok (.imul, 1) := by decide +kernel
theorem dX12_of_10 : decode cX12_of 10 = .ok (.iadd, 1) := by decide +kernel
theorem dX12_of_11 : decode cX12_of 11 = .ok (.iload_n 2, 1) := by decide +kernel
theorem dX12_of_12 : decode cX12_of 12 = .ok (.iadd, 1) := by decide +kernel
theorem dX12_of_13 : decode cX12_of 13 = .ok (.laload, 1) := by decide +kernel
theorem dX12_of_14 : decode cX12_of 14 = .ok (.lreturn, 1) := by decide +kernel
theorem dX12_put_0 : decode cX12_put 0 = .ok (.aload_n 0, 1) := by decide +kernel
theorem dX12_put_1 : decode cX12_put 1 = .ok (.getfield 7, 3) := by decide +kernel
theorem dX12_put_4 : decode cX12_put 4 = .ok (.sipush 136, 3) := by decide +kernel
theorem dX12_put_7 : decode cX12_put 7 = .ok (.iconst 4, 1) := by decide +kernel
theorem dX12_put_8 : decode cX12_put 8 = .ok (.iload_n 1, 1) := by decide +kernel
theorem dX12_put_9 : decode cX12_put 9 = .ok (.imul, 1) := by decide +kernel
theorem dX12_put_10 : decode cX12_put 10 = .ok (.iadd, 1) := by decide +kernel
theorem dX12_put_11 : decode cX12_put 11 = .ok (.iload_n 2, 1) := by decide +kernel
theorem dX12_put_12 : decode cX12_put 12 = .ok (.iadd, 1) := by decide +kernel
theorem dX12_put_13 : decode cX12_put 13 = .ok (.lload_n 3, 1) := by decide +kernel
theorem dX12_put_14 : decode cX12_put 14 = .ok (.lastore, 1) := by decide +kernel
theorem dX12_put_15 : decode cX12_put 15 = .ok (.return_, 1) := by decide +kernel
theorem dX12_isActive_0 : decode cX12_isActive 0 = .ok (.aload_n 0, 1) := by decide +kernel
theorem dX12_isActive_1 : decode cX12_isActive 1 = .ok (.iload_n 1, 1) := by decide +kernel
theorem dX12_isActive_2 : decode cX12_isActive 2 = .ok (.iconst 2, 1) := by decide +kernel
theorem dX12_isActive_3 : decode cX12_isActive 3 = .ok (.invokevirtual 83, 3) := by decide +kernel
theorem dX12_isActive_6 : decode cX12_isActive 6 = .ok (.lconst 1, 1) := by decide +kernel
theorem dX12_isActive_7 : decode cX12_isActive 7 = .ok (.lcmp, 1) := by decide +kernel
theorem dX12_isActive_8 : decode cX12_isActive 8 = .ok (.ifCond .ne 20, 3) := by decide +kernel
theorem dX12_isActive_11 : decode cX12_isActive 11 = .ok (.aload_n 0, 1) := by decide +kernel
theorem dX12_isActive_12 : decode cX12_isActive 12 = .ok (.iload_n 1, 1) := by decide +kernel
theorem dX12_isActive_13 : decode cX12_isActive 13 = .ok (.iconst 3, 1) := by decide +kernel
theorem dX12_isActive_14 : decode cX12_isActive 14 = .ok (.invokevirtual 83, 3) := by decide +kernel
theorem dX12_isActive_17 : decode cX12_isActive 17 = .ok (.ldc2_w 87, 3) := by decide +kernel
theorem dX12_isActive_20 : decode cX12_isActive 20 = .ok (.lcmp, 1) := by decide +kernel
theorem dX12_isActive_21 : decode cX12_isActive 21 = .ok (.ifCond .eq 7, 3) := by decide +kernel
theorem dX12_isActive_24 : decode cX12_isActive 24 = .ok (.iconst 1, 1) := by decide +kernel
theorem dX12_isActive_25 : decode cX12_isActive 25 = .ok (.goto 4, 3) := by decide +kernel
theorem dX12_isActive_28 : decode cX12_isActive 28 = .ok (.iconst 0, 1) := by decide +kernel
theorem dX12_isActive_29 : decode cX12_isActive 29 = .ok (.ireturn, 1) := by decide +kernel
theorem dX12_actives_0 : decode cX12_actives 0 = .ok (.iconst 0, 1) := by decide +kernel
theorem dX12_actives_1 : decode cX12_actives 1 = .ok (.istore_n 1, 1) := by decide +kernel
theorem dX12_actives_2 : decode cX12_actives 2 = .ok (.iconst 0, 1) := by decide +kernel
theorem dX12_actives_3 : decode cX12_actives 3 = .ok (.istore_n 2, 1) := by decide +kernel
theorem dX12_actives_4 : decode cX12_actives 4 = .ok (.iload_n 2, 1) := by decide +kernel
theorem dX12_actives_5 : decode cX12_actives 5 = .ok (.i2l, 1) := by decide +kernel
theorem dX12_actives_6 : decode cX12_actives 6 = .ok (.aload_n 0, 1) := by decide +kernel
theorem dX12_actives_7 : decode cX12_actives 7 = .ok (.getfield 7, 3) := by decide +kernel
theorem dX12_actives_10 : decode cX12_actives 10 = .ok (.bipush 7, 2) := by decide +kernel
theorem dX12_actives_12 : decode cX12_actives 12 = .ok (.laload, 1) := by decide +kernel
theorem dX12_actives_13 : decode cX12_actives 13 = .ok (.lcmp, 1) := by decide +kernel
theorem dX12_actives_14 : decode cX12_actives 14 = .ok (.ifCond .ge 25, 3) := by decide +kernel
theorem dX12_actives_17 : decode cX12_actives 17 = .ok (.iload_n 1, 1) := by decide +kernel
theorem dX12_actives_18 : decode cX12_actives 18 = .ok (.aload_n 0, 1) := by decide +kernel
theorem dX12_actives_19 : decode cX12_actives 19 = .ok (.iload_n 2, 1) := by decide +kernel
theorem dX12_actives_20 : decode cX12_actives 20 = .ok (.invokevirtual 89, 3) := by decide +kernel
theorem dX12_actives_23 : decode cX12_actives 23 = .ok (.ifCond .eq 7, 3) := by decide +kernel
theorem dX12_actives_26 : decode cX12_actives 26 = .ok (.iconst 1, 1) := by decide +kernel
theorem dX12_actives_27 : decode cX12_actives 27 = .ok (.goto 4, 3) := by decide +kernel
theorem dX12_actives_30 : decode cX12_actives 30 = .ok (.iconst 0, 1) := by decide +kernel
theorem dX12_actives_31 : decode cX12_actives 31 = .ok (.iadd, 1) := by decide +kernel
theorem dX12_actives_32 : decode cX12_actives 32 = .ok (.istore_n 1, 1) := by decide +kernel
theorem dX12_actives_33 : decode cX12_actives 33 = .ok (.iinc 2 1, 3) := by decide +kernel
theorem dX12_actives_36 : decode cX12_actives 36 = .ok (.goto (-32), 3) := by decide +kernel
theorem dX12_actives_39 : decode cX12_actives 39 = .ok (.iload_n 1, 1) := by decide +kernel
theorem dX12_actives_40 : decode cX12_actives 40 = .ok (.ireturn, 1) := by decide +kernel
theorem dX12_abs_0 : decode cX12_abs 0 = .ok (.lload_n 0, 1) := by decide +kernel
theorem dX12_abs_1 : decode cX12_abs 1 = .ok (.lconst 0, 1) := by decide +kernel
theorem dX12_abs_2 : decode cX12_abs 2 = .ok (.lcmp, 1) := by decide +kernel
theorem dX12_abs_3 : decode cX12_abs 3 = .ok (.ifCond .ge 8, 3) := by decide +kernel
theorem dX12_abs_6 : decode cX12_abs 6 = .ok (.lload_n 0, 1) := by decide +kernel
theorem dX12_abs_7 : decode cX12_abs 7 = .ok (.lneg, 1) := by decide +kernel
theorem dX12_abs_8 : decode cX12_abs 8 = .ok (.goto 4, 3) := by decide +kernel
theorem dX12_abs_11 : decode cX12_abs 11 = .ok (.lload_n 0, 1) := by decide +kernel
theorem dX12_abs_12 : decode cX12_abs 12 = .ok (.lreturn, 1) := by decide +kernel
theorem dX12_rounded_0 : decode cX12_rounded 0 = .ok (.ldc2_w 93, 3) := by decide +kernel
theorem dX12_rounded_3 : decode cX12_rounded 3 = .ok (.lload_n 0, 1) := by decide +kernel
theorem dX12_rounded_4 : decode cX12_rounded 4 = .ok (.lmul, 1) := by decide +kernel
theorem dX12_rounded_5 : decode cX12_rounded 5 = .ok (.lload_n 2, 1) := by decide +kernel
theorem dX12_rounded_6 : decode cX12_rounded 6 = .ok (.ladd, 1) := by decide +kernel
theorem dX12_rounded_7 : decode cX12_rounded 7 = .ok (.lstore 4, 2) := by decide +kernel
theorem dX12_rounded_9 : decode cX12_rounded 9 = .ok (.lload 4, 2) := by decide +kernel
theorem dX12_rounded_11 : decode cX12_rounded 11 = .ok (.ldc2_w 93, 3) := by decide +kernel
theorem dX12_rounded_14 : decode cX12_rounded 14 = .ok (.lload_n 2, 1) := by decide +kernel
theorem dX12_rounded_15 : decode cX12_rounded 15 = .ok (.lmul, 1) := by decide +kernel
theorem dX12_rounded_16 : decode cX12_rounded 16 = .ok (.ldiv, 1) := by decide +kernel
theorem dX12_rounded_17 : decode cX12_rounded 17 = .ok (.lstore 6, 2) := by decide +kernel
theorem dX12_rounded_19 : decode cX12_rounded 19 = .ok (.lload 6, 2) := by decide +kernel
theorem dX12_rounded_21 : decode cX12_rounded 21 = .ok (.ldc2_w 93, 3) := by decide +kernel
theorem dX12_rounded_24 : decode cX12_rounded 24 = .ok (.lmul, 1) := by decide +kernel
theorem dX12_rounded_25 : decode cX12_rounded 25 = .ok (.lload_n 2, 1) := by decide +kernel
theorem dX12_rounded_26 : decode cX12_rounded 26 = .ok (.lmul, 1) := by decide +kernel
theorem dX12_rounded_27 : decode cX12_rounded 27 = .ok (.lload 4, 2) := by decide +kernel
theorem dX12_rounded_29 : decode cX12_rounded 29 = .ok (.lcmp, 1) := by decide +kernel
theorem dX12_rounded_30 : decode cX12_rounded 30 = .ok (.ifCond .le 10, 3) := by decide +kernel
theorem dX12_rounded_33 : decode cX12_rounded 33 = .ok (.lload 6, 2) := by decide +kernel
theorem dX12_rounded_35 : decode cX12_rounded 35 = .ok (.lconst 1, 1) := by decide +kernel
theorem dX12_rounded_36 : decode cX12_rounded 36 = .ok (.lsub, 1) := by decide +kernel
theorem dX12_rounded_37 : decode cX12_rounded 37 = .ok (.goto 5, 3) := by decide +kernel
theorem dX12_rounded_40 : decode cX12_rounded 40 = .ok (.lload 6, 2) := by decide +kernel
theorem dX12_rounded_42 : decode cX12_rounded 42 = .ok (.lreturn, 1) := by decide +kernel
theorem dX12_move_0 : decode cX12_move 0 = .ok (.iload_n 1, 1) := by decide +kernel
theorem dX12_move_1 : decode cX12_move 1 = .ok (.aload_n 0, 1) := by decide +kernel
theorem dX12_move_2 : decode cX12_move 2 = .ok (.invokevirtual 69, 3) := by decide +kernel
theorem dX12_move_5 : decode cX12_move 5 = .ok (.irem, 1) := by decide +kernel
theorem dX12_move_6 : decode cX12_move 6 = .ok (.iload_n 2, 1) := by decide +kernel
theorem dX12_move_7 : decode cX12_move 7 = .ok (.aload_n 0, 1) := by decide +kernel
theorem dX12_move_8 : decode cX12_move 8 = .ok (.invokevirtual 69, 3) := by decide +kernel
theorem dX12_move_11 : decode cX12_move 11 = .ok (.irem, 1) := by decide +kernel
theorem dX12_move_12 : decode cX12_move 12 = .ok (.isub, 1) := by decide +kernel
theorem dX12_move_13 : decode cX12_move 13 = .ok (.istore_n 3, 1) := by decide +kernel
theorem dX12_move_14 : decode cX12_move 14 = .ok (.iload_n 1, 1) := by decide +kernel
theorem dX12_move_15 : decode cX12_move 15 = .ok (.aload_n 0, 1) := by decide +kernel
theorem dX12_move_16 : decode cX12_move 16 = .ok (.invokevirtual 69, 3) := by decide +kernel
theorem dX12_move_19 : decode cX12_move 19 = .ok (.idiv, 1) := by decide +kernel
theorem dX12_move_20 : decode cX12_move 20 = .ok (.iload_n 2, 1) := by decide +kernel
theorem dX12_move_21 : decode cX12_move 21 = .ok (.aload_n 0, 1) := by decide +kernel
theorem dX12_move_22 : decode cX12_move 22 = .ok (.invokevirtual 69, 3) := by decide +kernel
theorem dX12_move_25 : decode cX12_move 25 = .ok (.idiv, 1) := by decide +kernel
theorem dX12_move_26 : decode cX12_move 26 = .ok (.isub, 1) := by decide +kernel
theorem dX12_move_27 : decode cX12_move 27 = .ok (.istore 4, 2) := by decide +kernel
theorem dX12_move_29 : decode cX12_move 29 = .ok (.iload_n 3, 1) := by decide +kernel
theorem dX12_move_30 : decode cX12_move 30 = .ok (.i2l, 1) := by decide +kernel
theorem dX12_move_31 : decode cX12_move 31 = .ok (.ldc2_w 87, 3) := by decide +kernel
theorem dX12_move_34 : decode cX12_move 34 = .ok (.lconst 1, 1) := by decide +kernel
theorem dX12_move_35 : decode cX12_move 35 = .ok (.invokestatic 79, 3) := by decide +kernel
theorem dX12_move_38 : decode cX12_move 38 = .ok (.ifCond .eq 21, 3) := by decide +kernel
theorem dX12_move_41 : decode cX12_move 41 = .ok (.iload 4, 2) := by decide +kernel
theorem dX12_move_43 : decode cX12_move 43 = .ok (.i2l, 1) := by decide +kernel
theorem dX12_move_44 : decode cX12_move 44 = .ok (.ldc2_w 87, 3) := by decide +kernel
theorem dX12_move_47 : decode cX12_move 47 = .ok (.lconst 1, 1) := by decide +kernel
theorem dX12_move_48 : decode cX12_move 48 = .ok (.invokestatic 79, 3) := by decide +kernel
theorem dX12_move_51 : decode cX12_move 51 = .ok (.ifCond .eq 8, 3) := by decide +kernel
theorem dX12_move_54 : decode cX12_move 54 = .ok (.iload_n 1, 1) := by decide +kernel
theorem dX12_move_55 : decode cX12_move 55 = .ok (.iload_n 2, 1) := by decide +kernel
theorem dX12_move_56 : decode cX12_move 56 = .ok (.if_icmp .ne 5, 3) := by decide +kernel
theorem dX12_move_59 : decode cX12_move 59 = .ok (.iconst 0, 1) := by decide +kernel
theorem dX12_move_60 : decode cX12_move 60 = .ok (.ireturn, 1) := by decide +kernel
theorem dX12_move_61 : decode cX12_move 61 = .ok (.iload_n 3, 1) := by decide +kernel
theorem dX12_move_62 : decode cX12_move 62 = .ok (.ifCond .eq 8, 3) := by decide +kernel
theorem dX12_move_65 : decode cX12_move 65 = .ok (.iload 4, 2) := by decide +kernel
theorem dX12_move_67 : decode cX12_move 67 = .ok (.ifCond .ne 9, 3) := by decide +kernel
theorem dX12_move_70 : decode cX12_move 70 = .ok (.sipush 1000, 3) := by decide +kernel
theorem dX12_move_73 : decode cX12_move 73 = .ok (.goto 6, 3) := by decide +kernel
theorem dX12_move_76 : decode cX12_move 76 = .ok (.sipush 1414, 3) := by decide +kernel
theorem dX12_move_79 : decode cX12_move 79 = .ok (.ireturn, 1) := by decide +kernel
theorem dX12_spread_0 : decode cX12_spread 0 = .ok (.iconst 0, 1) := by decide +kernel
theorem dX12_spread_1 : decode cX12_spread 1 = .ok (.istore_n 3, 1) := by decide +kernel
theorem dX12_spread_2 : decode cX12_spread 2 = .ok (.iload_n 3, 1) := by decide +kernel
theorem dX12_spread_3 : decode cX12_spread 3 = .ok (.aload_n 0, 1) := by decide +kernel
theorem dX12_spread_4 : decode cX12_spread 4 = .ok (.invokevirtual 76, 3) := by decide +kernel
theorem dX12_spread_7 : decode cX12_spread 7 = .ok (.if_icmp .ge 34, 3) := by decide +kernel
theorem dX12_spread_10 : decode cX12_spread 10 = .ok (.aload_n 0, 1) := by decide +kernel
theorem dX12_spread_11 : decode cX12_spread 11 = .ok (.getfield 20, 3) := by decide +kernel
theorem dX12_spread_14 : decode cX12_spread 14 = .ok (.iload_n 3, 1) := by decide +kernel
theorem dX12_spread_15 : decode cX12_spread 15 = .ok (.iload_n 3, 1) := by decide +kernel
theorem dX12_spread_16 : decode cX12_spread 16 = .ok (.iload_n 1, 1) := by decide +kernel
theorem dX12_spread_17 : decode cX12_spread 17 = .ok (.if_icmp .ne 7, 3) := by decide +kernel
theorem dX12_spread_20 : decode cX12_spread 20 = .ok (.lconst 0, 1) := by decide +kernel
theorem dX12_spread_21 : decode cX12_spread 21 = .ok (.goto 6, 3) := by decide +kernel
theorem dX12_spread_24 : decode cX12_spread 24 = .ok (.ldc2_w 95, 3) := by decide +kernel
theorem dX12_spread_27 : decode cX12_spread 27 = .ok (.lastore, 1) := by decide +kernel
theorem dX12_spread_28 : decode cX12_spread 28 = .ok (.aload_n 0, 1) := by decide +kernel
theorem dX12_spread_29 : decode cX12_spread 29 = .ok (.getfield 23, 3) := by decide +kernel
theorem dX12_spread_32 : decode cX12_spread 32 = .ok (.iload_n 3, 1) := by decide +kernel
theorem dX12_spread_33 : decode cX12_spread 33 = .ok (.iconst 0, 1) := by decide +kernel
theorem dX12_spread_34 : decode cX12_spread 34 = .ok (.bastore, 1) := by decide +kernel
theorem dX12_spread_35 : decode cX12_spread 35 = .ok (.iinc 3 1, 3) := by decide +kernel
theorem dX12_spread_38 : decode cX12_spread 38 = .ok (.goto (-36), 3) := by decide +kernel
theorem dX12_spread_41 : decode cX12_spread 41 = .ok (.iconst 0, 1) := by decide +kernel
theorem dX12_spread_42 : decode cX12_spread 42 = .ok (.istore_n 3, 1) := by decide +kernel
theorem dX12_spread_43 : decode cX12_spread 43 = .ok (.iload_n 3, 1) := by decide +kernel
theorem dX12_spread_44 : decode cX12_spread 44 = .ok (.aload_n 0, 1) := by decide +kernel
theorem dX12_spread_45 : decode cX12_spread 45 = .ok (.invokevirtual 76, 3) := by decide +kernel
theorem dX12_spread_48 : decode cX12_spread 48 = .ok (.if_icmp .ge 88, 3) := by decide +kernel
theorem dX12_spread_51 : decode cX12_spread 51 = .ok (.iconst (-1), 1) := by decide +kernel
theorem dX12_spread_52 : decode cX12_spread 52 = .ok (.istore 4, 2) := by decide +kernel
theorem dX12_spread_54 : decode cX12_spread 54 = .ok (.iconst 0, 1) := by decide +kernel
theorem dX12_spread_55 : decode cX12_spread 55 = .ok (.istore 5, 2) := by decide +kernel
theorem dX12_spread_57 : decode cX12_spread 57 = .ok (.iload 5, 2) := by decide +kernel
theorem dX12_spread_59 : decode cX12_spread 59 = .ok (.aload_n 0, 1) := by decide +kernel
theorem dX12_spread_60 : decode cX12_spread 60 = .ok (.invokevirtual 76, 3) := by decide +kernel
theorem dX12_spread_63 : decode cX12_spread 63 = .ok (.if_icmp .ge 52, 3) := by decide +kernel
theorem dX12_spread_66 : decode cX12_spread 66 = .ok (.aload_n 0, 1) := by decide +kernel
theorem dX12_spread_67 : decode cX12_spread 67 = .ok (.getfield 23, 3) := by decide +kernel
theorem dX12_spread_70 : decode cX12_spread 70 = .ok (.iload 5, 2) := by decide +kernel
theorem dX12_spread_72 : decode cX12_spread 72 = .ok (.baload, 1) := by decide +kernel
theorem dX12_spread_73 : decode cX12_spread 73 = .ok (.ifCond .ne 32, 3) := by decide +kernel
theorem dX12_spread_76 : decode cX12_spread 76 = .ok (.iload 4, 2) := by decide +kernel
theorem dX12_spread_78 : decode cX12_spread 78 = .ok (.iconst (-1), 1) := by decide +kernel
theorem dX12_spread_79 : decode cX12_spread 79 = .ok (.if_icmp .eq 21, 3) := by decide +kernel
theorem dX12_spread_82 : decode cX12_spread 82 = .ok (.aload_n 0, 1) := by decide +kernel
theorem dX12_spread_83 : decode cX12_spread 83 = .ok (.getfield 20, 3) := by decide +kernel
theorem dX12_spread_86 : decode cX12_spread 86 = .ok (.iload 5, 2) := by decide +kernel
theorem dX12_spread_88 : decode cX12_spread 88 = .ok (.laload, 1) := by decide +kernel
theorem dX12_spread_89 : decode cX12_spread 89 = .ok (.aload_n 0, 1) := by decide +kernel
theorem dX12_spread_90 : decode cX12_spread 90 = .ok (.getfield 20, 3) := by decide +kernel
theorem dX12_spread_93 : decode cX12_spread 93 = .ok (.iload 4, 2) := by decide +kernel
theorem dX12_spread_95 : decode cX12_spread 95 = .ok (.laload, 1) := by decide +kernel
theorem dX12_spread_96 : decode cX12_spread 96 = .ok (.lcmp, 1) := by decide +kernel
theorem dX12_spread_97 : decode cX12_spread 97 = .ok (.ifCond .ge 8, 3) := by decide +kernel
theorem dX12_spread_100 : decode cX12_spread 100 = .ok (.iload 5, 2) := by decide +kernel
theorem dX12_spread_102 : decode cX12_spread 102 = .ok (.goto 5, 3) := by decide +kernel
theorem dX12_spread_105 : decode cX12_spread 105 = .ok (.iload 4, 2) := by decide +kernel
theorem dX12_spread_107 : decode cX12_spread 107 = .ok (.istore 4, 2) := by decide +kernel
theorem dX12_spread_109 : decode cX12_spread 109 = .ok (.iinc 5 1, 3) := by decide +kernel
theorem dX12_spread_112 : decode cX12_spread 112 = .ok (.goto (-55), 3) := by decide +kernel
theorem dX12_spread_115 : decode cX12_spread 115 = .ok (.aload_n 0, 1) := by decide +kernel
theorem dX12_spread_116 : decode cX12_spread 116 = .ok (.getfield 23, 3) := by decide +kernel
theorem dX12_spread_119 : decode cX12_spread 119 = .ok (.iload 4, 2) := by decide +kernel
theorem dX12_spread_121 : decode cX12_spread 121 = .ok (.iconst 1, 1) := by decide +kernel
theorem dX12_spread_122 : decode cX12_spread 122 = .ok (.bastore, 1) := by decide +kernel
theorem dX12_spread_123 : decode cX12_spread 123 = .ok (.aload_n 0, 1) := by decide +kernel
theorem dX12_spread_124 : decode cX12_spread 124 = .ok (.iload 4, 2) := by decide +kernel
theorem dX12_spread_126 : decode cX12_spread 126 = .ok (.iload_n 2, 1) := by decide +kernel
theorem dX12_spread_127 : decode cX12_spread 127 = .ok (.invokevirtual 97, 3) := by decide +kernel
theorem dX12_spread_130 : decode cX12_spread 130 = .ok (.iinc 3 1, 3) := by decide +kernel
theorem dX12_spread_133 : decode cX12_spread 133 = .ok (.goto (-90), 3) := by decide +kernel
theorem dX12_spread_136 : decode cX12_spread 136 = .ok (.return_, 1) := by decide +kernel
theorem dX12_reachFrom_0 : decode cX12_reachFrom 0 = .ok (.iconst 0, 1) := by decide +kernel
theorem dX12_reachFrom_1 : decode cX12_reachFrom 1 = .ok (.istore_n 3, 1) := by decide +kernel
theorem dX12_reachFrom_2 : decode cX12_reachFrom 2 = .ok (.iload_n 3, 1) := by decide +kernel
theorem dX12_reachFrom_3 : decode cX12_reachFrom 3 = .ok (.aload_n 0, 1) := by decide +kernel
theorem dX12_reachFrom_4 : decode cX12_reachFrom 4 = .ok (.invokevirtual 76, 3) := by decide +kernel
theorem dX12_reachFrom_7 : decode cX12_reachFrom 7 = .ok (.if_icmp .ge 81, 3) := by decide +kernel
theorem dX12_reachFrom_10 : decode cX12_reachFrom 10 = .ok (.aload_n 0, 1) := by decide +kernel
theorem dX12_reachFrom_11 : decode cX12_reachFrom 11 = .ok (.iload_n 1, 1) := by decide +kernel
theorem dX12_reachFrom_12 : decode cX12_reachFrom 12 = .ok (.iload_n 3, 1) := by decide +kernel
theorem dX12_reachFrom_13 : decode cX12_reachFrom 13 = .ok (.invokevirtual 100, 3) := by decide +kernel
theorem dX12_reachFrom_16 : decode cX12_reachFrom 16 = .ok (.istore 4, 2) := by decide +kernel
theorem dX12_reachFrom_18 : decode cX12_reachFrom 18 = .ok (.aload_n 0, 1) := by decide +kernel
theorem dX12_reachFrom_19 : decode cX12_reachFrom 19 = .ok (.getfield 20, 3) := by decide +kernel
theorem dX12_reachFrom_22 : decode cX12_reachFrom 22 = .ok (.iload_n 1, 1) := by decide +kernel
theorem dX12_reachFrom_23 : decode cX12_reachFrom 23 = .ok (.laload, 1) := by decide +kernel
theorem dX12_reachFrom_24 : decode cX12_reachFrom 24 = .ok (.iload 4, 2) := by decide +kernel
theorem dX12_reachFrom_26 : decode cX12_reachFrom 26 = .ok (.i2l, 1) := by decide +kernel
theorem dX12_reachFrom_27 : decode cX12_reachFrom 27 = .ok (.aload_n 0, 1) := by decide +kernel
theorem dX12_reachFrom_28 : decode cX12_reachFrom 28 = .ok (.getfield 7, 3) := by decide +kernel
theorem dX12_reachFrom_31 : decode cX12_reachFrom 31 = .ok (.iload_n 2, 1) := by decide +kernel
theorem dX12_reachFrom_32 : decode cX12_reachFrom 32 = .ok (.iload_n 1, 1) := by decide +kernel
theorem dX12_reachFrom_33 : decode cX12_reachFrom 33 = .ok (.iadd, 1) := by decide +kernel
theorem dX12_reachFrom_34 : decode cX12_reachFrom 34 = .ok (.laload, 1) := by decide +kernel
theorem dX12_reachFrom_35 : decode cX12_reachFrom 35 = .ok (.aload_n 0, 1) := by decide +kernel
theorem dX12_reachFrom_36 : decode cX12_reachFrom 36 = .ok (.getfield 7, 3) := by decide +kernel
theorem dX12_reachFrom_39 : decode cX12_reachFrom 39 = .ok (.iload_n 2, 1) := by decide +kernel
theorem dX12_reachFrom_40 : decode cX12_reachFrom 40 = .ok (.iload_n 3, 1) := by decide +kernel
theorem dX12_reachFrom_41 : decode cX12_reachFrom 41 = .ok (.iadd, 1) := by decide +kernel
theorem dX12_reachFrom_42 : decode cX12_reachFrom 42 = .ok (.laload, 1) := by decide +kernel
theorem dX12_reachFrom_43 : decode cX12_reachFrom 43 = .ok (.ladd, 1) := by decide +kernel
theorem dX12_reachFrom_44 : decode cX12_reachFrom 44 = .ok (.lmul, 1) := by decide +kernel
theorem dX12_reachFrom_45 : decode cX12_reachFrom 45 = .ok (.ladd, 1) := by decide +kernel
theorem dX12_reachFrom_46 : decode cX12_reachFrom 46 = .ok (.lstore 5, 2) := by decide +kernel
theorem dX12_reachFrom_48 : decode cX12_reachFrom 48 = .ok (.aload_n 0, 1) := by decide +kernel
theorem dX12_reachFrom_49 : decode cX12_reachFrom 49 = .ok (.getfield 20, 3) := by decide +kernel
theorem dX12_reachFrom_52 : decode cX12_reachFrom 52 = .ok (.iload_n 3, 1) := by decide +kernel
theorem dX12_reachFrom_53 : decode cX12_reachFrom 53 = .ok (.iload 4, 2) := by decide +kernel
theorem dX12_reachFrom_55 : decode cX12_reachFrom 55 = .ok (.ifCond .le 20, 3) := by decide +kernel
theorem dX12_reachFrom_58 : decode cX12_reachFrom 58 = .ok (.lload 5, 2) := by decide +kernel
theorem dX12_reachFrom_60 : decode cX12_reachFrom 60 = .ok (.aload_n 0, 1) := by decide +kernel
theorem dX12_reachFrom_61 : decode cX12_reachFrom 61 = .ok (.getfield 20, 3) := by decide +kernel
theorem dX12_reachFrom_64 : decode cX12_reachFrom 64 = .ok (.iload_n 3, 1) := by decide +kernel
theorem dX12_reachFrom_65 : decode cX12_reachFrom 65 = .ok (.laload, 1) := by decide +kernel
theorem dX12_reachFrom_66 : decode cX12_reachFrom 66 = .ok (.lcmp, 1) := by decide +kernel
theorem dX12_reachFrom_67 : decode cX12_reachFrom 67 = .ok (.ifCond .ge 8, 3) := by decide +kernel
theorem dX12_reachFrom_70 : decode cX12_reachFrom 70 = .ok (.lload 5, 2) := by decide +kernel
theorem dX12_reachFrom_72 : decode cX12_reachFrom 72 = .ok (.goto 9, 3) := by decide +kernel
theorem dX12_reachFrom_75 : decode cX12_reachFrom 75 = .ok (.aload_n 0, 1) := by decide +kernel
theorem dX12_reachFrom_76 : decode cX12_reachFrom 76 = .ok (.getfield 20, 3) := by decide +kernel
theorem dX12_reachFrom_79 : decode cX12_reachFrom 79 = .ok (.iload_n 3, 1) := by decide +kernel
theorem dX12_reachFrom_80 : decode cX12_reachFrom 80 = .ok (.laload, 1) := by decide +kernel
theorem dX12_reachFrom_81 : decode cX12_reachFrom 81 = .ok (.lastore, 1) := by decide +kernel
theorem dX12_reachFrom_82 : decode cX12_reachFrom 82 = .ok (.iinc 3 1, 3) := by decide +kernel
theorem dX12_reachFrom_85 : decode cX12_reachFrom 85 = .ok (.goto (-83), 3) := by decide +kernel
theorem dX12_reachFrom_88 : decode cX12_reachFrom 88 = .ok (.return_, 1) := by decide +kernel
theorem dX12_first_0 : decode cX12_first 0 = .ok (.aload_n 0, 1) := by decide +kernel
theorem dX12_first_1 : decode cX12_first 1 = .ok (.iload_n 1, 1) := by decide +kernel
theorem dX12_first_2 : decode cX12_first 2 = .ok (.iconst 0, 1) := by decide +kernel
theorem dX12_first_3 : decode cX12_first 3 = .ok (.invokevirtual 83, 3) := by decide +kernel
theorem dX12_first_6 : decode cX12_first 6 = .ok (.l2i, 1) := by decide +kernel
theorem dX12_first_7 : decode cX12_first 7 = .ok (.aload_n 0, 1) := by decide +kernel
theorem dX12_first_8 : decode cX12_first 8 = .ok (.invokevirtual 69, 3) := by decide +kernel
theorem dX12_first_11 : decode cX12_first 11 = .ok (.imul, 1) := by decide +kernel
theorem dX12_first_12 : decode cX12_first 12 = .ok (.ireturn, 1) := by decide +kernel
theorem dX12_last_0 : decode cX12_last 0 = .ok (.aload_n 0, 1) := by decide +kernel
theorem dX12_last_1 : decode cX12_last 1 = .ok (.iload_n 1, 1) := by decide +kernel
theorem dX12_last_2 : decode cX12_last 2 = .ok (.iconst 1, 1) := by decide +kernel
theorem dX12_last_3 : decode cX12_last 3 = .ok (.invokevirtual 83, 3) := by decide +kernel
theorem dX12_last_6 : decode cX12_last 6 = .ok (.l2i, 1) := by decide +kernel
theorem dX12_last_7 : decode cX12_last 7 = .ok (.aload_n 0, 1) := by decide +kernel
theorem dX12_last_8 : decode cX12_last 8 = .ok (.invokevirtual 69, 3) := by decide +kernel
theorem dX12_last_11 : decode cX12_last 11 = .ok (.imul, 1) := by decide +kernel
theorem dX12_last_12 : decode cX12_last 12 = .ok (.aload_n 0, 1) := by decide +kernel
theorem dX12_last_13 : decode cX12_last 13 = .ok (.invokevirtual 69, 3) := by decide +kernel
theorem dX12_last_16 : decode cX12_last 16 = .ok (.iadd, 1) := by decide +kernel
theorem dX12_last_17 : decode cX12_last 17 = .ok (.iconst 1, 1) := by decide +kernel
theorem dX12_last_18 : decode cX12_last 18 = .ok (.isub, 1) := by decide +kernel
theorem dX12_last_19 : decode cX12_last 19 = .ok (.ireturn, 1) := by decide +kernel
theorem dX12_findWay_0 : decode cX12_findWay 0 = .ok (.aload_n 0, 1) := by decide +kernel
theorem dX12_findWay_1 : decode cX12_findWay 1 = .ok (.aload_n 0, 1) := by decide +kernel
theorem dX12_findWay_2 : decode cX12_findWay 2 = .ok (.iload_n 1, 1) := by decide +kernel
theorem dX12_findWay_3 : decode cX12_findWay 3 = .ok (.invokevirtual 104, 3) := by decide +kernel
theorem dX12_findWay_6 : decode cX12_findWay 6 = .ok (.bipush 8, 2) := by decide +kernel
theorem dX12_findWay_8 : decode cX12_findWay 8 = .ok (.invokevirtual 108, 3) := by decide +kernel
theorem dX12_findWay_11 : decode cX12_findWay 11 = .ok (.aload_n 0, 1) := by decide +kernel
theorem dX12_findWay_12 : decode cX12_findWay 12 = .ok (.iload_n 1, 1) := by decide +kernel
theorem dX12_findWay_13 : decode cX12_findWay 13 = .ok (.invokevirtual 111, 3) := by decide +kernel
theorem dX12_findWay_16 : decode cX12_findWay 16 = .ok (.istore_n 2, 1) := by decide +kernel
theorem dX12_findWay_17 : decode cX12_findWay 17 = .ok (.aload_n 0, 1) := by decide +kernel
theorem dX12_findWay_18 : decode cX12_findWay 18 = .ok (.aload_n 0, 1) := by decide +kernel
theorem dX12_findWay_19 : decode cX12_findWay 19 = .ok (.getfield 20, 3) := by decide +kernel
theorem dX12_findWay_22 : decode cX12_findWay 22 = .ok (.iload_n 2, 1) := by decide +kernel
theorem dX12_findWay_23 : decode cX12_findWay 23 = .ok (.laload, 1) := by decide +kernel
theorem dX12_findWay_24 : decode cX12_findWay 24 = .ok (.putfield 114, 3) := by decide +kernel
theorem dX12_findWay_27 : decode cX12_findWay 27 = .ok (.iconst 0, 1) := by decide +kernel
theorem dX12_findWay_28 : decode cX12_findWay 28 = .ok (.istore_n 3, 1) := by decide +kernel
theorem dX12_findWay_29 : decode cX12_findWay 29 = .ok (.iload_n 3, 1) := by decide +kernel
theorem dX12_findWay_30 : decode cX12_findWay 30 = .ok (.bipush 64, 2) := by decide +kernel
theorem dX12_findWay_32 : decode cX12_findWay 32 = .ok (.if_icmp .ge 16, 3) := by decide +kernel
theorem dX12_findWay_35 : decode cX12_findWay 35 = .ok (.aload_n 0, 1) := by decide +kernel
theorem dX12_findWay_36 : decode cX12_findWay 36 = .ok (.getfield 30, 3) := by decide +kernel
theorem dX12_findWay_39 : decode cX12_findWay 39 = .ok (.iload_n 3, 1) := by decide +kernel
theorem dX12_findWay_40 : decode cX12_findWay 40 = .ok (.iconst 0, 1) := by decide +kernel
theorem dX12_findWay_41 : decode cX12_findWay 41 = .ok (.iastore, 1) := by decide +kernel
theorem dX12_findWay_42 : decode cX12_findWay 42 = .ok (.iinc 3 1, 3) := by decide +kernel
theorem dX12_findWay_45 : decode cX12_findWay 45 = .ok (.goto (-16), 3) := by decide +kernel
theorem dX12_findWay_48 : decode cX12_findWay 48 = .ok (.aload_n 0, 1) := by decide +kernel
theorem dX12_findWay_49 : decode cX12_findWay 49 = .ok (.getfield 27, 3) := by decide +kernel
theorem dX12_findWay_52 : decode cX12_findWay 52 = .ok (.iconst 0, 1) := by decide +kernel
theorem dX12_findWay_53 : decode cX12_findWay 53 = .ok (.iload_n 2, 1) := by decide +kernel
theorem dX12_findWay_54 : decode cX12_findWay 54 = .ok (.iastore, 1) := by decide +kernel
theorem dX12_findWay_55 : decode cX12_findWay 55 = .ok (.aload_n 0, 1) := by decide +kernel
theorem dX12_findWay_56 : decode cX12_findWay 56 = .ok (.iconst 1, 1) := by decide +kernel
theorem dX12_findWay_57 : decode cX12_findWay 57 = .ok (.putfield 118, 3) := by decide +kernel
theorem dX12_findWay_60 : decode cX12_findWay 60 = .ok (.iload_n 2, 1) := by decide +kernel
theorem dX12_findWay_61 : decode cX12_findWay 61 = .ok (.aload_n 0, 1) := by decide +kernel
theorem dX12_findWay_62 : decode cX12_findWay 62 = .ok (.iload_n 1, 1) := by decide +kernel
theorem dX12_findWay_63 : decode cX12_findWay 63 = .ok (.invokevirtual 104, 3) := by decide +kernel
theorem dX12_findWay_66 : decode cX12_findWay 66 = .ok (.if_icmp .eq 119, 3) := by decide +kernel
theorem dX12_findWay_69 : decode cX12_findWay 69 = .ok (.iconst 0, 1) := by decide +kernel
theorem dX12_findWay_70 : decode cX12_findWay 70 = .ok (.istore_n 3, 1) := by decide +kernel
theorem dX12_findWay_71 : decode cX12_findWay 71 = .ok (.aload_n 0, 1) := by decide +kernel
theorem dX12_findWay_72 : decode cX12_findWay 72 = .ok (.iload_n 3, 1) := by decide +kernel
theorem dX12_findWay_73 : decode cX12_findWay 73 = .ok (.iload_n 2, 1) := by decide +kernel
theorem dX12_findWay_74 : decode cX12_findWay 74 = .ok (.invokevirtual 100, 3) := by decide +kernel
theorem dX12_findWay_77 : decode cX12_findWay 77 = .ok (.ifCond .eq 47, 3) := by decide +kernel
theorem dX12_findWay_80 : decode cX12_findWay 80 = .ok (.aload_n 0, 1) := by decide +kernel
theorem dX12_findWay_81 : decode cX12_findWay 81 = .ok (.getfield 20, 3) := by decide +kernel
theorem dX12_findWay_84 : decode cX12_findWay 84 = .ok (.iload_n 3, 1) := by decide +kernel
theorem dX12_findWay_85 : decode cX12_findWay 85 = .ok (.laload, 1) := by decide +kernel
theorem dX12_findWay_86 : decode cX12_findWay 86 = .ok (.aload_n 0, 1) := by decide +kernel
theorem dX12_findWay_87 : decode cX12_findWay 87 = .ok (.iload_n 3, 1) := by decide +kernel
theorem dX12_findWay_88 : decode cX12_findWay 88 = .ok (.iload_n 2, 1) := by decide +kernel
theorem dX12_findWay_89 : decode cX12_findWay 89 = .ok (.invokevirtual 100, 3) := by decide +kernel
theorem dX12_findWay_92 : decode cX12_findWay 92 = .ok (.i2l, 1) := by decide +kernel
theorem dX12_findWay_93 : decode cX12_findWay 93 = .ok (.aload_n 0, 1) := by decide +kernel
theorem dX12_findWay_94 : decode cX12_findWay 94 = .ok (.getfield 7, 3) := by decide +kernel
theorem dX12_findWay_97 : decode cX12_findWay 97 = .ok (.bipush 8, 2) := by decide +kernel
theorem dX12_findWay_99 : decode cX12_findWay 99 = .ok (.iload_n 3, 1) := by decide +kernel
theorem dX12_findWay_100 : decode cX12_findWay 100 = .ok (.iadd, 1) := by decide +kernel
theorem dX12_findWay_101 : decode cX12_findWay 101 = .ok (.laload, 1) := by decide +kernel
theorem dX12_findWay_102 : decode cX12_findWay 102 = .ok (.aload_n 0, 1) := by decide +kernel
theorem dX12_findWay_103 : decode cX12_findWay 103 = .ok (.getfield 7, 3) := by decide +kernel
theorem dX12_findWay_106 : decode cX12_findWay 106 = .ok (.bipush 8, 2) := by decide +kernel
theorem dX12_findWay_108 : decode cX12_findWay 108 = .ok (.iload_n 2, 1) := by decide +kernel
theorem dX12_findWay_109 : decode cX12_findWay 109 = .ok (.iadd, 1) := by decide +kernel
theorem dX12_findWay_110 : decode cX12_findWay 110 = .ok (.laload, 1) := by decide +kernel
theorem dX12_findWay_111 : decode cX12_findWay 111 = .ok (.ladd, 1) := by decide +kernel
theorem dX12_findWay_112 : decode cX12_findWay 112 = .ok (.lmul, 1) := by decide +kernel
theorem dX12_findWay_113 : decode cX12_findWay 113 = .ok (.ladd, 1) := by decide +kernel
theorem dX12_findWay_114 : decode cX12_findWay 114 = .ok (.aload_n 0, 1) := by decide +kernel
theorem dX12_findWay_115 : decode cX12_findWay 115 = .ok (.getfield 20, 3) := by decide +kernel
theorem dX12_findWay_118 : decode cX12_findWay 118 = .ok (.iload_n 2, 1) := by decide +kernel
theorem dX12_findWay_119 : decode cX12_findWay 119 = .ok (.laload, 1) := by decide +kernel
theorem dX12_findWay_120 : decode cX12_findWay 120 = .ok (.lcmp, 1) := by decide +kernel
theorem dX12_findWay_121 : decode cX12_findWay 121 = .ok (.ifCond .eq 9, 3) := by decide +kernel
theorem dX12_findWay_124 : decode cX12_findWay 124 = .ok (.iinc 3 1, 3) := by decide +kernel
theorem dX12_findWay_127 : decode cX12_findWay 127 = .ok (.goto (-56), 3) := by decide +kernel
theorem dX12_findWay_130 : decode cX12_findWay 130 = .ok (.aload_n 0, 1) := by decide +kernel
theorem dX12_findWay_131 : decode cX12_findWay 131 = .ok (.getfield 30, 3) := by decide +kernel
theorem dX12_findWay_134 : decode cX12_findWay 134 = .ok (.iload_n 2, 1) := by decide +kernel
theorem dX12_findWay_135 : decode cX12_findWay 135 = .ok (.dup2, 1) := by decide +kernel
theorem dX12_findWay_136 : decode cX12_findWay 136 = .ok (.iaload, 1) := by decide +kernel
theorem dX12_findWay_137 : decode cX12_findWay 137 = .ok (.aload_n 0, 1) := by decide +kernel
theorem dX12_findWay_138 : decode cX12_findWay 138 = .ok (.iload_n 3, 1) := by decide +kernel
theorem dX12_findWay_139 : decode cX12_findWay 139 = .ok (.iload_n 2, 1) := by decide +kernel
theorem dX12_findWay_140 : decode cX12_findWay 140 = .ok (.invokevirtual 100, 3) := by decide +kernel
theorem dX12_findWay_143 : decode cX12_findWay 143 = .ok (.iadd, 1) := by decide +kernel
theorem dX12_findWay_144 : decode cX12_findWay 144 = .ok (.iastore, 1) := by decide +kernel
theorem dX12_findWay_145 : decode cX12_findWay 145 = .ok (.aload_n 0, 1) := by decide +kernel
theorem dX12_findWay_146 : decode cX12_findWay 146 = .ok (.getfield 30, 3) := by decide +kernel
theorem dX12_findWay_149 : decode cX12_findWay 149 = .ok (.iload_n 3, 1) := by decide +kernel
theorem dX12_findWay_150 : decode cX12_findWay 150 = .ok (.dup2, 1) := by decide +kernel
theorem dX12_findWay_151 : decode cX12_findWay 151 = .ok (.iaload, 1) := by decide +kernel
theorem dX12_findWay_152 : decode cX12_findWay 152 = .ok (.aload_n 0, 1) := by decide +kernel
theorem dX12_findWay_153 : decode cX12_findWay 153 = .ok (.iload_n 3, 1) := by decide +kernel
theorem dX12_findWay_154 : decode cX12_findWay 154 = .ok (.iload_n 2, 1) := by decide +kernel
theorem dX12_findWay_155 : decode cX12_findWay 155 = .ok (.invokevirtual 100, 3) := by decide +kernel
theorem dX12_findWay_158 : decode cX12_findWay 158 = .ok (.iadd, 1) := by decide +kernel
theorem dX12_findWay_159 : decode cX12_findWay 159 = .ok (.iastore, 1) := by decide +kernel
theorem dX12_findWay_160 : decode cX12_findWay 160 = .ok (.iload_n 3, 1) := by decide +kernel
theorem dX12_findWay_161 : decode cX12_findWay 161 = .ok (.istore_n 2, 1) := by decide +kernel
theorem dX12_findWay_162 : decode cX12_findWay 162 = .ok (.aload_n 0, 1) := by decide +kernel
theorem dX12_findWay_163 : decode cX12_findWay 163 = .ok (.getfield 27, 3) := by decide +kernel
theorem dX12_findWay_166 : decode cX12_findWay 166 = .ok (.aload_n 0, 1) := by decide +kernel
theorem dX12_findWay_167 : decode cX12_findWay 167 = .ok (.getfield 118, 3) := by decide +kernel
theorem dX12_findWay_170 : decode cX12_findWay 170 = .ok (.iload_n 2, 1) := by decide +kernel
theorem dX12_findWay_171 : decode cX12_findWay 171 = .ok (.iastore, 1) := by decide +kernel
theorem dX12_findWay_172 : decode cX12_findWay 172 = .ok (.aload_n 0, 1) := by decide +kernel
theorem dX12_findWay_173 : decode cX12_findWay 173 = .ok (.dup, 1) := by decide +kernel
theorem dX12_findWay_174 : decode cX12_findWay 174 = .ok (.getfield 118, 3) := by decide +kernel
theorem dX12_findWay_177 : decode cX12_findWay 177 = .ok (.iconst 1, 1) := by decide +kernel
theorem dX12_findWay_178 : decode cX12_findWay 178 = .ok (.iadd, 1) := by decide +kernel
theorem dX12_findWay_179 : decode cX12_findWay 179 = .ok (.putfield 118, 3) := by decide +kernel
theorem dX12_findWay_182 : decode cX12_findWay 182 = .ok (.goto (-122), 3) := by decide +kernel
theorem dX12_findWay_185 : decode cX12_findWay 185 = .ok (.return_, 1) := by decide +kernel
theorem dX12_timeOf_0 : decode cX12_timeOf 0 = .ok (.aload_n 0, 1) := by decide +kernel
theorem dX12_timeOf_1 : decode cX12_timeOf 1 = .ok (.aload_n 0, 1) := by decide +kernel
theorem dX12_timeOf_2 : decode cX12_timeOf 2 = .ok (.iload_n 1, 1) := by decide +kernel
theorem dX12_timeOf_3 : decode cX12_timeOf 3 = .ok (.invokevirtual 104, 3) := by decide +kernel
theorem dX12_timeOf_6 : decode cX12_timeOf 6 = .ok (.bipush 8, 2) := by decide +kernel
theorem dX12_timeOf_8 : decode cX12_timeOf 8 = .ok (.invokevirtual 108, 3) := by decide +kernel
theorem dX12_timeOf_11 : decode cX12_timeOf 11 = .ok (.aload_n 0, 1) := by decide +kernel
theorem dX12_timeOf_12 : decode cX12_timeOf 12 = .ok (.getfield 20, 3) := by decide +kernel
theorem dX12_timeOf_15 : decode cX12_timeOf 15 = .ok (.aload_n 0, 1) := by decide +kernel
theorem dX12_timeOf_16 : decode cX12_timeOf 16 = .ok (.iload_n 1, 1) := by decide +kernel
theorem dX12_timeOf_17 : decode cX12_timeOf 17 = .ok (.invokevirtual 111, 3) := by decide +kernel
theorem dX12_timeOf_20 : decode cX12_timeOf 20 = .ok (.laload, 1) := by decide +kernel
theorem dX12_timeOf_21 : decode cX12_timeOf 21 = .ok (.lreturn, 1) := by decide +kernel
theorem dX12_residualOf_0 : decode cX12_residualOf 0 = .ok (.aload_n 0, 1) := by decide +kernel
theorem dX12_residualOf_1 : decode cX12_residualOf 1 = .ok (.iload_n 1, 1) := by decide +kernel
theorem dX12_residualOf_2 : decode cX12_residualOf 2 = .ok (.iconst 3, 1) := by decide +kernel
theorem dX12_residualOf_3 : decode cX12_residualOf 3 = .ok (.invokevirtual 83, 3) := by decide +kernel
theorem dX12_residualOf_6 : decode cX12_residualOf 6 = .ok (.aload_n 0, 1) := by decide +kernel
theorem dX12_residualOf_7 : decode cX12_residualOf 7 = .ok (.iload_n 1, 1) := by decide +kernel
theorem dX12_residualOf_8 : decode cX12_residualOf 8 = .ok (.invokevirtual 121, 3) := by decide +kernel
theorem dX12_residualOf_11 : decode cX12_residualOf 11 = .ok (.lsub, 1) := by decide +kernel
theorem dX12_residualOf_12 : decode cX12_residualOf 12 = .ok (.lreturn, 1) := by decide +kernel
theorem dX12_cover_0 : decode cX12_cover 0 = .ok (.iconst 0, 1) := by decide +kernel
theorem dX12_cover_1 : decode cX12_cover 1 = .ok (.istore_n 1, 1) := by decide +kernel
theorem dX12_cover_2 : decode cX12_cover 2 = .ok (.iload_n 1, 1) := by decide +kernel
theorem dX12_cover_3 : decode cX12_cover 3 = .ok (.bipush 64, 2) := by decide +kernel
theorem dX12_cover_5 : decode cX12_cover 5 = .ok (.if_icmp .ge 23, 3) := by decide +kernel
theorem dX12_cover_8 : decode cX12_cover 8 = .ok (.aload_n 0, 1) := by decide +kernel
theorem dX12_cover_9 : decode cX12_cover 9 = .ok (.getfield 33, 3) := by decide +kernel
theorem dX12_cover_12 : decode cX12_cover 12 = .ok (.iload_n 1, 1) := by decide +kernel
theorem dX12_cover_13 : decode cX12_cover 13 = .ok (.iconst 0, 1) := by decide +kernel
theorem dX12_cover_14 : decode cX12_cover 14 = .ok (.iastore, 1) := by decide +kernel
theorem dX12_cover_15 : decode cX12_cover 15 = .ok (.aload_n 0, 1) := by decide +kernel
theorem dX12_cover_16 : decode cX12_cover 16 = .ok (.getfield 36, 3) := by decide +kernel
theorem dX12_cover_19 : decode cX12_cover 19 = .ok (.iload_n 1, 1) := by decide +kernel
theorem dX12_cover_20 : decode cX12_cover 20 = .ok (.iconst 0, 1) := by decide +kernel
theorem dX12_cover_21 : decode cX12_cover 21 = .ok (.iastore, 1) := by decide +kernel
theorem dX12_cover_22 : decode cX12_cover 22 = .ok (.iinc 1 1, 3) := by decide +kernel
theorem dX12_cover_25 : decode cX12_cover 25 = .ok (.goto (-23), 3) := by decide +kernel
theorem dX12_cover_28 : decode cX12_cover 28 = .ok (.iconst 0, 1) := by decide +kernel
theorem dX12_cover_29 : decode cX12_cover 29 = .ok (.istore_n 1, 1) := by decide +kernel
theorem dX12_cover_30 : decode cX12_cover 30 = .ok (.iload_n 1, 1) := by decide +kernel
theorem dX12_cover_31 : decode cX12_cover 31 = .ok (.i2l, 1) := by decide +kernel
theorem dX12_cover_32 : decode cX12_cover 32 = .ok (.aload_n 0, 1) := by decide +kernel
theorem dX12_cover_33 : decode cX12_cover 33 = .ok (.getfield 7, 3) := by decide +kernel
theorem dX12_cover_36 : decode cX12_cover 36 = .ok (.bipush 7, 2) := by decide +kernel
theorem dX12_cover_38 : decode cX12_cover 38 = .ok (.laload, 1) := by decide +kernel
theorem dX12_cover_39 : decode cX12_cover 39 = .ok (.lcmp, 1) := by decide +kernel
theorem dX12_cover_40 : decode cX12_cover 40 = .ok (.ifCond .ge 74, 3) := by decide +kernel
theorem dX12_cover_43 : decode cX12_cover 43 = .ok (.aload_n 0, 1) := by decide +kernel
theorem dX12_cover_44 : decode cX12_cover 44 = .ok (.iload_n 1, 1) := by decide +kernel
theorem dX12_cover_45 : decode cX12_cover 45 = .ok (.invokevirtual 89, 3) := by decide +kernel
theorem dX12_cover_48 : decode cX12_cover 48 = .ok (.ifCond .eq 60, 3) := by decide +kernel
theorem dX12_cover_51 : decode cX12_cover 51 = .ok (.aload_n 0, 1) := by decide +kernel
theorem dX12_cover_52 : decode cX12_cover 52 = .ok (.iload_n 1, 1) := by decide +kernel
theorem dX12_cover_53 : decode cX12_cover 53 = .ok (.invokevirtual 125, 3) := by decide +kernel
theorem dX12_cover_56 : decode cX12_cover 56 = .ok (.iconst 0, 1) := by decide +kernel
theorem dX12_cover_57 : decode cX12_cover 57 = .ok (.istore_n 2, 1) := by decide +kernel
theorem dX12_cover_58 : decode cX12_cover 58 = .ok (.iload_n 2, 1) := by decide +kernel
theorem dX12_cover_59 : decode cX12_cover 59 = .ok (.bipush 64, 2) := by decide +kernel
theorem dX12_cover_61 : decode cX12_cover 61 = .ok (.if_icmp .ge 47, 3) := by decide +kernel
theorem dX12_cover_64 : decode cX12_cover 64 = .ok (.aload_n 0, 1) := by decide +kernel
theorem dX12_cover_65 : decode cX12_cover 65 = .ok (.getfield 33, 3) := by decide +kernel
theorem dX12_cover_68 : decode cX12_cover 68 = .ok (.iload_n 2, 1) := by decide +kernel
theorem dX12_cover_69 : decode cX12_cover 69 = .ok (.dup2, 1) := by decide +kernel
theorem dX12_cover_70 : decode cX12_cover 70 = .ok (.iaload, 1) := by decide +kernel
theorem dX12_cover_71 : decode cX12_cover 71 = .ok (.aload_n 0, 1) := by decide +kernel
theorem dX12_cover_72 : decode cX12_cover 72 = .ok (.getfield 30, 3) := by decide +kernel
theorem dX12_cover_75 : decode cX12_cover 75 = .ok (.iload_n 2, 1) := by decide +kernel
theorem dX12_cover_76 : decode cX12_cover 76 = .ok (.iaload, 1) := by decide +kernel
theorem dX12_cover_77 : decode cX12_cover 77 = .ok (.ifCond .le 7, 3) := by decide +kernel
theorem dX12_cover_80 : decode cX12_cover 80 = .ok (.iconst 1, 1) := by decide +kernel
theorem dX12_cover_81 : decode cX12_cover 81 = .ok (.goto 4, 3) := by decide +kernel
theorem dX12_cover_84 : decode cX12_cover 84 = .ok (.iconst 0, 1) := by decide +kernel
theorem dX12_cover_85 : decode cX12_cover 85 = .ok (.iadd, 1) := by decide +kernel
theorem dX12_cover_86 : decode cX12_cover 86 = .ok (.iastore, 1) := by decide +kernel
theorem dX12_cover_87 : decode cX12_cover 87 = .ok (.aload_n 0, 1) := by decide +kernel
theorem dX12_cover_88 : decode cX12_cover 88 = .ok (.getfield 36, 3) := by decide +kernel
theorem dX12_cover_91 : decode cX12_cover 91 = .ok (.iload_n 2, 1) := by decide +kernel
theorem dX12_cover_92 : decode cX12_cover 92 = .ok (.dup2, 1) := by decide +kernel
theorem dX12_cover_93 : decode cX12_cover 93 = .ok (.iaload, 1) := by decide +kernel
theorem dX12_cover_94 : decode cX12_cover 94 = .ok (.aload_n 0, 1) := by decide +kernel
theorem dX12_cover_95 : decode cX12_cover 95 = .ok (.getfield 30, 3) := by decide +kernel
theorem dX12_cover_98 : decode cX12_cover 98 = .ok (.iload_n 2, 1) := by decide +kernel
theorem dX12_cover_99 : decode cX12_cover 99 = .ok (.iaload, 1) := by decide +kernel
theorem dX12_cover_100 : decode cX12_cover 100 = .ok (.iadd, 1) := by decide +kernel
theorem dX12_cover_101 : decode cX12_cover 101 = .ok (.iastore, 1) := by decide +kernel
theorem dX12_cover_102 : decode cX12_cover 102 = .ok (.iinc 2 1, 3) := by decide +kernel
theorem dX12_cover_105 : decode cX12_cover 105 = .ok (.goto (-47), 3) := by decide +kernel
theorem dX12_cover_108 : decode cX12_cover 108 = .ok (.iinc 1 1, 3) := by decide +kernel
theorem dX12_cover_111 : decode cX12_cover 111 = .ok (.goto (-81), 3) := by decide +kernel
theorem dX12_cover_114 : decode cX12_cover 114 = .ok (.return_, 1) := by decide +kernel
theorem dX12_beginAnew_0 : decode cX12_beginAnew 0 = .ok (.aload_n 0, 1) := by decide +kernel
theorem dX12_beginAnew_1 : decode cX12_beginAnew 1 = .ok (.getfield 7, 3) := by decide +kernel
theorem dX12_beginAnew_4 : decode cX12_beginAnew 4 = .ok (.iconst 0, 1) := by decide +kernel
theorem dX12_beginAnew_5 : decode cX12_beginAnew 5 = .ok (.iload_n 1, 1) := by decide +kernel
theorem dX12_beginAnew_6 : decode cX12_beginAnew 6 = .ok (.i2l, 1) := by decide +kernel
theorem dX12_beginAnew_7 : decode cX12_beginAnew 7 = .ok (.lastore, 1) := by decide +kernel
theorem dX12_beginAnew_8 : decode cX12_beginAnew 8 = .ok (.aload_n 0, 1) := by decide +kernel
theorem dX12_beginAnew_9 : decode cX12_beginAnew 9 = .ok (.getfield 7, 3) := by decide +kernel
theorem dX12_beginAnew_12 : decode cX12_beginAnew 12 = .ok (.iconst 1, 1) := by decide +kernel
theorem dX12_beginAnew_13 : decode cX12_beginAnew 13 = .ok (.iload_n 2, 1) := by decide +kernel
theorem dX12_beginAnew_14 : decode cX12_beginAnew 14 = .ok (.i2l, 1) := by decide +kernel
theorem dX12_beginAnew_15 : decode cX12_beginAnew 15 = .ok (.lastore, 1) := by decide +kernel
theorem dX12_beginAnew_16 : decode cX12_beginAnew 16 = .ok (.aload_n 0, 1) := by decide +kernel
theorem dX12_beginAnew_17 : decode cX12_beginAnew 17 = .ok (.getfield 7, 3) := by decide +kernel
theorem dX12_beginAnew_20 : decode cX12_beginAnew 20 = .ok (.bipush 7, 2) := by decide +kernel
theorem dX12_beginAnew_22 : decode cX12_beginAnew 22 = .ok (.lconst 0, 1) := by decide +kernel
theorem dX12_beginAnew_23 : decode cX12_beginAnew 23 = .ok (.lastore, 1) := by decide +kernel
theorem dX12_beginAnew_24 : decode cX12_beginAnew 24 = .ok (.bipush 8, 2) := by decide +kernel
theorem dX12_beginAnew_26 : decode cX12_beginAnew 26 = .ok (.istore_n 3, 1) := by decide +kernel
theorem dX12_beginAnew_27 : decode cX12_beginAnew 27 = .ok (.iload_n 3, 1) := by decide +kernel
theorem dX12_beginAnew_28 : decode cX12_beginAnew 28 = .ok (.sipush 136, 3) := by decide +kernel
theorem dX12_beginAnew_31 : decode cX12_beginAnew 31 = .ok (.if_icmp .ge 18, 3) := by decide +kernel
theorem dX12_beginAnew_34 : decode cX12_beginAnew 34 = .ok (.aload_n 0, 1) := by decide +kernel
theorem dX12_beginAnew_35 : decode cX12_beginAnew 35 = .ok (.getfield 7, 3) := by decide +kernel
theorem dX12_beginAnew_38 : decode cX12_beginAnew 38 = .ok (.iload_n 3, 1) := by decide +kernel
theorem dX12_beginAnew_39 : decode cX12_beginAnew 39 = .ok (.ldc2_w 56, 3) := by decide +kernel
theorem dX12_beginAnew_42 : decode cX12_beginAnew 42 = .ok (.lastore, 1) := by decide +kernel
theorem dX12_beginAnew_43 : decode cX12_beginAnew 43 = .ok (.iinc 3 1, 3) := by decide +kernel
theorem dX12_beginAnew_46 : decode cX12_beginAnew 46 = .ok (.goto (-19), 3) := by decide +kernel
theorem dX12_beginAnew_49 : decode cX12_beginAnew 49 = .ok (.return_, 1) := by decide +kernel
theorem dX12_begin_0 : decode cX12_begin 0 = .ok (.aload_n 0, 1) := by decide +kernel
theorem dX12_begin_1 : decode cX12_begin 1 = .ok (.iload_n 1, 1) := by decide +kernel
theorem dX12_begin_2 : decode cX12_begin 2 = .ok (.i2l, 1) := by decide +kernel
theorem dX12_begin_3 : decode cX12_begin 3 = .ok (.ldc2_w 93, 3) := by decide +kernel
theorem dX12_begin_6 : decode cX12_begin 6 = .ok (.ldc2_w 129, 3) := by decide +kernel
theorem dX12_begin_9 : decode cX12_begin 9 = .ok (.invokestatic 79, 3) := by decide +kernel
theorem dX12_begin_12 : decode cX12_begin 12 = .ok (.ifCond .eq 21, 3) := by decide +kernel
theorem dX12_begin_15 : decode cX12_begin 15 = .ok (.iload_n 2, 1) := by decide +kernel
theorem dX12_begin_16 : decode cX12_begin 16 = .ok (.i2l, 1) := by decide +kernel
theorem dX12_begin_17 : decode cX12_begin 17 = .ok (.ldc2_w 93, 3) := by decide +kernel
theorem dX12_begin_20 : decode cX12_begin 20 = .ok (.ldc2_w 129, 3) := by decide +kernel
theorem dX12_begin_23 : decode cX12_begin 23 = .ok (.invokestatic 79, 3) := by decide +kernel
theorem dX12_begin_26 : decode cX12_begin 26 = .ok (.ifCond .eq 7, 3) := by decide +kernel
theorem dX12_begin_29 : decode cX12_begin 29 = .ok (.iconst 0, 1) := by decide +kernel
theorem dX12_begin_30 : decode cX12_begin 30 = .ok (.goto 4, 3) := by decide +kernel
theorem dX12_begin_33 : decode cX12_begin 33 = .ok (.iconst 1, 1) := by decide +kernel
theorem dX12_begin_34 : decode cX12_begin 34 = .ok (.putfield 62, 3) := by decide +kernel
theorem dX12_begin_37 : decode cX12_begin 37 = .ok (.aload_n 0, 1) := by decide +kernel
theorem dX12_begin_38 : decode cX12_begin 38 = .ok (.getfield 62, 3) := by decide +kernel
theorem dX12_begin_41 : decode cX12_begin 41 = .ok (.ifCond .eq 5, 3) := by decide +kernel
theorem dX12_begin_44 : decode cX12_begin 44 = .ok (.iconst 0, 1) := by decide +kernel
theorem dX12_begin_45 : decode cX12_begin 45 = .ok (.ireturn, 1) := by decide +kernel
theorem dX12_begin_46 : decode cX12_begin 46 = .ok (.aload_n 0, 1) := by decide +kernel
theorem dX12_begin_47 : decode cX12_begin 47 = .ok (.invokevirtual 131, 3) := by decide +kernel
theorem dX12_begin_50 : decode cX12_begin 50 = .ok (.aload_n 0, 1) := by decide +kernel
theorem dX12_begin_51 : decode cX12_begin 51 = .ok (.iload_n 1, 1) := by decide +kernel
theorem dX12_begin_52 : decode cX12_begin 52 = .ok (.iload_n 2, 1) := by decide +kernel
theorem dX12_begin_53 : decode cX12_begin 53 = .ok (.invokevirtual 58, 3) := by decide +kernel
theorem dX12_begin_56 : decode cX12_begin 56 = .ok (.aload_n 0, 1) := by decide +kernel
theorem dX12_begin_57 : decode cX12_begin 57 = .ok (.invokevirtual 76, 3) := by decide +kernel
theorem dX12_begin_60 : decode cX12_begin 60 = .ok (.ireturn, 1) := by decide +kernel
theorem dX12_lay_0 : decode cX12_lay 0 = .ok (.aload_n 0, 1) := by decide +kernel
theorem dX12_lay_1 : decode cX12_lay 1 = .ok (.aload_n 0, 1) := by decide +kernel
theorem dX12_lay_2 : decode cX12_lay 2 = .ok (.iload_n 2, 1) := by decide +kernel
theorem dX12_lay_3 : decode cX12_lay 3 = .ok (.invokevirtual 134, 3) := by decide +kernel
theorem dX12_lay_6 : decode cX12_lay 6 = .ok (.ifCond .ne 7, 3) := by decide +kernel
theorem dX12_lay_9 : decode cX12_lay 9 = .ok (.iconst 1, 1) := by decide +kernel
theorem dX12_lay_10 : decode cX12_lay 10 = .ok (.goto 15, 3) := by decide +kernel
theorem dX12_lay_13 : decode cX12_lay 13 = .ok (.iload_n 3, 1) := by decide +kernel
theorem dX12_lay_14 : decode cX12_lay 14 = .ok (.invokestatic 137, 3) := by decide +kernel
theorem dX12_lay_17 : decode cX12_lay 17 = .ok (.ifCond .eq 7, 3) := by decide +kernel
theorem dX12_lay_20 : decode cX12_lay 20 = .ok (.iconst 0, 1) := by decide +kernel
theorem dX12_lay_21 : decode cX12_lay 21 = .ok (.goto 4, 3) := by decide +kernel
theorem dX12_lay_24 : decode cX12_lay 24 = .ok (.iconst 2, 1) := by decide +kernel
theorem dX12_lay_25 : decode cX12_lay 25 = .ok (.putfield 62, 3) := by decide +kernel
theorem dX12_lay_28 : decode cX12_lay 28 = .ok (.aload_n 0, 1) := by decide +kernel
theorem dX12_lay_29 : decode cX12_lay 29 = .ok (.getfield 62, 3) := by decide +kernel
theorem dX12_lay_32 : decode cX12_lay 32 = .ok (.ifCond .eq 5, 3) := by decide +kernel
theorem dX12_lay_35 : decode cX12_lay 35 = .ok (.iconst 0, 1) := by decide +kernel
theorem dX12_lay_36 : decode cX12_lay 36 = .ok (.ireturn, 1) := by decide +kernel
theorem dX12_lay_37 : decode cX12_lay 37 = .ok (.aload_n 0, 1) := by decide +kernel
theorem dX12_lay_38 : decode cX12_lay 38 = .ok (.getfield 7, 3) := by decide +kernel
theorem dX12_lay_41 : decode cX12_lay 41 = .ok (.iload_n 1, 1) := by decide +kernel
theorem dX12_lay_42 : decode cX12_lay 42 = .ok (.iload_n 2, 1) := by decide +kernel
theorem dX12_lay_43 : decode cX12_lay 43 = .ok (.iadd, 1) := by decide +kernel
theorem dX12_lay_44 : decode cX12_lay 44 = .ok (.laload, 1) := by decide +kernel
theorem dX12_lay_45 : decode cX12_lay 45 = .ok (.l2i, 1) := by decide +kernel
theorem dX12_lay_46 : decode cX12_lay 46 = .ok (.istore 4, 2) := by decide +kernel
theorem dX12_lay_48 : decode cX12_lay 48 = .ok (.aload_n 0, 1) := by decide +kernel
theorem dX12_lay_49 : decode cX12_lay 49 = .ok (.getfield 7, 3) := by decide +kernel
theorem dX12_lay_52 : decode cX12_lay 52 = .ok (.iload_n 1, 1) := by decide +kernel
theorem dX12_lay_53 : decode cX12_lay 53 = .ok (.iload_n 2, 1) := by decide +kernel
theorem dX12_lay_54 : decode cX12_lay 54 = .ok (.iadd, 1) := by decide +kernel
theorem dX12_lay_55 : decode cX12_lay 55 = .ok (.iload_n 3, 1) := by decide +kernel
theorem dX12_lay_56 : decode cX12_lay 56 = .ok (.i2l, 1) := by decide +kernel
theorem dX12_lay_57 : decode cX12_lay 57 = .ok (.lastore, 1) := by decide +kernel
theorem dX12_lay_58 : decode cX12_lay 58 = .ok (.iload 4, 2) := by decide +kernel
theorem dX12_lay_60 : decode cX12_lay 60 = .ok (.ireturn, 1) := by decide +kernel
theorem dX12_setCell_0 : decode cX12_setCell 0 = .ok (.aload_n 0, 1) := by decide +kernel
theorem dX12_setCell_1 : decode cX12_setCell 1 = .ok (.aload_n 0, 1) := by decide +kernel
theorem dX12_setCell_2 : decode cX12_setCell 2 = .ok (.iload_n 1, 1) := by decide +kernel
theorem dX12_setCell_3 : decode cX12_setCell 3 = .ok (.invokevirtual 134, 3) := by decide +kernel
theorem dX12_setCell_6 : decode cX12_setCell 6 = .ok (.ifCond .ne 7, 3) := by decide +kernel
theorem dX12_setCell_9 : decode cX12_setCell 9 = .ok (.iconst 1, 1) := by decide +kernel
theorem dX12_setCell_10 : decode cX12_setCell 10 = .ok (.goto 15, 3) := by decide +kernel
theorem dX12_setCell_13 : decode cX12_setCell 13 = .ok (.iload_n 2, 1) := by decide +kernel
theorem dX12_setCell_14 : decode cX12_setCell 14 = .ok (.invokestatic 137, 3) := by decide +kernel
theorem dX12_setCell_17 : decode cX12_setCell 17 = .ok (.ifCond .eq 7, 3) := by decide +kernel
theorem dX12_setCell_20 : decode cX12_setCell 20 = .ok (.iconst 0, 1) := by decide +kernel
theorem dX12_setCell_21 : decode cX12_setCell 21 = .ok (.goto 4, 3) := by decide +kernel
theorem dX12_setCell_24 : decode cX12_setCell 24 = .ok (.iconst 2, 1) := by decide +kernel
theorem dX12_setCell_25 : decode cX12_setCell 25 = .ok (.putfield 62, 3) := by decide +kernel
theorem dX12_setCell_28 : decode cX12_setCell 28 = .ok (.aload_n 0, 1) := by decide +kernel
theorem dX12_setCell_29 : decode cX12_setCell 29 = .ok (.getfield 62, 3) := by decide +kernel
theorem dX12_setCell_32 : decode cX12_setCell 32 = .ok (.ifCond .eq 5, 3) := by decide +kernel
theorem dX12_setCell_35 : decode cX12_setCell 35 = .ok (.iconst 0, 1) := by decide +kernel
theorem dX12_setCell_36 : decode cX12_setCell 36 = .ok (.ireturn, 1) := by decide +kernel
theorem dX12_setCell_37 : decode cX12_setCell 37 = .ok (.aload_n 0, 1) := by decide +kernel
theorem dX12_setCell_38 : decode cX12_setCell 38 = .ok (.invokevirtual 131, 3) := by decide +kernel
theorem dX12_setCell_41 : decode cX12_setCell 41 = .ok (.aload_n 0, 1) := by decide +kernel
theorem dX12_setCell_42 : decode cX12_setCell 42 = .ok (.bipush 8, 2) := by decide +kernel
theorem dX12_setCell_44 : decode cX12_setCell 44 = .ok (.iload_n 1, 1) := by decide +kernel
theorem dX12_setCell_45 : decode cX12_setCell 45 = .ok (.iload_n 2, 1) := by decide +kernel
theorem dX12_setCell_46 : decode cX12_setCell 46 = .ok (.invokevirtual 140, 3) := by decide +kernel
theorem dX12_setCell_49 : decode cX12_setCell 49 = .ok (.ireturn, 1) := by decide +kernel
theorem dX12_setTrue_0 : decode cX12_setTrue 0 = .ok (.aload_n 0, 1) := by decide +kernel
theorem dX12_setTrue_1 : decode cX12_setTrue 1 = .ok (.aload_n 0, 1) := by decide +kernel
theorem dX12_setTrue_2 : decode cX12_setTrue 2 = .ok (.iload_n 1, 1) := by decide +kernel
theorem dX12_setTrue_3 : decode cX12_setTrue 3 = .ok (.invokevirtual 134, 3) := by decide +kernel
theorem dX12_setTrue_6 : decode cX12_setTrue 6 = .ok (.ifCond .ne 7, 3) := by decide +kernel
theorem dX12_setTrue_9 : decode cX12_setTrue 9 = .ok (.iconst 1, 1) := by decide +kernel
theorem dX12_setTrue_10 : decode cX12_setTrue 10 = .ok (.goto 15, 3) := by decide +kernel
theorem dX12_setTrue_13 : decode cX12_setTrue 13 = .ok (.iload_n 2, 1) := by decide +kernel
theorem dX12_setTrue_14 : decode cX12_setTrue 14 = .ok (.invokestatic 137, 3) := by decide +kernel
theorem dX12_setTrue_17 : decode cX12_setTrue 17 = .ok (.ifCond .eq 7, 3) := by decide +kernel
theorem dX12_setTrue_20 : decode cX12_setTrue 20 = .ok (.iconst 0, 1) := by decide +kernel
theorem dX12_setTrue_21 : decode cX12_setTrue 21 = .ok (.goto 4, 3) := by decide +kernel
theorem dX12_setTrue_24 : decode cX12_setTrue 24 = .ok (.iconst 2, 1) := by decide +kernel
theorem dX12_setTrue_25 : decode cX12_setTrue 25 = .ok (.putfield 62, 3) := by decide +kernel
theorem dX12_setTrue_28 : decode cX12_setTrue 28 = .ok (.aload_n 0, 1) := by decide +kernel
theorem dX12_setTrue_29 : decode cX12_setTrue 29 = .ok (.getfield 62, 3) := by decide +kernel
theorem dX12_setTrue_32 : decode cX12_setTrue 32 = .ok (.ifCond .eq 5, 3) := by decide +kernel
theorem dX12_setTrue_35 : decode cX12_setTrue 35 = .ok (.iconst 0, 1) := by decide +kernel
theorem dX12_setTrue_36 : decode cX12_setTrue 36 = .ok (.ireturn, 1) := by decide +kernel
theorem dX12_setTrue_37 : decode cX12_setTrue 37 = .ok (.aload_n 0, 1) := by decide +kernel
theorem dX12_setTrue_38 : decode cX12_setTrue 38 = .ok (.invokevirtual 131, 3) := by decide +kernel
theorem dX12_setTrue_41 : decode cX12_setTrue 41 = .ok (.aload_n 0, 1) := by decide +kernel
theorem dX12_setTrue_42 : decode cX12_setTrue 42 = .ok (.bipush 72, 2) := by decide +kernel
theorem dX12_setTrue_44 : decode cX12_setTrue 44 = .ok (.iload_n 1, 1) := by decide +kernel
theorem dX12_setTrue_45 : decode cX12_setTrue 45 = .ok (.iload_n 2, 1) := by decide +kernel
theorem dX12_setTrue_46 : decode cX12_setTrue 46 = .ok (.invokevirtual 140, 3) := by decide +kernel
theorem dX12_setTrue_49 : decode cX12_setTrue 49 = .ok (.ireturn, 1) := by decide +kernel
theorem dX12_change_0 : decode cX12_change 0 = .ok (.aload_n 0, 1) := by decide +kernel
theorem dX12_change_1 : decode cX12_change 1 = .ok (.getfield 7, 3) := by decide +kernel
theorem dX12_change_4 : decode cX12_change 4 = .ok (.iload_n 1, 1) := by decide +kernel
theorem dX12_change_5 : decode cX12_change 5 = .ok (.laload, 1) := by decide +kernel
theorem dX12_change_6 : decode cX12_change 6 = .ok (.lload_n 2, 1) := by decide +kernel
theorem dX12_change_7 : decode cX12_change 7 = .ok (.lcmp, 1) := by decide +kernel
theorem dX12_change_8 : decode cX12_change 8 = .ok (.ifCond .ne 7, 3) := by decide +kernel
theorem dX12_change_11 : decode cX12_change 11 = .ok (.iconst 0, 1) := by decide +kernel
theorem dX12_change_12 : decode cX12_change 12 = .ok (.goto 4, 3) := by decide +kernel
theorem dX12_change_15 : decode cX12_change 15 = .ok (.iconst 1, 1) := by decide +kernel
theorem dX12_change_16 : decode cX12_change 16 = .ok (.istore 4, 2) := by decide +kernel
theorem dX12_change_18 : decode cX12_change 18 = .ok (.aload_n 0, 1) := by decide +kernel
theorem dX12_change_19 : decode cX12_change 19 = .ok (.getfield 7, 3) := by decide +kernel
theorem dX12_change_22 : decode cX12_change 22 = .ok (.iload_n 1, 1) := by decide +kernel
theorem dX12_change_23 : decode cX12_change 23 = .ok (.lload_n 2, 1) := by decide +kernel
theorem dX12_change_24 : decode cX12_change 24 = .ok (.lastore, 1) := by decide +kernel
theorem dX12_change_25 : decode cX12_change 25 = .ok (.iload 4, 2) := by decide +kernel
theorem dX12_change_27 : decode cX12_change 27 = .ok (.ireturn, 1) := by decide +kernel
theorem dX12_held_0 : decode cX12_held 0 = .ok (.lload_n 0, 1) := by decide +kernel
theorem dX12_held_1 : decode cX12_held 1 = .ok (.lload_n 2, 1) := by decide +kernel
theorem dX12_held_2 : decode cX12_held 2 = .ok (.lcmp, 1) := by decide +kernel
theorem dX12_held_3 : decode cX12_held 3 = .ok (.ifCond .ge 7, 3) := by decide +kernel
theorem dX12_held_6 : decode cX12_held 6 = .ok (.lload_n 2, 1) := by decide +kernel
theorem dX12_held_7 : decode cX12_held 7 = .ok (.goto 16, 3) := by decide +kernel
theorem dX12_held_10 : decode cX12_held 10 = .ok (.lload_n 0, 1) := by decide +kernel
theorem dX12_held_11 : decode cX12_held 11 = .ok (.lload 4, 2) := by decide +kernel
theorem dX12_held_13 : decode cX12_held 13 = .ok (.lcmp, 1) := by decide +kernel
theorem dX12_held_14 : decode cX12_held 14 = .ok (.ifCond .le 8, 3) := by decide +kernel
theorem dX12_held_17 : decode cX12_held 17 = .ok (.lload 4, 2) := by decide +kernel
theorem dX12_held_19 : decode cX12_held 19 = .ok (.goto 4, 3) := by decide +kernel
theorem dX12_held_22 : decode cX12_held 22 = .ok (.lload_n 0, 1) := by decide +kernel
theorem dX12_held_23 : decode cX12_held 23 = .ok (.lreturn, 1) := by decide +kernel
theorem dX12_slope_0 : decode cX12_slope 0 = .ok (.aload_n 0, 1) := by decide +kernel
theorem dX12_slope_1 : decode cX12_slope 1 = .ok (.iload_n 2, 1) := by decide +kernel
theorem dX12_slope_2 : decode cX12_slope 2 = .ok (.i2l, 1) := by decide +kernel
theorem dX12_slope_3 : decode cX12_slope 3 = .ok (.lconst 1, 1) := by decide +kernel
theorem dX12_slope_4 : decode cX12_slope 4 = .ok (.ldc2_w 54, 3) := by decide +kernel
theorem dX12_slope_7 : decode cX12_slope 7 = .ok (.invokestatic 79, 3) := by decide +kernel
theorem dX12_slope_10 : decode cX12_slope 10 = .ok (.ifCond .eq 36, 3) := by decide +kernel
theorem dX12_slope_13 : decode cX12_slope 13 = .ok (.iload_n 3, 1) := by decide +kernel
theorem dX12_slope_14 : decode cX12_slope 14 = .ok (.i2l, 1) := by decide +kernel
theorem dX12_slope_15 : decode cX12_slope 15 = .ok (.ldc2_w 144, 3) := by decide +kernel
theorem dX12_slope_18 : decode cX12_slope 18 = .ok (.ldc2_w 146, 3) := by decide +kernel
theorem dX12_slope_21 : decode cX12_slope 21 = .ok (.invokestatic 79, 3) := by decide +kernel
theorem dX12_slope_24 : decode cX12_slope 24 = .ok (.ifCond .eq 22, 3) := by decide +kernel
theorem dX12_slope_27 : decode cX12_slope 27 = .ok (.iload 4, 2) := by decide +kernel
theorem dX12_slope_29 : decode cX12_slope 29 = .ok (.i2l, 1) := by decide +kernel
theorem dX12_slope_30 : decode cX12_slope 30 = .ok (.ldc2_w 144, 3) := by decide +kernel
theorem dX12_slope_33 : decode cX12_slope 33 = .ok (.ldc2_w 146, 3) := by decide +kernel
theorem dX12_slope_36 : decode cX12_slope 36 = .ok (.invokestatic 79, 3) := by decide +kernel
theorem dX12_slope_39 : decode cX12_slope 39 = .ok (.ifCond .eq 7, 3) := by decide +kernel
theorem dX12_slope_42 : decode cX12_slope 42 = .ok (.iconst 0, 1) := by decide +kernel
theorem dX12_slope_43 : decode cX12_slope 43 = .ok (.goto 4, 3) := by decide +kernel
theorem dX12_slope_46 : decode cX12_slope 46 = .ok (.iconst 1, 1) := by decide +kernel
theorem dX12_slope_47 : decode cX12_slope 47 = .ok (.putfield 62, 3) := by decide +kernel
theorem dX12_slope_50 : decode cX12_slope 50 = .ok (.aload_n 0, 1) := by decide +kernel
theorem dX12_slope_51 : decode cX12_slope 51 = .ok (.getfield 62, 3) := by decide +kernel
theorem dX12_slope_54 : decode cX12_slope 54 = .ok (.ifCond .eq 5, 3) := by decide +kernel
theorem dX12_slope_57 : decode cX12_slope 57 = .ok (.iconst 0, 1) := by decide +kernel
theorem dX12_slope_58 : decode cX12_slope 58 = .ok (.ireturn, 1) := by decide +kernel
theorem dX12_slope_59 : decode cX12_slope 59 = .ok (.aload_n 0, 1) := by decide +kernel
theorem dX12_slope_60 : decode cX12_slope 60 = .ok (.invokevirtual 131, 3) := by decide +kernel
theorem dX12_slope_63 : decode cX12_slope 63 = .ok (.iconst 0, 1) := by decide +kernel
theorem dX12_slope_64 : decode cX12_slope 64 = .ok (.istore 5, 2) := by decide +kernel
theorem dX12_slope_66 : decode cX12_slope 66 = .ok (.iconst 0, 1) := by decide +kernel
theorem dX12_slope_67 : decode cX12_slope 67 = .ok (.istore 6, 2) := by decide +kernel
theorem dX12_slope_69 : decode cX12_slope 69 = .ok (.iload 6, 2) := by decide +kernel
theorem dX12_slope_71 : decode cX12_slope 71 = .ok (.aload_n 0, 1) := by decide +kernel
theorem dX12_slope_72 : decode cX12_slope 72 = .ok (.invokevirtual 76, 3) := by decide +kernel
theorem dX12_slope_75 : decode cX12_slope 75 = .ok (.if_icmp .ge 70, 3) := by decide +kernel
theorem dX12_slope_78 : decode cX12_slope 78 = .ok (.iload_n 2, 1) := by decide +kernel
theorem dX12_slope_79 : decode cX12_slope 79 = .ok (.i2l, 1) := by decide +kernel
theorem dX12_slope_80 : decode cX12_slope 80 = .ok (.iload_n 3, 1) := by decide +kernel
theorem dX12_slope_81 : decode cX12_slope 81 = .ok (.i2l, 1) := by decide +kernel
theorem dX12_slope_82 : decode cX12_slope 82 = .ok (.iload 6, 2) := by decide +kernel
theorem dX12_slope_84 : decode cX12_slope 84 = .ok (.aload_n 0, 1) := by decide +kernel
theorem dX12_slope_85 : decode cX12_slope 85 = .ok (.invokevirtual 69, 3) := by decide +kernel
theorem dX12_slope_88 : decode cX12_slope 88 = .ok (.irem, 1) := by decide +kernel
theorem dX12_slope_89 : decode cX12_slope 89 = .ok (.i2l, 1) := by decide +kernel
theorem dX12_slope_90 : decode cX12_slope 90 = .ok (.lmul, 1) := by decide +kernel
theorem dX12_slope_91 : decode cX12_slope 91 = .ok (.ladd, 1) := by decide +kernel
theorem dX12_slope_92 : decode cX12_slope 92 = .ok (.iload 4, 2) := by decide +kernel
theorem dX12_slope_94 : decode cX12_slope 94 = .ok (.i2l, 1) := by decide +kernel
theorem dX12_slope_95 : decode cX12_slope 95 = .ok (.iload 6, 2) := by decide +kernel
theorem dX12_slope_97 : decode cX12_slope 97 = .ok (.aload_n 0, 1) := by decide +kernel
theorem dX12_slope_98 : decode cX12_slope 98 = .ok (.invokevirtual 69, 3) := by decide +kernel
theorem dX12_slope_101 : decode cX12_slope 101 = .ok (.idiv, 1) := by decide +kernel
theorem dX12_slope_102 : decode cX12_slope 102 = .ok (.i2l, 1) := by decide +kernel
theorem dX12_slope_103 : decode cX12_slope 103 = .ok (.lmul, 1) := by decide +kernel
theorem dX12_slope_104 : decode cX12_slope 104 = .ok (.ladd, 1) := by decide +kernel
theorem dX12_slope_105 : decode cX12_slope 105 = .ok (.lstore 7, 2) := by decide +kernel
theorem dX12_slope_107 : decode cX12_slope 107 = .ok (.iload 5, 2) := by decide +kernel
theorem dX12_slope_109 : decode cX12_slope 109 = .ok (.aload_n 0, 1) := by decide +kernel
theorem dX12_slope_110 : decode cX12_slope 110 = .ok (.iload_n 1, 1) := by decide +kernel
theorem dX12_slope_111 : decode cX12_slope 111 = .ok (.ifCond .eq 8, 3) := by decide +kernel
theorem dX12_slope_114 : decode cX12_slope 114 = .ok (.bipush 72, 2) := by decide +kernel
theorem dX12_slope_116 : decode cX12_slope 116 = .ok (.goto 5, 3) := by decide +kernel
theorem dX12_slope_119 : decode cX12_slope 119 = .ok (.bipush 8, 2) := by decide +kernel
theorem dX12_slope_121 : decode cX12_slope 121 = .ok (.iload 6, 2) := by decide +kernel
theorem dX12_slope_123 : decode cX12_slope 123 = .ok (.iadd, 1) := by decide +kernel
theorem dX12_slope_124 : decode cX12_slope 124 = .ok (.lload 7, 2) := by decide +kernel
theorem dX12_slope_126 : decode cX12_slope 126 = .ok (.lconst 1, 1) := by decide +kernel
theorem dX12_slope_127 : decode cX12_slope 127 = .ok (.ldc2_w 54, 3) := by decide +kernel
theorem dX12_slope_130 : decode cX12_slope 130 = .ok (.invokestatic 148, 3) := by decide +kernel
theorem dX12_slope_133 : decode cX12_slope 133 = .ok (.invokevirtual 152, 3) := by decide +kernel
theorem dX12_slope_136 : decode cX12_slope 136 = .ok (.iadd, 1) := by decide +kernel
theorem dX12_slope_137 : decode cX12_slope 137 = .ok (.istore 5, 2) := by decide +kernel
theorem dX12_slope_139 : decode cX12_slope 139 = .ok (.iinc 6 1, 3) := by decide +kernel
theorem dX12_slope_142 : decode cX12_slope 142 = .ok (.goto (-73), 3) := by decide +kernel
theorem dX12_slope_145 : decode cX12_slope 145 = .ok (.iload 5, 2) := by decide +kernel
theorem dX12_slope_147 : decode cX12_slope 147 = .ok (.ireturn, 1) := by decide +kernel
theorem dX12_setBounds_0 : decode cX12_setBounds 0 = .ok (.aload_n 0, 1) := by decide +kernel
theorem dX12_setBounds_1 : decode cX12_setBounds 1 = .ok (.iload_n 1, 1) := by decide +kernel
theorem dX12_setBounds_2 : decode cX12_setBounds 2 = .ok (.i2l, 1) := by decide +kernel
theorem dX12_setBounds_3 : decode cX12_setBounds 3 = .ok (.lconst 1, 1) := by decide +kernel
theorem dX12_setBounds_4 : decode cX12_setBounds 4 = .ok (.iload_n 2, 1) := by decide +kernel
theorem dX12_setBounds_5 : decode cX12_setBounds 5 = .ok (.i2l, 1) := by decide +kernel
theorem dX12_setBounds_6 : decode cX12_setBounds 6 = .ok (.invokestatic 79, 3) := by decide +kernel
theorem dX12_setBounds_9 : decode cX12_setBounds 9 = .ok (.ifCond .eq 19, 3) := by decide +kernel
theorem dX12_setBounds_12 : decode cX12_setBounds 12 = .ok (.iload_n 2, 1) := by decide +kernel
theorem dX12_setBounds_13 : decode cX12_setBounds 13 = .ok (.i2l, 1) := by decide +kernel
theorem dX12_setBounds_14 : decode cX12_setBounds 14 = .ok (.lconst 1, 1) := by decide +kernel
theorem dX12_setBounds_15 : decode cX12_setBounds 15 = .ok (.ldc2_w 54, 3) := by decide +kernel
theorem dX12_setBounds_18 : decode cX12_setBounds 18 = .ok (.invokestatic 79, 3) := by decide +kernel
theorem dX12_setBounds_21 : decode cX12_setBounds 21 = .ok (.ifCond .eq 7, 3) := by decide +kernel
theorem dX12_setBounds_24 : decode cX12_setBounds 24 = .ok (.iconst 0, 1) := by decide +kernel
theorem dX12_setBounds_25 : decode cX12_setBounds 25 = .ok (.goto 4, 3) := by decide +kernel
theorem dX12_setBounds_28 : decode cX12_setBounds 28 = .ok (.iconst 1, 1) := by decide +kernel
theorem dX12_setBounds_29 : decode cX12_setBounds 29 = .ok (.putfield 62, 3) := by decide +kernel
theorem dX12_setBounds_32 : decode cX12_setBounds 32 = .ok (.aload_n 0, 1) := by decide +kernel
theorem dX12_setBounds_33 : decode cX12_setBounds 33 = .ok (.getfield 62, 3) := by decide +kernel
theorem dX12_setBounds_36 : decode cX12_setBounds 36 = .ok (.ifCond .eq 5, 3) := by decide +kernel
theorem dX12_setBounds_39 : decode cX12_setBounds 39 = .ok (.iconst 0, 1) := by decide +kernel
theorem dX12_setBounds_40 : decode cX12_setBounds 40 = .ok (.ireturn, 1) := by decide +kernel
theorem dX12_setBounds_41 : decode cX12_setBounds 41 = .ok (.aload_n 0, 1) := by decide +kernel
theorem dX12_setBounds_42 : decode cX12_setBounds 42 = .ok (.invokevirtual 131, 3) := by decide +kernel
theorem dX12_setBounds_45 : decode cX12_setBounds 45 = .ok (.aload_n 0, 1) := by decide +kernel
theorem dX12_setBounds_46 : decode cX12_setBounds 46 = .ok (.getfield 7, 3) := by decide +kernel
theorem dX12_setBounds_49 : decode cX12_setBounds 49 = .ok (.iconst 2, 1) := by decide +kernel
theorem dX12_setBounds_50 : decode cX12_setBounds 50 = .ok (.iload_n 1, 1) := by decide +kernel
theorem dX12_setBounds_51 : decode cX12_setBounds 51 = .ok (.i2l, 1) := by decide +kernel
theorem dX12_setBounds_52 : decode cX12_setBounds 52 = .ok (.lastore, 1) := by decide +kernel
theorem dX12_setBounds_53 : decode cX12_setBounds 53 = .ok (.aload_n 0, 1) := by decide +kernel
theorem dX12_setBounds_54 : decode cX12_setBounds 54 = .ok (.getfield 7, 3) := by decide +kernel
theorem dX12_setBounds_57 : decode cX12_setBounds 57 = .ok (.iconst 3, 1) := by decide +kernel
theorem dX12_setBounds_58 : decode cX12_setBounds 58 = .ok (.iload_n 2, 1) := by decide +kernel
theorem dX12_setBounds_59 : decode cX12_setBounds 59 = .ok (.i2l, 1) := by decide +kernel
theorem dX12_setBounds_60 : decode cX12_setBounds 60 = .ok (.lastore, 1) := by decide +kernel
theorem dX12_setBounds_61 : decode cX12_setBounds 61 = .ok (.iconst 0, 1) := by decide +kernel
theorem dX12_setBounds_62 : decode cX12_setBounds 62 = .ok (.istore_n 3, 1) := by decide +kernel
theorem dX12_setBounds_63 : decode cX12_setBounds 63 = .ok (.iconst 0, 1) := by decide +kernel
theorem dX12_setBounds_64 : decode cX12_setBounds 64 = .ok (.istore 4, 2) := by decide +kernel
theorem dX12_setBounds_66 : decode cX12_setBounds 66 = .ok (.iload 4, 2) := by decide +kernel
theorem dX12_setBounds_68 : decode cX12_setBounds 68 = .ok (.aload_n 0, 1) := by decide +kernel
theorem dX12_setBounds_69 : decode cX12_setBounds 69 = .ok (.invokevirtual 76, 3) := by decide +kernel
theorem dX12_setBounds_72 : decode cX12_setBounds 72 = .ok (.if_icmp .ge 37, 3) := by decide +kernel
theorem dX12_setBounds_75 : decode cX12_setBounds 75 = .ok (.iload_n 3, 1) := by decide +kernel
theorem dX12_setBounds_76 : decode cX12_setBounds 76 = .ok (.aload_n 0, 1) := by decide +kernel
theorem dX12_setBounds_77 : decode cX12_setBounds 77 = .ok (.getfield 7, 3) := by decide +kernel
theorem dX12_setBounds_80 : decode cX12_setBounds 80 = .ok (.bipush 8, 2) := by decide +kernel
theorem dX12_setBounds_82 : decode cX12_setBounds 82 = .ok (.iload 4, 2) := by decide +kernel
theorem dX12_setBounds_84 : decode cX12_setBounds 84 = .ok (.iadd, 1) := by decide +kernel
theorem dX12_setBounds_85 : decode cX12_setBounds 85 = .ok (.laload, 1) := by decide +kernel
theorem dX12_setBounds_86 : decode cX12_setBounds 86 = .ok (.iload_n 1, 1) := by decide +kernel
theorem dX12_setBounds_87 : decode cX12_setBounds 87 = .ok (.i2l, 1) := by decide +kernel
theorem dX12_setBounds_88 : decode cX12_setBounds 88 = .ok (.iload_n 2, 1) := by decide +kernel
theorem dX12_setBounds_89 : decode cX12_setBounds 89 = .ok (.i2l, 1) := by decide +kernel
theorem dX12_setBounds_90 : decode cX12_setBounds 90 = .ok (.invokestatic 79, 3) := by decide +kernel
theorem dX12_setBounds_93 : decode cX12_setBounds 93 = .ok (.ifCond .eq 7, 3) := by decide +kernel
theorem dX12_setBounds_96 : decode cX12_setBounds 96 = .ok (.iconst 0, 1) := by decide +kernel
theorem dX12_setBounds_97 : decode cX12_setBounds 97 = .ok (.goto 4, 3) := by decide +kernel
theorem dX12_setBounds_100 : decode cX12_setBounds 100 = .ok (.iconst 1, 1) := by decide +kernel
theorem dX12_setBounds_101 : decode cX12_setBounds 101 = .ok (.iadd, 1) := by decide +kernel
theorem dX12_setBounds_102 : decode cX12_setBounds 102 = .ok (.istore_n 3, 1) := by decide +kernel
theorem dX12_setBounds_103 : decode cX12_setBounds 103 = .ok (.iinc 4 1, 3) := by decide +kernel
theorem dX12_setBounds_106 : decode cX12_setBounds 106 = .ok (.goto (-40), 3) := by decide +kernel
theorem dX12_setBounds_109 : decode cX12_setBounds 109 = .ok (.iload_n 3, 1) := by decide +kernel
theorem dX12_setBounds_110 : decode cX12_setBounds 110 = .ok (.ireturn, 1) := by decide +kernel
theorem dX12_adds_0 : decode cX12_adds 0 = .ok (.aload_n 0, 1) := by decide +kernel
theorem dX12_adds_1 : decode cX12_adds 1 = .ok (.getfield 7, 3) := by decide +kernel
theorem dX12_adds_4 : decode cX12_adds 4 = .ok (.bipush 7, 2) := by decide +kernel
theorem dX12_adds_6 : decode cX12_adds 6 = .ok (.laload, 1) := by decide +kernel
theorem dX12_adds_7 : decode cX12_adds 7 = .ok (.l2i, 1) := by decide +kernel
theorem dX12_adds_8 : decode cX12_adds 8 = .ok (.istore_n 3, 1) := by decide +kernel
theorem dX12_adds_9 : decode cX12_adds 9 = .ok (.aload_n 0, 1) := by decide +kernel
theorem dX12_adds_10 : decode cX12_adds 10 = .ok (.iload_n 3, 1) := by decide +kernel
theorem dX12_adds_11 : decode cX12_adds 11 = .ok (.iconst 0, 1) := by decide +kernel
theorem dX12_adds_12 : decode cX12_adds 12 = .ok (.iload_n 1, 1) := by decide +kernel
theorem dX12_adds_13 : decode cX12_adds 13 = .ok (.i2l, 1) := by decide +kernel
theorem dX12_adds_14 : decode cX12_adds 14 = .ok (.invokevirtual 156, 3) := by decide +kernel
theorem dX12_adds_17 : decode cX12_adds 17 = .ok (.aload_n 0, 1) := by decide +kernel
theorem dX12_adds_18 : decode cX12_adds 18 = .ok (.iload_n 3, 1) := by decide +kernel
theorem dX12_adds_19 : decode cX12_adds 19 = .ok (.iconst 1, 1) := by decide +kernel
theorem dX12_adds_20 : decode cX12_adds 20 = .ok (.iload_n 2, 1) := by decide +kernel
theorem dX12_adds_21 : decode cX12_adds 21 = .ok (.i2l, 1) := by decide +kernel
theorem dX12_adds_22 : decode cX12_adds 22 = .ok (.invokevirtual 156, 3) := by decide +kernel
theorem dX12_adds_25 : decode cX12_adds 25 = .ok (.aload_n 0, 1) := by decide +kernel
theorem dX12_adds_26 : decode cX12_adds 26 = .ok (.iload_n 3, 1) := by decide +kernel
theorem dX12_adds_27 : decode cX12_adds 27 = .ok (.iconst 2, 1) := by decide +kernel
theorem dX12_adds_28 : decode cX12_adds 28 = .ok (.lconst 1, 1) := by decide +kernel
theorem dX12_adds_29 : decode cX12_adds 29 = .ok (.invokevirtual 156, 3) := by decide +kernel
theorem dX12_adds_32 : decode cX12_adds 32 = .ok (.aload_n 0, 1) := by decide +kernel
theorem dX12_adds_33 : decode cX12_adds 33 = .ok (.iload_n 3, 1) := by decide +kernel
theorem dX12_adds_34 : decode cX12_adds 34 = .ok (.iconst 3, 1) := by decide +kernel
theorem dX12_adds_35 : decode cX12_adds 35 = .ok (.ldc2_w 87, 3) := by decide +kernel
theorem dX12_adds_38 : decode cX12_adds 38 = .ok (.invokevirtual 156, 3) := by decide +kernel
theorem dX12_adds_41 : decode cX12_adds 41 = .ok (.aload_n 0, 1) := by decide +kernel
theorem dX12_adds_42 : decode cX12_adds 42 = .ok (.getfield 7, 3) := by decide +kernel
theorem dX12_adds_45 : decode cX12_adds 45 = .ok (.bipush 7, 2) := by decide +kernel
theorem dX12_adds_47 : decode cX12_adds 47 = .ok (.dup2, 1) := by decide +kernel
theorem dX12_adds_48 : decode cX12_adds 48 = .ok (.laload, 1) := by decide +kernel
theorem dX12_adds_49 : decode cX12_adds 49 = .ok (.lconst 1, 1) := by decide +kernel
theorem dX12_adds_50 : decode cX12_adds 50 = .ok (.ladd, 1) := by decide +kernel
theorem dX12_adds_51 : decode cX12_adds 51 = .ok (.lastore, 1) := by decide +kernel
theorem dX12_adds_52 : decode cX12_adds 52 = .ok (.iload_n 3, 1) := by decide +kernel
theorem dX12_adds_53 : decode cX12_adds 53 = .ok (.ireturn, 1) := by decide +kernel
theorem dX12_whyNoRay_0 : decode cX12_whyNoRay 0 = .ok (.aload_n 0, 1) := by decide +kernel
theorem dX12_whyNoRay_1 : decode cX12_whyNoRay 1 = .ok (.iload_n 1, 1) := by decide +kernel
theorem dX12_whyNoRay_2 : decode cX12_whyNoRay 2 = .ok (.invokevirtual 160, 3) := by decide +kernel
theorem dX12_whyNoRay_5 : decode cX12_whyNoRay 5 = .ok (.ifCond .eq 11, 3) := by decide +kernel
theorem dX12_whyNoRay_8 : decode cX12_whyNoRay 8 = .ok (.aload_n 0, 1) := by decide +kernel
theorem dX12_whyNoRay_9 : decode cX12_whyNoRay 9 = .ok (.iload_n 2, 1) := by decide +kernel
theorem dX12_whyNoRay_10 : decode cX12_whyNoRay 10 = .ok (.invokevirtual 160, 3) := by decide +kernel
theorem dX12_whyNoRay_13 : decode cX12_whyNoRay 13 = .ok (.ifCond .ne 7, 3) := by decide +kernel
theorem dX12_whyNoRay_16 : decode cX12_whyNoRay 16 = .ok (.iconst 1, 1) := by decide +kernel
theorem dX12_whyNoRay_17 : decode cX12_whyNoRay 17 = .ok (.goto 22, 3) := by decide +kernel
theorem dX12_whyNoRay_20 : decode cX12_whyNoRay 20 = .ok (.aload_n 0, 1) := by decide +kernel
theorem dX12_whyNoRay_21 : decode cX12_whyNoRay 21 = .ok (.getfield 7, 3) := by decide +kernel
theorem dX12_whyNoRay_24 : decode cX12_whyNoRay 24 = .ok (.bipush 7, 2) := by decide +kernel
theorem dX12_whyNoRay_26 : decode cX12_whyNoRay 26 = .ok (.laload, 1) := by decide +kernel
theorem dX12_whyNoRay_27 : decode cX12_whyNoRay 27 = .ok (.ldc2_w 163, 3) := by decide +kernel
theorem dX12_whyNoRay_30 : decode cX12_whyNoRay 30 = .ok (.lcmp, 1) := by decide +kernel
theorem dX12_whyNoRay_31 : decode cX12_whyNoRay 31 = .ok (.ifCond .ne 7, 3) := by decide +kernel
theorem dX12_whyNoRay_34 : decode cX12_whyNoRay 34 = .ok (.iconst 2, 1) := by decide +kernel
theorem dX12_whyNoRay_35 : decode cX12_whyNoRay 35 = .ok (.goto 4, 3) := by decide +kernel
theorem dX12_whyNoRay_38 : decode cX12_whyNoRay 38 = .ok (.iconst 0, 1) := by decide +kernel
theorem dX12_whyNoRay_39 : decode cX12_whyNoRay 39 = .ok (.ireturn, 1) := by decide +kernel
theorem dX12_addRay_0 : decode cX12_addRay 0 = .ok (.aload_n 0, 1) := by decide +kernel
theorem dX12_addRay_1 : decode cX12_addRay 1 = .ok (.aload_n 0, 1) := by decide +kernel
theorem dX12_addRay_2 : decode cX12_addRay 2 = .ok (.iload_n 1, 1) := by decide +kernel
theorem dX12_addRay_3 : decode cX12_addRay 3 = .ok (.iload_n 2, 1) := by decide +kernel
theorem dX12_addRay_4 : decode cX12_addRay 4 = .ok (.invokevirtual 165, 3) := by decide +kernel
theorem dX12_addRay_7 : decode cX12_addRay 7 = .ok (.putfield 62, 3) := by decide +kernel
theorem dX12_addRay_10 : decode cX12_addRay 10 = .ok (.aload_n 0, 1) := by decide +kernel
theorem dX12_addRay_11 : decode cX12_addRay 11 = .ok (.getfield 62, 3) := by decide +kernel
theorem dX12_addRay_14 : decode cX12_addRay 14 = .ok (.ifCond .eq 5, 3) := by decide +kernel
theorem dX12_addRay_17 : decode cX12_addRay 17 = .ok (.iconst 0, 1) := by decide +kernel
theorem dX12_addRay_18 : decode cX12_addRay 18 = .ok (.ireturn, 1) := by decide +kernel
theorem dX12_addRay_19 : decode cX12_addRay 19 = .ok (.aload_n 0, 1) := by decide +kernel
theorem dX12_addRay_20 : decode cX12_addRay 20 = .ok (.invokevirtual 131, 3) := by decide +kernel
theorem dX12_addRay_23 : decode cX12_addRay 23 = .ok (.aload_n 0, 1) := by decide +kernel
theorem dX12_addRay_24 : decode cX12_addRay 24 = .ok (.iload_n 1, 1) := by decide +kernel
theorem dX12_addRay_25 : decode cX12_addRay 25 = .ok (.iload_n 2, 1) := by decide +kernel
theorem dX12_addRay_26 : decode cX12_addRay 26 = .ok (.invokevirtual 168, 3) := by decide +kernel
theorem dX12_addRay_29 : decode cX12_addRay 29 = .ok (.ireturn, 1) := by decide +kernel
theorem dX12_setUsed_0 : decode cX12_setUsed 0 = .ok (.aload_n 0, 1) := by decide +kernel
theorem dX12_setUsed_1 : decode cX12_setUsed 1 = .ok (.aload_n 0, 1) := by decide +kernel
theorem dX12_setUsed_2 : decode cX12_setUsed 2 = .ok (.iload_n 1, 1) := by decide +kernel
theorem dX12_setUsed_3 : decode cX12_setUsed 3 = .ok (.invokevirtual 171, 3) := by decide +kernel
theorem dX12_setUsed_6 : decode cX12_setUsed 6 = .ok (.ifCond .eq 7, 3) := by decide +kernel
theorem dX12_setUsed_9 : decode cX12_setUsed 9 = .ok (.iconst 0, 1) := by decide +kernel
theorem dX12_setUsed_10 : decode cX12_setUsed 10 = .ok (.goto 4, 3) := by decide +kernel
theorem dX12_setUsed_13 : decode cX12_setUsed 13 = .ok (.iconst 1, 1) := by decide +kernel
theorem dX12_setUsed_14 : decode cX12_setUsed 14 = .ok (.putfield 62, 3) := by decide +kernel
theorem dX12_setUsed_17 : decode cX12_setUsed 17 = .ok (.aload_n 0, 1) := by decide +kernel
theorem dX12_setUsed_18 : decode cX12_setUsed 18 = .ok (.getfield 62, 3) := by decide +kernel
theorem dX12_setUsed_21 : decode cX12_setUsed 21 = .ok (.ifCond .eq 5, 3) := by decide +kernel
theorem dX12_setUsed_24 : decode cX12_setUsed 24 = .ok (.iconst 0, 1) := by decide +kernel
theorem dX12_setUsed_25 : decode cX12_setUsed 25 = .ok (.ireturn, 1) := by decide +kernel
theorem dX12_setUsed_26 : decode cX12_setUsed 26 = .ok (.aload_n 0, 1) := by decide +kernel
theorem dX12_setUsed_27 : decode cX12_setUsed 27 = .ok (.invokevirtual 131, 3) := by decide +kernel
theorem dX12_setUsed_30 : decode cX12_setUsed 30 = .ok (.aload_n 0, 1) := by decide +kernel
theorem dX12_setUsed_31 : decode cX12_setUsed 31 = .ok (.iload_n 1, 1) := by decide +kernel
theorem dX12_setUsed_32 : decode cX12_setUsed 32 = .ok (.iconst 2, 1) := by decide +kernel
theorem dX12_setUsed_33 : decode cX12_setUsed 33 = .ok (.iload_n 2, 1) := by decide +kernel
theorem dX12_setUsed_34 : decode cX12_setUsed 34 = .ok (.ifCond .eq 7, 3) := by decide +kernel
theorem dX12_setUsed_37 : decode cX12_setUsed 37 = .ok (.lconst 1, 1) := by decide +kernel
theorem dX12_setUsed_38 : decode cX12_setUsed 38 = .ok (.goto 4, 3) := by decide +kernel
theorem dX12_setUsed_41 : decode cX12_setUsed 41 = .ok (.lconst 0, 1) := by decide +kernel
theorem dX12_setUsed_42 : decode cX12_setUsed 42 = .ok (.invokevirtual 156, 3) := by decide +kernel
theorem dX12_setUsed_45 : decode cX12_setUsed 45 = .ok (.aload_n 0, 1) := by decide +kernel
theorem dX12_setUsed_46 : decode cX12_setUsed 46 = .ok (.invokevirtual 174, 3) := by decide +kernel
theorem dX12_setUsed_49 : decode cX12_setUsed 49 = .ok (.ireturn, 1) := by decide +kernel
theorem dX12_setTime_0 : decode cX12_setTime 0 = .ok (.aload_n 0, 1) := by decide +kernel
theorem dX12_setTime_1 : decode cX12_setTime 1 = .ok (.aload_n 0, 1) := by decide +kernel
theorem dX12_setTime_2 : decode cX12_setTime 2 = .ok (.iload_n 1, 1) := by decide +kernel
theorem dX12_setTime_3 : decode cX12_setTime 3 = .ok (.invokevirtual 171, 3) := by decide +kernel
theorem dX12_setTime_6 : decode cX12_setTime 6 = .ok (.ifCond .ne 7, 3) := by decide +kernel
theorem dX12_setTime_9 : decode cX12_setTime 9 = .ok (.iconst 1, 1) := by decide +kernel
theorem dX12_setTime_10 : decode cX12_setTime 10 = .ok (.goto 21, 3) := by decide +kernel
theorem dX12_setTime_13 : decode cX12_setTime 13 = .ok (.lload_n 2, 1) := by decide +kernel
theorem dX12_setTime_14 : decode cX12_setTime 14 = .ok (.ldc2_w 87, 3) := by decide +kernel
theorem dX12_setTime_17 : decode cX12_setTime 17 = .ok (.ldc2_w 177, 3) := by decide +kernel
theorem dX12_setTime_20 : decode cX12_setTime 20 = .ok (.invokestatic 79, 3) := by decide +kernel
theorem dX12_setTime_23 : decode cX12_setTime 23 = .ok (.ifCond .eq 7, 3) := by decide +kernel
theorem dX12_setTime_26 : decode cX12_setTime 26 = .ok (.iconst 0, 1) := by decide +kernel
theorem dX12_setTime_27 : decode cX12_setTime 27 = .ok (.goto 4, 3) := by decide +kernel
theorem dX12_setTime_30 : decode cX12_setTime 30 = .ok (.iconst 2, 1) := by decide +kernel
theorem dX12_setTime_31 : decode cX12_setTime 31 = .ok (.putfield 62, 3) := by decide +kernel
theorem dX12_setTime_34 : decode cX12_setTime 34 = .ok (.aload_n 0, 1) := by decide +kernel
theorem dX12_setTime_35 : decode cX12_setTime 35 = .ok (.getfield 62, 3) := by decide +kernel
theorem dX12_setTime_38 : decode cX12_setTime 38 = .ok (.ifCond .eq 5, 3) := by decide +kernel
theorem dX12_setTime_41 : decode cX12_setTime 41 = .ok (.lconst 0, 1) := by decide +kernel
theorem dX12_setTime_42 : decode cX12_setTime 42 = .ok (.lreturn, 1) := by decide +kernel
theorem dX12_setTime_43 : decode cX12_setTime 43 = .ok (.aload_n 0, 1) := by decide +kernel
theorem dX12_setTime_44 : decode cX12_setTime 44 = .ok (.invokevirtual 131, 3) := by decide +kernel
theorem dX12_setTime_47 : decode cX12_setTime 47 = .ok (.aload_n 0, 1) := by decide +kernel
theorem dX12_setTime_48 : decode cX12_setTime 48 = .ok (.iload_n 1, 1) := by decide +kernel
theorem dX12_setTime_49 : decode cX12_setTime 49 = .ok (.iconst 3, 1) := by decide +kernel
theorem dX12_setTime_50 : decode cX12_setTime 50 = .ok (.invokevirtual 83, 3) := by decide +kernel
theorem dX12_setTime_53 : decode cX12_setTime 53 = .ok (.lstore 4, 2) := by decide +kernel
theorem dX12_setTime_55 : decode cX12_setTime 55 = .ok (.aload_n 0, 1) := by decide +kernel
theorem dX12_setTime_56 : decode cX12_setTime 56 = .ok (.iload_n 1, 1) := by decide +kernel
theorem dX12_setTime_57 : decode cX12_setTime 57 = .ok (.iconst 3, 1) := by decide +kernel
theorem dX12_setTime_58 : decode cX12_setTime 58 = .ok (.lload_n 2, 1) := by decide +kernel
theorem dX12_setTime_59 : decode cX12_setTime 59 = .ok (.invokevirtual 156, 3) := by decide +kernel
theorem dX12_setTime_62 : decode cX12_setTime 62 = .ok (.lload 4, 2) := by decide +kernel
theorem dX12_setTime_64 : decode cX12_setTime 64 = .ok (.lreturn, 1) := by decide +kernel
theorem dX12_isNoise_0 : decode cX12_isNoise 0 = .ok (.iload_n 0, 1) := by decide +kernel
theorem dX12_isNoise_1 : decode cX12_isNoise 1 = .ok (.i2l, 1) := by decide +kernel
theorem dX12_isNoise_2 : decode cX12_isNoise 2 = .ok (.lconst 0, 1) := by decide +kernel
theorem dX12_isNoise_3 : decode cX12_isNoise 3 = .ok (.ldc2_w 56, 3) := by decide +kernel
theorem dX12_isNoise_6 : decode cX12_isNoise 6 = .ok (.invokestatic 79, 3) := by decide +kernel
theorem dX12_isNoise_9 : decode cX12_isNoise 9 = .ok (.ifCond .eq 19, 3) := by decide +kernel
theorem dX12_isNoise_12 : decode cX12_isNoise 12 = .ok (.iload_n 1, 1) := by decide +kernel
theorem dX12_isNoise_13 : decode cX12_isNoise 13 = .ok (.i2l, 1) := by decide +kernel
theorem dX12_isNoise_14 : decode cX12_isNoise 14 = .ok (.lconst 0, 1) := by decide +kernel
theorem dX12_isNoise_15 : decode cX12_isNoise 15 = .ok (.ldc2_w 179, 3) := by decide +kernel
theorem dX12_isNoise_18 : decode cX12_isNoise 18 = .ok (.invokestatic 79, 3) := by decide +kernel
theorem dX12_isNoise_21 : decode cX12_isNoise 21 = .ok (.ifCond .eq 7, 3) := by decide +kernel
theorem dX12_isNoise_24 : decode cX12_isNoise 24 = .ok (.iconst 1, 1) := by decide +kernel
theorem dX12_isNoise_25 : decode cX12_isNoise 25 = .ok (.goto 4, 3) := by decide +kernel
theorem dX12_isNoise_28 : decode cX12_isNoise 28 = .ok (.iconst 0, 1) := by decide +kernel
theorem dX12_isNoise_29 : decode cX12_isNoise 29 = .ok (.ireturn, 1) := by decide +kernel
theorem dX12_next_0 : decode cX12_next 0 = .ok (.ldc2_w 181, 3) := by decide +kernel
theorem dX12_next_3 : decode cX12_next 3 = .ok (.lload_n 0, 1) := by decide +kernel
theorem dX12_next_4 : decode cX12_next 4 = .ok (.lmul, 1) := by decide +kernel
theorem dX12_next_5 : decode cX12_next 5 = .ok (.ldc2_w 183, 3) := by decide +kernel
theorem dX12_next_8 : decode cX12_next 8 = .ok (.ladd, 1) := by decide +kernel
theorem dX12_next_9 : decode cX12_next 9 = .ok (.ldc2_w 185, 3) := by decide +kernel
theorem dX12_next_12 : decode cX12_next 12 = .ok (.lrem, 1) := by decide +kernel
theorem dX12_next_13 : decode cX12_next 13 = .ok (.lreturn, 1) := by decide +kernel
theorem dX12_takes_0 : decode cX12_takes 0 = .ok (.iload_n 2, 1) := by decide +kernel
theorem dX12_takes_1 : decode cX12_takes 1 = .ok (.i2l, 1) := by decide +kernel
theorem dX12_takes_2 : decode cX12_takes 2 = .ok (.lstore_n 3, 1) := by decide +kernel
theorem dX12_takes_3 : decode cX12_takes 3 = .ok (.iconst 0, 1) := by decide +kernel
theorem dX12_takes_4 : decode cX12_takes 4 = .ok (.istore 5, 2) := by decide +kernel
theorem dX12_takes_6 : decode cX12_takes 6 = .ok (.iload 5, 2) := by decide +kernel
theorem dX12_takes_8 : decode cX12_takes 8 = .ok (.i2l, 1) := by decide +kernel
theorem dX12_takes_9 : decode cX12_takes 9 = .ok (.aload_n 0, 1) := by decide +kernel
theorem dX12_takes_10 : decode cX12_takes 10 = .ok (.getfield 7, 3) := by decide +kernel
theorem dX12_takes_13 : decode cX12_takes 13 = .ok (.bipush 7, 2) := by decide +kernel
theorem dX12_takes_15 : decode cX12_takes 15 = .ok (.laload, 1) := by decide +kernel
theorem dX12_takes_16 : decode cX12_takes 16 = .ok (.lcmp, 1) := by decide +kernel
theorem dX12_takes_17 : decode cX12_takes 17 = .ok (.ifCond .ge 75, 3) := by decide +kernel
theorem dX12_takes_20 : decode cX12_takes 20 = .ok (.lload_n 3, 1) := by decide +kernel
theorem dX12_takes_21 : decode cX12_takes 21 = .ok (.invokestatic 187, 3) := by decide +kernel
theorem dX12_takes_24 : decode cX12_takes 24 = .ok (.lstore_n 3, 1) := by decide +kernel
theorem dX12_takes_25 : decode cX12_takes 25 = .ok (.aload_n 0, 1) := by decide +kernel
theorem dX12_takes_26 : decode cX12_takes 26 = .ok (.aload_n 0, 1) := by decide +kernel
theorem dX12_takes_27 : decode cX12_takes 27 = .ok (.iload 5, 2) := by decide +kernel
theorem dX12_takes_29 : decode cX12_takes 29 = .ok (.invokevirtual 104, 3) := by decide +kernel
theorem dX12_takes_32 : decode cX12_takes 32 = .ok (.bipush 72, 2) := by decide +kernel
theorem dX12_takes_34 : decode cX12_takes 34 = .ok (.invokevirtual 108, 3) := by decide +kernel
theorem dX12_takes_37 : decode cX12_takes 37 = .ok (.ldc2_w 56, 3) := by decide +kernel
theorem dX12_takes_40 : decode cX12_takes 40 = .ok (.lload_n 3, 1) := by decide +kernel
theorem dX12_takes_41 : decode cX12_takes 41 = .ok (.ldc2_w 191, 3) := by decide +kernel
theorem dX12_takes_44 : decode cX12_takes 44 = .ok (.ldiv, 1) := by decide +kernel
theorem dX12_takes_45 : decode cX12_takes 45 = .ok (.iconst 2, 1) := by decide +kernel
theorem dX12_takes_46 : decode cX12_takes 46 = .ok (.iload_n 1, 1) := by decide +kernel
theorem dX12_takes_47 : decode cX12_takes 47 = .ok (.imul, 1) := by decide +kernel
theorem dX12_takes_48 : decode cX12_takes 48 = .ok (.iconst 1, 1) := by decide +kernel
theorem dX12_takes_49 : decode cX12_takes 49 = .ok (.iadd, 1) := by decide +kernel
theorem dX12_takes_50 : decode cX12_takes 50 = .ok (.i2l, 1) := by decide +kernel
theorem dX12_takes_51 : decode cX12_takes 51 = .ok (.lrem, 1) := by decide +kernel
theorem dX12_takes_52 : decode cX12_takes 52 = .ok (.iload_n 1, 1) := by decide +kernel
theorem dX12_takes_53 : decode cX12_takes 53 = .ok (.i2l, 1) := by decide +kernel
theorem dX12_takes_54 : decode cX12_takes 54 = .ok (.lsub, 1) := by decide +kernel
theorem dX12_takes_55 : decode cX12_takes 55 = .ok (.lmul, 1) := by decide +kernel
theorem dX12_takes_56 : decode cX12_takes 56 = .ok (.lstore 6, 2) := by decide +kernel
theorem dX12_takes_58 : decode cX12_takes 58 = .ok (.aload_n 0, 1) := by decide +kernel
theorem dX12_takes_59 : decode cX12_takes 59 = .ok (.iload 5, 2) := by decide +kernel
theorem dX12_takes_61 : decode cX12_takes 61 = .ok (.iconst 3, 1) := by decide +kernel
theorem dX12_takes_62 : decode cX12_takes 62 = .ok (.aload_n 0, 1) := by decide +kernel
theorem dX12_takes_63 : decode cX12_takes 63 = .ok (.getfield 20, 3) := by decide +kernel
theorem dX12_takes_66 : decode cX12_takes 66 = .ok (.aload_n 0, 1) := by decide +kernel
theorem dX12_takes_67 : decode cX12_takes 67 = .ok (.iload 5, 2) := by decide +kernel
theorem dX12_takes_69 : decode cX12_takes 69 = .ok (.invokevirtual 111, 3) := by decide +kernel
theorem dX12_takes_72 : decode cX12_takes 72 = .ok (.laload, 1) := by decide +kernel
theorem dX12_takes_73 : decode cX12_takes 73 = .ok (.lload 6, 2) := by decide +kernel
theorem dX12_takes_75 : decode cX12_takes 75 = .ok (.ladd, 1) := by decide +kernel
theorem dX12_takes_76 : decode cX12_takes 76 = .ok (.lconst 0, 1) := by decide +kernel
theorem dX12_takes_77 : decode cX12_takes 77 = .ok (.ldc2_w 95, 3) := by decide +kernel
theorem dX12_takes_80 : decode cX12_takes 80 = .ok (.invokestatic 148, 3) := by decide +kernel
theorem dX12_takes_83 : decode cX12_takes 83 = .ok (.invokevirtual 156, 3) := by decide +kernel
theorem dX12_takes_86 : decode cX12_takes 86 = .ok (.iinc 5 1, 3) := by decide +kernel
theorem dX12_takes_89 : decode cX12_takes 89 = .ok (.goto (-83), 3) := by decide +kernel
theorem dX12_takes_92 : decode cX12_takes 92 = .ok (.aload_n 0, 1) := by decide +kernel
theorem dX12_takes_93 : decode cX12_takes 93 = .ok (.getfield 7, 3) := by decide +kernel
theorem dX12_takes_96 : decode cX12_takes 96 = .ok (.bipush 7, 2) := by decide +kernel
theorem dX12_takes_98 : decode cX12_takes 98 = .ok (.laload, 1) := by decide +kernel
theorem dX12_takes_99 : decode cX12_takes 99 = .ok (.l2i, 1) := by decide +kernel
theorem dX12_takes_100 : decode cX12_takes 100 = .ok (.ireturn, 1) := by decide +kernel
theorem dX12_observe_0 : decode cX12_observe 0 = .ok (.aload_n 0, 1) := by decide +kernel
theorem dX12_observe_1 : decode cX12_observe 1 = .ok (.iload_n 1, 1) := by decide +kernel
theorem dX12_observe_2 : decode cX12_observe 2 = .ok (.iload_n 2, 1) := by decide +kernel
theorem dX12_observe_3 : decode cX12_observe 3 = .ok (.invokestatic 193, 3) := by decide +kernel
theorem dX12_observe_6 : decode cX12_observe 6 = .ok (.ifCond .eq 7, 3) := by decide +kernel
theorem dX12_observe_9 : decode cX12_observe 9 = .ok (.iconst 0, 1) := by decide +kernel
theorem dX12_observe_10 : decode cX12_observe 10 = .ok (.goto 4, 3) := by decide +kernel
theorem dX12_observe_13 : decode cX12_observe 13 = .ok (.iconst 1, 1) := by decide +kernel
theorem dX12_observe_14 : decode cX12_observe 14 = .ok (.putfield 62, 3) := by decide +kernel
theorem dX12_observe_17 : decode cX12_observe 17 = .ok (.aload_n 0, 1) := by decide +kernel
theorem dX12_observe_18 : decode cX12_observe 18 = .ok (.getfield 62, 3) := by decide +kernel
theorem dX12_observe_21 : decode cX12_observe 21 = .ok (.ifCond .eq 5, 3) := by decide +kernel
theorem dX12_observe_24 : decode cX12_observe 24 = .ok (.iconst 0, 1) := by decide +kernel
theorem dX12_observe_25 : decode cX12_observe 25 = .ok (.ireturn, 1) := by decide +kernel
theorem dX12_observe_26 : decode cX12_observe 26 = .ok (.aload_n 0, 1) := by decide +kernel
theorem dX12_observe_27 : decode cX12_observe 27 = .ok (.invokevirtual 131, 3) := by decide +kernel
theorem dX12_observe_30 : decode cX12_observe 30 = .ok (.aload_n 0, 1) := by decide +kernel
theorem dX12_observe_31 : decode cX12_observe 31 = .ok (.iload_n 1, 1) := by decide +kernel
theorem dX12_observe_32 : decode cX12_observe 32 = .ok (.iload_n 2, 1) := by decide +kernel
theorem dX12_observe_33 : decode cX12_observe 33 = .ok (.invokevirtual 197, 3) := by decide +kernel
theorem dX12_observe_36 : decode cX12_observe 36 = .ok (.ireturn, 1) := by decide +kernel
theorem dX12_setOrder_0 : decode cX12_setOrder 0 = .ok (.aload_n 0, 1) := by decide +kernel
theorem dX12_setOrder_1 : decode cX12_setOrder 1 = .ok (.iload_n 1, 1) := by decide +kernel
theorem dX12_setOrder_2 : decode cX12_setOrder 2 = .ok (.i2l, 1) := by decide +kernel
theorem dX12_setOrder_3 : decode cX12_setOrder 3 = .ok (.lconst 1, 1) := by decide +kernel
theorem dX12_setOrder_4 : decode cX12_setOrder 4 = .ok (.ldc2_w 200, 3) := by decide +kernel
theorem dX12_setOrder_7 : decode cX12_setOrder 7 = .ok (.invokestatic 79, 3) := by decide +kernel
theorem dX12_setOrder_10 : decode cX12_setOrder 10 = .ok (.ifCond .eq 31, 3) := by decide +kernel
theorem dX12_setOrder_13 : decode cX12_setOrder 13 = .ok (.iload_n 2, 1) := by decide +kernel
theorem dX12_setOrder_14 : decode cX12_setOrder 14 = .ok (.i2l, 1) := by decide +kernel
theorem dX12_setOrder_15 : decode cX12_setOrder 15 = .ok (.lconst 0, 1) := by decide +kernel
theorem dX12_setOrder_16 : decode cX12_setOrder 16 = .ok (.ldc2_w 202, 3) := by decide +kernel
theorem dX12_setOrder_19 : decode cX12_setOrder 19 = .ok (.invokestatic 79, 3) := by decide +kernel
theorem dX12_setOrder_22 : decode cX12_setOrder 22 = .ok (.ifCond .eq 19, 3) := by decide +kernel
theorem dX12_setOrder_25 : decode cX12_setOrder 25 = .ok (.iload_n 3, 1) := by decide +kernel
theorem dX12_setOrder_26 : decode cX12_setOrder 26 = .ok (.i2l, 1) := by decide +kernel
theorem dX12_setOrder_27 : decode cX12_setOrder 27 = .ok (.lconst 0, 1) := by decide +kernel
theorem dX12_setOrder_28 : decode cX12_setOrder 28 = .ok (.ldc2_w 179, 3) := by decide +kernel
theorem dX12_setOrder_31 : decode cX12_setOrder 31 = .ok (.invokestatic 79, 3) := by decide +kernel
theorem dX12_setOrder_34 : decode cX12_setOrder 34 = .ok (.ifCond .eq 7, 3) := by decide +kernel
theorem dX12_setOrder_37 : decode cX12_setOrder 37 = .ok (.iconst 0, 1) := by decide +kernel
theorem dX12_setOrder_38 : decode cX12_setOrder 38 = .ok (.goto 4, 3) := by decide +kernel
theorem dX12_setOrder_41 : decode cX12_setOrder 41 = .ok (.iconst 1, 1) := by decide +kernel
theorem dX12_setOrder_42 : decode cX12_setOrder 42 = .ok (.putfield 62, 3) := by decide +kernel
theorem dX12_setOrder_45 : decode cX12_setOrder 45 = .ok (.aload_n 0, 1) := by decide +kernel
theorem dX12_setOrder_46 : decode cX12_setOrder 46 = .ok (.getfield 62, 3) := by decide +kernel
theorem dX12_setOrder_49 : decode cX12_setOrder 49 = .ok (.ifCond .eq 5, 3) := by decide +kernel
theorem dX12_setOrder_52 : decode cX12_setOrder 52 = .ok (.iconst 0, 1) := by decide +kernel
theorem dX12_setOrder_53 : decode cX12_setOrder 53 = .ok (.ireturn, 1) := by decide +kernel
theorem dX12_setOrder_54 : decode cX12_setOrder 54 = .ok (.aload_n 0, 1) := by decide +kernel
theorem dX12_setOrder_55 : decode cX12_setOrder 55 = .ok (.invokevirtual 131, 3) := by decide +kernel
theorem dX12_setOrder_58 : decode cX12_setOrder 58 = .ok (.aload_n 0, 1) := by decide +kernel
theorem dX12_setOrder_59 : decode cX12_setOrder 59 = .ok (.getfield 7, 3) := by decide +kernel
theorem dX12_setOrder_62 : decode cX12_setOrder 62 = .ok (.iconst 4, 1) := by decide +kernel
theorem dX12_setOrder_63 : decode cX12_setOrder 63 = .ok (.laload, 1) := by decide +kernel
theorem dX12_setOrder_64 : decode cX12_setOrder 64 = .ok (.l2i, 1) := by decide +kernel
theorem dX12_setOrder_65 : decode cX12_setOrder 65 = .ok (.istore 4, 2) := by decide +kernel
theorem dX12_setOrder_67 : decode cX12_setOrder 67 = .ok (.aload_n 0, 1) := by decide +kernel
theorem dX12_setOrder_68 : decode cX12_setOrder 68 = .ok (.getfield 7, 3) := by decide +kernel
theorem dX12_setOrder_71 : decode cX12_setOrder 71 = .ok (.iconst 4, 1) := by decide +kernel
theorem dX12_setOrder_72 : decode cX12_setOrder 72 = .ok (.iload_n 1, 1) := by decide +kernel
theorem dX12_setOrder_73 : decode cX12_setOrder 73 = .ok (.i2l, 1) := by decide +kernel
theorem dX12_setOrder_74 : decode cX12_setOrder 74 = .ok (.lastore, 1) := by decide +kernel
theorem dX12_setOrder_75 : decode cX12_setOrder 75 = .ok (.aload_n 0, 1) := by decide +kernel
theorem dX12_setOrder_76 : decode cX12_setOrder 76 = .ok (.getfield 7, 3) := by decide +kernel
theorem dX12_setOrder_79 : decode cX12_setOrder 79 = .ok (.iconst 5, 1) := by decide +kernel
theorem dX12_setOrder_80 : decode cX12_setOrder 80 = .ok (.iload_n 2, 1) := by decide +kernel
theorem dX12_setOrder_81 : decode cX12_setOrder 81 = .ok (.i2l, 1) := by decide +kernel
theorem dX12_setOrder_82 : decode cX12_setOrder 82 = .ok (.lastore, 1) := by decide +kernel
theorem dX12_setOrder_83 : decode cX12_setOrder 83 = .ok (.aload_n 0, 1) := by decide +kernel
theorem dX12_setOrder_84 : decode cX12_setOrder 84 = .ok (.getfield 7, 3) := by decide +kernel
theorem dX12_setOrder_87 : decode cX12_setOrder 87 = .ok (.bipush 6, 2) := by decide +kernel
theorem dX12_setOrder_89 : decode cX12_setOrder 89 = .ok (.iload_n 3, 1) := by decide +kernel
theorem dX12_setOrder_90 : decode cX12_setOrder 90 = .ok (.i2l, 1) := by decide +kernel
theorem dX12_setOrder_91 : decode cX12_setOrder 91 = .ok (.lastore, 1) := by decide +kernel
theorem dX12_setOrder_92 : decode cX12_setOrder 92 = .ok (.iload 4, 2) := by decide +kernel
theorem dX12_setOrder_94 : decode cX12_setOrder 94 = .ok (.ireturn, 1) := by decide +kernel
theorem dX12_corrects_0 : decode cX12_corrects 0 = .ok (.aload_n 0, 1) := by decide +kernel
theorem dX12_corrects_1 : decode cX12_corrects 1 = .ok (.iload_n 1, 1) := by decide +kernel
theorem dX12_corrects_2 : decode cX12_corrects 2 = .ok (.invokevirtual 125, 3) := by decide +kernel
theorem dX12_corrects_5 : decode cX12_corrects 5 = .ok (.aload_n 0, 1) := by decide +kernel
theorem dX12_corrects_6 : decode cX12_corrects 6 = .ok (.iload_n 1, 1) := by decide +kernel
theorem dX12_corrects_7 : decode cX12_corrects 7 = .ok (.iconst 3, 1) := by decide +kernel
theorem dX12_corrects_8 : decode cX12_corrects 8 = .ok (.invokevirtual 83, 3) := by decide +kernel
theorem dX12_corrects_11 : decode cX12_corrects 11 = .ok (.aload_n 0, 1) := by decide +kernel
theorem dX12_corrects_12 : decode cX12_corrects 12 = .ok (.getfield 114, 3) := by decide +kernel
theorem dX12_corrects_15 : decode cX12_corrects 15 = .ok (.lsub, 1) := by decide +kernel
theorem dX12_corrects_16 : decode cX12_corrects 16 = .ok (.lstore_n 2, 1) := by decide +kernel
theorem dX12_corrects_17 : decode cX12_corrects 17 = .ok (.lconst 0, 1) := by decide +kernel
theorem dX12_corrects_18 : decode cX12_corrects 18 = .ok (.lstore 4, 2) := by decide +kernel
theorem dX12_corrects_20 : decode cX12_corrects 20 = .ok (.iconst 0, 1) := by decide +kernel
theorem dX12_corrects_21 : decode cX12_corrects 21 = .ok (.istore 6, 2) := by decide +kernel
theorem dX12_corrects_23 : decode cX12_corrects 23 = .ok (.iload 6, 2) := by decide +kernel
theorem dX12_corrects_25 : decode cX12_corrects 25 = .ok (.aload_n 0, 1) := by decide +kernel
theorem dX12_corrects_26 : decode cX12_corrects 26 = .ok (.invokevirtual 76, 3) := by decide +kernel
theorem dX12_corrects_29 : decode cX12_corrects 29 = .ok (.if_icmp .ge 31, 3) := by decide +kernel
theorem dX12_corrects_32 : decode cX12_corrects 32 = .ok (.lload 4, 2) := by decide +kernel
theorem dX12_corrects_34 : decode cX12_corrects 34 = .ok (.aload_n 0, 1) := by decide +kernel
theorem dX12_corrects_35 : decode cX12_corrects 35 = .ok (.getfield 30, 3) := by decide +kernel
theorem dX12_corrects_38 : decode cX12_corrects 38 = .ok (.iload 6, 2) := by decide +kernel
theorem dX12_corrects_40 : decode cX12_corrects 40 = .ok (.iaload, 1) := by decide +kernel
theorem dX12_corrects_41 : decode cX12_corrects 41 = .ok (.i2l, 1) := by decide +kernel
theorem dX12_corrects_42 : decode cX12_corrects 42 = .ok (.aload_n 0, 1) := by decide +kernel
theorem dX12_corrects_43 : decode cX12_corrects 43 = .ok (.getfield 30, 3) := by decide +kernel
theorem dX12_corrects_46 : decode cX12_corrects 46 = .ok (.iload 6, 2) := by decide +kernel
theorem dX12_corrects_48 : decode cX12_corrects 48 = .ok (.iaload, 1) := by decide +kernel
theorem dX12_corrects_49 : decode cX12_corrects 49 = .ok (.i2l, 1) := by decide +kernel
theorem dX12_corrects_50 : decode cX12_corrects 50 = .ok (.lmul, 1) := by decide +kernel
theorem dX12_corrects_51 : decode cX12_corrects 51 = .ok (.ladd, 1) := by decide +kernel
theorem dX12_corrects_52 : decode cX12_corrects 52 = .ok (.lstore 4, 2) := by decide +kernel
theorem dX12_corrects_54 : decode cX12_corrects 54 = .ok (.iinc 6 1, 3) := by decide +kernel
theorem dX12_corrects_57 : decode cX12_corrects 57 = .ok (.goto (-34), 3) := by decide +kernel
theorem dX12_corrects_60 : decode cX12_corrects 60 = .ok (.iconst 0, 1) := by decide +kernel
theorem dX12_corrects_61 : decode cX12_corrects 61 = .ok (.istore 6, 2) := by decide +kernel
theorem dX12_corrects_63 : decode cX12_corrects 63 = .ok (.iconst 0, 1) := by decide +kernel
theorem dX12_corrects_64 : decode cX12_corrects 64 = .ok (.istore 7, 2) := by decide +kernel
theorem dX12_corrects_66 : decode cX12_corrects 66 = .ok (.iload 7, 2) := by decide +kernel
theorem dX12_corrects_68 : decode cX12_corrects 68 = .ok (.aload_n 0, 1) := by decide +kernel
theorem dX12_corrects_69 : decode cX12_corrects 69 = .ok (.invokevirtual 76, 3) := by decide +kernel
theorem dX12_corrects_72 : decode cX12_corrects 72 = .ok (.if_icmp .ge 89, 3) := by decide +kernel
theorem dX12_corrects_75 : decode cX12_corrects 75 = .ok (.aload_n 0, 1) := by decide +kernel
theorem dX12_corrects_76 : decode cX12_corrects 76 = .ok (.getfield 30, 3) := by decide +kernel
theorem dX12_corrects_79 : decode cX12_corrects 79 = .ok (.iload 7, 2) := by decide +kernel
theorem dX12_corrects_81 : decode cX12_corrects 81 = .ok (.iaload, 1) := by decide +kernel
theorem dX12_corrects_82 : decode cX12_corrects 82 = .ok (.ifCond .le 73, 3) := by decide +kernel
theorem dX12_corrects_85 : decode cX12_corrects 85 = .ok (.aload_n 0, 1) := by decide +kernel
theorem dX12_corrects_86 : decode cX12_corrects 86 = .ok (.getfield 7, 3) := by decide +kernel
theorem dX12_corrects_89 : decode cX12_corrects 89 = .ok (.iconst 4, 1) := by decide +kernel
theorem dX12_corrects_90 : decode cX12_corrects 90 = .ok (.laload, 1) := by decide +kernel
theorem dX12_corrects_91 : decode cX12_corrects 91 = .ok (.lload_n 2, 1) := by decide +kernel
theorem dX12_corrects_92 : decode cX12_corrects 92 = .ok (.lmul, 1) := by decide +kernel
theorem dX12_corrects_93 : decode cX12_corrects 93 = .ok (.aload_n 0, 1) := by decide +kernel
theorem dX12_corrects_94 : decode cX12_corrects 94 = .ok (.getfield 30, 3) := by decide +kernel
theorem dX12_corrects_97 : decode cX12_corrects 97 = .ok (.iload 7, 2) := by decide +kernel
theorem dX12_corrects_99 : decode cX12_corrects 99 = .ok (.iaload, 1) := by decide +kernel
theorem dX12_corrects_100 : decode cX12_corrects 100 = .ok (.i2l, 1) := by decide +kernel
theorem dX12_corrects_101 : decode cX12_corrects 101 = .ok (.lmul, 1) := by decide +kernel
theorem dX12_corrects_102 : decode cX12_corrects 102 = .ok (.ldc2_w 56, 3) := by decide +kernel
theorem dX12_corrects_105 : decode cX12_corrects 105 = .ok (.lload 4, 2) := by decide +kernel
theorem dX12_corrects_107 : decode cX12_corrects 107 = .ok (.lmul, 1) := by decide +kernel
theorem dX12_corrects_108 : decode cX12_corrects 108 = .ok (.invokestatic 204, 3) := by decide +kernel
theorem dX12_corrects_111 : decode cX12_corrects 111 = .ok (.lstore 8, 2) := by decide +kernel
theorem dX12_corrects_113 : decode cX12_corrects 113 = .ok (.iload 6, 2) := by decide +kernel
theorem dX12_corrects_115 : decode cX12_corrects 115 = .ok (.aload_n 0, 1) := by decide +kernel
theorem dX12_corrects_116 : decode cX12_corrects 116 = .ok (.bipush 8, 2) := by decide +kernel
theorem dX12_corrects_118 : decode cX12_corrects 118 = .ok (.iload 7, 2) := by decide +kernel
theorem dX12_corrects_120 : decode cX12_corrects 120 = .ok (.iadd, 1) := by decide +kernel
theorem dX12_corrects_121 : decode cX12_corrects 121 = .ok (.aload_n 0, 1) := by decide +kernel
theorem dX12_corrects_122 : decode cX12_corrects 122 = .ok (.getfield 7, 3) := by decide +kernel
theorem dX12_corrects_125 : decode cX12_corrects 125 = .ok (.bipush 8, 2) := by decide +kernel
theorem dX12_corrects_127 : decode cX12_corrects 127 = .ok (.iload 7, 2) := by decide +kernel
theorem dX12_corrects_129 : decode cX12_corrects 129 = .ok (.iadd, 1) := by decide +kernel
theorem dX12_corrects_130 : decode cX12_corrects 130 = .ok (.laload, 1) := by decide +kernel
theorem dX12_corrects_131 : decode cX12_corrects 131 = .ok (.lload 8, 2) := by decide +kernel
theorem dX12_corrects_133 : decode cX12_corrects 133 = .ok (.ladd, 1) := by decide +kernel
theorem dX12_corrects_134 : decode cX12_corrects 134 = .ok (.aload_n 0, 1) := by decide +kernel
theorem dX12_corrects_135 : decode cX12_corrects 135 = .ok (.getfield 7, 3) := by decide +kernel
theorem dX12_corrects_138 : decode cX12_corrects 138 = .ok (.iconst 2, 1) := by decide +kernel
theorem dX12_corrects_139 : decode cX12_corrects 139 = .ok (.laload, 1) := by decide +kernel
theorem dX12_corrects_140 : decode cX12_corrects 140 = .ok (.aload_n 0, 1) := by decide +kernel
theorem dX12_corrects_141 : decode cX12_corrects 141 = .ok (.getfield 7, 3) := by decide +kernel
theorem dX12_corrects_144 : decode cX12_corrects 144 = .ok (.iconst 3, 1) := by decide +kernel
theorem dX12_corrects_145 : decode cX12_corrects 145 = .ok (.laload, 1) := by decide +kernel
theorem dX12_corrects_146 : decode cX12_corrects 146 = .ok (.invokestatic 148, 3) := by decide +kernel
theorem dX12_corrects_149 : decode cX12_corrects 149 = .ok (.invokevirtual 152, 3) := by decide +kernel
theorem dX12_corrects_152 : decode cX12_corrects 152 = .ok (.iadd, 1) := by decide +kernel
theorem dX12_corrects_153 : decode cX12_corrects 153 = .ok (.istore 6, 2) := by decide +kernel
theorem dX12_corrects_155 : decode cX12_corrects 155 = .ok (.iinc 7 1, 3) := by decide +kernel
theorem dX12_corrects_158 : decode cX12_corrects 158 = .ok (.goto (-92), 3) := by decide +kernel
theorem dX12_corrects_161 : decode cX12_corrects 161 = .ok (.iload 6, 2) := by decide +kernel
theorem dX12_corrects_163 : decode cX12_corrects 163 = .ok (.ireturn, 1) := by decide +kernel
theorem dX12_correct_0 : decode cX12_correct 0 = .ok (.aload_n 0, 1) := by decide +kernel
theorem dX12_correct_1 : decode cX12_correct 1 = .ok (.aload_n 0, 1) := by decide +kernel
theorem dX12_correct_2 : decode cX12_correct 2 = .ok (.iload_n 1, 1) := by decide +kernel
theorem dX12_correct_3 : decode cX12_correct 3 = .ok (.invokevirtual 171, 3) := by decide +kernel
theorem dX12_correct_6 : decode cX12_correct 6 = .ok (.ifCond .ne 7, 3) := by decide +kernel
theorem dX12_correct_9 : decode cX12_correct 9 = .ok (.iconst 1, 1) := by decide +kernel
theorem dX12_correct_10 : decode cX12_correct 10 = .ok (.goto 21, 3) := by decide +kernel
theorem dX12_correct_13 : decode cX12_correct 13 = .ok (.aload_n 0, 1) := by decide +kernel
theorem dX12_correct_14 : decode cX12_correct 14 = .ok (.iload_n 1, 1) := by decide +kernel
theorem dX12_correct_15 : decode cX12_correct 15 = .ok (.iconst 3, 1) := by decide +kernel
theorem dX12_correct_16 : decode cX12_correct 16 = .ok (.invokevirtual 83, 3) := by decide +kernel
theorem dX12_correct_19 : decode cX12_correct 19 = .ok (.ldc2_w 87, 3) := by decide +kernel
theorem dX12_correct_22 : decode cX12_correct 22 = .ok (.lcmp, 1) := by decide +kernel
theorem dX12_correct_23 : decode cX12_correct 23 = .ok (.ifCond .ne 7, 3) := by decide +kernel
theorem dX12_correct_26 : decode cX12_correct 26 = .ok (.iconst 2, 1) := by decide +kernel
theorem dX12_correct_27 : decode cX12_correct 27 = .ok (.goto 4, 3) := by decide +kernel
theorem dX12_correct_30 : decode cX12_correct 30 = .ok (.iconst 0, 1) := by decide +kernel
theorem dX12_correct_31 : decode cX12_correct 31 = .ok (.putfield 62, 3) := by decide +kernel
theorem dX12_correct_34 : decode cX12_correct 34 = .ok (.aload_n 0, 1) := by decide +kernel
theorem dX12_correct_35 : decode cX12_correct 35 = .ok (.getfield 62, 3) := by decide +kernel
theorem dX12_correct_38 : decode cX12_correct 38 = .ok (.ifCond .eq 5, 3) := by decide +kernel
theorem dX12_correct_41 : decode cX12_correct 41 = .ok (.iconst 0, 1) := by decide +kernel
theorem dX12_correct_42 : decode cX12_correct 42 = .ok (.ireturn, 1) := by decide +kernel
theorem dX12_correct_43 : decode cX12_correct 43 = .ok (.aload_n 0, 1) := by decide +kernel
theorem dX12_correct_44 : decode cX12_correct 44 = .ok (.invokevirtual 131, 3) := by decide +kernel
theorem dX12_correct_47 : decode cX12_correct 47 = .ok (.aload_n 0, 1) := by decide +kernel
theorem dX12_correct_48 : decode cX12_correct 48 = .ok (.iload_n 1, 1) := by decide +kernel
theorem dX12_correct_49 : decode cX12_correct 49 = .ok (.invokevirtual 208, 3) := by decide +kernel
theorem dX12_correct_52 : decode cX12_correct 52 = .ok (.ireturn, 1) := by decide +kernel
theorem dX12_arrange_0 : decode cX12_arrange 0 = .ok (.iconst 0, 1) := by decide +kernel
theorem dX12_arrange_1 : decode cX12_arrange 1 = .ok (.istore_n 1, 1) := by decide +kernel
theorem dX12_arrange_2 : decode cX12_arrange 2 = .ok (.iconst 0, 1) := by decide +kernel
theorem dX12_arrange_3 : decode cX12_arrange 3 = .ok (.istore_n 2, 1) := by decide +kernel
theorem dX12_arrange_4 : decode cX12_arrange 4 = .ok (.iload_n 2, 1) := by decide +kernel
theorem dX12_arrange_5 : decode cX12_arrange 5 = .ok (.i2l, 1) := by decide +kernel
theorem dX12_arrange_6 : decode cX12_arrange 6 = .ok (.aload_n 0, 1) := by decide +kernel
theorem dX12_arrange_7 : decode cX12_arrange 7 = .ok (.getfield 7, 3) := by decide +kernel
theorem dX12_arrange_10 : decode cX12_arrange 10 = .ok (.bipush 7, 2) := by decide +kernel
theorem dX12_arrange_12 : decode cX12_arrange 12 = .ok (.laload, 1) := by decide +kernel
theorem dX12_arrange_13 : decode cX12_arrange 13 = .ok (.lcmp, 1) := by decide +kernel
theorem dX12_arrange_14 : decode cX12_arrange 14 = .ok (.ifCond .ge 123, 3) := by decide +kernel
theorem dX12_arrange_17 : decode cX12_arrange 17 = .ok (.aload_n 0, 1) := by decide +kernel
theorem dX12_arrange_18 : decode cX12_arrange 18 = .ok (.iload_n 2, 1) := by decide +kernel
theorem dX12_arrange_19 : decode cX12_arrange 19 = .ok (.invokevirtual 89, 3) := by decide +kernel
theorem dX12_arrange_22 : decode cX12_arrange 22 = .ok (.ifCond .eq 109, 3) := by decide +kernel
theorem dX12_arrange_25 : decode cX12_arrange 25 = .ok (.aload_n 0, 1) := by decide +kernel
theorem dX12_arrange_26 : decode cX12_arrange 26 = .ok (.getfield 42, 3) := by decide +kernel
theorem dX12_arrange_29 : decode cX12_arrange 29 = .ok (.iload_n 2, 1) := by decide +kernel
theorem dX12_arrange_30 : decode cX12_arrange 30 = .ok (.aload_n 0, 1) := by decide +kernel
theorem dX12_arrange_31 : decode cX12_arrange 31 = .ok (.getfield 7, 3) := by decide +kernel
theorem dX12_arrange_34 : decode cX12_arrange 34 = .ok (.iconst 5, 1) := by decide +kernel
theorem dX12_arrange_35 : decode cX12_arrange 35 = .ok (.laload, 1) := by decide +kernel
theorem dX12_arrange_36 : decode cX12_arrange 36 = .ok (.lconst 1, 1) := by decide +kernel
theorem dX12_arrange_37 : decode cX12_arrange 37 = .ok (.lcmp, 1) := by decide +kernel
theorem dX12_arrange_38 : decode cX12_arrange 38 = .ok (.ifCond .ne 8, 3) := by decide +kernel
theorem dX12_arrange_41 : decode cX12_arrange 41 = .ok (.iload_n 2, 1) := by decide +kernel
theorem dX12_arrange_42 : decode cX12_arrange 42 = .ok (.i2l, 1) := by decide +kernel
theorem dX12_arrange_43 : decode cX12_arrange 43 = .ok (.goto 28, 3) := by decide +kernel
theorem dX12_arrange_46 : decode cX12_arrange 46 = .ok (.aload_n 0, 1) := by decide +kernel
theorem dX12_arrange_47 : decode cX12_arrange 47 = .ok (.getfield 7, 3) := by decide +kernel
theorem dX12_arrange_50 : decode cX12_arrange 50 = .ok (.iconst 5, 1) := by decide +kernel
theorem dX12_arrange_51 : decode cX12_arrange 51 = .ok (.laload, 1) := by decide +kernel
theorem dX12_arrange_52 : decode cX12_arrange 52 = .ok (.ldc2_w 93, 3) := by decide +kernel
theorem dX12_arrange_55 : decode cX12_arrange 55 = .ok (.lcmp, 1) := by decide +kernel
theorem dX12_arrange_56 : decode cX12_arrange 56 = .ok (.ifCond .ne 14, 3) := by decide +kernel
theorem dX12_arrange_59 : decode cX12_arrange 59 = .ok (.aload_n 0, 1) := by decide +kernel
theorem dX12_arrange_60 : decode cX12_arrange 60 = .ok (.iload_n 2, 1) := by decide +kernel
theorem dX12_arrange_61 : decode cX12_arrange 61 = .ok (.invokevirtual 211, 3) := by decide +kernel
theorem dX12_arrange_64 : decode cX12_arrange 64 = .ok (.invokestatic 214, 3) := by decide +kernel
theorem dX12_arrange_67 : decode cX12_arrange 67 = .ok (.goto 4, 3) := by decide +kernel
theorem dX12_arrange_70 : decode cX12_arrange 70 = .ok (.lconst 0, 1) := by decide +kernel
theorem dX12_arrange_71 : decode cX12_arrange 71 = .ok (.lastore, 1) := by decide +kernel
theorem dX12_arrange_72 : decode cX12_arrange 72 = .ok (.iload_n 1, 1) := by decide +kernel
theorem dX12_arrange_73 : decode cX12_arrange 73 = .ok (.istore_n 3, 1) := by decide +kernel
theorem dX12_arrange_74 : decode cX12_arrange 74 = .ok (.iload_n 3, 1) := by decide +kernel
theorem dX12_arrange_75 : decode cX12_arrange 75 = .ok (.ifCond .le 46, 3) := by decide +kernel
theorem dX12_arrange_78 : decode cX12_arrange 78 = .ok (.aload_n 0, 1) := by decide +kernel
theorem dX12_arrange_79 : decode cX12_arrange 79 = .ok (.getfield 42, 3) := by decide +kernel
theorem dX12_arrange_82 : decode cX12_arrange 82 = .ok (.aload_n 0, 1) := by decide +kernel
theorem dX12_arrange_83 : decode cX12_arrange 83 = .ok (.getfield 39, 3) := by decide +kernel
theorem dX12_arrange_86 : decode cX12_arrange 86 = .ok (.iload_n 3, 1) := by decide +kernel
theorem dX12_arrange_87 : decode cX12_arrange 87 = .ok (.iconst 1, 1) := by decide +kernel
theorem dX12_arrange_88 : decode cX12_arrange 88 = .ok (.isub, 1) := by decide +kernel
theorem dX12_arrange_89 : decode cX12_arrange 89 = .ok (.iaload, 1) := by decide +kernel
theorem dX12_arrange_90 : decode cX12_arrange 90 = .ok (.laload, 1) := by decide +kernel
theorem dX12_arrange_91 : decode cX12_arrange 91 = .ok (.aload_n 0, 1) := by decide +kernel
theorem dX12_arrange_92 : decode cX12_arrange 92 = .ok (.getfield 42, 3) := by decide +kernel
theorem dX12_arrange_95 : decode cX12_arrange 95 = .ok (.iload_n 2, 1) := by decide +kernel
theorem dX12_arrange_96 : decode cX12_arrange 96 = .ok (.laload, 1) := by decide +kernel
theorem dX12_arrange_97 : decode cX12_arrange 97 = .ok (.lcmp, 1) := by decide +kernel
theorem dX12_arrange_98 : decode cX12_arrange 98 = .ok (.ifCond .ge 23, 3) := by decide +kernel
theorem dX12_arrange_101 : decode cX12_arrange 101 = .ok (.aload_n 0, 1) := by decide +kernel
theorem dX12_arrange_102 : decode cX12_arrange 102 = .ok (.getfield 39, 3) := by decide +kernel
theorem dX12_arrange_105 : decode cX12_arrange 105 = .ok (.iload_n 3, 1) := by decide +kernel
theorem dX12_arrange_106 : decode cX12_arrange 106 = .ok (.aload_n 0, 1) := by decide +kernel
theorem dX12_arrange_107 : decode cX12_arrange 107 = .ok (.getfield 39, 3) := by decide +kernel
theorem dX12_arrange_110 : decode cX12_arrange 110 = .ok (.iload_n 3, 1) := by decide +kernel
theorem dX12_arrange_111 : decode cX12_arrange 111 = .ok (.iconst 1, 1) := by decide +kernel
theorem dX12_arrange_112 : decode cX12_arrange 112 = .ok (.isub, 1) := by decide +kernel
theorem dX12_arrange_113 : decode cX12_arrange 113 = .ok (.iaload, 1) := by decide +kernel
theorem dX12_arrange_114 : decode cX12_arrange 114 = .ok (.iastore, 1) := by decide +kernel
theorem dX12_arrange_115 : decode cX12_arrange 115 = .ok (.iinc 3 (-1), 3) := by decide +kernel
theorem dX12_arrange_118 : decode cX12_arrange 118 = .ok (.goto (-44), 3) := by decide +kernel
theorem dX12_arrange_121 : decode cX12_arrange 121 = .ok (.aload_n 0, 1) := by decide +kernel
theorem dX12_arrange_122 : decode cX12_arrange 122 = .ok (.getfield 39, 3) := by decide +kernel
theorem dX12_arrange_125 : decode cX12_arrange 125 = .ok (.iload_n 3, 1) := by decide +kernel
theorem dX12_arrange_126 : decode cX12_arrange 126 = .ok (.iload_n 2, 1) := by decide +kernel
theorem dX12_arrange_127 : decode cX12_arrange 127 = .ok (.iastore, 1) := by decide +kernel
theorem dX12_arrange_128 : decode cX12_arrange 128 = .ok (.iinc 1 1, 3) := by decide +kernel
theorem dX12_arrange_131 : decode cX12_arrange 131 = .ok (.iinc 2 1, 3) := by decide +kernel
theorem dX12_arrange_134 : decode cX12_arrange 134 = .ok (.goto (-130), 3) := by decide +kernel
theorem dX12_arrange_137 : decode cX12_arrange 137 = .ok (.iload_n 1, 1) := by decide +kernel
theorem dX12_arrange_138 : decode cX12_arrange 138 = .ok (.ireturn, 1) := by decide +kernel
theorem dX12_shuffle_0 : decode cX12_shuffle 0 = .ok (.iconst 0, 1) := by decide +kernel
theorem dX12_shuffle_1 : decode cX12_shuffle 1 = .ok (.istore_n 2, 1) := by decide +kernel
theorem dX12_shuffle_2 : decode cX12_shuffle 2 = .ok (.iload_n 2, 1) := by decide +kernel
theorem dX12_shuffle_3 : decode cX12_shuffle 3 = .ok (.iload_n 1, 1) := by decide +kernel
theorem dX12_shuffle_4 : decode cX12_shuffle 4 = .ok (.if_icmp .ge 21, 3) := by decide +kernel
theorem dX12_shuffle_7 : decode cX12_shuffle 7 = .ok (.aload_n 0, 1) := by decide +kernel
theorem dX12_shuffle_8 : decode cX12_shuffle 8 = .ok (.getfield 45, 3) := by decide +kernel
theorem dX12_shuffle_11 : decode cX12_shuffle 11 = .ok (.iload_n 2, 1) := by decide +kernel
theorem dX12_shuffle_12 : decode cX12_shuffle 12 = .ok (.aload_n 0, 1) := by decide +kernel
theorem dX12_shuffle_13 : decode cX12_shuffle 13 = .ok (.getfield 39, 3) := by decide +kernel
theorem dX12_shuffle_16 : decode cX12_shuffle 16 = .ok (.iload_n 2, 1) := by decide +kernel
theorem dX12_shuffle_17 : decode cX12_shuffle 17 = .ok (.iaload, 1) := by decide +kernel
theorem dX12_shuffle_18 : decode cX12_shuffle 18 = .ok (.iastore, 1) := by decide +kernel
theorem dX12_shuffle_19 : decode cX12_shuffle 19 = .ok (.iinc 2 1, 3) := by decide +kernel
theorem dX12_shuffle_22 : decode cX12_shuffle 22 = .ok (.goto (-20), 3) := by decide +kernel
theorem dX12_shuffle_25 : decode cX12_shuffle 25 = .ok (.iconst 0, 1) := by decide +kernel
theorem dX12_shuffle_26 : decode cX12_shuffle 26 = .ok (.istore_n 2, 1) := by decide +kernel
theorem dX12_shuffle_27 : decode cX12_shuffle 27 = .ok (.iload_n 2, 1) := by decide +kernel
theorem dX12_shuffle_28 : decode cX12_shuffle 28 = .ok (.iload_n 1, 1) := by decide +kernel
theorem dX12_shuffle_29 : decode cX12_shuffle 29 = .ok (.if_icmp .ge 89, 3) := by decide +kernel
theorem dX12_shuffle_32 : decode cX12_shuffle 32 = .ok (.aload_n 0, 1) := by decide +kernel
theorem dX12_shuffle_33 : decode cX12_shuffle 33 = .ok (.getfield 7, 3) := by decide +kernel
theorem dX12_shuffle_36 : decode cX12_shuffle 36 = .ok (.bipush 6, 2) := by decide +kernel
theorem dX12_shuffle_38 : decode cX12_shuffle 38 = .ok (.aload_n 0, 1) := by decide +kernel
theorem dX12_shuffle_39 : decode cX12_shuffle 39 = .ok (.getfield 7, 3) := by decide +kernel
theorem dX12_shuffle_42 : decode cX12_shuffle 42 = .ok (.bipush 6, 2) := by decide +kernel
theorem dX12_shuffle_44 : decode cX12_shuffle 44 = .ok (.laload, 1) := by decide +kernel
theorem dX12_shuffle_45 : decode cX12_shuffle 45 = .ok (.invokestatic 187, 3) := by decide +kernel
theorem dX12_shuffle_48 : decode cX12_shuffle 48 = .ok (.lastore, 1) := by decide +kernel
theorem dX12_shuffle_49 : decode cX12_shuffle 49 = .ok (.aload_n 0, 1) := by decide +kernel
theorem dX12_shuffle_50 : decode cX12_shuffle 50 = .ok (.getfield 7, 3) := by decide +kernel
theorem dX12_shuffle_53 : decode cX12_shuffle 53 = .ok (.bipush 6, 2) := by decide +kernel
theorem dX12_shuffle_55 : decode cX12_shuffle 55 = .ok (.laload, 1) := by decide +kernel
theorem dX12_shuffle_56 : decode cX12_shuffle 56 = .ok (.ldc2_w 191, 3) := by decide +kernel
theorem dX12_shuffle_59 : decode cX12_shuffle 59 = .ok (.ldiv, 1) := by decide +kernel
theorem dX12_shuffle_60 : decode cX12_shuffle 60 = .ok (.iload_n 1, 1) := by decide +kernel
theorem dX12_shuffle_61 : decode cX12_shuffle 61 = .ok (.iload_n 2, 1) := by decide +kernel
theorem dX12_shuffle_62 : decode cX12_shuffle 62 = .ok (.isub, 1) := by decide +kernel
theorem dX12_shuffle_63 : decode cX12_shuffle 63 = .ok (.i2l, 1) := by decide +kernel
theorem dX12_shuffle_64 : decode cX12_shuffle 64 = .ok (.lrem, 1) := by decide +kernel
theorem dX12_shuffle_65 : decode cX12_shuffle 65 = .ok (.l2i, 1) := by decide +kernel
theorem dX12_shuffle_66 : decode cX12_shuffle 66 = .ok (.istore_n 3, 1) := by decide +kernel
theorem dX12_shuffle_67 : decode cX12_shuffle 67 = .ok (.aload_n 0, 1) := by decide +kernel
theorem dX12_shuffle_68 : decode cX12_shuffle 68 = .ok (.getfield 39, 3) := by decide +kernel
theorem dX12_shuffle_71 : decode cX12_shuffle 71 = .ok (.iload_n 2, 1) := by decide +kernel
theorem dX12_shuffle_72 : decode cX12_shuffle 72 = .ok (.aload_n 0, 1) := by decide +kernel
theorem dX12_shuffle_73 : decode cX12_shuffle 73 = .ok (.getfield 45, 3) := by decide +kernel
theorem dX12_shuffle_76 : decode cX12_shuffle 76 = .ok (.iload_n 3, 1) := by decide +kernel
theorem dX12_shuffle_77 : decode cX12_shuffle 77 = .ok (.iaload, 1) := by decide +kernel
theorem dX12_shuffle_78 : decode cX12_shuffle 78 = .ok (.iastore, 1) := by decide +kernel
theorem dX12_shuffle_79 : decode cX12_shuffle 79 = .ok (.iload_n 3, 1) := by decide +kernel
theorem dX12_shuffle_80 : decode cX12_shuffle 80 = .ok (.istore 4, 2) := by decide +kernel
theorem dX12_shuffle_82 : decode cX12_shuffle 82 = .ok (.iload 4, 2) := by decide +kernel
theorem dX12_shuffle_84 : decode cX12_shuffle 84 = .ok (.iconst 1, 1) := by decide +kernel
theorem dX12_shuffle_85 : decode cX12_shuffle 85 = .ok (.iadd, 1) := by decide +kernel
theorem dX12_shuffle_86 : decode cX12_shuffle 86 = .ok (.iload_n 1, 1) := by decide +kernel
theorem dX12_shuffle_87 : decode cX12_shuffle 87 = .ok (.if_icmp .ge 25, 3) := by decide +kernel
theorem dX12_shuffle_90 : decode cX12_shuffle 90 = .ok (.aload_n 0, 1) := by decide +kernel
theorem dX12_shuffle_91 : decode cX12_shuffle 91 = .ok (.getfield 45, 3) := by decide +kernel
theorem dX12_shuffle_94 : decode cX12_shuffle 94 = .ok (.iload 4, 2) := by decide +kernel
theorem dX12_shuffle_96 : decode cX12_shuffle 96 = .ok (.aload_n 0, 1) := by decide +kernel
theorem dX12_shuffle_97 : decode cX12_shuffle 97 = .ok (.getfield 45, 3) := by decide +kernel
theorem dX12_shuffle_100 : decode cX12_shuffle 100 = .ok (.iload 4, 2) := by decide +kernel
theorem dX12_shuffle_102 : decode cX12_shuffle 102 = .ok (.iconst 1, 1) := by decide +kernel
theorem dX12_shuffle_103 : decode cX12_shuffle 103 = .ok (.iadd, 1) := by decide +kernel
theorem dX12_shuffle_104 : decode cX12_shuffle 104 = .ok (.iaload, 1) := by decide +kernel
theorem dX12_shuffle_105 : decode cX12_shuffle 105 = .ok (.iastore, 1) := by decide +kernel
theorem dX12_shuffle_106 : decode cX12_shuffle 106 = .ok (.iinc 4 1, 3) := by decide +kernel
theorem dX12_shuffle_109 : decode cX12_shuffle 109 = .ok (.goto (-27), 3) := by decide +kernel
theorem dX12_shuffle_112 : decode cX12_shuffle 112 = .ok (.iinc 2 1, 3) := by decide +kernel
theorem dX12_shuffle_115 : decode cX12_shuffle 115 = .ok (.goto (-88), 3) := by decide +kernel
theorem dX12_shuffle_118 : decode cX12_shuffle 118 = .ok (.return_, 1) := by decide +kernel
theorem dX12_sweeps_0 : decode cX12_sweeps 0 = .ok (.iconst 0, 1) := by decide +kernel
theorem dX12_sweeps_1 : decode cX12_sweeps 1 = .ok (.istore_n 2, 1) := by decide +kernel
theorem dX12_sweeps_2 : decode cX12_sweeps 2 = .ok (.iconst 0, 1) := by decide +kernel
theorem dX12_sweeps_3 : decode cX12_sweeps 3 = .ok (.istore_n 3, 1) := by decide +kernel
theorem dX12_sweeps_4 : decode cX12_sweeps 4 = .ok (.iload_n 3, 1) := by decide +kernel
theorem dX12_sweeps_5 : decode cX12_sweeps 5 = .ok (.iload_n 1, 1) := by decide +kernel
theorem dX12_sweeps_6 : decode cX12_sweeps 6 = .ok (.if_icmp .ge 68, 3) := by decide +kernel
theorem dX12_sweeps_9 : decode cX12_sweeps 9 = .ok (.aload_n 0, 1) := by decide +kernel
theorem dX12_sweeps_10 : decode cX12_sweeps 10 = .ok (.invokevirtual 217, 3) := by decide +kernel
theorem dX12_sweeps_13 : decode cX12_sweeps 13 = .ok (.istore 4, 2) := by decide +kernel
theorem dX12_sweeps_15 : decode cX12_sweeps 15 = .ok (.aload_n 0, 1) := by decide +kernel
theorem dX12_sweeps_16 : decode cX12_sweeps 16 = .ok (.getfield 7, 3) := by decide +kernel
theorem dX12_sweeps_19 : decode cX12_sweeps 19 = .ok (.iconst 5, 1) := by decide +kernel
theorem dX12_sweeps_20 : decode cX12_sweeps 20 = .ok (.laload, 1) := by decide +kernel
theorem dX12_sweeps_21 : decode cX12_sweeps 21 = .ok (.ldc2_w 202, 3) := by decide +kernel
theorem dX12_sweeps_24 : decode cX12_sweeps 24 = .ok (.lcmp, 1) := by decide +kernel
theorem dX12_sweeps_25 : decode cX12_sweeps 25 = .ok (.ifCond .ne 9, 3) := by decide +kernel
theorem dX12_sweeps_28 : decode cX12_sweeps 28 = .ok (.aload_n 0, 1) := by decide +kernel
theorem dX12_sweeps_29 : decode cX12_sweeps 29 = .ok (.iload 4, 2) := by decide +kernel
theorem dX12_sweeps_31 : decode cX12_sweeps 31 = .ok (.invokevirtual 220, 3) := by decide +kernel
theorem dX12_sweeps_34 : decode cX12_sweeps 34 = .ok (.iconst 0, 1) := by decide +kernel
theorem dX12_sweeps_35 : decode cX12_sweeps 35 = .ok (.istore 5, 2) := by decide +kernel
theorem dX12_sweeps_37 : decode cX12_sweeps 37 = .ok (.iload 5, 2) := by decide +kernel
theorem dX12_sweeps_39 : decode cX12_sweeps 39 = .ok (.iload 4, 2) := by decide +kernel
theorem dX12_sweeps_41 : decode cX12_sweeps 41 = .ok (.if_icmp .ge 22, 3) := by decide +kernel
theorem dX12_sweeps_44 : decode cX12_sweeps 44 = .ok (.aload_n 0, 1) := by decide +kernel
theorem dX12_sweeps_45 : decode cX12_sweeps 45 = .ok (.aload_n 0, 1) := by decide +kernel
theorem dX12_sweeps_46 : decode cX12_sweeps 46 = .ok (.getfield 39, 3) := by decide +kernel
theorem dX12_sweeps_49 : decode cX12_sweeps 49 = .ok (.iload 5, 2) := by decide +kernel
theorem dX12_sweeps_51 : decode cX12_sweeps 51 = .ok (.iaload, 1) := by decide +kernel
theorem dX12_sweeps_52 : decode cX12_sweeps 52 = .ok (.invokevirtual 208, 3) := by decide +kernel
theorem dX12_sweeps_55 : decode cX12_sweeps 55 = .ok (.istore 6, 2) := by decide +kernel
theorem dX12_sweeps_57 : decode cX12_sweeps 57 = .ok (.iinc 5 1, 3) := by decide +kernel
theorem dX12_sweeps_60 : decode cX12_sweeps 60 = .ok (.goto (-23), 3) := by decide +kernel
theorem dX12_sweeps_63 : decode cX12_sweeps 63 = .ok (.iload_n 2, 1) := by decide +kernel
theorem dX12_sweeps_64 : decode cX12_sweeps 64 = .ok (.iload 4, 2) := by decide +kernel
theorem dX12_sweeps_66 : decode cX12_sweeps 66 = .ok (.iadd, 1) := by decide +kernel
theorem dX12_sweeps_67 : decode cX12_sweeps 67 = .ok (.istore_n 2, 1) := by decide +kernel
theorem dX12_sweeps_68 : decode cX12_sweeps 68 = .ok (.iinc 3 1, 3) := by decide +kernel
theorem dX12_sweeps_71 : decode cX12_sweeps 71 = .ok (.goto (-67), 3) := by decide +kernel
theorem dX12_sweeps_74 : decode cX12_sweeps 74 = .ok (.iload_n 2, 1) := by decide +kernel
theorem dX12_sweeps_75 : decode cX12_sweeps 75 = .ok (.ireturn, 1) := by decide +kernel
theorem dX12_sweep_0 : decode cX12_sweep 0 = .ok (.aload_n 0, 1) := by decide +kernel
theorem dX12_sweep_1 : decode cX12_sweep 1 = .ok (.iload_n 1, 1) := by decide +kernel
theorem dX12_sweep_2 : decode cX12_sweep 2 = .ok (.i2l, 1) := by decide +kernel
theorem dX12_sweep_3 : decode cX12_sweep 3 = .ok (.lconst 1, 1) := by decide +kernel
theorem dX12_sweep_4 : decode cX12_sweep 4 = .ok (.ldc2_w 223, 3) := by decide +kernel
theorem dX12_sweep_7 : decode cX12_sweep 7 = .ok (.invokestatic 79, 3) := by decide +kernel
theorem dX12_sweep_10 : decode cX12_sweep 10 = .ok (.ifCond .eq 7, 3) := by decide +kernel
theorem dX12_sweep_13 : decode cX12_sweep 13 = .ok (.iconst 0, 1) := by decide +kernel
theorem dX12_sweep_14 : decode cX12_sweep 14 = .ok (.goto 4, 3) := by decide +kernel
theorem dX12_sweep_17 : decode cX12_sweep 17 = .ok (.iconst 1, 1) := by decide +kernel
theorem dX12_sweep_18 : decode cX12_sweep 18 = .ok (.putfield 62, 3) := by decide +kernel
theorem dX12_sweep_21 : decode cX12_sweep 21 = .ok (.aload_n 0, 1) := by decide +kernel
theorem dX12_sweep_22 : decode cX12_sweep 22 = .ok (.getfield 62, 3) := by decide +kernel
theorem dX12_sweep_25 : decode cX12_sweep 25 = .ok (.ifCond .eq 5, 3) := by decide +kernel
theorem dX12_sweep_28 : decode cX12_sweep 28 = .ok (.iconst 0, 1) := by decide +kernel
theorem dX12_sweep_29 : decode cX12_sweep 29 = .ok (.ireturn, 1) := by decide +kernel
theorem dX12_sweep_30 : decode cX12_sweep 30 = .ok (.aload_n 0, 1) := by decide +kernel
theorem dX12_sweep_31 : decode cX12_sweep 31 = .ok (.invokevirtual 131, 3) := by decide +kernel
theorem dX12_sweep_34 : decode cX12_sweep 34 = .ok (.aload_n 0, 1) := by decide +kernel
theorem dX12_sweep_35 : decode cX12_sweep 35 = .ok (.iload_n 1, 1) := by decide +kernel
theorem dX12_sweep_36 : decode cX12_sweep 36 = .ok (.invokevirtual 225, 3) := by decide +kernel
theorem dX12_sweep_39 : decode cX12_sweep 39 = .ok (.ireturn, 1) := by decide +kernel
theorem dX12_layFresh_0 : decode cX12_layFresh 0 = .ok (.iconst 0, 1) := by decide +kernel
theorem dX12_layFresh_1 : decode cX12_layFresh 1 = .ok (.istore_n 1, 1) := by decide +kernel
theorem dX12_layFresh_2 : decode cX12_layFresh 2 = .ok (.iconst 0, 1) := by decide +kernel
theorem dX12_layFresh_3 : decode cX12_layFresh 3 = .ok (.istore_n 2, 1) := by decide +kernel
theorem dX12_layFresh_4 : decode cX12_layFresh 4 = .ok (.iload_n 2, 1) := by decide +kernel
theorem dX12_layFresh_5 : decode cX12_layFresh 5 = .ok (.aload_n 0, 1) := by decide +kernel
theorem dX12_layFresh_6 : decode cX12_layFresh 6 = .ok (.invokevirtual 76, 3) := by decide +kernel
theorem dX12_layFresh_9 : decode cX12_layFresh 9 = .ok (.if_icmp .ge 26, 3) := by decide +kernel
theorem dX12_layFresh_12 : decode cX12_layFresh 12 = .ok (.iload_n 1, 1) := by decide +kernel
theorem dX12_layFresh_13 : decode cX12_layFresh 13 = .ok (.aload_n 0, 1) := by decide +kernel
theorem dX12_layFresh_14 : decode cX12_layFresh 14 = .ok (.bipush 8, 2) := by decide +kernel
theorem dX12_layFresh_16 : decode cX12_layFresh 16 = .ok (.iload_n 2, 1) := by decide +kernel
theorem dX12_layFresh_17 : decode cX12_layFresh 17 = .ok (.iadd, 1) := by decide +kernel
theorem dX12_layFresh_18 : decode cX12_layFresh 18 = .ok (.aload_n 0, 1) := by decide +kernel
theorem dX12_layFresh_19 : decode cX12_layFresh 19 = .ok (.getfield 48, 3) := by decide +kernel
theorem dX12_layFresh_22 : decode cX12_layFresh 22 = .ok (.iload_n 2, 1) := by decide +kernel
theorem dX12_layFresh_23 : decode cX12_layFresh 23 = .ok (.laload, 1) := by decide +kernel
theorem dX12_layFresh_24 : decode cX12_layFresh 24 = .ok (.invokevirtual 152, 3) := by decide +kernel
theorem dX12_layFresh_27 : decode cX12_layFresh 27 = .ok (.iadd, 1) := by decide +kernel
theorem dX12_layFresh_28 : decode cX12_layFresh 28 = .ok (.istore_n 1, 1) := by decide +kernel
theorem dX12_layFresh_29 : decode cX12_layFresh 29 = .ok (.iinc 2 1, 3) := by decide +kernel
theorem dX12_layFresh_32 : decode cX12_layFresh 32 = .ok (.goto (-28), 3) := by decide +kernel
theorem dX12_layFresh_35 : decode cX12_layFresh 35 = .ok (.iload_n 1, 1) := by decide +kernel
theorem dX12_layFresh_36 : decode cX12_layFresh 36 = .ok (.ireturn, 1) := by decide +kernel
theorem dX12_smooths_0 : decode cX12_smooths 0 = .ok (.iconst 0, 1) := by decide +kernel
theorem dX12_smooths_1 : decode cX12_smooths 1 = .ok (.istore_n 2, 1) := by decide +kernel
theorem dX12_smooths_2 : decode cX12_smooths 2 = .ok (.iload_n 2, 1) := by decide +kernel
theorem dX12_smooths_3 : decode cX12_smooths 3 = .ok (.aload_n 0, 1) := by decide +kernel
theorem dX12_smooths_4 : decode cX12_smooths 4 = .ok (.invokevirtual 76, 3) := by decide +kernel
theorem dX12_smooths_7 : decode cX12_smooths 7 = .ok (.if_icmp .ge 113, 3) := by decide +kernel
theorem dX12_smooths_10 : decode cX12_smooths 10 = .ok (.iload_n 1, 1) := by decide +kernel
theorem dX12_smooths_11 : decode cX12_smooths 11 = .ok (.i2l, 1) := by decide +kernel
theorem dX12_smooths_12 : decode cX12_smooths 12 = .ok (.aload_n 0, 1) := by decide +kernel
theorem dX12_smooths_13 : decode cX12_smooths 13 = .ok (.getfield 7, 3) := by decide +kernel
theorem dX12_smooths_16 : decode cX12_smooths 16 = .ok (.bipush 8, 2) := by decide +kernel
theorem dX12_smooths_18 : decode cX12_smooths 18 = .ok (.iload_n 2, 1) := by decide +kernel
theorem dX12_smooths_19 : decode cX12_smooths 19 = .ok (.iadd, 1) := by decide +kernel
theorem dX12_smooths_20 : decode cX12_smooths 20 = .ok (.laload, 1) := by decide +kernel
theorem dX12_smooths_21 : decode cX12_smooths 21 = .ok (.lmul, 1) := by decide +kernel
theorem dX12_smooths_22 : decode cX12_smooths 22 = .ok (.lstore_n 3, 1) := by decide +kernel
theorem dX12_smooths_23 : decode cX12_smooths 23 = .ok (.iload_n 1, 1) := by decide +kernel
theorem dX12_smooths_24 : decode cX12_smooths 24 = .ok (.istore 5, 2) := by decide +kernel
theorem dX12_smooths_26 : decode cX12_smooths 26 = .ok (.iconst 0, 1) := by decide +kernel
theorem dX12_smooths_27 : decode cX12_smooths 27 = .ok (.istore 6, 2) := by decide +kernel
theorem dX12_smooths_29 : decode cX12_smooths 29 = .ok (.iload 6, 2) := by decide +kernel
theorem dX12_smooths_31 : decode cX12_smooths 31 = .ok (.aload_n 0, 1) := by decide +kernel
theorem dX12_smooths_32 : decode cX12_smooths 32 = .ok (.invokevirtual 76, 3) := by decide +kernel
theorem dX12_smooths_35 : decode cX12_smooths 35 = .ok (.if_icmp .ge 66, 3) := by decide +kernel
theorem dX12_smooths_38 : decode cX12_smooths 38 = .ok (.aload_n 0, 1) := by decide +kernel
theorem dX12_smooths_39 : decode cX12_smooths 39 = .ok (.iload_n 2, 1) := by decide +kernel
theorem dX12_smooths_40 : decode cX12_smooths 40 = .ok (.iload 6, 2) := by decide +kernel
theorem dX12_smooths_42 : decode cX12_smooths 42 = .ok (.invokevirtual 100, 3) := by decide +kernel
theorem dX12_smooths_45 : decode cX12_smooths 45 = .ok (.sipush 1000, 3) := by decide +kernel
theorem dX12_smooths_48 : decode cX12_smooths 48 = .ok (.if_icmp .ne 7, 3) := by decide +kernel
theorem dX12_smooths_51 : decode cX12_smooths 51 = .ok (.iconst 1, 1) := by decide +kernel
theorem dX12_smooths_52 : decode cX12_smooths 52 = .ok (.goto 4, 3) := by decide +kernel
theorem dX12_smooths_55 : decode cX12_smooths 55 = .ok (.iconst 0, 1) := by decide +kernel
theorem dX12_smooths_56 : decode cX12_smooths 56 = .ok (.istore 7, 2) := by decide +kernel
theorem dX12_smooths_58 : decode cX12_smooths 58 = .ok (.lload_n 3, 1) := by decide +kernel
theorem dX12_smooths_59 : decode cX12_smooths 59 = .ok (.iload 7, 2) := by decide +kernel
theorem dX12_smooths_61 : decode cX12_smooths 61 = .ok (.ifCond .eq 16, 3) := by decide +kernel
theorem dX12_smooths_64 : decode cX12_smooths 64 = .ok (.aload_n 0, 1) := by decide +kernel
theorem dX12_smooths_65 : decode cX12_smooths 65 = .ok (.getfield 7, 3) := by decide +kernel
theorem dX12_smooths_68 : decode cX12_smooths 68 = .ok (.bipush 8, 2) := by decide +kernel
theorem dX12_smooths_70 : decode cX12_smooths 70 = .ok (.iload 6, 2) := by decide +kernel
theorem dX12_smooths_72 : decode cX12_smooths 72 = .ok (.iadd, 1) := by decide +kernel
theorem dX12_smooths_73 : decode cX12_smooths 73 = .ok (.laload, 1) := by decide +kernel
theorem dX12_smooths_74 : decode cX12_smooths 74 = .ok (.goto 4, 3) := by decide +kernel
theorem dX12_smooths_77 : decode cX12_smooths 77 = .ok (.lconst 0, 1) := by decide +kernel
theorem dX12_smooths_78 : decode cX12_smooths 78 = .ok (.ladd, 1) := by decide +kernel
theorem dX12_smooths_79 : decode cX12_smooths 79 = .ok (.lstore_n 3, 1) := by decide +kernel
theorem dX12_smooths_80 : decode cX12_smooths 80 = .ok (.iload 5, 2) := by decide +kernel
theorem dX12_smooths_82 : decode cX12_smooths 82 = .ok (.iload 7, 2) := by decide +kernel
theorem dX12_smooths_84 : decode cX12_smooths 84 = .ok (.ifCond .eq 7, 3) := by decide +kernel
theorem dX12_smooths_87 : decode cX12_smooths 87 = .ok (.iconst 1, 1) := by decide +kernel
theorem dX12_smooths_88 : decode cX12_smooths 88 = .ok (.goto 4, 3) := by decide +kernel
theorem dX12_smooths_91 : decode cX12_smooths 91 = .ok (.iconst 0, 1) := by decide +kernel
theorem dX12_smooths_92 : decode cX12_smooths 92 = .ok (.iadd, 1) := by decide +kernel
theorem dX12_smooths_93 : decode cX12_smooths 93 = .ok (.istore 5, 2) := by decide +kernel
theorem dX12_smooths_95 : decode cX12_smooths 95 = .ok (.iinc 6 1, 3) := by decide +kernel
theorem dX12_smooths_98 : decode cX12_smooths 98 = .ok (.goto (-69), 3) := by decide +kernel
theorem dX12_smooths_101 : decode cX12_smooths 101 = .ok (.aload_n 0, 1) := by decide +kernel
theorem dX12_smooths_102 : decode cX12_smooths 102 = .ok (.getfield 48, 3) := by decide +kernel
theorem dX12_smooths_105 : decode cX12_smooths 105 = .ok (.iload_n 2, 1) := by decide +kernel
theorem dX12_smooths_106 : decode cX12_smooths 106 = .ok (.lload_n 3, 1) := by decide +kernel
theorem dX12_smooths_107 : decode cX12_smooths 107 = .ok (.iload 5, 2) := by decide +kernel
theorem dX12_smooths_109 : decode cX12_smooths 109 = .ok (.i2l, 1) := by decide +kernel
theorem dX12_smooths_110 : decode cX12_smooths 110 = .ok (.invokestatic 204, 3) := by decide +kernel
theorem dX12_smooths_113 : decode cX12_smooths 113 = .ok (.lastore, 1) := by decide +kernel
theorem dX12_smooths_114 : decode cX12_smooths 114 = .ok (.iinc 2 1, 3) := by decide +kernel
theorem dX12_smooths_117 : decode cX12_smooths 117 = .ok (.goto (-115), 3) := by decide +kernel
theorem dX12_smooths_120 : decode cX12_smooths 120 = .ok (.aload_n 0, 1) := by decide +kernel
theorem dX12_smooths_121 : decode cX12_smooths 121 = .ok (.invokevirtual 228, 3) := by decide +kernel
theorem dX12_smooths_124 : decode cX12_smooths 124 = .ok (.ireturn, 1) := by decide +kernel
theorem dX12_smooth_0 : decode cX12_smooth 0 = .ok (.aload_n 0, 1) := by decide +kernel
theorem dX12_smooth_1 : decode cX12_smooth 1 = .ok (.iload_n 1, 1) := by decide +kernel
theorem dX12_smooth_2 : decode cX12_smooth 2 = .ok (.i2l, 1) := by decide +kernel
theorem dX12_smooth_3 : decode cX12_smooth 3 = .ok (.lconst 1, 1) := by decide +kernel
theorem dX12_smooth_4 : decode cX12_smooth 4 = .ok (.ldc2_w 231, 3) := by decide +kernel
theorem dX12_smooth_7 : decode cX12_smooth 7 = .ok (.invokestatic 79, 3) := by decide +kernel
theorem dX12_smooth_10 : decode cX12_smooth 10 = .ok (.ifCond .eq 7, 3) := by decide +kernel
theorem dX12_smooth_13 : decode cX12_smooth 13 = .ok (.iconst 0, 1) := by decide +kernel
theorem dX12_smooth_14 : decode cX12_smooth 14 = .ok (.goto 4, 3) := by decide +kernel
theorem dX12_smooth_17 : decode cX12_smooth 17 = .ok (.iconst 1, 1) := by decide +kernel
theorem dX12_smooth_18 : decode cX12_smooth 18 = .ok (.putfield 62, 3) := by decide +kernel
theorem dX12_smooth_21 : decode cX12_smooth 21 = .ok (.aload_n 0, 1) := by decide +kernel
theorem dX12_smooth_22 : decode cX12_smooth 22 = .ok (.getfield 62, 3) := by decide +kernel
theorem dX12_smooth_25 : decode cX12_smooth 25 = .ok (.ifCond .eq 5, 3) := by decide +kernel
theorem dX12_smooth_28 : decode cX12_smooth 28 = .ok (.iconst 0, 1) := by decide +kernel
theorem dX12_smooth_29 : decode cX12_smooth 29 = .ok (.ireturn, 1) := by decide +kernel
theorem dX12_smooth_30 : decode cX12_smooth 30 = .ok (.aload_n 0, 1) := by decide +kernel
theorem dX12_smooth_31 : decode cX12_smooth 31 = .ok (.invokevirtual 131, 3) := by decide +kernel
theorem dX12_smooth_34 : decode cX12_smooth 34 = .ok (.aload_n 0, 1) := by decide +kernel
theorem dX12_smooth_35 : decode cX12_smooth 35 = .ok (.iload_n 1, 1) := by decide +kernel
theorem dX12_smooth_36 : decode cX12_smooth 36 = .ok (.invokevirtual 233, 3) := by decide +kernel
theorem dX12_smooth_39 : decode cX12_smooth 39 = .ok (.ireturn, 1) := by decide +kernel
theorem dX12_fills_0 : decode cX12_fills 0 = .ok (.aload_n 0, 1) := by decide +kernel
theorem dX12_fills_1 : decode cX12_fills 1 = .ok (.invokevirtual 236, 3) := by decide +kernel
theorem dX12_fills_4 : decode cX12_fills 4 = .ok (.iconst 0, 1) := by decide +kernel
theorem dX12_fills_5 : decode cX12_fills 5 = .ok (.istore_n 1, 1) := by decide +kernel
theorem dX12_fills_6 : decode cX12_fills 6 = .ok (.iload_n 1, 1) := by decide +kernel
theorem dX12_fills_7 : decode cX12_fills 7 = .ok (.aload_n 0, 1) := by decide +kernel
theorem dX12_fills_8 : decode cX12_fills 8 = .ok (.invokevirtual 76, 3) := by decide +kernel
theorem dX12_fills_11 : decode cX12_fills 11 = .ok (.if_icmp .ge 135, 3) := by decide +kernel
theorem dX12_fills_14 : decode cX12_fills 14 = .ok (.lconst 0, 1) := by decide +kernel
theorem dX12_fills_15 : decode cX12_fills 15 = .ok (.lstore_n 2, 1) := by decide +kernel
theorem dX12_fills_16 : decode cX12_fills 16 = .ok (.iconst 0, 1) := by decide +kernel
theorem dX12_fills_17 : decode cX12_fills 17 = .ok (.istore 4, 2) := by decide +kernel
theorem dX12_fills_19 : decode cX12_fills 19 = .ok (.iconst 0, 1) := by decide +kernel
theorem dX12_fills_20 : decode cX12_fills 20 = .ok (.istore 5, 2) := by decide +kernel
theorem dX12_fills_22 : decode cX12_fills 22 = .ok (.iload 5, 2) := by decide +kernel
theorem dX12_fills_24 : decode cX12_fills 24 = .ok (.aload_n 0, 1) := by decide +kernel
theorem dX12_fills_25 : decode cX12_fills 25 = .ok (.invokevirtual 76, 3) := by decide +kernel
theorem dX12_fills_28 : decode cX12_fills 28 = .ok (.if_icmp .ge 82, 3) := by decide +kernel
theorem dX12_fills_31 : decode cX12_fills 31 = .ok (.aload_n 0, 1) := by decide +kernel
theorem dX12_fills_32 : decode cX12_fills 32 = .ok (.getfield 33, 3) := by decide +kernel
theorem dX12_fills_35 : decode cX12_fills 35 = .ok (.iload_n 1, 1) := by decide +kernel
theorem dX12_fills_36 : decode cX12_fills 36 = .ok (.iaload, 1) := by decide +kernel
theorem dX12_fills_37 : decode cX12_fills 37 = .ok (.ifCond .ne 73, 3) := by decide +kernel
theorem dX12_fills_40 : decode cX12_fills 40 = .ok (.aload_n 0, 1) := by decide +kernel
theorem dX12_fills_41 : decode cX12_fills 41 = .ok (.iload_n 1, 1) := by decide +kernel
theorem dX12_fills_42 : decode cX12_fills 42 = .ok (.iload 5, 2) := by decide +kernel
theorem dX12_fills_44 : decode cX12_fills 44 = .ok (.invokevirtual 100, 3) := by decide +kernel
theorem dX12_fills_47 : decode cX12_fills 47 = .ok (.ifCond .le 17, 3) := by decide +kernel
theorem dX12_fills_50 : decode cX12_fills 50 = .ok (.aload_n 0, 1) := by decide +kernel
theorem dX12_fills_51 : decode cX12_fills 51 = .ok (.getfield 33, 3) := by decide +kernel
theorem dX12_fills_54 : decode cX12_fills 54 = .ok (.iload 5, 2) := by decide +kernel
theorem dX12_fills_56 : decode cX12_fills 56 = .ok (.iaload, 1) := by decide +kernel
theorem dX12_fills_57 : decode cX12_fills 57 = .ok (.ifCond .le 7, 3) := by decide +kernel
theorem dX12_fills_60 : decode cX12_fills 60 = .ok (.iconst 1, 1) := by decide +kernel
theorem dX12_fills_61 : decode cX12_fills 61 = .ok (.goto 4, 3) := by decide +kernel
theorem dX12_fills_64 : decode cX12_fills 64 = .ok (.iconst 0, 1) := by decide +kernel
theorem dX12_fills_65 : decode cX12_fills 65 = .ok (.istore 6, 2) := by decide +kernel
theorem dX12_fills_67 : decode cX12_fills 67 = .ok (.lload_n 2, 1) := by decide +kernel
theorem dX12_fills_68 : decode cX12_fills 68 = .ok (.iload 6, 2) := by decide +kernel
theorem dX12_fills_70 : decode cX12_fills 70 = .ok (.ifCond .eq 16, 3) := by decide +kernel
theorem dX12_fills_73 : decode cX12_fills 73 = .ok (.aload_n 0, 1) := by decide +kernel
theorem dX12_fills_74 : decode cX12_fills 74 = .ok (.getfield 7, 3) := by decide +kernel
theorem dX12_fills_77 : decode cX12_fills 77 = .ok (.bipush 8, 2) := by decide +kernel
theorem dX12_fills_79 : decode cX12_fills 79 = .ok (.iload 5, 2) := by decide +kernel
theorem dX12_fills_81 : decode cX12_fills 81 = .ok (.iadd, 1) := by decide +kernel
theorem dX12_fills_82 : decode cX12_fills 82 = .ok (.laload, 1) := by decide +kernel
theorem dX12_fills_83 : decode cX12_fills 83 = .ok (.goto 4, 3) := by decide +kernel
theorem dX12_fills_86 : decode cX12_fills 86 = .ok (.lconst 0, 1) := by decide +kernel
theorem dX12_fills_87 : decode cX12_fills 87 = .ok (.ladd, 1) := by decide +kernel
theorem dX12_fills_88 : decode cX12_fills 88 = .ok (.lstore_n 2, 1) := by decide +kernel
theorem dX12_fills_89 : decode cX12_fills 89 = .ok (.iload 4, 2) := by decide +kernel
theorem dX12_fills_91 : decode cX12_fills 91 = .ok (.iload 6, 2) := by decide +kernel
theorem dX12_fills_93 : decode cX12_fills 93 = .ok (.ifCond .eq 7, 3) := by decide +kernel
theorem dX12_fills_96 : decode cX12_fills 96 = .ok (.iconst 1, 1) := by decide +kernel
theorem dX12_fills_97 : decode cX12_fills 97 = .ok (.goto 4, 3) := by decide +kernel
theorem dX12_fills_100 : decode cX12_fills 100 = .ok (.iconst 0, 1) := by decide +kernel
theorem dX12_fills_101 : decode cX12_fills 101 = .ok (.iadd, 1) := by decide +kernel
theorem dX12_fills_102 : decode cX12_fills 102 = .ok (.istore 4, 2) := by decide +kernel
theorem dX12_fills_104 : decode cX12_fills 104 = .ok (.iinc 5 1, 3) := by decide +kernel
theorem dX12_fills_107 : decode cX12_fills 107 = .ok (.goto (-85), 3) := by decide +kernel
theorem dX12_fills_110 : decode cX12_fills 110 = .ok (.aload_n 0, 1) := by decide +kernel
theorem dX12_fills_111 : decode cX12_fills 111 = .ok (.getfield 48, 3) := by decide +kernel
theorem dX12_fills_114 : decode cX12_fills 114 = .ok (.iload_n 1, 1) := by decide +kernel
theorem dX12_fills_115 : decode cX12_fills 115 = .ok (.iload 4, 2) := by decide +kernel
theorem dX12_fills_117 : decode cX12_fills 117 = .ok (.ifCond .le 13, 3) := by decide +kernel
theorem dX12_fills_120 : decode cX12_fills 120 = .ok (.lload_n 2, 1) := by decide +kernel
theorem dX12_fills_121 : decode cX12_fills 121 = .ok (.iload 4, 2) := by decide +kernel
theorem dX12_fills_123 : decode cX12_fills 123 = .ok (.i2l, 1) := by decide +kernel
theorem dX12_fills_124 : decode cX12_fills 124 = .ok (.invokestatic 204, 3) := by decide +kernel
theorem dX12_fills_127 : decode cX12_fills 127 = .ok (.goto 12, 3) := by decide +kernel
theorem dX12_fills_130 : decode cX12_fills 130 = .ok (.aload_n 0, 1) := by decide +kernel
theorem dX12_fills_131 : decode cX12_fills 131 = .ok (.getfield 7, 3) := by decide +kernel
theorem dX12_fills_134 : decode cX12_fills 134 = .ok (.bipush 8, 2) := by decide +kernel
theorem dX12_fills_136 : decode cX12_fills 136 = .ok (.iload_n 1, 1) := by decide +kernel
theorem dX12_fills_137 : decode cX12_fills 137 = .ok (.iadd, 1) := by decide +kernel
theorem dX12_fills_138 : decode cX12_fills 138 = .ok (.laload, 1) := by decide +kernel
theorem dX12_fills_139 : decode cX12_fills 139 = .ok (.lastore, 1) := by decide +kernel
theorem dX12_fills_140 : decode cX12_fills 140 = .ok (.iinc 1 1, 3) := by decide +kernel
theorem dX12_fills_143 : decode cX12_fills 143 = .ok (.goto (-137), 3) := by decide +kernel
theorem dX12_fills_146 : decode cX12_fills 146 = .ok (.aload_n 0, 1) := by decide +kernel
theorem dX12_fills_147 : decode cX12_fills 147 = .ok (.invokevirtual 228, 3) := by decide +kernel
theorem dX12_fills_150 : decode cX12_fills 150 = .ok (.ireturn, 1) := by decide +kernel
theorem dX12_fill_0 : decode cX12_fill 0 = .ok (.aload_n 0, 1) := by decide +kernel
theorem dX12_fill_1 : decode cX12_fill 1 = .ok (.iconst 0, 1) := by decide +kernel
theorem dX12_fill_2 : decode cX12_fill 2 = .ok (.putfield 62, 3) := by decide +kernel
theorem dX12_fill_5 : decode cX12_fill 5 = .ok (.aload_n 0, 1) := by decide +kernel
theorem dX12_fill_6 : decode cX12_fill 6 = .ok (.invokevirtual 131, 3) := by decide +kernel
theorem dX12_fill_9 : decode cX12_fill 9 = .ok (.aload_n 0, 1) := by decide +kernel
theorem dX12_fill_10 : decode cX12_fill 10 = .ok (.invokevirtual 239, 3) := by decide +kernel
theorem dX12_fill_13 : decode cX12_fill 13 = .ok (.ireturn, 1) := by decide +kernel
theorem dX12_valueOf_0 : decode cX12_valueOf 0 = .ok (.iload_n 2, 1) := by decide +kernel
theorem dX12_valueOf_1 : decode cX12_valueOf 1 = .ok (.iconst 4, 1) := by decide +kernel
theorem dX12_valueOf_2 : decode cX12_valueOf 2 = .ok (.if_icmp .ne 13, 3) := by decide +kernel
theorem dX12_valueOf_5 : decode cX12_valueOf 5 = .ok (.aload_n 0, 1) := by decide +kernel
theorem dX12_valueOf_6 : decode cX12_valueOf 6 = .ok (.iload_n 1, 1) := by decide +kernel
theorem dX12_valueOf_7 : decode cX12_valueOf 7 = .ok (.invokevirtual 125, 3) := by decide +kernel
theorem dX12_valueOf_10 : decode cX12_valueOf 10 = .ok (.aload_n 0, 1) := by decide +kernel
theorem dX12_valueOf_11 : decode cX12_valueOf 11 = .ok (.getfield 118, 3) := by decide +kernel
theorem dX12_valueOf_14 : decode cX12_valueOf 14 = .ok (.ireturn, 1) := by decide +kernel
theorem dX12_valueOf_15 : decode cX12_valueOf 15 = .ok (.iload_n 2, 1) := by decide +kernel
theorem dX12_valueOf_16 : decode cX12_valueOf 16 = .ok (.iconst 3, 1) := by decide +kernel
theorem dX12_valueOf_17 : decode cX12_valueOf 17 = .ok (.if_icmp .ne 19, 3) := by decide +kernel
theorem dX12_valueOf_20 : decode cX12_valueOf 20 = .ok (.aload_n 0, 1) := by decide +kernel
theorem dX12_valueOf_21 : decode cX12_valueOf 21 = .ok (.iload_n 1, 1) := by decide +kernel
theorem dX12_valueOf_22 : decode cX12_valueOf 22 = .ok (.invokevirtual 89, 3) := by decide +kernel
theorem dX12_valueOf_25 : decode cX12_valueOf 25 = .ok (.ifCond .eq 7, 3) := by decide +kernel
theorem dX12_valueOf_28 : decode cX12_valueOf 28 = .ok (.iconst 1, 1) := by decide +kernel
theorem dX12_valueOf_29 : decode cX12_valueOf 29 = .ok (.goto 14, 3) := by decide +kernel
theorem dX12_valueOf_32 : decode cX12_valueOf 32 = .ok (.iconst 0, 1) := by decide +kernel
theorem dX12_valueOf_33 : decode cX12_valueOf 33 = .ok (.goto 10, 3) := by decide +kernel
theorem dX12_valueOf_36 : decode cX12_valueOf 36 = .ok (.aload_n 0, 1) := by decide +kernel
theorem dX12_valueOf_37 : decode cX12_valueOf 37 = .ok (.iload_n 1, 1) := by decide +kernel
theorem dX12_valueOf_38 : decode cX12_valueOf 38 = .ok (.iload_n 2, 1) := by decide +kernel
theorem dX12_valueOf_39 : decode cX12_valueOf 39 = .ok (.invokevirtual 83, 3) := by decide +kernel
theorem dX12_valueOf_42 : decode cX12_valueOf 42 = .ok (.l2i, 1) := by decide +kernel
theorem dX12_valueOf_43 : decode cX12_valueOf 43 = .ok (.ireturn, 1) := by decide +kernel
theorem dX12_ray_0 : decode cX12_ray 0 = .ok (.aload_n 0, 1) := by decide +kernel
theorem dX12_ray_1 : decode cX12_ray 1 = .ok (.aload_n 0, 1) := by decide +kernel
theorem dX12_ray_2 : decode cX12_ray 2 = .ok (.iload_n 1, 1) := by decide +kernel
theorem dX12_ray_3 : decode cX12_ray 3 = .ok (.invokevirtual 171, 3) := by decide +kernel
theorem dX12_ray_6 : decode cX12_ray 6 = .ok (.ifCond .ne 7, 3) := by decide +kernel
theorem dX12_ray_9 : decode cX12_ray 9 = .ok (.iconst 1, 1) := by decide +kernel
theorem dX12_ray_10 : decode cX12_ray 10 = .ok (.goto 20, 3) := by decide +kernel
theorem dX12_ray_13 : decode cX12_ray 13 = .ok (.iload_n 2, 1) := by decide +kernel
theorem dX12_ray_14 : decode cX12_ray 14 = .ok (.i2l, 1) := by decide +kernel
theorem dX12_ray_15 : decode cX12_ray 15 = .ok (.lconst 0, 1) := by decide +kernel
theorem dX12_ray_16 : decode cX12_ray 16 = .ok (.ldc2_w 242, 3) := by decide +kernel
theorem dX12_ray_19 : decode cX12_ray 19 = .ok (.invokestatic 79, 3) := by decide +kernel
theorem dX12_ray_22 : decode cX12_ray 22 = .ok (.ifCond .eq 7, 3) := by decide +kernel
theorem dX12_ray_25 : decode cX12_ray 25 = .ok (.iconst 0, 1) := by decide +kernel
theorem dX12_ray_26 : decode cX12_ray 26 = .ok (.goto 4, 3) := by decide +kernel
theorem dX12_ray_29 : decode cX12_ray 29 = .ok (.iconst 2, 1) := by decide +kernel
theorem dX12_ray_30 : decode cX12_ray 30 = .ok (.putfield 62, 3) := by decide +kernel
theorem dX12_ray_33 : decode cX12_ray 33 = .ok (.aload_n 0, 1) := by decide +kernel
theorem dX12_ray_34 : decode cX12_ray 34 = .ok (.getfield 62, 3) := by decide +kernel
theorem dX12_ray_37 : decode cX12_ray 37 = .ok (.ifCond .eq 7, 3) := by decide +kernel
theorem dX12_ray_40 : decode cX12_ray 40 = .ok (.iconst 0, 1) := by decide +kernel
theorem dX12_ray_41 : decode cX12_ray 41 = .ok (.goto 9, 3) := by decide +kernel
theorem dX12_ray_44 : decode cX12_ray 44 = .ok (.aload_n 0, 1) := by decide +kernel
theorem dX12_ray_45 : decode cX12_ray 45 = .ok (.iload_n 1, 1) := by decide +kernel
theorem dX12_ray_46 : decode cX12_ray 46 = .ok (.iload_n 2, 1) := by decide +kernel
theorem dX12_ray_47 : decode cX12_ray 47 = .ok (.invokevirtual 244, 3) := by decide +kernel
theorem dX12_ray_50 : decode cX12_ray 50 = .ok (.ireturn, 1) := by decide +kernel
theorem dX12_time_0 : decode cX12_time 0 = .ok (.aload_n 0, 1) := by decide +kernel
theorem dX12_time_1 : decode cX12_time 1 = .ok (.aload_n 0, 1) := by decide +kernel
theorem dX12_time_2 : decode cX12_time 2 = .ok (.iload_n 1, 1) := by decide +kernel
theorem dX12_time_3 : decode cX12_time 3 = .ok (.invokevirtual 171, 3) := by decide +kernel
theorem dX12_time_6 : decode cX12_time 6 = .ok (.ifCond .ne 7, 3) := by decide +kernel
theorem dX12_time_9 : decode cX12_time 9 = .ok (.iconst 1, 1) := by decide +kernel
theorem dX12_time_10 : decode cX12_time 10 = .ok (.goto 18, 3) := by decide +kernel
theorem dX12_time_13 : decode cX12_time 13 = .ok (.iload_n 2, 1) := by decide +kernel
theorem dX12_time_14 : decode cX12_time 14 = .ok (.i2l, 1) := by decide +kernel
theorem dX12_time_15 : decode cX12_time 15 = .ok (.lconst 0, 1) := by decide +kernel
theorem dX12_time_16 : decode cX12_time 16 = .ok (.lconst 1, 1) := by decide +kernel
theorem dX12_time_17 : decode cX12_time 17 = .ok (.invokestatic 79, 3) := by decide +kernel
theorem dX12_time_20 : decode cX12_time 20 = .ok (.ifCond .eq 7, 3) := by decide +kernel
theorem dX12_time_23 : decode cX12_time 23 = .ok (.iconst 0, 1) := by decide +kernel
theorem dX12_time_24 : decode cX12_time 24 = .ok (.goto 4, 3) := by decide +kernel
theorem dX12_time_27 : decode cX12_time 27 = .ok (.iconst 2, 1) := by decide +kernel
theorem dX12_time_28 : decode cX12_time 28 = .ok (.putfield 62, 3) := by decide +kernel
theorem dX12_time_31 : decode cX12_time 31 = .ok (.aload_n 0, 1) := by decide +kernel
theorem dX12_time_32 : decode cX12_time 32 = .ok (.getfield 62, 3) := by decide +kernel
theorem dX12_time_35 : decode cX12_time 35 = .ok (.ifCond .eq 7, 3) := by decide +kernel
theorem dX12_time_38 : decode cX12_time 38 = .ok (.lconst 0, 1) := by decide +kernel
theorem dX12_time_39 : decode cX12_time 39 = .ok (.goto 21, 3) := by decide +kernel
theorem dX12_time_42 : decode cX12_time 42 = .ok (.iload_n 2, 1) := by decide +kernel
theorem dX12_time_43 : decode cX12_time 43 = .ok (.ifCond .ne 11, 3) := by decide +kernel
theorem dX12_time_46 : decode cX12_time 46 = .ok (.aload_n 0, 1) := by decide +kernel
theorem dX12_time_47 : decode cX12_time 47 = .ok (.iload_n 1, 1) := by decide +kernel
theorem dX12_time_48 : decode cX12_time 48 = .ok (.invokevirtual 121, 3) := by decide +kernel
theorem dX12_time_51 : decode cX12_time 51 = .ok (.goto 9, 3) := by decide +kernel
theorem dX12_time_54 : decode cX12_time 54 = .ok (.aload_n 0, 1) := by decide +kernel
theorem dX12_time_55 : decode cX12_time 55 = .ok (.iload_n 1, 1) := by decide +kernel
theorem dX12_time_56 : decode cX12_time 56 = .ok (.iconst 3, 1) := by decide +kernel
theorem dX12_time_57 : decode cX12_time 57 = .ok (.invokevirtual 83, 3) := by decide +kernel
theorem dX12_time_60 : decode cX12_time 60 = .ok (.lreturn, 1) := by decide +kernel
theorem dX12_residual_0 : decode cX12_residual 0 = .ok (.aload_n 0, 1) := by decide +kernel
theorem dX12_residual_1 : decode cX12_residual 1 = .ok (.aload_n 0, 1) := by decide +kernel
theorem dX12_residual_2 : decode cX12_residual 2 = .ok (.iload_n 1, 1) := by decide +kernel
theorem dX12_residual_3 : decode cX12_residual 3 = .ok (.invokevirtual 171, 3) := by decide +kernel
theorem dX12_residual_6 : decode cX12_residual 6 = .ok (.ifCond .ne 7, 3) := by decide +kernel
theorem dX12_residual_9 : decode cX12_residual 9 = .ok (.iconst 1, 1) := by decide +kernel
theorem dX12_residual_10 : decode cX12_residual 10 = .ok (.goto 21, 3) := by decide +kernel
theorem dX12_residual_13 : decode cX12_residual 13 = .ok (.aload_n 0, 1) := by decide +kernel
theorem dX12_residual_14 : decode cX12_residual 14 = .ok (.iload_n 1, 1) := by decide +kernel
theorem dX12_residual_15 : decode cX12_residual 15 = .ok (.iconst 3, 1) := by decide +kernel
theorem dX12_residual_16 : decode cX12_residual 16 = .ok (.invokevirtual 83, 3) := by decide +kernel
theorem dX12_residual_19 : decode cX12_residual 19 = .ok (.ldc2_w 87, 3) := by decide +kernel
theorem dX12_residual_22 : decode cX12_residual 22 = .ok (.lcmp, 1) := by decide +kernel
theorem dX12_residual_23 : decode cX12_residual 23 = .ok (.ifCond .ne 7, 3) := by decide +kernel
theorem dX12_residual_26 : decode cX12_residual 26 = .ok (.iconst 2, 1) := by decide +kernel
theorem dX12_residual_27 : decode cX12_residual 27 = .ok (.goto 4, 3) := by decide +kernel
theorem dX12_residual_30 : decode cX12_residual 30 = .ok (.iconst 0, 1) := by decide +kernel
theorem dX12_residual_31 : decode cX12_residual 31 = .ok (.putfield 62, 3) := by decide +kernel
theorem dX12_residual_34 : decode cX12_residual 34 = .ok (.aload_n 0, 1) := by decide +kernel
theorem dX12_residual_35 : decode cX12_residual 35 = .ok (.getfield 62, 3) := by decide +kernel
theorem dX12_residual_38 : decode cX12_residual 38 = .ok (.ifCond .eq 7, 3) := by decide +kernel
theorem dX12_residual_41 : decode cX12_residual 41 = .ok (.lconst 0, 1) := by decide +kernel
theorem dX12_residual_42 : decode cX12_residual 42 = .ok (.goto 8, 3) := by decide +kernel
theorem dX12_residual_45 : decode cX12_residual 45 = .ok (.aload_n 0, 1) := by decide +kernel
theorem dX12_residual_46 : decode cX12_residual 46 = .ok (.iload_n 1, 1) := by decide +kernel
theorem dX12_residual_47 : decode cX12_residual 47 = .ok (.invokevirtual 211, 3) := by decide +kernel
theorem dX12_residual_50 : decode cX12_residual 50 = .ok (.lreturn, 1) := by decide +kernel
theorem dX12_wayCell_0 : decode cX12_wayCell 0 = .ok (.aload_n 0, 1) := by decide +kernel
theorem dX12_wayCell_1 : decode cX12_wayCell 1 = .ok (.aload_n 0, 1) := by decide +kernel
theorem dX12_wayCell_2 : decode cX12_wayCell 2 = .ok (.iload_n 1, 1) := by decide +kernel
theorem dX12_wayCell_3 : decode cX12_wayCell 3 = .ok (.invokevirtual 171, 3) := by decide +kernel
theorem dX12_wayCell_6 : decode cX12_wayCell 6 = .ok (.ifCond .ne 7, 3) := by decide +kernel
theorem dX12_wayCell_9 : decode cX12_wayCell 9 = .ok (.iconst 1, 1) := by decide +kernel
theorem dX12_wayCell_10 : decode cX12_wayCell 10 = .ok (.goto 12, 3) := by decide +kernel
theorem dX12_wayCell_13 : decode cX12_wayCell 13 = .ok (.iload_n 2, 1) := by decide +kernel
theorem dX12_wayCell_14 : decode cX12_wayCell 14 = .ok (.ifCond .ge 7, 3) := by decide +kernel
theorem dX12_wayCell_17 : decode cX12_wayCell 17 = .ok (.iconst 2, 1) := by decide +kernel
theorem dX12_wayCell_18 : decode cX12_wayCell 18 = .ok (.goto 4, 3) := by decide +kernel
theorem dX12_wayCell_21 : decode cX12_wayCell 21 = .ok (.iconst 0, 1) := by decide +kernel
theorem dX12_wayCell_22 : decode cX12_wayCell 22 = .ok (.putfield 62, 3) := by decide +kernel
theorem dX12_wayCell_25 : decode cX12_wayCell 25 = .ok (.aload_n 0, 1) := by decide +kernel
theorem dX12_wayCell_26 : decode cX12_wayCell 26 = .ok (.getfield 62, 3) := by decide +kernel
theorem dX12_wayCell_29 : decode cX12_wayCell 29 = .ok (.ifCond .eq 5, 3) := by decide +kernel
theorem dX12_wayCell_32 : decode cX12_wayCell 32 = .ok (.iconst 0, 1) := by decide +kernel
theorem dX12_wayCell_33 : decode cX12_wayCell 33 = .ok (.ireturn, 1) := by decide +kernel
theorem dX12_wayCell_34 : decode cX12_wayCell 34 = .ok (.aload_n 0, 1) := by decide +kernel
theorem dX12_wayCell_35 : decode cX12_wayCell 35 = .ok (.iload_n 1, 1) := by decide +kernel
theorem dX12_wayCell_36 : decode cX12_wayCell 36 = .ok (.invokevirtual 125, 3) := by decide +kernel
theorem dX12_wayCell_39 : decode cX12_wayCell 39 = .ok (.iload_n 2, 1) := by decide +kernel
theorem dX12_wayCell_40 : decode cX12_wayCell 40 = .ok (.aload_n 0, 1) := by decide +kernel
theorem dX12_wayCell_41 : decode cX12_wayCell 41 = .ok (.getfield 118, 3) := by decide +kernel
theorem dX12_wayCell_44 : decode cX12_wayCell 44 = .ok (.if_icmp .ge 19, 3) := by decide +kernel
theorem dX12_wayCell_47 : decode cX12_wayCell 47 = .ok (.aload_n 0, 1) := by decide +kernel
theorem dX12_wayCell_48 : decode cX12_wayCell 48 = .ok (.getfield 27, 3) := by decide +kernel
theorem dX12_wayCell_51 : decode cX12_wayCell 51 = .ok (.aload_n 0, 1) := by decide +kernel
theorem dX12_wayCell_52 : decode cX12_wayCell 52 = .ok (.getfield 118, 3) := by decide +kernel
theorem dX12_wayCell_55 : decode cX12_wayCell 55 = .ok (.iconst 1, 1) := by decide +kernel
theorem dX12_wayCell_56 : decode cX12_wayCell 56 = .ok (.isub, 1) := by decide +kernel
theorem dX12_wayCell_57 : decode cX12_wayCell 57 = .ok (.iload_n 2, 1) := by decide +kernel
theorem dX12_wayCell_58 : decode cX12_wayCell 58 = .ok (.isub, 1) := by decide +kernel
theorem dX12_wayCell_59 : decode cX12_wayCell 59 = .ok (.iaload, 1) := by decide +kernel
theorem dX12_wayCell_60 : decode cX12_wayCell 60 = .ok (.goto 4, 3) := by decide +kernel
theorem dX12_wayCell_63 : decode cX12_wayCell 63 = .ok (.iconst (-1), 1) := by decide +kernel
theorem dX12_wayCell_64 : decode cX12_wayCell 64 = .ok (.ireturn, 1) := by decide +kernel
theorem dX12_length_0 : decode cX12_length 0 = .ok (.aload_n 0, 1) := by decide +kernel
theorem dX12_length_1 : decode cX12_length 1 = .ok (.aload_n 0, 1) := by decide +kernel
theorem dX12_length_2 : decode cX12_length 2 = .ok (.iload_n 1, 1) := by decide +kernel
theorem dX12_length_3 : decode cX12_length 3 = .ok (.invokevirtual 171, 3) := by decide +kernel
theorem dX12_length_6 : decode cX12_length 6 = .ok (.ifCond .eq 15, 3) := by decide +kernel
theorem dX12_length_9 : decode cX12_length 9 = .ok (.aload_n 0, 1) := by decide +kernel
theorem dX12_length_10 : decode cX12_length 10 = .ok (.iload_n 2, 1) := by decide +kernel
theorem dX12_length_11 : decode cX12_length 11 = .ok (.invokevirtual 134, 3) := by decide +kernel
theorem dX12_length_14 : decode cX12_length 14 = .ok (.ifCond .eq 7, 3) := by decide +kernel
theorem dX12_length_17 : decode cX12_length 17 = .ok (.iconst 0, 1) := by decide +kernel
theorem dX12_length_18 : decode cX12_length 18 = .ok (.goto 4, 3) := by decide +kernel
theorem dX12_length_21 : decode cX12_length 21 = .ok (.iconst 1, 1) := by decide +kernel
theorem dX12_length_22 : decode cX12_length 22 = .ok (.putfield 62, 3) := by decide +kernel
theorem dX12_length_25 : decode cX12_length 25 = .ok (.aload_n 0, 1) := by decide +kernel
theorem dX12_length_26 : decode cX12_length 26 = .ok (.getfield 62, 3) := by decide +kernel
theorem dX12_length_29 : decode cX12_length 29 = .ok (.ifCond .eq 5, 3) := by decide +kernel
theorem dX12_length_32 : decode cX12_length 32 = .ok (.iconst 0, 1) := by decide +kernel
theorem dX12_length_33 : decode cX12_length 33 = .ok (.ireturn, 1) := by decide +kernel
theorem dX12_length_34 : decode cX12_length 34 = .ok (.aload_n 0, 1) := by decide +kernel
theorem dX12_length_35 : decode cX12_length 35 = .ok (.iload_n 1, 1) := by decide +kernel
theorem dX12_length_36 : decode cX12_length 36 = .ok (.invokevirtual 125, 3) := by decide +kernel
theorem dX12_length_39 : decode cX12_length 39 = .ok (.aload_n 0, 1) := by decide +kernel
theorem dX12_length_40 : decode cX12_length 40 = .ok (.getfield 30, 3) := by decide +kernel
theorem dX12_length_43 : decode cX12_length 43 = .ok (.iload_n 2, 1) := by decide +kernel
theorem dX12_length_44 : decode cX12_length 44 = .ok (.iaload, 1) := by decide +kernel
theorem dX12_length_45 : decode cX12_length 45 = .ok (.ireturn, 1) := by decide +kernel
theorem dX12_least_0 : decode cX12_least 0 = .ok (.aload_n 0, 1) := by decide +kernel
theorem dX12_least_1 : decode cX12_least 1 = .ok (.aload_n 0, 1) := by decide +kernel
theorem dX12_least_2 : decode cX12_least 2 = .ok (.iload_n 1, 1) := by decide +kernel
theorem dX12_least_3 : decode cX12_least 3 = .ok (.invokevirtual 134, 3) := by decide +kernel
theorem dX12_least_6 : decode cX12_least 6 = .ok (.ifCond .eq 15, 3) := by decide +kernel
theorem dX12_least_9 : decode cX12_least 9 = .ok (.aload_n 0, 1) := by decide +kernel
theorem dX12_least_10 : decode cX12_least 10 = .ok (.iload_n 2, 1) := by decide +kernel
theorem dX12_least_11 : decode cX12_least 11 = .ok (.invokevirtual 134, 3) := by decide +kernel
theorem dX12_least_14 : decode cX12_least 14 = .ok (.ifCond .eq 7, 3) := by decide +kernel
theorem dX12_least_17 : decode cX12_least 17 = .ok (.iconst 0, 1) := by decide +kernel
theorem dX12_least_18 : decode cX12_least 18 = .ok (.goto 4, 3) := by decide +kernel
theorem dX12_least_21 : decode cX12_least 21 = .ok (.iconst 1, 1) := by decide +kernel
theorem dX12_least_22 : decode cX12_least 22 = .ok (.putfield 62, 3) := by decide +kernel
theorem dX12_least_25 : decode cX12_least 25 = .ok (.aload_n 0, 1) := by decide +kernel
theorem dX12_least_26 : decode cX12_least 26 = .ok (.getfield 62, 3) := by decide +kernel
theorem dX12_least_29 : decode cX12_least 29 = .ok (.ifCond .eq 5, 3) := by decide +kernel
theorem dX12_least_32 : decode cX12_least 32 = .ok (.lconst 0, 1) := by decide +kernel
theorem dX12_least_33 : decode cX12_least 33 = .ok (.lreturn, 1) := by decide +kernel
theorem dX12_least_34 : decode cX12_least 34 = .ok (.aload_n 0, 1) := by decide +kernel
theorem dX12_least_35 : decode cX12_least 35 = .ok (.iload_n 1, 1) := by decide +kernel
theorem dX12_least_36 : decode cX12_least 36 = .ok (.iload_n 3, 1) := by decide +kernel
theorem dX12_least_37 : decode cX12_least 37 = .ok (.ifCond .eq 8, 3) := by decide +kernel
theorem dX12_least_40 : decode cX12_least 40 = .ok (.bipush 72, 2) := by decide +kernel
theorem dX12_least_42 : decode cX12_least 42 = .ok (.goto 5, 3) := by decide +kernel
theorem dX12_least_45 : decode cX12_least 45 = .ok (.bipush 8, 2) := by decide +kernel
theorem dX12_least_47 : decode cX12_least 47 = .ok (.invokevirtual 108, 3) := by decide +kernel
theorem dX12_least_50 : decode cX12_least 50 = .ok (.aload_n 0, 1) := by decide +kernel
theorem dX12_least_51 : decode cX12_least 51 = .ok (.getfield 20, 3) := by decide +kernel
theorem dX12_least_54 : decode cX12_least 54 = .ok (.iload_n 2, 1) := by decide +kernel
theorem dX12_least_55 : decode cX12_least 55 = .ok (.laload, 1) := by decide +kernel
theorem dX12_least_56 : decode cX12_least 56 = .ok (.lreturn, 1) := by decide +kernel
theorem dX12_cell_0 : decode cX12_cell 0 = .ok (.aload_n 0, 1) := by decide +kernel
theorem dX12_cell_1 : decode cX12_cell 1 = .ok (.aload_n 0, 1) := by decide +kernel
theorem dX12_cell_2 : decode cX12_cell 2 = .ok (.iload_n 1, 1) := by decide +kernel
theorem dX12_cell_3 : decode cX12_cell 3 = .ok (.invokevirtual 134, 3) := by decide +kernel
theorem dX12_cell_6 : decode cX12_cell 6 = .ok (.ifCond .ne 7, 3) := by decide +kernel
theorem dX12_cell_9 : decode cX12_cell 9 = .ok (.iconst 1, 1) := by decide +kernel
theorem dX12_cell_10 : decode cX12_cell 10 = .ok (.goto 20, 3) := by decide +kernel
theorem dX12_cell_13 : decode cX12_cell 13 = .ok (.iload_n 2, 1) := by decide +kernel
theorem dX12_cell_14 : decode cX12_cell 14 = .ok (.i2l, 1) := by decide +kernel
theorem dX12_cell_15 : decode cX12_cell 15 = .ok (.lconst 0, 1) := by decide +kernel
theorem dX12_cell_16 : decode cX12_cell 16 = .ok (.ldc2_w 202, 3) := by decide +kernel
theorem dX12_cell_19 : decode cX12_cell 19 = .ok (.invokestatic 79, 3) := by decide +kernel
theorem dX12_cell_22 : decode cX12_cell 22 = .ok (.ifCond .eq 7, 3) := by decide +kernel
theorem dX12_cell_25 : decode cX12_cell 25 = .ok (.iconst 0, 1) := by decide +kernel
theorem dX12_cell_26 : decode cX12_cell 26 = .ok (.goto 4, 3) := by decide +kernel
theorem dX12_cell_29 : decode cX12_cell 29 = .ok (.iconst 2, 1) := by decide +kernel
theorem dX12_cell_30 : decode cX12_cell 30 = .ok (.putfield 62, 3) := by decide +kernel
theorem dX12_cell_33 : decode cX12_cell 33 = .ok (.aload_n 0, 1) := by decide +kernel
theorem dX12_cell_34 : decode cX12_cell 34 = .ok (.getfield 62, 3) := by decide +kernel
theorem dX12_cell_37 : decode cX12_cell 37 = .ok (.ifCond .eq 5, 3) := by decide +kernel
theorem dX12_cell_40 : decode cX12_cell 40 = .ok (.iconst 0, 1) := by decide +kernel
theorem dX12_cell_41 : decode cX12_cell 41 = .ok (.ireturn, 1) := by decide +kernel
theorem dX12_cell_42 : decode cX12_cell 42 = .ok (.iload_n 2, 1) := by decide +kernel
theorem dX12_cell_43 : decode cX12_cell 43 = .ok (.iconst 2, 1) := by decide +kernel
theorem dX12_cell_44 : decode cX12_cell 44 = .ok (.if_icmp .ge 23, 3) := by decide +kernel
theorem dX12_cell_47 : decode cX12_cell 47 = .ok (.aload_n 0, 1) := by decide +kernel
theorem dX12_cell_48 : decode cX12_cell 48 = .ok (.getfield 7, 3) := by decide +kernel
theorem dX12_cell_51 : decode cX12_cell 51 = .ok (.iload_n 2, 1) := by decide +kernel
theorem dX12_cell_52 : decode cX12_cell 52 = .ok (.ifCond .ne 8, 3) := by decide +kernel
theorem dX12_cell_55 : decode cX12_cell 55 = .ok (.bipush 8, 2) := by decide +kernel
theorem dX12_cell_57 : decode cX12_cell 57 = .ok (.goto 5, 3) := by decide +kernel
theorem dX12_cell_60 : decode cX12_cell 60 = .ok (.bipush 72, 2) := by decide +kernel
theorem dX12_cell_62 : decode cX12_cell 62 = .ok (.iload_n 1, 1) := by decide +kernel
theorem dX12_cell_63 : decode cX12_cell 63 = .ok (.iadd, 1) := by decide +kernel
theorem dX12_cell_64 : decode cX12_cell 64 = .ok (.laload, 1) := by decide +kernel
theorem dX12_cell_65 : decode cX12_cell 65 = .ok (.l2i, 1) := by decide +kernel
theorem dX12_cell_66 : decode cX12_cell 66 = .ok (.ireturn, 1) := by decide +kernel
theorem dX12_cell_67 : decode cX12_cell 67 = .ok (.aload_n 0, 1) := by decide +kernel
theorem dX12_cell_68 : decode cX12_cell 68 = .ok (.invokevirtual 236, 3) := by decide +kernel
theorem dX12_cell_71 : decode cX12_cell 71 = .ok (.iload_n 2, 1) := by decide +kernel
theorem dX12_cell_72 : decode cX12_cell 72 = .ok (.iconst 2, 1) := by decide +kernel
theorem dX12_cell_73 : decode cX12_cell 73 = .ok (.if_icmp .ne 12, 3) := by decide +kernel
theorem dX12_cell_76 : decode cX12_cell 76 = .ok (.aload_n 0, 1) := by decide +kernel
theorem dX12_cell_77 : decode cX12_cell 77 = .ok (.getfield 33, 3) := by decide +kernel
theorem dX12_cell_80 : decode cX12_cell 80 = .ok (.iload_n 1, 1) := by decide +kernel
theorem dX12_cell_81 : decode cX12_cell 81 = .ok (.iaload, 1) := by decide +kernel
theorem dX12_cell_82 : decode cX12_cell 82 = .ok (.goto 9, 3) := by decide +kernel
theorem dX12_cell_85 : decode cX12_cell 85 = .ok (.aload_n 0, 1) := by decide +kernel
theorem dX12_cell_86 : decode cX12_cell 86 = .ok (.getfield 36, 3) := by decide +kernel
theorem dX12_cell_89 : decode cX12_cell 89 = .ok (.iload_n 1, 1) := by decide +kernel
theorem dX12_cell_90 : decode cX12_cell 90 = .ok (.iaload, 1) := by decide +kernel
theorem dX12_cell_91 : decode cX12_cell 91 = .ok (.ireturn, 1) := by decide +kernel
theorem dX12_sectionOf_0 : decode cX12_sectionOf 0 = .ok (.iload_n 1, 1) := by decide +kernel
theorem dX12_sectionOf_1 : decode cX12_sectionOf 1 = .ok (.tableswitch 100 0 4 #[35, 40, 45, 54, 59], 35) := by decide +kernel
theorem dX12_sectionOf_36 : decode cX12_sectionOf 36 = .ok (.aload_n 0, 1) := by decide +kernel
theorem dX12_sectionOf_37 : decode cX12_sectionOf 37 = .ok (.invokevirtual 69, 3) := by decide +kernel
theorem dX12_sectionOf_40 : decode cX12_sectionOf 40 = .ok (.ireturn, 1) := by decide +kernel
theorem dX12_sectionOf_41 : decode cX12_sectionOf 41 = .ok (.aload_n 0, 1) := by decide +kernel
theorem dX12_sectionOf_42 : decode cX12_sectionOf 42 = .ok (.invokevirtual 73, 3) := by decide +kernel
theorem dX12_sectionOf_45 : decode cX12_sectionOf 45 = .ok (.ireturn, 1) := by decide +kernel
theorem dX12_sectionOf_46 : decode cX12_sectionOf 46 = .ok (.aload_n 0, 1) := by decide +kernel
theorem dX12_sectionOf_47 : decode cX12_sectionOf 47 = .ok (.getfield 7, 3) := by decide +kernel
theorem dX12_sectionOf_50 : decode cX12_sectionOf 50 = .ok (.bipush 7, 2) := by decide +kernel
theorem dX12_sectionOf_52 : decode cX12_sectionOf 52 = .ok (.laload, 1) := by decide +kernel
theorem dX12_sectionOf_53 : decode cX12_sectionOf 53 = .ok (.l2i, 1) := by decide +kernel
theorem dX12_sectionOf_54 : decode cX12_sectionOf 54 = .ok (.ireturn, 1) := by decide +kernel
theorem dX12_sectionOf_55 : decode cX12_sectionOf 55 = .ok (.aload_n 0, 1) := by decide +kernel
theorem dX12_sectionOf_56 : decode cX12_sectionOf 56 = .ok (.invokevirtual 174, 3) := by decide +kernel
theorem dX12_sectionOf_59 : decode cX12_sectionOf 59 = .ok (.ireturn, 1) := by decide +kernel
theorem dX12_sectionOf_60 : decode cX12_sectionOf 60 = .ok (.aload_n 0, 1) := by decide +kernel
theorem dX12_sectionOf_61 : decode cX12_sectionOf 61 = .ok (.invokevirtual 236, 3) := by decide +kernel
theorem dX12_sectionOf_64 : decode cX12_sectionOf 64 = .ok (.iconst 0, 1) := by decide +kernel
theorem dX12_sectionOf_65 : decode cX12_sectionOf 65 = .ok (.istore_n 2, 1) := by decide +kernel
theorem dX12_sectionOf_66 : decode cX12_sectionOf 66 = .ok (.iconst 0, 1) := by decide +kernel
theorem dX12_sectionOf_67 : decode cX12_sectionOf 67 = .ok (.istore_n 3, 1) := by decide +kernel
theorem dX12_sectionOf_68 : decode cX12_sectionOf 68 = .ok (.iload_n 3, 1) := by decide +kernel
theorem dX12_sectionOf_69 : decode cX12_sectionOf 69 = .ok (.aload_n 0, 1) := by decide +kernel
theorem dX12_sectionOf_70 : decode cX12_sectionOf 70 = .ok (.invokevirtual 76, 3) := by decide +kernel
theorem dX12_sectionOf_73 : decode cX12_sectionOf 73 = .ok (.if_icmp .ge 26, 3) := by decide +kernel
theorem dX12_sectionOf_76 : decode cX12_sectionOf 76 = .ok (.iload_n 2, 1) := by decide +kernel
theorem dX12_sectionOf_77 : decode cX12_sectionOf 77 = .ok (.aload_n 0, 1) := by decide +kernel
theorem dX12_sectionOf_78 : decode cX12_sectionOf 78 = .ok (.getfield 33, 3) := by decide +kernel
theorem dX12_sectionOf_81 : decode cX12_sectionOf 81 = .ok (.iload_n 3, 1) := by decide +kernel
theorem dX12_sectionOf_82 : decode cX12_sectionOf 82 = .ok (.iaload, 1) := by decide +kernel
theorem dX12_sectionOf_83 : decode cX12_sectionOf 83 = .ok (.ifCond .ne 7, 3) := by decide +kernel
theorem dX12_sectionOf_86 : decode cX12_sectionOf 86 = .ok (.iconst 1, 1) := by decide +kernel
theorem dX12_sectionOf_87 : decode cX12_sectionOf 87 = .ok (.goto 4, 3) := by decide +kernel
theorem dX12_sectionOf_90 : decode cX12_sectionOf 90 = .ok (.iconst 0, 1) := by decide +kernel
theorem dX12_sectionOf_91 : decode cX12_sectionOf 91 = .ok (.iadd, 1) := by decide +kernel
theorem dX12_sectionOf_92 : decode cX12_sectionOf 92 = .ok (.istore_n 2, 1) := by decide +kernel
theorem dX12_sectionOf_93 : decode cX12_sectionOf 93 = .ok (.iinc 3 1, 3) := by decide +kernel
theorem dX12_sectionOf_96 : decode cX12_sectionOf 96 = .ok (.goto (-28), 3) := by decide +kernel
theorem dX12_sectionOf_99 : decode cX12_sectionOf 99 = .ok (.iload_n 2, 1) := by decide +kernel
theorem dX12_sectionOf_100 : decode cX12_sectionOf 100 = .ok (.ireturn, 1) := by decide +kernel
theorem dX12_sectionOf_101 : decode cX12_sectionOf 101 = .ok (.aload_n 0, 1) := by decide +kernel
theorem dX12_sectionOf_102 : decode cX12_sectionOf 102 = .ok (.getfield 7, 3) := by decide +kernel
theorem dX12_sectionOf_105 : decode cX12_sectionOf 105 = .ok (.iconst 2, 1) := by decide +kernel
theorem dX12_sectionOf_106 : decode cX12_sectionOf 106 = .ok (.iload_n 1, 1) := by decide +kernel
theorem dX12_sectionOf_107 : decode cX12_sectionOf 107 = .ok (.iadd, 1) := by decide +kernel
theorem dX12_sectionOf_108 : decode cX12_sectionOf 108 = .ok (.iconst 5, 1) := by decide +kernel
theorem dX12_sectionOf_109 : decode cX12_sectionOf 109 = .ok (.isub, 1) := by decide +kernel
theorem dX12_sectionOf_110 : decode cX12_sectionOf 110 = .ok (.laload, 1) := by decide +kernel
theorem dX12_sectionOf_111 : decode cX12_sectionOf 111 = .ok (.l2i, 1) := by decide +kernel
theorem dX12_sectionOf_112 : decode cX12_sectionOf 112 = .ok (.ireturn, 1) := by decide +kernel
theorem dX12_section_0 : decode cX12_section 0 = .ok (.aload_n 0, 1) := by decide +kernel
theorem dX12_section_1 : decode cX12_section 1 = .ok (.iload_n 1, 1) := by decide +kernel
theorem dX12_section_2 : decode cX12_section 2 = .ok (.i2l, 1) := by decide +kernel
theorem dX12_section_3 : decode cX12_section 3 = .ok (.lconst 0, 1) := by decide +kernel
theorem dX12_section_4 : decode cX12_section 4 = .ok (.ldc2_w 129, 3) := by decide +kernel
theorem dX12_section_7 : decode cX12_section 7 = .ok (.invokestatic 79, 3) := by decide +kernel
theorem dX12_section_10 : decode cX12_section 10 = .ok (.ifCond .eq 7, 3) := by decide +kernel
theorem dX12_section_13 : decode cX12_section 13 = .ok (.iconst 0, 1) := by decide +kernel
theorem dX12_section_14 : decode cX12_section 14 = .ok (.goto 4, 3) := by decide +kernel
theorem dX12_section_17 : decode cX12_section 17 = .ok (.iconst 1, 1) := by decide +kernel
theorem dX12_section_18 : decode cX12_section 18 = .ok (.putfield 62, 3) := by decide +kernel
theorem dX12_section_21 : decode cX12_section 21 = .ok (.aload_n 0, 1) := by decide +kernel
theorem dX12_section_22 : decode cX12_section 22 = .ok (.getfield 62, 3) := by decide +kernel
theorem dX12_section_25 : decode cX12_section 25 = .ok (.ifCond .eq 7, 3) := by decide +kernel
theorem dX12_section_28 : decode cX12_section 28 = .ok (.iconst 0, 1) := by decide +kernel
theorem dX12_section_29 : decode cX12_section 29 = .ok (.goto 8, 3) := by decide +kernel
theorem dX12_section_32 : decode cX12_section 32 = .ok (.aload_n 0, 1) := by decide +kernel
theorem dX12_section_33 : decode cX12_section 33 = .ok (.iload_n 1, 1) := by decide +kernel
theorem dX12_section_34 : decode cX12_section 34 = .ok (.invokevirtual 247, 3) := by decide +kernel
theorem dX12_section_37 : decode cX12_section 37 = .ok (.ireturn, 1) := by decide +kernel
theorem dX12_fitOf_0 : decode cX12_fitOf 0 = .ok (.lconst 0, 1) := by decide +kernel
theorem dX12_fitOf_1 : decode cX12_fitOf 1 = .ok (.lstore_n 2, 1) := by decide +kernel
theorem dX12_fitOf_2 : decode cX12_fitOf 2 = .ok (.lconst 0, 1) := by decide +kernel
theorem dX12_fitOf_3 : decode cX12_fitOf 3 = .ok (.lstore 4, 2) := by decide +kernel
theorem dX12_fitOf_5 : decode cX12_fitOf 5 = .ok (.ldc2_w 87, 3) := by decide +kernel
theorem dX12_fitOf_8 : decode cX12_fitOf 8 = .ok (.lstore 6, 2) := by decide +kernel
theorem dX12_fitOf_10 : decode cX12_fitOf 10 = .ok (.iconst 0, 1) := by decide +kernel
theorem dX12_fitOf_11 : decode cX12_fitOf 11 = .ok (.istore 8, 2) := by decide +kernel
theorem dX12_fitOf_13 : decode cX12_fitOf 13 = .ok (.iload 8, 2) := by decide +kernel
theorem dX12_fitOf_15 : decode cX12_fitOf 15 = .ok (.i2l, 1) := by decide +kernel
theorem dX12_fitOf_16 : decode cX12_fitOf 16 = .ok (.aload_n 0, 1) := by decide +kernel
theorem dX12_fitOf_17 : decode cX12_fitOf 17 = .ok (.getfield 7, 3) := by decide +kernel
theorem dX12_fitOf_20 : decode cX12_fitOf 20 = .ok (.bipush 7, 2) := by decide +kernel
theorem dX12_fitOf_22 : decode cX12_fitOf 22 = .ok (.laload, 1) := by decide +kernel
theorem dX12_fitOf_23 : decode cX12_fitOf 23 = .ok (.lcmp, 1) := by decide +kernel
theorem dX12_fitOf_24 : decode cX12_fitOf 24 = .ok (.ifCond .ge 83, 3) := by decide +kernel
theorem dX12_fitOf_27 : decode cX12_fitOf 27 = .ok (.iload_n 1, 1) := by decide +kernel
theorem dX12_fitOf_28 : decode cX12_fitOf 28 = .ok (.iconst 3, 1) := by decide +kernel
theorem dX12_fitOf_29 : decode cX12_fitOf 29 = .ok (.if_icmp .ge 78, 3) := by decide +kernel
theorem dX12_fitOf_32 : decode cX12_fitOf 32 = .ok (.aload_n 0, 1) := by decide +kernel
theorem dX12_fitOf_33 : decode cX12_fitOf 33 = .ok (.iload 8, 2) := by decide +kernel
theorem dX12_fitOf_35 : decode cX12_fitOf 35 = .ok (.invokevirtual 89, 3) := by decide +kernel
theorem dX12_fitOf_38 : decode cX12_fitOf 38 = .ok (.ifCond .eq 63, 3) := by decide +kernel
theorem dX12_fitOf_41 : decode cX12_fitOf 41 = .ok (.aload_n 0, 1) := by decide +kernel
theorem dX12_fitOf_42 : decode cX12_fitOf 42 = .ok (.iload 8, 2) := by decide +kernel
theorem dX12_fitOf_44 : decode cX12_fitOf 44 = .ok (.invokevirtual 211, 3) := by decide +kernel
theorem dX12_fitOf_47 : decode cX12_fitOf 47 = .ok (.invokestatic 214, 3) := by decide +kernel
theorem dX12_fitOf_50 : decode cX12_fitOf 50 = .ok (.lstore 9, 2) := by decide +kernel
theorem dX12_fitOf_52 : decode cX12_fitOf 52 = .ok (.lload 6, 2) := by decide +kernel
theorem dX12_fitOf_54 : decode cX12_fitOf 54 = .ok (.ldc2_w 87, 3) := by decide +kernel
theorem dX12_fitOf_57 : decode cX12_fitOf 57 = .ok (.lcmp, 1) := by decide +kernel
theorem dX12_fitOf_58 : decode cX12_fitOf 58 = .ok (.ifCond .eq 11, 3) := by decide +kernel
theorem dX12_fitOf_61 : decode cX12_fitOf 61 = .ok (.lload 9, 2) := by decide +kernel
theorem dX12_fitOf_63 : decode cX12_fitOf 63 = .ok (.lload 4, 2) := by decide +kernel
theorem dX12_fitOf_65 : decode cX12_fitOf 65 = .ok (.lcmp, 1) := by decide +kernel
theorem dX12_fitOf_66 : decode cX12_fitOf 66 = .ok (.ifCond .le 9, 3) := by decide +kernel
theorem dX12_fitOf_69 : decode cX12_fitOf 69 = .ok (.iload 8, 2) := by decide +kernel
theorem dX12_fitOf_71 : decode cX12_fitOf 71 = .ok (.i2l, 1) := by decide +kernel
theorem dX12_fitOf_72 : decode cX12_fitOf 72 = .ok (.goto 5, 3) := by decide +kernel
theorem dX12_fitOf_75 : decode cX12_fitOf 75 = .ok (.lload 6, 2) := by decide +kernel
theorem dX12_fitOf_77 : decode cX12_fitOf 77 = .ok (.lstore 6, 2) := by decide +kernel
theorem dX12_fitOf_79 : decode cX12_fitOf 79 = .ok (.lload 9, 2) := by decide +kernel
theorem dX12_fitOf_81 : decode cX12_fitOf 81 = .ok (.lload 4, 2) := by decide +kernel
theorem dX12_fitOf_83 : decode cX12_fitOf 83 = .ok (.lcmp, 1) := by decide +kernel
theorem dX12_fitOf_84 : decode cX12_fitOf 84 = .ok (.ifCond .le 8, 3) := by decide +kernel
theorem dX12_fitOf_87 : decode cX12_fitOf 87 = .ok (.lload 9, 2) := by decide +kernel
theorem dX12_fitOf_89 : decode cX12_fitOf 89 = .ok (.goto 5, 3) := by decide +kernel
theorem dX12_fitOf_92 : decode cX12_fitOf 92 = .ok (.lload 4, 2) := by decide +kernel
theorem dX12_fitOf_94 : decode cX12_fitOf 94 = .ok (.lstore 4, 2) := by decide +kernel
theorem dX12_fitOf_96 : decode cX12_fitOf 96 = .ok (.lload_n 2, 1) := by decide +kernel
theorem dX12_fitOf_97 : decode cX12_fitOf 97 = .ok (.lload 9, 2) := by decide +kernel
theorem dX12_fitOf_99 : decode cX12_fitOf 99 = .ok (.ladd, 1) := by decide +kernel
theorem dX12_fitOf_100 : decode cX12_fitOf 100 = .ok (.lstore_n 2, 1) := by decide +kernel
theorem dX12_fitOf_101 : decode cX12_fitOf 101 = .ok (.iinc 8 1, 3) := by decide +kernel
theorem dX12_fitOf_104 : decode cX12_fitOf 104 = .ok (.goto (-91), 3) := by decide +kernel
theorem dX12_fitOf_107 : decode cX12_fitOf 107 = .ok (.iconst 0, 1) := by decide +kernel
theorem dX12_fitOf_108 : decode cX12_fitOf 108 = .ok (.istore 8, 2) := by decide +kernel
theorem dX12_fitOf_110 : decode cX12_fitOf 110 = .ok (.iload 8, 2) := by decide +kernel
theorem dX12_fitOf_112 : decode cX12_fitOf 112 = .ok (.aload_n 0, 1) := by decide +kernel
theorem dX12_fitOf_113 : decode cX12_fitOf 113 = .ok (.invokevirtual 76, 3) := by decide +kernel
theorem dX12_fitOf_116 : decode cX12_fitOf 116 = .ok (.if_icmp .ge 59, 3) := by decide +kernel
theorem dX12_fitOf_119 : decode cX12_fitOf 119 = .ok (.iload_n 1, 1) := by decide +kernel
theorem dX12_fitOf_120 : decode cX12_fitOf 120 = .ok (.iconst 2, 1) := by decide +kernel
theorem dX12_fitOf_121 : decode cX12_fitOf 121 = .ok (.if_icmp .le 54, 3) := by decide +kernel
theorem dX12_fitOf_124 : decode cX12_fitOf 124 = .ok (.lload_n 2, 1) := by decide +kernel
theorem dX12_fitOf_125 : decode cX12_fitOf 125 = .ok (.iload_n 1, 1) := by decide +kernel
theorem dX12_fitOf_126 : decode cX12_fitOf 126 = .ok (.iconst 3, 1) := by decide +kernel
theorem dX12_fitOf_127 : decode cX12_fitOf 127 = .ok (.if_icmp .ne 30, 3) := by decide +kernel
theorem dX12_fitOf_130 : decode cX12_fitOf 130 = .ok (.aload_n 0, 1) := by decide +kernel
theorem dX12_fitOf_131 : decode cX12_fitOf 131 = .ok (.getfield 7, 3) := by decide +kernel
theorem dX12_fitOf_134 : decode cX12_fitOf 134 = .ok (.bipush 8, 2) := by decide +kernel
theorem dX12_fitOf_136 : decode cX12_fitOf 136 = .ok (.iload 8, 2) := by decide +kernel
theorem dX12_fitOf_138 : decode cX12_fitOf 138 = .ok (.iadd, 1) := by decide +kernel
theorem dX12_fitOf_139 : decode cX12_fitOf 139 = .ok (.laload, 1) := by decide +kernel
theorem dX12_fitOf_140 : decode cX12_fitOf 140 = .ok (.aload_n 0, 1) := by decide +kernel
theorem dX12_fitOf_141 : decode cX12_fitOf 141 = .ok (.getfield 7, 3) := by decide +kernel
theorem dX12_fitOf_144 : decode cX12_fitOf 144 = .ok (.bipush 72, 2) := by decide +kernel
theorem dX12_fitOf_146 : decode cX12_fitOf 146 = .ok (.iload 8, 2) := by decide +kernel
theorem dX12_fitOf_148 : decode cX12_fitOf 148 = .ok (.iadd, 1) := by decide +kernel
theorem dX12_fitOf_149 : decode cX12_fitOf 149 = .ok (.laload, 1) := by decide +kernel
theorem dX12_fitOf_150 : decode cX12_fitOf 150 = .ok (.lsub, 1) := by decide +kernel
theorem dX12_fitOf_151 : decode cX12_fitOf 151 = .ok (.invokestatic 214, 3) := by decide +kernel
theorem dX12_fitOf_154 : decode cX12_fitOf 154 = .ok (.goto 13, 3) := by decide +kernel
theorem dX12_fitOf_157 : decode cX12_fitOf 157 = .ok (.aload_n 0, 1) := by decide +kernel
theorem dX12_fitOf_158 : decode cX12_fitOf 158 = .ok (.getfield 7, 3) := by decide +kernel
theorem dX12_fitOf_161 : decode cX12_fitOf 161 = .ok (.bipush 8, 2) := by decide +kernel
theorem dX12_fitOf_163 : decode cX12_fitOf 163 = .ok (.iload 8, 2) := by decide +kernel
theorem dX12_fitOf_165 : decode cX12_fitOf 165 = .ok (.iadd, 1) := by decide +kernel
theorem dX12_fitOf_166 : decode cX12_fitOf 166 = .ok (.laload, 1) := by decide +kernel
theorem dX12_fitOf_167 : decode cX12_fitOf 167 = .ok (.ladd, 1) := by decide +kernel
theorem dX12_fitOf_168 : decode cX12_fitOf 168 = .ok (.lstore_n 2, 1) := by decide +kernel
theorem dX12_fitOf_169 : decode cX12_fitOf 169 = .ok (.iinc 8 1, 3) := by decide +kernel
theorem dX12_fitOf_172 : decode cX12_fitOf 172 = .ok (.goto (-62), 3) := by decide +kernel
theorem dX12_fitOf_175 : decode cX12_fitOf 175 = .ok (.iload_n 1, 1) := by decide +kernel
theorem dX12_fitOf_176 : decode cX12_fitOf 176 = .ok (.iconst 1, 1) := by decide +kernel
theorem dX12_fitOf_177 : decode cX12_fitOf 177 = .ok (.if_icmp .ne 8, 3) := by decide +kernel
theorem dX12_fitOf_180 : decode cX12_fitOf 180 = .ok (.lload 4, 2) := by decide +kernel
theorem dX12_fitOf_182 : decode cX12_fitOf 182 = .ok (.goto 14, 3) := by decide +kernel
theorem dX12_fitOf_185 : decode cX12_fitOf 185 = .ok (.iload_n 1, 1) := by decide +kernel
theorem dX12_fitOf_186 : decode cX12_fitOf 186 = .ok (.iconst 2, 1) := by decide +kernel
theorem dX12_fitOf_187 : decode cX12_fitOf 187 = .ok (.if_icmp .ne 8, 3) := by decide +kernel
theorem dX12_fitOf_190 : decode cX12_fitOf 190 = .ok (.lload 6, 2) := by decide +kernel
theorem dX12_fitOf_192 : decode cX12_fitOf 192 = .ok (.goto 4, 3) := by decide +kernel
theorem dX12_fitOf_195 : decode cX12_fitOf 195 = .ok (.lload_n 2, 1) := by decide +kernel
theorem dX12_fitOf_196 : decode cX12_fitOf 196 = .ok (.lreturn, 1) := by decide +kernel
theorem dX12_fit_0 : decode cX12_fit 0 = .ok (.aload_n 0, 1) := by decide +kernel
theorem dX12_fit_1 : decode cX12_fit 1 = .ok (.iload_n 1, 1) := by decide +kernel
theorem dX12_fit_2 : decode cX12_fit 2 = .ok (.i2l, 1) := by decide +kernel
theorem dX12_fit_3 : decode cX12_fit 3 = .ok (.lconst 0, 1) := by decide +kernel
theorem dX12_fit_4 : decode cX12_fit 4 = .ok (.ldc2_w 242, 3) := by decide +kernel
theorem dX12_fit_7 : decode cX12_fit 7 = .ok (.invokestatic 79, 3) := by decide +kernel
theorem dX12_fit_10 : decode cX12_fit 10 = .ok (.ifCond .eq 7, 3) := by decide +kernel
theorem dX12_fit_13 : decode cX12_fit 13 = .ok (.iconst 0, 1) := by decide +kernel
theorem dX12_fit_14 : decode cX12_fit 14 = .ok (.goto 4, 3) := by decide +kernel
theorem dX12_fit_17 : decode cX12_fit 17 = .ok (.iconst 1, 1) := by decide +kernel
theorem dX12_fit_18 : decode cX12_fit 18 = .ok (.putfield 62, 3) := by decide +kernel
theorem dX12_fit_21 : decode cX12_fit 21 = .ok (.aload_n 0, 1) := by decide +kernel
theorem dX12_fit_22 : decode cX12_fit 22 = .ok (.getfield 62, 3) := by decide +kernel
theorem dX12_fit_25 : decode cX12_fit 25 = .ok (.ifCond .eq 7, 3) := by decide +kernel
theorem dX12_fit_28 : decode cX12_fit 28 = .ok (.lconst 0, 1) := by decide +kernel
theorem dX12_fit_29 : decode cX12_fit 29 = .ok (.goto 8, 3) := by decide +kernel
theorem dX12_fit_32 : decode cX12_fit 32 = .ok (.aload_n 0, 1) := by decide +kernel
theorem dX12_fit_33 : decode cX12_fit 33 = .ok (.iload_n 1, 1) := by decide +kernel
theorem dX12_fit_34 : decode cX12_fit 34 = .ok (.invokevirtual 250, 3) := by decide +kernel
theorem dX12_fit_37 : decode cX12_fit 37 = .ok (.lreturn, 1) := by decide +kernel
theorem dX12_whatIf_0 : decode cX12_whatIf 0 = .ok (.aload_n 0, 1) := by decide +kernel
theorem dX12_whatIf_1 : decode cX12_whatIf 1 = .ok (.aload_n 0, 1) := by decide +kernel
theorem dX12_whatIf_2 : decode cX12_whatIf 2 = .ok (.iload_n 1, 1) := by decide +kernel
theorem dX12_whatIf_3 : decode cX12_whatIf 3 = .ok (.invokevirtual 171, 3) := by decide +kernel
theorem dX12_whatIf_6 : decode cX12_whatIf 6 = .ok (.ifCond .eq 11, 3) := by decide +kernel
theorem dX12_whatIf_9 : decode cX12_whatIf 9 = .ok (.aload_n 0, 1) := by decide +kernel
theorem dX12_whatIf_10 : decode cX12_whatIf 10 = .ok (.iload_n 2, 1) := by decide +kernel
theorem dX12_whatIf_11 : decode cX12_whatIf 11 = .ok (.invokevirtual 134, 3) := by decide +kernel
theorem dX12_whatIf_14 : decode cX12_whatIf 14 = .ok (.ifCond .ne 7, 3) := by decide +kernel
theorem dX12_whatIf_17 : decode cX12_whatIf 17 = .ok (.iconst 1, 1) := by decide +kernel
theorem dX12_whatIf_18 : decode cX12_whatIf 18 = .ok (.goto 15, 3) := by decide +kernel
theorem dX12_whatIf_21 : decode cX12_whatIf 21 = .ok (.iload_n 3, 1) := by decide +kernel
theorem dX12_whatIf_22 : decode cX12_whatIf 22 = .ok (.invokestatic 137, 3) := by decide +kernel
theorem dX12_whatIf_25 : decode cX12_whatIf 25 = .ok (.ifCond .eq 7, 3) := by decide +kernel
theorem dX12_whatIf_28 : decode cX12_whatIf 28 = .ok (.iconst 0, 1) := by decide +kernel
theorem dX12_whatIf_29 : decode cX12_whatIf 29 = .ok (.goto 4, 3) := by decide +kernel
theorem dX12_whatIf_32 : decode cX12_whatIf 32 = .ok (.iconst 2, 1) := by decide +kernel
theorem dX12_whatIf_33 : decode cX12_whatIf 33 = .ok (.putfield 62, 3) := by decide +kernel
theorem dX12_whatIf_36 : decode cX12_whatIf 36 = .ok (.aload_n 0, 1) := by decide +kernel
theorem dX12_whatIf_37 : decode cX12_whatIf 37 = .ok (.getfield 62, 3) := by decide +kernel
theorem dX12_whatIf_40 : decode cX12_whatIf 40 = .ok (.ifCond .eq 5, 3) := by decide +kernel
theorem dX12_whatIf_43 : decode cX12_whatIf 43 = .ok (.lconst 0, 1) := by decide +kernel
theorem dX12_whatIf_44 : decode cX12_whatIf 44 = .ok (.lreturn, 1) := by decide +kernel
theorem dX12_whatIf_45 : decode cX12_whatIf 45 = .ok (.aload_n 0, 1) := by decide +kernel
theorem dX12_whatIf_46 : decode cX12_whatIf 46 = .ok (.iload_n 1, 1) := by decide +kernel
theorem dX12_whatIf_47 : decode cX12_whatIf 47 = .ok (.invokevirtual 121, 3) := by decide +kernel
theorem dX12_whatIf_50 : decode cX12_whatIf 50 = .ok (.lstore 4, 2) := by decide +kernel
theorem dX12_whatIf_52 : decode cX12_whatIf 52 = .ok (.aload_n 0, 1) := by decide +kernel
theorem dX12_whatIf_53 : decode cX12_whatIf 53 = .ok (.getfield 7, 3) := by decide +kernel
theorem dX12_whatIf_56 : decode cX12_whatIf 56 = .ok (.bipush 8, 2) := by decide +kernel
theorem dX12_whatIf_58 : decode cX12_whatIf 58 = .ok (.iload_n 2, 1) := by decide +kernel
theorem dX12_whatIf_59 : decode cX12_whatIf 59 = .ok (.iadd, 1) := by decide +kernel
theorem dX12_whatIf_60 : decode cX12_whatIf 60 = .ok (.laload, 1) := by decide +kernel
theorem dX12_whatIf_61 : decode cX12_whatIf 61 = .ok (.lstore 6, 2) := by decide +kernel
theorem dX12_whatIf_63 : decode cX12_whatIf 63 = .ok (.aload_n 0, 1) := by decide +kernel
theorem dX12_whatIf_64 : decode cX12_whatIf 64 = .ok (.getfield 7, 3) := by decide +kernel
theorem dX12_whatIf_67 : decode cX12_whatIf 67 = .ok (.bipush 8, 2) := by decide +kernel
theorem dX12_whatIf_69 : decode cX12_whatIf 69 = .ok (.iload_n 2, 1) := by decide +kernel
theorem dX12_whatIf_70 : decode cX12_whatIf 70 = .ok (.iadd, 1) := by decide +kernel
theorem dX12_whatIf_71 : decode cX12_whatIf 71 = .ok (.iload_n 3, 1) := by decide +kernel
theorem dX12_whatIf_72 : decode cX12_whatIf 72 = .ok (.i2l, 1) := by decide +kernel
theorem dX12_whatIf_73 : decode cX12_whatIf 73 = .ok (.lastore, 1) := by decide +kernel
theorem dX12_whatIf_74 : decode cX12_whatIf 74 = .ok (.aload_n 0, 1) := by decide +kernel
theorem dX12_whatIf_75 : decode cX12_whatIf 75 = .ok (.iload_n 1, 1) := by decide +kernel
theorem dX12_whatIf_76 : decode cX12_whatIf 76 = .ok (.invokevirtual 121, 3) := by decide +kernel
theorem dX12_whatIf_79 : decode cX12_whatIf 79 = .ok (.lstore 8, 2) := by decide +kernel
theorem dX12_whatIf_81 : decode cX12_whatIf 81 = .ok (.aload_n 0, 1) := by decide +kernel
theorem dX12_whatIf_82 : decode cX12_whatIf 82 = .ok (.getfield 7, 3) := by decide +kernel
theorem dX12_whatIf_85 : decode cX12_whatIf 85 = .ok (.bipush 8, 2) := by decide +kernel
theorem dX12_whatIf_87 : decode cX12_whatIf 87 = .ok (.iload_n 2, 1) := by decide +kernel
theorem dX12_whatIf_88 : decode cX12_whatIf 88 = .ok (.iadd, 1) := by decide +kernel
theorem dX12_whatIf_89 : decode cX12_whatIf 89 = .ok (.lload 6, 2) := by decide +kernel
theorem dX12_whatIf_91 : decode cX12_whatIf 91 = .ok (.lastore, 1) := by decide +kernel
theorem dX12_whatIf_92 : decode cX12_whatIf 92 = .ok (.lload 8, 2) := by decide +kernel
theorem dX12_whatIf_94 : decode cX12_whatIf 94 = .ok (.lload 4, 2) := by decide +kernel
theorem dX12_whatIf_96 : decode cX12_whatIf 96 = .ok (.lsub, 1) := by decide +kernel
theorem dX12_whatIf_97 : decode cX12_whatIf 97 = .ok (.lreturn, 1) := by decide +kernel
theorem dX12_type_0 : decode cX12_type 0 = .ok (.aload_n 0, 1) := by decide +kernel
theorem dX12_type_1 : decode cX12_type 1 = .ok (.iload_n 1, 1) := by decide +kernel
theorem dX12_type_2 : decode cX12_type 2 = .ok (.i2l, 1) := by decide +kernel
theorem dX12_type_3 : decode cX12_type 3 = .ok (.lconst 0, 1) := by decide +kernel
theorem dX12_type_4 : decode cX12_type 4 = .ok (.ldc2_w 253, 3) := by decide +kernel
theorem dX12_type_7 : decode cX12_type 7 = .ok (.invokestatic 79, 3) := by decide +kernel
theorem dX12_type_10 : decode cX12_type 10 = .ok (.ifCond .ne 7, 3) := by decide +kernel
theorem dX12_type_13 : decode cX12_type 13 = .ok (.iconst 1, 1) := by decide +kernel
theorem dX12_type_14 : decode cX12_type 14 = .ok (.goto 17, 3) := by decide +kernel
theorem dX12_type_17 : decode cX12_type 17 = .ok (.aload_n 0, 1) := by decide +kernel
theorem dX12_type_18 : decode cX12_type 18 = .ok (.getfield 255, 3) := by decide +kernel
theorem dX12_type_21 : decode cX12_type 21 = .ok (.bipush 120, 2) := by decide +kernel
theorem dX12_type_23 : decode cX12_type 23 = .ok (.if_icmp .ne 7, 3) := by decide +kernel
theorem dX12_type_26 : decode cX12_type 26 = .ok (.iconst 2, 1) := by decide +kernel
theorem dX12_type_27 : decode cX12_type 27 = .ok (.goto 4, 3) := by decide +kernel
theorem dX12_type_30 : decode cX12_type 30 = .ok (.iconst 0, 1) := by decide +kernel
theorem dX12_type_31 : decode cX12_type 31 = .ok (.putfield 62, 3) := by decide +kernel
theorem dX12_type_34 : decode cX12_type 34 = .ok (.aload_n 0, 1) := by decide +kernel
theorem dX12_type_35 : decode cX12_type 35 = .ok (.getfield 62, 3) := by decide +kernel
theorem dX12_type_38 : decode cX12_type 38 = .ok (.ifCond .eq 5, 3) := by decide +kernel
theorem dX12_type_41 : decode cX12_type 41 = .ok (.iconst 0, 1) := by decide +kernel
theorem dX12_type_42 : decode cX12_type 42 = .ok (.ireturn, 1) := by decide +kernel
theorem dX12_type_43 : decode cX12_type 43 = .ok (.aload_n 0, 1) := by decide +kernel
theorem dX12_type_44 : decode cX12_type 44 = .ok (.getfield 16, 3) := by decide +kernel
theorem dX12_type_47 : decode cX12_type 47 = .ok (.aload_n 0, 1) := by decide +kernel
theorem dX12_type_48 : decode cX12_type 48 = .ok (.getfield 255, 3) := by decide +kernel
theorem dX12_type_51 : decode cX12_type 51 = .ok (.iload_n 1, 1) := by decide +kernel
theorem dX12_type_52 : decode cX12_type 52 = .ok (.iastore, 1) := by decide +kernel
theorem dX12_type_53 : decode cX12_type 53 = .ok (.aload_n 0, 1) := by decide +kernel
theorem dX12_type_54 : decode cX12_type 54 = .ok (.dup, 1) := by decide +kernel
theorem dX12_type_55 : decode cX12_type 55 = .ok (.getfield 255, 3) := by decide +kernel
theorem dX12_type_58 : decode cX12_type 58 = .ok (.iconst 1, 1) := by decide +kernel
theorem dX12_type_59 : decode cX12_type 59 = .ok (.iadd, 1) := by decide +kernel
theorem dX12_type_60 : decode cX12_type 60 = .ok (.putfield 255, 3) := by decide +kernel
theorem dX12_type_63 : decode cX12_type 63 = .ok (.aload_n 0, 1) := by decide +kernel
theorem dX12_type_64 : decode cX12_type 64 = .ok (.getfield 255, 3) := by decide +kernel
theorem dX12_type_67 : decode cX12_type 67 = .ok (.ireturn, 1) := by decide +kernel
theorem dX12_clearScript_0 : decode cX12_clearScript 0 = .ok (.aload_n 0, 1) := by decide +kernel
theorem dX12_clearScript_1 : decode cX12_clearScript 1 = .ok (.iconst 0, 1) := by decide +kernel
theorem dX12_clearScript_2 : decode cX12_clearScript 2 = .ok (.putfield 62, 3) := by decide +kernel
theorem dX12_clearScript_5 : decode cX12_clearScript 5 = .ok (.aload_n 0, 1) := by decide +kernel
theorem dX12_clearScript_6 : decode cX12_clearScript 6 = .ok (.getfield 255, 3) := by decide +kernel
theorem dX12_clearScript_9 : decode cX12_clearScript 9 = .ok (.istore_n 1, 1) := by decide +kernel
theorem dX12_clearScript_10 : decode cX12_clearScript 10 = .ok (.aload_n 0, 1) := by decide +kernel
theorem dX12_clearScript_11 : decode cX12_clearScript 11 = .ok (.iconst 0, 1) := by decide +kernel
theorem dX12_clearScript_12 : decode cX12_clearScript 12 = .ok (.putfield 255, 3) := by decide +kernel
theorem dX12_clearScript_15 : decode cX12_clearScript 15 = .ok (.iload_n 1, 1) := by decide +kernel
theorem dX12_clearScript_16 : decode cX12_clearScript 16 = .ok (.ireturn, 1) := by decide +kernel
theorem dX12_here_0 : decode cX12_here 0 = .ok (.aload_n 0, 1) := by decide +kernel
theorem dX12_here_1 : decode cX12_here 1 = .ok (.getfield 258, 3) := by decide +kernel
theorem dX12_here_4 : decode cX12_here 4 = .ok (.aload_n 0, 1) := by decide +kernel
theorem dX12_here_5 : decode cX12_here 5 = .ok (.getfield 255, 3) := by decide +kernel
theorem dX12_here_8 : decode cX12_here 8 = .ok (.if_icmp .ge 15, 3) := by decide +kernel
theorem dX12_here_11 : decode cX12_here 11 = .ok (.aload_n 0, 1) := by decide +kernel
theorem dX12_here_12 : decode cX12_here 12 = .ok (.getfield 16, 3) := by decide +kernel
theorem dX12_here_15 : decode cX12_here 15 = .ok (.aload_n 0, 1) := by decide +kernel
theorem dX12_here_16 : decode cX12_here 16 = .ok (.getfield 258, 3) := by decide +kernel
theorem dX12_here_19 : decode cX12_here 19 = .ok (.iaload, 1) := by decide +kernel
theorem dX12_here_20 : decode cX12_here 20 = .ok (.goto 4, 3) := by decide +kernel
theorem dX12_here_23 : decode cX12_here 23 = .ok (.iconst (-1), 1) := by decide +kernel
theorem dX12_here_24 : decode cX12_here 24 = .ok (.ireturn, 1) := by decide +kernel
theorem dX12_spaces_0 : decode cX12_spaces 0 = .ok (.aload_n 0, 1) := by decide +kernel
theorem dX12_spaces_1 : decode cX12_spaces 1 = .ok (.getfield 258, 3) := by decide +kernel
theorem dX12_spaces_4 : decode cX12_spaces 4 = .ok (.istore_n 1, 1) := by decide +kernel
theorem dX12_spaces_5 : decode cX12_spaces 5 = .ok (.aload_n 0, 1) := by decide +kernel
theorem dX12_spaces_6 : decode cX12_spaces 6 = .ok (.invokevirtual 261, 3) := by decide +kernel
theorem dX12_spaces_9 : decode cX12_spaces 9 = .ok (.bipush 32, 2) := by decide +kernel
theorem dX12_spaces_11 : decode cX12_spaces 11 = .ok (.if_icmp .ne 16, 3) := by decide +kernel
theorem dX12_spaces_14 : decode cX12_spaces 14 = .ok (.aload_n 0, 1) := by decide +kernel
theorem dX12_spaces_15 : decode cX12_spaces 15 = .ok (.dup, 1) := by decide +kernel
theorem dX12_spaces_16 : decode cX12_spaces 16 = .ok (.getfield 258, 3) := by decide +kernel
theorem dX12_spaces_19 : decode cX12_spaces 19 = .ok (.iconst 1, 1) := by decide +kernel
theorem dX12_spaces_20 : decode cX12_spaces 20 = .ok (.iadd, 1) := by decide +kernel
theorem dX12_spaces_21 : decode cX12_spaces 21 = .ok (.putfield 258, 3) := by decide +kernel
theorem dX12_spaces_24 : decode cX12_spaces 24 = .ok (.goto (-19), 3) := by decide +kernel
theorem dX12_spaces_27 : decode cX12_spaces 27 = .ok (.aload_n 0, 1) := by decide +kernel
theorem dX12_spaces_28 : decode cX12_spaces 28 = .ok (.getfield 258, 3) := by decide +kernel
theorem dX12_spaces_31 : decode cX12_spaces 31 = .ok (.iload_n 1, 1) := by decide +kernel
theorem dX12_spaces_32 : decode cX12_spaces 32 = .ok (.if_icmp .le 7, 3) := by decide +kernel
theorem dX12_spaces_35 : decode cX12_spaces 35 = .ok (.iconst 1, 1) := by decide +kernel
theorem dX12_spaces_36 : decode cX12_spaces 36 = .ok (.goto 4, 3) := by decide +kernel
theorem dX12_spaces_39 : decode cX12_spaces 39 = .ok (.iconst 0, 1) := by decide +kernel
theorem dX12_spaces_40 : decode cX12_spaces 40 = .ok (.ireturn, 1) := by decide +kernel
theorem dX12_kindOf_0 : decode cX12_kindOf 0 = .ok (.lload_n 0, 1) := by decide +kernel
theorem dX12_kindOf_1 : decode cX12_kindOf 1 = .ok (.ldc2_w 264, 3) := by decide +kernel
theorem dX12_kindOf_4 : decode cX12_kindOf 4 = .ok (.lcmp, 1) := by decide +kernel
theorem dX12_kindOf_5 : decode cX12_kindOf 5 = .ok (.ifCond .eq 11, 3) := by decide +kernel
theorem dX12_kindOf_8 : decode cX12_kindOf 8 = .ok (.lload_n 0, 1) := by decide +kernel
theorem dX12_kindOf_9 : decode cX12_kindOf 9 = .ok (.ldc2_w 266, 3) := by decide +kernel
theorem dX12_kindOf_12 : decode cX12_kindOf 12 = .ok (.lcmp, 1) := by decide +kernel
theorem dX12_kindOf_13 : decode cX12_kindOf 13 = .ok (.ifCond .ne 17, 3) := by decide +kernel
theorem dX12_kindOf_16 : decode cX12_kindOf 16 = .ok (.lload_n 0, 1) := by decide +kernel
theorem dX12_kindOf_17 : decode cX12_kindOf 17 = .ok (.ldc2_w 264, 3) := by decide +kernel
theorem dX12_kindOf_20 : decode cX12_kindOf 20 = .ok (.lcmp, 1) := by decide +kernel
theorem dX12_kindOf_21 : decode cX12_kindOf 21 = .ok (.ifCond .ne 7, 3) := by decide +kernel
theorem dX12_kindOf_24 : decode cX12_kindOf 24 = .ok (.iconst 0, 1) := by decide +kernel
theorem dX12_kindOf_25 : decode cX12_kindOf 25 = .ok (.goto 4, 3) := by decide +kernel
theorem dX12_kindOf_28 : decode cX12_kindOf 28 = .ok (.iconst 1, 1) := by decide +kernel
theorem dX12_kindOf_29 : decode cX12_kindOf 29 = .ok (.ireturn, 1) := by decide +kernel
theorem dX12_kindOf_30 : decode cX12_kindOf 30 = .ok (.lload_n 0, 1) := by decide +kernel
theorem dX12_kindOf_31 : decode cX12_kindOf 31 = .ok (.ldc2_w 268, 3) := by decide +kernel
theorem dX12_kindOf_34 : decode cX12_kindOf 34 = .ok (.lcmp, 1) := by decide +kernel
theorem dX12_kindOf_35 : decode cX12_kindOf 35 = .ok (.ifCond .eq 11, 3) := by decide +kernel
theorem dX12_kindOf_38 : decode cX12_kindOf 38 = .ok (.lload_n 0, 1) := by decide +kernel
theorem dX12_kindOf_39 : decode cX12_kindOf 39 = .ok (.ldc2_w 270, 3) := by decide +kernel
theorem dX12_kindOf_42 : decode cX12_kindOf 42 = .ok (.lcmp, 1) := by decide +kernel
theorem dX12_kindOf_43 : decode cX12_kindOf 43 = .ok (.ifCond .ne 17, 3) := by decide +kernel
theorem dX12_kindOf_46 : decode cX12_kindOf 46 = .ok (.lload_n 0, 1) := by decide +kernel
theorem dX12_kindOf_47 : decode cX12_kindOf 47 = .ok (.ldc2_w 268, 3) := by decide +kernel
theorem dX12_kindOf_50 : decode cX12_kindOf 50 = .ok (.lcmp, 1) := by decide +kernel
theorem dX12_kindOf_51 : decode cX12_kindOf 51 = .ok (.ifCond .ne 7, 3) := by decide +kernel
theorem dX12_kindOf_54 : decode cX12_kindOf 54 = .ok (.iconst 2, 1) := by decide +kernel
theorem dX12_kindOf_55 : decode cX12_kindOf 55 = .ok (.goto 4, 3) := by decide +kernel
theorem dX12_kindOf_58 : decode cX12_kindOf 58 = .ok (.iconst 3, 1) := by decide +kernel
theorem dX12_kindOf_59 : decode cX12_kindOf 59 = .ok (.ireturn, 1) := by decide +kernel
theorem dX12_kindOf_60 : decode cX12_kindOf 60 = .ok (.lload_n 0, 1) := by decide +kernel
theorem dX12_kindOf_61 : decode cX12_kindOf 61 = .ok (.ldc2_w 272, 3) := by decide +kernel
theorem dX12_kindOf_64 : decode cX12_kindOf 64 = .ok (.lcmp, 1) := by decide +kernel
theorem dX12_kindOf_65 : decode cX12_kindOf 65 = .ok (.ifCond .eq 11, 3) := by decide +kernel
theorem dX12_kindOf_68 : decode cX12_kindOf 68 = .ok (.lload_n 0, 1) := by decide +kernel
theorem dX12_kindOf_69 : decode cX12_kindOf 69 = .ok (.ldc2_w 274, 3) := by decide +kernel
theorem dX12_kindOf_72 : decode cX12_kindOf 72 = .ok (.lcmp, 1) := by decide +kernel
theorem dX12_kindOf_73 : decode cX12_kindOf 73 = .ok (.ifCond .ne 17, 3) := by decide +kernel
theorem dX12_kindOf_76 : decode cX12_kindOf 76 = .ok (.lload_n 0, 1) := by decide +kernel
theorem dX12_kindOf_77 : decode cX12_kindOf 77 = .ok (.ldc2_w 272, 3) := by decide +kernel
theorem dX12_kindOf_80 : decode cX12_kindOf 80 = .ok (.lcmp, 1) := by decide +kernel
theorem dX12_kindOf_81 : decode cX12_kindOf 81 = .ok (.ifCond .ne 7, 3) := by decide +kernel
theorem dX12_kindOf_84 : decode cX12_kindOf 84 = .ok (.iconst 4, 1) := by decide +kernel
theorem dX12_kindOf_85 : decode cX12_kindOf 85 = .ok (.goto 4, 3) := by decide +kernel
theorem dX12_kindOf_88 : decode cX12_kindOf 88 = .ok (.iconst 5, 1) := by decide +kernel
theorem dX12_kindOf_89 : decode cX12_kindOf 89 = .ok (.ireturn, 1) := by decide +kernel
theorem dX12_kindOf_90 : decode cX12_kindOf 90 = .ok (.lload_n 0, 1) := by decide +kernel
theorem dX12_kindOf_91 : decode cX12_kindOf 91 = .ok (.ldc2_w 276, 3) := by decide +kernel
theorem dX12_kindOf_94 : decode cX12_kindOf 94 = .ok (.lcmp, 1) := by decide +kernel
theorem dX12_kindOf_95 : decode cX12_kindOf 95 = .ok (.ifCond .ne 8, 3) := by decide +kernel
theorem dX12_kindOf_98 : decode cX12_kindOf 98 = .ok (.bipush 6, 2) := by decide +kernel
theorem dX12_kindOf_100 : decode cX12_kindOf 100 = .ok (.goto 17, 3) := by decide +kernel
theorem dX12_kindOf_103 : decode cX12_kindOf 103 = .ok (.lload_n 0, 1) := by decide +kernel
theorem dX12_kindOf_104 : decode cX12_kindOf 104 = .ok (.ldc2_w 278, 3) := by decide +kernel
theorem dX12_kindOf_107 : decode cX12_kindOf 107 = .ok (.lcmp, 1) := by decide +kernel
theorem dX12_kindOf_108 : decode cX12_kindOf 108 = .ok (.ifCond .ne 8, 3) := by decide +kernel
theorem dX12_kindOf_111 : decode cX12_kindOf 111 = .ok (.bipush 7, 2) := by decide +kernel
theorem dX12_kindOf_113 : decode cX12_kindOf 113 = .ok (.goto 4, 3) := by decide +kernel
theorem dX12_kindOf_116 : decode cX12_kindOf 116 = .ok (.iconst (-1), 1) := by decide +kernel
theorem dX12_kindOf_117 : decode cX12_kindOf 117 = .ok (.ireturn, 1) := by decide +kernel
theorem dX12_readWord_0 : decode cX12_readWord 0 = .ok (.aload_n 0, 1) := by decide +kernel
theorem dX12_readWord_1 : decode cX12_readWord 1 = .ok (.getfield 258, 3) := by decide +kernel
theorem dX12_readWord_4 : decode cX12_readWord 4 = .ok (.istore_n 2, 1) := by decide +kernel
theorem dX12_readWord_5 : decode cX12_readWord 5 = .ok (.lconst 0, 1) := by decide +kernel
theorem dX12_readWord_6 : decode cX12_readWord 6 = .ok (.lstore_n 3, 1) := by decide +kernel
theorem dX12_readWord_7 : decode cX12_readWord 7 = .ok (.aload_n 0, 1) := by decide +kernel
theorem dX12_readWord_8 : decode cX12_readWord 8 = .ok (.invokevirtual 261, 3) := by decide +kernel
theorem dX12_readWord_11 : decode cX12_readWord 11 = .ok (.i2l, 1) := by decide +kernel
theorem dX12_readWord_12 : decode cX12_readWord 12 = .ok (.ldc2_w 280, 3) := by decide +kernel
theorem dX12_readWord_15 : decode cX12_readWord 15 = .ok (.ldc2_w 282, 3) := by decide +kernel
theorem dX12_readWord_18 : decode cX12_readWord 18 = .ok (.invokestatic 79, 3) := by decide +kernel
theorem dX12_readWord_21 : decode cX12_readWord 21 = .ok (.ifCond .eq 45, 3) := by decide +kernel
theorem dX12_readWord_24 : decode cX12_readWord 24 = .ok (.aload_n 0, 1) := by decide +kernel
theorem dX12_readWord_25 : decode cX12_readWord 25 = .ok (.getfield 258, 3) := by decide +kernel
theorem dX12_readWord_28 : decode cX12_readWord 28 = .ok (.iload_n 2, 1) := by decide +kernel
theorem dX12_readWord_29 : decode cX12_readWord 29 = .ok (.isub, 1) := by decide +kernel
theorem dX12_readWord_30 : decode cX12_readWord 30 = .ok (.bipush 6, 2) := by decide +kernel
theorem dX12_readWord_32 : decode cX12_readWord 32 = .ok (.if_icmp .ge 17, 3) := by decide +kernel
theorem dX12_readWord_35 : decode cX12_readWord 35 = .ok (.lload_n 3, 1) := by decide +kernel
theorem dX12_readWord_36 : decode cX12_readWord 36 = .ok (.ldc2_w 284, 3) := by decide +kernel
theorem dX12_readWord_39 : decode cX12_readWord 39 = .ok (.lmul, 1) := by decide +kernel
theorem dX12_readWord_40 : decode cX12_readWord 40 = .ok (.aload_n 0, 1) := by decide +kernel
theorem dX12_readWord_41 : decode cX12_readWord 41 = .ok (.invokevirtual 261, 3) := by decide +kernel
theorem dX12_readWord_44 : decode cX12_readWord 44 = .ok (.i2l, 1) := by decide +kernel
theorem dX12_readWord_45 : decode cX12_readWord 45 = .ok (.ladd, 1) := by decide +kernel
theorem dX12_readWord_46 : decode cX12_readWord 46 = .ok (.goto 6, 3) := by decide +kernel
theorem dX12_readWord_49 : decode cX12_readWord 49 = .ok (.ldc2_w 87, 3) := by decide +kernel
theorem dX12_readWord_52 : decode cX12_readWord 52 = .ok (.lstore_n 3, 1) := by decide +kernel
theorem dX12_readWord_53 : decode cX12_readWord 53 = .ok (.aload_n 0, 1) := by decide +kernel
theorem dX12_readWord_54 : decode cX12_readWord 54 = .ok (.dup, 1) := by decide +kernel
theorem dX12_readWord_55 : decode cX12_readWord 55 = .ok (.getfield 258, 3) := by decide +kernel
theorem dX12_readWord_58 : decode cX12_readWord 58 = .ok (.iconst 1, 1) := by decide +kernel
theorem dX12_readWord_59 : decode cX12_readWord 59 = .ok (.iadd, 1) := by decide +kernel
theorem dX12_readWord_60 : decode cX12_readWord 60 = .ok (.putfield 258, 3) := by decide +kernel
theorem dX12_readWord_63 : decode cX12_readWord 63 = .ok (.goto (-56), 3) := by decide +kernel
theorem dX12_readWord_66 : decode cX12_readWord 66 = .ok (.aload_n 0, 1) := by decide +kernel
theorem dX12_readWord_67 : decode cX12_readWord 67 = .ok (.getfield 258, 3) := by decide +kernel
theorem dX12_readWord_70 : decode cX12_readWord 70 = .ok (.iload_n 2, 1) := by decide +kernel
theorem dX12_readWord_71 : decode cX12_readWord 71 = .ok (.if_icmp .ne 5, 3) := by decide +kernel
theorem dX12_readWord_74 : decode cX12_readWord 74 = .ok (.iconst 0, 1) := by decide +kernel
theorem dX12_readWord_75 : decode cX12_readWord 75 = .ok (.ireturn, 1) := by decide +kernel
theorem dX12_readWord_76 : decode cX12_readWord 76 = .ok (.aload_n 0, 1) := by decide +kernel
theorem dX12_readWord_77 : decode cX12_readWord 77 = .ok (.getfield 51, 3) := by decide +kernel
theorem dX12_readWord_80 : decode cX12_readWord 80 = .ok (.iload_n 1, 1) := by decide +kernel
theorem dX12_readWord_81 : decode cX12_readWord 81 = .ok (.aload_n 0, 1) := by decide +kernel
theorem dX12_readWord_82 : decode cX12_readWord 82 = .ok (.getfield 258, 3) := by decide +kernel
theorem dX12_readWord_85 : decode cX12_readWord 85 = .ok (.iload_n 2, 1) := by decide +kernel
theorem dX12_readWord_86 : decode cX12_readWord 86 = .ok (.isub, 1) := by decide +kernel
theorem dX12_readWord_87 : decode cX12_readWord 87 = .ok (.bipush 6, 2) := by decide +kernel
theorem dX12_readWord_89 : decode cX12_readWord 89 = .ok (.if_icmp .le 7, 3) := by decide +kernel
theorem dX12_readWord_92 : decode cX12_readWord 92 = .ok (.iconst (-1), 1) := by decide +kernel
theorem dX12_readWord_93 : decode cX12_readWord 93 = .ok (.goto 7, 3) := by decide +kernel
theorem dX12_readWord_96 : decode cX12_readWord 96 = .ok (.lload_n 3, 1) := by decide +kernel
theorem dX12_readWord_97 : decode cX12_readWord 97 = .ok (.invokestatic 286, 3) := by decide +kernel
theorem dX12_readWord_100 : decode cX12_readWord 100 = .ok (.iastore, 1) := by decide +kernel
theorem dX12_readWord_101 : decode cX12_readWord 101 = .ok (.aload_n 0, 1) := by decide +kernel
theorem dX12_readWord_102 : decode cX12_readWord 102 = .ok (.aload_n 0, 1) := by decide +kernel
theorem dX12_readWord_103 : decode cX12_readWord 103 = .ok (.getfield 51, 3) := by decide +kernel
theorem dX12_readWord_106 : decode cX12_readWord 106 = .ok (.iload_n 1, 1) := by decide +kernel
theorem dX12_readWord_107 : decode cX12_readWord 107 = .ok (.iaload, 1) := by decide +kernel
theorem dX12_readWord_108 : decode cX12_readWord 108 = .ok (.iconst (-1), 1) := by decide +kernel
theorem dX12_readWord_109 : decode cX12_readWord 109 = .ok (.if_icmp .ne 7, 3) := by decide +kernel
theorem dX12_readWord_112 : decode cX12_readWord 112 = .ok (.iload_n 2, 1) := by decide +kernel
theorem dX12_readWord_113 : decode cX12_readWord 113 = .ok (.goto 7, 3) := by decide +kernel
theorem dX12_readWord_116 : decode cX12_readWord 116 = .ok (.aload_n 0, 1) := by decide +kernel
theorem dX12_readWord_117 : decode cX12_readWord 117 = .ok (.getfield 258, 3) := by decide +kernel
theorem dX12_readWord_120 : decode cX12_readWord 120 = .ok (.putfield 258, 3) := by decide +kernel
theorem dX12_readWord_123 : decode cX12_readWord 123 = .ok (.aload_n 0, 1) := by decide +kernel
theorem dX12_readWord_124 : decode cX12_readWord 124 = .ok (.getfield 51, 3) := by decide +kernel
theorem dX12_readWord_127 : decode cX12_readWord 127 = .ok (.iload_n 1, 1) := by decide +kernel
theorem dX12_readWord_128 : decode cX12_readWord 128 = .ok (.iaload, 1) := by decide +kernel
theorem dX12_readWord_129 : decode cX12_readWord 129 = .ok (.iconst (-1), 1) := by decide +kernel
theorem dX12_readWord_130 : decode cX12_readWord 130 = .ok (.if_icmp .eq 7, 3) := by decide +kernel
theorem dX12_readWord_133 : decode cX12_readWord 133 = .ok (.iconst 1, 1) := by decide +kernel
theorem dX12_readWord_134 : decode cX12_readWord 134 = .ok (.goto 4, 3) := by decide +kernel
theorem dX12_readWord_137 : decode cX12_readWord 137 = .ok (.iconst 0, 1) := by decide +kernel
theorem dX12_readWord_138 : decode cX12_readWord 138 = .ok (.ireturn, 1) := by decide +kernel
theorem dX12_readNumber_0 : decode cX12_readNumber 0 = .ok (.aload_n 0, 1) := by decide +kernel
theorem dX12_readNumber_1 : decode cX12_readNumber 1 = .ok (.invokevirtual 290, 3) := by decide +kernel
theorem dX12_readNumber_4 : decode cX12_readNumber 4 = .ok (.ifCond .ne 5, 3) := by decide +kernel
theorem dX12_readNumber_7 : decode cX12_readNumber 7 = .ok (.iconst 0, 1) := by decide +kernel
theorem dX12_readNumber_8 : decode cX12_readNumber 8 = .ok (.ireturn, 1) := by decide +kernel
theorem dX12_readNumber_9 : decode cX12_readNumber 9 = .ok (.aload_n 0, 1) := by decide +kernel
theorem dX12_readNumber_10 : decode cX12_readNumber 10 = .ok (.getfield 258, 3) := by decide +kernel
theorem dX12_readNumber_13 : decode cX12_readNumber 13 = .ok (.istore_n 2, 1) := by decide +kernel
theorem dX12_readNumber_14 : decode cX12_readNumber 14 = .ok (.iconst 0, 1) := by decide +kernel
theorem dX12_readNumber_15 : decode cX12_readNumber 15 = .ok (.istore_n 3, 1) := by decide +kernel
theorem dX12_readNumber_16 : decode cX12_readNumber 16 = .ok (.aload_n 0, 1) := by decide +kernel
theorem dX12_readNumber_17 : decode cX12_readNumber 17 = .ok (.getfield 258, 3) := by decide +kernel
theorem dX12_readNumber_20 : decode cX12_readNumber 20 = .ok (.iload_n 2, 1) := by decide +kernel
theorem dX12_readNumber_21 : decode cX12_readNumber 21 = .ok (.bipush 6, 2) := by decide +kernel
theorem dX12_readNumber_23 : decode cX12_readNumber 23 = .ok (.iadd, 1) := by decide +kernel
theorem dX12_readNumber_24 : decode cX12_readNumber 24 = .ok (.if_icmp .ge 46, 3) := by decide +kernel
theorem dX12_readNumber_27 : decode cX12_readNumber 27 = .ok (.aload_n 0, 1) := by decide +kernel
theorem dX12_readNumber_28 : decode cX12_readNumber 28 = .ok (.invokevirtual 261, 3) := by decide +kernel
theorem dX12_readNumber_31 : decode cX12_readNumber 31 = .ok (.i2l, 1) := by decide +kernel
theorem dX12_readNumber_32 : decode cX12_readNumber 32 = .ok (.ldc2_w 294, 3) := by decide +kernel
theorem dX12_readNumber_35 : decode cX12_readNumber 35 = .ok (.ldc2_w 296, 3) := by decide +kernel
theorem dX12_readNumber_38 : decode cX12_readNumber 38 = .ok (.invokestatic 79, 3) := by decide +kernel
theorem dX12_readNumber_41 : decode cX12_readNumber 41 = .ok (.ifCond .eq 29, 3) := by decide +kernel
theorem dX12_readNumber_44 : decode cX12_readNumber 44 = .ok (.bipush 10, 2) := by decide +kernel
theorem dX12_readNumber_46 : decode cX12_readNumber 46 = .ok (.iload_n 3, 1) := by decide +kernel
theorem dX12_readNumber_47 : decode cX12_readNumber 47 = .ok (.imul, 1) := by decide +kernel
theorem dX12_readNumber_48 : decode cX12_readNumber 48 = .ok (.aload_n 0, 1) := by decide +kernel
theorem dX12_readNumber_49 : decode cX12_readNumber 49 = .ok (.invokevirtual 261, 3) := by decide +kernel
theorem dX12_readNumber_52 : decode cX12_readNumber 52 = .ok (.iadd, 1) := by decide +kernel
theorem dX12_readNumber_53 : decode cX12_readNumber 53 = .ok (.bipush 48, 2) := by decide +kernel
theorem dX12_readNumber_55 : decode cX12_readNumber 55 = .ok (.isub, 1) := by decide +kernel
theorem dX12_readNumber_56 : decode cX12_readNumber 56 = .ok (.istore_n 3, 1) := by decide +kernel
theorem dX12_readNumber_57 : decode cX12_readNumber 57 = .ok (.aload_n 0, 1) := by decide +kernel
theorem dX12_readNumber_58 : decode cX12_readNumber 58 = .ok (.dup, 1) := by decide +kernel
theorem dX12_readNumber_59 : decode cX12_readNumber 59 = .ok (.getfield 258, 3) := by decide +kernel
theorem dX12_readNumber_62 : decode cX12_readNumber 62 = .ok (.iconst 1, 1) := by decide +kernel
theorem dX12_readNumber_63 : decode cX12_readNumber 63 = .ok (.iadd, 1) := by decide +kernel
theorem dX12_readNumber_64 : decode cX12_readNumber 64 = .ok (.putfield 258, 3) := by decide +kernel
theorem dX12_readNumber_67 : decode cX12_readNumber 67 = .ok (.goto (-51), 3) := by decide +kernel
theorem dX12_readNumber_70 : decode cX12_readNumber 70 = .ok (.aload_n 0, 1) := by decide +kernel
theorem dX12_readNumber_71 : decode cX12_readNumber 71 = .ok (.getfield 51, 3) := by decide +kernel
theorem dX12_readNumber_74 : decode cX12_readNumber 74 = .ok (.iload_n 1, 1) := by decide +kernel
theorem dX12_readNumber_75 : decode cX12_readNumber 75 = .ok (.iload_n 3, 1) := by decide +kernel
theorem dX12_readNumber_76 : decode cX12_readNumber 76 = .ok (.iastore, 1) := by decide +kernel
theorem dX12_readNumber_77 : decode cX12_readNumber 77 = .ok (.aload_n 0, 1) := by decide +kernel
theorem dX12_readNumber_78 : decode cX12_readNumber 78 = .ok (.getfield 258, 3) := by decide +kernel
theorem dX12_readNumber_81 : decode cX12_readNumber 81 = .ok (.iload_n 2, 1) := by decide +kernel
theorem dX12_readNumber_82 : decode cX12_readNumber 82 = .ok (.if_icmp .le 24, 3) := by decide +kernel
theorem dX12_readNumber_85 : decode cX12_readNumber 85 = .ok (.aload_n 0, 1) := by decide +kernel
theorem dX12_readNumber_86 : decode cX12_readNumber 86 = .ok (.invokevirtual 261, 3) := by decide +kernel
theorem dX12_readNumber_89 : decode cX12_readNumber 89 = .ok (.i2l, 1) := by decide +kernel
theorem dX12_readNumber_90 : decode cX12_readNumber 90 = .ok (.ldc2_w 294, 3) := by decide +kernel
theorem dX12_readNumber_93 : decode cX12_readNumber 93 = .ok (.ldc2_w 296, 3) := by decide +kernel
theorem dX12_readNumber_96 : decode cX12_readNumber 96 = .ok (.invokestatic 79, 3) := by decide +kernel
theorem dX12_readNumber_99 : decode cX12_readNumber 99 = .ok (.ifCond .ne 7, 3) := by decide +kernel
theorem dX12_readNumber_102 : decode cX12_readNumber 102 = .ok (.iconst 1, 1) := by decide +kernel
theorem dX12_readNumber_103 : decode cX12_readNumber 103 = .ok (.goto 4, 3) := by decide +kernel
theorem dX12_readNumber_106 : decode cX12_readNumber 106 = .ok (.iconst 0, 1) := by decide +kernel
theorem dX12_readNumber_107 : decode cX12_readNumber 107 = .ok (.ireturn, 1) := by decide +kernel
theorem dX12_readCommand_0 : decode cX12_readCommand 0 = .ok (.iconst 3, 1) := by decide +kernel
theorem dX12_readCommand_1 : decode cX12_readCommand 1 = .ok (.aload_n 0, 1) := by decide +kernel
theorem dX12_readCommand_2 : decode cX12_readCommand 2 = .ok (.getfield 298, 3) := by decide +kernel
theorem dX12_readCommand_5 : decode cX12_readCommand 5 = .ok (.imul, 1) := by decide +kernel
theorem dX12_readCommand_6 : decode cX12_readCommand 6 = .ok (.istore_n 1, 1) := by decide +kernel
theorem dX12_readCommand_7 : decode cX12_readCommand 7 = .ok (.aload_n 0, 1) := by decide +kernel
theorem dX12_readCommand_8 : decode cX12_readCommand 8 = .ok (.iload_n 1, 1) := by decide +kernel
theorem dX12_readCommand_9 : decode cX12_readCommand 9 = .ok (.invokevirtual 301, 3) := by decide +kernel
theorem dX12_readCommand_12 : decode cX12_readCommand 12 = .ok (.ifCond .ne 5, 3) := by decide +kernel
theorem dX12_readCommand_15 : decode cX12_readCommand 15 = .ok (.iconst 0, 1) := by decide +kernel
theorem dX12_readCommand_16 : decode cX12_readCommand 16 = .ok (.ireturn, 1) := by decide +kernel
theorem dX12_readCommand_17 : decode cX12_readCommand 17 = .ok (.aload_n 0, 1) := by decide +kernel
theorem dX12_readCommand_18 : decode cX12_readCommand 18 = .ok (.getfield 51, 3) := by decide +kernel
theorem dX12_readCommand_21 : decode cX12_readCommand 21 = .ok (.iload_n 1, 1) := by decide +kernel
theorem dX12_readCommand_22 : decode cX12_readCommand 22 = .ok (.iaload, 1) := by decide +kernel
theorem dX12_readCommand_23 : decode cX12_readCommand 23 = .ok (.iconst 3, 1) := by decide +kernel
theorem dX12_readCommand_24 : decode cX12_readCommand 24 = .ok (.if_icmp .gt 7, 3) := by decide +kernel
theorem dX12_readCommand_27 : decode cX12_readCommand 27 = .ok (.iconst 2, 1) := by decide +kernel
theorem dX12_readCommand_28 : decode cX12_readCommand 28 = .ok (.goto 19, 3) := by decide +kernel
theorem dX12_readCommand_31 : decode cX12_readCommand 31 = .ok (.aload_n 0, 1) := by decide +kernel
theorem dX12_readCommand_32 : decode cX12_readCommand 32 = .ok (.getfield 51, 3) := by decide +kernel
theorem dX12_readCommand_35 : decode cX12_readCommand 35 = .ok (.iload_n 1, 1) := by decide +kernel
theorem dX12_readCommand_36 : decode cX12_readCommand 36 = .ok (.iaload, 1) := by decide +kernel
theorem dX12_readCommand_37 : decode cX12_readCommand 37 = .ok (.bipush 7, 2) := by decide +kernel
theorem dX12_readCommand_39 : decode cX12_readCommand 39 = .ok (.if_icmp .ne 7, 3) := by decide +kernel
theorem dX12_readCommand_42 : decode cX12_readCommand 42 = .ok (.iconst 0, 1) := by decide +kernel
theorem dX12_readCommand_43 : decode cX12_readCommand 43 = .ok (.goto 4, 3) := by decide +kernel
theorem dX12_readCommand_46 : decode cX12_readCommand 46 = .ok (.iconst 1, 1) := by decide +kernel
theorem dX12_readCommand_47 : decode cX12_readCommand 47 = .ok (.istore_n 2, 1) := by decide +kernel
theorem dX12_readCommand_48 : decode cX12_readCommand 48 = .ok (.iconst 0, 1) := by decide +kernel
theorem dX12_readCommand_49 : decode cX12_readCommand 49 = .ok (.istore_n 3, 1) := by decide +kernel
theorem dX12_readCommand_50 : decode cX12_readCommand 50 = .ok (.iload_n 3, 1) := by decide +kernel
theorem dX12_readCommand_51 : decode cX12_readCommand 51 = .ok (.iload_n 2, 1) := by decide +kernel
theorem dX12_readCommand_52 : decode cX12_readCommand 52 = .ok (.if_icmp .ge 23, 3) := by decide +kernel
theorem dX12_readCommand_55 : decode cX12_readCommand 55 = .ok (.aload_n 0, 1) := by decide +kernel
theorem dX12_readCommand_56 : decode cX12_readCommand 56 = .ok (.iload_n 1, 1) := by decide +kernel
theorem dX12_readCommand_57 : decode cX12_readCommand 57 = .ok (.iconst 1, 1) := by decide +kernel
theorem dX12_readCommand_58 : decode cX12_readCommand 58 = .ok (.iadd, 1) := by decide +kernel
theorem dX12_readCommand_59 : decode cX12_readCommand 59 = .ok (.iload_n 3, 1) := by decide +kernel
theorem dX12_readCommand_60 : decode cX12_readCommand 60 = .ok (.iadd, 1) := by decide +kernel
theorem dX12_readCommand_61 : decode cX12_readCommand 61 = .ok (.invokevirtual 304, 3) := by decide +kernel
theorem dX12_readCommand_64 : decode cX12_readCommand 64 = .ok (.ifCond .ne 5, 3) := by decide +kernel
theorem dX12_readCommand_67 : decode cX12_readCommand 67 = .ok (.iconst 0, 1) := by decide +kernel
theorem dX12_readCommand_68 : decode cX12_readCommand 68 = .ok (.ireturn, 1) := by decide +kernel
theorem dX12_readCommand_69 : decode cX12_readCommand 69 = .ok (.iinc 3 1, 3) := by decide +kernel
theorem dX12_readCommand_72 : decode cX12_readCommand 72 = .ok (.goto (-22), 3) := by decide +kernel
theorem dX12_readCommand_75 : decode cX12_readCommand 75 = .ok (.aload_n 0, 1) := by decide +kernel
theorem dX12_readCommand_76 : decode cX12_readCommand 76 = .ok (.invokevirtual 290, 3) := by decide +kernel
theorem dX12_readCommand_79 : decode cX12_readCommand 79 = .ok (.istore_n 3, 1) := by decide +kernel
theorem dX12_readCommand_80 : decode cX12_readCommand 80 = .ok (.aload_n 0, 1) := by decide +kernel
theorem dX12_readCommand_81 : decode cX12_readCommand 81 = .ok (.invokevirtual 261, 3) := by decide +kernel
theorem dX12_readCommand_84 : decode cX12_readCommand 84 = .ok (.bipush 59, 2) := by decide +kernel
theorem dX12_readCommand_86 : decode cX12_readCommand 86 = .ok (.if_icmp .eq 5, 3) := by decide +kernel
theorem dX12_readCommand_89 : decode cX12_readCommand 89 = .ok (.iconst 0, 1) := by decide +kernel
theorem dX12_readCommand_90 : decode cX12_readCommand 90 = .ok (.ireturn, 1) := by decide +kernel
theorem dX12_readCommand_91 : decode cX12_readCommand 91 = .ok (.aload_n 0, 1) := by decide +kernel
theorem dX12_readCommand_92 : decode cX12_readCommand 92 = .ok (.dup, 1) := by decide +kernel
theorem dX12_readCommand_93 : decode cX12_readCommand 93 = .ok (.getfield 258, 3) := by decide +kernel
theorem dX12_readCommand_96 : decode cX12_readCommand 96 = .ok (.iconst 1, 1) := by decide +kernel
theorem dX12_readCommand_97 : decode cX12_readCommand 97 = .ok (.iadd, 1) := by decide +kernel
theorem dX12_readCommand_98 : decode cX12_readCommand 98 = .ok (.putfield 258, 3) := by decide +kernel
theorem dX12_readCommand_101 : decode cX12_readCommand 101 = .ok (.aload_n 0, 1) := by decide +kernel
theorem dX12_readCommand_102 : decode cX12_readCommand 102 = .ok (.dup, 1) := by decide +kernel
theorem dX12_readCommand_103 : decode cX12_readCommand 103 = .ok (.getfield 298, 3) := by decide +kernel
theorem dX12_readCommand_106 : decode cX12_readCommand 106 = .ok (.iconst 1, 1) := by decide +kernel
theorem dX12_readCommand_107 : decode cX12_readCommand 107 = .ok (.iadd, 1) := by decide +kernel
theorem dX12_readCommand_108 : decode cX12_readCommand 108 = .ok (.putfield 298, 3) := by decide +kernel
theorem dX12_readCommand_111 : decode cX12_readCommand 111 = .ok (.iconst 1, 1) := by decide +kernel
theorem dX12_readCommand_112 : decode cX12_readCommand 112 = .ok (.ireturn, 1) := by decide +kernel
theorem dX12_readAll_0 : decode cX12_readAll 0 = .ok (.aload_n 0, 1) := by decide +kernel
theorem dX12_readAll_1 : decode cX12_readAll 1 = .ok (.iconst 0, 1) := by decide +kernel
theorem dX12_readAll_2 : decode cX12_readAll 2 = .ok (.putfield 258, 3) := by decide +kernel
theorem dX12_readAll_5 : decode cX12_readAll 5 = .ok (.aload_n 0, 1) := by decide +kernel
theorem dX12_readAll_6 : decode cX12_readAll 6 = .ok (.iconst 0, 1) := by decide +kernel
theorem dX12_readAll_7 : decode cX12_readAll 7 = .ok (.putfield 298, 3) := by decide +kernel
theorem dX12_readAll_10 : decode cX12_readAll 10 = .ok (.aload_n 0, 1) := by decide +kernel
theorem dX12_readAll_11 : decode cX12_readAll 11 = .ok (.invokevirtual 290, 3) := by decide +kernel
theorem dX12_readAll_14 : decode cX12_readAll 14 = .ok (.istore_n 1, 1) := by decide +kernel
theorem dX12_readAll_15 : decode cX12_readAll 15 = .ok (.aload_n 0, 1) := by decide +kernel
theorem dX12_readAll_16 : decode cX12_readAll 16 = .ok (.getfield 258, 3) := by decide +kernel
theorem dX12_readAll_19 : decode cX12_readAll 19 = .ok (.aload_n 0, 1) := by decide +kernel
theorem dX12_readAll_20 : decode cX12_readAll 20 = .ok (.getfield 255, 3) := by decide +kernel
theorem dX12_readAll_23 : decode cX12_readAll 23 = .ok (.if_icmp .ge 20, 3) := by decide +kernel
theorem dX12_readAll_26 : decode cX12_readAll 26 = .ok (.aload_n 0, 1) := by decide +kernel
theorem dX12_readAll_27 : decode cX12_readAll 27 = .ok (.invokevirtual 307, 3) := by decide +kernel
theorem dX12_readAll_30 : decode cX12_readAll 30 = .ok (.ifCond .ne 5, 3) := by decide +kernel
theorem dX12_readAll_33 : decode cX12_readAll 33 = .ok (.iconst 0, 1) := by decide +kernel
theorem dX12_readAll_34 : decode cX12_readAll 34 = .ok (.ireturn, 1) := by decide +kernel
theorem dX12_readAll_35 : decode cX12_readAll 35 = .ok (.aload_n 0, 1) := by decide +kernel
theorem dX12_readAll_36 : decode cX12_readAll 36 = .ok (.invokevirtual 290, 3) := by decide +kernel
theorem dX12_readAll_39 : decode cX12_readAll 39 = .ok (.istore_n 1, 1) := by decide +kernel
theorem dX12_readAll_40 : decode cX12_readAll 40 = .ok (.goto (-25), 3) := by decide +kernel
theorem dX12_readAll_43 : decode cX12_readAll 43 = .ok (.iconst 1, 1) := by decide +kernel
theorem dX12_readAll_44 : decode cX12_readAll 44 = .ok (.ireturn, 1) := by decide +kernel
theorem dX12_does_0 : decode cX12_does 0 = .ok (.aload_n 0, 1) := by decide +kernel
theorem dX12_does_1 : decode cX12_does 1 = .ok (.getfield 51, 3) := by decide +kernel
theorem dX12_does_4 : decode cX12_does 4 = .ok (.iload_n 1, 1) := by decide +kernel
theorem dX12_does_5 : decode cX12_does 5 = .ok (.iconst 1, 1) := by decide +kernel
theorem dX12_does_6 : decode cX12_does 6 = .ok (.iadd, 1) := by decide +kernel
theorem dX12_does_7 : decode cX12_does 7 = .ok (.iaload, 1) := by decide +kernel
theorem dX12_does_8 : decode cX12_does 8 = .ok (.istore_n 2, 1) := by decide +kernel
theorem dX12_does_9 : decode cX12_does 9 = .ok (.aload_n 0, 1) := by decide +kernel
theorem dX12_does_10 : decode cX12_does 10 = .ok (.getfield 51, 3) := by decide +kernel
theorem dX12_does_13 : decode cX12_does 13 = .ok (.iload_n 1, 1) := by decide +kernel
theorem dX12_does_14 : decode cX12_does 14 = .ok (.iconst 2, 1) := by decide +kernel
theorem dX12_does_15 : decode cX12_does 15 = .ok (.iadd, 1) := by decide +kernel
theorem dX12_does_16 : decode cX12_does 16 = .ok (.iaload, 1) := by decide +kernel
theorem dX12_does_17 : decode cX12_does 17 = .ok (.istore_n 3, 1) := by decide +kernel
theorem dX12_does_18 : decode cX12_does 18 = .ok (.iconst 0, 1) := by decide +kernel
theorem dX12_does_19 : decode cX12_does 19 = .ok (.istore 4, 2) := by decide +kernel
theorem dX12_does_21 : decode cX12_does 21 = .ok (.aload_n 0, 1) := by decide +kernel
theorem dX12_does_22 : decode cX12_does 22 = .ok (.getfield 51, 3) := by decide +kernel
theorem dX12_does_25 : decode cX12_does 25 = .ok (.iload_n 1, 1) := by decide +kernel
theorem dX12_does_26 : decode cX12_does 26 = .ok (.iaload, 1) := by decide +kernel
theorem dX12_does_27 : decode cX12_does 27 = .ok (.tableswitch 266 0 6 #[41, 73, 115, 115, 143, 182, 224], 41) := by decide +kernel
theorem dX12_does_68 : decode cX12_does 68 = .ok (.aload_n 0, 1) := by decide +kernel
theorem dX12_does_69 : decode cX12_does 69 = .ok (.aload_n 0, 1) := by decide +kernel
theorem dX12_does_70 : decode cX12_does 70 = .ok (.iload_n 2, 1) := by decide +kernel
theorem dX12_does_71 : decode cX12_does 71 = .ok (.iload_n 3, 1) := by decide +kernel
theorem dX12_does_72 : decode cX12_does 72 = .ok (.invokevirtual 165, 3) := by decide +kernel
theorem dX12_does_75 : decode cX12_does 75 = .ok (.putfield 62, 3) := by decide +kernel
theorem dX12_does_78 : decode cX12_does 78 = .ok (.aload_n 0, 1) := by decide +kernel
theorem dX12_does_79 : decode cX12_does 79 = .ok (.getfield 62, 3) := by decide +kernel
theorem dX12_does_82 : decode cX12_does 82 = .ok (.ifCond .ne 12, 3) := by decide +kernel
theorem dX12_does_85 : decode cX12_does 85 = .ok (.aload_n 0, 1) := by decide +kernel
theorem dX12_does_86 : decode cX12_does 86 = .ok (.iload_n 2, 1) := by decide +kernel
theorem dX12_does_87 : decode cX12_does 87 = .ok (.iload_n 3, 1) := by decide +kernel
theorem dX12_does_88 : decode cX12_does 88 = .ok (.invokevirtual 168, 3) := by decide +kernel
theorem dX12_does_91 : decode cX12_does 91 = .ok (.goto 4, 3) := by decide +kernel
theorem dX12_does_94 : decode cX12_does 94 = .ok (.iconst 0, 1) := by decide +kernel
theorem dX12_does_95 : decode cX12_does 95 = .ok (.istore 4, 2) := by decide +kernel
theorem dX12_does_97 : decode cX12_does 97 = .ok (.goto 207, 3) := by decide +kernel
theorem dX12_does_100 : decode cX12_does 100 = .ok (.aload_n 0, 1) := by decide +kernel
theorem dX12_does_101 : decode cX12_does 101 = .ok (.aload_n 0, 1) := by decide +kernel
theorem dX12_does_102 : decode cX12_does 102 = .ok (.iload_n 2, 1) := by decide +kernel
theorem dX12_does_103 : decode cX12_does 103 = .ok (.invokevirtual 171, 3) := by decide +kernel
theorem dX12_does_106 : decode cX12_does 106 = .ok (.ifCond .eq 7, 3) := by decide +kernel
theorem dX12_does_109 : decode cX12_does 109 = .ok (.iconst 0, 1) := by decide +kernel
theorem dX12_does_110 : decode cX12_does 110 = .ok (.goto 4, 3) := by decide +kernel
theorem dX12_does_113 : decode cX12_does 113 = .ok (.iconst 1, 1) := by decide +kernel
theorem dX12_does_114 : decode cX12_does 114 = .ok (.putfield 62, 3) := by decide +kernel
theorem dX12_does_117 : decode cX12_does 117 = .ok (.aload_n 0, 1) := by decide +kernel
theorem dX12_does_118 : decode cX12_does 118 = .ok (.getfield 62, 3) := by decide +kernel
theorem dX12_does_121 : decode cX12_does 121 = .ok (.ifCond .ne 183, 3) := by decide +kernel
theorem dX12_does_124 : decode cX12_does 124 = .ok (.aload_n 0, 1) := by decide +kernel
theorem dX12_does_125 : decode cX12_does 125 = .ok (.iload_n 2, 1) := by decide +kernel
theorem dX12_does_126 : decode cX12_does 126 = .ok (.iconst 2, 1) := by decide +kernel
theorem dX12_does_127 : decode cX12_does 127 = .ok (.iload_n 3, 1) := by decide +kernel
theorem dX12_does_128 : decode cX12_does 128 = .ok (.ifCond .eq 7, 3) := by decide +kernel
theorem dX12_does_131 : decode cX12_does 131 = .ok (.lconst 1, 1) := by decide +kernel
theorem dX12_does_132 : decode cX12_does 132 = .ok (.goto 4, 3) := by decide +kernel
theorem dX12_does_135 : decode cX12_does 135 = .ok (.lconst 0, 1) := by decide +kernel
theorem dX12_does_136 : decode cX12_does 136 = .ok (.invokevirtual 156, 3) := by decide +kernel
theorem dX12_does_139 : decode cX12_does 139 = .ok (.goto 165, 3) := by decide +kernel
theorem dX12_does_142 : decode cX12_does 142 = .ok (.aload_n 0, 1) := by decide +kernel
theorem dX12_does_143 : decode cX12_does 143 = .ok (.aload_n 0, 1) := by decide +kernel
theorem dX12_does_144 : decode cX12_does 144 = .ok (.getfield 51, 3) := by decide +kernel
theorem dX12_does_147 : decode cX12_does 147 = .ok (.iload_n 1, 1) := by decide +kernel
theorem dX12_does_148 : decode cX12_does 148 = .ok (.iaload, 1) := by decide +kernel
theorem dX12_does_149 : decode cX12_does 149 = .ok (.iconst 2, 1) := by decide +kernel
theorem dX12_does_150 : decode cX12_does 150 = .ok (.if_icmp .ne 8, 3) := by decide +kernel
theorem dX12_does_153 : decode cX12_does 153 = .ok (.bipush 8, 2) := by decide +kernel
theorem dX12_does_155 : decode cX12_does 155 = .ok (.goto 5, 3) := by decide +kernel
theorem dX12_does_158 : decode cX12_does 158 = .ok (.bipush 72, 2) := by decide +kernel
theorem dX12_does_160 : decode cX12_does 160 = .ok (.iload_n 2, 1) := by decide +kernel
theorem dX12_does_161 : decode cX12_does 161 = .ok (.iload_n 3, 1) := by decide +kernel
theorem dX12_does_162 : decode cX12_does 162 = .ok (.invokevirtual 140, 3) := by decide +kernel
theorem dX12_does_165 : decode cX12_does 165 = .ok (.istore 4, 2) := by decide +kernel
theorem dX12_does_167 : decode cX12_does 167 = .ok (.goto 137, 3) := by decide +kernel
theorem dX12_does_170 : decode cX12_does 170 = .ok (.aload_n 0, 1) := by decide +kernel
theorem dX12_does_171 : decode cX12_does 171 = .ok (.iload_n 2, 1) := by decide +kernel
theorem dX12_does_172 : decode cX12_does 172 = .ok (.iload_n 2, 1) := by decide +kernel
theorem dX12_does_173 : decode cX12_does 173 = .ok (.invokestatic 193, 3) := by decide +kernel
theorem dX12_does_176 : decode cX12_does 176 = .ok (.ifCond .eq 7, 3) := by decide +kernel
theorem dX12_does_179 : decode cX12_does 179 = .ok (.iconst 0, 1) := by decide +kernel
theorem dX12_does_180 : decode cX12_does 180 = .ok (.goto 4, 3) := by decide +kernel
theorem dX12_does_183 : decode cX12_does 183 = .ok (.iconst 1, 1) := by decide +kernel
theorem dX12_does_184 : decode cX12_does 184 = .ok (.putfield 62, 3) := by decide +kernel
theorem dX12_does_187 : decode cX12_does 187 = .ok (.aload_n 0, 1) := by decide +kernel
theorem dX12_does_188 : decode cX12_does 188 = .ok (.getfield 62, 3) := by decide +kernel
theorem dX12_does_191 : decode cX12_does 191 = .ok (.ifCond .ne 12, 3) := by decide +kernel
theorem dX12_does_194 : decode cX12_does 194 = .ok (.aload_n 0, 1) := by decide +kernel
theorem dX12_does_195 : decode cX12_does 195 = .ok (.iload_n 2, 1) := by decide +kernel
theorem dX12_does_196 : decode cX12_does 196 = .ok (.iload_n 2, 1) := by decide +kernel
theorem dX12_does_197 : decode cX12_does 197 = .ok (.invokevirtual 197, 3) := by decide +kernel
theorem dX12_does_200 : decode cX12_does 200 = .ok (.goto 4, 3) := by decide +kernel
theorem dX12_does_203 : decode cX12_does 203 = .ok (.iconst 0, 1) := by decide +kernel
theorem dX12_does_204 : decode cX12_does 204 = .ok (.istore 4, 2) := by decide +kernel
theorem dX12_does_206 : decode cX12_does 206 = .ok (.goto 98, 3) := by decide +kernel
theorem dX12_does_209 : decode cX12_does 209 = .ok (.aload_n 0, 1) := by decide +kernel
theorem dX12_does_210 : decode cX12_does 210 = .ok (.iload_n 2, 1) := by decide +kernel
theorem dX12_does_211 : decode cX12_does 211 = .ok (.i2l, 1) := by decide +kernel
theorem dX12_does_212 : decode cX12_does 212 = .ok (.lconst 1, 1) := by decide +kernel
theorem dX12_does_213 : decode cX12_does 213 = .ok (.ldc2_w 223, 3) := by decide +kernel
theorem dX12_does_216 : decode cX12_does 216 = .ok (.invokestatic 79, 3) := by decide +kernel
theorem dX12_does_219 : decode cX12_does 219 = .ok (.ifCond .eq 7, 3) := by decide +kernel
theorem dX12_does_222 : decode cX12_does 222 = .ok (.iconst 0, 1) := by decide +kernel
theorem dX12_does_223 : decode cX12_does 223 = .ok (.goto 4, 3) := by decide +kernel
theorem dX12_does_226 : decode cX12_does 226 = .ok (.iconst 1, 1) := by decide +kernel
theorem dX12_does_227 : decode cX12_does 227 = .ok (.putfield 62, 3) := by decide +kernel
theorem dX12_does_230 : decode cX12_does 230 = .ok (.aload_n 0, 1) := by decide +kernel
theorem dX12_does_231 : decode cX12_does 231 = .ok (.getfield 62, 3) := by decide +kernel
theorem dX12_does_234 : decode cX12_does 234 = .ok (.ifCond .ne 11, 3) := by decide +kernel
theorem dX12_does_237 : decode cX12_does 237 = .ok (.aload_n 0, 1) := by decide +kernel
theorem dX12_does_238 : decode cX12_does 238 = .ok (.iload_n 2, 1) := by decide +kernel
theorem dX12_does_239 : decode cX12_does 239 = .ok (.invokevirtual 225, 3) := by decide +kernel
theorem dX12_does_242 : decode cX12_does 242 = .ok (.goto 4, 3) := by decide +kernel
theorem dX12_does_245 : decode cX12_does 245 = .ok (.iconst 0, 1) := by decide +kernel
theorem dX12_does_246 : decode cX12_does 246 = .ok (.istore 4, 2) := by decide +kernel
theorem dX12_does_248 : decode cX12_does 248 = .ok (.goto 56, 3) := by decide +kernel
theorem dX12_does_251 : decode cX12_does 251 = .ok (.aload_n 0, 1) := by decide +kernel
theorem dX12_does_252 : decode cX12_does 252 = .ok (.iload_n 2, 1) := by decide +kernel
theorem dX12_does_253 : decode cX12_does 253 = .ok (.i2l, 1) := by decide +kernel
theorem dX12_does_254 : decode cX12_does 254 = .ok (.lconst 1, 1) := by decide +kernel
theorem dX12_does_255 : decode cX12_does 255 = .ok (.ldc2_w 231, 3) := by decide +kernel
theorem dX12_does_258 : decode cX12_does 258 = .ok (.invokestatic 79, 3) := by decide +kernel
theorem dX12_does_261 : decode cX12_does 261 = .ok (.ifCond .eq 7, 3) := by decide +kernel
theorem dX12_does_264 : decode cX12_does 264 = .ok (.iconst 0, 1) := by decide +kernel
theorem dX12_does_265 : decode cX12_does 265 = .ok (.goto 4, 3) := by decide +kernel
theorem dX12_does_268 : decode cX12_does 268 = .ok (.iconst 1, 1) := by decide +kernel
theorem dX12_does_269 : decode cX12_does 269 = .ok (.putfield 62, 3) := by decide +kernel
theorem dX12_does_272 : decode cX12_does 272 = .ok (.aload_n 0, 1) := by decide +kernel
theorem dX12_does_273 : decode cX12_does 273 = .ok (.getfield 62, 3) := by decide +kernel
theorem dX12_does_276 : decode cX12_does 276 = .ok (.ifCond .ne 11, 3) := by decide +kernel
theorem dX12_does_279 : decode cX12_does 279 = .ok (.aload_n 0, 1) := by decide +kernel
theorem dX12_does_280 : decode cX12_does 280 = .ok (.iload_n 2, 1) := by decide +kernel
theorem dX12_does_281 : decode cX12_does 281 = .ok (.invokevirtual 233, 3) := by decide +kernel
theorem dX12_does_284 : decode cX12_does 284 = .ok (.goto 4, 3) := by decide +kernel
theorem dX12_does_287 : decode cX12_does 287 = .ok (.iconst 0, 1) := by decide +kernel
theorem dX12_does_288 : decode cX12_does 288 = .ok (.istore 4, 2) := by decide +kernel
theorem dX12_does_290 : decode cX12_does 290 = .ok (.goto 14, 3) := by decide +kernel
theorem dX12_does_293 : decode cX12_does 293 = .ok (.aload_n 0, 1) := by decide +kernel
theorem dX12_does_294 : decode cX12_does 294 = .ok (.iconst 0, 1) := by decide +kernel
theorem dX12_does_295 : decode cX12_does 295 = .ok (.putfield 62, 3) := by decide +kernel
theorem dX12_does_298 : decode cX12_does 298 = .ok (.aload_n 0, 1) := by decide +kernel
theorem dX12_does_299 : decode cX12_does 299 = .ok (.invokevirtual 239, 3) := by decide +kernel
theorem dX12_does_302 : decode cX12_does 302 = .ok (.istore 4, 2) := by decide +kernel
theorem dX12_does_304 : decode cX12_does 304 = .ok (.aload_n 0, 1) := by decide +kernel
theorem dX12_does_305 : decode cX12_does 305 = .ok (.getfield 62, 3) := by decide +kernel
theorem dX12_does_308 : decode cX12_does 308 = .ok (.ifCond .ne 12, 3) := by decide +kernel
theorem dX12_does_311 : decode cX12_does 311 = .ok (.iload 4, 2) := by decide +kernel
theorem dX12_does_313 : decode cX12_does 313 = .ok (.ifCond .lt 7, 3) := by decide +kernel
theorem dX12_does_316 : decode cX12_does 316 = .ok (.iconst 1, 1) := by decide +kernel
theorem dX12_does_317 : decode cX12_does 317 = .ok (.goto 4, 3) := by decide +kernel
theorem dX12_does_320 : decode cX12_does 320 = .ok (.iconst 0, 1) := by decide +kernel
theorem dX12_does_321 : decode cX12_does 321 = .ok (.ireturn, 1) := by decide +kernel
theorem dX12_run_0 : decode cX12_run 0 = .ok (.aload_n 0, 1) := by decide +kernel
theorem dX12_run_1 : decode cX12_run 1 = .ok (.iconst 0, 1) := by decide +kernel
theorem dX12_run_2 : decode cX12_run 2 = .ok (.putfield 62, 3) := by decide +kernel
theorem dX12_run_5 : decode cX12_run 5 = .ok (.aload_n 0, 1) := by decide +kernel
theorem dX12_run_6 : decode cX12_run 6 = .ok (.invokevirtual 310, 3) := by decide +kernel
theorem dX12_run_9 : decode cX12_run 9 = .ok (.ifCond .ne 11, 3) := by decide +kernel
theorem dX12_run_12 : decode cX12_run 12 = .ok (.bipush (-10), 2) := by decide +kernel
theorem dX12_run_14 : decode cX12_run 14 = .ok (.aload_n 0, 1) := by decide +kernel
theorem dX12_run_15 : decode cX12_run 15 = .ok (.getfield 258, 3) := by decide +kernel
theorem dX12_run_18 : decode cX12_run 18 = .ok (.isub, 1) := by decide +kernel
theorem dX12_run_19 : decode cX12_run 19 = .ok (.ireturn, 1) := by decide +kernel
theorem dX12_run_20 : decode cX12_run 20 = .ok (.aload_n 0, 1) := by decide +kernel
theorem dX12_run_21 : decode cX12_run 21 = .ok (.invokevirtual 131, 3) := by decide +kernel
theorem dX12_run_24 : decode cX12_run 24 = .ok (.iconst 0, 1) := by decide +kernel
theorem dX12_run_25 : decode cX12_run 25 = .ok (.istore_n 1, 1) := by decide +kernel
theorem dX12_run_26 : decode cX12_run 26 = .ok (.iload_n 1, 1) := by decide +kernel
theorem dX12_run_27 : decode cX12_run 27 = .ok (.aload_n 0, 1) := by decide +kernel
theorem dX12_run_28 : decode cX12_run 28 = .ok (.getfield 298, 3) := by decide +kernel
theorem dX12_run_31 : decode cX12_run 31 = .ok (.if_icmp .ge 19, 3) := by decide +kernel
theorem dX12_run_34 : decode cX12_run 34 = .ok (.aload_n 0, 1) := by decide +kernel
theorem dX12_run_35 : decode cX12_run 35 = .ok (.iconst 3, 1) := by decide +kernel
theorem dX12_run_36 : decode cX12_run 36 = .ok (.iload_n 1, 1) := by decide +kernel
theorem dX12_run_37 : decode cX12_run 37 = .ok (.imul, 1) := by decide +kernel
theorem dX12_run_38 : decode cX12_run 38 = .ok (.invokevirtual 313, 3) := by decide +kernel
theorem dX12_run_41 : decode cX12_run 41 = .ok (.ifCond .eq 9, 3) := by decide +kernel
theorem dX12_run_44 : decode cX12_run 44 = .ok (.iinc 1 1, 3) := by decide +kernel
theorem dX12_run_47 : decode cX12_run 47 = .ok (.goto (-21), 3) := by decide +kernel
theorem dX12_run_50 : decode cX12_run 50 = .ok (.aload_n 0, 1) := by decide +kernel
theorem dX12_run_51 : decode cX12_run 51 = .ok (.iconst 0, 1) := by decide +kernel
theorem dX12_run_52 : decode cX12_run 52 = .ok (.putfield 62, 3) := by decide +kernel
theorem dX12_run_55 : decode cX12_run 55 = .ok (.iload_n 1, 1) := by decide +kernel
theorem dX12_run_56 : decode cX12_run 56 = .ok (.ireturn, 1) := by decide +kernel
theorem dX12_undo_0 : decode cX12_undo 0 = .ok (.aload_n 0, 1) := by decide +kernel
theorem dX12_undo_1 : decode cX12_undo 1 = .ok (.aload_n 0, 1) := by decide +kernel
theorem dX12_undo_2 : decode cX12_undo 2 = .ok (.getfield 66, 3) := by decide +kernel
theorem dX12_undo_5 : decode cX12_undo 5 = .ok (.ifCond .ne 7, 3) := by decide +kernel
theorem dX12_undo_8 : decode cX12_undo 8 = .ok (.iconst 1, 1) := by decide +kernel
theorem dX12_undo_9 : decode cX12_undo 9 = .ok (.goto 4, 3) := by decide +kernel
theorem dX12_undo_12 : decode cX12_undo 12 = .ok (.iconst 0, 1) := by decide +kernel
theorem dX12_undo_13 : decode cX12_undo 13 = .ok (.putfield 62, 3) := by decide +kernel
theorem dX12_undo_16 : decode cX12_undo 16 = .ok (.aload_n 0, 1) := by decide +kernel
theorem dX12_undo_17 : decode cX12_undo 17 = .ok (.getfield 62, 3) := by decide +kernel
theorem dX12_undo_20 : decode cX12_undo 20 = .ok (.ifCond .eq 5, 3) := by decide +kernel
theorem dX12_undo_23 : decode cX12_undo 23 = .ok (.iconst 0, 1) := by decide +kernel
theorem dX12_undo_24 : decode cX12_undo 24 = .ok (.ireturn, 1) := by decide +kernel
theorem dX12_undo_25 : decode cX12_undo 25 = .ok (.aload_n 0, 1) := by decide +kernel
theorem dX12_undo_26 : decode cX12_undo 26 = .ok (.dup, 1) := by decide +kernel
theorem dX12_undo_27 : decode cX12_undo 27 = .ok (.getfield 66, 3) := by decide +kernel
theorem dX12_undo_30 : decode cX12_undo 30 = .ok (.iconst 1, 1) := by decide +kernel
theorem dX12_undo_31 : decode cX12_undo 31 = .ok (.isub, 1) := by decide +kernel
theorem dX12_undo_32 : decode cX12_undo 32 = .ok (.putfield 66, 3) := by decide +kernel
theorem dX12_undo_35 : decode cX12_undo 35 = .ok (.iconst 0, 1) := by decide +kernel
theorem dX12_undo_36 : decode cX12_undo 36 = .ok (.istore_n 1, 1) := by decide +kernel
theorem dX12_undo_37 : decode cX12_undo 37 = .ok (.iload_n 1, 1) := by decide +kernel
theorem dX12_undo_38 : decode cX12_undo 38 = .ok (.sipush 200, 3) := by decide +kernel
theorem dX12_undo_41 : decode cX12_undo 41 = .ok (.if_icmp .ge 30, 3) := by decide +kernel
theorem dX12_undo_44 : decode cX12_undo 44 = .ok (.aload_n 0, 1) := by decide +kernel
theorem dX12_undo_45 : decode cX12_undo 45 = .ok (.getfield 7, 3) := by decide +kernel
theorem dX12_undo_48 : decode cX12_undo 48 = .ok (.iload_n 1, 1) := by decide +kernel
theorem dX12_undo_49 : decode cX12_undo 49 = .ok (.aload_n 0, 1) := by decide +kernel
theorem dX12_undo_50 : decode cX12_undo 50 = .ok (.getfield 13, 3) := by decide +kernel
theorem dX12_undo_53 : decode cX12_undo 53 = .ok (.sipush 200, 3) := by decide +kernel
theorem dX12_undo_56 : decode cX12_undo 56 = .ok (.aload_n 0, 1) := by decide +kernel
theorem dX12_undo_57 : decode cX12_undo 57 = .ok (.getfield 66, 3) := by decide +kernel
theorem dX12_undo_60 : decode cX12_undo 60 = .ok (.imul, 1) := by decide +kernel
theorem dX12_undo_61 : decode cX12_undo 61 = .ok (.iload_n 1, 1) := by decide +kernel
theorem dX12_undo_62 : decode cX12_undo 62 = .ok (.iadd, 1) := by decide +kernel
theorem dX12_undo_63 : decode cX12_undo 63 = .ok (.laload, 1) := by decide +kernel
theorem dX12_undo_64 : decode cX12_undo 64 = .ok (.lastore, 1) := by decide +kernel
theorem dX12_undo_65 : decode cX12_undo 65 = .ok (.iinc 1 1, 3) := by decide +kernel
theorem dX12_undo_68 : decode cX12_undo 68 = .ok (.goto (-31), 3) := by decide +kernel
theorem dX12_undo_71 : decode cX12_undo 71 = .ok (.aload_n 0, 1) := by decide +kernel
theorem dX12_undo_72 : decode cX12_undo 72 = .ok (.getfield 66, 3) := by decide +kernel
theorem dX12_undo_75 : decode cX12_undo 75 = .ok (.ireturn, 1) := by decide +kernel
theorem dX12_mix_0 : decode cX12_mix 0 = .ok (.aload_n 0, 1) := by decide +kernel
theorem dX12_mix_1 : decode cX12_mix 1 = .ok (.ldc2_w 316, 3) := by decide +kernel
theorem dX12_mix_4 : decode cX12_mix 4 = .ok (.aload_n 0, 1) := by decide +kernel
theorem dX12_mix_5 : decode cX12_mix 5 = .ok (.getfield 318, 3) := by decide +kernel
theorem dX12_mix_8 : decode cX12_mix 8 = .ok (.lmul, 1) := by decide +kernel
theorem dX12_mix_9 : decode cX12_mix 9 = .ok (.lload_n 1, 1) := by decide +kernel
theorem dX12_mix_10 : decode cX12_mix 10 = .ok (.ladd, 1) := by decide +kernel
theorem dX12_mix_11 : decode cX12_mix 11 = .ok (.putfield 318, 3) := by decide +kernel
theorem dX12_mix_14 : decode cX12_mix 14 = .ok (.return_, 1) := by decide +kernel
theorem dX12_mixRay_0 : decode cX12_mixRay 0 = .ok (.iconst 0, 1) := by decide +kernel
theorem dX12_mixRay_1 : decode cX12_mixRay 1 = .ok (.istore_n 2, 1) := by decide +kernel
theorem dX12_mixRay_2 : decode cX12_mixRay 2 = .ok (.iload_n 2, 1) := by decide +kernel
theorem dX12_mixRay_3 : decode cX12_mixRay 3 = .ok (.iconst 5, 1) := by decide +kernel
theorem dX12_mixRay_4 : decode cX12_mixRay 4 = .ok (.if_icmp .ge 20, 3) := by decide +kernel
theorem dX12_mixRay_7 : decode cX12_mixRay 7 = .ok (.aload_n 0, 1) := by decide +kernel
theorem dX12_mixRay_8 : decode cX12_mixRay 8 = .ok (.aload_n 0, 1) := by decide +kernel
theorem dX12_mixRay_9 : decode cX12_mixRay 9 = .ok (.iload_n 1, 1) := by decide +kernel
theorem dX12_mixRay_10 : decode cX12_mixRay 10 = .ok (.iload_n 2, 1) := by decide +kernel
theorem dX12_mixRay_11 : decode cX12_mixRay 11 = .ok (.invokevirtual 244, 3) := by decide +kernel
theorem dX12_mixRay_14 : decode cX12_mixRay 14 = .ok (.i2l, 1) := by decide +kernel
theorem dX12_mixRay_15 : decode cX12_mixRay 15 = .ok (.invokevirtual 321, 3) := by decide +kernel
theorem dX12_mixRay_18 : decode cX12_mixRay 18 = .ok (.iinc 2 1, 3) := by decide +kernel
theorem dX12_mixRay_21 : decode cX12_mixRay 21 = .ok (.goto (-19), 3) := by decide +kernel
theorem dX12_mixRay_24 : decode cX12_mixRay 24 = .ok (.aload_n 0, 1) := by decide +kernel
theorem dX12_mixRay_25 : decode cX12_mixRay 25 = .ok (.iload_n 1, 1) := by decide +kernel
theorem dX12_mixRay_26 : decode cX12_mixRay 26 = .ok (.invokevirtual 125, 3) := by decide +kernel
theorem dX12_mixRay_29 : decode cX12_mixRay 29 = .ok (.aload_n 0, 1) := by decide +kernel
theorem dX12_mixRay_30 : decode cX12_mixRay 30 = .ok (.aload_n 0, 1) := by decide +kernel
theorem dX12_mixRay_31 : decode cX12_mixRay 31 = .ok (.getfield 114, 3) := by decide +kernel
theorem dX12_mixRay_34 : decode cX12_mixRay 34 = .ok (.invokevirtual 321, 3) := by decide +kernel
theorem dX12_mixRay_37 : decode cX12_mixRay 37 = .ok (.aload_n 0, 1) := by decide +kernel
theorem dX12_mixRay_38 : decode cX12_mixRay 38 = .ok (.aload_n 0, 1) := by decide +kernel
theorem dX12_mixRay_39 : decode cX12_mixRay 39 = .ok (.iload_n 1, 1) := by decide +kernel
theorem dX12_mixRay_40 : decode cX12_mixRay 40 = .ok (.iconst 3, 1) := by decide +kernel
theorem dX12_mixRay_41 : decode cX12_mixRay 41 = .ok (.invokevirtual 83, 3) := by decide +kernel
theorem dX12_mixRay_44 : decode cX12_mixRay 44 = .ok (.invokevirtual 321, 3) := by decide +kernel
theorem dX12_mixRay_47 : decode cX12_mixRay 47 = .ok (.aload_n 0, 1) := by decide +kernel
theorem dX12_mixRay_48 : decode cX12_mixRay 48 = .ok (.getfield 118, 3) := by decide +kernel
theorem dX12_mixRay_51 : decode cX12_mixRay 51 = .ok (.iconst 1, 1) := by decide +kernel
theorem dX12_mixRay_52 : decode cX12_mixRay 52 = .ok (.isub, 1) := by decide +kernel
theorem dX12_mixRay_53 : decode cX12_mixRay 53 = .ok (.istore_n 2, 1) := by decide +kernel
theorem dX12_mixRay_54 : decode cX12_mixRay 54 = .ok (.iload_n 2, 1) := by decide +kernel
theorem dX12_mixRay_55 : decode cX12_mixRay 55 = .ok (.ifCond .lt 20, 3) := by decide +kernel
theorem dX12_mixRay_58 : decode cX12_mixRay 58 = .ok (.aload_n 0, 1) := by decide +kernel
theorem dX12_mixRay_59 : decode cX12_mixRay 59 = .ok (.aload_n 0, 1) := by decide +kernel
theorem dX12_mixRay_60 : decode cX12_mixRay 60 = .ok (.getfield 27, 3) := by decide +kernel
theorem dX12_mixRay_63 : decode cX12_mixRay 63 = .ok (.iload_n 2, 1) := by decide +kernel
theorem dX12_mixRay_64 : decode cX12_mixRay 64 = .ok (.iaload, 1) := by decide +kernel
theorem dX12_mixRay_65 : decode cX12_mixRay 65 = .ok (.i2l, 1) := by decide +kernel
theorem dX12_mixRay_66 : decode cX12_mixRay 66 = .ok (.invokevirtual 321, 3) := by decide +kernel
theorem dX12_mixRay_69 : decode cX12_mixRay 69 = .ok (.iinc 2 (-1), 3) := by decide +kernel
theorem dX12_mixRay_72 : decode cX12_mixRay 72 = .ok (.goto (-18), 3) := by decide +kernel
theorem dX12_mixRay_75 : decode cX12_mixRay 75 = .ok (.return_, 1) := by decide +kernel
theorem dX12_digest_0 : decode cX12_digest 0 = .ok (.aload_n 0, 1) := by decide +kernel
theorem dX12_digest_1 : decode cX12_digest 1 = .ok (.iconst 0, 1) := by decide +kernel
theorem dX12_digest_2 : decode cX12_digest 2 = .ok (.putfield 62, 3) := by decide +kernel
theorem dX12_digest_5 : decode cX12_digest 5 = .ok (.aload_n 0, 1) := by decide +kernel
theorem dX12_digest_6 : decode cX12_digest 6 = .ok (.ldc2_w 325, 3) := by decide +kernel
theorem dX12_digest_9 : decode cX12_digest 9 = .ok (.putfield 318, 3) := by decide +kernel
theorem dX12_digest_12 : decode cX12_digest 12 = .ok (.aload_n 0, 1) := by decide +kernel
theorem dX12_digest_13 : decode cX12_digest 13 = .ok (.aload_n 0, 1) := by decide +kernel
theorem dX12_digest_14 : decode cX12_digest 14 = .ok (.getfield 66, 3) := by decide +kernel
theorem dX12_digest_17 : decode cX12_digest 17 = .ok (.i2l, 1) := by decide +kernel
theorem dX12_digest_18 : decode cX12_digest 18 = .ok (.invokevirtual 321, 3) := by decide +kernel
theorem dX12_digest_21 : decode cX12_digest 21 = .ok (.aload_n 0, 1) := by decide +kernel
theorem dX12_digest_22 : decode cX12_digest 22 = .ok (.aload_n 0, 1) := by decide +kernel
theorem dX12_digest_23 : decode cX12_digest 23 = .ok (.getfield 255, 3) := by decide +kernel
theorem dX12_digest_26 : decode cX12_digest 26 = .ok (.i2l, 1) := by decide +kernel
theorem dX12_digest_27 : decode cX12_digest 27 = .ok (.invokevirtual 321, 3) := by decide +kernel
theorem dX12_digest_30 : decode cX12_digest 30 = .ok (.iconst 0, 1) := by decide +kernel
theorem dX12_digest_31 : decode cX12_digest 31 = .ok (.istore_n 1, 1) := by decide +kernel
theorem dX12_digest_32 : decode cX12_digest 32 = .ok (.iload_n 1, 1) := by decide +kernel
theorem dX12_digest_33 : decode cX12_digest 33 = .ok (.bipush 9, 2) := by decide +kernel
theorem dX12_digest_35 : decode cX12_digest 35 = .ok (.if_icmp .ge 19, 3) := by decide +kernel
theorem dX12_digest_38 : decode cX12_digest 38 = .ok (.aload_n 0, 1) := by decide +kernel
theorem dX12_digest_39 : decode cX12_digest 39 = .ok (.aload_n 0, 1) := by decide +kernel
theorem dX12_digest_40 : decode cX12_digest 40 = .ok (.iload_n 1, 1) := by decide +kernel
theorem dX12_digest_41 : decode cX12_digest 41 = .ok (.invokevirtual 247, 3) := by decide +kernel
theorem dX12_digest_44 : decode cX12_digest 44 = .ok (.i2l, 1) := by decide +kernel
theorem dX12_digest_45 : decode cX12_digest 45 = .ok (.invokevirtual 321, 3) := by decide +kernel
theorem dX12_digest_48 : decode cX12_digest 48 = .ok (.iinc 1 1, 3) := by decide +kernel
theorem dX12_digest_51 : decode cX12_digest 51 = .ok (.goto (-19), 3) := by decide +kernel
theorem dX12_digest_54 : decode cX12_digest 54 = .ok (.aload_n 0, 1) := by decide +kernel
theorem dX12_digest_55 : decode cX12_digest 55 = .ok (.aload_n 0, 1) := by decide +kernel
theorem dX12_digest_56 : decode cX12_digest 56 = .ok (.getfield 7, 3) := by decide +kernel
theorem dX12_digest_59 : decode cX12_digest 59 = .ok (.bipush 6, 2) := by decide +kernel
theorem dX12_digest_61 : decode cX12_digest 61 = .ok (.laload, 1) := by decide +kernel
theorem dX12_digest_62 : decode cX12_digest 62 = .ok (.invokevirtual 321, 3) := by decide +kernel
theorem dX12_digest_65 : decode cX12_digest 65 = .ok (.aload_n 0, 1) := by decide +kernel
theorem dX12_digest_66 : decode cX12_digest 66 = .ok (.invokevirtual 236, 3) := by decide +kernel
theorem dX12_digest_69 : decode cX12_digest 69 = .ok (.iconst 0, 1) := by decide +kernel
theorem dX12_digest_70 : decode cX12_digest 70 = .ok (.istore_n 1, 1) := by decide +kernel
theorem dX12_digest_71 : decode cX12_digest 71 = .ok (.iload_n 1, 1) := by decide +kernel
theorem dX12_digest_72 : decode cX12_digest 72 = .ok (.aload_n 0, 1) := by decide +kernel
theorem dX12_digest_73 : decode cX12_digest 73 = .ok (.invokevirtual 76, 3) := by decide +kernel
theorem dX12_digest_76 : decode cX12_digest 76 = .ok (.if_icmp .ge 57, 3) := by decide +kernel
theorem dX12_digest_79 : decode cX12_digest 79 = .ok (.aload_n 0, 1) := by decide +kernel
theorem dX12_digest_80 : decode cX12_digest 80 = .ok (.aload_n 0, 1) := by decide +kernel
theorem dX12_digest_81 : decode cX12_digest 81 = .ok (.getfield 7, 3) := by decide +kernel
theorem dX12_digest_84 : decode cX12_digest 84 = .ok (.bipush 8, 2) := by decide +kernel
theorem dX12_digest_86 : decode cX12_digest 86 = .ok (.iload_n 1, 1) := by decide +kernel
theorem dX12_digest_87 : decode cX12_digest 87 = .ok (.iadd, 1) := by decide +kernel
theorem dX12_digest_88 : decode cX12_digest 88 = .ok (.laload, 1) := by decide +kernel
theorem dX12_digest_89 : decode cX12_digest 89 = .ok (.invokevirtual 321, 3) := by decide +kernel
theorem dX12_digest_92 : decode cX12_digest 92 = .ok (.aload_n 0, 1) := by decide +kernel
theorem dX12_digest_93 : decode cX12_digest 93 = .ok (.aload_n 0, 1) := by decide +kernel
theorem dX12_digest_94 : decode cX12_digest 94 = .ok (.getfield 7, 3) := by decide +kernel
theorem dX12_digest_97 : decode cX12_digest 97 = .ok (.bipush 72, 2) := by decide +kernel
theorem dX12_digest_99 : decode cX12_digest 99 = .ok (.iload_n 1, 1) := by decide +kernel
theorem dX12_digest_100 : decode cX12_digest 100 = .ok (.iadd, 1) := by decide +kernel
theorem dX12_digest_101 : decode cX12_digest 101 = .ok (.laload, 1) := by decide +kernel
theorem dX12_digest_102 : decode cX12_digest 102 = .ok (.invokevirtual 321, 3) := by decide +kernel
theorem dX12_digest_105 : decode cX12_digest 105 = .ok (.aload_n 0, 1) := by decide +kernel
theorem dX12_digest_106 : decode cX12_digest 106 = .ok (.aload_n 0, 1) := by decide +kernel
theorem dX12_digest_107 : decode cX12_digest 107 = .ok (.getfield 33, 3) := by decide +kernel
theorem dX12_digest_110 : decode cX12_digest 110 = .ok (.iload_n 1, 1) := by decide +kernel
theorem dX12_digest_111 : decode cX12_digest 111 = .ok (.iaload, 1) := by decide +kernel
theorem dX12_digest_112 : decode cX12_digest 112 = .ok (.i2l, 1) := by decide +kernel
theorem dX12_digest_113 : decode cX12_digest 113 = .ok (.invokevirtual 321, 3) := by decide +kernel
theorem dX12_digest_116 : decode cX12_digest 116 = .ok (.aload_n 0, 1) := by decide +kernel
theorem dX12_digest_117 : decode cX12_digest 117 = .ok (.aload_n 0, 1) := by decide +kernel
theorem dX12_digest_118 : decode cX12_digest 118 = .ok (.getfield 36, 3) := by decide +kernel
theorem dX12_digest_121 : decode cX12_digest 121 = .ok (.iload_n 1, 1) := by decide +kernel
theorem dX12_digest_122 : decode cX12_digest 122 = .ok (.iaload, 1) := by decide +kernel
theorem dX12_digest_123 : decode cX12_digest 123 = .ok (.i2l, 1) := by decide +kernel
theorem dX12_digest_124 : decode cX12_digest 124 = .ok (.invokevirtual 321, 3) := by decide +kernel
theorem dX12_digest_127 : decode cX12_digest 127 = .ok (.iinc 1 1, 3) := by decide +kernel
theorem dX12_digest_130 : decode cX12_digest 130 = .ok (.goto (-59), 3) := by decide +kernel
theorem dX12_digest_133 : decode cX12_digest 133 = .ok (.iconst 0, 1) := by decide +kernel
theorem dX12_digest_134 : decode cX12_digest 134 = .ok (.istore_n 1, 1) := by decide +kernel
theorem dX12_digest_135 : decode cX12_digest 135 = .ok (.iload_n 1, 1) := by decide +kernel
theorem dX12_digest_136 : decode cX12_digest 136 = .ok (.i2l, 1) := by decide +kernel
theorem dX12_digest_137 : decode cX12_digest 137 = .ok (.aload_n 0, 1) := by decide +kernel
theorem dX12_digest_138 : decode cX12_digest 138 = .ok (.getfield 7, 3) := by decide +kernel
theorem dX12_digest_141 : decode cX12_digest 141 = .ok (.bipush 7, 2) := by decide +kernel
theorem dX12_digest_143 : decode cX12_digest 143 = .ok (.laload, 1) := by decide +kernel
theorem dX12_digest_144 : decode cX12_digest 144 = .ok (.lcmp, 1) := by decide +kernel
theorem dX12_digest_145 : decode cX12_digest 145 = .ok (.ifCond .ge 14, 3) := by decide +kernel
theorem dX12_digest_148 : decode cX12_digest 148 = .ok (.aload_n 0, 1) := by decide +kernel
theorem dX12_digest_149 : decode cX12_digest 149 = .ok (.iload_n 1, 1) := by decide +kernel
theorem dX12_digest_150 : decode cX12_digest 150 = .ok (.invokevirtual 327, 3) := by decide +kernel
theorem dX12_digest_153 : decode cX12_digest 153 = .ok (.iinc 1 1, 3) := by decide +kernel
theorem dX12_digest_156 : decode cX12_digest 156 = .ok (.goto (-21), 3) := by decide +kernel
theorem dX12_digest_159 : decode cX12_digest 159 = .ok (.iconst 0, 1) := by decide +kernel
theorem dX12_digest_160 : decode cX12_digest 160 = .ok (.istore_n 1, 1) := by decide +kernel
theorem dX12_digest_161 : decode cX12_digest 161 = .ok (.iload_n 1, 1) := by decide +kernel
theorem dX12_digest_162 : decode cX12_digest 162 = .ok (.iconst 5, 1) := by decide +kernel
theorem dX12_digest_163 : decode cX12_digest 163 = .ok (.if_icmp .ge 18, 3) := by decide +kernel
theorem dX12_digest_166 : decode cX12_digest 166 = .ok (.aload_n 0, 1) := by decide +kernel
theorem dX12_digest_167 : decode cX12_digest 167 = .ok (.aload_n 0, 1) := by decide +kernel
theorem dX12_digest_168 : decode cX12_digest 168 = .ok (.iload_n 1, 1) := by decide +kernel
theorem dX12_digest_169 : decode cX12_digest 169 = .ok (.invokevirtual 250, 3) := by decide +kernel
theorem dX12_digest_172 : decode cX12_digest 172 = .ok (.invokevirtual 321, 3) := by decide +kernel
theorem dX12_digest_175 : decode cX12_digest 175 = .ok (.iinc 1 1, 3) := by decide +kernel
theorem dX12_digest_178 : decode cX12_digest 178 = .ok (.goto (-17), 3) := by decide +kernel
theorem dX12_digest_181 : decode cX12_digest 181 = .ok (.aload_n 0, 1) := by decide +kernel
theorem dX12_digest_182 : decode cX12_digest 182 = .ok (.getfield 318, 3) := by decide +kernel
theorem dX12_digest_185 : decode cX12_digest 185 = .ok (.lreturn, 1) := by decide +kernel
