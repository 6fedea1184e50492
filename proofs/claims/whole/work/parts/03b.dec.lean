theorem dX11_init_0 : decode cX11_init 0 = .ok (.aload_n 0, 1) := by decide +kernel
theorem dX11_init_1 : decode cX11_init 1 = .ok (.invokespecial 1, 3) := by decide +kernel
theorem dX11_init_4 : decode cX11_init 4 = .ok (.aload_n 0, 1) := by decide +kernel
theorem dX11_init_5 : decode cX11_init 5 = .ok (.new 7, 3) := by decide +kernel
theorem dX11_init_8 : decode cX11_init 8 = .ok (.dup, 1) := by decide +kernel
theorem dX11_init_9 : decode cX11_init 9 = .ok (.invokespecial 9, 3) := by decide +kernel
theorem dX11_init_12 : decode cX11_init 12 = .ok (.putfield 10, 3) := by decide +kernel
theorem dX11_init_15 : decode cX11_init 15 = .ok (.aload_n 0, 1) := by decide +kernel
theorem dX11_init_16 : decode cX11_init 16 = .ok (.new 16, 3) := by decide +kernel
theorem dX11_init_19 : decode cX11_init 19 = .ok (.dup, 1) := by decide +kernel
theorem dX11_init_20 : decode cX11_init 20 = .ok (.invokespecial 18, 3) := by decide +kernel
theorem dX11_init_23 : decode cX11_init 23 = .ok (.putfield 19, 3) := by decide +kernel
theorem dX11_init_26 : decode cX11_init 26 = .ok (.aload_n 0, 1) := by decide +kernel
theorem dX11_init_27 : decode cX11_init 27 = .ok (.new 23, 3) := by decide +kernel
theorem dX11_init_30 : decode cX11_init 30 = .ok (.dup, 1) := by decide +kernel
theorem dX11_init_31 : decode cX11_init 31 = .ok (.aload_n 0, 1) := by decide +kernel
theorem dX11_init_32 : decode cX11_init 32 = .ok (.getfield 19, 3) := by decide +kernel
theorem dX11_init_35 : decode cX11_init 35 = .ok (.invokespecial 25, 3) := by decide +kernel
theorem dX11_init_38 : decode cX11_init 38 = .ok (.putfield 28, 3) := by decide +kernel
theorem dX11_init_41 : decode cX11_init 41 = .ok (.aload_n 0, 1) := by decide +kernel
theorem dX11_init_42 : decode cX11_init 42 = .ok (.new 32, 3) := by decide +kernel
theorem dX11_init_45 : decode cX11_init 45 = .ok (.dup, 1) := by decide +kernel
theorem dX11_init_46 : decode cX11_init 46 = .ok (.aload_n 0, 1) := by decide +kernel
theorem dX11_init_47 : decode cX11_init 47 = .ok (.getfield 10, 3) := by decide +kernel
theorem dX11_init_50 : decode cX11_init 50 = .ok (.aload_n 0, 1) := by decide +kernel
theorem dX11_init_51 : decode cX11_init 51 = .ok (.getfield 19, 3) := by decide +kernel
theorem dX11_init_54 : decode cX11_init 54 = .ok (.aload_n 0, 1) := by decide +kernel
theorem dX11_init_55 : decode cX11_init 55 = .ok (.getfield 28, 3) := by decide +kernel
theorem dX11_init_58 : decode cX11_init 58 = .ok (.invokespecial 34, 3) := by decide +kernel
theorem dX11_init_61 : decode cX11_init 61 = .ok (.putfield 37, 3) := by decide +kernel
theorem dX11_init_64 : decode cX11_init 64 = .ok (.aload_n 0, 1) := by decide +kernel
theorem dX11_init_65 : decode cX11_init 65 = .ok (.new 41, 3) := by decide +kernel
theorem dX11_init_68 : decode cX11_init 68 = .ok (.dup, 1) := by decide +kernel
theorem dX11_init_69 : decode cX11_init 69 = .ok (.aload_n 0, 1) := by decide +kernel
theorem dX11_init_70 : decode cX11_init 70 = .ok (.getfield 10, 3) := by decide +kernel
theorem dX11_init_73 : decode cX11_init 73 = .ok (.aload_n 0, 1) := by decide +kernel
theorem dX11_init_74 : decode cX11_init 74 = .ok (.getfield 37, 3) := by decide +kernel
theorem dX11_init_77 : decode cX11_init 77 = .ok (.invokespecial 43, 3) := by decide +kernel
theorem dX11_init_80 : decode cX11_init 80 = .ok (.putfield 46, 3) := by decide +kernel
theorem dX11_init_83 : decode cX11_init 83 = .ok (.aload_n 0, 1) := by decide +kernel
theorem dX11_init_84 : decode cX11_init 84 = .ok (.new 50, 3) := by decide +kernel
theorem dX11_init_87 : decode cX11_init 87 = .ok (.dup, 1) := by decide +kernel
theorem dX11_init_88 : decode cX11_init 88 = .ok (.aload_n 0, 1) := by decide +kernel
theorem dX11_init_89 : decode cX11_init 89 = .ok (.getfield 10, 3) := by decide +kernel
theorem dX11_init_92 : decode cX11_init 92 = .ok (.aload_n 0, 1) := by decide +kernel
theorem dX11_init_93 : decode cX11_init 93 = .ok (.getfield 19, 3) := by decide +kernel
theorem dX11_init_96 : decode cX11_init 96 = .ok (.aload_n 0, 1) := by decide +kernel
theorem dX11_init_97 : decode cX11_init 97 = .ok (.getfield 28, 3) := by decide +kernel
theorem dX11_init_100 : decode cX11_init 100 = .ok (.aload_n 0, 1) := by decide +kernel
theorem dX11_init_101 : decode cX11_init 101 = .ok (.getfield 37, 3) := by decide +kernel
theorem dX11_init_104 : decode cX11_init 104 = .ok (.aload_n 0, 1) := by decide +kernel
theorem dX11_init_105 : decode cX11_init 105 = .ok (.getfield 46, 3) := by decide +kernel
theorem dX11_init_108 : decode cX11_init 108 = .ok (.invokespecial 52, 3) := by decide +kernel
theorem dX11_init_111 : decode cX11_init 111 = .ok (.putfield 55, 3) := by decide +kernel
theorem dX11_init_114 : decode cX11_init 114 = .ok (.aload_n 0, 1) := by decide +kernel
theorem dX11_init_115 : decode cX11_init 115 = .ok (.new 59, 3) := by decide +kernel
theorem dX11_init_118 : decode cX11_init 118 = .ok (.dup, 1) := by decide +kernel
theorem dX11_init_119 : decode cX11_init 119 = .ok (.aload_n 0, 1) := by decide +kernel
theorem dX11_init_120 : decode cX11_init 120 = .ok (.getfield 10, 3) := by decide +kernel
theorem dX11_init_123 : decode cX11_init 123 = .ok (.aload_n 0, 1) := by decide +kernel
theorem dX11_init_124 : decode cX11_init 124 = .ok (.getfield 37, 3) := by decide +kernel
theorem dX11_init_127 : decode cX11_init 127 = .ok (.aload_n 0, 1) := by decide +kernel
theorem dX11_init_128 : decode cX11_init 128 = .ok (.getfield 55, 3) := by decide +kernel
theorem dX11_init_131 : decode cX11_init 131 = .ok (.invokespecial 61, 3) := by decide +kernel
theorem dX11_init_134 : decode cX11_init 134 = .ok (.putfield 64, 3) := by decide +kernel
theorem dX11_init_137 : decode cX11_init 137 = .ok (.aload_n 0, 1) := by decide +kernel
theorem dX11_init_138 : decode cX11_init 138 = .ok (.new 68, 3) := by decide +kernel
theorem dX11_init_141 : decode cX11_init 141 = .ok (.dup, 1) := by decide +kernel
theorem dX11_init_142 : decode cX11_init 142 = .ok (.invokespecial 70, 3) := by decide +kernel
theorem dX11_init_145 : decode cX11_init 145 = .ok (.putfield 71, 3) := by decide +kernel
theorem dX11_init_148 : decode cX11_init 148 = .ok (.aload_n 0, 1) := by decide +kernel
theorem dX11_init_149 : decode cX11_init 149 = .ok (.new 75, 3) := by decide +kernel
theorem dX11_init_152 : decode cX11_init 152 = .ok (.dup, 1) := by decide +kernel
theorem dX11_init_153 : decode cX11_init 153 = .ok (.invokespecial 77, 3) := by decide +kernel
theorem dX11_init_156 : decode cX11_init 156 = .ok (.putfield 78, 3) := by decide +kernel
theorem dX11_init_159 : decode cX11_init 159 = .ok (.aload_n 0, 1) := by decide +kernel
theorem dX11_init_160 : decode cX11_init 160 = .ok (.getfield 19, 3) := by decide +kernel
theorem dX11_init_163 : decode cX11_init 163 = .ok (.aload_n 0, 1) := by decide +kernel
theorem dX11_init_164 : decode cX11_init 164 = .ok (.getfield 10, 3) := by decide +kernel
theorem dX11_init_167 : decode cX11_init 167 = .ok (.getfield 82, 3) := by decide +kernel
theorem dX11_init_170 : decode cX11_init 170 = .ok (.aload_n 0, 1) := by decide +kernel
theorem dX11_init_171 : decode cX11_init 171 = .ok (.getfield 10, 3) := by decide +kernel
theorem dX11_init_174 : decode cX11_init 174 = .ok (.getfield 86, 3) := by decide +kernel
theorem dX11_init_177 : decode cX11_init 177 = .ok (.invokevirtual 89, 3) := by decide +kernel
theorem dX11_init_180 : decode cX11_init 180 = .ok (.return_, 1) := by decide +kernel
theorem dX11_begin_0 : decode cX11_begin 0 = .ok (.iload_n 1, 1) := by decide +kernel
theorem dX11_begin_1 : decode cX11_begin 1 = .ok (.iconst 2, 1) := by decide +kernel
theorem dX11_begin_2 : decode cX11_begin 2 = .ok (.bipush 8, 2) := by decide +kernel
theorem dX11_begin_4 : decode cX11_begin 4 = .ok (.invokestatic 93, 3) := by decide +kernel
theorem dX11_begin_7 : decode cX11_begin 7 = .ok (.iload_n 2, 1) := by decide +kernel
theorem dX11_begin_8 : decode cX11_begin 8 = .ok (.iconst 2, 1) := by decide +kernel
theorem dX11_begin_9 : decode cX11_begin 9 = .ok (.bipush 8, 2) := by decide +kernel
theorem dX11_begin_11 : decode cX11_begin 11 = .ok (.invokestatic 93, 3) := by decide +kernel
theorem dX11_begin_14 : decode cX11_begin 14 = .ok (.aload_n 0, 1) := by decide +kernel
theorem dX11_begin_15 : decode cX11_begin 15 = .ok (.getfield 71, 3) := by decide +kernel
theorem dX11_begin_18 : decode cX11_begin 18 = .ok (.aload_n 0, 1) := by decide +kernel
theorem dX11_begin_19 : decode cX11_begin 19 = .ok (.getfield 10, 3) := by decide +kernel
theorem dX11_begin_22 : decode cX11_begin 22 = .ok (.invokevirtual 97, 3) := by decide +kernel
theorem dX11_begin_25 : decode cX11_begin 25 = .ok (.aload_n 0, 1) := by decide +kernel
theorem dX11_begin_26 : decode cX11_begin 26 = .ok (.getfield 10, 3) := by decide +kernel
theorem dX11_begin_29 : decode cX11_begin 29 = .ok (.iload_n 1, 1) := by decide +kernel
theorem dX11_begin_30 : decode cX11_begin 30 = .ok (.iload_n 2, 1) := by decide +kernel
theorem dX11_begin_31 : decode cX11_begin 31 = .ok (.invokevirtual 101, 3) := by decide +kernel
theorem dX11_begin_34 : decode cX11_begin 34 = .ok (.aload_n 0, 1) := by decide +kernel
theorem dX11_begin_35 : decode cX11_begin 35 = .ok (.invokevirtual 104, 3) := by decide +kernel
theorem dX11_begin_38 : decode cX11_begin 38 = .ok (.aload_n 0, 1) := by decide +kernel
theorem dX11_begin_39 : decode cX11_begin 39 = .ok (.getfield 10, 3) := by decide +kernel
theorem dX11_begin_42 : decode cX11_begin 42 = .ok (.invokevirtual 107, 3) := by decide +kernel
theorem dX11_begin_45 : decode cX11_begin 45 = .ok (.ireturn, 1) := by decide +kernel
theorem dX11_setCell_0 : decode cX11_setCell 0 = .ok (.aload_n 0, 1) := by decide +kernel
theorem dX11_setCell_1 : decode cX11_setCell 1 = .ok (.iload_n 1, 1) := by decide +kernel
theorem dX11_setCell_2 : decode cX11_setCell 2 = .ok (.invokevirtual 111, 3) := by decide +kernel
theorem dX11_setCell_5 : decode cX11_setCell 5 = .ok (.iload_n 2, 1) := by decide +kernel
theorem dX11_setCell_6 : decode cX11_setCell 6 = .ok (.iconst 1, 1) := by decide +kernel
theorem dX11_setCell_7 : decode cX11_setCell 7 = .ok (.ldc 115, 2) := by decide +kernel
theorem dX11_setCell_9 : decode cX11_setCell 9 = .ok (.invokestatic 93, 3) := by decide +kernel
theorem dX11_setCell_12 : decode cX11_setCell 12 = .ok (.aload_n 0, 1) := by decide +kernel
theorem dX11_setCell_13 : decode cX11_setCell 13 = .ok (.getfield 71, 3) := by decide +kernel
theorem dX11_setCell_16 : decode cX11_setCell 16 = .ok (.aload_n 0, 1) := by decide +kernel
theorem dX11_setCell_17 : decode cX11_setCell 17 = .ok (.getfield 10, 3) := by decide +kernel
theorem dX11_setCell_20 : decode cX11_setCell 20 = .ok (.invokevirtual 97, 3) := by decide +kernel
theorem dX11_setCell_23 : decode cX11_setCell 23 = .ok (.aload_n 0, 1) := by decide +kernel
theorem dX11_setCell_24 : decode cX11_setCell 24 = .ok (.getfield 10, 3) := by decide +kernel
theorem dX11_setCell_27 : decode cX11_setCell 27 = .ok (.getfield 116, 3) := by decide +kernel
theorem dX11_setCell_30 : decode cX11_setCell 30 = .ok (.iload_n 1, 1) := by decide +kernel
theorem dX11_setCell_31 : decode cX11_setCell 31 = .ok (.iaload, 1) := by decide +kernel
theorem dX11_setCell_32 : decode cX11_setCell 32 = .ok (.istore_n 3, 1) := by decide +kernel
theorem dX11_setCell_33 : decode cX11_setCell 33 = .ok (.aload_n 0, 1) := by decide +kernel
theorem dX11_setCell_34 : decode cX11_setCell 34 = .ok (.getfield 55, 3) := by decide +kernel
theorem dX11_setCell_37 : decode cX11_setCell 37 = .ok (.iload_n 1, 1) := by decide +kernel
theorem dX11_setCell_38 : decode cX11_setCell 38 = .ok (.iload_n 2, 1) := by decide +kernel
theorem dX11_setCell_39 : decode cX11_setCell 39 = .ok (.invokevirtual 120, 3) := by decide +kernel
theorem dX11_setCell_42 : decode cX11_setCell 42 = .ok (.iload_n 3, 1) := by decide +kernel
theorem dX11_setCell_43 : decode cX11_setCell 43 = .ok (.ireturn, 1) := by decide +kernel
theorem dX11_setTrue_0 : decode cX11_setTrue 0 = .ok (.aload_n 0, 1) := by decide +kernel
theorem dX11_setTrue_1 : decode cX11_setTrue 1 = .ok (.iload_n 1, 1) := by decide +kernel
theorem dX11_setTrue_2 : decode cX11_setTrue 2 = .ok (.invokevirtual 111, 3) := by decide +kernel
theorem dX11_setTrue_5 : decode cX11_setTrue 5 = .ok (.iload_n 2, 1) := by decide +kernel
theorem dX11_setTrue_6 : decode cX11_setTrue 6 = .ok (.iconst 1, 1) := by decide +kernel
theorem dX11_setTrue_7 : decode cX11_setTrue 7 = .ok (.ldc 115, 2) := by decide +kernel
theorem dX11_setTrue_9 : decode cX11_setTrue 9 = .ok (.invokestatic 93, 3) := by decide +kernel
theorem dX11_setTrue_12 : decode cX11_setTrue 12 = .ok (.aload_n 0, 1) := by decide +kernel
theorem dX11_setTrue_13 : decode cX11_setTrue 13 = .ok (.getfield 71, 3) := by decide +kernel
theorem dX11_setTrue_16 : decode cX11_setTrue 16 = .ok (.aload_n 0, 1) := by decide +kernel
theorem dX11_setTrue_17 : decode cX11_setTrue 17 = .ok (.getfield 10, 3) := by decide +kernel
theorem dX11_setTrue_20 : decode cX11_setTrue 20 = .ok (.invokevirtual 97, 3) := by decide +kernel
theorem dX11_setTrue_23 : decode cX11_setTrue 23 = .ok (.aload_n 0, 1) := by decide +kernel
theorem dX11_setTrue_24 : decode cX11_setTrue 24 = .ok (.getfield 10, 3) := by decide +kernel
theorem dX11_setTrue_27 : decode cX11_setTrue 27 = .ok (.getfield 123, 3) := by decide +kernel
theorem dX11_setTrue_30 : decode cX11_setTrue 30 = .ok (.iload_n 1, 1) := by decide +kernel
theorem dX11_setTrue_31 : decode cX11_setTrue 31 = .ok (.iaload, 1) := by decide +kernel
theorem dX11_setTrue_32 : decode cX11_setTrue 32 = .ok (.istore_n 3, 1) := by decide +kernel
theorem dX11_setTrue_33 : decode cX11_setTrue 33 = .ok (.aload_n 0, 1) := by decide +kernel
theorem dX11_setTrue_34 : decode cX11_setTrue 34 = .ok (.getfield 10, 3) := by decide +kernel
theorem dX11_setTrue_37 : decode cX11_setTrue 37 = .ok (.getfield 123, 3) := by decide +kernel
theorem dX11_setTrue_40 : decode cX11_setTrue 40 = .ok (.iload_n 1, 1) := by decide +kernel
theorem dX11_setTrue_41 : decode cX11_setTrue 41 = .ok (.iload_n 2, 1) := by decide +kernel
theorem dX11_setTrue_42 : decode cX11_setTrue 42 = .ok (.iastore, 1) := by decide +kernel
theorem dX11_setTrue_43 : decode cX11_setTrue 43 = .ok (.iload_n 3, 1) := by decide +kernel
theorem dX11_setTrue_44 : decode cX11_setTrue 44 = .ok (.ireturn, 1) := by decide +kernel
theorem dX11_slope_0 : decode cX11_slope 0 = .ok (.iload_n 2, 1) := by decide +kernel
theorem dX11_slope_1 : decode cX11_slope 1 = .ok (.iconst 1, 1) := by decide +kernel
theorem dX11_slope_2 : decode cX11_slope 2 = .ok (.ldc 115, 2) := by decide +kernel
theorem dX11_slope_4 : decode cX11_slope 4 = .ok (.invokestatic 93, 3) := by decide +kernel
theorem dX11_slope_7 : decode cX11_slope 7 = .ok (.iload_n 3, 1) := by decide +kernel
theorem dX11_slope_8 : decode cX11_slope 8 = .ok (.sipush (-10000), 3) := by decide +kernel
theorem dX11_slope_11 : decode cX11_slope 11 = .ok (.sipush 10000, 3) := by decide +kernel
theorem dX11_slope_14 : decode cX11_slope 14 = .ok (.invokestatic 93, 3) := by decide +kernel
theorem dX11_slope_17 : decode cX11_slope 17 = .ok (.iload 4, 2) := by decide +kernel
theorem dX11_slope_19 : decode cX11_slope 19 = .ok (.sipush (-10000), 3) := by decide +kernel
theorem dX11_slope_22 : decode cX11_slope 22 = .ok (.sipush 10000, 3) := by decide +kernel
theorem dX11_slope_25 : decode cX11_slope 25 = .ok (.invokestatic 93, 3) := by decide +kernel
theorem dX11_slope_28 : decode cX11_slope 28 = .ok (.aload_n 0, 1) := by decide +kernel
theorem dX11_slope_29 : decode cX11_slope 29 = .ok (.getfield 71, 3) := by decide +kernel
theorem dX11_slope_32 : decode cX11_slope 32 = .ok (.aload_n 0, 1) := by decide +kernel
theorem dX11_slope_33 : decode cX11_slope 33 = .ok (.getfield 10, 3) := by decide +kernel
theorem dX11_slope_36 : decode cX11_slope 36 = .ok (.invokevirtual 97, 3) := by decide +kernel
theorem dX11_slope_39 : decode cX11_slope 39 = .ok (.aload_n 0, 1) := by decide +kernel
theorem dX11_slope_40 : decode cX11_slope 40 = .ok (.getfield 55, 3) := by decide +kernel
theorem dX11_slope_43 : decode cX11_slope 43 = .ok (.iload_n 1, 1) := by decide +kernel
theorem dX11_slope_44 : decode cX11_slope 44 = .ok (.iload_n 2, 1) := by decide +kernel
theorem dX11_slope_45 : decode cX11_slope 45 = .ok (.iload_n 3, 1) := by decide +kernel
theorem dX11_slope_46 : decode cX11_slope 46 = .ok (.iload 4, 2) := by decide +kernel
theorem dX11_slope_48 : decode cX11_slope 48 = .ok (.invokevirtual 126, 3) := by decide +kernel
theorem dX11_slope_51 : decode cX11_slope 51 = .ok (.ireturn, 1) := by decide +kernel
theorem dX11_setBounds_0 : decode cX11_setBounds 0 = .ok (.iload_n 2, 1) := by decide +kernel
theorem dX11_setBounds_1 : decode cX11_setBounds 1 = .ok (.iconst 1, 1) := by decide +kernel
theorem dX11_setBounds_2 : decode cX11_setBounds 2 = .ok (.ldc 115, 2) := by decide +kernel
theorem dX11_setBounds_4 : decode cX11_setBounds 4 = .ok (.invokestatic 93, 3) := by decide +kernel
theorem dX11_setBounds_7 : decode cX11_setBounds 7 = .ok (.iload_n 1, 1) := by decide +kernel
theorem dX11_setBounds_8 : decode cX11_setBounds 8 = .ok (.iconst 1, 1) := by decide +kernel
theorem dX11_setBounds_9 : decode cX11_setBounds 9 = .ok (.iload_n 2, 1) := by decide +kernel
theorem dX11_setBounds_10 : decode cX11_setBounds 10 = .ok (.invokestatic 93, 3) := by decide +kernel
theorem dX11_setBounds_13 : decode cX11_setBounds 13 = .ok (.aload_n 0, 1) := by decide +kernel
theorem dX11_setBounds_14 : decode cX11_setBounds 14 = .ok (.getfield 71, 3) := by decide +kernel
theorem dX11_setBounds_17 : decode cX11_setBounds 17 = .ok (.aload_n 0, 1) := by decide +kernel
theorem dX11_setBounds_18 : decode cX11_setBounds 18 = .ok (.getfield 10, 3) := by decide +kernel
theorem dX11_setBounds_21 : decode cX11_setBounds 21 = .ok (.invokevirtual 97, 3) := by decide +kernel
theorem dX11_setBounds_24 : decode cX11_setBounds 24 = .ok (.aload_n 0, 1) := by decide +kernel
theorem dX11_setBounds_25 : decode cX11_setBounds 25 = .ok (.getfield 10, 3) := by decide +kernel
theorem dX11_setBounds_28 : decode cX11_setBounds 28 = .ok (.iload_n 1, 1) := by decide +kernel
theorem dX11_setBounds_29 : decode cX11_setBounds 29 = .ok (.putfield 130, 3) := by decide +kernel
theorem dX11_setBounds_32 : decode cX11_setBounds 32 = .ok (.aload_n 0, 1) := by decide +kernel
theorem dX11_setBounds_33 : decode cX11_setBounds 33 = .ok (.getfield 10, 3) := by decide +kernel
theorem dX11_setBounds_36 : decode cX11_setBounds 36 = .ok (.iload_n 2, 1) := by decide +kernel
theorem dX11_setBounds_37 : decode cX11_setBounds 37 = .ok (.putfield 133, 3) := by decide +kernel
theorem dX11_setBounds_40 : decode cX11_setBounds 40 = .ok (.aload_n 0, 1) := by decide +kernel
theorem dX11_setBounds_41 : decode cX11_setBounds 41 = .ok (.getfield 46, 3) := by decide +kernel
theorem dX11_setBounds_44 : decode cX11_setBounds 44 = .ok (.invokevirtual 136, 3) := by decide +kernel
theorem dX11_setBounds_47 : decode cX11_setBounds 47 = .ok (.ireturn, 1) := by decide +kernel
theorem dX11_addRay_0 : decode cX11_addRay 0 = .ok (.aload_n 0, 1) := by decide +kernel
theorem dX11_addRay_1 : decode cX11_addRay 1 = .ok (.iload_n 1, 1) := by decide +kernel
theorem dX11_addRay_2 : decode cX11_addRay 2 = .ok (.invokevirtual 139, 3) := by decide +kernel
theorem dX11_addRay_5 : decode cX11_addRay 5 = .ok (.aload_n 0, 1) := by decide +kernel
theorem dX11_addRay_6 : decode cX11_addRay 6 = .ok (.iload_n 2, 1) := by decide +kernel
theorem dX11_addRay_7 : decode cX11_addRay 7 = .ok (.invokevirtual 139, 3) := by decide +kernel
theorem dX11_addRay_10 : decode cX11_addRay 10 = .ok (.aload_n 0, 1) := by decide +kernel
theorem dX11_addRay_11 : decode cX11_addRay 11 = .ok (.invokevirtual 142, 3) := by decide +kernel
theorem dX11_addRay_14 : decode cX11_addRay 14 = .ok (.ifCond .ne 13, 3) := by decide +kernel
theorem dX11_addRay_17 : decode cX11_addRay 17 = .ok (.new 146, 3) := by decide +kernel
theorem dX11_addRay_20 : decode cX11_addRay 20 = .ok (.dup, 1) := by decide +kernel
theorem dX11_addRay_21 : decode cX11_addRay 21 = .ok (.ldc 148, 2) := by decide +kernel
theorem dX11_addRay_23 : decode cX11_addRay 23 = .ok (.invokespecial 150, 3) := by decide +kernel
theorem dX11_addRay_26 : decode cX11_addRay 26 = .ok (.athrow, 1) := by decide +kernel
theorem dX11_addRay_27 : decode cX11_addRay 27 = .ok (.aload_n 0, 1) := by decide +kernel
theorem dX11_addRay_28 : decode cX11_addRay 28 = .ok (.getfield 71, 3) := by decide +kernel
theorem dX11_addRay_31 : decode cX11_addRay 31 = .ok (.aload_n 0, 1) := by decide +kernel
theorem dX11_addRay_32 : decode cX11_addRay 32 = .ok (.getfield 10, 3) := by decide +kernel
theorem dX11_addRay_35 : decode cX11_addRay 35 = .ok (.invokevirtual 97, 3) := by decide +kernel
theorem dX11_addRay_38 : decode cX11_addRay 38 = .ok (.aload_n 0, 1) := by decide +kernel
theorem dX11_addRay_39 : decode cX11_addRay 39 = .ok (.getfield 10, 3) := by decide +kernel
theorem dX11_addRay_42 : decode cX11_addRay 42 = .ok (.getfield 153, 3) := by decide +kernel
theorem dX11_addRay_45 : decode cX11_addRay 45 = .ok (.istore_n 3, 1) := by decide +kernel
theorem dX11_addRay_46 : decode cX11_addRay 46 = .ok (.aload_n 0, 1) := by decide +kernel
theorem dX11_addRay_47 : decode cX11_addRay 47 = .ok (.iload_n 1, 1) := by decide +kernel
theorem dX11_addRay_48 : decode cX11_addRay 48 = .ok (.iload_n 2, 1) := by decide +kernel
theorem dX11_addRay_49 : decode cX11_addRay 49 = .ok (.invokevirtual 156, 3) := by decide +kernel
theorem dX11_addRay_52 : decode cX11_addRay 52 = .ok (.iload_n 3, 1) := by decide +kernel
theorem dX11_addRay_53 : decode cX11_addRay 53 = .ok (.ireturn, 1) := by decide +kernel
theorem dX11_setUsed_0 : decode cX11_setUsed 0 = .ok (.aload_n 0, 1) := by decide +kernel
theorem dX11_setUsed_1 : decode cX11_setUsed 1 = .ok (.iload_n 1, 1) := by decide +kernel
theorem dX11_setUsed_2 : decode cX11_setUsed 2 = .ok (.invokevirtual 159, 3) := by decide +kernel
theorem dX11_setUsed_5 : decode cX11_setUsed 5 = .ok (.aload_n 0, 1) := by decide +kernel
theorem dX11_setUsed_6 : decode cX11_setUsed 6 = .ok (.getfield 71, 3) := by decide +kernel
theorem dX11_setUsed_9 : decode cX11_setUsed 9 = .ok (.aload_n 0, 1) := by decide +kernel
theorem dX11_setUsed_10 : decode cX11_setUsed 10 = .ok (.getfield 10, 3) := by decide +kernel
theorem dX11_setUsed_13 : decode cX11_setUsed 13 = .ok (.invokevirtual 97, 3) := by decide +kernel
theorem dX11_setUsed_16 : decode cX11_setUsed 16 = .ok (.aload_n 0, 1) := by decide +kernel
theorem dX11_setUsed_17 : decode cX11_setUsed 17 = .ok (.getfield 10, 3) := by decide +kernel
theorem dX11_setUsed_20 : decode cX11_setUsed 20 = .ok (.getfield 162, 3) := by decide +kernel
theorem dX11_setUsed_23 : decode cX11_setUsed 23 = .ok (.iload_n 1, 1) := by decide +kernel
theorem dX11_setUsed_24 : decode cX11_setUsed 24 = .ok (.iload_n 2, 1) := by decide +kernel
theorem dX11_setUsed_25 : decode cX11_setUsed 25 = .ok (.bastore, 1) := by decide +kernel
theorem dX11_setUsed_26 : decode cX11_setUsed 26 = .ok (.aload_n 0, 1) := by decide +kernel
theorem dX11_setUsed_27 : decode cX11_setUsed 27 = .ok (.getfield 46, 3) := by decide +kernel
theorem dX11_setUsed_30 : decode cX11_setUsed 30 = .ok (.invokevirtual 166, 3) := by decide +kernel
theorem dX11_setUsed_33 : decode cX11_setUsed 33 = .ok (.ireturn, 1) := by decide +kernel
theorem dX11_setTime_0 : decode cX11_setTime 0 = .ok (.aload_n 0, 1) := by decide +kernel
theorem dX11_setTime_1 : decode cX11_setTime 1 = .ok (.iload_n 1, 1) := by decide +kernel
theorem dX11_setTime_2 : decode cX11_setTime 2 = .ok (.invokevirtual 159, 3) := by decide +kernel
theorem dX11_setTime_5 : decode cX11_setTime 5 = .ok (.lload_n 2, 1) := by decide +kernel
theorem dX11_setTime_6 : decode cX11_setTime 6 = .ok (.ldc2_w 169, 3) := by decide +kernel
theorem dX11_setTime_9 : decode cX11_setTime 9 = .ok (.lcmp, 1) := by decide +kernel
theorem dX11_setTime_10 : decode cX11_setTime 10 = .ok (.ifCond .eq 27, 3) := by decide +kernel
theorem dX11_setTime_13 : decode cX11_setTime 13 = .ok (.lload_n 2, 1) := by decide +kernel
theorem dX11_setTime_14 : decode cX11_setTime 14 = .ok (.lconst 0, 1) := by decide +kernel
theorem dX11_setTime_15 : decode cX11_setTime 15 = .ok (.lcmp, 1) := by decide +kernel
theorem dX11_setTime_16 : decode cX11_setTime 16 = .ok (.ifCond .lt 11, 3) := by decide +kernel
theorem dX11_setTime_19 : decode cX11_setTime 19 = .ok (.lload_n 2, 1) := by decide +kernel
theorem dX11_setTime_20 : decode cX11_setTime 20 = .ok (.ldc2_w 171, 3) := by decide +kernel
theorem dX11_setTime_23 : decode cX11_setTime 23 = .ok (.lcmp, 1) := by decide +kernel
theorem dX11_setTime_24 : decode cX11_setTime 24 = .ok (.ifCond .le 13, 3) := by decide +kernel
theorem dX11_setTime_27 : decode cX11_setTime 27 = .ok (.new 173, 3) := by decide +kernel
theorem dX11_setTime_30 : decode cX11_setTime 30 = .ok (.dup, 1) := by decide +kernel
theorem dX11_setTime_31 : decode cX11_setTime 31 = .ok (.ldc 175, 2) := by decide +kernel
theorem dX11_setTime_33 : decode cX11_setTime 33 = .ok (.invokespecial 177, 3) := by decide +kernel
theorem dX11_setTime_36 : decode cX11_setTime 36 = .ok (.athrow, 1) := by decide +kernel
theorem dX11_setTime_37 : decode cX11_setTime 37 = .ok (.aload_n 0, 1) := by decide +kernel
theorem dX11_setTime_38 : decode cX11_setTime 38 = .ok (.getfield 71, 3) := by decide +kernel
theorem dX11_setTime_41 : decode cX11_setTime 41 = .ok (.aload_n 0, 1) := by decide +kernel
theorem dX11_setTime_42 : decode cX11_setTime 42 = .ok (.getfield 10, 3) := by decide +kernel
theorem dX11_setTime_45 : decode cX11_setTime 45 = .ok (.invokevirtual 97, 3) := by decide +kernel
theorem dX11_setTime_48 : decode cX11_setTime 48 = .ok (.aload_n 0, 1) := by decide +kernel
theorem dX11_setTime_49 : decode cX11_setTime 49 = .ok (.getfield 10, 3) := by decide +kernel
theorem dX11_setTime_52 : decode cX11_setTime 52 = .ok (.getfield 178, 3) := by decide +kernel
theorem dX11_setTime_55 : decode cX11_setTime 55 = .ok (.iload_n 1, 1) := by decide +kernel
theorem dX11_setTime_56 : decode cX11_setTime 56 = .ok (.laload, 1) := by decide +kernel
theorem dX11_setTime_57 : decode cX11_setTime 57 = .ok (.lstore 4, 2) := by decide +kernel
theorem dX11_setTime_59 : decode cX11_setTime 59 = .ok (.aload_n 0, 1) := by decide +kernel
theorem dX11_setTime_60 : decode cX11_setTime 60 = .ok (.getfield 10, 3) := by decide +kernel
theorem dX11_setTime_63 : decode cX11_setTime 63 = .ok (.getfield 178, 3) := by decide +kernel
theorem dX11_setTime_66 : decode cX11_setTime 66 = .ok (.iload_n 1, 1) := by decide +kernel
theorem dX11_setTime_67 : decode cX11_setTime 67 = .ok (.lload_n 2, 1) := by decide +kernel
theorem dX11_setTime_68 : decode cX11_setTime 68 = .ok (.lastore, 1) := by decide +kernel
theorem dX11_setTime_69 : decode cX11_setTime 69 = .ok (.lload 4, 2) := by decide +kernel
theorem dX11_setTime_71 : decode cX11_setTime 71 = .ok (.lreturn, 1) := by decide +kernel
theorem dX11_observe_0 : decode cX11_observe 0 = .ok (.iload_n 1, 1) := by decide +kernel
theorem dX11_observe_1 : decode cX11_observe 1 = .ok (.iconst 0, 1) := by decide +kernel
theorem dX11_observe_2 : decode cX11_observe 2 = .ok (.sipush 1000, 3) := by decide +kernel
theorem dX11_observe_5 : decode cX11_observe 5 = .ok (.invokestatic 93, 3) := by decide +kernel
theorem dX11_observe_8 : decode cX11_observe 8 = .ok (.iload_n 2, 1) := by decide +kernel
theorem dX11_observe_9 : decode cX11_observe 9 = .ok (.iconst 0, 1) := by decide +kernel
theorem dX11_observe_10 : decode cX11_observe 10 = .ok (.ldc 182, 2) := by decide +kernel
theorem dX11_observe_12 : decode cX11_observe 12 = .ok (.invokestatic 93, 3) := by decide +kernel
theorem dX11_observe_15 : decode cX11_observe 15 = .ok (.aload_n 0, 1) := by decide +kernel
theorem dX11_observe_16 : decode cX11_observe 16 = .ok (.getfield 71, 3) := by decide +kernel
theorem dX11_observe_19 : decode cX11_observe 19 = .ok (.aload_n 0, 1) := by decide +kernel
theorem dX11_observe_20 : decode cX11_observe 20 = .ok (.getfield 10, 3) := by decide +kernel
theorem dX11_observe_23 : decode cX11_observe 23 = .ok (.invokevirtual 97, 3) := by decide +kernel
theorem dX11_observe_26 : decode cX11_observe 26 = .ok (.aload_n 0, 1) := by decide +kernel
theorem dX11_observe_27 : decode cX11_observe 27 = .ok (.getfield 55, 3) := by decide +kernel
theorem dX11_observe_30 : decode cX11_observe 30 = .ok (.iload_n 1, 1) := by decide +kernel
theorem dX11_observe_31 : decode cX11_observe 31 = .ok (.iload_n 2, 1) := by decide +kernel
theorem dX11_observe_32 : decode cX11_observe 32 = .ok (.invokevirtual 183, 3) := by decide +kernel
theorem dX11_observe_35 : decode cX11_observe 35 = .ok (.aload_n 0, 1) := by decide +kernel
theorem dX11_observe_36 : decode cX11_observe 36 = .ok (.getfield 10, 3) := by decide +kernel
theorem dX11_observe_39 : decode cX11_observe 39 = .ok (.getfield 153, 3) := by decide +kernel
theorem dX11_observe_42 : decode cX11_observe 42 = .ok (.ireturn, 1) := by decide +kernel
theorem dX11_setOrder_0 : decode cX11_setOrder 0 = .ok (.iload_n 1, 1) := by decide +kernel
theorem dX11_setOrder_1 : decode cX11_setOrder 1 = .ok (.iconst 1, 1) := by decide +kernel
theorem dX11_setOrder_2 : decode cX11_setOrder 2 = .ok (.sipush 2000, 3) := by decide +kernel
theorem dX11_setOrder_5 : decode cX11_setOrder 5 = .ok (.invokestatic 93, 3) := by decide +kernel
theorem dX11_setOrder_8 : decode cX11_setOrder 8 = .ok (.iload_n 2, 1) := by decide +kernel
theorem dX11_setOrder_9 : decode cX11_setOrder 9 = .ok (.iconst 0, 1) := by decide +kernel
theorem dX11_setOrder_10 : decode cX11_setOrder 10 = .ok (.iconst 3, 1) := by decide +kernel
theorem dX11_setOrder_11 : decode cX11_setOrder 11 = .ok (.invokestatic 93, 3) := by decide +kernel
theorem dX11_setOrder_14 : decode cX11_setOrder 14 = .ok (.iload_n 3, 1) := by decide +kernel
theorem dX11_setOrder_15 : decode cX11_setOrder 15 = .ok (.iconst 0, 1) := by decide +kernel
theorem dX11_setOrder_16 : decode cX11_setOrder 16 = .ok (.ldc 182, 2) := by decide +kernel
theorem dX11_setOrder_18 : decode cX11_setOrder 18 = .ok (.invokestatic 93, 3) := by decide +kernel
theorem dX11_setOrder_21 : decode cX11_setOrder 21 = .ok (.aload_n 0, 1) := by decide +kernel
theorem dX11_setOrder_22 : decode cX11_setOrder 22 = .ok (.getfield 71, 3) := by decide +kernel
theorem dX11_setOrder_25 : decode cX11_setOrder 25 = .ok (.aload_n 0, 1) := by decide +kernel
theorem dX11_setOrder_26 : decode cX11_setOrder 26 = .ok (.getfield 10, 3) := by decide +kernel
theorem dX11_setOrder_29 : decode cX11_setOrder 29 = .ok (.invokevirtual 97, 3) := by decide +kernel
theorem dX11_setOrder_32 : decode cX11_setOrder 32 = .ok (.aload_n 0, 1) := by decide +kernel
theorem dX11_setOrder_33 : decode cX11_setOrder 33 = .ok (.getfield 10, 3) := by decide +kernel
theorem dX11_setOrder_36 : decode cX11_setOrder 36 = .ok (.getfield 186, 3) := by decide +kernel
theorem dX11_setOrder_39 : decode cX11_setOrder 39 = .ok (.istore 4, 2) := by decide +kernel
theorem dX11_setOrder_41 : decode cX11_setOrder 41 = .ok (.aload_n 0, 1) := by decide +kernel
theorem dX11_setOrder_42 : decode cX11_setOrder 42 = .ok (.getfield 10, 3) := by decide +kernel
theorem dX11_setOrder_45 : decode cX11_setOrder 45 = .ok (.iload_n 1, 1) := by decide +kernel
theorem dX11_setOrder_46 : decode cX11_setOrder 46 = .ok (.putfield 186, 3) := by decide +kernel
theorem dX11_setOrder_49 : decode cX11_setOrder 49 = .ok (.aload_n 0, 1) := by decide +kernel
theorem dX11_setOrder_50 : decode cX11_setOrder 50 = .ok (.getfield 10, 3) := by decide +kernel
theorem dX11_setOrder_53 : decode cX11_setOrder 53 = .ok (.iload_n 2, 1) := by decide +kernel
theorem dX11_setOrder_54 : decode cX11_setOrder 54 = .ok (.putfield 189, 3) := by decide +kernel
theorem dX11_setOrder_57 : decode cX11_setOrder 57 = .ok (.aload_n 0, 1) := by decide +kernel
theorem dX11_setOrder_58 : decode cX11_setOrder 58 = .ok (.getfield 10, 3) := by decide +kernel
theorem dX11_setOrder_61 : decode cX11_setOrder 61 = .ok (.iload_n 3, 1) := by decide +kernel
theorem dX11_setOrder_62 : decode cX11_setOrder 62 = .ok (.i2l, 1) := by decide +kernel
theorem dX11_setOrder_63 : decode cX11_setOrder 63 = .ok (.putfield 192, 3) := by decide +kernel
theorem dX11_setOrder_66 : decode cX11_setOrder 66 = .ok (.iload 4, 2) := by decide +kernel
theorem dX11_setOrder_68 : decode cX11_setOrder 68 = .ok (.ireturn, 1) := by decide +kernel
theorem dX11_correct_0 : decode cX11_correct 0 = .ok (.aload_n 0, 1) := by decide +kernel
theorem dX11_correct_1 : decode cX11_correct 1 = .ok (.iload_n 1, 1) := by decide +kernel
theorem dX11_correct_2 : decode cX11_correct 2 = .ok (.invokevirtual 159, 3) := by decide +kernel
theorem dX11_correct_5 : decode cX11_correct 5 = .ok (.aload_n 0, 1) := by decide +kernel
theorem dX11_correct_6 : decode cX11_correct 6 = .ok (.iload_n 1, 1) := by decide +kernel
theorem dX11_correct_7 : decode cX11_correct 7 = .ok (.invokevirtual 196, 3) := by decide +kernel
theorem dX11_correct_10 : decode cX11_correct 10 = .ok (.aload_n 0, 1) := by decide +kernel
theorem dX11_correct_11 : decode cX11_correct 11 = .ok (.getfield 71, 3) := by decide +kernel
theorem dX11_correct_14 : decode cX11_correct 14 = .ok (.aload_n 0, 1) := by decide +kernel
theorem dX11_correct_15 : decode cX11_correct 15 = .ok (.getfield 10, 3) := by decide +kernel
theorem dX11_correct_18 : decode cX11_correct 18 = .ok (.invokevirtual 97, 3) := by decide +kernel
theorem dX11_correct_21 : decode cX11_correct 21 = .ok (.aload_n 0, 1) := by decide +kernel
theorem dX11_correct_22 : decode cX11_correct 22 = .ok (.getfield 55, 3) := by decide +kernel
theorem dX11_correct_25 : decode cX11_correct 25 = .ok (.iload_n 1, 1) := by decide +kernel
theorem dX11_correct_26 : decode cX11_correct 26 = .ok (.invokevirtual 199, 3) := by decide +kernel
theorem dX11_correct_29 : decode cX11_correct 29 = .ok (.ireturn, 1) := by decide +kernel
theorem dX11_sweep_0 : decode cX11_sweep 0 = .ok (.iload_n 1, 1) := by decide +kernel
theorem dX11_sweep_1 : decode cX11_sweep 1 = .ok (.iconst 1, 1) := by decide +kernel
theorem dX11_sweep_2 : decode cX11_sweep 2 = .ok (.bipush 20, 2) := by decide +kernel
theorem dX11_sweep_4 : decode cX11_sweep 4 = .ok (.invokestatic 93, 3) := by decide +kernel
theorem dX11_sweep_7 : decode cX11_sweep 7 = .ok (.aload_n 0, 1) := by decide +kernel
theorem dX11_sweep_8 : decode cX11_sweep 8 = .ok (.getfield 71, 3) := by decide +kernel
theorem dX11_sweep_11 : decode cX11_sweep 11 = .ok (.aload_n 0, 1) := by decide +kernel
theorem dX11_sweep_12 : decode cX11_sweep 12 = .ok (.getfield 10, 3) := by decide +kernel
theorem dX11_sweep_15 : decode cX11_sweep 15 = .ok (.invokevirtual 97, 3) := by decide +kernel
theorem dX11_sweep_18 : decode cX11_sweep 18 = .ok (.aload_n 0, 1) := by decide +kernel
theorem dX11_sweep_19 : decode cX11_sweep 19 = .ok (.getfield 64, 3) := by decide +kernel
theorem dX11_sweep_22 : decode cX11_sweep 22 = .ok (.iload_n 1, 1) := by decide +kernel
theorem dX11_sweep_23 : decode cX11_sweep 23 = .ok (.invokevirtual 203, 3) := by decide +kernel
theorem dX11_sweep_26 : decode cX11_sweep 26 = .ok (.ireturn, 1) := by decide +kernel
theorem dX11_smooth_0 : decode cX11_smooth 0 = .ok (.iload_n 1, 1) := by decide +kernel
theorem dX11_smooth_1 : decode cX11_smooth 1 = .ok (.iconst 1, 1) := by decide +kernel
theorem dX11_smooth_2 : decode cX11_smooth 2 = .ok (.bipush 100, 2) := by decide +kernel
theorem dX11_smooth_4 : decode cX11_smooth 4 = .ok (.invokestatic 93, 3) := by decide +kernel
theorem dX11_smooth_7 : decode cX11_smooth 7 = .ok (.aload_n 0, 1) := by decide +kernel
theorem dX11_smooth_8 : decode cX11_smooth 8 = .ok (.getfield 71, 3) := by decide +kernel
theorem dX11_smooth_11 : decode cX11_smooth 11 = .ok (.aload_n 0, 1) := by decide +kernel
theorem dX11_smooth_12 : decode cX11_smooth 12 = .ok (.getfield 10, 3) := by decide +kernel
theorem dX11_smooth_15 : decode cX11_smooth 15 = .ok (.invokevirtual 97, 3) := by decide +kernel
theorem dX11_smooth_18 : decode cX11_smooth 18 = .ok (.aload_n 0, 1) := by decide +kernel
theorem dX11_smooth_19 : decode cX11_smooth 19 = .ok (.getfield 55, 3) := by decide +kernel
theorem dX11_smooth_22 : decode cX11_smooth 22 = .ok (.iload_n 1, 1) := by decide +kernel
theorem dX11_smooth_23 : decode cX11_smooth 23 = .ok (.invokevirtual 206, 3) := by decide +kernel
theorem dX11_smooth_26 : decode cX11_smooth 26 = .ok (.ireturn, 1) := by decide +kernel
theorem dX11_fill_0 : decode cX11_fill 0 = .ok (.aload_n 0, 1) := by decide +kernel
theorem dX11_fill_1 : decode cX11_fill 1 = .ok (.getfield 71, 3) := by decide +kernel
theorem dX11_fill_4 : decode cX11_fill 4 = .ok (.aload_n 0, 1) := by decide +kernel
theorem dX11_fill_5 : decode cX11_fill 5 = .ok (.getfield 10, 3) := by decide +kernel
theorem dX11_fill_8 : decode cX11_fill 8 = .ok (.invokevirtual 97, 3) := by decide +kernel
theorem dX11_fill_11 : decode cX11_fill 11 = .ok (.aload_n 0, 1) := by decide +kernel
theorem dX11_fill_12 : decode cX11_fill 12 = .ok (.getfield 55, 3) := by decide +kernel
theorem dX11_fill_15 : decode cX11_fill 15 = .ok (.invokevirtual 209, 3) := by decide +kernel
theorem dX11_fill_18 : decode cX11_fill 18 = .ok (.ireturn, 1) := by decide +kernel
theorem dX11_ray_0 : decode cX11_ray 0 = .ok (.aload_n 0, 1) := by decide +kernel
theorem dX11_ray_1 : decode cX11_ray 1 = .ok (.iload_n 1, 1) := by decide +kernel
theorem dX11_ray_2 : decode cX11_ray 2 = .ok (.invokevirtual 159, 3) := by decide +kernel
theorem dX11_ray_5 : decode cX11_ray 5 = .ok (.iload_n 2, 1) := by decide +kernel
theorem dX11_ray_6 : decode cX11_ray 6 = .ok (.iconst 0, 1) := by decide +kernel
theorem dX11_ray_7 : decode cX11_ray 7 = .ok (.iconst 4, 1) := by decide +kernel
theorem dX11_ray_8 : decode cX11_ray 8 = .ok (.invokestatic 93, 3) := by decide +kernel
theorem dX11_ray_11 : decode cX11_ray 11 = .ok (.iload_n 2, 1) := by decide +kernel
theorem dX11_ray_12 : decode cX11_ray 12 = .ok (.tableswitch 87 0 3 #[32, 42, 52, 70], 32) := by decide +kernel
theorem dX11_ray_44 : decode cX11_ray 44 = .ok (.aload_n 0, 1) := by decide +kernel
theorem dX11_ray_45 : decode cX11_ray 45 = .ok (.getfield 10, 3) := by decide +kernel
theorem dX11_ray_48 : decode cX11_ray 48 = .ok (.getfield 212, 3) := by decide +kernel
theorem dX11_ray_51 : decode cX11_ray 51 = .ok (.iload_n 1, 1) := by decide +kernel
theorem dX11_ray_52 : decode cX11_ray 52 = .ok (.iaload, 1) := by decide +kernel
theorem dX11_ray_53 : decode cX11_ray 53 = .ok (.ireturn, 1) := by decide +kernel
theorem dX11_ray_54 : decode cX11_ray 54 = .ok (.aload_n 0, 1) := by decide +kernel
theorem dX11_ray_55 : decode cX11_ray 55 = .ok (.getfield 10, 3) := by decide +kernel
theorem dX11_ray_58 : decode cX11_ray 58 = .ok (.getfield 215, 3) := by decide +kernel
theorem dX11_ray_61 : decode cX11_ray 61 = .ok (.iload_n 1, 1) := by decide +kernel
theorem dX11_ray_62 : decode cX11_ray 62 = .ok (.iaload, 1) := by decide +kernel
theorem dX11_ray_63 : decode cX11_ray 63 = .ok (.ireturn, 1) := by decide +kernel
theorem dX11_ray_64 : decode cX11_ray 64 = .ok (.aload_n 0, 1) := by decide +kernel
theorem dX11_ray_65 : decode cX11_ray 65 = .ok (.getfield 10, 3) := by decide +kernel
theorem dX11_ray_68 : decode cX11_ray 68 = .ok (.getfield 162, 3) := by decide +kernel
theorem dX11_ray_71 : decode cX11_ray 71 = .ok (.iload_n 1, 1) := by decide +kernel
theorem dX11_ray_72 : decode cX11_ray 72 = .ok (.baload, 1) := by decide +kernel
theorem dX11_ray_73 : decode cX11_ray 73 = .ok (.ifCond .eq 7, 3) := by decide +kernel
theorem dX11_ray_76 : decode cX11_ray 76 = .ok (.iconst 1, 1) := by decide +kernel
theorem dX11_ray_77 : decode cX11_ray 77 = .ok (.goto 4, 3) := by decide +kernel
theorem dX11_ray_80 : decode cX11_ray 80 = .ok (.iconst 0, 1) := by decide +kernel
theorem dX11_ray_81 : decode cX11_ray 81 = .ok (.ireturn, 1) := by decide +kernel
theorem dX11_ray_82 : decode cX11_ray 82 = .ok (.aload_n 0, 1) := by decide +kernel
theorem dX11_ray_83 : decode cX11_ray 83 = .ok (.getfield 10, 3) := by decide +kernel
theorem dX11_ray_86 : decode cX11_ray 86 = .ok (.iload_n 1, 1) := by decide +kernel
theorem dX11_ray_87 : decode cX11_ray 87 = .ok (.invokevirtual 218, 3) := by decide +kernel
theorem dX11_ray_90 : decode cX11_ray 90 = .ok (.ifCond .eq 7, 3) := by decide +kernel
theorem dX11_ray_93 : decode cX11_ray 93 = .ok (.iconst 1, 1) := by decide +kernel
theorem dX11_ray_94 : decode cX11_ray 94 = .ok (.goto 4, 3) := by decide +kernel
theorem dX11_ray_97 : decode cX11_ray 97 = .ok (.iconst 0, 1) := by decide +kernel
theorem dX11_ray_98 : decode cX11_ray 98 = .ok (.ireturn, 1) := by decide +kernel
theorem dX11_ray_99 : decode cX11_ray 99 = .ok (.aload_n 0, 1) := by decide +kernel
theorem dX11_ray_100 : decode cX11_ray 100 = .ok (.getfield 37, 3) := by decide +kernel
theorem dX11_ray_103 : decode cX11_ray 103 = .ok (.iload_n 1, 1) := by decide +kernel
theorem dX11_ray_104 : decode cX11_ray 104 = .ok (.invokevirtual 222, 3) := by decide +kernel
theorem dX11_ray_107 : decode cX11_ray 107 = .ok (.pop2, 1) := by decide +kernel
theorem dX11_ray_108 : decode cX11_ray 108 = .ok (.aload_n 0, 1) := by decide +kernel
theorem dX11_ray_109 : decode cX11_ray 109 = .ok (.getfield 37, 3) := by decide +kernel
theorem dX11_ray_112 : decode cX11_ray 112 = .ok (.getfield 226, 3) := by decide +kernel
theorem dX11_ray_115 : decode cX11_ray 115 = .ok (.iload_n 1, 1) := by decide +kernel
theorem dX11_ray_116 : decode cX11_ray 116 = .ok (.iaload, 1) := by decide +kernel
theorem dX11_ray_117 : decode cX11_ray 117 = .ok (.ireturn, 1) := by decide +kernel
theorem dX11_time_0 : decode cX11_time 0 = .ok (.aload_n 0, 1) := by decide +kernel
theorem dX11_time_1 : decode cX11_time 1 = .ok (.iload_n 1, 1) := by decide +kernel
theorem dX11_time_2 : decode cX11_time 2 = .ok (.invokevirtual 159, 3) := by decide +kernel
theorem dX11_time_5 : decode cX11_time 5 = .ok (.iload_n 2, 1) := by decide +kernel
theorem dX11_time_6 : decode cX11_time 6 = .ok (.iconst 0, 1) := by decide +kernel
theorem dX11_time_7 : decode cX11_time 7 = .ok (.iconst 1, 1) := by decide +kernel
theorem dX11_time_8 : decode cX11_time 8 = .ok (.invokestatic 93, 3) := by decide +kernel
theorem dX11_time_11 : decode cX11_time 11 = .ok (.iload_n 2, 1) := by decide +kernel
theorem dX11_time_12 : decode cX11_time 12 = .ok (.iconst 1, 1) := by decide +kernel
theorem dX11_time_13 : decode cX11_time 13 = .ok (.if_icmp .ne 13, 3) := by decide +kernel
theorem dX11_time_16 : decode cX11_time 16 = .ok (.aload_n 0, 1) := by decide +kernel
theorem dX11_time_17 : decode cX11_time 17 = .ok (.getfield 10, 3) := by decide +kernel
theorem dX11_time_20 : decode cX11_time 20 = .ok (.getfield 178, 3) := by decide +kernel
theorem dX11_time_23 : decode cX11_time 23 = .ok (.iload_n 1, 1) := by decide +kernel
theorem dX11_time_24 : decode cX11_time 24 = .ok (.laload, 1) := by decide +kernel
theorem dX11_time_25 : decode cX11_time 25 = .ok (.lreturn, 1) := by decide +kernel
theorem dX11_time_26 : decode cX11_time 26 = .ok (.aload_n 0, 1) := by decide +kernel
theorem dX11_time_27 : decode cX11_time 27 = .ok (.getfield 37, 3) := by decide +kernel
theorem dX11_time_30 : decode cX11_time 30 = .ok (.iload_n 1, 1) := by decide +kernel
theorem dX11_time_31 : decode cX11_time 31 = .ok (.invokevirtual 222, 3) := by decide +kernel
theorem dX11_time_34 : decode cX11_time 34 = .ok (.lreturn, 1) := by decide +kernel
theorem dX11_residual_0 : decode cX11_residual 0 = .ok (.aload_n 0, 1) := by decide +kernel
theorem dX11_residual_1 : decode cX11_residual 1 = .ok (.iload_n 1, 1) := by decide +kernel
theorem dX11_residual_2 : decode cX11_residual 2 = .ok (.invokevirtual 159, 3) := by decide +kernel
theorem dX11_residual_5 : decode cX11_residual 5 = .ok (.aload_n 0, 1) := by decide +kernel
theorem dX11_residual_6 : decode cX11_residual 6 = .ok (.iload_n 1, 1) := by decide +kernel
theorem dX11_residual_7 : decode cX11_residual 7 = .ok (.invokevirtual 196, 3) := by decide +kernel
theorem dX11_residual_10 : decode cX11_residual 10 = .ok (.aload_n 0, 1) := by decide +kernel
theorem dX11_residual_11 : decode cX11_residual 11 = .ok (.getfield 10, 3) := by decide +kernel
theorem dX11_residual_14 : decode cX11_residual 14 = .ok (.getfield 178, 3) := by decide +kernel
theorem dX11_residual_17 : decode cX11_residual 17 = .ok (.iload_n 1, 1) := by decide +kernel
theorem dX11_residual_18 : decode cX11_residual 18 = .ok (.laload, 1) := by decide +kernel
theorem dX11_residual_19 : decode cX11_residual 19 = .ok (.aload_n 0, 1) := by decide +kernel
theorem dX11_residual_20 : decode cX11_residual 20 = .ok (.getfield 37, 3) := by decide +kernel
theorem dX11_residual_23 : decode cX11_residual 23 = .ok (.iload_n 1, 1) := by decide +kernel
theorem dX11_residual_24 : decode cX11_residual 24 = .ok (.invokevirtual 222, 3) := by decide +kernel
theorem dX11_residual_27 : decode cX11_residual 27 = .ok (.lsub, 1) := by decide +kernel
theorem dX11_residual_28 : decode cX11_residual 28 = .ok (.lreturn, 1) := by decide +kernel
theorem dX11_wayCell_0 : decode cX11_wayCell 0 = .ok (.aload_n 0, 1) := by decide +kernel
theorem dX11_wayCell_1 : decode cX11_wayCell 1 = .ok (.iload_n 1, 1) := by decide +kernel
theorem dX11_wayCell_2 : decode cX11_wayCell 2 = .ok (.invokevirtual 159, 3) := by decide +kernel
theorem dX11_wayCell_5 : decode cX11_wayCell 5 = .ok (.iload_n 2, 1) := by decide +kernel
theorem dX11_wayCell_6 : decode cX11_wayCell 6 = .ok (.ifCond .ge 13, 3) := by decide +kernel
theorem dX11_wayCell_9 : decode cX11_wayCell 9 = .ok (.new 173, 3) := by decide +kernel
theorem dX11_wayCell_12 : decode cX11_wayCell 12 = .ok (.dup, 1) := by decide +kernel
theorem dX11_wayCell_13 : decode cX11_wayCell 13 = .ok (.ldc 229, 2) := by decide +kernel
theorem dX11_wayCell_15 : decode cX11_wayCell 15 = .ok (.invokespecial 177, 3) := by decide +kernel
theorem dX11_wayCell_18 : decode cX11_wayCell 18 = .ok (.athrow, 1) := by decide +kernel
theorem dX11_wayCell_19 : decode cX11_wayCell 19 = .ok (.aload_n 0, 1) := by decide +kernel
theorem dX11_wayCell_20 : decode cX11_wayCell 20 = .ok (.getfield 37, 3) := by decide +kernel
theorem dX11_wayCell_23 : decode cX11_wayCell 23 = .ok (.iload_n 1, 1) := by decide +kernel
theorem dX11_wayCell_24 : decode cX11_wayCell 24 = .ok (.invokevirtual 222, 3) := by decide +kernel
theorem dX11_wayCell_27 : decode cX11_wayCell 27 = .ok (.pop2, 1) := by decide +kernel
theorem dX11_wayCell_28 : decode cX11_wayCell 28 = .ok (.iload_n 2, 1) := by decide +kernel
theorem dX11_wayCell_29 : decode cX11_wayCell 29 = .ok (.aload_n 0, 1) := by decide +kernel
theorem dX11_wayCell_30 : decode cX11_wayCell 30 = .ok (.getfield 37, 3) := by decide +kernel
theorem dX11_wayCell_33 : decode cX11_wayCell 33 = .ok (.getfield 226, 3) := by decide +kernel
theorem dX11_wayCell_36 : decode cX11_wayCell 36 = .ok (.iload_n 1, 1) := by decide +kernel
theorem dX11_wayCell_37 : decode cX11_wayCell 37 = .ok (.iaload, 1) := by decide +kernel
theorem dX11_wayCell_38 : decode cX11_wayCell 38 = .ok (.if_icmp .ge 17, 3) := by decide +kernel
theorem dX11_wayCell_41 : decode cX11_wayCell 41 = .ok (.aload_n 0, 1) := by decide +kernel
theorem dX11_wayCell_42 : decode cX11_wayCell 42 = .ok (.getfield 37, 3) := by decide +kernel
theorem dX11_wayCell_45 : decode cX11_wayCell 45 = .ok (.getfield 231, 3) := by decide +kernel
theorem dX11_wayCell_48 : decode cX11_wayCell 48 = .ok (.iload_n 1, 1) := by decide +kernel
theorem dX11_wayCell_49 : decode cX11_wayCell 49 = .ok (.aaload, 1) := by decide +kernel
theorem dX11_wayCell_50 : decode cX11_wayCell 50 = .ok (.iload_n 2, 1) := by decide +kernel
theorem dX11_wayCell_51 : decode cX11_wayCell 51 = .ok (.iaload, 1) := by decide +kernel
theorem dX11_wayCell_52 : decode cX11_wayCell 52 = .ok (.goto 4, 3) := by decide +kernel
theorem dX11_wayCell_55 : decode cX11_wayCell 55 = .ok (.iconst (-1), 1) := by decide +kernel
theorem dX11_wayCell_56 : decode cX11_wayCell 56 = .ok (.ireturn, 1) := by decide +kernel
theorem dX11_length_0 : decode cX11_length 0 = .ok (.aload_n 0, 1) := by decide +kernel
theorem dX11_length_1 : decode cX11_length 1 = .ok (.iload_n 1, 1) := by decide +kernel
theorem dX11_length_2 : decode cX11_length 2 = .ok (.invokevirtual 159, 3) := by decide +kernel
theorem dX11_length_5 : decode cX11_length 5 = .ok (.aload_n 0, 1) := by decide +kernel
theorem dX11_length_6 : decode cX11_length 6 = .ok (.iload_n 2, 1) := by decide +kernel
theorem dX11_length_7 : decode cX11_length 7 = .ok (.invokevirtual 111, 3) := by decide +kernel
theorem dX11_length_10 : decode cX11_length 10 = .ok (.aload_n 0, 1) := by decide +kernel
theorem dX11_length_11 : decode cX11_length 11 = .ok (.getfield 37, 3) := by decide +kernel
theorem dX11_length_14 : decode cX11_length 14 = .ok (.iload_n 1, 1) := by decide +kernel
theorem dX11_length_15 : decode cX11_length 15 = .ok (.invokevirtual 222, 3) := by decide +kernel
theorem dX11_length_18 : decode cX11_length 18 = .ok (.pop2, 1) := by decide +kernel
theorem dX11_length_19 : decode cX11_length 19 = .ok (.aload_n 0, 1) := by decide +kernel
theorem dX11_length_20 : decode cX11_length 20 = .ok (.getfield 37, 3) := by decide +kernel
theorem dX11_length_23 : decode cX11_length 23 = .ok (.getfield 235, 3) := by decide +kernel
theorem dX11_length_26 : decode cX11_length 26 = .ok (.iload_n 1, 1) := by decide +kernel
theorem dX11_length_27 : decode cX11_length 27 = .ok (.aaload, 1) := by decide +kernel
theorem dX11_length_28 : decode cX11_length 28 = .ok (.iload_n 2, 1) := by decide +kernel
theorem dX11_length_29 : decode cX11_length 29 = .ok (.iaload, 1) := by decide +kernel
theorem dX11_length_30 : decode cX11_length 30 = .ok (.ireturn, 1) := by decide +kernel
theorem dX11_least_0 : decode cX11_least 0 = .ok (.aload_n 0, 1) := by decide +kernel
theorem dX11_least_1 : decode cX11_least 1 = .ok (.iload_n 1, 1) := by decide +kernel
theorem dX11_least_2 : decode cX11_least 2 = .ok (.invokevirtual 111, 3) := by decide +kernel
theorem dX11_least_5 : decode cX11_least 5 = .ok (.aload_n 0, 1) := by decide +kernel
theorem dX11_least_6 : decode cX11_least 6 = .ok (.iload_n 2, 1) := by decide +kernel
theorem dX11_least_7 : decode cX11_least 7 = .ok (.invokevirtual 111, 3) := by decide +kernel
theorem dX11_least_10 : decode cX11_least 10 = .ok (.aload_n 0, 1) := by decide +kernel
theorem dX11_least_11 : decode cX11_least 11 = .ok (.getfield 28, 3) := by decide +kernel
theorem dX11_least_14 : decode cX11_least 14 = .ok (.iload_n 3, 1) := by decide +kernel
theorem dX11_least_15 : decode cX11_least 15 = .ok (.ifCond .eq 13, 3) := by decide +kernel
theorem dX11_least_18 : decode cX11_least 18 = .ok (.aload_n 0, 1) := by decide +kernel
theorem dX11_least_19 : decode cX11_least 19 = .ok (.getfield 10, 3) := by decide +kernel
theorem dX11_least_22 : decode cX11_least 22 = .ok (.getfield 123, 3) := by decide +kernel
theorem dX11_least_25 : decode cX11_least 25 = .ok (.goto 10, 3) := by decide +kernel
theorem dX11_least_28 : decode cX11_least 28 = .ok (.aload_n 0, 1) := by decide +kernel
theorem dX11_least_29 : decode cX11_least 29 = .ok (.getfield 10, 3) := by decide +kernel
theorem dX11_least_32 : decode cX11_least 32 = .ok (.getfield 116, 3) := by decide +kernel
theorem dX11_least_35 : decode cX11_least 35 = .ok (.iload_n 1, 1) := by decide +kernel
theorem dX11_least_36 : decode cX11_least 36 = .ok (.iload_n 2, 1) := by decide +kernel
theorem dX11_least_37 : decode cX11_least 37 = .ok (.invokevirtual 238, 3) := by decide +kernel
theorem dX11_least_40 : decode cX11_least 40 = .ok (.lreturn, 1) := by decide +kernel
theorem dX11_cell_0 : decode cX11_cell 0 = .ok (.aload_n 0, 1) := by decide +kernel
theorem dX11_cell_1 : decode cX11_cell 1 = .ok (.iload_n 1, 1) := by decide +kernel
theorem dX11_cell_2 : decode cX11_cell 2 = .ok (.invokevirtual 111, 3) := by decide +kernel
theorem dX11_cell_5 : decode cX11_cell 5 = .ok (.iload_n 2, 1) := by decide +kernel
theorem dX11_cell_6 : decode cX11_cell 6 = .ok (.iconst 0, 1) := by decide +kernel
theorem dX11_cell_7 : decode cX11_cell 7 = .ok (.iconst 3, 1) := by decide +kernel
theorem dX11_cell_8 : decode cX11_cell 8 = .ok (.invokestatic 93, 3) := by decide +kernel
theorem dX11_cell_11 : decode cX11_cell 11 = .ok (.iload_n 2, 1) := by decide +kernel
theorem dX11_cell_12 : decode cX11_cell 12 = .ok (.tableswitch 57 0 2 #[28, 38, 48], 28) := by decide +kernel
theorem dX11_cell_40 : decode cX11_cell 40 = .ok (.aload_n 0, 1) := by decide +kernel
theorem dX11_cell_41 : decode cX11_cell 41 = .ok (.getfield 10, 3) := by decide +kernel
theorem dX11_cell_44 : decode cX11_cell 44 = .ok (.getfield 116, 3) := by decide +kernel
theorem dX11_cell_47 : decode cX11_cell 47 = .ok (.iload_n 1, 1) := by decide +kernel
theorem dX11_cell_48 : decode cX11_cell 48 = .ok (.iaload, 1) := by decide +kernel
theorem dX11_cell_49 : decode cX11_cell 49 = .ok (.ireturn, 1) := by decide +kernel
theorem dX11_cell_50 : decode cX11_cell 50 = .ok (.aload_n 0, 1) := by decide +kernel
theorem dX11_cell_51 : decode cX11_cell 51 = .ok (.getfield 10, 3) := by decide +kernel
theorem dX11_cell_54 : decode cX11_cell 54 = .ok (.getfield 123, 3) := by decide +kernel
theorem dX11_cell_57 : decode cX11_cell 57 = .ok (.iload_n 1, 1) := by decide +kernel
theorem dX11_cell_58 : decode cX11_cell 58 = .ok (.iaload, 1) := by decide +kernel
theorem dX11_cell_59 : decode cX11_cell 59 = .ok (.ireturn, 1) := by decide +kernel
theorem dX11_cell_60 : decode cX11_cell 60 = .ok (.aload_n 0, 1) := by decide +kernel
theorem dX11_cell_61 : decode cX11_cell 61 = .ok (.getfield 46, 3) := by decide +kernel
theorem dX11_cell_64 : decode cX11_cell 64 = .ok (.iload_n 1, 1) := by decide +kernel
theorem dX11_cell_65 : decode cX11_cell 65 = .ok (.invokevirtual 242, 3) := by decide +kernel
theorem dX11_cell_68 : decode cX11_cell 68 = .ok (.ireturn, 1) := by decide +kernel
theorem dX11_cell_69 : decode cX11_cell 69 = .ok (.aload_n 0, 1) := by decide +kernel
theorem dX11_cell_70 : decode cX11_cell 70 = .ok (.getfield 46, 3) := by decide +kernel
theorem dX11_cell_73 : decode cX11_cell 73 = .ok (.iload_n 1, 1) := by decide +kernel
theorem dX11_cell_74 : decode cX11_cell 74 = .ok (.invokevirtual 245, 3) := by decide +kernel
theorem dX11_cell_77 : decode cX11_cell 77 = .ok (.ireturn, 1) := by decide +kernel
theorem dX11_section_0 : decode cX11_section 0 = .ok (.iload_n 1, 1) := by decide +kernel
theorem dX11_section_1 : decode cX11_section 1 = .ok (.iconst 0, 1) := by decide +kernel
theorem dX11_section_2 : decode cX11_section 2 = .ok (.bipush 8, 2) := by decide +kernel
theorem dX11_section_4 : decode cX11_section 4 = .ok (.invokestatic 93, 3) := by decide +kernel
theorem dX11_section_7 : decode cX11_section 7 = .ok (.iload_n 1, 1) := by decide +kernel
theorem dX11_section_8 : decode cX11_section 8 = .ok (.tableswitch 112 0 7 #[48, 56, 64, 72, 80, 88, 96, 104], 48) := by decide +kernel
theorem dX11_section_56 : decode cX11_section 56 = .ok (.aload_n 0, 1) := by decide +kernel
theorem dX11_section_57 : decode cX11_section 57 = .ok (.getfield 10, 3) := by decide +kernel
theorem dX11_section_60 : decode cX11_section 60 = .ok (.getfield 82, 3) := by decide +kernel
theorem dX11_section_63 : decode cX11_section 63 = .ok (.ireturn, 1) := by decide +kernel
theorem dX11_section_64 : decode cX11_section 64 = .ok (.aload_n 0, 1) := by decide +kernel
theorem dX11_section_65 : decode cX11_section 65 = .ok (.getfield 10, 3) := by decide +kernel
theorem dX11_section_68 : decode cX11_section 68 = .ok (.getfield 86, 3) := by decide +kernel
theorem dX11_section_71 : decode cX11_section 71 = .ok (.ireturn, 1) := by decide +kernel
theorem dX11_section_72 : decode cX11_section 72 = .ok (.aload_n 0, 1) := by decide +kernel
theorem dX11_section_73 : decode cX11_section 73 = .ok (.getfield 10, 3) := by decide +kernel
theorem dX11_section_76 : decode cX11_section 76 = .ok (.getfield 153, 3) := by decide +kernel
theorem dX11_section_79 : decode cX11_section 79 = .ok (.ireturn, 1) := by decide +kernel
theorem dX11_section_80 : decode cX11_section 80 = .ok (.aload_n 0, 1) := by decide +kernel
theorem dX11_section_81 : decode cX11_section 81 = .ok (.getfield 46, 3) := by decide +kernel
theorem dX11_section_84 : decode cX11_section 84 = .ok (.invokevirtual 166, 3) := by decide +kernel
theorem dX11_section_87 : decode cX11_section 87 = .ok (.ireturn, 1) := by decide +kernel
theorem dX11_section_88 : decode cX11_section 88 = .ok (.aload_n 0, 1) := by decide +kernel
theorem dX11_section_89 : decode cX11_section 89 = .ok (.getfield 46, 3) := by decide +kernel
theorem dX11_section_92 : decode cX11_section 92 = .ok (.invokevirtual 248, 3) := by decide +kernel
theorem dX11_section_95 : decode cX11_section 95 = .ok (.ireturn, 1) := by decide +kernel
theorem dX11_section_96 : decode cX11_section 96 = .ok (.aload_n 0, 1) := by decide +kernel
theorem dX11_section_97 : decode cX11_section 97 = .ok (.getfield 10, 3) := by decide +kernel
theorem dX11_section_100 : decode cX11_section 100 = .ok (.getfield 130, 3) := by decide +kernel
theorem dX11_section_103 : decode cX11_section 103 = .ok (.ireturn, 1) := by decide +kernel
theorem dX11_section_104 : decode cX11_section 104 = .ok (.aload_n 0, 1) := by decide +kernel
theorem dX11_section_105 : decode cX11_section 105 = .ok (.getfield 10, 3) := by decide +kernel
theorem dX11_section_108 : decode cX11_section 108 = .ok (.getfield 133, 3) := by decide +kernel
theorem dX11_section_111 : decode cX11_section 111 = .ok (.ireturn, 1) := by decide +kernel
theorem dX11_section_112 : decode cX11_section 112 = .ok (.aload_n 0, 1) := by decide +kernel
theorem dX11_section_113 : decode cX11_section 113 = .ok (.getfield 10, 3) := by decide +kernel
theorem dX11_section_116 : decode cX11_section 116 = .ok (.getfield 186, 3) := by decide +kernel
theorem dX11_section_119 : decode cX11_section 119 = .ok (.ireturn, 1) := by decide +kernel
theorem dX11_section_120 : decode cX11_section 120 = .ok (.aload_n 0, 1) := by decide +kernel
theorem dX11_section_121 : decode cX11_section 121 = .ok (.getfield 10, 3) := by decide +kernel
theorem dX11_section_124 : decode cX11_section 124 = .ok (.getfield 189, 3) := by decide +kernel
theorem dX11_section_127 : decode cX11_section 127 = .ok (.ireturn, 1) := by decide +kernel
theorem dX11_fit_0 : decode cX11_fit 0 = .ok (.iload_n 1, 1) := by decide +kernel
theorem dX11_fit_1 : decode cX11_fit 1 = .ok (.iconst 0, 1) := by decide +kernel
theorem dX11_fit_2 : decode cX11_fit 2 = .ok (.iconst 4, 1) := by decide +kernel
theorem dX11_fit_3 : decode cX11_fit 3 = .ok (.invokestatic 93, 3) := by decide +kernel
theorem dX11_fit_6 : decode cX11_fit 6 = .ok (.iload_n 1, 1) := by decide +kernel
theorem dX11_fit_7 : decode cX11_fit 7 = .ok (.tableswitch 62 0 3 #[29, 37, 45, 54], 29) := by decide +kernel
theorem dX11_fit_36 : decode cX11_fit 36 = .ok (.aload_n 0, 1) := by decide +kernel
theorem dX11_fit_37 : decode cX11_fit 37 = .ok (.getfield 46, 3) := by decide +kernel
theorem dX11_fit_40 : decode cX11_fit 40 = .ok (.invokevirtual 251, 3) := by decide +kernel
theorem dX11_fit_43 : decode cX11_fit 43 = .ok (.lreturn, 1) := by decide +kernel
theorem dX11_fit_44 : decode cX11_fit 44 = .ok (.aload_n 0, 1) := by decide +kernel
theorem dX11_fit_45 : decode cX11_fit 45 = .ok (.getfield 46, 3) := by decide +kernel
theorem dX11_fit_48 : decode cX11_fit 48 = .ok (.invokevirtual 255, 3) := by decide +kernel
theorem dX11_fit_51 : decode cX11_fit 51 = .ok (.lreturn, 1) := by decide +kernel
theorem dX11_fit_52 : decode cX11_fit 52 = .ok (.aload_n 0, 1) := by decide +kernel
theorem dX11_fit_53 : decode cX11_fit 53 = .ok (.getfield 46, 3) := by decide +kernel
theorem dX11_fit_56 : decode cX11_fit 56 = .ok (.invokevirtual 258, 3) := by decide +kernel
theorem dX11_fit_59 : decode cX11_fit 59 = .ok (.i2l, 1) := by decide +kernel
theorem dX11_fit_60 : decode cX11_fit 60 = .ok (.lreturn, 1) := by decide +kernel
theorem dX11_fit_61 : decode cX11_fit 61 = .ok (.aload_n 0, 1) := by decide +kernel
theorem dX11_fit_62 : decode cX11_fit 62 = .ok (.getfield 46, 3) := by decide +kernel
theorem dX11_fit_65 : decode cX11_fit 65 = .ok (.invokevirtual 261, 3) := by decide +kernel
theorem dX11_fit_68 : decode cX11_fit 68 = .ok (.lreturn, 1) := by decide +kernel
theorem dX11_fit_69 : decode cX11_fit 69 = .ok (.aload_n 0, 1) := by decide +kernel
theorem dX11_fit_70 : decode cX11_fit 70 = .ok (.getfield 46, 3) := by decide +kernel
theorem dX11_fit_73 : decode cX11_fit 73 = .ok (.invokevirtual 264, 3) := by decide +kernel
theorem dX11_fit_76 : decode cX11_fit 76 = .ok (.lreturn, 1) := by decide +kernel
theorem dX11_whatIf_0 : decode cX11_whatIf 0 = .ok (.aload_n 0, 1) := by decide +kernel
theorem dX11_whatIf_1 : decode cX11_whatIf 1 = .ok (.iload_n 1, 1) := by decide +kernel
theorem dX11_whatIf_2 : decode cX11_whatIf 2 = .ok (.invokevirtual 159, 3) := by decide +kernel
theorem dX11_whatIf_5 : decode cX11_whatIf 5 = .ok (.aload_n 0, 1) := by decide +kernel
theorem dX11_whatIf_6 : decode cX11_whatIf 6 = .ok (.iload_n 2, 1) := by decide +kernel
theorem dX11_whatIf_7 : decode cX11_whatIf 7 = .ok (.invokevirtual 111, 3) := by decide +kernel
theorem dX11_whatIf_10 : decode cX11_whatIf 10 = .ok (.iload_n 3, 1) := by decide +kernel
theorem dX11_whatIf_11 : decode cX11_whatIf 11 = .ok (.iconst 1, 1) := by decide +kernel
theorem dX11_whatIf_12 : decode cX11_whatIf 12 = .ok (.ldc 115, 2) := by decide +kernel
theorem dX11_whatIf_14 : decode cX11_whatIf 14 = .ok (.invokestatic 93, 3) := by decide +kernel
theorem dX11_whatIf_17 : decode cX11_whatIf 17 = .ok (.aload_n 0, 1) := by decide +kernel
theorem dX11_whatIf_18 : decode cX11_whatIf 18 = .ok (.getfield 37, 3) := by decide +kernel
theorem dX11_whatIf_21 : decode cX11_whatIf 21 = .ok (.iload_n 1, 1) := by decide +kernel
theorem dX11_whatIf_22 : decode cX11_whatIf 22 = .ok (.iload_n 2, 1) := by decide +kernel
theorem dX11_whatIf_23 : decode cX11_whatIf 23 = .ok (.iload_n 3, 1) := by decide +kernel
theorem dX11_whatIf_24 : decode cX11_whatIf 24 = .ok (.invokevirtual 267, 3) := by decide +kernel
theorem dX11_whatIf_27 : decode cX11_whatIf 27 = .ok (.lreturn, 1) := by decide +kernel
theorem dX11_type_0 : decode cX11_type 0 = .ok (.iload_n 1, 1) := by decide +kernel
theorem dX11_type_1 : decode cX11_type 1 = .ok (.iconst 0, 1) := by decide +kernel
theorem dX11_type_2 : decode cX11_type 2 = .ok (.bipush 127, 2) := by decide +kernel
theorem dX11_type_4 : decode cX11_type 4 = .ok (.invokestatic 93, 3) := by decide +kernel
theorem dX11_type_7 : decode cX11_type 7 = .ok (.aload_n 0, 1) := by decide +kernel
theorem dX11_type_8 : decode cX11_type 8 = .ok (.getfield 78, 3) := by decide +kernel
theorem dX11_type_11 : decode cX11_type 11 = .ok (.getfield 271, 3) := by decide +kernel
theorem dX11_type_14 : decode cX11_type 14 = .ok (.bipush 120, 2) := by decide +kernel
theorem dX11_type_16 : decode cX11_type 16 = .ok (.if_icmp .lt 14, 3) := by decide +kernel
theorem dX11_type_19 : decode cX11_type 19 = .ok (.new 146, 3) := by decide +kernel
theorem dX11_type_22 : decode cX11_type 22 = .ok (.dup, 1) := by decide +kernel
theorem dX11_type_23 : decode cX11_type 23 = .ok (.ldc_w 274, 3) := by decide +kernel
theorem dX11_type_26 : decode cX11_type 26 = .ok (.invokespecial 150, 3) := by decide +kernel
theorem dX11_type_29 : decode cX11_type 29 = .ok (.athrow, 1) := by decide +kernel
theorem dX11_type_30 : decode cX11_type 30 = .ok (.aload_n 0, 1) := by decide +kernel
theorem dX11_type_31 : decode cX11_type 31 = .ok (.getfield 78, 3) := by decide +kernel
theorem dX11_type_34 : decode cX11_type 34 = .ok (.iload_n 1, 1) := by decide +kernel
theorem dX11_type_35 : decode cX11_type 35 = .ok (.invokevirtual 276, 3) := by decide +kernel
theorem dX11_type_38 : decode cX11_type 38 = .ok (.aload_n 0, 1) := by decide +kernel
theorem dX11_type_39 : decode cX11_type 39 = .ok (.getfield 78, 3) := by decide +kernel
theorem dX11_type_42 : decode cX11_type 42 = .ok (.getfield 271, 3) := by decide +kernel
theorem dX11_type_45 : decode cX11_type 45 = .ok (.ireturn, 1) := by decide +kernel
theorem dX11_clearScript_0 : decode cX11_clearScript 0 = .ok (.aload_n 0, 1) := by decide +kernel
theorem dX11_clearScript_1 : decode cX11_clearScript 1 = .ok (.getfield 78, 3) := by decide +kernel
theorem dX11_clearScript_4 : decode cX11_clearScript 4 = .ok (.getfield 271, 3) := by decide +kernel
theorem dX11_clearScript_7 : decode cX11_clearScript 7 = .ok (.istore_n 1, 1) := by decide +kernel
theorem dX11_clearScript_8 : decode cX11_clearScript 8 = .ok (.aload_n 0, 1) := by decide +kernel
theorem dX11_clearScript_9 : decode cX11_clearScript 9 = .ok (.getfield 78, 3) := by decide +kernel
theorem dX11_clearScript_12 : decode cX11_clearScript 12 = .ok (.iconst 0, 1) := by decide +kernel
theorem dX11_clearScript_13 : decode cX11_clearScript 13 = .ok (.putfield 271, 3) := by decide +kernel
theorem dX11_clearScript_16 : decode cX11_clearScript 16 = .ok (.iload_n 1, 1) := by decide +kernel
theorem dX11_clearScript_17 : decode cX11_clearScript 17 = .ok (.ireturn, 1) := by decide +kernel
theorem dX11_run_0 : decode cX11_run 0 = .ok (.aload_n 0, 1) := by decide +kernel
theorem dX11_run_1 : decode cX11_run 1 = .ok (.getfield 78, 3) := by decide +kernel
theorem dX11_run_4 : decode cX11_run 4 = .ok (.invokevirtual 279, 3) := by decide +kernel
theorem dX11_run_7 : decode cX11_run 7 = .ok (.istore_n 1, 1) := by decide +kernel
theorem dX11_run_8 : decode cX11_run 8 = .ok (.iload_n 1, 1) := by decide +kernel
theorem dX11_run_9 : decode cX11_run 9 = .ok (.iconst (-1), 1) := by decide +kernel
theorem dX11_run_10 : decode cX11_run 10 = .ok (.if_icmp .eq 8, 3) := by decide +kernel
theorem dX11_run_13 : decode cX11_run 13 = .ok (.bipush (-10), 2) := by decide +kernel
theorem dX11_run_15 : decode cX11_run 15 = .ok (.iload_n 1, 1) := by decide +kernel
theorem dX11_run_16 : decode cX11_run 16 = .ok (.isub, 1) := by decide +kernel
theorem dX11_run_17 : decode cX11_run 17 = .ok (.ireturn, 1) := by decide +kernel
theorem dX11_run_18 : decode cX11_run 18 = .ok (.aload_n 0, 1) := by decide +kernel
theorem dX11_run_19 : decode cX11_run 19 = .ok (.getfield 71, 3) := by decide +kernel
theorem dX11_run_22 : decode cX11_run 22 = .ok (.aload_n 0, 1) := by decide +kernel
theorem dX11_run_23 : decode cX11_run 23 = .ok (.getfield 10, 3) := by decide +kernel
theorem dX11_run_26 : decode cX11_run 26 = .ok (.invokevirtual 97, 3) := by decide +kernel
theorem dX11_run_29 : decode cX11_run 29 = .ok (.iconst 0, 1) := by decide +kernel
theorem dX11_run_30 : decode cX11_run 30 = .ok (.istore_n 2, 1) := by decide +kernel
theorem dX11_run_31 : decode cX11_run 31 = .ok (.iload_n 2, 1) := by decide +kernel
theorem dX11_run_32 : decode cX11_run 32 = .ok (.aload_n 0, 1) := by decide +kernel
theorem dX11_run_33 : decode cX11_run 33 = .ok (.getfield 78, 3) := by decide +kernel
theorem dX11_run_36 : decode cX11_run 36 = .ok (.getfield 282, 3) := by decide +kernel
theorem dX11_run_39 : decode cX11_run 39 = .ok (.if_icmp .ge 17, 3) := by decide +kernel
theorem dX11_run_42 : decode cX11_run 42 = .ok (.aload_n 0, 1) := by decide +kernel
theorem dX11_run_43 : decode cX11_run 43 = .ok (.iload_n 2, 1) := by decide +kernel
theorem dX11_run_44 : decode cX11_run 44 = .ok (.invokevirtual 285, 3) := by decide +kernel
theorem dX11_run_47 : decode cX11_run 47 = .ok (.ifCond .eq 9, 3) := by decide +kernel
theorem dX11_run_50 : decode cX11_run 50 = .ok (.iinc 2 1, 3) := by decide +kernel
theorem dX11_run_53 : decode cX11_run 53 = .ok (.goto (-22), 3) := by decide +kernel
theorem dX11_run_56 : decode cX11_run 56 = .ok (.iload_n 2, 1) := by decide +kernel
theorem dX11_run_57 : decode cX11_run 57 = .ok (.ireturn, 1) := by decide +kernel
theorem dX11_undo_0 : decode cX11_undo 0 = .ok (.aload_n 0, 1) := by decide +kernel
theorem dX11_undo_1 : decode cX11_undo 1 = .ok (.getfield 71, 3) := by decide +kernel
theorem dX11_undo_4 : decode cX11_undo 4 = .ok (.getfield 288, 3) := by decide +kernel
theorem dX11_undo_7 : decode cX11_undo 7 = .ok (.ifCond .ne 14, 3) := by decide +kernel
theorem dX11_undo_10 : decode cX11_undo 10 = .ok (.new 146, 3) := by decide +kernel
theorem dX11_undo_13 : decode cX11_undo 13 = .ok (.dup, 1) := by decide +kernel
theorem dX11_undo_14 : decode cX11_undo 14 = .ok (.ldc_w 291, 3) := by decide +kernel
theorem dX11_undo_17 : decode cX11_undo 17 = .ok (.invokespecial 150, 3) := by decide +kernel
theorem dX11_undo_20 : decode cX11_undo 20 = .ok (.athrow, 1) := by decide +kernel
theorem dX11_undo_21 : decode cX11_undo 21 = .ok (.aload_n 0, 1) := by decide +kernel
theorem dX11_undo_22 : decode cX11_undo 22 = .ok (.getfield 71, 3) := by decide +kernel
theorem dX11_undo_25 : decode cX11_undo 25 = .ok (.aload_n 0, 1) := by decide +kernel
theorem dX11_undo_26 : decode cX11_undo 26 = .ok (.getfield 10, 3) := by decide +kernel
theorem dX11_undo_29 : decode cX11_undo 29 = .ok (.invokevirtual 293, 3) := by decide +kernel
theorem dX11_undo_32 : decode cX11_undo 32 = .ok (.aload_n 0, 1) := by decide +kernel
theorem dX11_undo_33 : decode cX11_undo 33 = .ok (.invokevirtual 104, 3) := by decide +kernel
theorem dX11_undo_36 : decode cX11_undo 36 = .ok (.aload_n 0, 1) := by decide +kernel
theorem dX11_undo_37 : decode cX11_undo 37 = .ok (.getfield 71, 3) := by decide +kernel
theorem dX11_undo_40 : decode cX11_undo 40 = .ok (.getfield 288, 3) := by decide +kernel
theorem dX11_undo_43 : decode cX11_undo 43 = .ok (.ireturn, 1) := by decide +kernel
theorem dX11_digest_0 : decode cX11_digest 0 = .ok (.ldc2_w 296, 3) := by decide +kernel
theorem dX11_digest_3 : decode cX11_digest 3 = .ok (.lstore_n 1, 1) := by decide +kernel
theorem dX11_digest_4 : decode cX11_digest 4 = .ok (.ldc2_w 298, 3) := by decide +kernel
theorem dX11_digest_7 : decode cX11_digest 7 = .ok (.lload_n 1, 1) := by decide +kernel
theorem dX11_digest_8 : decode cX11_digest 8 = .ok (.lmul, 1) := by decide +kernel
theorem dX11_digest_9 : decode cX11_digest 9 = .ok (.aload_n 0, 1) := by decide +kernel
theorem dX11_digest_10 : decode cX11_digest 10 = .ok (.getfield 71, 3) := by decide +kernel
theorem dX11_digest_13 : decode cX11_digest 13 = .ok (.getfield 288, 3) := by decide +kernel
theorem dX11_digest_16 : decode cX11_digest 16 = .ok (.i2l, 1) := by decide +kernel
theorem dX11_digest_17 : decode cX11_digest 17 = .ok (.ladd, 1) := by decide +kernel
theorem dX11_digest_18 : decode cX11_digest 18 = .ok (.lstore_n 1, 1) := by decide +kernel
theorem dX11_digest_19 : decode cX11_digest 19 = .ok (.ldc2_w 298, 3) := by decide +kernel
theorem dX11_digest_22 : decode cX11_digest 22 = .ok (.lload_n 1, 1) := by decide +kernel
theorem dX11_digest_23 : decode cX11_digest 23 = .ok (.lmul, 1) := by decide +kernel
theorem dX11_digest_24 : decode cX11_digest 24 = .ok (.aload_n 0, 1) := by decide +kernel
theorem dX11_digest_25 : decode cX11_digest 25 = .ok (.getfield 78, 3) := by decide +kernel
theorem dX11_digest_28 : decode cX11_digest 28 = .ok (.getfield 271, 3) := by decide +kernel
theorem dX11_digest_31 : decode cX11_digest 31 = .ok (.i2l, 1) := by decide +kernel
theorem dX11_digest_32 : decode cX11_digest 32 = .ok (.ladd, 1) := by decide +kernel
theorem dX11_digest_33 : decode cX11_digest 33 = .ok (.lstore_n 1, 1) := by decide +kernel
theorem dX11_digest_34 : decode cX11_digest 34 = .ok (.iconst 0, 1) := by decide +kernel
theorem dX11_digest_35 : decode cX11_digest 35 = .ok (.istore_n 3, 1) := by decide +kernel
theorem dX11_digest_36 : decode cX11_digest 36 = .ok (.iload_n 3, 1) := by decide +kernel
theorem dX11_digest_37 : decode cX11_digest 37 = .ok (.bipush 9, 2) := by decide +kernel
theorem dX11_digest_39 : decode cX11_digest 39 = .ok (.if_icmp .ge 22, 3) := by decide +kernel
theorem dX11_digest_42 : decode cX11_digest 42 = .ok (.ldc2_w 298, 3) := by decide +kernel
theorem dX11_digest_45 : decode cX11_digest 45 = .ok (.lload_n 1, 1) := by decide +kernel
theorem dX11_digest_46 : decode cX11_digest 46 = .ok (.lmul, 1) := by decide +kernel
theorem dX11_digest_47 : decode cX11_digest 47 = .ok (.aload_n 0, 1) := by decide +kernel
theorem dX11_digest_48 : decode cX11_digest 48 = .ok (.iload_n 3, 1) := by decide +kernel
theorem dX11_digest_49 : decode cX11_digest 49 = .ok (.invokevirtual 300, 3) := by decide +kernel
theorem dX11_digest_52 : decode cX11_digest 52 = .ok (.i2l, 1) := by decide +kernel
theorem dX11_digest_53 : decode cX11_digest 53 = .ok (.ladd, 1) := by decide +kernel
theorem dX11_digest_54 : decode cX11_digest 54 = .ok (.lstore_n 1, 1) := by decide +kernel
theorem dX11_digest_55 : decode cX11_digest 55 = .ok (.iinc 3 1, 3) := by decide +kernel
theorem dX11_digest_58 : decode cX11_digest 58 = .ok (.goto (-22), 3) := by decide +kernel
theorem dX11_digest_61 : decode cX11_digest 61 = .ok (.ldc2_w 298, 3) := by decide +kernel
theorem dX11_digest_64 : decode cX11_digest 64 = .ok (.lload_n 1, 1) := by decide +kernel
theorem dX11_digest_65 : decode cX11_digest 65 = .ok (.lmul, 1) := by decide +kernel
theorem dX11_digest_66 : decode cX11_digest 66 = .ok (.aload_n 0, 1) := by decide +kernel
theorem dX11_digest_67 : decode cX11_digest 67 = .ok (.getfield 10, 3) := by decide +kernel
theorem dX11_digest_70 : decode cX11_digest 70 = .ok (.getfield 192, 3) := by decide +kernel
theorem dX11_digest_73 : decode cX11_digest 73 = .ok (.ladd, 1) := by decide +kernel
theorem dX11_digest_74 : decode cX11_digest 74 = .ok (.lstore_n 1, 1) := by decide +kernel
theorem dX11_digest_75 : decode cX11_digest 75 = .ok (.aload_n 0, 1) := by decide +kernel
theorem dX11_digest_76 : decode cX11_digest 76 = .ok (.lload_n 1, 1) := by decide +kernel
theorem dX11_digest_77 : decode cX11_digest 77 = .ok (.invokevirtual 303, 3) := by decide +kernel
theorem dX11_digest_80 : decode cX11_digest 80 = .ok (.lstore_n 1, 1) := by decide +kernel
theorem dX11_digest_81 : decode cX11_digest 81 = .ok (.aload_n 0, 1) := by decide +kernel
theorem dX11_digest_82 : decode cX11_digest 82 = .ok (.lload_n 1, 1) := by decide +kernel
theorem dX11_digest_83 : decode cX11_digest 83 = .ok (.invokevirtual 307, 3) := by decide +kernel
theorem dX11_digest_86 : decode cX11_digest 86 = .ok (.lstore_n 1, 1) := by decide +kernel
theorem dX11_digest_87 : decode cX11_digest 87 = .ok (.iconst 0, 1) := by decide +kernel
theorem dX11_digest_88 : decode cX11_digest 88 = .ok (.istore_n 3, 1) := by decide +kernel
theorem dX11_digest_89 : decode cX11_digest 89 = .ok (.iload_n 3, 1) := by decide +kernel
theorem dX11_digest_90 : decode cX11_digest 90 = .ok (.iconst 5, 1) := by decide +kernel
theorem dX11_digest_91 : decode cX11_digest 91 = .ok (.if_icmp .ge 21, 3) := by decide +kernel
theorem dX11_digest_94 : decode cX11_digest 94 = .ok (.ldc2_w 298, 3) := by decide +kernel
theorem dX11_digest_97 : decode cX11_digest 97 = .ok (.lload_n 1, 1) := by decide +kernel
theorem dX11_digest_98 : decode cX11_digest 98 = .ok (.lmul, 1) := by decide +kernel
theorem dX11_digest_99 : decode cX11_digest 99 = .ok (.aload_n 0, 1) := by decide +kernel
theorem dX11_digest_100 : decode cX11_digest 100 = .ok (.iload_n 3, 1) := by decide +kernel
theorem dX11_digest_101 : decode cX11_digest 101 = .ok (.invokevirtual 310, 3) := by decide +kernel
theorem dX11_digest_104 : decode cX11_digest 104 = .ok (.ladd, 1) := by decide +kernel
theorem dX11_digest_105 : decode cX11_digest 105 = .ok (.lstore_n 1, 1) := by decide +kernel
theorem dX11_digest_106 : decode cX11_digest 106 = .ok (.iinc 3 1, 3) := by decide +kernel
theorem dX11_digest_109 : decode cX11_digest 109 = .ok (.goto (-20), 3) := by decide +kernel
theorem dX11_digest_112 : decode cX11_digest 112 = .ok (.lload_n 1, 1) := by decide +kernel
theorem dX11_digest_113 : decode cX11_digest 113 = .ok (.lreturn, 1) := by decide +kernel
theorem dX11_hashCells_0 : decode cX11_hashCells 0 = .ok (.lload_n 1, 1) := by decide +kernel
theorem dX11_hashCells_1 : decode cX11_hashCells 1 = .ok (.lstore_n 3, 1) := by decide +kernel
theorem dX11_hashCells_2 : decode cX11_hashCells 2 = .ok (.iconst 0, 1) := by decide +kernel
theorem dX11_hashCells_3 : decode cX11_hashCells 3 = .ok (.istore 5, 2) := by decide +kernel
theorem dX11_hashCells_5 : decode cX11_hashCells 5 = .ok (.iload 5, 2) := by decide +kernel
theorem dX11_hashCells_7 : decode cX11_hashCells 7 = .ok (.aload_n 0, 1) := by decide +kernel
theorem dX11_hashCells_8 : decode cX11_hashCells 8 = .ok (.getfield 10, 3) := by decide +kernel
theorem dX11_hashCells_11 : decode cX11_hashCells 11 = .ok (.invokevirtual 107, 3) := by decide +kernel
theorem dX11_hashCells_14 : decode cX11_hashCells 14 = .ok (.if_icmp .ge 40, 3) := by decide +kernel
theorem dX11_hashCells_17 : decode cX11_hashCells 17 = .ok (.iconst 0, 1) := by decide +kernel
theorem dX11_hashCells_18 : decode cX11_hashCells 18 = .ok (.istore 6, 2) := by decide +kernel
theorem dX11_hashCells_20 : decode cX11_hashCells 20 = .ok (.iload 6, 2) := by decide +kernel
theorem dX11_hashCells_22 : decode cX11_hashCells 22 = .ok (.iconst 4, 1) := by decide +kernel
theorem dX11_hashCells_23 : decode cX11_hashCells 23 = .ok (.if_icmp .ge 25, 3) := by decide +kernel
theorem dX11_hashCells_26 : decode cX11_hashCells 26 = .ok (.ldc2_w 298, 3) := by decide +kernel
theorem dX11_hashCells_29 : decode cX11_hashCells 29 = .ok (.lload_n 3, 1) := by decide +kernel
theorem dX11_hashCells_30 : decode cX11_hashCells 30 = .ok (.lmul, 1) := by decide +kernel
theorem dX11_hashCells_31 : decode cX11_hashCells 31 = .ok (.aload_n 0, 1) := by decide +kernel
theorem dX11_hashCells_32 : decode cX11_hashCells 32 = .ok (.iload 5, 2) := by decide +kernel
theorem dX11_hashCells_34 : decode cX11_hashCells 34 = .ok (.iload 6, 2) := by decide +kernel
theorem dX11_hashCells_36 : decode cX11_hashCells 36 = .ok (.invokevirtual 313, 3) := by decide +kernel
theorem dX11_hashCells_39 : decode cX11_hashCells 39 = .ok (.i2l, 1) := by decide +kernel
theorem dX11_hashCells_40 : decode cX11_hashCells 40 = .ok (.ladd, 1) := by decide +kernel
theorem dX11_hashCells_41 : decode cX11_hashCells 41 = .ok (.lstore_n 3, 1) := by decide +kernel
theorem dX11_hashCells_42 : decode cX11_hashCells 42 = .ok (.iinc 6 1, 3) := by decide +kernel
theorem dX11_hashCells_45 : decode cX11_hashCells 45 = .ok (.goto (-25), 3) := by decide +kernel
theorem dX11_hashCells_48 : decode cX11_hashCells 48 = .ok (.iinc 5 1, 3) := by decide +kernel
theorem dX11_hashCells_51 : decode cX11_hashCells 51 = .ok (.goto (-46), 3) := by decide +kernel
theorem dX11_hashCells_54 : decode cX11_hashCells 54 = .ok (.lload_n 3, 1) := by decide +kernel
theorem dX11_hashCells_55 : decode cX11_hashCells 55 = .ok (.lreturn, 1) := by decide +kernel
theorem dX11_hashRays_0 : decode cX11_hashRays 0 = .ok (.lload_n 1, 1) := by decide +kernel
theorem dX11_hashRays_1 : decode cX11_hashRays 1 = .ok (.lstore_n 3, 1) := by decide +kernel
theorem dX11_hashRays_2 : decode cX11_hashRays 2 = .ok (.iconst 0, 1) := by decide +kernel
theorem dX11_hashRays_3 : decode cX11_hashRays 3 = .ok (.istore 5, 2) := by decide +kernel
theorem dX11_hashRays_5 : decode cX11_hashRays 5 = .ok (.iload 5, 2) := by decide +kernel
theorem dX11_hashRays_7 : decode cX11_hashRays 7 = .ok (.aload_n 0, 1) := by decide +kernel
theorem dX11_hashRays_8 : decode cX11_hashRays 8 = .ok (.getfield 10, 3) := by decide +kernel
theorem dX11_hashRays_11 : decode cX11_hashRays 11 = .ok (.getfield 153, 3) := by decide +kernel
theorem dX11_hashRays_14 : decode cX11_hashRays 14 = .ok (.if_icmp .ge 115, 3) := by decide +kernel
theorem dX11_hashRays_17 : decode cX11_hashRays 17 = .ok (.iconst 0, 1) := by decide +kernel
theorem dX11_hashRays_18 : decode cX11_hashRays 18 = .ok (.istore 6, 2) := by decide +kernel
theorem dX11_hashRays_20 : decode cX11_hashRays 20 = .ok (.iload 6, 2) := by decide +kernel
theorem dX11_hashRays_22 : decode cX11_hashRays 22 = .ok (.iconst 5, 1) := by decide +kernel
theorem dX11_hashRays_23 : decode cX11_hashRays 23 = .ok (.if_icmp .ge 25, 3) := by decide +kernel
theorem dX11_hashRays_26 : decode cX11_hashRays 26 = .ok (.ldc2_w 298, 3) := by decide +kernel
theorem dX11_hashRays_29 : decode cX11_hashRays 29 = .ok (.lload_n 3, 1) := by decide +kernel
theorem dX11_hashRays_30 : decode cX11_hashRays 30 = .ok (.lmul, 1) := by decide +kernel
theorem dX11_hashRays_31 : decode cX11_hashRays 31 = .ok (.aload_n 0, 1) := by decide +kernel
theorem dX11_hashRays_32 : decode cX11_hashRays 32 = .ok (.iload 5, 2) := by decide +kernel
theorem dX11_hashRays_34 : decode cX11_hashRays 34 = .ok (.iload 6, 2) := by decide +kernel
theorem dX11_hashRays_36 : decode cX11_hashRays 36 = .ok (.invokevirtual 317, 3) := by decide +kernel
theorem dX11_hashRays_39 : decode cX11_hashRays 39 = .ok (.i2l, 1) := by decide +kernel
theorem dX11_hashRays_40 : decode cX11_hashRays 40 = .ok (.ladd, 1) := by decide +kernel
theorem dX11_hashRays_41 : decode cX11_hashRays 41 = .ok (.lstore_n 3, 1) := by decide +kernel
theorem dX11_hashRays_42 : decode cX11_hashRays 42 = .ok (.iinc 6 1, 3) := by decide +kernel
theorem dX11_hashRays_45 : decode cX11_hashRays 45 = .ok (.goto (-25), 3) := by decide +kernel
theorem dX11_hashRays_48 : decode cX11_hashRays 48 = .ok (.iconst 0, 1) := by decide +kernel
theorem dX11_hashRays_49 : decode cX11_hashRays 49 = .ok (.istore 6, 2) := by decide +kernel
theorem dX11_hashRays_51 : decode cX11_hashRays 51 = .ok (.iload 6, 2) := by decide +kernel
theorem dX11_hashRays_53 : decode cX11_hashRays 53 = .ok (.iconst 2, 1) := by decide +kernel
theorem dX11_hashRays_54 : decode cX11_hashRays 54 = .ok (.if_icmp .ge 24, 3) := by decide +kernel
theorem dX11_hashRays_57 : decode cX11_hashRays 57 = .ok (.ldc2_w 298, 3) := by decide +kernel
theorem dX11_hashRays_60 : decode cX11_hashRays 60 = .ok (.lload_n 3, 1) := by decide +kernel
theorem dX11_hashRays_61 : decode cX11_hashRays 61 = .ok (.lmul, 1) := by decide +kernel
theorem dX11_hashRays_62 : decode cX11_hashRays 62 = .ok (.aload_n 0, 1) := by decide +kernel
theorem dX11_hashRays_63 : decode cX11_hashRays 63 = .ok (.iload 5, 2) := by decide +kernel
theorem dX11_hashRays_65 : decode cX11_hashRays 65 = .ok (.iload 6, 2) := by decide +kernel
theorem dX11_hashRays_67 : decode cX11_hashRays 67 = .ok (.invokevirtual 320, 3) := by decide +kernel
theorem dX11_hashRays_70 : decode cX11_hashRays 70 = .ok (.ladd, 1) := by decide +kernel
theorem dX11_hashRays_71 : decode cX11_hashRays 71 = .ok (.lstore_n 3, 1) := by decide +kernel
theorem dX11_hashRays_72 : decode cX11_hashRays 72 = .ok (.iinc 6 1, 3) := by decide +kernel
theorem dX11_hashRays_75 : decode cX11_hashRays 75 = .ok (.goto (-24), 3) := by decide +kernel
theorem dX11_hashRays_78 : decode cX11_hashRays 78 = .ok (.iconst 0, 1) := by decide +kernel
theorem dX11_hashRays_79 : decode cX11_hashRays 79 = .ok (.istore 6, 2) := by decide +kernel
theorem dX11_hashRays_81 : decode cX11_hashRays 81 = .ok (.iload 6, 2) := by decide +kernel
theorem dX11_hashRays_83 : decode cX11_hashRays 83 = .ok (.aload_n 0, 1) := by decide +kernel
theorem dX11_hashRays_84 : decode cX11_hashRays 84 = .ok (.getfield 37, 3) := by decide +kernel
theorem dX11_hashRays_87 : decode cX11_hashRays 87 = .ok (.getfield 226, 3) := by decide +kernel
theorem dX11_hashRays_90 : decode cX11_hashRays 90 = .ok (.iload 5, 2) := by decide +kernel
theorem dX11_hashRays_92 : decode cX11_hashRays 92 = .ok (.iaload, 1) := by decide +kernel
theorem dX11_hashRays_93 : decode cX11_hashRays 93 = .ok (.if_icmp .ge 30, 3) := by decide +kernel
theorem dX11_hashRays_96 : decode cX11_hashRays 96 = .ok (.ldc2_w 298, 3) := by decide +kernel
theorem dX11_hashRays_99 : decode cX11_hashRays 99 = .ok (.lload_n 3, 1) := by decide +kernel
theorem dX11_hashRays_100 : decode cX11_hashRays 100 = .ok (.lmul, 1) := by decide +kernel
theorem dX11_hashRays_101 : decode cX11_hashRays 101 = .ok (.aload_n 0, 1) := by decide +kernel
theorem dX11_hashRays_102 : decode cX11_hashRays 102 = .ok (.getfield 37, 3) := by decide +kernel
theorem dX11_hashRays_105 : decode cX11_hashRays 105 = .ok (.getfield 231, 3) := by decide +kernel
theorem dX11_hashRays_108 : decode cX11_hashRays 108 = .ok (.iload 5, 2) := by decide +kernel
theorem dX11_hashRays_110 : decode cX11_hashRays 110 = .ok (.aaload, 1) := by decide +kernel
theorem dX11_hashRays_111 : decode cX11_hashRays 111 = .ok (.iload 6, 2) := by decide +kernel
theorem dX11_hashRays_113 : decode cX11_hashRays 113 = .ok (.iaload, 1) := by decide +kernel
theorem dX11_hashRays_114 : decode cX11_hashRays 114 = .ok (.i2l, 1) := by decide +kernel
theorem dX11_hashRays_115 : decode cX11_hashRays 115 = .ok (.ladd, 1) := by decide +kernel
theorem dX11_hashRays_116 : decode cX11_hashRays 116 = .ok (.lstore_n 3, 1) := by decide +kernel
theorem dX11_hashRays_117 : decode cX11_hashRays 117 = .ok (.iinc 6 1, 3) := by decide +kernel
theorem dX11_hashRays_120 : decode cX11_hashRays 120 = .ok (.goto (-39), 3) := by decide +kernel
theorem dX11_hashRays_123 : decode cX11_hashRays 123 = .ok (.iinc 5 1, 3) := by decide +kernel
theorem dX11_hashRays_126 : decode cX11_hashRays 126 = .ok (.goto (-121), 3) := by decide +kernel
theorem dX11_hashRays_129 : decode cX11_hashRays 129 = .ok (.lload_n 3, 1) := by decide +kernel
theorem dX11_hashRays_130 : decode cX11_hashRays 130 = .ok (.lreturn, 1) := by decide +kernel
theorem dX11_isWithin_0 : decode cX11_isWithin 0 = .ok (.iload_n 0, 1) := by decide +kernel
theorem dX11_isWithin_1 : decode cX11_isWithin 1 = .ok (.iload_n 1, 1) := by decide +kernel
theorem dX11_isWithin_2 : decode cX11_isWithin 2 = .ok (.if_icmp .lt 12, 3) := by decide +kernel
theorem dX11_isWithin_5 : decode cX11_isWithin 5 = .ok (.iload_n 0, 1) := by decide +kernel
theorem dX11_isWithin_6 : decode cX11_isWithin 6 = .ok (.iload_n 2, 1) := by decide +kernel
theorem dX11_isWithin_7 : decode cX11_isWithin 7 = .ok (.if_icmp .gt 7, 3) := by decide +kernel
theorem dX11_isWithin_10 : decode cX11_isWithin 10 = .ok (.iconst 1, 1) := by decide +kernel
theorem dX11_isWithin_11 : decode cX11_isWithin 11 = .ok (.goto 4, 3) := by decide +kernel
theorem dX11_isWithin_14 : decode cX11_isWithin 14 = .ok (.iconst 0, 1) := by decide +kernel
theorem dX11_isWithin_15 : decode cX11_isWithin 15 = .ok (.ireturn, 1) := by decide +kernel
theorem dX11_isCell_0 : decode cX11_isCell 0 = .ok (.iload_n 1, 1) := by decide +kernel
theorem dX11_isCell_1 : decode cX11_isCell 1 = .ok (.iconst 0, 1) := by decide +kernel
theorem dX11_isCell_2 : decode cX11_isCell 2 = .ok (.aload_n 0, 1) := by decide +kernel
theorem dX11_isCell_3 : decode cX11_isCell 3 = .ok (.getfield 10, 3) := by decide +kernel
theorem dX11_isCell_6 : decode cX11_isCell 6 = .ok (.invokevirtual 107, 3) := by decide +kernel
theorem dX11_isCell_9 : decode cX11_isCell 9 = .ok (.iconst 1, 1) := by decide +kernel
theorem dX11_isCell_10 : decode cX11_isCell 10 = .ok (.isub, 1) := by decide +kernel
theorem dX11_isCell_11 : decode cX11_isCell 11 = .ok (.invokestatic 324, 3) := by decide +kernel
theorem dX11_isCell_14 : decode cX11_isCell 14 = .ok (.ireturn, 1) := by decide +kernel
theorem dX11_isRow_0 : decode cX11_isRow 0 = .ok (.iload_n 1, 1) := by decide +kernel
theorem dX11_isRow_1 : decode cX11_isRow 1 = .ok (.iconst 0, 1) := by decide +kernel
theorem dX11_isRow_2 : decode cX11_isRow 2 = .ok (.aload_n 0, 1) := by decide +kernel
theorem dX11_isRow_3 : decode cX11_isRow 3 = .ok (.getfield 10, 3) := by decide +kernel
theorem dX11_isRow_6 : decode cX11_isRow 6 = .ok (.getfield 86, 3) := by decide +kernel
theorem dX11_isRow_9 : decode cX11_isRow 9 = .ok (.iconst 1, 1) := by decide +kernel
theorem dX11_isRow_10 : decode cX11_isRow 10 = .ok (.isub, 1) := by decide +kernel
theorem dX11_isRow_11 : decode cX11_isRow 11 = .ok (.invokestatic 324, 3) := by decide +kernel
theorem dX11_isRow_14 : decode cX11_isRow 14 = .ok (.ireturn, 1) := by decide +kernel
theorem dX11_isRay_0 : decode cX11_isRay 0 = .ok (.iload_n 1, 1) := by decide +kernel
theorem dX11_isRay_1 : decode cX11_isRay 1 = .ok (.iconst 0, 1) := by decide +kernel
theorem dX11_isRay_2 : decode cX11_isRay 2 = .ok (.aload_n 0, 1) := by decide +kernel
theorem dX11_isRay_3 : decode cX11_isRay 3 = .ok (.getfield 10, 3) := by decide +kernel
theorem dX11_isRay_6 : decode cX11_isRay 6 = .ok (.getfield 153, 3) := by decide +kernel
theorem dX11_isRay_9 : decode cX11_isRay 9 = .ok (.iconst 1, 1) := by decide +kernel
theorem dX11_isRay_10 : decode cX11_isRay 10 = .ok (.isub, 1) := by decide +kernel
theorem dX11_isRay_11 : decode cX11_isRay 11 = .ok (.invokestatic 324, 3) := by decide +kernel
theorem dX11_isRay_14 : decode cX11_isRay 14 = .ok (.ireturn, 1) := by decide +kernel
theorem dX11_hasRoomForRay_0 : decode cX11_hasRoomForRay 0 = .ok (.aload_n 0, 1) := by decide +kernel
theorem dX11_hasRoomForRay_1 : decode cX11_hasRoomForRay 1 = .ok (.getfield 10, 3) := by decide +kernel
theorem dX11_hasRoomForRay_4 : decode cX11_hasRoomForRay 4 = .ok (.getfield 153, 3) := by decide +kernel
theorem dX11_hasRoomForRay_7 : decode cX11_hasRoomForRay 7 = .ok (.bipush 16, 2) := by decide +kernel
theorem dX11_hasRoomForRay_9 : decode cX11_hasRoomForRay 9 = .ok (.if_icmp .ge 7, 3) := by decide +kernel
theorem dX11_hasRoomForRay_12 : decode cX11_hasRoomForRay 12 = .ok (.iconst 1, 1) := by decide +kernel
theorem dX11_hasRoomForRay_13 : decode cX11_hasRoomForRay 13 = .ok (.goto 4, 3) := by decide +kernel
theorem dX11_hasRoomForRay_16 : decode cX11_hasRoomForRay 16 = .ok (.iconst 0, 1) := by decide +kernel
theorem dX11_hasRoomForRay_17 : decode cX11_hasRoomForRay 17 = .ok (.ireturn, 1) := by decide +kernel
theorem dX11_needRange_0 : decode cX11_needRange 0 = .ok (.iload_n 0, 1) := by decide +kernel
theorem dX11_needRange_1 : decode cX11_needRange 1 = .ok (.iload_n 1, 1) := by decide +kernel
theorem dX11_needRange_2 : decode cX11_needRange 2 = .ok (.iload_n 2, 1) := by decide +kernel
theorem dX11_needRange_3 : decode cX11_needRange 3 = .ok (.invokestatic 324, 3) := by decide +kernel
theorem dX11_needRange_6 : decode cX11_needRange 6 = .ok (.ifCond .ne 14, 3) := by decide +kernel
theorem dX11_needRange_9 : decode cX11_needRange 9 = .ok (.new 173, 3) := by decide +kernel
theorem dX11_needRange_12 : decode cX11_needRange 12 = .ok (.dup, 1) := by decide +kernel
theorem dX11_needRange_13 : decode cX11_needRange 13 = .ok (.ldc_w 328, 3) := by decide +kernel
theorem dX11_needRange_16 : decode cX11_needRange 16 = .ok (.invokespecial 177, 3) := by decide +kernel
theorem dX11_needRange_19 : decode cX11_needRange 19 = .ok (.athrow, 1) := by decide +kernel
theorem dX11_needRange_20 : decode cX11_needRange 20 = .ok (.return_, 1) := by decide +kernel
theorem dX11_needCell_0 : decode cX11_needCell 0 = .ok (.aload_n 0, 1) := by decide +kernel
theorem dX11_needCell_1 : decode cX11_needCell 1 = .ok (.iload_n 1, 1) := by decide +kernel
theorem dX11_needCell_2 : decode cX11_needCell 2 = .ok (.invokevirtual 330, 3) := by decide +kernel
theorem dX11_needCell_5 : decode cX11_needCell 5 = .ok (.ifCond .ne 14, 3) := by decide +kernel
theorem dX11_needCell_8 : decode cX11_needCell 8 = .ok (.new 333, 3) := by decide +kernel
theorem dX11_needCell_11 : decode cX11_needCell 11 = .ok (.dup, 1) := by decide +kernel
theorem dX11_needCell_12 : decode cX11_needCell 12 = .ok (.ldc_w 335, 3) := by decide +kernel
theorem dX11_needCell_15 : decode cX11_needCell 15 = .ok (.invokespecial 337, 3) := by decide +kernel
theorem dX11_needCell_18 : decode cX11_needCell 18 = .ok (.athrow, 1) := by decide +kernel
theorem dX11_needCell_19 : decode cX11_needCell 19 = .ok (.return_, 1) := by decide +kernel
theorem dX11_needRow_0 : decode cX11_needRow 0 = .ok (.aload_n 0, 1) := by decide +kernel
theorem dX11_needRow_1 : decode cX11_needRow 1 = .ok (.iload_n 1, 1) := by decide +kernel
theorem dX11_needRow_2 : decode cX11_needRow 2 = .ok (.invokevirtual 338, 3) := by decide +kernel
theorem dX11_needRow_5 : decode cX11_needRow 5 = .ok (.ifCond .ne 14, 3) := by decide +kernel
theorem dX11_needRow_8 : decode cX11_needRow 8 = .ok (.new 333, 3) := by decide +kernel
theorem dX11_needRow_11 : decode cX11_needRow 11 = .ok (.dup, 1) := by decide +kernel
theorem dX11_needRow_12 : decode cX11_needRow 12 = .ok (.ldc_w 341, 3) := by decide +kernel
theorem dX11_needRow_15 : decode cX11_needRow 15 = .ok (.invokespecial 337, 3) := by decide +kernel
theorem dX11_needRow_18 : decode cX11_needRow 18 = .ok (.athrow, 1) := by decide +kernel
theorem dX11_needRow_19 : decode cX11_needRow 19 = .ok (.return_, 1) := by decide +kernel
theorem dX11_needRay_0 : decode cX11_needRay 0 = .ok (.aload_n 0, 1) := by decide +kernel
theorem dX11_needRay_1 : decode cX11_needRay 1 = .ok (.iload_n 1, 1) := by decide +kernel
theorem dX11_needRay_2 : decode cX11_needRay 2 = .ok (.invokevirtual 343, 3) := by decide +kernel
theorem dX11_needRay_5 : decode cX11_needRay 5 = .ok (.ifCond .ne 14, 3) := by decide +kernel
theorem dX11_needRay_8 : decode cX11_needRay 8 = .ok (.new 333, 3) := by decide +kernel
theorem dX11_needRay_11 : decode cX11_needRay 11 = .ok (.dup, 1) := by decide +kernel
theorem dX11_needRay_12 : decode cX11_needRay 12 = .ok (.ldc_w 346, 3) := by decide +kernel
theorem dX11_needRay_15 : decode cX11_needRay 15 = .ok (.invokespecial 337, 3) := by decide +kernel
theorem dX11_needRay_18 : decode cX11_needRay 18 = .ok (.athrow, 1) := by decide +kernel
theorem dX11_needRay_19 : decode cX11_needRay 19 = .ok (.return_, 1) := by decide +kernel
theorem dX11_needObserved_0 : decode cX11_needObserved 0 = .ok (.aload_n 0, 1) := by decide +kernel
theorem dX11_needObserved_1 : decode cX11_needObserved 1 = .ok (.getfield 10, 3) := by decide +kernel
theorem dX11_needObserved_4 : decode cX11_needObserved 4 = .ok (.getfield 178, 3) := by decide +kernel
theorem dX11_needObserved_7 : decode cX11_needObserved 7 = .ok (.iload_n 1, 1) := by decide +kernel
theorem dX11_needObserved_8 : decode cX11_needObserved 8 = .ok (.laload, 1) := by decide +kernel
theorem dX11_needObserved_9 : decode cX11_needObserved 9 = .ok (.ldc2_w 169, 3) := by decide +kernel
theorem dX11_needObserved_12 : decode cX11_needObserved 12 = .ok (.lcmp, 1) := by decide +kernel
theorem dX11_needObserved_13 : decode cX11_needObserved 13 = .ok (.ifCond .ne 14, 3) := by decide +kernel
theorem dX11_needObserved_16 : decode cX11_needObserved 16 = .ok (.new 146, 3) := by decide +kernel
theorem dX11_needObserved_19 : decode cX11_needObserved 19 = .ok (.dup, 1) := by decide +kernel
theorem dX11_needObserved_20 : decode cX11_needObserved 20 = .ok (.ldc_w 348, 3) := by decide +kernel
theorem dX11_needObserved_23 : decode cX11_needObserved 23 = .ok (.invokespecial 150, 3) := by decide +kernel
theorem dX11_needObserved_26 : decode cX11_needObserved 26 = .ok (.athrow, 1) := by decide +kernel
theorem dX11_needObserved_27 : decode cX11_needObserved 27 = .ok (.return_, 1) := by decide +kernel
theorem dX11_layOut_0 : decode cX11_layOut 0 = .ok (.aload_n 0, 1) := by decide +kernel
theorem dX11_layOut_1 : decode cX11_layOut 1 = .ok (.getfield 19, 3) := by decide +kernel
theorem dX11_layOut_4 : decode cX11_layOut 4 = .ok (.aload_n 0, 1) := by decide +kernel
theorem dX11_layOut_5 : decode cX11_layOut 5 = .ok (.getfield 10, 3) := by decide +kernel
theorem dX11_layOut_8 : decode cX11_layOut 8 = .ok (.getfield 82, 3) := by decide +kernel
theorem dX11_layOut_11 : decode cX11_layOut 11 = .ok (.aload_n 0, 1) := by decide +kernel
theorem dX11_layOut_12 : decode cX11_layOut 12 = .ok (.getfield 10, 3) := by decide +kernel
theorem dX11_layOut_15 : decode cX11_layOut 15 = .ok (.getfield 86, 3) := by decide +kernel
theorem dX11_layOut_18 : decode cX11_layOut 18 = .ok (.invokevirtual 89, 3) := by decide +kernel
theorem dX11_layOut_21 : decode cX11_layOut 21 = .ok (.aload_n 0, 1) := by decide +kernel
theorem dX11_layOut_22 : decode cX11_layOut 22 = .ok (.getfield 37, 3) := by decide +kernel
theorem dX11_layOut_25 : decode cX11_layOut 25 = .ok (.invokevirtual 350, 3) := by decide +kernel
theorem dX11_layOut_28 : decode cX11_layOut 28 = .ok (.return_, 1) := by decide +kernel
theorem dX11_appendRay_0 : decode cX11_appendRay 0 = .ok (.aload_n 0, 1) := by decide +kernel
theorem dX11_appendRay_1 : decode cX11_appendRay 1 = .ok (.getfield 10, 3) := by decide +kernel
theorem dX11_appendRay_4 : decode cX11_appendRay 4 = .ok (.getfield 153, 3) := by decide +kernel
theorem dX11_appendRay_7 : decode cX11_appendRay 7 = .ok (.istore_n 3, 1) := by decide +kernel
theorem dX11_appendRay_8 : decode cX11_appendRay 8 = .ok (.aload_n 0, 1) := by decide +kernel
theorem dX11_appendRay_9 : decode cX11_appendRay 9 = .ok (.getfield 10, 3) := by decide +kernel
theorem dX11_appendRay_12 : decode cX11_appendRay 12 = .ok (.getfield 212, 3) := by decide +kernel
theorem dX11_appendRay_15 : decode cX11_appendRay 15 = .ok (.iload_n 3, 1) := by decide +kernel
theorem dX11_appendRay_16 : decode cX11_appendRay 16 = .ok (.iload_n 1, 1) := by decide +kernel
theorem dX11_appendRay_17 : decode cX11_appendRay 17 = .ok (.iastore, 1) := by decide +kernel
theorem dX11_appendRay_18 : decode cX11_appendRay 18 = .ok (.aload_n 0, 1) := by decide +kernel
theorem dX11_appendRay_19 : decode cX11_appendRay 19 = .ok (.getfield 10, 3) := by decide +kernel
theorem dX11_appendRay_22 : decode cX11_appendRay 22 = .ok (.getfield 215, 3) := by decide +kernel
theorem dX11_appendRay_25 : decode cX11_appendRay 25 = .ok (.iload_n 3, 1) := by decide +kernel
theorem dX11_appendRay_26 : decode cX11_appendRay 26 = .ok (.iload_n 2, 1) := by decide +kernel
theorem dX11_appendRay_27 : decode cX11_appendRay 27 = .ok (.iastore, 1) := by decide +kernel
theorem dX11_appendRay_28 : decode cX11_appendRay 28 = .ok (.aload_n 0, 1) := by decide +kernel
theorem dX11_appendRay_29 : decode cX11_appendRay 29 = .ok (.getfield 10, 3) := by decide +kernel
theorem dX11_appendRay_32 : decode cX11_appendRay 32 = .ok (.getfield 178, 3) := by decide +kernel
theorem dX11_appendRay_35 : decode cX11_appendRay 35 = .ok (.iload_n 3, 1) := by decide +kernel
theorem dX11_appendRay_36 : decode cX11_appendRay 36 = .ok (.ldc2_w 169, 3) := by decide +kernel
theorem dX11_appendRay_39 : decode cX11_appendRay 39 = .ok (.lastore, 1) := by decide +kernel
theorem dX11_appendRay_40 : decode cX11_appendRay 40 = .ok (.aload_n 0, 1) := by decide +kernel
theorem dX11_appendRay_41 : decode cX11_appendRay 41 = .ok (.getfield 10, 3) := by decide +kernel
theorem dX11_appendRay_44 : decode cX11_appendRay 44 = .ok (.getfield 162, 3) := by decide +kernel
theorem dX11_appendRay_47 : decode cX11_appendRay 47 = .ok (.iload_n 3, 1) := by decide +kernel
theorem dX11_appendRay_48 : decode cX11_appendRay 48 = .ok (.iconst 1, 1) := by decide +kernel
theorem dX11_appendRay_49 : decode cX11_appendRay 49 = .ok (.bastore, 1) := by decide +kernel
theorem dX11_appendRay_50 : decode cX11_appendRay 50 = .ok (.aload_n 0, 1) := by decide +kernel
theorem dX11_appendRay_51 : decode cX11_appendRay 51 = .ok (.getfield 10, 3) := by decide +kernel
theorem dX11_appendRay_54 : decode cX11_appendRay 54 = .ok (.iload_n 3, 1) := by decide +kernel
theorem dX11_appendRay_55 : decode cX11_appendRay 55 = .ok (.iconst 1, 1) := by decide +kernel
theorem dX11_appendRay_56 : decode cX11_appendRay 56 = .ok (.iadd, 1) := by decide +kernel
theorem dX11_appendRay_57 : decode cX11_appendRay 57 = .ok (.putfield 153, 3) := by decide +kernel
theorem dX11_appendRay_60 : decode cX11_appendRay 60 = .ok (.aload_n 0, 1) := by decide +kernel
theorem dX11_appendRay_61 : decode cX11_appendRay 61 = .ok (.getfield 37, 3) := by decide +kernel
theorem dX11_appendRay_64 : decode cX11_appendRay 64 = .ok (.invokevirtual 350, 3) := by decide +kernel
theorem dX11_appendRay_67 : decode cX11_appendRay 67 = .ok (.return_, 1) := by decide +kernel
theorem dX11_carryOut_0 : decode cX11_carryOut 0 = .ok (.aload_n 0, 1) := by decide +kernel
theorem dX11_carryOut_1 : decode cX11_carryOut 1 = .ok (.getfield 78, 3) := by decide +kernel
theorem dX11_carryOut_4 : decode cX11_carryOut 4 = .ok (.getfield 353, 3) := by decide +kernel
theorem dX11_carryOut_7 : decode cX11_carryOut 7 = .ok (.iload_n 1, 1) := by decide +kernel
theorem dX11_carryOut_8 : decode cX11_carryOut 8 = .ok (.aaload, 1) := by decide +kernel
theorem dX11_carryOut_9 : decode cX11_carryOut 9 = .ok (.astore_n 2, 1) := by decide +kernel
theorem dX11_carryOut_10 : decode cX11_carryOut 10 = .ok (.aload_n 0, 1) := by decide +kernel
theorem dX11_carryOut_11 : decode cX11_carryOut 11 = .ok (.getfield 78, 3) := by decide +kernel
theorem dX11_carryOut_14 : decode cX11_carryOut 14 = .ok (.getfield 357, 3) := by decide +kernel
theorem dX11_carryOut_17 : decode cX11_carryOut 17 = .ok (.iload_n 1, 1) := by decide +kernel
theorem dX11_carryOut_18 : decode cX11_carryOut 18 = .ok (.iaload, 1) := by decide +kernel
theorem dX11_carryOut_19 : decode cX11_carryOut 19 = .ok (.istore_n 3, 1) := by decide +kernel
theorem dX11_carryOut_20 : decode cX11_carryOut 20 = .ok (.aload_n 0, 1) := by decide +kernel
theorem dX11_carryOut_21 : decode cX11_carryOut 21 = .ok (.getfield 78, 3) := by decide +kernel
theorem dX11_carryOut_24 : decode cX11_carryOut 24 = .ok (.getfield 360, 3) := by decide +kernel
theorem dX11_carryOut_27 : decode cX11_carryOut 27 = .ok (.iload_n 1, 1) := by decide +kernel
theorem dX11_carryOut_28 : decode cX11_carryOut 28 = .ok (.iaload, 1) := by decide +kernel
theorem dX11_carryOut_29 : decode cX11_carryOut 29 = .ok (.istore 4, 2) := by decide +kernel
theorem dX11_carryOut_31 : decode cX11_carryOut 31 = .ok (.aload_n 2, 1) := by decide +kernel
theorem dX11_carryOut_32 : decode cX11_carryOut 32 = .ok (.ifnull 14, 3) := by decide +kernel
theorem dX11_carryOut_35 : decode cX11_carryOut 35 = .ok (.aload_n 0, 1) := by decide +kernel
theorem dX11_carryOut_36 : decode cX11_carryOut 36 = .ok (.aload_n 2, 1) := by decide +kernel
theorem dX11_carryOut_37 : decode cX11_carryOut 37 = .ok (.iload_n 3, 1) := by decide +kernel
theorem dX11_carryOut_38 : decode cX11_carryOut 38 = .ok (.iload 4, 2) := by decide +kernel
theorem dX11_carryOut_40 : decode cX11_carryOut 40 = .ok (.invokevirtual 363, 3) := by decide +kernel
theorem dX11_carryOut_43 : decode cX11_carryOut 43 = .ok (.ifCond .ne 5, 3) := by decide +kernel
theorem dX11_carryOut_46 : decode cX11_carryOut 46 = .ok (.iconst 0, 1) := by decide +kernel
theorem dX11_carryOut_47 : decode cX11_carryOut 47 = .ok (.ireturn, 1) := by decide +kernel
theorem dX11_carryOut_48 : decode cX11_carryOut 48 = .ok (.getstatic 367, 3) := by decide +kernel
theorem dX11_carryOut_51 : decode cX11_carryOut 51 = .ok (.aload_n 2, 1) := by decide +kernel
theorem dX11_carryOut_52 : decode cX11_carryOut 52 = .ok (.invokevirtual 372, 3) := by decide +kernel
theorem dX11_carryOut_55 : decode cX11_carryOut 55 = .ok (.iaload, 1) := by decide +kernel
theorem dX11_carryOut_56 : decode cX11_carryOut 56 = .ok (.tableswitch 128 1 7 #[44, 54, 67, 81, 93, 105, 117], 44) := by decide +kernel
theorem dX11_carryOut_100 : decode cX11_carryOut 100 = .ok (.aload_n 0, 1) := by decide +kernel
theorem dX11_carryOut_101 : decode cX11_carryOut 101 = .ok (.iload_n 3, 1) := by decide +kernel
theorem dX11_carryOut_102 : decode cX11_carryOut 102 = .ok (.iload 4, 2) := by decide +kernel
theorem dX11_carryOut_104 : decode cX11_carryOut 104 = .ok (.invokevirtual 156, 3) := by decide +kernel
theorem dX11_carryOut_107 : decode cX11_carryOut 107 = .ok (.goto 96, 3) := by decide +kernel
theorem dX11_carryOut_110 : decode cX11_carryOut 110 = .ok (.aload_n 0, 1) := by decide +kernel
theorem dX11_carryOut_111 : decode cX11_carryOut 111 = .ok (.getfield 55, 3) := by decide +kernel
theorem dX11_carryOut_114 : decode cX11_carryOut 114 = .ok (.iload_n 3, 1) := by decide +kernel
theorem dX11_carryOut_115 : decode cX11_carryOut 115 = .ok (.iload 4, 2) := by decide +kernel
theorem dX11_carryOut_117 : decode cX11_carryOut 117 = .ok (.invokevirtual 120, 3) := by decide +kernel
theorem dX11_carryOut_120 : decode cX11_carryOut 120 = .ok (.goto 83, 3) := by decide +kernel
theorem dX11_carryOut_123 : decode cX11_carryOut 123 = .ok (.aload_n 0, 1) := by decide +kernel
theorem dX11_carryOut_124 : decode cX11_carryOut 124 = .ok (.getfield 10, 3) := by decide +kernel
theorem dX11_carryOut_127 : decode cX11_carryOut 127 = .ok (.getfield 123, 3) := by decide +kernel
theorem dX11_carryOut_130 : decode cX11_carryOut 130 = .ok (.iload_n 3, 1) := by decide +kernel
theorem dX11_carryOut_131 : decode cX11_carryOut 131 = .ok (.iload 4, 2) := by decide +kernel
theorem dX11_carryOut_133 : decode cX11_carryOut 133 = .ok (.iastore, 1) := by decide +kernel
theorem dX11_carryOut_134 : decode cX11_carryOut 134 = .ok (.goto 69, 3) := by decide +kernel
theorem dX11_carryOut_137 : decode cX11_carryOut 137 = .ok (.aload_n 0, 1) := by decide +kernel
theorem dX11_carryOut_138 : decode cX11_carryOut 138 = .ok (.getfield 55, 3) := by decide +kernel
theorem dX11_carryOut_141 : decode cX11_carryOut 141 = .ok (.iload_n 3, 1) := by decide +kernel
theorem dX11_carryOut_142 : decode cX11_carryOut 142 = .ok (.iload_n 3, 1) := by decide +kernel
theorem dX11_carryOut_143 : decode cX11_carryOut 143 = .ok (.invokevirtual 183, 3) := by decide +kernel
theorem dX11_carryOut_146 : decode cX11_carryOut 146 = .ok (.goto 57, 3) := by decide +kernel
theorem dX11_carryOut_149 : decode cX11_carryOut 149 = .ok (.aload_n 0, 1) := by decide +kernel
theorem dX11_carryOut_150 : decode cX11_carryOut 150 = .ok (.getfield 64, 3) := by decide +kernel
theorem dX11_carryOut_153 : decode cX11_carryOut 153 = .ok (.iload_n 3, 1) := by decide +kernel
theorem dX11_carryOut_154 : decode cX11_carryOut 154 = .ok (.invokevirtual 203, 3) := by decide +kernel
theorem dX11_carryOut_157 : decode cX11_carryOut 157 = .ok (.pop, 1) := by decide +kernel
theorem dX11_carryOut_158 : decode cX11_carryOut 158 = .ok (.goto 45, 3) := by decide +kernel
theorem dX11_carryOut_161 : decode cX11_carryOut 161 = .ok (.aload_n 0, 1) := by decide +kernel
theorem dX11_carryOut_162 : decode cX11_carryOut 162 = .ok (.getfield 55, 3) := by decide +kernel
theorem dX11_carryOut_165 : decode cX11_carryOut 165 = .ok (.iload_n 3, 1) := by decide +kernel
theorem dX11_carryOut_166 : decode cX11_carryOut 166 = .ok (.invokevirtual 206, 3) := by decide +kernel
theorem dX11_carryOut_169 : decode cX11_carryOut 169 = .ok (.pop, 1) := by decide +kernel
theorem dX11_carryOut_170 : decode cX11_carryOut 170 = .ok (.goto 33, 3) := by decide +kernel
theorem dX11_carryOut_173 : decode cX11_carryOut 173 = .ok (.aload_n 0, 1) := by decide +kernel
theorem dX11_carryOut_174 : decode cX11_carryOut 174 = .ok (.getfield 55, 3) := by decide +kernel
theorem dX11_carryOut_177 : decode cX11_carryOut 177 = .ok (.invokevirtual 209, 3) := by decide +kernel
theorem dX11_carryOut_180 : decode cX11_carryOut 180 = .ok (.pop, 1) := by decide +kernel
theorem dX11_carryOut_181 : decode cX11_carryOut 181 = .ok (.goto 22, 3) := by decide +kernel
theorem dX11_carryOut_184 : decode cX11_carryOut 184 = .ok (.aload_n 0, 1) := by decide +kernel
theorem dX11_carryOut_185 : decode cX11_carryOut 185 = .ok (.getfield 10, 3) := by decide +kernel
theorem dX11_carryOut_188 : decode cX11_carryOut 188 = .ok (.getfield 162, 3) := by decide +kernel
theorem dX11_carryOut_191 : decode cX11_carryOut 191 = .ok (.iload_n 3, 1) := by decide +kernel
theorem dX11_carryOut_192 : decode cX11_carryOut 192 = .ok (.iload 4, 2) := by decide +kernel
theorem dX11_carryOut_194 : decode cX11_carryOut 194 = .ok (.ifCond .eq 7, 3) := by decide +kernel
theorem dX11_carryOut_197 : decode cX11_carryOut 197 = .ok (.iconst 1, 1) := by decide +kernel
theorem dX11_carryOut_198 : decode cX11_carryOut 198 = .ok (.goto 4, 3) := by decide +kernel
theorem dX11_carryOut_201 : decode cX11_carryOut 201 = .ok (.iconst 0, 1) := by decide +kernel
theorem dX11_carryOut_202 : decode cX11_carryOut 202 = .ok (.bastore, 1) := by decide +kernel
theorem dX11_carryOut_203 : decode cX11_carryOut 203 = .ok (.iconst 1, 1) := by decide +kernel
theorem dX11_carryOut_204 : decode cX11_carryOut 204 = .ok (.ireturn, 1) := by decide +kernel
theorem dX11_isPossible_0 : decode cX11_isPossible 0 = .ok (.getstatic 367, 3) := by decide +kernel
theorem dX11_isPossible_3 : decode cX11_isPossible 3 = .ok (.aload_n 1, 1) := by decide +kernel
theorem dX11_isPossible_4 : decode cX11_isPossible 4 = .ok (.invokevirtual 372, 3) := by decide +kernel
theorem dX11_isPossible_7 : decode cX11_isPossible 7 = .ok (.iaload, 1) := by decide +kernel
theorem dX11_isPossible_8 : decode cX11_isPossible 8 = .ok (.tableswitch 124 1 7 #[44, 73, 73, 97, 106, 114, 122], 44) := by decide +kernel
theorem dX11_isPossible_52 : decode cX11_isPossible 52 = .ok (.aload_n 0, 1) := by decide +kernel
theorem dX11_isPossible_53 : decode cX11_isPossible 53 = .ok (.iload_n 2, 1) := by decide +kernel
theorem dX11_isPossible_54 : decode cX11_isPossible 54 = .ok (.invokevirtual 338, 3) := by decide +kernel
theorem dX11_isPossible_57 : decode cX11_isPossible 57 = .ok (.ifCond .eq 22, 3) := by decide +kernel
theorem dX11_isPossible_60 : decode cX11_isPossible 60 = .ok (.aload_n 0, 1) := by decide +kernel
theorem dX11_isPossible_61 : decode cX11_isPossible 61 = .ok (.iload_n 3, 1) := by decide +kernel
theorem dX11_isPossible_62 : decode cX11_isPossible 62 = .ok (.invokevirtual 338, 3) := by decide +kernel
theorem dX11_isPossible_65 : decode cX11_isPossible 65 = .ok (.ifCond .eq 14, 3) := by decide +kernel
theorem dX11_isPossible_68 : decode cX11_isPossible 68 = .ok (.aload_n 0, 1) := by decide +kernel
theorem dX11_isPossible_69 : decode cX11_isPossible 69 = .ok (.invokevirtual 142, 3) := by decide +kernel
theorem dX11_isPossible_72 : decode cX11_isPossible 72 = .ok (.ifCond .eq 7, 3) := by decide +kernel
theorem dX11_isPossible_75 : decode cX11_isPossible 75 = .ok (.iconst 1, 1) := by decide +kernel
theorem dX11_isPossible_76 : decode cX11_isPossible 76 = .ok (.goto 4, 3) := by decide +kernel
theorem dX11_isPossible_79 : decode cX11_isPossible 79 = .ok (.iconst 0, 1) := by decide +kernel
theorem dX11_isPossible_80 : decode cX11_isPossible 80 = .ok (.ireturn, 1) := by decide +kernel
theorem dX11_isPossible_81 : decode cX11_isPossible 81 = .ok (.aload_n 0, 1) := by decide +kernel
theorem dX11_isPossible_82 : decode cX11_isPossible 82 = .ok (.iload_n 2, 1) := by decide +kernel
theorem dX11_isPossible_83 : decode cX11_isPossible 83 = .ok (.invokevirtual 330, 3) := by decide +kernel
theorem dX11_isPossible_86 : decode cX11_isPossible 86 = .ok (.ifCond .eq 17, 3) := by decide +kernel
theorem dX11_isPossible_89 : decode cX11_isPossible 89 = .ok (.iload_n 3, 1) := by decide +kernel
theorem dX11_isPossible_90 : decode cX11_isPossible 90 = .ok (.iconst 1, 1) := by decide +kernel
theorem dX11_isPossible_91 : decode cX11_isPossible 91 = .ok (.ldc 115, 2) := by decide +kernel
theorem dX11_isPossible_93 : decode cX11_isPossible 93 = .ok (.invokestatic 324, 3) := by decide +kernel
theorem dX11_isPossible_96 : decode cX11_isPossible 96 = .ok (.ifCond .eq 7, 3) := by decide +kernel
theorem dX11_isPossible_99 : decode cX11_isPossible 99 = .ok (.iconst 1, 1) := by decide +kernel
theorem dX11_isPossible_100 : decode cX11_isPossible 100 = .ok (.goto 4, 3) := by decide +kernel
theorem dX11_isPossible_103 : decode cX11_isPossible 103 = .ok (.iconst 0, 1) := by decide +kernel
theorem dX11_isPossible_104 : decode cX11_isPossible 104 = .ok (.ireturn, 1) := by decide +kernel
theorem dX11_isPossible_105 : decode cX11_isPossible 105 = .ok (.iload_n 2, 1) := by decide +kernel
theorem dX11_isPossible_106 : decode cX11_isPossible 106 = .ok (.iconst 0, 1) := by decide +kernel
theorem dX11_isPossible_107 : decode cX11_isPossible 107 = .ok (.sipush 1000, 3) := by decide +kernel
theorem dX11_isPossible_110 : decode cX11_isPossible 110 = .ok (.invokestatic 324, 3) := by decide +kernel
theorem dX11_isPossible_113 : decode cX11_isPossible 113 = .ok (.ireturn, 1) := by decide +kernel
theorem dX11_isPossible_114 : decode cX11_isPossible 114 = .ok (.iload_n 2, 1) := by decide +kernel
theorem dX11_isPossible_115 : decode cX11_isPossible 115 = .ok (.iconst 1, 1) := by decide +kernel
theorem dX11_isPossible_116 : decode cX11_isPossible 116 = .ok (.bipush 20, 2) := by decide +kernel
theorem dX11_isPossible_118 : decode cX11_isPossible 118 = .ok (.invokestatic 324, 3) := by decide +kernel
theorem dX11_isPossible_121 : decode cX11_isPossible 121 = .ok (.ireturn, 1) := by decide +kernel
theorem dX11_isPossible_122 : decode cX11_isPossible 122 = .ok (.iload_n 2, 1) := by decide +kernel
theorem dX11_isPossible_123 : decode cX11_isPossible 123 = .ok (.iconst 1, 1) := by decide +kernel
theorem dX11_isPossible_124 : decode cX11_isPossible 124 = .ok (.bipush 100, 2) := by decide +kernel
theorem dX11_isPossible_126 : decode cX11_isPossible 126 = .ok (.invokestatic 324, 3) := by decide +kernel
theorem dX11_isPossible_129 : decode cX11_isPossible 129 = .ok (.ireturn, 1) := by decide +kernel
theorem dX11_isPossible_130 : decode cX11_isPossible 130 = .ok (.iconst 1, 1) := by decide +kernel
theorem dX11_isPossible_131 : decode cX11_isPossible 131 = .ok (.ireturn, 1) := by decide +kernel
theorem dX11_isPossible_132 : decode cX11_isPossible 132 = .ok (.aload_n 0, 1) := by decide +kernel
theorem dX11_isPossible_133 : decode cX11_isPossible 133 = .ok (.iload_n 2, 1) := by decide +kernel
theorem dX11_isPossible_134 : decode cX11_isPossible 134 = .ok (.invokevirtual 343, 3) := by decide +kernel
theorem dX11_isPossible_137 : decode cX11_isPossible 137 = .ok (.ireturn, 1) := by decide +kernel
theorem dX11_roundedQuotient_0 : decode cX11_roundedQuotient 0 = .ok (.lload_n 2, 1) := by decide +kernel
theorem dX11_roundedQuotient_1 : decode cX11_roundedQuotient 1 = .ok (.lconst 0, 1) := by decide +kernel
theorem dX11_roundedQuotient_2 : decode cX11_roundedQuotient 2 = .ok (.lcmp, 1) := by decide +kernel
theorem dX11_roundedQuotient_3 : decode cX11_roundedQuotient 3 = .ok (.ifCond .le 21, 3) := by decide +kernel
theorem dX11_roundedQuotient_6 : decode cX11_roundedQuotient 6 = .ok (.ldc2_w 377, 3) := by decide +kernel
theorem dX11_roundedQuotient_9 : decode cX11_roundedQuotient 9 = .ok (.lload_n 0, 1) := by decide +kernel
theorem dX11_roundedQuotient_10 : decode cX11_roundedQuotient 10 = .ok (.lmul, 1) := by decide +kernel
theorem dX11_roundedQuotient_11 : decode cX11_roundedQuotient 11 = .ok (.lload_n 2, 1) := by decide +kernel
theorem dX11_roundedQuotient_12 : decode cX11_roundedQuotient 12 = .ok (.ladd, 1) := by decide +kernel
theorem dX11_roundedQuotient_13 : decode cX11_roundedQuotient 13 = .ok (.ldc2_w 377, 3) := by decide +kernel
theorem dX11_roundedQuotient_16 : decode cX11_roundedQuotient 16 = .ok (.lload_n 2, 1) := by decide +kernel
theorem dX11_roundedQuotient_17 : decode cX11_roundedQuotient 17 = .ok (.lmul, 1) := by decide +kernel
theorem dX11_roundedQuotient_18 : decode cX11_roundedQuotient 18 = .ok (.invokestatic 379, 3) := by decide +kernel
theorem dX11_roundedQuotient_21 : decode cX11_roundedQuotient 21 = .ok (.goto 4, 3) := by decide +kernel
theorem dX11_roundedQuotient_24 : decode cX11_roundedQuotient 24 = .ok (.lconst 0, 1) := by decide +kernel
theorem dX11_roundedQuotient_25 : decode cX11_roundedQuotient 25 = .ok (.lreturn, 1) := by decide +kernel
theorem dX11_clamped_0 : decode cX11_clamped 0 = .ok (.lload_n 0, 1) := by decide +kernel
theorem dX11_clamped_1 : decode cX11_clamped 1 = .ok (.iload_n 2, 1) := by decide +kernel
theorem dX11_clamped_2 : decode cX11_clamped 2 = .ok (.i2l, 1) := by decide +kernel
theorem dX11_clamped_3 : decode cX11_clamped 3 = .ok (.lcmp, 1) := by decide +kernel
theorem dX11_clamped_4 : decode cX11_clamped 4 = .ok (.ifCond .ge 5, 3) := by decide +kernel
theorem dX11_clamped_7 : decode cX11_clamped 7 = .ok (.iload_n 2, 1) := by decide +kernel
theorem dX11_clamped_8 : decode cX11_clamped 8 = .ok (.ireturn, 1) := by decide +kernel
theorem dX11_clamped_9 : decode cX11_clamped 9 = .ok (.lload_n 0, 1) := by decide +kernel
theorem dX11_clamped_10 : decode cX11_clamped 10 = .ok (.iload_n 3, 1) := by decide +kernel
theorem dX11_clamped_11 : decode cX11_clamped 11 = .ok (.i2l, 1) := by decide +kernel
theorem dX11_clamped_12 : decode cX11_clamped 12 = .ok (.lcmp, 1) := by decide +kernel
theorem dX11_clamped_13 : decode cX11_clamped 13 = .ok (.ifCond .le 7, 3) := by decide +kernel
theorem dX11_clamped_16 : decode cX11_clamped 16 = .ok (.iload_n 3, 1) := by decide +kernel
theorem dX11_clamped_17 : decode cX11_clamped 17 = .ok (.goto 5, 3) := by decide +kernel
theorem dX11_clamped_20 : decode cX11_clamped 20 = .ok (.lload_n 0, 1) := by decide +kernel
theorem dX11_clamped_21 : decode cX11_clamped 21 = .ok (.l2i, 1) := by decide +kernel
theorem dX11_clamped_22 : decode cX11_clamped 22 = .ok (.ireturn, 1) := by decide +kernel
theorem dX11_nextChance_0 : decode cX11_nextChance 0 = .ok (.ldc2_w 385, 3) := by decide +kernel
theorem dX11_nextChance_3 : decode cX11_nextChance 3 = .ok (.lload_n 0, 1) := by decide +kernel
theorem dX11_nextChance_4 : decode cX11_nextChance 4 = .ok (.lmul, 1) := by decide +kernel
theorem dX11_nextChance_5 : decode cX11_nextChance 5 = .ok (.ldc2_w 387, 3) := by decide +kernel
theorem dX11_nextChance_8 : decode cX11_nextChance 8 = .ok (.ladd, 1) := by decide +kernel
theorem dX11_nextChance_9 : decode cX11_nextChance 9 = .ok (.ldc2_w 389, 3) := by decide +kernel
theorem dX11_nextChance_12 : decode cX11_nextChance 12 = .ok (.lrem, 1) := by decide +kernel
theorem dX11_nextChance_13 : decode cX11_nextChance 13 = .ok (.lreturn, 1) := by decide +kernel
theorem dX11_leadingPart_0 : decode cX11_leadingPart 0 = .ok (.lload_n 0, 1) := by decide +kernel
theorem dX11_leadingPart_1 : decode cX11_leadingPart 1 = .ok (.ldc2_w 391, 3) := by decide +kernel
theorem dX11_leadingPart_4 : decode cX11_leadingPart 4 = .ok (.ldiv, 1) := by decide +kernel
theorem dX11_leadingPart_5 : decode cX11_leadingPart 5 = .ok (.lreturn, 1) := by decide +kernel
theorem dX11_turnRound_0 : decode cX11_turnRound 0 = .ok (.iconst 0, 1) := by decide +kernel
theorem dX11_turnRound_1 : decode cX11_turnRound 1 = .ok (.istore_n 2, 1) := by decide +kernel
theorem dX11_turnRound_2 : decode cX11_turnRound 2 = .ok (.iload_n 2, 1) := by decide +kernel
theorem dX11_turnRound_3 : decode cX11_turnRound 3 = .ok (.iload_n 1, 1) := by decide +kernel
theorem dX11_turnRound_4 : decode cX11_turnRound 4 = .ok (.iconst 2, 1) := by decide +kernel
theorem dX11_turnRound_5 : decode cX11_turnRound 5 = .ok (.idiv, 1) := by decide +kernel
theorem dX11_turnRound_6 : decode cX11_turnRound 6 = .ok (.if_icmp .ge 31, 3) := by decide +kernel
theorem dX11_turnRound_9 : decode cX11_turnRound 9 = .ok (.iload_n 1, 1) := by decide +kernel
theorem dX11_turnRound_10 : decode cX11_turnRound 10 = .ok (.iconst 1, 1) := by decide +kernel
theorem dX11_turnRound_11 : decode cX11_turnRound 11 = .ok (.isub, 1) := by decide +kernel
theorem dX11_turnRound_12 : decode cX11_turnRound 12 = .ok (.iload_n 2, 1) := by decide +kernel
theorem dX11_turnRound_13 : decode cX11_turnRound 13 = .ok (.isub, 1) := by decide +kernel
theorem dX11_turnRound_14 : decode cX11_turnRound 14 = .ok (.istore_n 3, 1) := by decide +kernel
theorem dX11_turnRound_15 : decode cX11_turnRound 15 = .ok (.aload_n 0, 1) := by decide +kernel
theorem dX11_turnRound_16 : decode cX11_turnRound 16 = .ok (.iload_n 2, 1) := by decide +kernel
theorem dX11_turnRound_17 : decode cX11_turnRound 17 = .ok (.iaload, 1) := by decide +kernel
theorem dX11_turnRound_18 : decode cX11_turnRound 18 = .ok (.istore 4, 2) := by decide +kernel
theorem dX11_turnRound_20 : decode cX11_turnRound 20 = .ok (.aload_n 0, 1) := by decide +kernel
theorem dX11_turnRound_21 : decode cX11_turnRound 21 = .ok (.iload_n 2, 1) := by decide +kernel
theorem dX11_turnRound_22 : decode cX11_turnRound 22 = .ok (.aload_n 0, 1) := by decide +kernel
theorem dX11_turnRound_23 : decode cX11_turnRound 23 = .ok (.iload_n 3, 1) := by decide +kernel
theorem dX11_turnRound_24 : decode cX11_turnRound 24 = .ok (.iaload, 1) := by decide +kernel
theorem dX11_turnRound_25 : decode cX11_turnRound 25 = .ok (.iastore, 1) := by decide +kernel
theorem dX11_turnRound_26 : decode cX11_turnRound 26 = .ok (.aload_n 0, 1) := by decide +kernel
theorem dX11_turnRound_27 : decode cX11_turnRound 27 = .ok (.iload_n 3, 1) := by decide +kernel
theorem dX11_turnRound_28 : decode cX11_turnRound 28 = .ok (.iload 4, 2) := by decide +kernel
theorem dX11_turnRound_30 : decode cX11_turnRound 30 = .ok (.iastore, 1) := by decide +kernel
theorem dX11_turnRound_31 : decode cX11_turnRound 31 = .ok (.iinc 2 1, 3) := by decide +kernel
theorem dX11_turnRound_34 : decode cX11_turnRound 34 = .ok (.goto (-32), 3) := by decide +kernel
theorem dX11_turnRound_37 : decode cX11_turnRound 37 = .ok (.return_, 1) := by decide +kernel
