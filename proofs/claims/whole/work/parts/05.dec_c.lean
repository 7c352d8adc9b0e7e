theorem dX7_init_0 : decode cX7_init 0 = .ok (.aload_n 0, 1) := by decide +kernel
theorem dX7_init_1 : decode cX7_init 1 = .ok (.invokespecial 1, 3) := by decide +kernel
theorem dX7_init_4 : decode cX7_init 4 = .ok (.aload_n 0, 1) := by decide +kernel
theorem dX7_init_5 : decode cX7_init 5 = .ok (.bipush 16, 2) := by decide +kernel
theorem dX7_init_7 : decode cX7_init 7 = .ok (.newarray .int, 2) := by decide +kernel
theorem dX7_init_9 : decode cX7_init 9 = .ok (.putfield 7, 3) := by decide +kernel
theorem dX7_init_12 : decode cX7_init 12 = .ok (.aload_n 0, 1) := by decide +kernel
theorem dX7_init_13 : decode cX7_init 13 = .ok (.bipush 16, 2) := by decide +kernel
theorem dX7_init_15 : decode cX7_init 15 = .ok (.newarray .int, 2) := by decide +kernel
theorem dX7_init_17 : decode cX7_init 17 = .ok (.putfield 13, 3) := by decide +kernel
theorem dX7_init_20 : decode cX7_init 20 = .ok (.aload_n 0, 1) := by decide +kernel
theorem dX7_init_21 : decode cX7_init 21 = .ok (.bipush 16, 2) := by decide +kernel
theorem dX7_init_23 : decode cX7_init 23 = .ok (.newarray .boolean, 2) := by decide +kernel
theorem dX7_init_25 : decode cX7_init 25 = .ok (.putfield 16, 3) := by decide +kernel
theorem dX7_init_28 : decode cX7_init 28 = .ok (.aload_n 0, 1) := by decide +kernel
theorem dX7_init_29 : decode cX7_init 29 = .ok (.sipush 150, 3) := by decide +kernel
theorem dX7_init_32 : decode cX7_init 32 = .ok (.newarray .int, 2) := by decide +kernel
theorem dX7_init_34 : decode cX7_init 34 = .ok (.putfield 20, 3) := by decide +kernel
theorem dX7_init_37 : decode cX7_init 37 = .ok (.aload_n 0, 1) := by decide +kernel
theorem dX7_init_38 : decode cX7_init 38 = .ok (.sipush 150, 3) := by decide +kernel
theorem dX7_init_41 : decode cX7_init 41 = .ok (.newarray .int, 2) := by decide +kernel
theorem dX7_init_43 : decode cX7_init 43 = .ok (.putfield 23, 3) := by decide +kernel
theorem dX7_init_46 : decode cX7_init 46 = .ok (.aload_n 0, 1) := by decide +kernel
theorem dX7_init_47 : decode cX7_init 47 = .ok (.sipush 150, 3) := by decide +kernel
theorem dX7_init_50 : decode cX7_init 50 = .ok (.newarray .int, 2) := by decide +kernel
theorem dX7_init_52 : decode cX7_init 52 = .ok (.putfield 26, 3) := by decide +kernel
theorem dX7_init_55 : decode cX7_init 55 = .ok (.aload_n 0, 1) := by decide +kernel
theorem dX7_init_56 : decode cX7_init 56 = .ok (.sipush 150, 3) := by decide +kernel
theorem dX7_init_59 : decode cX7_init 59 = .ok (.newarray .int, 2) := by decide +kernel
theorem dX7_init_61 : decode cX7_init 61 = .ok (.putfield 29, 3) := by decide +kernel
theorem dX7_init_64 : decode cX7_init 64 = .ok (.aload_n 0, 1) := by decide +kernel
theorem dX7_init_65 : decode cX7_init 65 = .ok (.sipush 600, 3) := by decide +kernel
theorem dX7_init_68 : decode cX7_init 68 = .ok (.newarray .int, 2) := by decide +kernel
theorem dX7_init_70 : decode cX7_init 70 = .ok (.putfield 32, 3) := by decide +kernel
theorem dX7_init_73 : decode cX7_init 73 = .ok (.aload_n 0, 1) := by decide +kernel
theorem dX7_init_74 : decode cX7_init 74 = .ok (.iconst 1, 1) := by decide +kernel
theorem dX7_init_75 : decode cX7_init 75 = .ok (.putfield 35, 3) := by decide +kernel
theorem dX7_init_78 : decode cX7_init 78 = .ok (.aload_n 0, 1) := by decide +kernel
theorem dX7_init_79 : decode cX7_init 79 = .ok (.sipush 150, 3) := by decide +kernel
theorem dX7_init_82 : decode cX7_init 82 = .ok (.newarray .boolean, 2) := by decide +kernel
theorem dX7_init_84 : decode cX7_init 84 = .ok (.putfield 39, 3) := by decide +kernel
theorem dX7_init_87 : decode cX7_init 87 = .ok (.aload_n 0, 1) := by decide +kernel
theorem dX7_init_88 : decode cX7_init 88 = .ok (.sipush 9600, 3) := by decide +kernel
theorem dX7_init_91 : decode cX7_init 91 = .ok (.newarray .boolean, 2) := by decide +kernel
theorem dX7_init_93 : decode cX7_init 93 = .ok (.putfield 42, 3) := by decide +kernel
theorem dX7_init_96 : decode cX7_init 96 = .ok (.aload_n 0, 1) := by decide +kernel
theorem dX7_init_97 : decode cX7_init 97 = .ok (.sipush 9600, 3) := by decide +kernel
theorem dX7_init_100 : decode cX7_init 100 = .ok (.newarray .boolean, 2) := by decide +kernel
theorem dX7_init_102 : decode cX7_init 102 = .ok (.putfield 45, 3) := by decide +kernel
theorem dX7_init_105 : decode cX7_init 105 = .ok (.aload_n 0, 1) := by decide +kernel
theorem dX7_init_106 : decode cX7_init 106 = .ok (.ldc 48, 2) := by decide +kernel
theorem dX7_init_108 : decode cX7_init 108 = .ok (.newarray .boolean, 2) := by decide +kernel
theorem dX7_init_110 : decode cX7_init 110 = .ok (.putfield 49, 3) := by decide +kernel
theorem dX7_init_113 : decode cX7_init 113 = .ok (.aload_n 0, 1) := by decide +kernel
theorem dX7_init_114 : decode cX7_init 114 = .ok (.sipush 2400, 3) := by decide +kernel
theorem dX7_init_117 : decode cX7_init 117 = .ok (.newarray .boolean, 2) := by decide +kernel
theorem dX7_init_119 : decode cX7_init 119 = .ok (.putfield 52, 3) := by decide +kernel
theorem dX7_init_122 : decode cX7_init 122 = .ok (.aload_n 0, 1) := by decide +kernel
theorem dX7_init_123 : decode cX7_init 123 = .ok (.sipush 22500, 3) := by decide +kernel
theorem dX7_init_126 : decode cX7_init 126 = .ok (.newarray .boolean, 2) := by decide +kernel
theorem dX7_init_128 : decode cX7_init 128 = .ok (.putfield 55, 3) := by decide +kernel
theorem dX7_init_131 : decode cX7_init 131 = .ok (.aload_n 0, 1) := by decide +kernel
theorem dX7_init_132 : decode cX7_init 132 = .ok (.sipush 2400, 3) := by decide +kernel
theorem dX7_init_135 : decode cX7_init 135 = .ok (.newarray .int, 2) := by decide +kernel
theorem dX7_init_137 : decode cX7_init 137 = .ok (.putfield 58, 3) := by decide +kernel
theorem dX7_init_140 : decode cX7_init 140 = .ok (.aload_n 0, 1) := by decide +kernel
theorem dX7_init_141 : decode cX7_init 141 = .ok (.sipush 150, 3) := by decide +kernel
theorem dX7_init_144 : decode cX7_init 144 = .ok (.newarray .int, 2) := by decide +kernel
theorem dX7_init_146 : decode cX7_init 146 = .ok (.putfield 61, 3) := by decide +kernel
theorem dX7_init_149 : decode cX7_init 149 = .ok (.aload_n 0, 1) := by decide +kernel
theorem dX7_init_150 : decode cX7_init 150 = .ok (.sipush 150, 3) := by decide +kernel
theorem dX7_init_153 : decode cX7_init 153 = .ok (.newarray .boolean, 2) := by decide +kernel
theorem dX7_init_155 : decode cX7_init 155 = .ok (.putfield 64, 3) := by decide +kernel
theorem dX7_init_158 : decode cX7_init 158 = .ok (.iconst 0, 1) := by decide +kernel
theorem dX7_init_159 : decode cX7_init 159 = .ok (.istore_n 1, 1) := by decide +kernel
theorem dX7_init_160 : decode cX7_init 160 = .ok (.iload_n 1, 1) := by decide +kernel
theorem dX7_init_161 : decode cX7_init 161 = .ok (.sipush 600, 3) := by decide +kernel
theorem dX7_init_164 : decode cX7_init 164 = .ok (.if_icmp .ge 16, 3) := by decide +kernel
theorem dX7_init_167 : decode cX7_init 167 = .ok (.aload_n 0, 1) := by decide +kernel
theorem dX7_init_168 : decode cX7_init 168 = .ok (.getfield 32, 3) := by decide +kernel
theorem dX7_init_171 : decode cX7_init 171 = .ok (.iload_n 1, 1) := by decide +kernel
theorem dX7_init_172 : decode cX7_init 172 = .ok (.iconst (-1), 1) := by decide +kernel
theorem dX7_init_173 : decode cX7_init 173 = .ok (.iastore, 1) := by decide +kernel
theorem dX7_init_174 : decode cX7_init 174 = .ok (.iinc 1 1, 3) := by decide +kernel
theorem dX7_init_177 : decode cX7_init 177 = .ok (.goto (-17), 3) := by decide +kernel
theorem dX7_init_180 : decode cX7_init 180 = .ok (.return_, 1) := by decide +kernel
theorem dX7_in_0 : decode cX7_in 0 = .ok (.iload_n 0, 1) := by decide +kernel
theorem dX7_in_1 : decode cX7_in 1 = .ok (.iload_n 1, 1) := by decide +kernel
theorem dX7_in_2 : decode cX7_in 2 = .ok (.if_icmp .lt 12, 3) := by decide +kernel
theorem dX7_in_5 : decode cX7_in 5 = .ok (.iload_n 0, 1) := by decide +kernel
theorem dX7_in_6 : decode cX7_in 6 = .ok (.iload_n 2, 1) := by decide +kernel
theorem dX7_in_7 : decode cX7_in 7 = .ok (.if_icmp .gt 7, 3) := by decide +kernel
theorem dX7_in_10 : decode cX7_in 10 = .ok (.iconst 1, 1) := by decide +kernel
theorem dX7_in_11 : decode cX7_in 11 = .ok (.goto 4, 3) := by decide +kernel
theorem dX7_in_14 : decode cX7_in 14 = .ok (.iconst 0, 1) := by decide +kernel
theorem dX7_in_15 : decode cX7_in 15 = .ok (.ireturn, 1) := by decide +kernel
theorem dX7_isVariable_0 : decode cX7_isVariable 0 = .ok (.iload_n 1, 1) := by decide +kernel
theorem dX7_isVariable_1 : decode cX7_isVariable 1 = .ok (.iconst 0, 1) := by decide +kernel
theorem dX7_isVariable_2 : decode cX7_isVariable 2 = .ok (.aload_n 0, 1) := by decide +kernel
theorem dX7_isVariable_3 : decode cX7_isVariable 3 = .ok (.getfield 67, 3) := by decide +kernel
theorem dX7_isVariable_6 : decode cX7_isVariable 6 = .ok (.iconst 1, 1) := by decide +kernel
theorem dX7_isVariable_7 : decode cX7_isVariable 7 = .ok (.isub, 1) := by decide +kernel
theorem dX7_isVariable_8 : decode cX7_isVariable 8 = .ok (.invokestatic 71, 3) := by decide +kernel
theorem dX7_isVariable_11 : decode cX7_isVariable 11 = .ok (.ireturn, 1) := by decide +kernel
theorem dX7_isReference_0 : decode cX7_isReference 0 = .ok (.aload_n 0, 1) := by decide +kernel
theorem dX7_isReference_1 : decode cX7_isReference 1 = .ok (.iload_n 1, 1) := by decide +kernel
theorem dX7_isReference_2 : decode cX7_isReference 2 = .ok (.invokevirtual 75, 3) := by decide +kernel
theorem dX7_isReference_5 : decode cX7_isReference 5 = .ok (.ifCond .eq 16, 3) := by decide +kernel
theorem dX7_isReference_8 : decode cX7_isReference 8 = .ok (.aload_n 0, 1) := by decide +kernel
theorem dX7_isReference_9 : decode cX7_isReference 9 = .ok (.getfield 7, 3) := by decide +kernel
theorem dX7_isReference_12 : decode cX7_isReference 12 = .ok (.iload_n 1, 1) := by decide +kernel
theorem dX7_isReference_13 : decode cX7_isReference 13 = .ok (.iaload, 1) := by decide +kernel
theorem dX7_isReference_14 : decode cX7_isReference 14 = .ok (.ifCond .eq 7, 3) := by decide +kernel
theorem dX7_isReference_17 : decode cX7_isReference 17 = .ok (.iconst 1, 1) := by decide +kernel
theorem dX7_isReference_18 : decode cX7_isReference 18 = .ok (.goto 4, 3) := by decide +kernel
theorem dX7_isReference_21 : decode cX7_isReference 21 = .ok (.iconst 0, 1) := by decide +kernel
theorem dX7_isReference_22 : decode cX7_isReference 22 = .ok (.ireturn, 1) := by decide +kernel
theorem dX7_isPoint_0 : decode cX7_isPoint 0 = .ok (.iload_n 0, 1) := by decide +kernel
theorem dX7_isPoint_1 : decode cX7_isPoint 1 = .ok (.iconst 0, 1) := by decide +kernel
theorem dX7_isPoint_2 : decode cX7_isPoint 2 = .ok (.sipush 149, 3) := by decide +kernel
theorem dX7_isPoint_5 : decode cX7_isPoint 5 = .ok (.invokestatic 71, 3) := by decide +kernel
theorem dX7_isPoint_8 : decode cX7_isPoint 8 = .ok (.ireturn, 1) := by decide +kernel
theorem dX7_variable_0 : decode cX7_variable 0 = .ok (.iload_n 1, 1) := by decide +kernel
theorem dX7_variable_1 : decode cX7_variable 1 = .ok (.iconst 0, 1) := by decide +kernel
theorem dX7_variable_2 : decode cX7_variable 2 = .ok (.iconst 2, 1) := by decide +kernel
theorem dX7_variable_3 : decode cX7_variable 3 = .ok (.invokestatic 71, 3) := by decide +kernel
theorem dX7_variable_6 : decode cX7_variable 6 = .ok (.ifCond .eq 29, 3) := by decide +kernel
theorem dX7_variable_9 : decode cX7_variable 9 = .ok (.iload_n 2, 1) := by decide +kernel
theorem dX7_variable_10 : decode cX7_variable 10 = .ok (.iconst 1, 1) := by decide +kernel
theorem dX7_variable_11 : decode cX7_variable 11 = .ok (.iload_n 1, 1) := by decide +kernel
theorem dX7_variable_12 : decode cX7_variable 12 = .ok (.ifCond .ne 7, 3) := by decide +kernel
theorem dX7_variable_15 : decode cX7_variable 15 = .ok (.iconst 4, 1) := by decide +kernel
theorem dX7_variable_16 : decode cX7_variable 16 = .ok (.goto 4, 3) := by decide +kernel
theorem dX7_variable_19 : decode cX7_variable 19 = .ok (.iconst 1, 1) := by decide +kernel
theorem dX7_variable_20 : decode cX7_variable 20 = .ok (.invokestatic 71, 3) := by decide +kernel
theorem dX7_variable_23 : decode cX7_variable 23 = .ok (.ifCond .eq 12, 3) := by decide +kernel
theorem dX7_variable_26 : decode cX7_variable 26 = .ok (.aload_n 0, 1) := by decide +kernel
theorem dX7_variable_27 : decode cX7_variable 27 = .ok (.getfield 67, 3) := by decide +kernel
theorem dX7_variable_30 : decode cX7_variable 30 = .ok (.bipush 16, 2) := by decide +kernel
theorem dX7_variable_32 : decode cX7_variable 32 = .ok (.if_icmp .ne 5, 3) := by decide +kernel
theorem dX7_variable_35 : decode cX7_variable 35 = .ok (.iconst (-1), 1) := by decide +kernel
theorem dX7_variable_36 : decode cX7_variable 36 = .ok (.ireturn, 1) := by decide +kernel
theorem dX7_variable_37 : decode cX7_variable 37 = .ok (.aload_n 0, 1) := by decide +kernel
theorem dX7_variable_38 : decode cX7_variable 38 = .ok (.getfield 7, 3) := by decide +kernel
theorem dX7_variable_41 : decode cX7_variable 41 = .ok (.aload_n 0, 1) := by decide +kernel
theorem dX7_variable_42 : decode cX7_variable 42 = .ok (.getfield 67, 3) := by decide +kernel
theorem dX7_variable_45 : decode cX7_variable 45 = .ok (.iload_n 1, 1) := by decide +kernel
theorem dX7_variable_46 : decode cX7_variable 46 = .ok (.iastore, 1) := by decide +kernel
theorem dX7_variable_47 : decode cX7_variable 47 = .ok (.aload_n 0, 1) := by decide +kernel
theorem dX7_variable_48 : decode cX7_variable 48 = .ok (.getfield 13, 3) := by decide +kernel
theorem dX7_variable_51 : decode cX7_variable 51 = .ok (.aload_n 0, 1) := by decide +kernel
theorem dX7_variable_52 : decode cX7_variable 52 = .ok (.getfield 67, 3) := by decide +kernel
theorem dX7_variable_55 : decode cX7_variable 55 = .ok (.iload_n 2, 1) := by decide +kernel
theorem dX7_variable_56 : decode cX7_variable 56 = .ok (.iastore, 1) := by decide +kernel
theorem dX7_variable_57 : decode cX7_variable 57 = .ok (.aload_n 0, 1) := by decide +kernel
theorem dX7_variable_58 : decode cX7_variable 58 = .ok (.getfield 16, 3) := by decide +kernel
theorem dX7_variable_61 : decode cX7_variable 61 = .ok (.aload_n 0, 1) := by decide +kernel
theorem dX7_variable_62 : decode cX7_variable 62 = .ok (.getfield 67, 3) := by decide +kernel
theorem dX7_variable_65 : decode cX7_variable 65 = .ok (.iconst 0, 1) := by decide +kernel
theorem dX7_variable_66 : decode cX7_variable 66 = .ok (.bastore, 1) := by decide +kernel
theorem dX7_variable_67 : decode cX7_variable 67 = .ok (.aload_n 0, 1) := by decide +kernel
theorem dX7_variable_68 : decode cX7_variable 68 = .ok (.dup, 1) := by decide +kernel
theorem dX7_variable_69 : decode cX7_variable 69 = .ok (.getfield 67, 3) := by decide +kernel
theorem dX7_variable_72 : decode cX7_variable 72 = .ok (.iconst 1, 1) := by decide +kernel
theorem dX7_variable_73 : decode cX7_variable 73 = .ok (.iadd, 1) := by decide +kernel
theorem dX7_variable_74 : decode cX7_variable 74 = .ok (.putfield 67, 3) := by decide +kernel
theorem dX7_variable_77 : decode cX7_variable 77 = .ok (.aload_n 0, 1) := by decide +kernel
theorem dX7_variable_78 : decode cX7_variable 78 = .ok (.iconst 1, 1) := by decide +kernel
theorem dX7_variable_79 : decode cX7_variable 79 = .ok (.putfield 35, 3) := by decide +kernel
theorem dX7_variable_82 : decode cX7_variable 82 = .ok (.aload_n 0, 1) := by decide +kernel
theorem dX7_variable_83 : decode cX7_variable 83 = .ok (.getfield 67, 3) := by decide +kernel
theorem dX7_variable_86 : decode cX7_variable 86 = .ok (.iconst 1, 1) := by decide +kernel
theorem dX7_variable_87 : decode cX7_variable 87 = .ok (.isub, 1) := by decide +kernel
theorem dX7_variable_88 : decode cX7_variable 88 = .ok (.ireturn, 1) := by decide +kernel
theorem dX7_begins_0 : decode cX7_begins 0 = .ok (.aload_n 0, 1) := by decide +kernel
theorem dX7_begins_1 : decode cX7_begins 1 = .ok (.iload_n 1, 1) := by decide +kernel
theorem dX7_begins_2 : decode cX7_begins 2 = .ok (.invokevirtual 75, 3) := by decide +kernel
theorem dX7_begins_5 : decode cX7_begins 5 = .ok (.ifCond .ne 5, 3) := by decide +kernel
theorem dX7_begins_8 : decode cX7_begins 8 = .ok (.iconst (-1), 1) := by decide +kernel
theorem dX7_begins_9 : decode cX7_begins 9 = .ok (.ireturn, 1) := by decide +kernel
theorem dX7_begins_10 : decode cX7_begins 10 = .ok (.aload_n 0, 1) := by decide +kernel
theorem dX7_begins_11 : decode cX7_begins 11 = .ok (.getfield 16, 3) := by decide +kernel
theorem dX7_begins_14 : decode cX7_begins 14 = .ok (.iload_n 1, 1) := by decide +kernel
theorem dX7_begins_15 : decode cX7_begins 15 = .ok (.iload_n 2, 1) := by decide +kernel
theorem dX7_begins_16 : decode cX7_begins 16 = .ok (.bastore, 1) := by decide +kernel
theorem dX7_begins_17 : decode cX7_begins 17 = .ok (.aload_n 0, 1) := by decide +kernel
theorem dX7_begins_18 : decode cX7_begins 18 = .ok (.iconst 1, 1) := by decide +kernel
theorem dX7_begins_19 : decode cX7_begins 19 = .ok (.putfield 35, 3) := by decide +kernel
theorem dX7_begins_22 : decode cX7_begins 22 = .ok (.iconst 1, 1) := by decide +kernel
theorem dX7_begins_23 : decode cX7_begins 23 = .ok (.ireturn, 1) := by decide +kernel
theorem dX7_isPath_0 : decode cX7_isPath 0 = .ok (.iload_n 0, 1) := by decide +kernel
theorem dX7_isPath_1 : decode cX7_isPath 1 = .ok (.iconst 0, 1) := by decide +kernel
theorem dX7_isPath_2 : decode cX7_isPath 2 = .ok (.sipush 4095, 3) := by decide +kernel
theorem dX7_isPath_5 : decode cX7_isPath 5 = .ok (.invokestatic 71, 3) := by decide +kernel
theorem dX7_isPath_8 : decode cX7_isPath 8 = .ok (.ifCond .ne 5, 3) := by decide +kernel
theorem dX7_isPath_11 : decode cX7_isPath 11 = .ok (.iconst 0, 1) := by decide +kernel
theorem dX7_isPath_12 : decode cX7_isPath 12 = .ok (.ireturn, 1) := by decide +kernel
theorem dX7_isPath_13 : decode cX7_isPath 13 = .ok (.iload_n 0, 1) := by decide +kernel
theorem dX7_isPath_14 : decode cX7_isPath 14 = .ok (.istore_n 1, 1) := by decide +kernel
theorem dX7_isPath_15 : decode cX7_isPath 15 = .ok (.iconst 1, 1) := by decide +kernel
theorem dX7_isPath_16 : decode cX7_isPath 16 = .ok (.istore_n 2, 1) := by decide +kernel
theorem dX7_isPath_17 : decode cX7_isPath 17 = .ok (.iload_n 1, 1) := by decide +kernel
theorem dX7_isPath_18 : decode cX7_isPath 18 = .ok (.ifCond .le 37, 3) := by decide +kernel
theorem dX7_isPath_21 : decode cX7_isPath 21 = .ok (.iload_n 2, 1) := by decide +kernel
theorem dX7_isPath_22 : decode cX7_isPath 22 = .ok (.ifCond .eq 23, 3) := by decide +kernel
theorem dX7_isPath_25 : decode cX7_isPath 25 = .ok (.iload_n 1, 1) := by decide +kernel
theorem dX7_isPath_26 : decode cX7_isPath 26 = .ok (.bipush 8, 2) := by decide +kernel
theorem dX7_isPath_28 : decode cX7_isPath 28 = .ok (.irem, 1) := by decide +kernel
theorem dX7_isPath_29 : decode cX7_isPath 29 = .ok (.ifCond .le 16, 3) := by decide +kernel
theorem dX7_isPath_32 : decode cX7_isPath 32 = .ok (.iload_n 1, 1) := by decide +kernel
theorem dX7_isPath_33 : decode cX7_isPath 33 = .ok (.bipush 8, 2) := by decide +kernel
theorem dX7_isPath_35 : decode cX7_isPath 35 = .ok (.irem, 1) := by decide +kernel
theorem dX7_isPath_36 : decode cX7_isPath 36 = .ok (.bipush 7, 2) := by decide +kernel
theorem dX7_isPath_38 : decode cX7_isPath 38 = .ok (.if_icmp .ge 7, 3) := by decide +kernel
theorem dX7_isPath_41 : decode cX7_isPath 41 = .ok (.iconst 1, 1) := by decide +kernel
theorem dX7_isPath_42 : decode cX7_isPath 42 = .ok (.goto 4, 3) := by decide +kernel
theorem dX7_isPath_45 : decode cX7_isPath 45 = .ok (.iconst 0, 1) := by decide +kernel
theorem dX7_isPath_46 : decode cX7_isPath 46 = .ok (.istore_n 2, 1) := by decide +kernel
theorem dX7_isPath_47 : decode cX7_isPath 47 = .ok (.iload_n 1, 1) := by decide +kernel
theorem dX7_isPath_48 : decode cX7_isPath 48 = .ok (.bipush 8, 2) := by decide +kernel
theorem dX7_isPath_50 : decode cX7_isPath 50 = .ok (.idiv, 1) := by decide +kernel
theorem dX7_isPath_51 : decode cX7_isPath 51 = .ok (.istore_n 1, 1) := by decide +kernel
theorem dX7_isPath_52 : decode cX7_isPath 52 = .ok (.goto (-35), 3) := by decide +kernel
theorem dX7_isPath_55 : decode cX7_isPath 55 = .ok (.iload_n 2, 1) := by decide +kernel
theorem dX7_isPath_56 : decode cX7_isPath 56 = .ok (.ireturn, 1) := by decide +kernel
theorem dX7_isPlace_0 : decode cX7_isPlace 0 = .ok (.aload_n 0, 1) := by decide +kernel
theorem dX7_isPlace_1 : decode cX7_isPlace 1 = .ok (.iload_n 1, 1) := by decide +kernel
theorem dX7_isPlace_2 : decode cX7_isPlace 2 = .ok (.invokevirtual 75, 3) := by decide +kernel
theorem dX7_isPlace_5 : decode cX7_isPlace 5 = .ok (.ifCond .eq 10, 3) := by decide +kernel
theorem dX7_isPlace_8 : decode cX7_isPlace 8 = .ok (.iload_n 2, 1) := by decide +kernel
theorem dX7_isPlace_9 : decode cX7_isPlace 9 = .ok (.invokestatic 79, 3) := by decide +kernel
theorem dX7_isPlace_12 : decode cX7_isPlace 12 = .ok (.ifCond .ne 5, 3) := by decide +kernel
theorem dX7_isPlace_15 : decode cX7_isPlace 15 = .ok (.iconst 0, 1) := by decide +kernel
theorem dX7_isPlace_16 : decode cX7_isPlace 16 = .ok (.ireturn, 1) := by decide +kernel
theorem dX7_isPlace_17 : decode cX7_isPlace 17 = .ok (.aload_n 0, 1) := by decide +kernel
theorem dX7_isPlace_18 : decode cX7_isPlace 18 = .ok (.getfield 7, 3) := by decide +kernel
theorem dX7_isPlace_21 : decode cX7_isPlace 21 = .ok (.iload_n 1, 1) := by decide +kernel
theorem dX7_isPlace_22 : decode cX7_isPlace 22 = .ok (.iaload, 1) := by decide +kernel
theorem dX7_isPlace_23 : decode cX7_isPlace 23 = .ok (.ifCond .eq 21, 3) := by decide +kernel
theorem dX7_isPlace_26 : decode cX7_isPlace 26 = .ok (.iload_n 2, 1) := by decide +kernel
theorem dX7_isPlace_27 : decode cX7_isPlace 27 = .ok (.ifCond .eq 11, 3) := by decide +kernel
theorem dX7_isPlace_30 : decode cX7_isPlace 30 = .ok (.iload_n 2, 1) := by decide +kernel
theorem dX7_isPlace_31 : decode cX7_isPlace 31 = .ok (.bipush 8, 2) := by decide +kernel
theorem dX7_isPlace_33 : decode cX7_isPlace 33 = .ok (.irem, 1) := by decide +kernel
theorem dX7_isPlace_34 : decode cX7_isPlace 34 = .ok (.iconst 5, 1) := by decide +kernel
theorem dX7_isPlace_35 : decode cX7_isPlace 35 = .ok (.if_icmp .ne 7, 3) := by decide +kernel
theorem dX7_isPlace_38 : decode cX7_isPlace 38 = .ok (.iconst 1, 1) := by decide +kernel
theorem dX7_isPlace_39 : decode cX7_isPlace 39 = .ok (.goto 4, 3) := by decide +kernel
theorem dX7_isPlace_42 : decode cX7_isPlace 42 = .ok (.iconst 0, 1) := by decide +kernel
theorem dX7_isPlace_43 : decode cX7_isPlace 43 = .ok (.ireturn, 1) := by decide +kernel
theorem dX7_isPlace_44 : decode cX7_isPlace 44 = .ok (.aload_n 0, 1) := by decide +kernel
theorem dX7_isPlace_45 : decode cX7_isPlace 45 = .ok (.getfield 13, 3) := by decide +kernel
theorem dX7_isPlace_48 : decode cX7_isPlace 48 = .ok (.iload_n 1, 1) := by decide +kernel
theorem dX7_isPlace_49 : decode cX7_isPlace 49 = .ok (.iaload, 1) := by decide +kernel
theorem dX7_isPlace_50 : decode cX7_isPlace 50 = .ok (.iconst 1, 1) := by decide +kernel
theorem dX7_isPlace_51 : decode cX7_isPlace 51 = .ok (.if_icmp .eq 20, 3) := by decide +kernel
theorem dX7_isPlace_54 : decode cX7_isPlace 54 = .ok (.iload_n 2, 1) := by decide +kernel
theorem dX7_isPlace_55 : decode cX7_isPlace 55 = .ok (.ifCond .eq 16, 3) := by decide +kernel
theorem dX7_isPlace_58 : decode cX7_isPlace 58 = .ok (.iload_n 2, 1) := by decide +kernel
theorem dX7_isPlace_59 : decode cX7_isPlace 59 = .ok (.bipush 8, 2) := by decide +kernel
theorem dX7_isPlace_61 : decode cX7_isPlace 61 = .ok (.irem, 1) := by decide +kernel
theorem dX7_isPlace_62 : decode cX7_isPlace 62 = .ok (.aload_n 0, 1) := by decide +kernel
theorem dX7_isPlace_63 : decode cX7_isPlace 63 = .ok (.getfield 13, 3) := by decide +kernel
theorem dX7_isPlace_66 : decode cX7_isPlace 66 = .ok (.iload_n 1, 1) := by decide +kernel
theorem dX7_isPlace_67 : decode cX7_isPlace 67 = .ok (.iaload, 1) := by decide +kernel
theorem dX7_isPlace_68 : decode cX7_isPlace 68 = .ok (.if_icmp .gt 7, 3) := by decide +kernel
theorem dX7_isPlace_71 : decode cX7_isPlace 71 = .ok (.iconst 1, 1) := by decide +kernel
theorem dX7_isPlace_72 : decode cX7_isPlace 72 = .ok (.goto 4, 3) := by decide +kernel
theorem dX7_isPlace_75 : decode cX7_isPlace 75 = .ok (.iconst 0, 1) := by decide +kernel
theorem dX7_isPlace_76 : decode cX7_isPlace 76 = .ok (.ireturn, 1) := by decide +kernel
theorem dX7_isThrough_0 : decode cX7_isThrough 0 = .ok (.aload_n 0, 1) := by decide +kernel
theorem dX7_isThrough_1 : decode cX7_isThrough 1 = .ok (.getfield 7, 3) := by decide +kernel
theorem dX7_isThrough_4 : decode cX7_isThrough 4 = .ok (.iload_n 1, 1) := by decide +kernel
theorem dX7_isThrough_5 : decode cX7_isThrough 5 = .ok (.iaload, 1) := by decide +kernel
theorem dX7_isThrough_6 : decode cX7_isThrough 6 = .ok (.ifCond .eq 11, 3) := by decide +kernel
theorem dX7_isThrough_9 : decode cX7_isThrough 9 = .ok (.iload_n 2, 1) := by decide +kernel
theorem dX7_isThrough_10 : decode cX7_isThrough 10 = .ok (.ifCond .le 7, 3) := by decide +kernel
theorem dX7_isThrough_13 : decode cX7_isThrough 13 = .ok (.iconst 1, 1) := by decide +kernel
theorem dX7_isThrough_14 : decode cX7_isThrough 14 = .ok (.goto 4, 3) := by decide +kernel
theorem dX7_isThrough_17 : decode cX7_isThrough 17 = .ok (.iconst 0, 1) := by decide +kernel
theorem dX7_isThrough_18 : decode cX7_isThrough 18 = .ok (.ireturn, 1) := by decide +kernel
theorem dX7_isWithin_0 : decode cX7_isWithin 0 = .ok (.aload_n 0, 1) := by decide +kernel
theorem dX7_isWithin_1 : decode cX7_isWithin 1 = .ok (.getfield 13, 3) := by decide +kernel
theorem dX7_isWithin_4 : decode cX7_isWithin 4 = .ok (.iload_n 1, 1) := by decide +kernel
theorem dX7_isWithin_5 : decode cX7_isWithin 5 = .ok (.iaload, 1) := by decide +kernel
theorem dX7_isWithin_6 : decode cX7_isWithin 6 = .ok (.iconst 1, 1) := by decide +kernel
theorem dX7_isWithin_7 : decode cX7_isWithin 7 = .ok (.if_icmp .le 17, 3) := by decide +kernel
theorem dX7_isWithin_10 : decode cX7_isWithin 10 = .ok (.iload_n 2, 1) := by decide +kernel
theorem dX7_isWithin_11 : decode cX7_isWithin 11 = .ok (.bipush 8, 2) := by decide +kernel
theorem dX7_isWithin_13 : decode cX7_isWithin 13 = .ok (.if_icmp .lt 7, 3) := by decide +kernel
theorem dX7_isWithin_16 : decode cX7_isWithin 16 = .ok (.iconst 1, 1) := by decide +kernel
theorem dX7_isWithin_17 : decode cX7_isWithin 17 = .ok (.goto 16, 3) := by decide +kernel
theorem dX7_isWithin_20 : decode cX7_isWithin 20 = .ok (.iconst 0, 1) := by decide +kernel
theorem dX7_isWithin_21 : decode cX7_isWithin 21 = .ok (.goto 12, 3) := by decide +kernel
theorem dX7_isWithin_24 : decode cX7_isWithin 24 = .ok (.iload_n 2, 1) := by decide +kernel
theorem dX7_isWithin_25 : decode cX7_isWithin 25 = .ok (.ifCond .le 7, 3) := by decide +kernel
theorem dX7_isWithin_28 : decode cX7_isWithin 28 = .ok (.iconst 1, 1) := by decide +kernel
theorem dX7_isWithin_29 : decode cX7_isWithin 29 = .ok (.goto 4, 3) := by decide +kernel
theorem dX7_isWithin_32 : decode cX7_isWithin 32 = .ok (.iconst 0, 1) := by decide +kernel
theorem dX7_isWithin_33 : decode cX7_isWithin 33 = .ok (.ireturn, 1) := by decide +kernel
theorem dX7_become_0 : decode cX7_become 0 = .ok (.aload_n 0, 1) := by decide +kernel
theorem dX7_become_1 : decode cX7_become 1 = .ok (.getfield 20, 3) := by decide +kernel
theorem dX7_become_4 : decode cX7_become 4 = .ok (.iload_n 1, 1) := by decide +kernel
theorem dX7_become_5 : decode cX7_become 5 = .ok (.iload_n 2, 1) := by decide +kernel
theorem dX7_become_6 : decode cX7_become 6 = .ok (.iastore, 1) := by decide +kernel
theorem dX7_become_7 : decode cX7_become 7 = .ok (.aload_n 0, 1) := by decide +kernel
theorem dX7_become_8 : decode cX7_become 8 = .ok (.getfield 23, 3) := by decide +kernel
theorem dX7_become_11 : decode cX7_become 11 = .ok (.iload_n 1, 1) := by decide +kernel
theorem dX7_become_12 : decode cX7_become 12 = .ok (.iload_n 3, 1) := by decide +kernel
theorem dX7_become_13 : decode cX7_become 13 = .ok (.iastore, 1) := by decide +kernel
theorem dX7_become_14 : decode cX7_become 14 = .ok (.aload_n 0, 1) := by decide +kernel
theorem dX7_become_15 : decode cX7_become 15 = .ok (.getfield 26, 3) := by decide +kernel
theorem dX7_become_18 : decode cX7_become 18 = .ok (.iload_n 1, 1) := by decide +kernel
theorem dX7_become_19 : decode cX7_become 19 = .ok (.iload 4, 2) := by decide +kernel
theorem dX7_become_21 : decode cX7_become 21 = .ok (.iastore, 1) := by decide +kernel
theorem dX7_become_22 : decode cX7_become 22 = .ok (.aload_n 0, 1) := by decide +kernel
theorem dX7_become_23 : decode cX7_become 23 = .ok (.getfield 29, 3) := by decide +kernel
theorem dX7_become_26 : decode cX7_become 26 = .ok (.iload_n 1, 1) := by decide +kernel
theorem dX7_become_27 : decode cX7_become 27 = .ok (.iload 5, 2) := by decide +kernel
theorem dX7_become_29 : decode cX7_become 29 = .ok (.iastore, 1) := by decide +kernel
theorem dX7_become_30 : decode cX7_become 30 = .ok (.aload_n 0, 1) := by decide +kernel
theorem dX7_become_31 : decode cX7_become 31 = .ok (.iconst 1, 1) := by decide +kernel
theorem dX7_become_32 : decode cX7_become 32 = .ok (.putfield 35, 3) := by decide +kernel
theorem dX7_become_35 : decode cX7_become 35 = .ok (.return_, 1) := by decide +kernel
theorem dX7_act_0 : decode cX7_act 0 = .ok (.iload_n 1, 1) := by decide +kernel
theorem dX7_act_1 : decode cX7_act 1 = .ok (.invokestatic 82, 3) := by decide +kernel
theorem dX7_act_4 : decode cX7_act 4 = .ok (.ifCond .eq 13, 3) := by decide +kernel
theorem dX7_act_7 : decode cX7_act 7 = .ok (.iload_n 2, 1) := by decide +kernel
theorem dX7_act_8 : decode cX7_act 8 = .ok (.iconst 0, 1) := by decide +kernel
theorem dX7_act_9 : decode cX7_act 9 = .ok (.bipush 6, 2) := by decide +kernel
theorem dX7_act_11 : decode cX7_act 11 = .ok (.invokestatic 71, 3) := by decide +kernel
theorem dX7_act_14 : decode cX7_act 14 = .ok (.ifCond .ne 5, 3) := by decide +kernel
theorem dX7_act_17 : decode cX7_act 17 = .ok (.iconst (-1), 1) := by decide +kernel
theorem dX7_act_18 : decode cX7_act 18 = .ok (.ireturn, 1) := by decide +kernel
theorem dX7_act_19 : decode cX7_act 19 = .ok (.iload_n 2, 1) := by decide +kernel
theorem dX7_act_20 : decode cX7_act 20 = .ok (.ifCond .ne 14, 3) := by decide +kernel
theorem dX7_act_23 : decode cX7_act 23 = .ok (.aload_n 0, 1) := by decide +kernel
theorem dX7_act_24 : decode cX7_act 24 = .ok (.iload_n 1, 1) := by decide +kernel
theorem dX7_act_25 : decode cX7_act 25 = .ok (.iload_n 2, 1) := by decide +kernel
theorem dX7_act_26 : decode cX7_act 26 = .ok (.iconst (-1), 1) := by decide +kernel
theorem dX7_act_27 : decode cX7_act 27 = .ok (.iconst 0, 1) := by decide +kernel
theorem dX7_act_28 : decode cX7_act 28 = .ok (.iconst (-1), 1) := by decide +kernel
theorem dX7_act_29 : decode cX7_act 29 = .ok (.invokevirtual 85, 3) := by decide +kernel
theorem dX7_act_32 : decode cX7_act 32 = .ok (.iconst 1, 1) := by decide +kernel
theorem dX7_act_33 : decode cX7_act 33 = .ok (.ireturn, 1) := by decide +kernel
theorem dX7_act_34 : decode cX7_act 34 = .ok (.iload_n 2, 1) := by decide +kernel
theorem dX7_act_35 : decode cX7_act 35 = .ok (.iconst 5, 1) := by decide +kernel
theorem dX7_act_36 : decode cX7_act 36 = .ok (.if_icmp .lt 24, 3) := by decide +kernel
theorem dX7_act_39 : decode cX7_act 39 = .ok (.aload_n 0, 1) := by decide +kernel
theorem dX7_act_40 : decode cX7_act 40 = .ok (.iload_n 3, 1) := by decide +kernel
theorem dX7_act_41 : decode cX7_act 41 = .ok (.invokevirtual 75, 3) := by decide +kernel
theorem dX7_act_44 : decode cX7_act 44 = .ok (.ifCond .ne 5, 3) := by decide +kernel
theorem dX7_act_47 : decode cX7_act 47 = .ok (.iconst (-1), 1) := by decide +kernel
theorem dX7_act_48 : decode cX7_act 48 = .ok (.ireturn, 1) := by decide +kernel
theorem dX7_act_49 : decode cX7_act 49 = .ok (.aload_n 0, 1) := by decide +kernel
theorem dX7_act_50 : decode cX7_act 50 = .ok (.iload_n 1, 1) := by decide +kernel
theorem dX7_act_51 : decode cX7_act 51 = .ok (.iload_n 2, 1) := by decide +kernel
theorem dX7_act_52 : decode cX7_act 52 = .ok (.iload_n 3, 1) := by decide +kernel
theorem dX7_act_53 : decode cX7_act 53 = .ok (.iconst 0, 1) := by decide +kernel
theorem dX7_act_54 : decode cX7_act 54 = .ok (.iconst (-1), 1) := by decide +kernel
theorem dX7_act_55 : decode cX7_act 55 = .ok (.invokevirtual 85, 3) := by decide +kernel
theorem dX7_act_58 : decode cX7_act 58 = .ok (.iconst 1, 1) := by decide +kernel
theorem dX7_act_59 : decode cX7_act 59 = .ok (.ireturn, 1) := by decide +kernel
theorem dX7_act_60 : decode cX7_act 60 = .ok (.aload_n 0, 1) := by decide +kernel
theorem dX7_act_61 : decode cX7_act 61 = .ok (.iload_n 3, 1) := by decide +kernel
theorem dX7_act_62 : decode cX7_act 62 = .ok (.iload 4, 2) := by decide +kernel
theorem dX7_act_64 : decode cX7_act 64 = .ok (.invokevirtual 89, 3) := by decide +kernel
theorem dX7_act_67 : decode cX7_act 67 = .ok (.ifCond .ne 5, 3) := by decide +kernel
theorem dX7_act_70 : decode cX7_act 70 = .ok (.iconst (-1), 1) := by decide +kernel
theorem dX7_act_71 : decode cX7_act 71 = .ok (.ireturn, 1) := by decide +kernel
theorem dX7_act_72 : decode cX7_act 72 = .ok (.iload_n 2, 1) := by decide +kernel
theorem dX7_act_73 : decode cX7_act 73 = .ok (.iconst 2, 1) := by decide +kernel
theorem dX7_act_74 : decode cX7_act 74 = .ok (.if_icmp .ne 25, 3) := by decide +kernel
theorem dX7_act_77 : decode cX7_act 77 = .ok (.aload_n 0, 1) := by decide +kernel
theorem dX7_act_78 : decode cX7_act 78 = .ok (.getfield 7, 3) := by decide +kernel
theorem dX7_act_81 : decode cX7_act 81 = .ok (.iload_n 3, 1) := by decide +kernel
theorem dX7_act_82 : decode cX7_act 82 = .ok (.iaload, 1) := by decide +kernel
theorem dX7_act_83 : decode cX7_act 83 = .ok (.ifCond .ne 45, 3) := by decide +kernel
theorem dX7_act_86 : decode cX7_act 86 = .ok (.aload_n 0, 1) := by decide +kernel
theorem dX7_act_87 : decode cX7_act 87 = .ok (.iload_n 3, 1) := by decide +kernel
theorem dX7_act_88 : decode cX7_act 88 = .ok (.iload 4, 2) := by decide +kernel
theorem dX7_act_90 : decode cX7_act 90 = .ok (.invokevirtual 93, 3) := by decide +kernel
theorem dX7_act_93 : decode cX7_act 93 = .ok (.ifCond .eq 37, 3) := by decide +kernel
theorem dX7_act_96 : decode cX7_act 96 = .ok (.goto 32, 3) := by decide +kernel
theorem dX7_act_99 : decode cX7_act 99 = .ok (.aload_n 0, 1) := by decide +kernel
theorem dX7_act_100 : decode cX7_act 100 = .ok (.getfield 7, 3) := by decide +kernel
theorem dX7_act_103 : decode cX7_act 103 = .ok (.iload_n 3, 1) := by decide +kernel
theorem dX7_act_104 : decode cX7_act 104 = .ok (.iaload, 1) := by decide +kernel
theorem dX7_act_105 : decode cX7_act 105 = .ok (.ifCond .eq 8, 3) := by decide +kernel
theorem dX7_act_108 : decode cX7_act 108 = .ok (.iload 4, 2) := by decide +kernel
theorem dX7_act_110 : decode cX7_act 110 = .ok (.ifCond .eq 18, 3) := by decide +kernel
theorem dX7_act_113 : decode cX7_act 113 = .ok (.iload_n 2, 1) := by decide +kernel
theorem dX7_act_114 : decode cX7_act 114 = .ok (.iconst 1, 1) := by decide +kernel
theorem dX7_act_115 : decode cX7_act 115 = .ok (.if_icmp .eq 15, 3) := by decide +kernel
theorem dX7_act_118 : decode cX7_act 118 = .ok (.aload_n 0, 1) := by decide +kernel
theorem dX7_act_119 : decode cX7_act 119 = .ok (.getfield 7, 3) := by decide +kernel
theorem dX7_act_122 : decode cX7_act 122 = .ok (.iload_n 3, 1) := by decide +kernel
theorem dX7_act_123 : decode cX7_act 123 = .ok (.iaload, 1) := by decide +kernel
theorem dX7_act_124 : decode cX7_act 124 = .ok (.iconst 1, 1) := by decide +kernel
theorem dX7_act_125 : decode cX7_act 125 = .ok (.if_icmp .ne 5, 3) := by decide +kernel
theorem dX7_act_128 : decode cX7_act 128 = .ok (.iconst (-1), 1) := by decide +kernel
theorem dX7_act_129 : decode cX7_act 129 = .ok (.ireturn, 1) := by decide +kernel
theorem dX7_act_130 : decode cX7_act 130 = .ok (.aload_n 0, 1) := by decide +kernel
theorem dX7_act_131 : decode cX7_act 131 = .ok (.iload_n 1, 1) := by decide +kernel
theorem dX7_act_132 : decode cX7_act 132 = .ok (.iload_n 2, 1) := by decide +kernel
theorem dX7_act_133 : decode cX7_act 133 = .ok (.iload_n 3, 1) := by decide +kernel
theorem dX7_act_134 : decode cX7_act 134 = .ok (.iload 4, 2) := by decide +kernel
theorem dX7_act_136 : decode cX7_act 136 = .ok (.iconst (-1), 1) := by decide +kernel
theorem dX7_act_137 : decode cX7_act 137 = .ok (.invokevirtual 85, 3) := by decide +kernel
theorem dX7_act_140 : decode cX7_act 140 = .ok (.iconst 1, 1) := by decide +kernel
theorem dX7_act_141 : decode cX7_act 141 = .ok (.ireturn, 1) := by decide +kernel
theorem dX7_lend_0 : decode cX7_lend 0 = .ok (.iload_n 1, 1) := by decide +kernel
theorem dX7_lend_1 : decode cX7_lend 1 = .ok (.invokestatic 82, 3) := by decide +kernel
theorem dX7_lend_4 : decode cX7_lend 4 = .ok (.ifCond .eq 55, 3) := by decide +kernel
theorem dX7_lend_7 : decode cX7_lend 7 = .ok (.aload_n 0, 1) := by decide +kernel
theorem dX7_lend_8 : decode cX7_lend 8 = .ok (.iload_n 2, 1) := by decide +kernel
theorem dX7_lend_9 : decode cX7_lend 9 = .ok (.invokevirtual 96, 3) := by decide +kernel
theorem dX7_lend_12 : decode cX7_lend 12 = .ok (.ifCond .eq 47, 3) := by decide +kernel
theorem dX7_lend_15 : decode cX7_lend 15 = .ok (.aload_n 0, 1) := by decide +kernel
theorem dX7_lend_16 : decode cX7_lend 16 = .ok (.iload_n 3, 1) := by decide +kernel
theorem dX7_lend_17 : decode cX7_lend 17 = .ok (.iload 4, 2) := by decide +kernel
theorem dX7_lend_19 : decode cX7_lend 19 = .ok (.invokevirtual 89, 3) := by decide +kernel
theorem dX7_lend_22 : decode cX7_lend 22 = .ok (.ifCond .eq 37, 3) := by decide +kernel
theorem dX7_lend_25 : decode cX7_lend 25 = .ok (.aload_n 0, 1) := by decide +kernel
theorem dX7_lend_26 : decode cX7_lend 26 = .ok (.getfield 7, 3) := by decide +kernel
theorem dX7_lend_29 : decode cX7_lend 29 = .ok (.iload_n 3, 1) := by decide +kernel
theorem dX7_lend_30 : decode cX7_lend 30 = .ok (.iaload, 1) := by decide +kernel
theorem dX7_lend_31 : decode cX7_lend 31 = .ok (.ifCond .eq 8, 3) := by decide +kernel
theorem dX7_lend_34 : decode cX7_lend 34 = .ok (.iload 4, 2) := by decide +kernel
theorem dX7_lend_36 : decode cX7_lend 36 = .ok (.ifCond .eq 23, 3) := by decide +kernel
theorem dX7_lend_39 : decode cX7_lend 39 = .ok (.aload_n 0, 1) := by decide +kernel
theorem dX7_lend_40 : decode cX7_lend 40 = .ok (.getfield 7, 3) := by decide +kernel
theorem dX7_lend_43 : decode cX7_lend 43 = .ok (.iload_n 2, 1) := by decide +kernel
theorem dX7_lend_44 : decode cX7_lend 44 = .ok (.iaload, 1) := by decide +kernel
theorem dX7_lend_45 : decode cX7_lend 45 = .ok (.iconst 2, 1) := by decide +kernel
theorem dX7_lend_46 : decode cX7_lend 46 = .ok (.if_icmp .ne 15, 3) := by decide +kernel
theorem dX7_lend_49 : decode cX7_lend 49 = .ok (.aload_n 0, 1) := by decide +kernel
theorem dX7_lend_50 : decode cX7_lend 50 = .ok (.getfield 7, 3) := by decide +kernel
theorem dX7_lend_53 : decode cX7_lend 53 = .ok (.iload_n 3, 1) := by decide +kernel
theorem dX7_lend_54 : decode cX7_lend 54 = .ok (.iaload, 1) := by decide +kernel
theorem dX7_lend_55 : decode cX7_lend 55 = .ok (.iconst 1, 1) := by decide +kernel
theorem dX7_lend_56 : decode cX7_lend 56 = .ok (.if_icmp .ne 5, 3) := by decide +kernel
theorem dX7_lend_59 : decode cX7_lend 59 = .ok (.iconst (-1), 1) := by decide +kernel
theorem dX7_lend_60 : decode cX7_lend 60 = .ok (.ireturn, 1) := by decide +kernel
theorem dX7_lend_61 : decode cX7_lend 61 = .ok (.iconst 0, 1) := by decide +kernel
theorem dX7_lend_62 : decode cX7_lend 62 = .ok (.istore 5, 2) := by decide +kernel
theorem dX7_lend_64 : decode cX7_lend 64 = .ok (.iconst 0, 1) := by decide +kernel
theorem dX7_lend_65 : decode cX7_lend 65 = .ok (.istore 6, 2) := by decide +kernel
theorem dX7_lend_67 : decode cX7_lend 67 = .ok (.iload 6, 2) := by decide +kernel
theorem dX7_lend_69 : decode cX7_lend 69 = .ok (.sipush 150, 3) := by decide +kernel
theorem dX7_lend_72 : decode cX7_lend 72 = .ok (.if_icmp .ge 37, 3) := by decide +kernel
theorem dX7_lend_75 : decode cX7_lend 75 = .ok (.iload 5, 2) := by decide +kernel
theorem dX7_lend_77 : decode cX7_lend 77 = .ok (.iload 6, 2) := by decide +kernel
theorem dX7_lend_79 : decode cX7_lend 79 = .ok (.iload_n 1, 1) := by decide +kernel
theorem dX7_lend_80 : decode cX7_lend 80 = .ok (.if_icmp .eq 19, 3) := by decide +kernel
theorem dX7_lend_83 : decode cX7_lend 83 = .ok (.aload_n 0, 1) := by decide +kernel
theorem dX7_lend_84 : decode cX7_lend 84 = .ok (.getfield 20, 3) := by decide +kernel
theorem dX7_lend_87 : decode cX7_lend 87 = .ok (.iload 6, 2) := by decide +kernel
theorem dX7_lend_89 : decode cX7_lend 89 = .ok (.iaload, 1) := by decide +kernel
theorem dX7_lend_90 : decode cX7_lend 90 = .ok (.bipush 7, 2) := by decide +kernel
theorem dX7_lend_92 : decode cX7_lend 92 = .ok (.if_icmp .ne 7, 3) := by decide +kernel
theorem dX7_lend_95 : decode cX7_lend 95 = .ok (.iconst 1, 1) := by decide +kernel
theorem dX7_lend_96 : decode cX7_lend 96 = .ok (.goto 4, 3) := by decide +kernel
theorem dX7_lend_99 : decode cX7_lend 99 = .ok (.iconst 0, 1) := by decide +kernel
theorem dX7_lend_100 : decode cX7_lend 100 = .ok (.iadd, 1) := by decide +kernel
theorem dX7_lend_101 : decode cX7_lend 101 = .ok (.istore 5, 2) := by decide +kernel
theorem dX7_lend_103 : decode cX7_lend 103 = .ok (.iinc 6 1, 3) := by decide +kernel
theorem dX7_lend_106 : decode cX7_lend 106 = .ok (.goto (-39), 3) := by decide +kernel
theorem dX7_lend_109 : decode cX7_lend 109 = .ok (.iload 5, 2) := by decide +kernel
theorem dX7_lend_111 : decode cX7_lend 111 = .ok (.bipush 60, 2) := by decide +kernel
theorem dX7_lend_113 : decode cX7_lend 113 = .ok (.if_icmp .lt 5, 3) := by decide +kernel
theorem dX7_lend_116 : decode cX7_lend 116 = .ok (.iconst (-1), 1) := by decide +kernel
theorem dX7_lend_117 : decode cX7_lend 117 = .ok (.ireturn, 1) := by decide +kernel
theorem dX7_lend_118 : decode cX7_lend 118 = .ok (.aload_n 0, 1) := by decide +kernel
theorem dX7_lend_119 : decode cX7_lend 119 = .ok (.iload_n 1, 1) := by decide +kernel
theorem dX7_lend_120 : decode cX7_lend 120 = .ok (.bipush 7, 2) := by decide +kernel
theorem dX7_lend_122 : decode cX7_lend 122 = .ok (.iload_n 3, 1) := by decide +kernel
theorem dX7_lend_123 : decode cX7_lend 123 = .ok (.iload 4, 2) := by decide +kernel
theorem dX7_lend_125 : decode cX7_lend 125 = .ok (.iload_n 2, 1) := by decide +kernel
theorem dX7_lend_126 : decode cX7_lend 126 = .ok (.invokevirtual 85, 3) := by decide +kernel
theorem dX7_lend_129 : decode cX7_lend 129 = .ok (.iconst 1, 1) := by decide +kernel
theorem dX7_lend_130 : decode cX7_lend 130 = .ok (.ireturn, 1) := by decide +kernel
theorem dX7_copy_0 : decode cX7_copy 0 = .ok (.iload_n 1, 1) := by decide +kernel
theorem dX7_copy_1 : decode cX7_copy 1 = .ok (.invokestatic 82, 3) := by decide +kernel
theorem dX7_copy_4 : decode cX7_copy 4 = .ok (.ifCond .eq 39, 3) := by decide +kernel
theorem dX7_copy_7 : decode cX7_copy 7 = .ok (.aload_n 0, 1) := by decide +kernel
theorem dX7_copy_8 : decode cX7_copy 8 = .ok (.iload_n 2, 1) := by decide +kernel
theorem dX7_copy_9 : decode cX7_copy 9 = .ok (.invokevirtual 96, 3) := by decide +kernel
theorem dX7_copy_12 : decode cX7_copy 12 = .ok (.ifCond .eq 31, 3) := by decide +kernel
theorem dX7_copy_15 : decode cX7_copy 15 = .ok (.aload_n 0, 1) := by decide +kernel
theorem dX7_copy_16 : decode cX7_copy 16 = .ok (.iload_n 3, 1) := by decide +kernel
theorem dX7_copy_17 : decode cX7_copy 17 = .ok (.invokevirtual 96, 3) := by decide +kernel
theorem dX7_copy_20 : decode cX7_copy 20 = .ok (.ifCond .eq 23, 3) := by decide +kernel
theorem dX7_copy_23 : decode cX7_copy 23 = .ok (.iload_n 2, 1) := by decide +kernel
theorem dX7_copy_24 : decode cX7_copy 24 = .ok (.iload_n 3, 1) := by decide +kernel
theorem dX7_copy_25 : decode cX7_copy 25 = .ok (.if_icmp .eq 18, 3) := by decide +kernel
theorem dX7_copy_28 : decode cX7_copy 28 = .ok (.aload_n 0, 1) := by decide +kernel
theorem dX7_copy_29 : decode cX7_copy 29 = .ok (.getfield 7, 3) := by decide +kernel
theorem dX7_copy_32 : decode cX7_copy 32 = .ok (.iload_n 2, 1) := by decide +kernel
theorem dX7_copy_33 : decode cX7_copy 33 = .ok (.iaload, 1) := by decide +kernel
theorem dX7_copy_34 : decode cX7_copy 34 = .ok (.aload_n 0, 1) := by decide +kernel
theorem dX7_copy_35 : decode cX7_copy 35 = .ok (.getfield 7, 3) := by decide +kernel
theorem dX7_copy_38 : decode cX7_copy 38 = .ok (.iload_n 3, 1) := by decide +kernel
theorem dX7_copy_39 : decode cX7_copy 39 = .ok (.iaload, 1) := by decide +kernel
theorem dX7_copy_40 : decode cX7_copy 40 = .ok (.if_icmp .eq 5, 3) := by decide +kernel
theorem dX7_copy_43 : decode cX7_copy 43 = .ok (.iconst (-1), 1) := by decide +kernel
theorem dX7_copy_44 : decode cX7_copy 44 = .ok (.ireturn, 1) := by decide +kernel
theorem dX7_copy_45 : decode cX7_copy 45 = .ok (.aload_n 0, 1) := by decide +kernel
theorem dX7_copy_46 : decode cX7_copy 46 = .ok (.iload_n 1, 1) := by decide +kernel
theorem dX7_copy_47 : decode cX7_copy 47 = .ok (.bipush 8, 2) := by decide +kernel
theorem dX7_copy_49 : decode cX7_copy 49 = .ok (.iload_n 3, 1) := by decide +kernel
theorem dX7_copy_50 : decode cX7_copy 50 = .ok (.iconst 0, 1) := by decide +kernel
theorem dX7_copy_51 : decode cX7_copy 51 = .ok (.iload_n 2, 1) := by decide +kernel
theorem dX7_copy_52 : decode cX7_copy 52 = .ok (.invokevirtual 85, 3) := by decide +kernel
theorem dX7_copy_55 : decode cX7_copy 55 = .ok (.iconst 1, 1) := by decide +kernel
theorem dX7_copy_56 : decode cX7_copy 56 = .ok (.ireturn, 1) := by decide +kernel
theorem dX7_next_0 : decode cX7_next 0 = .ok (.iload_n 1, 1) := by decide +kernel
theorem dX7_next_1 : decode cX7_next 1 = .ok (.invokestatic 82, 3) := by decide +kernel
theorem dX7_next_4 : decode cX7_next 4 = .ok (.ifCond .eq 10, 3) := by decide +kernel
theorem dX7_next_7 : decode cX7_next 7 = .ok (.iload_n 2, 1) := by decide +kernel
theorem dX7_next_8 : decode cX7_next 8 = .ok (.invokestatic 82, 3) := by decide +kernel
theorem dX7_next_11 : decode cX7_next 11 = .ok (.ifCond .ne 5, 3) := by decide +kernel
theorem dX7_next_14 : decode cX7_next 14 = .ok (.iconst (-1), 1) := by decide +kernel
theorem dX7_next_15 : decode cX7_next 15 = .ok (.ireturn, 1) := by decide +kernel
theorem dX7_next_16 : decode cX7_next 16 = .ok (.iconst (-1), 1) := by decide +kernel
theorem dX7_next_17 : decode cX7_next 17 = .ok (.istore 4, 2) := by decide +kernel
theorem dX7_next_19 : decode cX7_next 19 = .ok (.iconst (-1), 1) := by decide +kernel
theorem dX7_next_20 : decode cX7_next 20 = .ok (.istore 5, 2) := by decide +kernel
theorem dX7_next_22 : decode cX7_next 22 = .ok (.iconst 0, 1) := by decide +kernel
theorem dX7_next_23 : decode cX7_next 23 = .ok (.istore 6, 2) := by decide +kernel
theorem dX7_next_25 : decode cX7_next 25 = .ok (.iload 6, 2) := by decide +kernel
theorem dX7_next_27 : decode cX7_next 27 = .ok (.iconst 4, 1) := by decide +kernel
theorem dX7_next_28 : decode cX7_next 28 = .ok (.if_icmp .ge 47, 3) := by decide +kernel
theorem dX7_next_31 : decode cX7_next 31 = .ok (.aload_n 0, 1) := by decide +kernel
theorem dX7_next_32 : decode cX7_next 32 = .ok (.getfield 32, 3) := by decide +kernel
theorem dX7_next_35 : decode cX7_next 35 = .ok (.iconst 4, 1) := by decide +kernel
theorem dX7_next_36 : decode cX7_next 36 = .ok (.iload_n 1, 1) := by decide +kernel
theorem dX7_next_37 : decode cX7_next 37 = .ok (.imul, 1) := by decide +kernel
theorem dX7_next_38 : decode cX7_next 38 = .ok (.iload 6, 2) := by decide +kernel
theorem dX7_next_40 : decode cX7_next 40 = .ok (.iadd, 1) := by decide +kernel
theorem dX7_next_41 : decode cX7_next 41 = .ok (.iaload, 1) := by decide +kernel
theorem dX7_next_42 : decode cX7_next 42 = .ok (.iload_n 2, 1) := by decide +kernel
theorem dX7_next_43 : decode cX7_next 43 = .ok (.if_icmp .ne 7, 3) := by decide +kernel
theorem dX7_next_46 : decode cX7_next 46 = .ok (.iload 6, 2) := by decide +kernel
theorem dX7_next_48 : decode cX7_next 48 = .ok (.istore 4, 2) := by decide +kernel
theorem dX7_next_50 : decode cX7_next 50 = .ok (.aload_n 0, 1) := by decide +kernel
theorem dX7_next_51 : decode cX7_next 51 = .ok (.getfield 32, 3) := by decide +kernel
theorem dX7_next_54 : decode cX7_next 54 = .ok (.iconst 4, 1) := by decide +kernel
theorem dX7_next_55 : decode cX7_next 55 = .ok (.iload_n 1, 1) := by decide +kernel
theorem dX7_next_56 : decode cX7_next 56 = .ok (.imul, 1) := by decide +kernel
theorem dX7_next_57 : decode cX7_next 57 = .ok (.iload 6, 2) := by decide +kernel
theorem dX7_next_59 : decode cX7_next 59 = .ok (.iadd, 1) := by decide +kernel
theorem dX7_next_60 : decode cX7_next 60 = .ok (.iaload, 1) := by decide +kernel
theorem dX7_next_61 : decode cX7_next 61 = .ok (.iconst (-1), 1) := by decide +kernel
theorem dX7_next_62 : decode cX7_next 62 = .ok (.if_icmp .ne 7, 3) := by decide +kernel
theorem dX7_next_65 : decode cX7_next 65 = .ok (.iload 6, 2) := by decide +kernel
theorem dX7_next_67 : decode cX7_next 67 = .ok (.istore 5, 2) := by decide +kernel
theorem dX7_next_69 : decode cX7_next 69 = .ok (.iinc 6 1, 3) := by decide +kernel
theorem dX7_next_72 : decode cX7_next 72 = .ok (.goto (-47), 3) := by decide +kernel
theorem dX7_next_75 : decode cX7_next 75 = .ok (.iload_n 3, 1) := by decide +kernel
theorem dX7_next_76 : decode cX7_next 76 = .ok (.ifCond .eq 17, 3) := by decide +kernel
theorem dX7_next_79 : decode cX7_next 79 = .ok (.iload 4, 2) := by decide +kernel
theorem dX7_next_81 : decode cX7_next 81 = .ok (.iconst (-1), 1) := by decide +kernel
theorem dX7_next_82 : decode cX7_next 82 = .ok (.if_icmp .ne 11, 3) := by decide +kernel
theorem dX7_next_85 : decode cX7_next 85 = .ok (.iload 5, 2) := by decide +kernel
theorem dX7_next_87 : decode cX7_next 87 = .ok (.iconst (-1), 1) := by decide +kernel
theorem dX7_next_88 : decode cX7_next 88 = .ok (.if_icmp .ne 5, 3) := by decide +kernel
theorem dX7_next_91 : decode cX7_next 91 = .ok (.iconst (-1), 1) := by decide +kernel
theorem dX7_next_92 : decode cX7_next 92 = .ok (.ireturn, 1) := by decide +kernel
theorem dX7_next_93 : decode cX7_next 93 = .ok (.iload_n 3, 1) := by decide +kernel
theorem dX7_next_94 : decode cX7_next 94 = .ok (.ifCond .eq 21, 3) := by decide +kernel
theorem dX7_next_97 : decode cX7_next 97 = .ok (.iload 4, 2) := by decide +kernel
theorem dX7_next_99 : decode cX7_next 99 = .ok (.iconst (-1), 1) := by decide +kernel
theorem dX7_next_100 : decode cX7_next 100 = .ok (.if_icmp .ne 15, 3) := by decide +kernel
theorem dX7_next_103 : decode cX7_next 103 = .ok (.aload_n 0, 1) := by decide +kernel
theorem dX7_next_104 : decode cX7_next 104 = .ok (.getfield 32, 3) := by decide +kernel
theorem dX7_next_107 : decode cX7_next 107 = .ok (.iconst 4, 1) := by decide +kernel
theorem dX7_next_108 : decode cX7_next 108 = .ok (.iload_n 1, 1) := by decide +kernel
theorem dX7_next_109 : decode cX7_next 109 = .ok (.imul, 1) := by decide +kernel
theorem dX7_next_110 : decode cX7_next 110 = .ok (.iload 5, 2) := by decide +kernel
theorem dX7_next_112 : decode cX7_next 112 = .ok (.iadd, 1) := by decide +kernel
theorem dX7_next_113 : decode cX7_next 113 = .ok (.iload_n 2, 1) := by decide +kernel
theorem dX7_next_114 : decode cX7_next 114 = .ok (.iastore, 1) := by decide +kernel
theorem dX7_next_115 : decode cX7_next 115 = .ok (.iload_n 3, 1) := by decide +kernel
theorem dX7_next_116 : decode cX7_next 116 = .ok (.ifCond .ne 21, 3) := by decide +kernel
theorem dX7_next_119 : decode cX7_next 119 = .ok (.iload 4, 2) := by decide +kernel
theorem dX7_next_121 : decode cX7_next 121 = .ok (.iconst (-1), 1) := by decide +kernel
theorem dX7_next_122 : decode cX7_next 122 = .ok (.if_icmp .eq 15, 3) := by decide +kernel
theorem dX7_next_125 : decode cX7_next 125 = .ok (.aload_n 0, 1) := by decide +kernel
theorem dX7_next_126 : decode cX7_next 126 = .ok (.getfield 32, 3) := by decide +kernel
theorem dX7_next_129 : decode cX7_next 129 = .ok (.iconst 4, 1) := by decide +kernel
theorem dX7_next_130 : decode cX7_next 130 = .ok (.iload_n 1, 1) := by decide +kernel
theorem dX7_next_131 : decode cX7_next 131 = .ok (.imul, 1) := by decide +kernel
theorem dX7_next_132 : decode cX7_next 132 = .ok (.iload 4, 2) := by decide +kernel
theorem dX7_next_134 : decode cX7_next 134 = .ok (.iadd, 1) := by decide +kernel
theorem dX7_next_135 : decode cX7_next 135 = .ok (.iconst (-1), 1) := by decide +kernel
theorem dX7_next_136 : decode cX7_next 136 = .ok (.iastore, 1) := by decide +kernel
theorem dX7_next_137 : decode cX7_next 137 = .ok (.aload_n 0, 1) := by decide +kernel
theorem dX7_next_138 : decode cX7_next 138 = .ok (.iconst 1, 1) := by decide +kernel
theorem dX7_next_139 : decode cX7_next 139 = .ok (.putfield 35, 3) := by decide +kernel
theorem dX7_next_142 : decode cX7_next 142 = .ok (.iconst 1, 1) := by decide +kernel
theorem dX7_next_143 : decode cX7_next 143 = .ok (.ireturn, 1) := by decide +kernel
theorem dX7_isLeafOf_0 : decode cX7_isLeafOf 0 = .ok (.aload_n 0, 1) := by decide +kernel
theorem dX7_isLeafOf_1 : decode cX7_isLeafOf 1 = .ok (.getfield 13, 3) := by decide +kernel
theorem dX7_isLeafOf_4 : decode cX7_isLeafOf 4 = .ok (.aload_n 0, 1) := by decide +kernel
theorem dX7_isLeafOf_5 : decode cX7_isLeafOf 5 = .ok (.getfield 23, 3) := by decide +kernel
theorem dX7_isLeafOf_8 : decode cX7_isLeafOf 8 = .ok (.iload_n 1, 1) := by decide +kernel
theorem dX7_isLeafOf_9 : decode cX7_isLeafOf 9 = .ok (.iaload, 1) := by decide +kernel
theorem dX7_isLeafOf_10 : decode cX7_isLeafOf 10 = .ok (.iaload, 1) := by decide +kernel
theorem dX7_isLeafOf_11 : decode cX7_isLeafOf 11 = .ok (.iconst 1, 1) := by decide +kernel
theorem dX7_isLeafOf_12 : decode cX7_isLeafOf 12 = .ok (.if_icmp .eq 27, 3) := by decide +kernel
theorem dX7_isLeafOf_15 : decode cX7_isLeafOf 15 = .ok (.aload_n 0, 1) := by decide +kernel
theorem dX7_isLeafOf_16 : decode cX7_isLeafOf 16 = .ok (.getfield 26, 3) := by decide +kernel
theorem dX7_isLeafOf_19 : decode cX7_isLeafOf 19 = .ok (.iload_n 1, 1) := by decide +kernel
theorem dX7_isLeafOf_20 : decode cX7_isLeafOf 20 = .ok (.iaload, 1) := by decide +kernel
theorem dX7_isLeafOf_21 : decode cX7_isLeafOf 21 = .ok (.ifCond .eq 18, 3) := by decide +kernel
theorem dX7_isLeafOf_24 : decode cX7_isLeafOf 24 = .ok (.aload_n 0, 1) := by decide +kernel
theorem dX7_isLeafOf_25 : decode cX7_isLeafOf 25 = .ok (.getfield 26, 3) := by decide +kernel
theorem dX7_isLeafOf_28 : decode cX7_isLeafOf 28 = .ok (.iload_n 1, 1) := by decide +kernel
theorem dX7_isLeafOf_29 : decode cX7_isLeafOf 29 = .ok (.iaload, 1) := by decide +kernel
theorem dX7_isLeafOf_30 : decode cX7_isLeafOf 30 = .ok (.bipush 8, 2) := by decide +kernel
theorem dX7_isLeafOf_32 : decode cX7_isLeafOf 32 = .ok (.irem, 1) := by decide +kernel
theorem dX7_isLeafOf_33 : decode cX7_isLeafOf 33 = .ok (.iload_n 2, 1) := by decide +kernel
theorem dX7_isLeafOf_34 : decode cX7_isLeafOf 34 = .ok (.iconst 1, 1) := by decide +kernel
theorem dX7_isLeafOf_35 : decode cX7_isLeafOf 35 = .ok (.iadd, 1) := by decide +kernel
theorem dX7_isLeafOf_36 : decode cX7_isLeafOf 36 = .ok (.if_icmp .ne 7, 3) := by decide +kernel
theorem dX7_isLeafOf_39 : decode cX7_isLeafOf 39 = .ok (.iconst 1, 1) := by decide +kernel
theorem dX7_isLeafOf_40 : decode cX7_isLeafOf 40 = .ok (.goto 4, 3) := by decide +kernel
theorem dX7_isLeafOf_43 : decode cX7_isLeafOf 43 = .ok (.iconst 0, 1) := by decide +kernel
theorem dX7_isLeafOf_44 : decode cX7_isLeafOf 44 = .ok (.ireturn, 1) := by decide +kernel
theorem dX7_gives_0 : decode cX7_gives 0 = .ok (.aload_n 0, 1) := by decide +kernel
theorem dX7_gives_1 : decode cX7_gives 1 = .ok (.getfield 20, 3) := by decide +kernel
theorem dX7_gives_4 : decode cX7_gives 4 = .ok (.iload_n 1, 1) := by decide +kernel
theorem dX7_gives_5 : decode cX7_gives 5 = .ok (.iaload, 1) := by decide +kernel
theorem dX7_gives_6 : decode cX7_gives 6 = .ok (.bipush 7, 2) := by decide +kernel
theorem dX7_gives_8 : decode cX7_gives 8 = .ok (.if_icmp .eq 14, 3) := by decide +kernel
theorem dX7_gives_11 : decode cX7_gives 11 = .ok (.aload_n 0, 1) := by decide +kernel
theorem dX7_gives_12 : decode cX7_gives 12 = .ok (.getfield 20, 3) := by decide +kernel
theorem dX7_gives_15 : decode cX7_gives 15 = .ok (.iload_n 1, 1) := by decide +kernel
theorem dX7_gives_16 : decode cX7_gives 16 = .ok (.iaload, 1) := by decide +kernel
theorem dX7_gives_17 : decode cX7_gives 17 = .ok (.bipush 8, 2) := by decide +kernel
theorem dX7_gives_19 : decode cX7_gives 19 = .ok (.if_icmp .ne 19, 3) := by decide +kernel
theorem dX7_gives_22 : decode cX7_gives 22 = .ok (.aload_n 0, 1) := by decide +kernel
theorem dX7_gives_23 : decode cX7_gives 23 = .ok (.getfield 29, 3) := by decide +kernel
theorem dX7_gives_26 : decode cX7_gives 26 = .ok (.iload_n 1, 1) := by decide +kernel
theorem dX7_gives_27 : decode cX7_gives 27 = .ok (.iaload, 1) := by decide +kernel
theorem dX7_gives_28 : decode cX7_gives 28 = .ok (.iload_n 2, 1) := by decide +kernel
theorem dX7_gives_29 : decode cX7_gives 29 = .ok (.if_icmp .ne 7, 3) := by decide +kernel
theorem dX7_gives_32 : decode cX7_gives 32 = .ok (.iconst 1, 1) := by decide +kernel
theorem dX7_gives_33 : decode cX7_gives 33 = .ok (.goto 4, 3) := by decide +kernel
theorem dX7_gives_36 : decode cX7_gives 36 = .ok (.iconst 0, 1) := by decide +kernel
theorem dX7_gives_37 : decode cX7_gives 37 = .ok (.ireturn, 1) := by decide +kernel
theorem dX7_gives_38 : decode cX7_gives 38 = .ok (.aload_n 0, 1) := by decide +kernel
theorem dX7_gives_39 : decode cX7_gives 39 = .ok (.getfield 20, 3) := by decide +kernel
theorem dX7_gives_42 : decode cX7_gives 42 = .ok (.iload_n 1, 1) := by decide +kernel
theorem dX7_gives_43 : decode cX7_gives 43 = .ok (.iaload, 1) := by decide +kernel
theorem dX7_gives_44 : decode cX7_gives 44 = .ok (.iconst 3, 1) := by decide +kernel
theorem dX7_gives_45 : decode cX7_gives 45 = .ok (.if_icmp .ne 40, 3) := by decide +kernel
theorem dX7_gives_48 : decode cX7_gives 48 = .ok (.aload_n 0, 1) := by decide +kernel
theorem dX7_gives_49 : decode cX7_gives 49 = .ok (.getfield 23, 3) := by decide +kernel
theorem dX7_gives_52 : decode cX7_gives 52 = .ok (.iload_n 1, 1) := by decide +kernel
theorem dX7_gives_53 : decode cX7_gives 53 = .ok (.iaload, 1) := by decide +kernel
theorem dX7_gives_54 : decode cX7_gives 54 = .ok (.iload_n 2, 1) := by decide +kernel
theorem dX7_gives_55 : decode cX7_gives 55 = .ok (.if_icmp .ne 30, 3) := by decide +kernel
theorem dX7_gives_58 : decode cX7_gives 58 = .ok (.aload_n 0, 1) := by decide +kernel
theorem dX7_gives_59 : decode cX7_gives 59 = .ok (.iload_n 2, 1) := by decide +kernel
theorem dX7_gives_60 : decode cX7_gives 60 = .ok (.aload_n 0, 1) := by decide +kernel
theorem dX7_gives_61 : decode cX7_gives 61 = .ok (.getfield 26, 3) := by decide +kernel
theorem dX7_gives_64 : decode cX7_gives 64 = .ok (.iload_n 1, 1) := by decide +kernel
theorem dX7_gives_65 : decode cX7_gives 65 = .ok (.iaload, 1) := by decide +kernel
theorem dX7_gives_66 : decode cX7_gives 66 = .ok (.invokevirtual 93, 3) := by decide +kernel
theorem dX7_gives_69 : decode cX7_gives 69 = .ok (.ifCond .ne 16, 3) := by decide +kernel
theorem dX7_gives_72 : decode cX7_gives 72 = .ok (.aload_n 0, 1) := by decide +kernel
theorem dX7_gives_73 : decode cX7_gives 73 = .ok (.iload_n 1, 1) := by decide +kernel
theorem dX7_gives_74 : decode cX7_gives 74 = .ok (.iload_n 3, 1) := by decide +kernel
theorem dX7_gives_75 : decode cX7_gives 75 = .ok (.invokevirtual 99, 3) := by decide +kernel
theorem dX7_gives_78 : decode cX7_gives 78 = .ok (.ifCond .eq 7, 3) := by decide +kernel
theorem dX7_gives_81 : decode cX7_gives 81 = .ok (.iconst 1, 1) := by decide +kernel
theorem dX7_gives_82 : decode cX7_gives 82 = .ok (.goto 4, 3) := by decide +kernel
theorem dX7_gives_85 : decode cX7_gives 85 = .ok (.iconst 0, 1) := by decide +kernel
theorem dX7_gives_86 : decode cX7_gives 86 = .ok (.ireturn, 1) := by decide +kernel
theorem dX7_takes_0 : decode cX7_takes 0 = .ok (.aload_n 0, 1) := by decide +kernel
theorem dX7_takes_1 : decode cX7_takes 1 = .ok (.getfield 23, 3) := by decide +kernel
theorem dX7_takes_4 : decode cX7_takes 4 = .ok (.iload_n 1, 1) := by decide +kernel
theorem dX7_takes_5 : decode cX7_takes 5 = .ok (.iaload, 1) := by decide +kernel
theorem dX7_takes_6 : decode cX7_takes 6 = .ok (.iload_n 2, 1) := by decide +kernel
theorem dX7_takes_7 : decode cX7_takes 7 = .ok (.if_icmp .eq 5, 3) := by decide +kernel
theorem dX7_takes_10 : decode cX7_takes 10 = .ok (.iconst 0, 1) := by decide +kernel
theorem dX7_takes_11 : decode cX7_takes 11 = .ok (.ireturn, 1) := by decide +kernel
theorem dX7_takes_12 : decode cX7_takes 12 = .ok (.aload_n 0, 1) := by decide +kernel
theorem dX7_takes_13 : decode cX7_takes 13 = .ok (.getfield 20, 3) := by decide +kernel
theorem dX7_takes_16 : decode cX7_takes 16 = .ok (.iload_n 1, 1) := by decide +kernel
theorem dX7_takes_17 : decode cX7_takes 17 = .ok (.iaload, 1) := by decide +kernel
theorem dX7_takes_18 : decode cX7_takes 18 = .ok (.iconst 2, 1) := by decide +kernel
theorem dX7_takes_19 : decode cX7_takes 19 = .ok (.if_icmp .ne 12, 3) := by decide +kernel
theorem dX7_takes_22 : decode cX7_takes 22 = .ok (.aload_n 0, 1) := by decide +kernel
theorem dX7_takes_23 : decode cX7_takes 23 = .ok (.iload_n 1, 1) := by decide +kernel
theorem dX7_takes_24 : decode cX7_takes 24 = .ok (.iload_n 3, 1) := by decide +kernel
theorem dX7_takes_25 : decode cX7_takes 25 = .ok (.invokevirtual 99, 3) := by decide +kernel
theorem dX7_takes_28 : decode cX7_takes 28 = .ok (.ifCond .ne 34, 3) := by decide +kernel
theorem dX7_takes_31 : decode cX7_takes 31 = .ok (.aload_n 0, 1) := by decide +kernel
theorem dX7_takes_32 : decode cX7_takes 32 = .ok (.getfield 20, 3) := by decide +kernel
theorem dX7_takes_35 : decode cX7_takes 35 = .ok (.iload_n 1, 1) := by decide +kernel
theorem dX7_takes_36 : decode cX7_takes 36 = .ok (.iaload, 1) := by decide +kernel
theorem dX7_takes_37 : decode cX7_takes 37 = .ok (.iconst 5, 1) := by decide +kernel
theorem dX7_takes_38 : decode cX7_takes 38 = .ok (.if_icmp .eq 24, 3) := by decide +kernel
theorem dX7_takes_41 : decode cX7_takes 41 = .ok (.aload_n 0, 1) := by decide +kernel
theorem dX7_takes_42 : decode cX7_takes 42 = .ok (.getfield 20, 3) := by decide +kernel
theorem dX7_takes_45 : decode cX7_takes 45 = .ok (.iload_n 1, 1) := by decide +kernel
theorem dX7_takes_46 : decode cX7_takes 46 = .ok (.iaload, 1) := by decide +kernel
theorem dX7_takes_47 : decode cX7_takes 47 = .ok (.bipush 8, 2) := by decide +kernel
theorem dX7_takes_49 : decode cX7_takes 49 = .ok (.if_icmp .ne 17, 3) := by decide +kernel
theorem dX7_takes_52 : decode cX7_takes 52 = .ok (.aload_n 0, 1) := by decide +kernel
theorem dX7_takes_53 : decode cX7_takes 53 = .ok (.getfield 7, 3) := by decide +kernel
theorem dX7_takes_56 : decode cX7_takes 56 = .ok (.iload_n 2, 1) := by decide +kernel
theorem dX7_takes_57 : decode cX7_takes 57 = .ok (.iaload, 1) := by decide +kernel
theorem dX7_takes_58 : decode cX7_takes 58 = .ok (.iconst 2, 1) := by decide +kernel
theorem dX7_takes_59 : decode cX7_takes 59 = .ok (.if_icmp .ne 7, 3) := by decide +kernel
theorem dX7_takes_62 : decode cX7_takes 62 = .ok (.iconst 1, 1) := by decide +kernel
theorem dX7_takes_63 : decode cX7_takes 63 = .ok (.goto 4, 3) := by decide +kernel
theorem dX7_takes_66 : decode cX7_takes 66 = .ok (.iconst 0, 1) := by decide +kernel
theorem dX7_takes_67 : decode cX7_takes 67 = .ok (.ireturn, 1) := by decide +kernel
theorem dX7_wants_0 : decode cX7_wants 0 = .ok (.aload_n 0, 1) := by decide +kernel
theorem dX7_wants_1 : decode cX7_wants 1 = .ok (.getfield 20, 3) := by decide +kernel
theorem dX7_wants_4 : decode cX7_wants 4 = .ok (.iload_n 1, 1) := by decide +kernel
theorem dX7_wants_5 : decode cX7_wants 5 = .ok (.iaload, 1) := by decide +kernel
theorem dX7_wants_6 : decode cX7_wants 6 = .ok (.istore_n 3, 1) := by decide +kernel
theorem dX7_wants_7 : decode cX7_wants 7 = .ok (.iload_n 3, 1) := by decide +kernel
theorem dX7_wants_8 : decode cX7_wants 8 = .ok (.bipush 8, 2) := by decide +kernel
theorem dX7_wants_10 : decode cX7_wants 10 = .ok (.if_icmp .ne 5, 3) := by decide +kernel
theorem dX7_wants_13 : decode cX7_wants 13 = .ok (.iconst 1, 1) := by decide +kernel
theorem dX7_wants_14 : decode cX7_wants 14 = .ok (.ireturn, 1) := by decide +kernel
theorem dX7_wants_15 : decode cX7_wants 15 = .ok (.iload_n 3, 1) := by decide +kernel
theorem dX7_wants_16 : decode cX7_wants 16 = .ok (.ifCond .eq 38, 3) := by decide +kernel
theorem dX7_wants_19 : decode cX7_wants 19 = .ok (.iload_n 3, 1) := by decide +kernel
theorem dX7_wants_20 : decode cX7_wants 20 = .ok (.iconst 5, 1) := by decide +kernel
theorem dX7_wants_21 : decode cX7_wants 21 = .ok (.if_icmp .eq 33, 3) := by decide +kernel
theorem dX7_wants_24 : decode cX7_wants 24 = .ok (.iload_n 3, 1) := by decide +kernel
theorem dX7_wants_25 : decode cX7_wants 25 = .ok (.bipush 6, 2) := by decide +kernel
theorem dX7_wants_27 : decode cX7_wants 27 = .ok (.if_icmp .eq 27, 3) := by decide +kernel
theorem dX7_wants_30 : decode cX7_wants 30 = .ok (.iload_n 3, 1) := by decide +kernel
theorem dX7_wants_31 : decode cX7_wants 31 = .ok (.iconst 3, 1) := by decide +kernel
theorem dX7_wants_32 : decode cX7_wants 32 = .ok (.if_icmp .ne 24, 3) := by decide +kernel
theorem dX7_wants_35 : decode cX7_wants 35 = .ok (.aload_n 0, 1) := by decide +kernel
theorem dX7_wants_36 : decode cX7_wants 36 = .ok (.aload_n 0, 1) := by decide +kernel
theorem dX7_wants_37 : decode cX7_wants 37 = .ok (.getfield 23, 3) := by decide +kernel
theorem dX7_wants_40 : decode cX7_wants 40 = .ok (.iload_n 1, 1) := by decide +kernel
theorem dX7_wants_41 : decode cX7_wants 41 = .ok (.iaload, 1) := by decide +kernel
theorem dX7_wants_42 : decode cX7_wants 42 = .ok (.aload_n 0, 1) := by decide +kernel
theorem dX7_wants_43 : decode cX7_wants 43 = .ok (.getfield 26, 3) := by decide +kernel
theorem dX7_wants_46 : decode cX7_wants 46 = .ok (.iload_n 1, 1) := by decide +kernel
theorem dX7_wants_47 : decode cX7_wants 47 = .ok (.iaload, 1) := by decide +kernel
theorem dX7_wants_48 : decode cX7_wants 48 = .ok (.invokevirtual 93, 3) := by decide +kernel
theorem dX7_wants_51 : decode cX7_wants 51 = .ok (.ifCond .ne 5, 3) := by decide +kernel
theorem dX7_wants_54 : decode cX7_wants 54 = .ok (.iconst 0, 1) := by decide +kernel
theorem dX7_wants_55 : decode cX7_wants 55 = .ok (.ireturn, 1) := by decide +kernel
theorem dX7_wants_56 : decode cX7_wants 56 = .ok (.aload_n 0, 1) := by decide +kernel
theorem dX7_wants_57 : decode cX7_wants 57 = .ok (.iload_n 1, 1) := by decide +kernel
theorem dX7_wants_58 : decode cX7_wants 58 = .ok (.iload_n 2, 1) := by decide +kernel
theorem dX7_wants_59 : decode cX7_wants 59 = .ok (.invokevirtual 99, 3) := by decide +kernel
theorem dX7_wants_62 : decode cX7_wants 62 = .ok (.ireturn, 1) := by decide +kernel
theorem dX7_makesLoan_0 : decode cX7_makesLoan 0 = .ok (.aload_n 0, 1) := by decide +kernel
theorem dX7_makesLoan_1 : decode cX7_makesLoan 1 = .ok (.getfield 20, 3) := by decide +kernel
theorem dX7_makesLoan_4 : decode cX7_makesLoan 4 = .ok (.iload_n 1, 1) := by decide +kernel
theorem dX7_makesLoan_5 : decode cX7_makesLoan 5 = .ok (.iaload, 1) := by decide +kernel
theorem dX7_makesLoan_6 : decode cX7_makesLoan 6 = .ok (.bipush 7, 2) := by decide +kernel
theorem dX7_makesLoan_8 : decode cX7_makesLoan 8 = .ok (.if_icmp .ne 41, 3) := by decide +kernel
theorem dX7_makesLoan_11 : decode cX7_makesLoan 11 = .ok (.aload_n 0, 1) := by decide +kernel
theorem dX7_makesLoan_12 : decode cX7_makesLoan 12 = .ok (.aload_n 0, 1) := by decide +kernel
theorem dX7_makesLoan_13 : decode cX7_makesLoan 13 = .ok (.getfield 23, 3) := by decide +kernel
theorem dX7_makesLoan_16 : decode cX7_makesLoan 16 = .ok (.iload_n 1, 1) := by decide +kernel
theorem dX7_makesLoan_17 : decode cX7_makesLoan 17 = .ok (.iaload, 1) := by decide +kernel
theorem dX7_makesLoan_18 : decode cX7_makesLoan 18 = .ok (.aload_n 0, 1) := by decide +kernel
theorem dX7_makesLoan_19 : decode cX7_makesLoan 19 = .ok (.getfield 26, 3) := by decide +kernel
theorem dX7_makesLoan_22 : decode cX7_makesLoan 22 = .ok (.iload_n 1, 1) := by decide +kernel
theorem dX7_makesLoan_23 : decode cX7_makesLoan 23 = .ok (.iaload, 1) := by decide +kernel
theorem dX7_makesLoan_24 : decode cX7_makesLoan 24 = .ok (.invokevirtual 102, 3) := by decide +kernel
theorem dX7_makesLoan_27 : decode cX7_makesLoan 27 = .ok (.ifCond .eq 18, 3) := by decide +kernel
theorem dX7_makesLoan_30 : decode cX7_makesLoan 30 = .ok (.aload_n 0, 1) := by decide +kernel
theorem dX7_makesLoan_31 : decode cX7_makesLoan 31 = .ok (.getfield 7, 3) := by decide +kernel
theorem dX7_makesLoan_34 : decode cX7_makesLoan 34 = .ok (.aload_n 0, 1) := by decide +kernel
theorem dX7_makesLoan_35 : decode cX7_makesLoan 35 = .ok (.getfield 23, 3) := by decide +kernel
theorem dX7_makesLoan_38 : decode cX7_makesLoan 38 = .ok (.iload_n 1, 1) := by decide +kernel
theorem dX7_makesLoan_39 : decode cX7_makesLoan 39 = .ok (.iaload, 1) := by decide +kernel
theorem dX7_makesLoan_40 : decode cX7_makesLoan 40 = .ok (.iaload, 1) := by decide +kernel
theorem dX7_makesLoan_41 : decode cX7_makesLoan 41 = .ok (.iconst 1, 1) := by decide +kernel
theorem dX7_makesLoan_42 : decode cX7_makesLoan 42 = .ok (.if_icmp .eq 7, 3) := by decide +kernel
theorem dX7_makesLoan_45 : decode cX7_makesLoan 45 = .ok (.iconst 1, 1) := by decide +kernel
theorem dX7_makesLoan_46 : decode cX7_makesLoan 46 = .ok (.goto 4, 3) := by decide +kernel
theorem dX7_makesLoan_49 : decode cX7_makesLoan 49 = .ok (.iconst 0, 1) := by decide +kernel
theorem dX7_makesLoan_50 : decode cX7_makesLoan 50 = .ok (.ireturn, 1) := by decide +kernel
theorem dX7_renews_0 : decode cX7_renews 0 = .ok (.aload_n 0, 1) := by decide +kernel
theorem dX7_renews_1 : decode cX7_renews 1 = .ok (.getfield 20, 3) := by decide +kernel
theorem dX7_renews_4 : decode cX7_renews 4 = .ok (.iload_n 1, 1) := by decide +kernel
theorem dX7_renews_5 : decode cX7_renews 5 = .ok (.iaload, 1) := by decide +kernel
theorem dX7_renews_6 : decode cX7_renews 6 = .ok (.bipush 7, 2) := by decide +kernel
theorem dX7_renews_8 : decode cX7_renews 8 = .ok (.if_icmp .eq 14, 3) := by decide +kernel
theorem dX7_renews_11 : decode cX7_renews 11 = .ok (.aload_n 0, 1) := by decide +kernel
theorem dX7_renews_12 : decode cX7_renews 12 = .ok (.getfield 20, 3) := by decide +kernel
theorem dX7_renews_15 : decode cX7_renews 15 = .ok (.iload_n 1, 1) := by decide +kernel
theorem dX7_renews_16 : decode cX7_renews 16 = .ok (.iaload, 1) := by decide +kernel
theorem dX7_renews_17 : decode cX7_renews 17 = .ok (.bipush 8, 2) := by decide +kernel
theorem dX7_renews_19 : decode cX7_renews 19 = .ok (.if_icmp .ne 13, 3) := by decide +kernel
theorem dX7_renews_22 : decode cX7_renews 22 = .ok (.aload_n 0, 1) := by decide +kernel
theorem dX7_renews_23 : decode cX7_renews 23 = .ok (.getfield 29, 3) := by decide +kernel
theorem dX7_renews_26 : decode cX7_renews 26 = .ok (.iload_n 1, 1) := by decide +kernel
theorem dX7_renews_27 : decode cX7_renews 27 = .ok (.iaload, 1) := by decide +kernel
theorem dX7_renews_28 : decode cX7_renews 28 = .ok (.iload_n 2, 1) := by decide +kernel
theorem dX7_renews_29 : decode cX7_renews 29 = .ok (.if_icmp .eq 23, 3) := by decide +kernel
theorem dX7_renews_32 : decode cX7_renews 32 = .ok (.aload_n 0, 1) := by decide +kernel
theorem dX7_renews_33 : decode cX7_renews 33 = .ok (.getfield 20, 3) := by decide +kernel
theorem dX7_renews_36 : decode cX7_renews 36 = .ok (.iload_n 1, 1) := by decide +kernel
theorem dX7_renews_37 : decode cX7_renews 37 = .ok (.iaload, 1) := by decide +kernel
theorem dX7_renews_38 : decode cX7_renews 38 = .ok (.iconst 5, 1) := by decide +kernel
theorem dX7_renews_39 : decode cX7_renews 39 = .ok (.if_icmp .ne 17, 3) := by decide +kernel
theorem dX7_renews_42 : decode cX7_renews 42 = .ok (.aload_n 0, 1) := by decide +kernel
theorem dX7_renews_43 : decode cX7_renews 43 = .ok (.getfield 23, 3) := by decide +kernel
theorem dX7_renews_46 : decode cX7_renews 46 = .ok (.iload_n 1, 1) := by decide +kernel
theorem dX7_renews_47 : decode cX7_renews 47 = .ok (.iaload, 1) := by decide +kernel
theorem dX7_renews_48 : decode cX7_renews 48 = .ok (.iload_n 2, 1) := by decide +kernel
theorem dX7_renews_49 : decode cX7_renews 49 = .ok (.if_icmp .ne 7, 3) := by decide +kernel
theorem dX7_renews_52 : decode cX7_renews 52 = .ok (.iconst 1, 1) := by decide +kernel
theorem dX7_renews_53 : decode cX7_renews 53 = .ok (.goto 4, 3) := by decide +kernel
theorem dX7_renews_56 : decode cX7_renews 56 = .ok (.iconst 0, 1) := by decide +kernel
theorem dX7_renews_57 : decode cX7_renews 57 = .ok (.ireturn, 1) := by decide +kernel
theorem dX7_renewed_0 : decode cX7_renewed 0 = .ok (.aload_n 0, 1) := by decide +kernel
theorem dX7_renewed_1 : decode cX7_renewed 1 = .ok (.getfield 20, 3) := by decide +kernel
theorem dX7_renewed_4 : decode cX7_renewed 4 = .ok (.iload_n 1, 1) := by decide +kernel
theorem dX7_renewed_5 : decode cX7_renewed 5 = .ok (.iaload, 1) := by decide +kernel
theorem dX7_renewed_6 : decode cX7_renewed 6 = .ok (.bipush 7, 2) := by decide +kernel
theorem dX7_renewed_8 : decode cX7_renewed 8 = .ok (.if_icmp .eq 14, 3) := by decide +kernel
theorem dX7_renewed_11 : decode cX7_renewed 11 = .ok (.aload_n 0, 1) := by decide +kernel
theorem dX7_renewed_12 : decode cX7_renewed 12 = .ok (.getfield 20, 3) := by decide +kernel
theorem dX7_renewed_15 : decode cX7_renewed 15 = .ok (.iload_n 1, 1) := by decide +kernel
theorem dX7_renewed_16 : decode cX7_renewed 16 = .ok (.iaload, 1) := by decide +kernel
theorem dX7_renewed_17 : decode cX7_renewed 17 = .ok (.bipush 8, 2) := by decide +kernel
theorem dX7_renewed_19 : decode cX7_renewed 19 = .ok (.if_icmp .ne 12, 3) := by decide +kernel
theorem dX7_renewed_22 : decode cX7_renewed 22 = .ok (.aload_n 0, 1) := by decide +kernel
theorem dX7_renewed_23 : decode cX7_renewed 23 = .ok (.getfield 29, 3) := by decide +kernel
theorem dX7_renewed_26 : decode cX7_renewed 26 = .ok (.iload_n 1, 1) := by decide +kernel
theorem dX7_renewed_27 : decode cX7_renewed 27 = .ok (.iaload, 1) := by decide +kernel
theorem dX7_renewed_28 : decode cX7_renewed 28 = .ok (.goto 37, 3) := by decide +kernel
theorem dX7_renewed_31 : decode cX7_renewed 31 = .ok (.aload_n 0, 1) := by decide +kernel
theorem dX7_renewed_32 : decode cX7_renewed 32 = .ok (.getfield 20, 3) := by decide +kernel
theorem dX7_renewed_35 : decode cX7_renewed 35 = .ok (.iload_n 1, 1) := by decide +kernel
theorem dX7_renewed_36 : decode cX7_renewed 36 = .ok (.iaload, 1) := by decide +kernel
theorem dX7_renewed_37 : decode cX7_renewed 37 = .ok (.iconst 5, 1) := by decide +kernel
theorem dX7_renewed_38 : decode cX7_renewed 38 = .ok (.if_icmp .ne 26, 3) := by decide +kernel
theorem dX7_renewed_41 : decode cX7_renewed 41 = .ok (.aload_n 0, 1) := by decide +kernel
theorem dX7_renewed_42 : decode cX7_renewed 42 = .ok (.getfield 7, 3) := by decide +kernel
theorem dX7_renewed_45 : decode cX7_renewed 45 = .ok (.aload_n 0, 1) := by decide +kernel
theorem dX7_renewed_46 : decode cX7_renewed 46 = .ok (.getfield 23, 3) := by decide +kernel
theorem dX7_renewed_49 : decode cX7_renewed 49 = .ok (.iload_n 1, 1) := by decide +kernel
theorem dX7_renewed_50 : decode cX7_renewed 50 = .ok (.iaload, 1) := by decide +kernel
theorem dX7_renewed_51 : decode cX7_renewed 51 = .ok (.iaload, 1) := by decide +kernel
theorem dX7_renewed_52 : decode cX7_renewed 52 = .ok (.ifCond .eq 12, 3) := by decide +kernel
theorem dX7_renewed_55 : decode cX7_renewed 55 = .ok (.aload_n 0, 1) := by decide +kernel
theorem dX7_renewed_56 : decode cX7_renewed 56 = .ok (.getfield 23, 3) := by decide +kernel
theorem dX7_renewed_59 : decode cX7_renewed 59 = .ok (.iload_n 1, 1) := by decide +kernel
theorem dX7_renewed_60 : decode cX7_renewed 60 = .ok (.iaload, 1) := by decide +kernel
theorem dX7_renewed_61 : decode cX7_renewed 61 = .ok (.goto 4, 3) := by decide +kernel
theorem dX7_renewed_64 : decode cX7_renewed 64 = .ok (.iconst (-1), 1) := by decide +kernel
theorem dX7_renewed_65 : decode cX7_renewed 65 = .ok (.ireturn, 1) := by decide +kernel
theorem dX7_uses_0 : decode cX7_uses 0 = .ok (.aload_n 0, 1) := by decide +kernel
theorem dX7_uses_1 : decode cX7_uses 1 = .ok (.getfield 20, 3) := by decide +kernel
theorem dX7_uses_4 : decode cX7_uses 4 = .ok (.iload_n 1, 1) := by decide +kernel
theorem dX7_uses_5 : decode cX7_uses 5 = .ok (.iaload, 1) := by decide +kernel
theorem dX7_uses_6 : decode cX7_uses 6 = .ok (.bipush 8, 2) := by decide +kernel
theorem dX7_uses_8 : decode cX7_uses 8 = .ok (.if_icmp .ne 21, 3) := by decide +kernel
theorem dX7_uses_11 : decode cX7_uses 11 = .ok (.aload_n 0, 1) := by decide +kernel
theorem dX7_uses_12 : decode cX7_uses 12 = .ok (.getfield 23, 3) := by decide +kernel
theorem dX7_uses_15 : decode cX7_uses 15 = .ok (.iload_n 1, 1) := by decide +kernel
theorem dX7_uses_16 : decode cX7_uses 16 = .ok (.iaload, 1) := by decide +kernel
theorem dX7_uses_17 : decode cX7_uses 17 = .ok (.iload_n 2, 1) := by decide +kernel
theorem dX7_uses_18 : decode cX7_uses 18 = .ok (.if_icmp .ne 7, 3) := by decide +kernel
theorem dX7_uses_21 : decode cX7_uses 21 = .ok (.iconst 1, 1) := by decide +kernel
theorem dX7_uses_22 : decode cX7_uses 22 = .ok (.goto 66, 3) := by decide +kernel
theorem dX7_uses_25 : decode cX7_uses 25 = .ok (.iconst 0, 1) := by decide +kernel
theorem dX7_uses_26 : decode cX7_uses 26 = .ok (.goto 62, 3) := by decide +kernel
theorem dX7_uses_29 : decode cX7_uses 29 = .ok (.aload_n 0, 1) := by decide +kernel
theorem dX7_uses_30 : decode cX7_uses 30 = .ok (.getfield 20, 3) := by decide +kernel
theorem dX7_uses_33 : decode cX7_uses 33 = .ok (.iload_n 1, 1) := by decide +kernel
theorem dX7_uses_34 : decode cX7_uses 34 = .ok (.iaload, 1) := by decide +kernel
theorem dX7_uses_35 : decode cX7_uses 35 = .ok (.ifCond .eq 52, 3) := by decide +kernel
theorem dX7_uses_38 : decode cX7_uses 38 = .ok (.aload_n 0, 1) := by decide +kernel
theorem dX7_uses_39 : decode cX7_uses 39 = .ok (.getfield 20, 3) := by decide +kernel
theorem dX7_uses_42 : decode cX7_uses 42 = .ok (.iload_n 1, 1) := by decide +kernel
theorem dX7_uses_43 : decode cX7_uses 43 = .ok (.iaload, 1) := by decide +kernel
theorem dX7_uses_44 : decode cX7_uses 44 = .ok (.iconst 5, 1) := by decide +kernel
theorem dX7_uses_45 : decode cX7_uses 45 = .ok (.if_icmp .eq 42, 3) := by decide +kernel
theorem dX7_uses_48 : decode cX7_uses 48 = .ok (.aload_n 0, 1) := by decide +kernel
theorem dX7_uses_49 : decode cX7_uses 49 = .ok (.getfield 20, 3) := by decide +kernel
theorem dX7_uses_52 : decode cX7_uses 52 = .ok (.iload_n 1, 1) := by decide +kernel
theorem dX7_uses_53 : decode cX7_uses 53 = .ok (.iaload, 1) := by decide +kernel
theorem dX7_uses_54 : decode cX7_uses 54 = .ok (.bipush 6, 2) := by decide +kernel
theorem dX7_uses_56 : decode cX7_uses 56 = .ok (.if_icmp .eq 31, 3) := by decide +kernel
theorem dX7_uses_59 : decode cX7_uses 59 = .ok (.aload_n 0, 1) := by decide +kernel
theorem dX7_uses_60 : decode cX7_uses 60 = .ok (.getfield 23, 3) := by decide +kernel
theorem dX7_uses_63 : decode cX7_uses 63 = .ok (.iload_n 1, 1) := by decide +kernel
theorem dX7_uses_64 : decode cX7_uses 64 = .ok (.iaload, 1) := by decide +kernel
theorem dX7_uses_65 : decode cX7_uses 65 = .ok (.iload_n 2, 1) := by decide +kernel
theorem dX7_uses_66 : decode cX7_uses 66 = .ok (.if_icmp .ne 21, 3) := by decide +kernel
theorem dX7_uses_69 : decode cX7_uses 69 = .ok (.aload_n 0, 1) := by decide +kernel
theorem dX7_uses_70 : decode cX7_uses 70 = .ok (.iload_n 2, 1) := by decide +kernel
theorem dX7_uses_71 : decode cX7_uses 71 = .ok (.aload_n 0, 1) := by decide +kernel
theorem dX7_uses_72 : decode cX7_uses 72 = .ok (.getfield 26, 3) := by decide +kernel
theorem dX7_uses_75 : decode cX7_uses 75 = .ok (.iload_n 1, 1) := by decide +kernel
theorem dX7_uses_76 : decode cX7_uses 76 = .ok (.iaload, 1) := by decide +kernel
theorem dX7_uses_77 : decode cX7_uses 77 = .ok (.invokevirtual 102, 3) := by decide +kernel
theorem dX7_uses_80 : decode cX7_uses 80 = .ok (.ifCond .eq 7, 3) := by decide +kernel
theorem dX7_uses_83 : decode cX7_uses 83 = .ok (.iconst 1, 1) := by decide +kernel
theorem dX7_uses_84 : decode cX7_uses 84 = .ok (.goto 4, 3) := by decide +kernel
theorem dX7_uses_87 : decode cX7_uses 87 = .ok (.iconst 0, 1) := by decide +kernel
theorem dX7_uses_88 : decode cX7_uses 88 = .ok (.ireturn, 1) := by decide +kernel
theorem dX7_come_0 : decode cX7_come 0 = .ok (.aload_n 1, 1) := by decide +kernel
theorem dX7_come_1 : decode cX7_come 1 = .ok (.iload_n 2, 1) := by decide +kernel
theorem dX7_come_2 : decode cX7_come 2 = .ok (.baload, 1) := by decide +kernel
theorem dX7_come_3 : decode cX7_come 3 = .ok (.ifCond .eq 4, 3) := by decide +kernel
theorem dX7_come_6 : decode cX7_come 6 = .ok (.return_, 1) := by decide +kernel
theorem dX7_come_7 : decode cX7_come 7 = .ok (.aload_n 1, 1) := by decide +kernel
theorem dX7_come_8 : decode cX7_come 8 = .ok (.iload_n 2, 1) := by decide +kernel
theorem dX7_come_9 : decode cX7_come 9 = .ok (.iconst 1, 1) := by decide +kernel
theorem dX7_come_10 : decode cX7_come 10 = .ok (.bastore, 1) := by decide +kernel
theorem dX7_come_11 : decode cX7_come 11 = .ok (.aload_n 0, 1) := by decide +kernel
theorem dX7_come_12 : decode cX7_come 12 = .ok (.getfield 58, 3) := by decide +kernel
theorem dX7_come_15 : decode cX7_come 15 = .ok (.aload_n 0, 1) := by decide +kernel
theorem dX7_come_16 : decode cX7_come 16 = .ok (.getfield 105, 3) := by decide +kernel
theorem dX7_come_19 : decode cX7_come 19 = .ok (.iload_n 3, 1) := by decide +kernel
theorem dX7_come_20 : decode cX7_come 20 = .ok (.iastore, 1) := by decide +kernel
theorem dX7_come_21 : decode cX7_come 21 = .ok (.aload_n 0, 1) := by decide +kernel
theorem dX7_come_22 : decode cX7_come 22 = .ok (.dup, 1) := by decide +kernel
theorem dX7_come_23 : decode cX7_come 23 = .ok (.getfield 105, 3) := by decide +kernel
theorem dX7_come_26 : decode cX7_come 26 = .ok (.iconst 1, 1) := by decide +kernel
theorem dX7_come_27 : decode cX7_come 27 = .ok (.iadd, 1) := by decide +kernel
theorem dX7_come_28 : decode cX7_come 28 = .ok (.putfield 105, 3) := by decide +kernel
theorem dX7_come_31 : decode cX7_come 31 = .ok (.return_, 1) := by decide +kernel
theorem dX7_walkWays_0 : decode cX7_walkWays 0 = .ok (.iconst 0, 1) := by decide +kernel
theorem dX7_walkWays_1 : decode cX7_walkWays 1 = .ok (.istore_n 1, 1) := by decide +kernel
theorem dX7_walkWays_2 : decode cX7_walkWays 2 = .ok (.iload_n 1, 1) := by decide +kernel
theorem dX7_walkWays_3 : decode cX7_walkWays 3 = .ok (.sipush 150, 3) := by decide +kernel
theorem dX7_walkWays_6 : decode cX7_walkWays 6 = .ok (.if_icmp .ge 16, 3) := by decide +kernel
theorem dX7_walkWays_9 : decode cX7_walkWays 9 = .ok (.aload_n 0, 1) := by decide +kernel
theorem dX7_walkWays_10 : decode cX7_walkWays 10 = .ok (.getfield 39, 3) := by decide +kernel
theorem dX7_walkWays_13 : decode cX7_walkWays 13 = .ok (.iload_n 1, 1) := by decide +kernel
theorem dX7_walkWays_14 : decode cX7_walkWays 14 = .ok (.iconst 0, 1) := by decide +kernel
theorem dX7_walkWays_15 : decode cX7_walkWays 15 = .ok (.bastore, 1) := by decide +kernel
theorem dX7_walkWays_16 : decode cX7_walkWays 16 = .ok (.iinc 1 1, 3) := by decide +kernel
theorem dX7_walkWays_19 : decode cX7_walkWays 19 = .ok (.goto (-17), 3) := by decide +kernel
theorem dX7_walkWays_22 : decode cX7_walkWays 22 = .ok (.aload_n 0, 1) := by decide +kernel
theorem dX7_walkWays_23 : decode cX7_walkWays 23 = .ok (.iconst 0, 1) := by decide +kernel
theorem dX7_walkWays_24 : decode cX7_walkWays 24 = .ok (.putfield 105, 3) := by decide +kernel
theorem dX7_walkWays_27 : decode cX7_walkWays 27 = .ok (.aload_n 0, 1) := by decide +kernel
theorem dX7_walkWays_28 : decode cX7_walkWays 28 = .ok (.aload_n 0, 1) := by decide +kernel
theorem dX7_walkWays_29 : decode cX7_walkWays 29 = .ok (.getfield 39, 3) := by decide +kernel
theorem dX7_walkWays_32 : decode cX7_walkWays 32 = .ok (.iconst 0, 1) := by decide +kernel
theorem dX7_walkWays_33 : decode cX7_walkWays 33 = .ok (.iconst 0, 1) := by decide +kernel
theorem dX7_walkWays_34 : decode cX7_walkWays 34 = .ok (.invokevirtual 108, 3) := by decide +kernel
theorem dX7_walkWays_37 : decode cX7_walkWays 37 = .ok (.aload_n 0, 1) := by decide +kernel
theorem dX7_walkWays_38 : decode cX7_walkWays 38 = .ok (.getfield 105, 3) := by decide +kernel
theorem dX7_walkWays_41 : decode cX7_walkWays 41 = .ok (.ifCond .le 81, 3) := by decide +kernel
theorem dX7_walkWays_44 : decode cX7_walkWays 44 = .ok (.aload_n 0, 1) := by decide +kernel
theorem dX7_walkWays_45 : decode cX7_walkWays 45 = .ok (.dup, 1) := by decide +kernel
theorem dX7_walkWays_46 : decode cX7_walkWays 46 = .ok (.getfield 105, 3) := by decide +kernel
theorem dX7_walkWays_49 : decode cX7_walkWays 49 = .ok (.iconst 1, 1) := by decide +kernel
theorem dX7_walkWays_50 : decode cX7_walkWays 50 = .ok (.isub, 1) := by decide +kernel
theorem dX7_walkWays_51 : decode cX7_walkWays 51 = .ok (.putfield 105, 3) := by decide +kernel
theorem dX7_walkWays_54 : decode cX7_walkWays 54 = .ok (.aload_n 0, 1) := by decide +kernel
theorem dX7_walkWays_55 : decode cX7_walkWays 55 = .ok (.getfield 58, 3) := by decide +kernel
theorem dX7_walkWays_58 : decode cX7_walkWays 58 = .ok (.aload_n 0, 1) := by decide +kernel
theorem dX7_walkWays_59 : decode cX7_walkWays 59 = .ok (.getfield 105, 3) := by decide +kernel
theorem dX7_walkWays_62 : decode cX7_walkWays 62 = .ok (.iaload, 1) := by decide +kernel
theorem dX7_walkWays_63 : decode cX7_walkWays 63 = .ok (.istore_n 1, 1) := by decide +kernel
theorem dX7_walkWays_64 : decode cX7_walkWays 64 = .ok (.iconst 0, 1) := by decide +kernel
theorem dX7_walkWays_65 : decode cX7_walkWays 65 = .ok (.istore_n 2, 1) := by decide +kernel
theorem dX7_walkWays_66 : decode cX7_walkWays 66 = .ok (.iload_n 2, 1) := by decide +kernel
theorem dX7_walkWays_67 : decode cX7_walkWays 67 = .ok (.iconst 4, 1) := by decide +kernel
theorem dX7_walkWays_68 : decode cX7_walkWays 68 = .ok (.if_icmp .ge 51, 3) := by decide +kernel
theorem dX7_walkWays_71 : decode cX7_walkWays 71 = .ok (.aload_n 0, 1) := by decide +kernel
theorem dX7_walkWays_72 : decode cX7_walkWays 72 = .ok (.getfield 32, 3) := by decide +kernel
theorem dX7_walkWays_75 : decode cX7_walkWays 75 = .ok (.iconst 4, 1) := by decide +kernel
theorem dX7_walkWays_76 : decode cX7_walkWays 76 = .ok (.iload_n 1, 1) := by decide +kernel
theorem dX7_walkWays_77 : decode cX7_walkWays 77 = .ok (.imul, 1) := by decide +kernel
theorem dX7_walkWays_78 : decode cX7_walkWays 78 = .ok (.iload_n 2, 1) := by decide +kernel
theorem dX7_walkWays_79 : decode cX7_walkWays 79 = .ok (.iadd, 1) := by decide +kernel
theorem dX7_walkWays_80 : decode cX7_walkWays 80 = .ok (.iaload, 1) := by decide +kernel
theorem dX7_walkWays_81 : decode cX7_walkWays 81 = .ok (.iconst (-1), 1) := by decide +kernel
theorem dX7_walkWays_82 : decode cX7_walkWays 82 = .ok (.if_icmp .eq 31, 3) := by decide +kernel
theorem dX7_walkWays_85 : decode cX7_walkWays 85 = .ok (.aload_n 0, 1) := by decide +kernel
theorem dX7_walkWays_86 : decode cX7_walkWays 86 = .ok (.aload_n 0, 1) := by decide +kernel
theorem dX7_walkWays_87 : decode cX7_walkWays 87 = .ok (.getfield 39, 3) := by decide +kernel
theorem dX7_walkWays_90 : decode cX7_walkWays 90 = .ok (.aload_n 0, 1) := by decide +kernel
theorem dX7_walkWays_91 : decode cX7_walkWays 91 = .ok (.getfield 32, 3) := by decide +kernel
theorem dX7_walkWays_94 : decode cX7_walkWays 94 = .ok (.iconst 4, 1) := by decide +kernel
theorem dX7_walkWays_95 : decode cX7_walkWays 95 = .ok (.iload_n 1, 1) := by decide +kernel
theorem dX7_walkWays_96 : decode cX7_walkWays 96 = .ok (.imul, 1) := by decide +kernel
theorem dX7_walkWays_97 : decode cX7_walkWays 97 = .ok (.iload_n 2, 1) := by decide +kernel
theorem dX7_walkWays_98 : decode cX7_walkWays 98 = .ok (.iadd, 1) := by decide +kernel
theorem dX7_walkWays_99 : decode cX7_walkWays 99 = .ok (.iaload, 1) := by decide +kernel
theorem dX7_walkWays_100 : decode cX7_walkWays 100 = .ok (.aload_n 0, 1) := by decide +kernel
theorem dX7_walkWays_101 : decode cX7_walkWays 101 = .ok (.getfield 32, 3) := by decide +kernel
theorem dX7_walkWays_104 : decode cX7_walkWays 104 = .ok (.iconst 4, 1) := by decide +kernel
theorem dX7_walkWays_105 : decode cX7_walkWays 105 = .ok (.iload_n 1, 1) := by decide +kernel
theorem dX7_walkWays_106 : decode cX7_walkWays 106 = .ok (.imul, 1) := by decide +kernel
theorem dX7_walkWays_107 : decode cX7_walkWays 107 = .ok (.iload_n 2, 1) := by decide +kernel
theorem dX7_walkWays_108 : decode cX7_walkWays 108 = .ok (.iadd, 1) := by decide +kernel
theorem dX7_walkWays_109 : decode cX7_walkWays 109 = .ok (.iaload, 1) := by decide +kernel
theorem dX7_walkWays_110 : decode cX7_walkWays 110 = .ok (.invokevirtual 108, 3) := by decide +kernel
theorem dX7_walkWays_113 : decode cX7_walkWays 113 = .ok (.iinc 2 1, 3) := by decide +kernel
theorem dX7_walkWays_116 : decode cX7_walkWays 116 = .ok (.goto (-50), 3) := by decide +kernel
theorem dX7_walkWays_119 : decode cX7_walkWays 119 = .ok (.goto (-82), 3) := by decide +kernel
theorem dX7_walkWays_122 : decode cX7_walkWays 122 = .ok (.return_, 1) := by decide +kernel
theorem dX7_walkLeaf_0 : decode cX7_walkLeaf 0 = .ok (.iconst 4, 1) := by decide +kernel
theorem dX7_walkLeaf_1 : decode cX7_walkLeaf 1 = .ok (.iload_n 1, 1) := by decide +kernel
theorem dX7_walkLeaf_2 : decode cX7_walkLeaf 2 = .ok (.imul, 1) := by decide +kernel
theorem dX7_walkLeaf_3 : decode cX7_walkLeaf 3 = .ok (.iload_n 2, 1) := by decide +kernel
theorem dX7_walkLeaf_4 : decode cX7_walkLeaf 4 = .ok (.iadd, 1) := by decide +kernel
theorem dX7_walkLeaf_5 : decode cX7_walkLeaf 5 = .ok (.istore 5, 2) := by decide +kernel
theorem dX7_walkLeaf_7 : decode cX7_walkLeaf 7 = .ok (.iconst 0, 1) := by decide +kernel
theorem dX7_walkLeaf_8 : decode cX7_walkLeaf 8 = .ok (.istore 6, 2) := by decide +kernel
theorem dX7_walkLeaf_10 : decode cX7_walkLeaf 10 = .ok (.iload 6, 2) := by decide +kernel
theorem dX7_walkLeaf_12 : decode cX7_walkLeaf 12 = .ok (.sipush 150, 3) := by decide +kernel
theorem dX7_walkLeaf_15 : decode cX7_walkLeaf 15 = .ok (.if_icmp .ge 21, 3) := by decide +kernel
theorem dX7_walkLeaf_18 : decode cX7_walkLeaf 18 = .ok (.aload 4, 2) := by decide +kernel
theorem dX7_walkLeaf_20 : decode cX7_walkLeaf 20 = .ok (.bipush 64, 2) := by decide +kernel
theorem dX7_walkLeaf_22 : decode cX7_walkLeaf 22 = .ok (.iload 6, 2) := by decide +kernel
theorem dX7_walkLeaf_24 : decode cX7_walkLeaf 24 = .ok (.imul, 1) := by decide +kernel
theorem dX7_walkLeaf_25 : decode cX7_walkLeaf 25 = .ok (.iload 5, 2) := by decide +kernel
theorem dX7_walkLeaf_27 : decode cX7_walkLeaf 27 = .ok (.iadd, 1) := by decide +kernel
theorem dX7_walkLeaf_28 : decode cX7_walkLeaf 28 = .ok (.iconst 0, 1) := by decide +kernel
theorem dX7_walkLeaf_29 : decode cX7_walkLeaf 29 = .ok (.bastore, 1) := by decide +kernel
theorem dX7_walkLeaf_30 : decode cX7_walkLeaf 30 = .ok (.iinc 6 1, 3) := by decide +kernel
theorem dX7_walkLeaf_33 : decode cX7_walkLeaf 33 = .ok (.goto (-23), 3) := by decide +kernel
theorem dX7_walkLeaf_36 : decode cX7_walkLeaf 36 = .ok (.aload_n 0, 1) := by decide +kernel
theorem dX7_walkLeaf_37 : decode cX7_walkLeaf 37 = .ok (.iconst 0, 1) := by decide +kernel
theorem dX7_walkLeaf_38 : decode cX7_walkLeaf 38 = .ok (.putfield 105, 3) := by decide +kernel
theorem dX7_walkLeaf_41 : decode cX7_walkLeaf 41 = .ok (.aload_n 0, 1) := by decide +kernel
theorem dX7_walkLeaf_42 : decode cX7_walkLeaf 42 = .ok (.getfield 16, 3) := by decide +kernel
theorem dX7_walkLeaf_45 : decode cX7_walkLeaf 45 = .ok (.iload_n 1, 1) := by decide +kernel
theorem dX7_walkLeaf_46 : decode cX7_walkLeaf 46 = .ok (.baload, 1) := by decide +kernel
theorem dX7_walkLeaf_47 : decode cX7_walkLeaf 47 = .ok (.iload_n 3, 1) := by decide +kernel
theorem dX7_walkLeaf_48 : decode cX7_walkLeaf 48 = .ok (.if_icmp .ne 12, 3) := by decide +kernel
theorem dX7_walkLeaf_51 : decode cX7_walkLeaf 51 = .ok (.aload_n 0, 1) := by decide +kernel
theorem dX7_walkLeaf_52 : decode cX7_walkLeaf 52 = .ok (.aload 4, 2) := by decide +kernel
theorem dX7_walkLeaf_54 : decode cX7_walkLeaf 54 = .ok (.iload 5, 2) := by decide +kernel
theorem dX7_walkLeaf_56 : decode cX7_walkLeaf 56 = .ok (.iconst 0, 1) := by decide +kernel
theorem dX7_walkLeaf_57 : decode cX7_walkLeaf 57 = .ok (.invokevirtual 108, 3) := by decide +kernel
theorem dX7_walkLeaf_60 : decode cX7_walkLeaf 60 = .ok (.iconst 0, 1) := by decide +kernel
theorem dX7_walkLeaf_61 : decode cX7_walkLeaf 61 = .ok (.istore 6, 2) := by decide +kernel
theorem dX7_walkLeaf_63 : decode cX7_walkLeaf 63 = .ok (.iload 6, 2) := by decide +kernel
theorem dX7_walkLeaf_65 : decode cX7_walkLeaf 65 = .ok (.sipush 150, 3) := by decide +kernel
theorem dX7_walkLeaf_68 : decode cX7_walkLeaf 68 = .ok (.if_icmp .ge 118, 3) := by decide +kernel
theorem dX7_walkLeaf_71 : decode cX7_walkLeaf 71 = .ok (.aload_n 0, 1) := by decide +kernel
theorem dX7_walkLeaf_72 : decode cX7_walkLeaf 72 = .ok (.getfield 39, 3) := by decide +kernel
theorem dX7_walkLeaf_75 : decode cX7_walkLeaf 75 = .ok (.iload 6, 2) := by decide +kernel
theorem dX7_walkLeaf_77 : decode cX7_walkLeaf 77 = .ok (.baload, 1) := by decide +kernel
theorem dX7_walkLeaf_78 : decode cX7_walkLeaf 78 = .ok (.ifCond .eq 102, 3) := by decide +kernel
theorem dX7_walkLeaf_81 : decode cX7_walkLeaf 81 = .ok (.iload_n 3, 1) := by decide +kernel
theorem dX7_walkLeaf_82 : decode cX7_walkLeaf 82 = .ok (.ifCond .eq 17, 3) := by decide +kernel
theorem dX7_walkLeaf_85 : decode cX7_walkLeaf 85 = .ok (.aload_n 0, 1) := by decide +kernel
theorem dX7_walkLeaf_86 : decode cX7_walkLeaf 86 = .ok (.iload 6, 2) := by decide +kernel
theorem dX7_walkLeaf_88 : decode cX7_walkLeaf 88 = .ok (.iload_n 1, 1) := by decide +kernel
theorem dX7_walkLeaf_89 : decode cX7_walkLeaf 89 = .ok (.iload_n 2, 1) := by decide +kernel
theorem dX7_walkLeaf_90 : decode cX7_walkLeaf 90 = .ok (.invokevirtual 111, 3) := by decide +kernel
theorem dX7_walkLeaf_93 : decode cX7_walkLeaf 93 = .ok (.ifCond .eq 87, 3) := by decide +kernel
theorem dX7_walkLeaf_96 : decode cX7_walkLeaf 96 = .ok (.goto 17, 3) := by decide +kernel
theorem dX7_walkLeaf_99 : decode cX7_walkLeaf 99 = .ok (.aload_n 0, 1) := by decide +kernel
theorem dX7_walkLeaf_100 : decode cX7_walkLeaf 100 = .ok (.iload 6, 2) := by decide +kernel
theorem dX7_walkLeaf_102 : decode cX7_walkLeaf 102 = .ok (.iload_n 1, 1) := by decide +kernel
theorem dX7_walkLeaf_103 : decode cX7_walkLeaf 103 = .ok (.iload_n 2, 1) := by decide +kernel
theorem dX7_walkLeaf_104 : decode cX7_walkLeaf 104 = .ok (.invokevirtual 114, 3) := by decide +kernel
theorem dX7_walkLeaf_107 : decode cX7_walkLeaf 107 = .ok (.ifCond .ne 6, 3) := by decide +kernel
theorem dX7_walkLeaf_110 : decode cX7_walkLeaf 110 = .ok (.goto 70, 3) := by decide +kernel
theorem dX7_walkLeaf_113 : decode cX7_walkLeaf 113 = .ok (.iconst 0, 1) := by decide +kernel
theorem dX7_walkLeaf_114 : decode cX7_walkLeaf 114 = .ok (.istore 7, 2) := by decide +kernel
theorem dX7_walkLeaf_116 : decode cX7_walkLeaf 116 = .ok (.iload 7, 2) := by decide +kernel
theorem dX7_walkLeaf_118 : decode cX7_walkLeaf 118 = .ok (.iconst 4, 1) := by decide +kernel
theorem dX7_walkLeaf_119 : decode cX7_walkLeaf 119 = .ok (.if_icmp .ge 61, 3) := by decide +kernel
theorem dX7_walkLeaf_122 : decode cX7_walkLeaf 122 = .ok (.aload_n 0, 1) := by decide +kernel
theorem dX7_walkLeaf_123 : decode cX7_walkLeaf 123 = .ok (.getfield 32, 3) := by decide +kernel
theorem dX7_walkLeaf_126 : decode cX7_walkLeaf 126 = .ok (.iconst 4, 1) := by decide +kernel
theorem dX7_walkLeaf_127 : decode cX7_walkLeaf 127 = .ok (.iload 6, 2) := by decide +kernel
theorem dX7_walkLeaf_129 : decode cX7_walkLeaf 129 = .ok (.imul, 1) := by decide +kernel
theorem dX7_walkLeaf_130 : decode cX7_walkLeaf 130 = .ok (.iload 7, 2) := by decide +kernel
theorem dX7_walkLeaf_132 : decode cX7_walkLeaf 132 = .ok (.iadd, 1) := by decide +kernel
theorem dX7_walkLeaf_133 : decode cX7_walkLeaf 133 = .ok (.iaload, 1) := by decide +kernel
theorem dX7_walkLeaf_134 : decode cX7_walkLeaf 134 = .ok (.iconst (-1), 1) := by decide +kernel
theorem dX7_walkLeaf_135 : decode cX7_walkLeaf 135 = .ok (.if_icmp .eq 39, 3) := by decide +kernel
theorem dX7_walkLeaf_138 : decode cX7_walkLeaf 138 = .ok (.aload_n 0, 1) := by decide +kernel
theorem dX7_walkLeaf_139 : decode cX7_walkLeaf 139 = .ok (.aload 4, 2) := by decide +kernel
theorem dX7_walkLeaf_141 : decode cX7_walkLeaf 141 = .ok (.bipush 64, 2) := by decide +kernel
theorem dX7_walkLeaf_143 : decode cX7_walkLeaf 143 = .ok (.aload_n 0, 1) := by decide +kernel
theorem dX7_walkLeaf_144 : decode cX7_walkLeaf 144 = .ok (.getfield 32, 3) := by decide +kernel
theorem dX7_walkLeaf_147 : decode cX7_walkLeaf 147 = .ok (.iconst 4, 1) := by decide +kernel
theorem dX7_walkLeaf_148 : decode cX7_walkLeaf 148 = .ok (.iload 6, 2) := by decide +kernel
theorem dX7_walkLeaf_150 : decode cX7_walkLeaf 150 = .ok (.imul, 1) := by decide +kernel
theorem dX7_walkLeaf_151 : decode cX7_walkLeaf 151 = .ok (.iload 7, 2) := by decide +kernel
theorem dX7_walkLeaf_153 : decode cX7_walkLeaf 153 = .ok (.iadd, 1) := by decide +kernel
theorem dX7_walkLeaf_154 : decode cX7_walkLeaf 154 = .ok (.iaload, 1) := by decide +kernel
theorem dX7_walkLeaf_155 : decode cX7_walkLeaf 155 = .ok (.imul, 1) := by decide +kernel
theorem dX7_walkLeaf_156 : decode cX7_walkLeaf 156 = .ok (.iload 5, 2) := by decide +kernel
theorem dX7_walkLeaf_158 : decode cX7_walkLeaf 158 = .ok (.iadd, 1) := by decide +kernel
theorem dX7_walkLeaf_159 : decode cX7_walkLeaf 159 = .ok (.aload_n 0, 1) := by decide +kernel
theorem dX7_walkLeaf_160 : decode cX7_walkLeaf 160 = .ok (.getfield 32, 3) := by decide +kernel
theorem dX7_walkLeaf_163 : decode cX7_walkLeaf 163 = .ok (.iconst 4, 1) := by decide +kernel
theorem dX7_walkLeaf_164 : decode cX7_walkLeaf 164 = .ok (.iload 6, 2) := by decide +kernel
theorem dX7_walkLeaf_166 : decode cX7_walkLeaf 166 = .ok (.imul, 1) := by decide +kernel
theorem dX7_walkLeaf_167 : decode cX7_walkLeaf 167 = .ok (.iload 7, 2) := by decide +kernel
theorem dX7_walkLeaf_169 : decode cX7_walkLeaf 169 = .ok (.iadd, 1) := by decide +kernel
theorem dX7_walkLeaf_170 : decode cX7_walkLeaf 170 = .ok (.iaload, 1) := by decide +kernel
theorem dX7_walkLeaf_171 : decode cX7_walkLeaf 171 = .ok (.invokevirtual 108, 3) := by decide +kernel
theorem dX7_walkLeaf_174 : decode cX7_walkLeaf 174 = .ok (.iinc 7 1, 3) := by decide +kernel
theorem dX7_walkLeaf_177 : decode cX7_walkLeaf 177 = .ok (.goto (-61), 3) := by decide +kernel
theorem dX7_walkLeaf_180 : decode cX7_walkLeaf 180 = .ok (.iinc 6 1, 3) := by decide +kernel
theorem dX7_walkLeaf_183 : decode cX7_walkLeaf 183 = .ok (.goto (-120), 3) := by decide +kernel
theorem dX7_walkLeaf_186 : decode cX7_walkLeaf 186 = .ok (.aload_n 0, 1) := by decide +kernel
theorem dX7_walkLeaf_187 : decode cX7_walkLeaf 187 = .ok (.getfield 105, 3) := by decide +kernel
theorem dX7_walkLeaf_190 : decode cX7_walkLeaf 190 = .ok (.ifCond .le 126, 3) := by decide +kernel
theorem dX7_walkLeaf_193 : decode cX7_walkLeaf 193 = .ok (.aload_n 0, 1) := by decide +kernel
theorem dX7_walkLeaf_194 : decode cX7_walkLeaf 194 = .ok (.dup, 1) := by decide +kernel
theorem dX7_walkLeaf_195 : decode cX7_walkLeaf 195 = .ok (.getfield 105, 3) := by decide +kernel
theorem dX7_walkLeaf_198 : decode cX7_walkLeaf 198 = .ok (.iconst 1, 1) := by decide +kernel
theorem dX7_walkLeaf_199 : decode cX7_walkLeaf 199 = .ok (.isub, 1) := by decide +kernel
theorem dX7_walkLeaf_200 : decode cX7_walkLeaf 200 = .ok (.putfield 105, 3) := by decide +kernel
theorem dX7_walkLeaf_203 : decode cX7_walkLeaf 203 = .ok (.aload_n 0, 1) := by decide +kernel
theorem dX7_walkLeaf_204 : decode cX7_walkLeaf 204 = .ok (.getfield 58, 3) := by decide +kernel
theorem dX7_walkLeaf_207 : decode cX7_walkLeaf 207 = .ok (.aload_n 0, 1) := by decide +kernel
theorem dX7_walkLeaf_208 : decode cX7_walkLeaf 208 = .ok (.getfield 105, 3) := by decide +kernel
theorem dX7_walkLeaf_211 : decode cX7_walkLeaf 211 = .ok (.iaload, 1) := by decide +kernel
theorem dX7_walkLeaf_212 : decode cX7_walkLeaf 212 = .ok (.istore 6, 2) := by decide +kernel
theorem dX7_walkLeaf_214 : decode cX7_walkLeaf 214 = .ok (.iload_n 3, 1) := by decide +kernel
theorem dX7_walkLeaf_215 : decode cX7_walkLeaf 215 = .ok (.ifCond .eq 17, 3) := by decide +kernel
theorem dX7_walkLeaf_218 : decode cX7_walkLeaf 218 = .ok (.aload_n 0, 1) := by decide +kernel
theorem dX7_walkLeaf_219 : decode cX7_walkLeaf 219 = .ok (.iload 6, 2) := by decide +kernel
theorem dX7_walkLeaf_221 : decode cX7_walkLeaf 221 = .ok (.iload_n 1, 1) := by decide +kernel
theorem dX7_walkLeaf_222 : decode cX7_walkLeaf 222 = .ok (.iload_n 2, 1) := by decide +kernel
theorem dX7_walkLeaf_223 : decode cX7_walkLeaf 223 = .ok (.invokevirtual 114, 3) := by decide +kernel
theorem dX7_walkLeaf_226 : decode cX7_walkLeaf 226 = .ok (.ifCond .eq 20, 3) := by decide +kernel
theorem dX7_walkLeaf_229 : decode cX7_walkLeaf 229 = .ok (.goto (-43), 3) := by decide +kernel
theorem dX7_walkLeaf_232 : decode cX7_walkLeaf 232 = .ok (.aload_n 0, 1) := by decide +kernel
theorem dX7_walkLeaf_233 : decode cX7_walkLeaf 233 = .ok (.iload 6, 2) := by decide +kernel
theorem dX7_walkLeaf_235 : decode cX7_walkLeaf 235 = .ok (.iload_n 1, 1) := by decide +kernel
theorem dX7_walkLeaf_236 : decode cX7_walkLeaf 236 = .ok (.iload_n 2, 1) := by decide +kernel
theorem dX7_walkLeaf_237 : decode cX7_walkLeaf 237 = .ok (.invokevirtual 111, 3) := by decide +kernel
theorem dX7_walkLeaf_240 : decode cX7_walkLeaf 240 = .ok (.ifCond .eq 6, 3) := by decide +kernel
theorem dX7_walkLeaf_243 : decode cX7_walkLeaf 243 = .ok (.goto (-57), 3) := by decide +kernel
theorem dX7_walkLeaf_246 : decode cX7_walkLeaf 246 = .ok (.iconst 0, 1) := by decide +kernel
theorem dX7_walkLeaf_247 : decode cX7_walkLeaf 247 = .ok (.istore 7, 2) := by decide +kernel
theorem dX7_walkLeaf_249 : decode cX7_walkLeaf 249 = .ok (.iload 7, 2) := by decide +kernel
theorem dX7_walkLeaf_251 : decode cX7_walkLeaf 251 = .ok (.iconst 4, 1) := by decide +kernel
theorem dX7_walkLeaf_252 : decode cX7_walkLeaf 252 = .ok (.if_icmp .ge 61, 3) := by decide +kernel
theorem dX7_walkLeaf_255 : decode cX7_walkLeaf 255 = .ok (.aload_n 0, 1) := by decide +kernel
theorem dX7_walkLeaf_256 : decode cX7_walkLeaf 256 = .ok (.getfield 32, 3) := by decide +kernel
theorem dX7_walkLeaf_259 : decode cX7_walkLeaf 259 = .ok (.iconst 4, 1) := by decide +kernel
theorem dX7_walkLeaf_260 : decode cX7_walkLeaf 260 = .ok (.iload 6, 2) := by decide +kernel
theorem dX7_walkLeaf_262 : decode cX7_walkLeaf 262 = .ok (.imul, 1) := by decide +kernel
theorem dX7_walkLeaf_263 : decode cX7_walkLeaf 263 = .ok (.iload 7, 2) := by decide +kernel
theorem dX7_walkLeaf_265 : decode cX7_walkLeaf 265 = .ok (.iadd, 1) := by decide +kernel
theorem dX7_walkLeaf_266 : decode cX7_walkLeaf 266 = .ok (.iaload, 1) := by decide +kernel
theorem dX7_walkLeaf_267 : decode cX7_walkLeaf 267 = .ok (.iconst (-1), 1) := by decide +kernel
theorem dX7_walkLeaf_268 : decode cX7_walkLeaf 268 = .ok (.if_icmp .eq 39, 3) := by decide +kernel
theorem dX7_walkLeaf_271 : decode cX7_walkLeaf 271 = .ok (.aload_n 0, 1) := by decide +kernel
theorem dX7_walkLeaf_272 : decode cX7_walkLeaf 272 = .ok (.aload 4, 2) := by decide +kernel
theorem dX7_walkLeaf_274 : decode cX7_walkLeaf 274 = .ok (.bipush 64, 2) := by decide +kernel
theorem dX7_walkLeaf_276 : decode cX7_walkLeaf 276 = .ok (.aload_n 0, 1) := by decide +kernel
theorem dX7_walkLeaf_277 : decode cX7_walkLeaf 277 = .ok (.getfield 32, 3) := by decide +kernel
theorem dX7_walkLeaf_280 : decode cX7_walkLeaf 280 = .ok (.iconst 4, 1) := by decide +kernel
theorem dX7_walkLeaf_281 : decode cX7_walkLeaf 281 = .ok (.iload 6, 2) := by decide +kernel
theorem dX7_walkLeaf_283 : decode cX7_walkLeaf 283 = .ok (.imul, 1) := by decide +kernel
theorem dX7_walkLeaf_284 : decode cX7_walkLeaf 284 = .ok (.iload 7, 2) := by decide +kernel
theorem dX7_walkLeaf_286 : decode cX7_walkLeaf 286 = .ok (.iadd, 1) := by decide +kernel
theorem dX7_walkLeaf_287 : decode cX7_walkLeaf 287 = .ok (.iaload, 1) := by decide +kernel
theorem dX7_walkLeaf_288 : decode cX7_walkLeaf 288 = .ok (.imul, 1) := by decide +kernel
theorem dX7_walkLeaf_289 : decode cX7_walkLeaf 289 = .ok (.iload 5, 2) := by decide +kernel
theorem dX7_walkLeaf_291 : decode cX7_walkLeaf 291 = .ok (.iadd, 1) := by decide +kernel
theorem dX7_walkLeaf_292 : decode cX7_walkLeaf 292 = .ok (.aload_n 0, 1) := by decide +kernel
theorem dX7_walkLeaf_293 : decode cX7_walkLeaf 293 = .ok (.getfield 32, 3) := by decide +kernel
theorem dX7_walkLeaf_296 : decode cX7_walkLeaf 296 = .ok (.iconst 4, 1) := by decide +kernel
theorem dX7_walkLeaf_297 : decode cX7_walkLeaf 297 = .ok (.iload 6, 2) := by decide +kernel
theorem dX7_walkLeaf_299 : decode cX7_walkLeaf 299 = .ok (.imul, 1) := by decide +kernel
theorem dX7_walkLeaf_300 : decode cX7_walkLeaf 300 = .ok (.iload 7, 2) := by decide +kernel
theorem dX7_walkLeaf_302 : decode cX7_walkLeaf 302 = .ok (.iadd, 1) := by decide +kernel
theorem dX7_walkLeaf_303 : decode cX7_walkLeaf 303 = .ok (.iaload, 1) := by decide +kernel
theorem dX7_walkLeaf_304 : decode cX7_walkLeaf 304 = .ok (.invokevirtual 108, 3) := by decide +kernel
theorem dX7_walkLeaf_307 : decode cX7_walkLeaf 307 = .ok (.iinc 7 1, 3) := by decide +kernel
theorem dX7_walkLeaf_310 : decode cX7_walkLeaf 310 = .ok (.goto (-61), 3) := by decide +kernel
theorem dX7_walkLeaf_313 : decode cX7_walkLeaf 313 = .ok (.goto (-127), 3) := by decide +kernel
theorem dX7_walkLeaf_316 : decode cX7_walkLeaf 316 = .ok (.return_, 1) := by decide +kernel
theorem dX7_cell_0 : decode cX7_cell 0 = .ok (.sipush 150, 3) := by decide +kernel
theorem dX7_cell_3 : decode cX7_cell 3 = .ok (.iload_n 1, 1) := by decide +kernel
theorem dX7_cell_4 : decode cX7_cell 4 = .ok (.imul, 1) := by decide +kernel
theorem dX7_cell_5 : decode cX7_cell 5 = .ok (.iload_n 2, 1) := by decide +kernel
theorem dX7_cell_6 : decode cX7_cell 6 = .ok (.iadd, 1) := by decide +kernel
theorem dX7_cell_7 : decode cX7_cell 7 = .ok (.bipush 16, 2) := by decide +kernel
theorem dX7_cell_9 : decode cX7_cell 9 = .ok (.imul, 1) := by decide +kernel
theorem dX7_cell_10 : decode cX7_cell 10 = .ok (.iload_n 3, 1) := by decide +kernel
theorem dX7_cell_11 : decode cX7_cell 11 = .ok (.iadd, 1) := by decide +kernel
theorem dX7_cell_12 : decode cX7_cell 12 = .ok (.ireturn, 1) := by decide +kernel
theorem dX7_spread_0 : decode cX7_spread 0 = .ok (.aload_n 0, 1) := by decide +kernel
theorem dX7_spread_1 : decode cX7_spread 1 = .ok (.getfield 61, 3) := by decide +kernel
theorem dX7_spread_4 : decode cX7_spread 4 = .ok (.iload_n 1, 1) := by decide +kernel
theorem dX7_spread_5 : decode cX7_spread 5 = .ok (.iaload, 1) := by decide +kernel
theorem dX7_spread_6 : decode cX7_spread 6 = .ok (.istore 4, 2) := by decide +kernel
theorem dX7_spread_8 : decode cX7_spread 8 = .ok (.iconst 0, 1) := by decide +kernel
theorem dX7_spread_9 : decode cX7_spread 9 = .ok (.istore 5, 2) := by decide +kernel
theorem dX7_spread_11 : decode cX7_spread 11 = .ok (.iload 5, 2) := by decide +kernel
theorem dX7_spread_13 : decode cX7_spread 13 = .ok (.iconst 4, 1) := by decide +kernel
theorem dX7_spread_14 : decode cX7_spread 14 = .ok (.if_icmp .ge 89, 3) := by decide +kernel
theorem dX7_spread_17 : decode cX7_spread 17 = .ok (.aload_n 0, 1) := by decide +kernel
theorem dX7_spread_18 : decode cX7_spread 18 = .ok (.getfield 32, 3) := by decide +kernel
theorem dX7_spread_21 : decode cX7_spread 21 = .ok (.iconst 4, 1) := by decide +kernel
theorem dX7_spread_22 : decode cX7_spread 22 = .ok (.iload_n 2, 1) := by decide +kernel
theorem dX7_spread_23 : decode cX7_spread 23 = .ok (.imul, 1) := by decide +kernel
theorem dX7_spread_24 : decode cX7_spread 24 = .ok (.iload 5, 2) := by decide +kernel
theorem dX7_spread_26 : decode cX7_spread 26 = .ok (.iadd, 1) := by decide +kernel
theorem dX7_spread_27 : decode cX7_spread 27 = .ok (.iaload, 1) := by decide +kernel
theorem dX7_spread_28 : decode cX7_spread 28 = .ok (.istore 6, 2) := by decide +kernel
theorem dX7_spread_30 : decode cX7_spread 30 = .ok (.iload 6, 2) := by decide +kernel
theorem dX7_spread_32 : decode cX7_spread 32 = .ok (.iconst (-1), 1) := by decide +kernel
theorem dX7_spread_33 : decode cX7_spread 33 = .ok (.if_icmp .eq 64, 3) := by decide +kernel
theorem dX7_spread_36 : decode cX7_spread 36 = .ok (.aload_n 0, 1) := by decide +kernel
theorem dX7_spread_37 : decode cX7_spread 37 = .ok (.getfield 49, 3) := by decide +kernel
theorem dX7_spread_40 : decode cX7_spread 40 = .ok (.aload_n 0, 1) := by decide +kernel
theorem dX7_spread_41 : decode cX7_spread 41 = .ok (.iload 4, 2) := by decide +kernel
theorem dX7_spread_43 : decode cX7_spread 43 = .ok (.iload 6, 2) := by decide +kernel
theorem dX7_spread_45 : decode cX7_spread 45 = .ok (.iload_n 3, 1) := by decide +kernel
theorem dX7_spread_46 : decode cX7_spread 46 = .ok (.invokevirtual 117, 3) := by decide +kernel
theorem dX7_spread_49 : decode cX7_spread 49 = .ok (.baload, 1) := by decide +kernel
theorem dX7_spread_50 : decode cX7_spread 50 = .ok (.ifCond .eq 6, 3) := by decide +kernel
theorem dX7_spread_53 : decode cX7_spread 53 = .ok (.goto 44, 3) := by decide +kernel
theorem dX7_spread_56 : decode cX7_spread 56 = .ok (.aload_n 0, 1) := by decide +kernel
theorem dX7_spread_57 : decode cX7_spread 57 = .ok (.getfield 49, 3) := by decide +kernel
theorem dX7_spread_60 : decode cX7_spread 60 = .ok (.aload_n 0, 1) := by decide +kernel
theorem dX7_spread_61 : decode cX7_spread 61 = .ok (.iload 4, 2) := by decide +kernel
theorem dX7_spread_63 : decode cX7_spread 63 = .ok (.iload 6, 2) := by decide +kernel
theorem dX7_spread_65 : decode cX7_spread 65 = .ok (.iload_n 3, 1) := by decide +kernel
theorem dX7_spread_66 : decode cX7_spread 66 = .ok (.invokevirtual 117, 3) := by decide +kernel
theorem dX7_spread_69 : decode cX7_spread 69 = .ok (.iconst 1, 1) := by decide +kernel
theorem dX7_spread_70 : decode cX7_spread 70 = .ok (.bastore, 1) := by decide +kernel
theorem dX7_spread_71 : decode cX7_spread 71 = .ok (.aload_n 0, 1) := by decide +kernel
theorem dX7_spread_72 : decode cX7_spread 72 = .ok (.getfield 58, 3) := by decide +kernel
theorem dX7_spread_75 : decode cX7_spread 75 = .ok (.aload_n 0, 1) := by decide +kernel
theorem dX7_spread_76 : decode cX7_spread 76 = .ok (.getfield 105, 3) := by decide +kernel
theorem dX7_spread_79 : decode cX7_spread 79 = .ok (.bipush 16, 2) := by decide +kernel
theorem dX7_spread_81 : decode cX7_spread 81 = .ok (.iload 6, 2) := by decide +kernel
theorem dX7_spread_83 : decode cX7_spread 83 = .ok (.imul, 1) := by decide +kernel
theorem dX7_spread_84 : decode cX7_spread 84 = .ok (.iload_n 3, 1) := by decide +kernel
theorem dX7_spread_85 : decode cX7_spread 85 = .ok (.iadd, 1) := by decide +kernel
theorem dX7_spread_86 : decode cX7_spread 86 = .ok (.iastore, 1) := by decide +kernel
theorem dX7_spread_87 : decode cX7_spread 87 = .ok (.aload_n 0, 1) := by decide +kernel
theorem dX7_spread_88 : decode cX7_spread 88 = .ok (.dup, 1) := by decide +kernel
theorem dX7_spread_89 : decode cX7_spread 89 = .ok (.getfield 105, 3) := by decide +kernel
theorem dX7_spread_92 : decode cX7_spread 92 = .ok (.iconst 1, 1) := by decide +kernel
theorem dX7_spread_93 : decode cX7_spread 93 = .ok (.iadd, 1) := by decide +kernel
theorem dX7_spread_94 : decode cX7_spread 94 = .ok (.putfield 105, 3) := by decide +kernel
theorem dX7_spread_97 : decode cX7_spread 97 = .ok (.iinc 5 1, 3) := by decide +kernel
theorem dX7_spread_100 : decode cX7_spread 100 = .ok (.goto (-89), 3) := by decide +kernel
theorem dX7_spread_103 : decode cX7_spread 103 = .ok (.return_, 1) := by decide +kernel
theorem dX7_goesThrough_0 : decode cX7_goesThrough 0 = .ok (.aload_n 0, 1) := by decide +kernel
theorem dX7_goesThrough_1 : decode cX7_goesThrough 1 = .ok (.getfield 23, 3) := by decide +kernel
theorem dX7_goesThrough_4 : decode cX7_goesThrough 4 = .ok (.iload_n 1, 1) := by decide +kernel
theorem dX7_goesThrough_5 : decode cX7_goesThrough 5 = .ok (.iaload, 1) := by decide +kernel
theorem dX7_goesThrough_6 : decode cX7_goesThrough 6 = .ok (.iload_n 2, 1) := by decide +kernel
theorem dX7_goesThrough_7 : decode cX7_goesThrough 7 = .ok (.if_icmp .ne 21, 3) := by decide +kernel
theorem dX7_goesThrough_10 : decode cX7_goesThrough 10 = .ok (.aload_n 0, 1) := by decide +kernel
theorem dX7_goesThrough_11 : decode cX7_goesThrough 11 = .ok (.iload_n 2, 1) := by decide +kernel
theorem dX7_goesThrough_12 : decode cX7_goesThrough 12 = .ok (.aload_n 0, 1) := by decide +kernel
theorem dX7_goesThrough_13 : decode cX7_goesThrough 13 = .ok (.getfield 26, 3) := by decide +kernel
theorem dX7_goesThrough_16 : decode cX7_goesThrough 16 = .ok (.iload_n 1, 1) := by decide +kernel
theorem dX7_goesThrough_17 : decode cX7_goesThrough 17 = .ok (.iaload, 1) := by decide +kernel
theorem dX7_goesThrough_18 : decode cX7_goesThrough 18 = .ok (.invokevirtual 102, 3) := by decide +kernel
theorem dX7_goesThrough_21 : decode cX7_goesThrough 21 = .ok (.ifCond .eq 7, 3) := by decide +kernel
theorem dX7_goesThrough_24 : decode cX7_goesThrough 24 = .ok (.iconst 1, 1) := by decide +kernel
theorem dX7_goesThrough_25 : decode cX7_goesThrough 25 = .ok (.goto 4, 3) := by decide +kernel
theorem dX7_goesThrough_28 : decode cX7_goesThrough 28 = .ok (.iconst 0, 1) := by decide +kernel
theorem dX7_goesThrough_29 : decode cX7_goesThrough 29 = .ok (.ireturn, 1) := by decide +kernel
theorem dX7_walkLoan_0 : decode cX7_walkLoan 0 = .ok (.aload_n 0, 1) := by decide +kernel
theorem dX7_walkLoan_1 : decode cX7_walkLoan 1 = .ok (.iconst 0, 1) := by decide +kernel
theorem dX7_walkLoan_2 : decode cX7_walkLoan 2 = .ok (.putfield 105, 3) := by decide +kernel
theorem dX7_walkLoan_5 : decode cX7_walkLoan 5 = .ok (.aload_n 0, 1) := by decide +kernel
theorem dX7_walkLoan_6 : decode cX7_walkLoan 6 = .ok (.getfield 61, 3) := by decide +kernel
theorem dX7_walkLoan_9 : decode cX7_walkLoan 9 = .ok (.iload_n 1, 1) := by decide +kernel
theorem dX7_walkLoan_10 : decode cX7_walkLoan 10 = .ok (.iaload, 1) := by decide +kernel
theorem dX7_walkLoan_11 : decode cX7_walkLoan 11 = .ok (.istore_n 2, 1) := by decide +kernel
theorem dX7_walkLoan_12 : decode cX7_walkLoan 12 = .ok (.iconst 0, 1) := by decide +kernel
theorem dX7_walkLoan_13 : decode cX7_walkLoan 13 = .ok (.istore_n 3, 1) := by decide +kernel
theorem dX7_walkLoan_14 : decode cX7_walkLoan 14 = .ok (.iload_n 3, 1) := by decide +kernel
theorem dX7_walkLoan_15 : decode cX7_walkLoan 15 = .ok (.sipush 2400, 3) := by decide +kernel
theorem dX7_walkLoan_18 : decode cX7_walkLoan 18 = .ok (.if_icmp .ge 22, 3) := by decide +kernel
theorem dX7_walkLoan_21 : decode cX7_walkLoan 21 = .ok (.aload_n 0, 1) := by decide +kernel
theorem dX7_walkLoan_22 : decode cX7_walkLoan 22 = .ok (.getfield 49, 3) := by decide +kernel
theorem dX7_walkLoan_25 : decode cX7_walkLoan 25 = .ok (.sipush 2400, 3) := by decide +kernel
theorem dX7_walkLoan_28 : decode cX7_walkLoan 28 = .ok (.iload_n 2, 1) := by decide +kernel
theorem dX7_walkLoan_29 : decode cX7_walkLoan 29 = .ok (.imul, 1) := by decide +kernel
theorem dX7_walkLoan_30 : decode cX7_walkLoan 30 = .ok (.iload_n 3, 1) := by decide +kernel
theorem dX7_walkLoan_31 : decode cX7_walkLoan 31 = .ok (.iadd, 1) := by decide +kernel
theorem dX7_walkLoan_32 : decode cX7_walkLoan 32 = .ok (.iconst 0, 1) := by decide +kernel
theorem dX7_walkLoan_33 : decode cX7_walkLoan 33 = .ok (.bastore, 1) := by decide +kernel
theorem dX7_walkLoan_34 : decode cX7_walkLoan 34 = .ok (.iinc 3 1, 3) := by decide +kernel
theorem dX7_walkLoan_37 : decode cX7_walkLoan 37 = .ok (.goto (-23), 3) := by decide +kernel
theorem dX7_walkLoan_40 : decode cX7_walkLoan 40 = .ok (.aload_n 0, 1) := by decide +kernel
theorem dX7_walkLoan_41 : decode cX7_walkLoan 41 = .ok (.getfield 39, 3) := by decide +kernel
theorem dX7_walkLoan_44 : decode cX7_walkLoan 44 = .ok (.iload_n 1, 1) := by decide +kernel
theorem dX7_walkLoan_45 : decode cX7_walkLoan 45 = .ok (.baload, 1) := by decide +kernel
theorem dX7_walkLoan_46 : decode cX7_walkLoan 46 = .ok (.ifCond .ne 4, 3) := by decide +kernel
theorem dX7_walkLoan_49 : decode cX7_walkLoan 49 = .ok (.return_, 1) := by decide +kernel
theorem dX7_walkLoan_50 : decode cX7_walkLoan 50 = .ok (.aload_n 0, 1) := by decide +kernel
theorem dX7_walkLoan_51 : decode cX7_walkLoan 51 = .ok (.iload_n 1, 1) := by decide +kernel
theorem dX7_walkLoan_52 : decode cX7_walkLoan 52 = .ok (.aload_n 0, 1) := by decide +kernel
theorem dX7_walkLoan_53 : decode cX7_walkLoan 53 = .ok (.getfield 29, 3) := by decide +kernel
theorem dX7_walkLoan_56 : decode cX7_walkLoan 56 = .ok (.iload_n 1, 1) := by decide +kernel
theorem dX7_walkLoan_57 : decode cX7_walkLoan 57 = .ok (.iaload, 1) := by decide +kernel
theorem dX7_walkLoan_58 : decode cX7_walkLoan 58 = .ok (.invokevirtual 121, 3) := by decide +kernel
theorem dX7_walkLoan_61 : decode cX7_walkLoan 61 = .ok (.ifCond .ne 15, 3) := by decide +kernel
theorem dX7_walkLoan_64 : decode cX7_walkLoan 64 = .ok (.aload_n 0, 1) := by decide +kernel
theorem dX7_walkLoan_65 : decode cX7_walkLoan 65 = .ok (.iload_n 1, 1) := by decide +kernel
theorem dX7_walkLoan_66 : decode cX7_walkLoan 66 = .ok (.iload_n 1, 1) := by decide +kernel
theorem dX7_walkLoan_67 : decode cX7_walkLoan 67 = .ok (.aload_n 0, 1) := by decide +kernel
theorem dX7_walkLoan_68 : decode cX7_walkLoan 68 = .ok (.getfield 29, 3) := by decide +kernel
theorem dX7_walkLoan_71 : decode cX7_walkLoan 71 = .ok (.iload_n 1, 1) := by decide +kernel
theorem dX7_walkLoan_72 : decode cX7_walkLoan 72 = .ok (.iaload, 1) := by decide +kernel
theorem dX7_walkLoan_73 : decode cX7_walkLoan 73 = .ok (.invokevirtual 124, 3) := by decide +kernel
theorem dX7_walkLoan_76 : decode cX7_walkLoan 76 = .ok (.aload_n 0, 1) := by decide +kernel
theorem dX7_walkLoan_77 : decode cX7_walkLoan 77 = .ok (.getfield 105, 3) := by decide +kernel
theorem dX7_walkLoan_80 : decode cX7_walkLoan 80 = .ok (.ifCond .le 179, 3) := by decide +kernel
theorem dX7_walkLoan_83 : decode cX7_walkLoan 83 = .ok (.aload_n 0, 1) := by decide +kernel
theorem dX7_walkLoan_84 : decode cX7_walkLoan 84 = .ok (.dup, 1) := by decide +kernel
theorem dX7_walkLoan_85 : decode cX7_walkLoan 85 = .ok (.getfield 105, 3) := by decide +kernel
theorem dX7_walkLoan_88 : decode cX7_walkLoan 88 = .ok (.iconst 1, 1) := by decide +kernel
theorem dX7_walkLoan_89 : decode cX7_walkLoan 89 = .ok (.isub, 1) := by decide +kernel
theorem dX7_walkLoan_90 : decode cX7_walkLoan 90 = .ok (.putfield 105, 3) := by decide +kernel
theorem dX7_walkLoan_93 : decode cX7_walkLoan 93 = .ok (.aload_n 0, 1) := by decide +kernel
theorem dX7_walkLoan_94 : decode cX7_walkLoan 94 = .ok (.getfield 58, 3) := by decide +kernel
theorem dX7_walkLoan_97 : decode cX7_walkLoan 97 = .ok (.aload_n 0, 1) := by decide +kernel
theorem dX7_walkLoan_98 : decode cX7_walkLoan 98 = .ok (.getfield 105, 3) := by decide +kernel
theorem dX7_walkLoan_101 : decode cX7_walkLoan 101 = .ok (.iaload, 1) := by decide +kernel
theorem dX7_walkLoan_102 : decode cX7_walkLoan 102 = .ok (.bipush 16, 2) := by decide +kernel
theorem dX7_walkLoan_104 : decode cX7_walkLoan 104 = .ok (.idiv, 1) := by decide +kernel
theorem dX7_walkLoan_105 : decode cX7_walkLoan 105 = .ok (.istore_n 3, 1) := by decide +kernel
theorem dX7_walkLoan_106 : decode cX7_walkLoan 106 = .ok (.aload_n 0, 1) := by decide +kernel
theorem dX7_walkLoan_107 : decode cX7_walkLoan 107 = .ok (.getfield 58, 3) := by decide +kernel
theorem dX7_walkLoan_110 : decode cX7_walkLoan 110 = .ok (.aload_n 0, 1) := by decide +kernel
theorem dX7_walkLoan_111 : decode cX7_walkLoan 111 = .ok (.getfield 105, 3) := by decide +kernel
theorem dX7_walkLoan_114 : decode cX7_walkLoan 114 = .ok (.iaload, 1) := by decide +kernel
theorem dX7_walkLoan_115 : decode cX7_walkLoan 115 = .ok (.bipush 16, 2) := by decide +kernel
theorem dX7_walkLoan_117 : decode cX7_walkLoan 117 = .ok (.irem, 1) := by decide +kernel
theorem dX7_walkLoan_118 : decode cX7_walkLoan 118 = .ok (.istore 4, 2) := by decide +kernel
theorem dX7_walkLoan_120 : decode cX7_walkLoan 120 = .ok (.aload_n 0, 1) := by decide +kernel
theorem dX7_walkLoan_121 : decode cX7_walkLoan 121 = .ok (.iload_n 3, 1) := by decide +kernel
theorem dX7_walkLoan_122 : decode cX7_walkLoan 122 = .ok (.invokevirtual 128, 3) := by decide +kernel
theorem dX7_walkLoan_125 : decode cX7_walkLoan 125 = .ok (.istore 5, 2) := by decide +kernel
theorem dX7_walkLoan_127 : decode cX7_walkLoan 127 = .ok (.iload 5, 2) := by decide +kernel
theorem dX7_walkLoan_129 : decode cX7_walkLoan 129 = .ok (.iconst (-1), 1) := by decide +kernel
theorem dX7_walkLoan_130 : decode cX7_walkLoan 130 = .ok (.if_icmp .eq 17, 3) := by decide +kernel
theorem dX7_walkLoan_133 : decode cX7_walkLoan 133 = .ok (.aload_n 0, 1) := by decide +kernel
theorem dX7_walkLoan_134 : decode cX7_walkLoan 134 = .ok (.iload_n 1, 1) := by decide +kernel
theorem dX7_walkLoan_135 : decode cX7_walkLoan 135 = .ok (.iload 5, 2) := by decide +kernel
theorem dX7_walkLoan_137 : decode cX7_walkLoan 137 = .ok (.invokevirtual 121, 3) := by decide +kernel
theorem dX7_walkLoan_140 : decode cX7_walkLoan 140 = .ok (.ifCond .eq 7, 3) := by decide +kernel
theorem dX7_walkLoan_143 : decode cX7_walkLoan 143 = .ok (.iconst 1, 1) := by decide +kernel
theorem dX7_walkLoan_144 : decode cX7_walkLoan 144 = .ok (.goto 4, 3) := by decide +kernel
theorem dX7_walkLoan_147 : decode cX7_walkLoan 147 = .ok (.iconst 0, 1) := by decide +kernel
theorem dX7_walkLoan_148 : decode cX7_walkLoan 148 = .ok (.istore 6, 2) := by decide +kernel
theorem dX7_walkLoan_150 : decode cX7_walkLoan 150 = .ok (.iload 6, 2) := by decide +kernel
theorem dX7_walkLoan_152 : decode cX7_walkLoan 152 = .ok (.ifCond .eq 6, 3) := by decide +kernel
theorem dX7_walkLoan_155 : decode cX7_walkLoan 155 = .ok (.goto (-79), 3) := by decide +kernel
theorem dX7_walkLoan_158 : decode cX7_walkLoan 158 = .ok (.iload 5, 2) := by decide +kernel
theorem dX7_walkLoan_160 : decode cX7_walkLoan 160 = .ok (.iload 4, 2) := by decide +kernel
theorem dX7_walkLoan_162 : decode cX7_walkLoan 162 = .ok (.if_icmp .eq 11, 3) := by decide +kernel
theorem dX7_walkLoan_165 : decode cX7_walkLoan 165 = .ok (.aload_n 0, 1) := by decide +kernel
theorem dX7_walkLoan_166 : decode cX7_walkLoan 166 = .ok (.iload_n 1, 1) := by decide +kernel
theorem dX7_walkLoan_167 : decode cX7_walkLoan 167 = .ok (.iload_n 3, 1) := by decide +kernel
theorem dX7_walkLoan_168 : decode cX7_walkLoan 168 = .ok (.iload 4, 2) := by decide +kernel
theorem dX7_walkLoan_170 : decode cX7_walkLoan 170 = .ok (.invokevirtual 124, 3) := by decide +kernel
theorem dX7_walkLoan_173 : decode cX7_walkLoan 173 = .ok (.aload_n 0, 1) := by decide +kernel
theorem dX7_walkLoan_174 : decode cX7_walkLoan 174 = .ok (.getfield 20, 3) := by decide +kernel
theorem dX7_walkLoan_177 : decode cX7_walkLoan 177 = .ok (.iload_n 3, 1) := by decide +kernel
theorem dX7_walkLoan_178 : decode cX7_walkLoan 178 = .ok (.iaload, 1) := by decide +kernel
theorem dX7_walkLoan_179 : decode cX7_walkLoan 179 = .ok (.bipush 8, 2) := by decide +kernel
theorem dX7_walkLoan_181 : decode cX7_walkLoan 181 = .ok (.if_icmp .ne 14, 3) := by decide +kernel
theorem dX7_walkLoan_184 : decode cX7_walkLoan 184 = .ok (.aload_n 0, 1) := by decide +kernel
theorem dX7_walkLoan_185 : decode cX7_walkLoan 185 = .ok (.getfield 23, 3) := by decide +kernel
theorem dX7_walkLoan_188 : decode cX7_walkLoan 188 = .ok (.iload_n 3, 1) := by decide +kernel
theorem dX7_walkLoan_189 : decode cX7_walkLoan 189 = .ok (.iaload, 1) := by decide +kernel
theorem dX7_walkLoan_190 : decode cX7_walkLoan 190 = .ok (.iload 4, 2) := by decide +kernel
theorem dX7_walkLoan_192 : decode cX7_walkLoan 192 = .ok (.if_icmp .eq 40, 3) := by decide +kernel
theorem dX7_walkLoan_195 : decode cX7_walkLoan 195 = .ok (.aload_n 0, 1) := by decide +kernel
theorem dX7_walkLoan_196 : decode cX7_walkLoan 196 = .ok (.getfield 20, 3) := by decide +kernel
theorem dX7_walkLoan_199 : decode cX7_walkLoan 199 = .ok (.iload_n 3, 1) := by decide +kernel
theorem dX7_walkLoan_200 : decode cX7_walkLoan 200 = .ok (.iaload, 1) := by decide +kernel
theorem dX7_walkLoan_201 : decode cX7_walkLoan 201 = .ok (.bipush 7, 2) := by decide +kernel
theorem dX7_walkLoan_203 : decode cX7_walkLoan 203 = .ok (.if_icmp .ne 33, 3) := by decide +kernel
theorem dX7_walkLoan_206 : decode cX7_walkLoan 206 = .ok (.aload_n 0, 1) := by decide +kernel
theorem dX7_walkLoan_207 : decode cX7_walkLoan 207 = .ok (.getfield 23, 3) := by decide +kernel
theorem dX7_walkLoan_210 : decode cX7_walkLoan 210 = .ok (.iload_n 3, 1) := by decide +kernel
theorem dX7_walkLoan_211 : decode cX7_walkLoan 211 = .ok (.iaload, 1) := by decide +kernel
theorem dX7_walkLoan_212 : decode cX7_walkLoan 212 = .ok (.iload 4, 2) := by decide +kernel
theorem dX7_walkLoan_214 : decode cX7_walkLoan 214 = .ok (.if_icmp .ne 22, 3) := by decide +kernel
theorem dX7_walkLoan_217 : decode cX7_walkLoan 217 = .ok (.aload_n 0, 1) := by decide +kernel
theorem dX7_walkLoan_218 : decode cX7_walkLoan 218 = .ok (.iload 4, 2) := by decide +kernel
theorem dX7_walkLoan_220 : decode cX7_walkLoan 220 = .ok (.aload_n 0, 1) := by decide +kernel
theorem dX7_walkLoan_221 : decode cX7_walkLoan 221 = .ok (.getfield 26, 3) := by decide +kernel
theorem dX7_walkLoan_224 : decode cX7_walkLoan 224 = .ok (.iload_n 3, 1) := by decide +kernel
theorem dX7_walkLoan_225 : decode cX7_walkLoan 225 = .ok (.iaload, 1) := by decide +kernel
theorem dX7_walkLoan_226 : decode cX7_walkLoan 226 = .ok (.invokevirtual 102, 3) := by decide +kernel
theorem dX7_walkLoan_229 : decode cX7_walkLoan 229 = .ok (.ifCond .eq 7, 3) := by decide +kernel
theorem dX7_walkLoan_232 : decode cX7_walkLoan 232 = .ok (.iconst 1, 1) := by decide +kernel
theorem dX7_walkLoan_233 : decode cX7_walkLoan 233 = .ok (.goto 4, 3) := by decide +kernel
theorem dX7_walkLoan_236 : decode cX7_walkLoan 236 = .ok (.iconst 0, 1) := by decide +kernel
theorem dX7_walkLoan_237 : decode cX7_walkLoan 237 = .ok (.istore 7, 2) := by decide +kernel
theorem dX7_walkLoan_239 : decode cX7_walkLoan 239 = .ok (.iload 7, 2) := by decide +kernel
theorem dX7_walkLoan_241 : decode cX7_walkLoan 241 = .ok (.ifCond .eq 15, 3) := by decide +kernel
theorem dX7_walkLoan_244 : decode cX7_walkLoan 244 = .ok (.aload_n 0, 1) := by decide +kernel
theorem dX7_walkLoan_245 : decode cX7_walkLoan 245 = .ok (.iload_n 1, 1) := by decide +kernel
theorem dX7_walkLoan_246 : decode cX7_walkLoan 246 = .ok (.iload_n 3, 1) := by decide +kernel
theorem dX7_walkLoan_247 : decode cX7_walkLoan 247 = .ok (.aload_n 0, 1) := by decide +kernel
theorem dX7_walkLoan_248 : decode cX7_walkLoan 248 = .ok (.getfield 29, 3) := by decide +kernel
theorem dX7_walkLoan_251 : decode cX7_walkLoan 251 = .ok (.iload_n 3, 1) := by decide +kernel
theorem dX7_walkLoan_252 : decode cX7_walkLoan 252 = .ok (.iaload, 1) := by decide +kernel
theorem dX7_walkLoan_253 : decode cX7_walkLoan 253 = .ok (.invokevirtual 124, 3) := by decide +kernel
theorem dX7_walkLoan_256 : decode cX7_walkLoan 256 = .ok (.goto (-180), 3) := by decide +kernel
theorem dX7_walkLoan_259 : decode cX7_walkLoan 259 = .ok (.return_, 1) := by decide +kernel
theorem dX7_walkUses_0 : decode cX7_walkUses 0 = .ok (.iconst 0, 1) := by decide +kernel
theorem dX7_walkUses_1 : decode cX7_walkUses 1 = .ok (.istore_n 2, 1) := by decide +kernel
theorem dX7_walkUses_2 : decode cX7_walkUses 2 = .ok (.iload_n 2, 1) := by decide +kernel
theorem dX7_walkUses_3 : decode cX7_walkUses 3 = .ok (.sipush 150, 3) := by decide +kernel
theorem dX7_walkUses_6 : decode cX7_walkUses 6 = .ok (.if_icmp .ge 21, 3) := by decide +kernel
theorem dX7_walkUses_9 : decode cX7_walkUses 9 = .ok (.aload_n 0, 1) := by decide +kernel
theorem dX7_walkUses_10 : decode cX7_walkUses 10 = .ok (.getfield 52, 3) := by decide +kernel
theorem dX7_walkUses_13 : decode cX7_walkUses 13 = .ok (.bipush 16, 2) := by decide +kernel
theorem dX7_walkUses_15 : decode cX7_walkUses 15 = .ok (.iload_n 2, 1) := by decide +kernel
theorem dX7_walkUses_16 : decode cX7_walkUses 16 = .ok (.imul, 1) := by decide +kernel
theorem dX7_walkUses_17 : decode cX7_walkUses 17 = .ok (.iload_n 1, 1) := by decide +kernel
theorem dX7_walkUses_18 : decode cX7_walkUses 18 = .ok (.iadd, 1) := by decide +kernel
theorem dX7_walkUses_19 : decode cX7_walkUses 19 = .ok (.iconst 0, 1) := by decide +kernel
theorem dX7_walkUses_20 : decode cX7_walkUses 20 = .ok (.bastore, 1) := by decide +kernel
theorem dX7_walkUses_21 : decode cX7_walkUses 21 = .ok (.iinc 2 1, 3) := by decide +kernel
theorem dX7_walkUses_24 : decode cX7_walkUses 24 = .ok (.goto (-22), 3) := by decide +kernel
theorem dX7_walkUses_27 : decode cX7_walkUses 27 = .ok (.iconst 1, 1) := by decide +kernel
theorem dX7_walkUses_28 : decode cX7_walkUses 28 = .ok (.istore_n 2, 1) := by decide +kernel
theorem dX7_walkUses_29 : decode cX7_walkUses 29 = .ok (.iload_n 2, 1) := by decide +kernel
theorem dX7_walkUses_30 : decode cX7_walkUses 30 = .ok (.ifCond .eq 134, 3) := by decide +kernel
theorem dX7_walkUses_33 : decode cX7_walkUses 33 = .ok (.iconst 0, 1) := by decide +kernel
theorem dX7_walkUses_34 : decode cX7_walkUses 34 = .ok (.istore_n 2, 1) := by decide +kernel
theorem dX7_walkUses_35 : decode cX7_walkUses 35 = .ok (.sipush 149, 3) := by decide +kernel
theorem dX7_walkUses_38 : decode cX7_walkUses 38 = .ok (.istore_n 3, 1) := by decide +kernel
theorem dX7_walkUses_39 : decode cX7_walkUses 39 = .ok (.iload_n 3, 1) := by decide +kernel
theorem dX7_walkUses_40 : decode cX7_walkUses 40 = .ok (.ifCond .lt 121, 3) := by decide +kernel
theorem dX7_walkUses_43 : decode cX7_walkUses 43 = .ok (.aload_n 0, 1) := by decide +kernel
theorem dX7_walkUses_44 : decode cX7_walkUses 44 = .ok (.getfield 39, 3) := by decide +kernel
theorem dX7_walkUses_47 : decode cX7_walkUses 47 = .ok (.iload_n 3, 1) := by decide +kernel
theorem dX7_walkUses_48 : decode cX7_walkUses 48 = .ok (.baload, 1) := by decide +kernel
theorem dX7_walkUses_49 : decode cX7_walkUses 49 = .ok (.ifCond .eq 106, 3) := by decide +kernel
theorem dX7_walkUses_52 : decode cX7_walkUses 52 = .ok (.aload_n 0, 1) := by decide +kernel
theorem dX7_walkUses_53 : decode cX7_walkUses 53 = .ok (.getfield 52, 3) := by decide +kernel
theorem dX7_walkUses_56 : decode cX7_walkUses 56 = .ok (.bipush 16, 2) := by decide +kernel
theorem dX7_walkUses_58 : decode cX7_walkUses 58 = .ok (.iload_n 3, 1) := by decide +kernel
theorem dX7_walkUses_59 : decode cX7_walkUses 59 = .ok (.imul, 1) := by decide +kernel
theorem dX7_walkUses_60 : decode cX7_walkUses 60 = .ok (.iload_n 1, 1) := by decide +kernel
theorem dX7_walkUses_61 : decode cX7_walkUses 61 = .ok (.iadd, 1) := by decide +kernel
theorem dX7_walkUses_62 : decode cX7_walkUses 62 = .ok (.baload, 1) := by decide +kernel
theorem dX7_walkUses_63 : decode cX7_walkUses 63 = .ok (.ifCond .eq 6, 3) := by decide +kernel
theorem dX7_walkUses_66 : decode cX7_walkUses 66 = .ok (.goto 89, 3) := by decide +kernel
theorem dX7_walkUses_69 : decode cX7_walkUses 69 = .ok (.iconst 0, 1) := by decide +kernel
theorem dX7_walkUses_70 : decode cX7_walkUses 70 = .ok (.istore 4, 2) := by decide +kernel
theorem dX7_walkUses_72 : decode cX7_walkUses 72 = .ok (.iload 4, 2) := by decide +kernel
theorem dX7_walkUses_74 : decode cX7_walkUses 74 = .ok (.iconst 4, 1) := by decide +kernel
theorem dX7_walkUses_75 : decode cX7_walkUses 75 = .ok (.if_icmp .ge 80, 3) := by decide +kernel
theorem dX7_walkUses_78 : decode cX7_walkUses 78 = .ok (.aload_n 0, 1) := by decide +kernel
theorem dX7_walkUses_79 : decode cX7_walkUses 79 = .ok (.getfield 32, 3) := by decide +kernel
theorem dX7_walkUses_82 : decode cX7_walkUses 82 = .ok (.iconst 4, 1) := by decide +kernel
theorem dX7_walkUses_83 : decode cX7_walkUses 83 = .ok (.iload_n 3, 1) := by decide +kernel
theorem dX7_walkUses_84 : decode cX7_walkUses 84 = .ok (.imul, 1) := by decide +kernel
theorem dX7_walkUses_85 : decode cX7_walkUses 85 = .ok (.iload 4, 2) := by decide +kernel
theorem dX7_walkUses_87 : decode cX7_walkUses 87 = .ok (.iadd, 1) := by decide +kernel
theorem dX7_walkUses_88 : decode cX7_walkUses 88 = .ok (.iaload, 1) := by decide +kernel
theorem dX7_walkUses_89 : decode cX7_walkUses 89 = .ok (.istore 5, 2) := by decide +kernel
theorem dX7_walkUses_91 : decode cX7_walkUses 91 = .ok (.iload 5, 2) := by decide +kernel
theorem dX7_walkUses_93 : decode cX7_walkUses 93 = .ok (.iconst (-1), 1) := by decide +kernel
theorem dX7_walkUses_94 : decode cX7_walkUses 94 = .ok (.if_icmp .eq 55, 3) := by decide +kernel
theorem dX7_walkUses_97 : decode cX7_walkUses 97 = .ok (.aload_n 0, 1) := by decide +kernel
theorem dX7_walkUses_98 : decode cX7_walkUses 98 = .ok (.iload 5, 2) := by decide +kernel
theorem dX7_walkUses_100 : decode cX7_walkUses 100 = .ok (.iload_n 1, 1) := by decide +kernel
theorem dX7_walkUses_101 : decode cX7_walkUses 101 = .ok (.invokevirtual 132, 3) := by decide +kernel
theorem dX7_walkUses_104 : decode cX7_walkUses 104 = .ok (.ifCond .ne 31, 3) := by decide +kernel
theorem dX7_walkUses_107 : decode cX7_walkUses 107 = .ok (.aload_n 0, 1) := by decide +kernel
theorem dX7_walkUses_108 : decode cX7_walkUses 108 = .ok (.iload 5, 2) := by decide +kernel
theorem dX7_walkUses_110 : decode cX7_walkUses 110 = .ok (.iload_n 1, 1) := by decide +kernel
theorem dX7_walkUses_111 : decode cX7_walkUses 111 = .ok (.invokevirtual 135, 3) := by decide +kernel
theorem dX7_walkUses_114 : decode cX7_walkUses 114 = .ok (.ifCond .ne 35, 3) := by decide +kernel
theorem dX7_walkUses_117 : decode cX7_walkUses 117 = .ok (.aload_n 0, 1) := by decide +kernel
theorem dX7_walkUses_118 : decode cX7_walkUses 118 = .ok (.getfield 52, 3) := by decide +kernel
theorem dX7_walkUses_121 : decode cX7_walkUses 121 = .ok (.bipush 16, 2) := by decide +kernel
theorem dX7_walkUses_123 : decode cX7_walkUses 123 = .ok (.iload 5, 2) := by decide +kernel
theorem dX7_walkUses_125 : decode cX7_walkUses 125 = .ok (.imul, 1) := by decide +kernel
theorem dX7_walkUses_126 : decode cX7_walkUses 126 = .ok (.iload_n 1, 1) := by decide +kernel
theorem dX7_walkUses_127 : decode cX7_walkUses 127 = .ok (.iadd, 1) := by decide +kernel
theorem dX7_walkUses_128 : decode cX7_walkUses 128 = .ok (.baload, 1) := by decide +kernel
theorem dX7_walkUses_129 : decode cX7_walkUses 129 = .ok (.ifCond .ne 6, 3) := by decide +kernel
theorem dX7_walkUses_132 : decode cX7_walkUses 132 = .ok (.goto 17, 3) := by decide +kernel
theorem dX7_walkUses_135 : decode cX7_walkUses 135 = .ok (.aload_n 0, 1) := by decide +kernel
theorem dX7_walkUses_136 : decode cX7_walkUses 136 = .ok (.getfield 52, 3) := by decide +kernel
theorem dX7_walkUses_139 : decode cX7_walkUses 139 = .ok (.bipush 16, 2) := by decide +kernel
theorem dX7_walkUses_141 : decode cX7_walkUses 141 = .ok (.iload_n 3, 1) := by decide +kernel
theorem dX7_walkUses_142 : decode cX7_walkUses 142 = .ok (.imul, 1) := by decide +kernel
theorem dX7_walkUses_143 : decode cX7_walkUses 143 = .ok (.iload_n 1, 1) := by decide +kernel
theorem dX7_walkUses_144 : decode cX7_walkUses 144 = .ok (.iadd, 1) := by decide +kernel
theorem dX7_walkUses_145 : decode cX7_walkUses 145 = .ok (.iconst 1, 1) := by decide +kernel
theorem dX7_walkUses_146 : decode cX7_walkUses 146 = .ok (.bastore, 1) := by decide +kernel
theorem dX7_walkUses_147 : decode cX7_walkUses 147 = .ok (.iconst 1, 1) := by decide +kernel
theorem dX7_walkUses_148 : decode cX7_walkUses 148 = .ok (.istore_n 2, 1) := by decide +kernel
theorem dX7_walkUses_149 : decode cX7_walkUses 149 = .ok (.iinc 4 1, 3) := by decide +kernel
theorem dX7_walkUses_152 : decode cX7_walkUses 152 = .ok (.goto (-80), 3) := by decide +kernel
theorem dX7_walkUses_155 : decode cX7_walkUses 155 = .ok (.iinc 3 (-1), 3) := by decide +kernel
theorem dX7_walkUses_158 : decode cX7_walkUses 158 = .ok (.goto (-119), 3) := by decide +kernel
theorem dX7_walkUses_161 : decode cX7_walkUses 161 = .ok (.goto (-132), 3) := by decide +kernel
theorem dX7_walkUses_164 : decode cX7_walkUses 164 = .ok (.return_, 1) := by decide +kernel
theorem dX7_isUsed_0 : decode cX7_isUsed 0 = .ok (.aload_n 0, 1) := by decide +kernel
theorem dX7_isUsed_1 : decode cX7_isUsed 1 = .ok (.getfield 39, 3) := by decide +kernel
theorem dX7_isUsed_4 : decode cX7_isUsed 4 = .ok (.iload_n 1, 1) := by decide +kernel
theorem dX7_isUsed_5 : decode cX7_isUsed 5 = .ok (.baload, 1) := by decide +kernel
theorem dX7_isUsed_6 : decode cX7_isUsed 6 = .ok (.ifCond .eq 30, 3) := by decide +kernel
theorem dX7_isUsed_9 : decode cX7_isUsed 9 = .ok (.aload_n 0, 1) := by decide +kernel
theorem dX7_isUsed_10 : decode cX7_isUsed 10 = .ok (.iload_n 1, 1) := by decide +kernel
theorem dX7_isUsed_11 : decode cX7_isUsed 11 = .ok (.iload_n 2, 1) := by decide +kernel
theorem dX7_isUsed_12 : decode cX7_isUsed 12 = .ok (.invokevirtual 135, 3) := by decide +kernel
theorem dX7_isUsed_15 : decode cX7_isUsed 15 = .ok (.ifCond .ne 21, 3) := by decide +kernel
theorem dX7_isUsed_18 : decode cX7_isUsed 18 = .ok (.aload_n 0, 1) := by decide +kernel
theorem dX7_isUsed_19 : decode cX7_isUsed 19 = .ok (.getfield 52, 3) := by decide +kernel
theorem dX7_isUsed_22 : decode cX7_isUsed 22 = .ok (.bipush 16, 2) := by decide +kernel
theorem dX7_isUsed_24 : decode cX7_isUsed 24 = .ok (.iload_n 1, 1) := by decide +kernel
theorem dX7_isUsed_25 : decode cX7_isUsed 25 = .ok (.imul, 1) := by decide +kernel
theorem dX7_isUsed_26 : decode cX7_isUsed 26 = .ok (.iload_n 2, 1) := by decide +kernel
theorem dX7_isUsed_27 : decode cX7_isUsed 27 = .ok (.iadd, 1) := by decide +kernel
theorem dX7_isUsed_28 : decode cX7_isUsed 28 = .ok (.baload, 1) := by decide +kernel
theorem dX7_isUsed_29 : decode cX7_isUsed 29 = .ok (.ifCond .eq 7, 3) := by decide +kernel
theorem dX7_isUsed_32 : decode cX7_isUsed 32 = .ok (.iconst 1, 1) := by decide +kernel
theorem dX7_isUsed_33 : decode cX7_isUsed 33 = .ok (.goto 4, 3) := by decide +kernel
theorem dX7_isUsed_36 : decode cX7_isUsed 36 = .ok (.iconst 0, 1) := by decide +kernel
theorem dX7_isUsed_37 : decode cX7_isUsed 37 = .ok (.ireturn, 1) := by decide +kernel
theorem dX7_isInForce_0 : decode cX7_isInForce 0 = .ok (.iconst 0, 1) := by decide +kernel
theorem dX7_isInForce_1 : decode cX7_isInForce 1 = .ok (.istore_n 3, 1) := by decide +kernel
theorem dX7_isInForce_2 : decode cX7_isInForce 2 = .ok (.iconst 0, 1) := by decide +kernel
theorem dX7_isInForce_3 : decode cX7_isInForce 3 = .ok (.istore 4, 2) := by decide +kernel
theorem dX7_isInForce_5 : decode cX7_isInForce 5 = .ok (.iload 4, 2) := by decide +kernel
theorem dX7_isInForce_7 : decode cX7_isInForce 7 = .ok (.aload_n 0, 1) := by decide +kernel
theorem dX7_isInForce_8 : decode cX7_isInForce 8 = .ok (.getfield 67, 3) := by decide +kernel
theorem dX7_isInForce_11 : decode cX7_isInForce 11 = .ok (.if_icmp .ge 60, 3) := by decide +kernel
theorem dX7_isInForce_14 : decode cX7_isInForce 14 = .ok (.iload_n 3, 1) := by decide +kernel
theorem dX7_isInForce_15 : decode cX7_isInForce 15 = .ok (.ifCond .ne 44, 3) := by decide +kernel
theorem dX7_isInForce_18 : decode cX7_isInForce 18 = .ok (.aload_n 0, 1) := by decide +kernel
theorem dX7_isInForce_19 : decode cX7_isInForce 19 = .ok (.getfield 7, 3) := by decide +kernel
theorem dX7_isInForce_22 : decode cX7_isInForce 22 = .ok (.iload 4, 2) := by decide +kernel
theorem dX7_isInForce_24 : decode cX7_isInForce 24 = .ok (.iaload, 1) := by decide +kernel
theorem dX7_isInForce_25 : decode cX7_isInForce 25 = .ok (.ifCond .eq 38, 3) := by decide +kernel
theorem dX7_isInForce_28 : decode cX7_isInForce 28 = .ok (.aload_n 0, 1) := by decide +kernel
theorem dX7_isInForce_29 : decode cX7_isInForce 29 = .ok (.getfield 49, 3) := by decide +kernel
theorem dX7_isInForce_32 : decode cX7_isInForce 32 = .ok (.aload_n 0, 1) := by decide +kernel
theorem dX7_isInForce_33 : decode cX7_isInForce 33 = .ok (.aload_n 0, 1) := by decide +kernel
theorem dX7_isInForce_34 : decode cX7_isInForce 34 = .ok (.getfield 61, 3) := by decide +kernel
theorem dX7_isInForce_37 : decode cX7_isInForce 37 = .ok (.iload_n 1, 1) := by decide +kernel
theorem dX7_isInForce_38 : decode cX7_isInForce 38 = .ok (.iaload, 1) := by decide +kernel
theorem dX7_isInForce_39 : decode cX7_isInForce 39 = .ok (.iload_n 2, 1) := by decide +kernel
theorem dX7_isInForce_40 : decode cX7_isInForce 40 = .ok (.iload 4, 2) := by decide +kernel
theorem dX7_isInForce_42 : decode cX7_isInForce 42 = .ok (.invokevirtual 117, 3) := by decide +kernel
theorem dX7_isInForce_45 : decode cX7_isInForce 45 = .ok (.baload, 1) := by decide +kernel
theorem dX7_isInForce_46 : decode cX7_isInForce 46 = .ok (.ifCond .eq 17, 3) := by decide +kernel
theorem dX7_isInForce_49 : decode cX7_isInForce 49 = .ok (.aload_n 0, 1) := by decide +kernel
theorem dX7_isInForce_50 : decode cX7_isInForce 50 = .ok (.iload_n 2, 1) := by decide +kernel
theorem dX7_isInForce_51 : decode cX7_isInForce 51 = .ok (.iload 4, 2) := by decide +kernel
theorem dX7_isInForce_53 : decode cX7_isInForce 53 = .ok (.invokevirtual 138, 3) := by decide +kernel
theorem dX7_isInForce_56 : decode cX7_isInForce 56 = .ok (.ifCond .eq 7, 3) := by decide +kernel
theorem dX7_isInForce_59 : decode cX7_isInForce 59 = .ok (.iconst 1, 1) := by decide +kernel
theorem dX7_isInForce_60 : decode cX7_isInForce 60 = .ok (.goto 4, 3) := by decide +kernel
theorem dX7_isInForce_63 : decode cX7_isInForce 63 = .ok (.iconst 0, 1) := by decide +kernel
theorem dX7_isInForce_64 : decode cX7_isInForce 64 = .ok (.istore_n 3, 1) := by decide +kernel
theorem dX7_isInForce_65 : decode cX7_isInForce 65 = .ok (.iinc 4 1, 3) := by decide +kernel
theorem dX7_isInForce_68 : decode cX7_isInForce 68 = .ok (.goto (-63), 3) := by decide +kernel
theorem dX7_isInForce_71 : decode cX7_isInForce 71 = .ok (.iload_n 3, 1) := by decide +kernel
theorem dX7_isInForce_72 : decode cX7_isInForce 72 = .ok (.ifCond .eq 16, 3) := by decide +kernel
theorem dX7_isInForce_75 : decode cX7_isInForce 75 = .ok (.aload_n 0, 1) := by decide +kernel
theorem dX7_isInForce_76 : decode cX7_isInForce 76 = .ok (.getfield 39, 3) := by decide +kernel
theorem dX7_isInForce_79 : decode cX7_isInForce 79 = .ok (.iload_n 2, 1) := by decide +kernel
theorem dX7_isInForce_80 : decode cX7_isInForce 80 = .ok (.baload, 1) := by decide +kernel
theorem dX7_isInForce_81 : decode cX7_isInForce 81 = .ok (.ifCond .eq 7, 3) := by decide +kernel
theorem dX7_isInForce_84 : decode cX7_isInForce 84 = .ok (.iconst 1, 1) := by decide +kernel
theorem dX7_isInForce_85 : decode cX7_isInForce 85 = .ok (.goto 4, 3) := by decide +kernel
theorem dX7_isInForce_88 : decode cX7_isInForce 88 = .ok (.iconst 0, 1) := by decide +kernel
theorem dX7_isInForce_89 : decode cX7_isInForce 89 = .ok (.ireturn, 1) := by decide +kernel
theorem dX7_begins__0 : decode cX7_begins_ 0 = .ok (.iload_n 0, 1) := by decide +kernel
theorem dX7_begins__1 : decode cX7_begins_ 1 = .ok (.istore_n 2, 1) := by decide +kernel
theorem dX7_begins__2 : decode cX7_begins_ 2 = .ok (.iload_n 1, 1) := by decide +kernel
theorem dX7_begins__3 : decode cX7_begins_ 3 = .ok (.istore_n 3, 1) := by decide +kernel
theorem dX7_begins__4 : decode cX7_begins_ 4 = .ok (.iload_n 3, 1) := by decide +kernel
theorem dX7_begins__5 : decode cX7_begins_ 5 = .ok (.ifCond .le 27, 3) := by decide +kernel
theorem dX7_begins__8 : decode cX7_begins_ 8 = .ok (.iload_n 2, 1) := by decide +kernel
theorem dX7_begins__9 : decode cX7_begins_ 9 = .ok (.bipush 8, 2) := by decide +kernel
theorem dX7_begins__11 : decode cX7_begins_ 11 = .ok (.irem, 1) := by decide +kernel
theorem dX7_begins__12 : decode cX7_begins_ 12 = .ok (.iload_n 3, 1) := by decide +kernel
theorem dX7_begins__13 : decode cX7_begins_ 13 = .ok (.bipush 8, 2) := by decide +kernel
theorem dX7_begins__15 : decode cX7_begins_ 15 = .ok (.irem, 1) := by decide +kernel
theorem dX7_begins__16 : decode cX7_begins_ 16 = .ok (.if_icmp .ne 16, 3) := by decide +kernel
theorem dX7_begins__19 : decode cX7_begins_ 19 = .ok (.iload_n 2, 1) := by decide +kernel
theorem dX7_begins__20 : decode cX7_begins_ 20 = .ok (.bipush 8, 2) := by decide +kernel
theorem dX7_begins__22 : decode cX7_begins_ 22 = .ok (.idiv, 1) := by decide +kernel
theorem dX7_begins__23 : decode cX7_begins_ 23 = .ok (.istore_n 2, 1) := by decide +kernel
theorem dX7_begins__24 : decode cX7_begins_ 24 = .ok (.iload_n 3, 1) := by decide +kernel
theorem dX7_begins__25 : decode cX7_begins_ 25 = .ok (.bipush 8, 2) := by decide +kernel
theorem dX7_begins__27 : decode cX7_begins_ 27 = .ok (.idiv, 1) := by decide +kernel
theorem dX7_begins__28 : decode cX7_begins_ 28 = .ok (.istore_n 3, 1) := by decide +kernel
theorem dX7_begins__29 : decode cX7_begins_ 29 = .ok (.goto (-25), 3) := by decide +kernel
theorem dX7_begins__32 : decode cX7_begins_ 32 = .ok (.iload_n 3, 1) := by decide +kernel
theorem dX7_begins__33 : decode cX7_begins_ 33 = .ok (.ifCond .ne 7, 3) := by decide +kernel
theorem dX7_begins__36 : decode cX7_begins_ 36 = .ok (.iconst 1, 1) := by decide +kernel
theorem dX7_begins__37 : decode cX7_begins_ 37 = .ok (.goto 4, 3) := by decide +kernel
theorem dX7_begins__40 : decode cX7_begins_ 40 = .ok (.iconst 0, 1) := by decide +kernel
theorem dX7_begins__41 : decode cX7_begins_ 41 = .ok (.ireturn, 1) := by decide +kernel
theorem dX7_clashes_0 : decode cX7_clashes 0 = .ok (.aload_n 0, 1) := by decide +kernel
theorem dX7_clashes_1 : decode cX7_clashes 1 = .ok (.getfield 20, 3) := by decide +kernel
theorem dX7_clashes_4 : decode cX7_clashes 4 = .ok (.iload_n 2, 1) := by decide +kernel
theorem dX7_clashes_5 : decode cX7_clashes 5 = .ok (.iaload, 1) := by decide +kernel
theorem dX7_clashes_6 : decode cX7_clashes 6 = .ok (.istore_n 3, 1) := by decide +kernel
theorem dX7_clashes_7 : decode cX7_clashes 7 = .ok (.iload_n 3, 1) := by decide +kernel
theorem dX7_clashes_8 : decode cX7_clashes 8 = .ok (.ifCond .eq 43, 3) := by decide +kernel
theorem dX7_clashes_11 : decode cX7_clashes 11 = .ok (.iload_n 3, 1) := by decide +kernel
theorem dX7_clashes_12 : decode cX7_clashes 12 = .ok (.iconst 5, 1) := by decide +kernel
theorem dX7_clashes_13 : decode cX7_clashes 13 = .ok (.if_icmp .eq 38, 3) := by decide +kernel
theorem dX7_clashes_16 : decode cX7_clashes 16 = .ok (.aload_n 0, 1) := by decide +kernel
theorem dX7_clashes_17 : decode cX7_clashes 17 = .ok (.getfield 23, 3) := by decide +kernel
theorem dX7_clashes_20 : decode cX7_clashes 20 = .ok (.iload_n 2, 1) := by decide +kernel
theorem dX7_clashes_21 : decode cX7_clashes 21 = .ok (.iaload, 1) := by decide +kernel
theorem dX7_clashes_22 : decode cX7_clashes 22 = .ok (.aload_n 0, 1) := by decide +kernel
theorem dX7_clashes_23 : decode cX7_clashes 23 = .ok (.getfield 23, 3) := by decide +kernel
theorem dX7_clashes_26 : decode cX7_clashes 26 = .ok (.iload_n 1, 1) := by decide +kernel
theorem dX7_clashes_27 : decode cX7_clashes 27 = .ok (.iaload, 1) := by decide +kernel
theorem dX7_clashes_28 : decode cX7_clashes 28 = .ok (.if_icmp .ne 23, 3) := by decide +kernel
theorem dX7_clashes_31 : decode cX7_clashes 31 = .ok (.iload_n 3, 1) := by decide +kernel
theorem dX7_clashes_32 : decode cX7_clashes 32 = .ok (.bipush 6, 2) := by decide +kernel
theorem dX7_clashes_34 : decode cX7_clashes 34 = .ok (.if_icmp .ne 19, 3) := by decide +kernel
theorem dX7_clashes_37 : decode cX7_clashes 37 = .ok (.aload_n 0, 1) := by decide +kernel
theorem dX7_clashes_38 : decode cX7_clashes 38 = .ok (.getfield 7, 3) := by decide +kernel
theorem dX7_clashes_41 : decode cX7_clashes 41 = .ok (.aload_n 0, 1) := by decide +kernel
theorem dX7_clashes_42 : decode cX7_clashes 42 = .ok (.getfield 23, 3) := by decide +kernel
theorem dX7_clashes_45 : decode cX7_clashes 45 = .ok (.iload_n 2, 1) := by decide +kernel
theorem dX7_clashes_46 : decode cX7_clashes 46 = .ok (.iaload, 1) := by decide +kernel
theorem dX7_clashes_47 : decode cX7_clashes 47 = .ok (.iaload, 1) := by decide +kernel
theorem dX7_clashes_48 : decode cX7_clashes 48 = .ok (.ifCond .eq 5, 3) := by decide +kernel
theorem dX7_clashes_51 : decode cX7_clashes 51 = .ok (.iconst 0, 1) := by decide +kernel
theorem dX7_clashes_52 : decode cX7_clashes 52 = .ok (.ireturn, 1) := by decide +kernel
theorem dX7_clashes_53 : decode cX7_clashes 53 = .ok (.iload_n 3, 1) := by decide +kernel
theorem dX7_clashes_54 : decode cX7_clashes 54 = .ok (.iconst 1, 1) := by decide +kernel
theorem dX7_clashes_55 : decode cX7_clashes 55 = .ok (.if_icmp .eq 45, 3) := by decide +kernel
theorem dX7_clashes_58 : decode cX7_clashes 58 = .ok (.iload_n 3, 1) := by decide +kernel
theorem dX7_clashes_59 : decode cX7_clashes 59 = .ok (.bipush 7, 2) := by decide +kernel
theorem dX7_clashes_61 : decode cX7_clashes 61 = .ok (.if_icmp .ne 18, 3) := by decide +kernel
theorem dX7_clashes_64 : decode cX7_clashes 64 = .ok (.aload_n 0, 1) := by decide +kernel
theorem dX7_clashes_65 : decode cX7_clashes 65 = .ok (.getfield 7, 3) := by decide +kernel
theorem dX7_clashes_68 : decode cX7_clashes 68 = .ok (.aload_n 0, 1) := by decide +kernel
theorem dX7_clashes_69 : decode cX7_clashes 69 = .ok (.getfield 29, 3) := by decide +kernel
theorem dX7_clashes_72 : decode cX7_clashes 72 = .ok (.iload_n 2, 1) := by decide +kernel
theorem dX7_clashes_73 : decode cX7_clashes 73 = .ok (.iaload, 1) := by decide +kernel
theorem dX7_clashes_74 : decode cX7_clashes 74 = .ok (.iaload, 1) := by decide +kernel
theorem dX7_clashes_75 : decode cX7_clashes 75 = .ok (.iconst 1, 1) := by decide +kernel
theorem dX7_clashes_76 : decode cX7_clashes 76 = .ok (.if_icmp .eq 24, 3) := by decide +kernel
theorem dX7_clashes_79 : decode cX7_clashes 79 = .ok (.iload_n 3, 1) := by decide +kernel
theorem dX7_clashes_80 : decode cX7_clashes 80 = .ok (.bipush 8, 2) := by decide +kernel
theorem dX7_clashes_82 : decode cX7_clashes 82 = .ok (.if_icmp .ne 22, 3) := by decide +kernel
theorem dX7_clashes_85 : decode cX7_clashes 85 = .ok (.aload_n 0, 1) := by decide +kernel
theorem dX7_clashes_86 : decode cX7_clashes 86 = .ok (.getfield 7, 3) := by decide +kernel
theorem dX7_clashes_89 : decode cX7_clashes 89 = .ok (.aload_n 0, 1) := by decide +kernel
theorem dX7_clashes_90 : decode cX7_clashes 90 = .ok (.getfield 23, 3) := by decide +kernel
theorem dX7_clashes_93 : decode cX7_clashes 93 = .ok (.iload_n 2, 1) := by decide +kernel
theorem dX7_clashes_94 : decode cX7_clashes 94 = .ok (.iaload, 1) := by decide +kernel
theorem dX7_clashes_95 : decode cX7_clashes 95 = .ok (.iaload, 1) := by decide +kernel
theorem dX7_clashes_96 : decode cX7_clashes 96 = .ok (.iconst 1, 1) := by decide +kernel
theorem dX7_clashes_97 : decode cX7_clashes 97 = .ok (.if_icmp .ne 7, 3) := by decide +kernel
theorem dX7_clashes_100 : decode cX7_clashes 100 = .ok (.iconst 1, 1) := by decide +kernel
theorem dX7_clashes_101 : decode cX7_clashes 101 = .ok (.goto 4, 3) := by decide +kernel
theorem dX7_clashes_104 : decode cX7_clashes 104 = .ok (.iconst 0, 1) := by decide +kernel
theorem dX7_clashes_105 : decode cX7_clashes 105 = .ok (.istore 4, 2) := by decide +kernel
theorem dX7_clashes_107 : decode cX7_clashes 107 = .ok (.iload_n 3, 1) := by decide +kernel
theorem dX7_clashes_108 : decode cX7_clashes 108 = .ok (.bipush 6, 2) := by decide +kernel
theorem dX7_clashes_110 : decode cX7_clashes 110 = .ok (.if_icmp .eq 9, 3) := by decide +kernel
theorem dX7_clashes_113 : decode cX7_clashes 113 = .ok (.iload_n 3, 1) := by decide +kernel
theorem dX7_clashes_114 : decode cX7_clashes 114 = .ok (.bipush 8, 2) := by decide +kernel
theorem dX7_clashes_116 : decode cX7_clashes 116 = .ok (.if_icmp .ne 7, 3) := by decide +kernel
theorem dX7_clashes_119 : decode cX7_clashes 119 = .ok (.iconst 0, 1) := by decide +kernel
theorem dX7_clashes_120 : decode cX7_clashes 120 = .ok (.goto 9, 3) := by decide +kernel
theorem dX7_clashes_123 : decode cX7_clashes 123 = .ok (.aload_n 0, 1) := by decide +kernel
theorem dX7_clashes_124 : decode cX7_clashes 124 = .ok (.getfield 26, 3) := by decide +kernel
theorem dX7_clashes_127 : decode cX7_clashes 127 = .ok (.iload_n 2, 1) := by decide +kernel
theorem dX7_clashes_128 : decode cX7_clashes 128 = .ok (.iaload, 1) := by decide +kernel
theorem dX7_clashes_129 : decode cX7_clashes 129 = .ok (.istore 5, 2) := by decide +kernel
theorem dX7_clashes_131 : decode cX7_clashes 131 = .ok (.aload_n 0, 1) := by decide +kernel
theorem dX7_clashes_132 : decode cX7_clashes 132 = .ok (.getfield 7, 3) := by decide +kernel
theorem dX7_clashes_135 : decode cX7_clashes 135 = .ok (.aload_n 0, 1) := by decide +kernel
theorem dX7_clashes_136 : decode cX7_clashes 136 = .ok (.getfield 29, 3) := by decide +kernel
theorem dX7_clashes_139 : decode cX7_clashes 139 = .ok (.iload_n 1, 1) := by decide +kernel
theorem dX7_clashes_140 : decode cX7_clashes 140 = .ok (.iaload, 1) := by decide +kernel
theorem dX7_clashes_141 : decode cX7_clashes 141 = .ok (.iaload, 1) := by decide +kernel
theorem dX7_clashes_142 : decode cX7_clashes 142 = .ok (.iconst 2, 1) := by decide +kernel
theorem dX7_clashes_143 : decode cX7_clashes 143 = .ok (.if_icmp .eq 8, 3) := by decide +kernel
theorem dX7_clashes_146 : decode cX7_clashes 146 = .ok (.iload 4, 2) := by decide +kernel
theorem dX7_clashes_148 : decode cX7_clashes 148 = .ok (.ifCond .ne 35, 3) := by decide +kernel
theorem dX7_clashes_151 : decode cX7_clashes 151 = .ok (.iload 5, 2) := by decide +kernel
theorem dX7_clashes_153 : decode cX7_clashes 153 = .ok (.aload_n 0, 1) := by decide +kernel
theorem dX7_clashes_154 : decode cX7_clashes 154 = .ok (.getfield 26, 3) := by decide +kernel
theorem dX7_clashes_157 : decode cX7_clashes 157 = .ok (.iload_n 1, 1) := by decide +kernel
theorem dX7_clashes_158 : decode cX7_clashes 158 = .ok (.iaload, 1) := by decide +kernel
theorem dX7_clashes_159 : decode cX7_clashes 159 = .ok (.invokestatic 141, 3) := by decide +kernel
theorem dX7_clashes_162 : decode cX7_clashes 162 = .ok (.ifCond .ne 17, 3) := by decide +kernel
theorem dX7_clashes_165 : decode cX7_clashes 165 = .ok (.aload_n 0, 1) := by decide +kernel
theorem dX7_clashes_166 : decode cX7_clashes 166 = .ok (.getfield 26, 3) := by decide +kernel
theorem dX7_clashes_169 : decode cX7_clashes 169 = .ok (.iload_n 1, 1) := by decide +kernel
theorem dX7_clashes_170 : decode cX7_clashes 170 = .ok (.iaload, 1) := by decide +kernel
theorem dX7_clashes_171 : decode cX7_clashes 171 = .ok (.iload 5, 2) := by decide +kernel
theorem dX7_clashes_173 : decode cX7_clashes 173 = .ok (.invokestatic 141, 3) := by decide +kernel
theorem dX7_clashes_176 : decode cX7_clashes 176 = .ok (.ifCond .eq 7, 3) := by decide +kernel
theorem dX7_clashes_179 : decode cX7_clashes 179 = .ok (.iconst 1, 1) := by decide +kernel
theorem dX7_clashes_180 : decode cX7_clashes 180 = .ok (.goto 4, 3) := by decide +kernel
theorem dX7_clashes_183 : decode cX7_clashes 183 = .ok (.iconst 0, 1) := by decide +kernel
theorem dX7_clashes_184 : decode cX7_clashes 184 = .ok (.ireturn, 1) := by decide +kernel
theorem dX7_workOut_0 : decode cX7_workOut 0 = .ok (.aload_n 0, 1) := by decide +kernel
theorem dX7_workOut_1 : decode cX7_workOut 1 = .ok (.getfield 35, 3) := by decide +kernel
theorem dX7_workOut_4 : decode cX7_workOut 4 = .ok (.ifCond .ne 4, 3) := by decide +kernel
theorem dX7_workOut_7 : decode cX7_workOut 7 = .ok (.return_, 1) := by decide +kernel
theorem dX7_workOut_8 : decode cX7_workOut 8 = .ok (.aload_n 0, 1) := by decide +kernel
theorem dX7_workOut_9 : decode cX7_workOut 9 = .ok (.iconst 0, 1) := by decide +kernel
theorem dX7_workOut_10 : decode cX7_workOut 10 = .ok (.putfield 35, 3) := by decide +kernel
theorem dX7_workOut_13 : decode cX7_workOut 13 = .ok (.aload_n 0, 1) := by decide +kernel
theorem dX7_workOut_14 : decode cX7_workOut 14 = .ok (.invokevirtual 144, 3) := by decide +kernel
theorem dX7_workOut_17 : decode cX7_workOut 17 = .ok (.iconst 0, 1) := by decide +kernel
theorem dX7_workOut_18 : decode cX7_workOut 18 = .ok (.istore_n 1, 1) := by decide +kernel
theorem dX7_workOut_19 : decode cX7_workOut 19 = .ok (.iload_n 1, 1) := by decide +kernel
theorem dX7_workOut_20 : decode cX7_workOut 20 = .ok (.aload_n 0, 1) := by decide +kernel
theorem dX7_workOut_21 : decode cX7_workOut 21 = .ok (.getfield 67, 3) := by decide +kernel
theorem dX7_workOut_24 : decode cX7_workOut 24 = .ok (.if_icmp .ge 63, 3) := by decide +kernel
theorem dX7_workOut_27 : decode cX7_workOut 27 = .ok (.iconst 0, 1) := by decide +kernel
theorem dX7_workOut_28 : decode cX7_workOut 28 = .ok (.istore_n 2, 1) := by decide +kernel
theorem dX7_workOut_29 : decode cX7_workOut 29 = .ok (.iload_n 2, 1) := by decide +kernel
theorem dX7_workOut_30 : decode cX7_workOut 30 = .ok (.aload_n 0, 1) := by decide +kernel
theorem dX7_workOut_31 : decode cX7_workOut 31 = .ok (.getfield 13, 3) := by decide +kernel
theorem dX7_workOut_34 : decode cX7_workOut 34 = .ok (.iload_n 1, 1) := by decide +kernel
theorem dX7_workOut_35 : decode cX7_workOut 35 = .ok (.iaload, 1) := by decide +kernel
theorem dX7_workOut_36 : decode cX7_workOut 36 = .ok (.if_icmp .ge 31, 3) := by decide +kernel
theorem dX7_workOut_39 : decode cX7_workOut 39 = .ok (.aload_n 0, 1) := by decide +kernel
theorem dX7_workOut_40 : decode cX7_workOut 40 = .ok (.iload_n 1, 1) := by decide +kernel
theorem dX7_workOut_41 : decode cX7_workOut 41 = .ok (.iload_n 2, 1) := by decide +kernel
theorem dX7_workOut_42 : decode cX7_workOut 42 = .ok (.iconst 0, 1) := by decide +kernel
theorem dX7_workOut_43 : decode cX7_workOut 43 = .ok (.aload_n 0, 1) := by decide +kernel
theorem dX7_workOut_44 : decode cX7_workOut 44 = .ok (.getfield 42, 3) := by decide +kernel
theorem dX7_workOut_47 : decode cX7_workOut 47 = .ok (.invokevirtual 147, 3) := by decide +kernel
theorem dX7_workOut_50 : decode cX7_workOut 50 = .ok (.aload_n 0, 1) := by decide +kernel
theorem dX7_workOut_51 : decode cX7_workOut 51 = .ok (.iload_n 1, 1) := by decide +kernel
theorem dX7_workOut_52 : decode cX7_workOut 52 = .ok (.iload_n 2, 1) := by decide +kernel
theorem dX7_workOut_53 : decode cX7_workOut 53 = .ok (.iconst 1, 1) := by decide +kernel
theorem dX7_workOut_54 : decode cX7_workOut 54 = .ok (.aload_n 0, 1) := by decide +kernel
theorem dX7_workOut_55 : decode cX7_workOut 55 = .ok (.getfield 45, 3) := by decide +kernel
theorem dX7_workOut_58 : decode cX7_workOut 58 = .ok (.invokevirtual 147, 3) := by decide +kernel
theorem dX7_workOut_61 : decode cX7_workOut 61 = .ok (.iinc 2 1, 3) := by decide +kernel
theorem dX7_workOut_64 : decode cX7_workOut 64 = .ok (.goto (-35), 3) := by decide +kernel
theorem dX7_workOut_67 : decode cX7_workOut 67 = .ok (.aload_n 0, 1) := by decide +kernel
theorem dX7_workOut_68 : decode cX7_workOut 68 = .ok (.getfield 7, 3) := by decide +kernel
theorem dX7_workOut_71 : decode cX7_workOut 71 = .ok (.iload_n 1, 1) := by decide +kernel
theorem dX7_workOut_72 : decode cX7_workOut 72 = .ok (.iaload, 1) := by decide +kernel
theorem dX7_workOut_73 : decode cX7_workOut 73 = .ok (.ifCond .eq 8, 3) := by decide +kernel
theorem dX7_workOut_76 : decode cX7_workOut 76 = .ok (.aload_n 0, 1) := by decide +kernel
theorem dX7_workOut_77 : decode cX7_workOut 77 = .ok (.iload_n 1, 1) := by decide +kernel
theorem dX7_workOut_78 : decode cX7_workOut 78 = .ok (.invokevirtual 151, 3) := by decide +kernel
theorem dX7_workOut_81 : decode cX7_workOut 81 = .ok (.iinc 1 1, 3) := by decide +kernel
theorem dX7_workOut_84 : decode cX7_workOut 84 = .ok (.goto (-65), 3) := by decide +kernel
theorem dX7_workOut_87 : decode cX7_workOut 87 = .ok (.iconst 0, 1) := by decide +kernel
theorem dX7_workOut_88 : decode cX7_workOut 88 = .ok (.istore_n 1, 1) := by decide +kernel
theorem dX7_workOut_89 : decode cX7_workOut 89 = .ok (.iconst 0, 1) := by decide +kernel
theorem dX7_workOut_90 : decode cX7_workOut 90 = .ok (.istore_n 2, 1) := by decide +kernel
theorem dX7_workOut_91 : decode cX7_workOut 91 = .ok (.iload_n 2, 1) := by decide +kernel
theorem dX7_workOut_92 : decode cX7_workOut 92 = .ok (.sipush 150, 3) := by decide +kernel
theorem dX7_workOut_95 : decode cX7_workOut 95 = .ok (.if_icmp .ge 42, 3) := by decide +kernel
theorem dX7_workOut_98 : decode cX7_workOut 98 = .ok (.aload_n 0, 1) := by decide +kernel
theorem dX7_workOut_99 : decode cX7_workOut 99 = .ok (.getfield 61, 3) := by decide +kernel
theorem dX7_workOut_102 : decode cX7_workOut 102 = .ok (.iload_n 2, 1) := by decide +kernel
theorem dX7_workOut_103 : decode cX7_workOut 103 = .ok (.iconst (-1), 1) := by decide +kernel
theorem dX7_workOut_104 : decode cX7_workOut 104 = .ok (.iastore, 1) := by decide +kernel
theorem dX7_workOut_105 : decode cX7_workOut 105 = .ok (.aload_n 0, 1) := by decide +kernel
theorem dX7_workOut_106 : decode cX7_workOut 106 = .ok (.iload_n 2, 1) := by decide +kernel
theorem dX7_workOut_107 : decode cX7_workOut 107 = .ok (.invokevirtual 155, 3) := by decide +kernel
theorem dX7_workOut_110 : decode cX7_workOut 110 = .ok (.ifCond .ne 6, 3) := by decide +kernel
theorem dX7_workOut_113 : decode cX7_workOut 113 = .ok (.goto 18, 3) := by decide +kernel
theorem dX7_workOut_116 : decode cX7_workOut 116 = .ok (.aload_n 0, 1) := by decide +kernel
theorem dX7_workOut_117 : decode cX7_workOut 117 = .ok (.getfield 61, 3) := by decide +kernel
theorem dX7_workOut_120 : decode cX7_workOut 120 = .ok (.iload_n 2, 1) := by decide +kernel
theorem dX7_workOut_121 : decode cX7_workOut 121 = .ok (.iload_n 1, 1) := by decide +kernel
theorem dX7_workOut_122 : decode cX7_workOut 122 = .ok (.iastore, 1) := by decide +kernel
theorem dX7_workOut_123 : decode cX7_workOut 123 = .ok (.iinc 1 1, 3) := by decide +kernel
theorem dX7_workOut_126 : decode cX7_workOut 126 = .ok (.aload_n 0, 1) := by decide +kernel
theorem dX7_workOut_127 : decode cX7_workOut 127 = .ok (.iload_n 2, 1) := by decide +kernel
theorem dX7_workOut_128 : decode cX7_workOut 128 = .ok (.invokevirtual 158, 3) := by decide +kernel
theorem dX7_workOut_131 : decode cX7_workOut 131 = .ok (.iinc 2 1, 3) := by decide +kernel
theorem dX7_workOut_134 : decode cX7_workOut 134 = .ok (.goto (-43), 3) := by decide +kernel
theorem dX7_workOut_137 : decode cX7_workOut 137 = .ok (.aload_n 0, 1) := by decide +kernel
theorem dX7_workOut_138 : decode cX7_workOut 138 = .ok (.iconst 0, 1) := by decide +kernel
theorem dX7_workOut_139 : decode cX7_workOut 139 = .ok (.putfield 161, 3) := by decide +kernel
theorem dX7_workOut_142 : decode cX7_workOut 142 = .ok (.aload_n 0, 1) := by decide +kernel
theorem dX7_workOut_143 : decode cX7_workOut 143 = .ok (.iconst (-1), 1) := by decide +kernel
theorem dX7_workOut_144 : decode cX7_workOut 144 = .ok (.putfield 164, 3) := by decide +kernel
theorem dX7_workOut_147 : decode cX7_workOut 147 = .ok (.aload_n 0, 1) := by decide +kernel
theorem dX7_workOut_148 : decode cX7_workOut 148 = .ok (.iconst (-1), 1) := by decide +kernel
theorem dX7_workOut_149 : decode cX7_workOut 149 = .ok (.putfield 167, 3) := by decide +kernel
theorem dX7_workOut_152 : decode cX7_workOut 152 = .ok (.aload_n 0, 1) := by decide +kernel
theorem dX7_workOut_153 : decode cX7_workOut 153 = .ok (.iconst 0, 1) := by decide +kernel
theorem dX7_workOut_154 : decode cX7_workOut 154 = .ok (.putfield 170, 3) := by decide +kernel
theorem dX7_workOut_157 : decode cX7_workOut 157 = .ok (.aload_n 0, 1) := by decide +kernel
theorem dX7_workOut_158 : decode cX7_workOut 158 = .ok (.iconst 0, 1) := by decide +kernel
theorem dX7_workOut_159 : decode cX7_workOut 159 = .ok (.putfield 173, 3) := by decide +kernel
theorem dX7_workOut_162 : decode cX7_workOut 162 = .ok (.sipush 149, 3) := by decide +kernel
theorem dX7_workOut_165 : decode cX7_workOut 165 = .ok (.istore_n 2, 1) := by decide +kernel
theorem dX7_workOut_166 : decode cX7_workOut 166 = .ok (.iload_n 2, 1) := by decide +kernel
theorem dX7_workOut_167 : decode cX7_workOut 167 = .ok (.ifCond .lt 23, 3) := by decide +kernel
theorem dX7_workOut_170 : decode cX7_workOut 170 = .ok (.aload_n 0, 1) := by decide +kernel
theorem dX7_workOut_171 : decode cX7_workOut 171 = .ok (.getfield 39, 3) := by decide +kernel
theorem dX7_workOut_174 : decode cX7_workOut 174 = .ok (.iload_n 2, 1) := by decide +kernel
theorem dX7_workOut_175 : decode cX7_workOut 175 = .ok (.baload, 1) := by decide +kernel
theorem dX7_workOut_176 : decode cX7_workOut 176 = .ok (.ifCond .eq 8, 3) := by decide +kernel
theorem dX7_workOut_179 : decode cX7_workOut 179 = .ok (.aload_n 0, 1) := by decide +kernel
theorem dX7_workOut_180 : decode cX7_workOut 180 = .ok (.iload_n 2, 1) := by decide +kernel
theorem dX7_workOut_181 : decode cX7_workOut 181 = .ok (.invokevirtual 176, 3) := by decide +kernel
theorem dX7_workOut_184 : decode cX7_workOut 184 = .ok (.iinc 2 (-1), 3) := by decide +kernel
theorem dX7_workOut_187 : decode cX7_workOut 187 = .ok (.goto (-21), 3) := by decide +kernel
theorem dX7_workOut_190 : decode cX7_workOut 190 = .ok (.aload_n 0, 1) := by decide +kernel
theorem dX7_workOut_191 : decode cX7_workOut 191 = .ok (.getfield 161, 3) := by decide +kernel
theorem dX7_workOut_194 : decode cX7_workOut 194 = .ok (.iconst 3, 1) := by decide +kernel
theorem dX7_workOut_195 : decode cX7_workOut 195 = .ok (.if_icmp .ne 15, 3) := by decide +kernel
theorem dX7_workOut_198 : decode cX7_workOut 198 = .ok (.aload_n 0, 1) := by decide +kernel
theorem dX7_workOut_199 : decode cX7_workOut 199 = .ok (.aload_n 0, 1) := by decide +kernel
theorem dX7_workOut_200 : decode cX7_workOut 200 = .ok (.aload_n 0, 1) := by decide +kernel
theorem dX7_workOut_201 : decode cX7_workOut 201 = .ok (.getfield 164, 3) := by decide +kernel
theorem dX7_workOut_204 : decode cX7_workOut 204 = .ok (.invokevirtual 179, 3) := by decide +kernel
theorem dX7_workOut_207 : decode cX7_workOut 207 = .ok (.putfield 167, 3) := by decide +kernel
theorem dX7_workOut_210 : decode cX7_workOut 210 = .ok (.return_, 1) := by decide +kernel
theorem dX7_lackedBy_0 : decode cX7_lackedBy 0 = .ok (.aload_n 0, 1) := by decide +kernel
theorem dX7_lackedBy_1 : decode cX7_lackedBy 1 = .ok (.getfield 20, 3) := by decide +kernel
theorem dX7_lackedBy_4 : decode cX7_lackedBy 4 = .ok (.iload_n 1, 1) := by decide +kernel
theorem dX7_lackedBy_5 : decode cX7_lackedBy 5 = .ok (.iaload, 1) := by decide +kernel
theorem dX7_lackedBy_6 : decode cX7_lackedBy 6 = .ok (.ifCond .ne 5, 3) := by decide +kernel
theorem dX7_lackedBy_9 : decode cX7_lackedBy 9 = .ok (.iconst (-1), 1) := by decide +kernel
theorem dX7_lackedBy_10 : decode cX7_lackedBy 10 = .ok (.ireturn, 1) := by decide +kernel
theorem dX7_lackedBy_11 : decode cX7_lackedBy 11 = .ok (.iconst 0, 1) := by decide +kernel
theorem dX7_lackedBy_12 : decode cX7_lackedBy 12 = .ok (.istore_n 2, 1) := by decide +kernel
theorem dX7_lackedBy_13 : decode cX7_lackedBy 13 = .ok (.iload_n 2, 1) := by decide +kernel
theorem dX7_lackedBy_14 : decode cX7_lackedBy 14 = .ok (.aload_n 0, 1) := by decide +kernel
theorem dX7_lackedBy_15 : decode cX7_lackedBy 15 = .ok (.getfield 13, 3) := by decide +kernel
theorem dX7_lackedBy_18 : decode cX7_lackedBy 18 = .ok (.aload_n 0, 1) := by decide +kernel
theorem dX7_lackedBy_19 : decode cX7_lackedBy 19 = .ok (.getfield 23, 3) := by decide +kernel
theorem dX7_lackedBy_22 : decode cX7_lackedBy 22 = .ok (.iload_n 1, 1) := by decide +kernel
theorem dX7_lackedBy_23 : decode cX7_lackedBy 23 = .ok (.iaload, 1) := by decide +kernel
theorem dX7_lackedBy_24 : decode cX7_lackedBy 24 = .ok (.iaload, 1) := by decide +kernel
theorem dX7_lackedBy_25 : decode cX7_lackedBy 25 = .ok (.if_icmp .ge 43, 3) := by decide +kernel
theorem dX7_lackedBy_28 : decode cX7_lackedBy 28 = .ok (.aload_n 0, 1) := by decide +kernel
theorem dX7_lackedBy_29 : decode cX7_lackedBy 29 = .ok (.iload_n 1, 1) := by decide +kernel
theorem dX7_lackedBy_30 : decode cX7_lackedBy 30 = .ok (.iload_n 2, 1) := by decide +kernel
theorem dX7_lackedBy_31 : decode cX7_lackedBy 31 = .ok (.invokevirtual 182, 3) := by decide +kernel
theorem dX7_lackedBy_34 : decode cX7_lackedBy 34 = .ok (.ifCond .eq 28, 3) := by decide +kernel
theorem dX7_lackedBy_37 : decode cX7_lackedBy 37 = .ok (.aload_n 0, 1) := by decide +kernel
theorem dX7_lackedBy_38 : decode cX7_lackedBy 38 = .ok (.getfield 42, 3) := by decide +kernel
theorem dX7_lackedBy_41 : decode cX7_lackedBy 41 = .ok (.bipush 64, 2) := by decide +kernel
theorem dX7_lackedBy_43 : decode cX7_lackedBy 43 = .ok (.iload_n 1, 1) := by decide +kernel
theorem dX7_lackedBy_44 : decode cX7_lackedBy 44 = .ok (.imul, 1) := by decide +kernel
theorem dX7_lackedBy_45 : decode cX7_lackedBy 45 = .ok (.iconst 4, 1) := by decide +kernel
theorem dX7_lackedBy_46 : decode cX7_lackedBy 46 = .ok (.aload_n 0, 1) := by decide +kernel
theorem dX7_lackedBy_47 : decode cX7_lackedBy 47 = .ok (.getfield 23, 3) := by decide +kernel
theorem dX7_lackedBy_50 : decode cX7_lackedBy 50 = .ok (.iload_n 1, 1) := by decide +kernel
theorem dX7_lackedBy_51 : decode cX7_lackedBy 51 = .ok (.iaload, 1) := by decide +kernel
theorem dX7_lackedBy_52 : decode cX7_lackedBy 52 = .ok (.imul, 1) := by decide +kernel
theorem dX7_lackedBy_53 : decode cX7_lackedBy 53 = .ok (.iadd, 1) := by decide +kernel
theorem dX7_lackedBy_54 : decode cX7_lackedBy 54 = .ok (.iload_n 2, 1) := by decide +kernel
theorem dX7_lackedBy_55 : decode cX7_lackedBy 55 = .ok (.iadd, 1) := by decide +kernel
theorem dX7_lackedBy_56 : decode cX7_lackedBy 56 = .ok (.baload, 1) := by decide +kernel
theorem dX7_lackedBy_57 : decode cX7_lackedBy 57 = .ok (.ifCond .eq 5, 3) := by decide +kernel
theorem dX7_lackedBy_60 : decode cX7_lackedBy 60 = .ok (.iload_n 2, 1) := by decide +kernel
theorem dX7_lackedBy_61 : decode cX7_lackedBy 61 = .ok (.ireturn, 1) := by decide +kernel
theorem dX7_lackedBy_62 : decode cX7_lackedBy 62 = .ok (.iinc 2 1, 3) := by decide +kernel
theorem dX7_lackedBy_65 : decode cX7_lackedBy 65 = .ok (.goto (-52), 3) := by decide +kernel
theorem dX7_lackedBy_68 : decode cX7_lackedBy 68 = .ok (.iconst (-1), 1) := by decide +kernel
theorem dX7_lackedBy_69 : decode cX7_lackedBy 69 = .ok (.ireturn, 1) := by decide +kernel
theorem dX7_look_0 : decode cX7_look 0 = .ok (.iconst (-1), 1) := by decide +kernel
theorem dX7_look_1 : decode cX7_look 1 = .ok (.istore_n 2, 1) := by decide +kernel
theorem dX7_look_2 : decode cX7_look 2 = .ok (.sipush 149, 3) := by decide +kernel
theorem dX7_look_5 : decode cX7_look 5 = .ok (.istore_n 3, 1) := by decide +kernel
theorem dX7_look_6 : decode cX7_look 6 = .ok (.iload_n 3, 1) := by decide +kernel
theorem dX7_look_7 : decode cX7_look 7 = .ok (.ifCond .lt 66, 3) := by decide +kernel
theorem dX7_look_10 : decode cX7_look 10 = .ok (.aload_n 0, 1) := by decide +kernel
theorem dX7_look_11 : decode cX7_look 11 = .ok (.getfield 61, 3) := by decide +kernel
theorem dX7_look_14 : decode cX7_look 14 = .ok (.iload_n 3, 1) := by decide +kernel
theorem dX7_look_15 : decode cX7_look 15 = .ok (.iaload, 1) := by decide +kernel
theorem dX7_look_16 : decode cX7_look 16 = .ok (.iconst (-1), 1) := by decide +kernel
theorem dX7_look_17 : decode cX7_look 17 = .ok (.if_icmp .ne 6, 3) := by decide +kernel
theorem dX7_look_20 : decode cX7_look 20 = .ok (.goto 47, 3) := by decide +kernel
theorem dX7_look_23 : decode cX7_look 23 = .ok (.aload_n 0, 1) := by decide +kernel
theorem dX7_look_24 : decode cX7_look 24 = .ok (.getfield 55, 3) := by decide +kernel
theorem dX7_look_27 : decode cX7_look 27 = .ok (.sipush 150, 3) := by decide +kernel
theorem dX7_look_30 : decode cX7_look 30 = .ok (.iload_n 3, 1) := by decide +kernel
theorem dX7_look_31 : decode cX7_look 31 = .ok (.imul, 1) := by decide +kernel
theorem dX7_look_32 : decode cX7_look 32 = .ok (.iload_n 1, 1) := by decide +kernel
theorem dX7_look_33 : decode cX7_look 33 = .ok (.iadd, 1) := by decide +kernel
theorem dX7_look_34 : decode cX7_look 34 = .ok (.aload_n 0, 1) := by decide +kernel
theorem dX7_look_35 : decode cX7_look 35 = .ok (.iload_n 3, 1) := by decide +kernel
theorem dX7_look_36 : decode cX7_look 36 = .ok (.iload_n 1, 1) := by decide +kernel
theorem dX7_look_37 : decode cX7_look 37 = .ok (.invokevirtual 185, 3) := by decide +kernel
theorem dX7_look_40 : decode cX7_look 40 = .ok (.bastore, 1) := by decide +kernel
theorem dX7_look_41 : decode cX7_look 41 = .ok (.aload_n 0, 1) := by decide +kernel
theorem dX7_look_42 : decode cX7_look 42 = .ok (.getfield 55, 3) := by decide +kernel
theorem dX7_look_45 : decode cX7_look 45 = .ok (.sipush 150, 3) := by decide +kernel
theorem dX7_look_48 : decode cX7_look 48 = .ok (.iload_n 3, 1) := by decide +kernel
theorem dX7_look_49 : decode cX7_look 49 = .ok (.imul, 1) := by decide +kernel
theorem dX7_look_50 : decode cX7_look 50 = .ok (.iload_n 1, 1) := by decide +kernel
theorem dX7_look_51 : decode cX7_look 51 = .ok (.iadd, 1) := by decide +kernel
theorem dX7_look_52 : decode cX7_look 52 = .ok (.baload, 1) := by decide +kernel
theorem dX7_look_53 : decode cX7_look 53 = .ok (.ifCond .eq 14, 3) := by decide +kernel
theorem dX7_look_56 : decode cX7_look 56 = .ok (.aload_n 0, 1) := by decide +kernel
theorem dX7_look_57 : decode cX7_look 57 = .ok (.iload_n 3, 1) := by decide +kernel
theorem dX7_look_58 : decode cX7_look 58 = .ok (.iload_n 1, 1) := by decide +kernel
theorem dX7_look_59 : decode cX7_look 59 = .ok (.invokevirtual 188, 3) := by decide +kernel
theorem dX7_look_62 : decode cX7_look 62 = .ok (.ifCond .eq 5, 3) := by decide +kernel
theorem dX7_look_65 : decode cX7_look 65 = .ok (.iload_n 3, 1) := by decide +kernel
theorem dX7_look_66 : decode cX7_look 66 = .ok (.istore_n 2, 1) := by decide +kernel
theorem dX7_look_67 : decode cX7_look 67 = .ok (.iinc 3 (-1), 3) := by decide +kernel
theorem dX7_look_70 : decode cX7_look 70 = .ok (.goto (-64), 3) := by decide +kernel
theorem dX7_look_73 : decode cX7_look 73 = .ok (.aload_n 0, 1) := by decide +kernel
theorem dX7_look_74 : decode cX7_look 74 = .ok (.dup, 1) := by decide +kernel
theorem dX7_look_75 : decode cX7_look 75 = .ok (.getfield 173, 3) := by decide +kernel
theorem dX7_look_78 : decode cX7_look 78 = .ok (.iload_n 2, 1) := by decide +kernel
theorem dX7_look_79 : decode cX7_look 79 = .ok (.iconst (-1), 1) := by decide +kernel
theorem dX7_look_80 : decode cX7_look 80 = .ok (.if_icmp .eq 7, 3) := by decide +kernel
theorem dX7_look_83 : decode cX7_look 83 = .ok (.iconst 1, 1) := by decide +kernel
theorem dX7_look_84 : decode cX7_look 84 = .ok (.goto 4, 3) := by decide +kernel
theorem dX7_look_87 : decode cX7_look 87 = .ok (.iconst 0, 1) := by decide +kernel
theorem dX7_look_88 : decode cX7_look 88 = .ok (.iadd, 1) := by decide +kernel
theorem dX7_look_89 : decode cX7_look 89 = .ok (.putfield 173, 3) := by decide +kernel
theorem dX7_look_92 : decode cX7_look 92 = .ok (.iload_n 2, 1) := by decide +kernel
theorem dX7_look_93 : decode cX7_look 93 = .ok (.iconst (-1), 1) := by decide +kernel
theorem dX7_look_94 : decode cX7_look 94 = .ok (.if_icmp .eq 26, 3) := by decide +kernel
theorem dX7_look_97 : decode cX7_look 97 = .ok (.aload_n 0, 1) := by decide +kernel
theorem dX7_look_98 : decode cX7_look 98 = .ok (.getfield 161, 3) := by decide +kernel
theorem dX7_look_101 : decode cX7_look 101 = .ok (.iconst 3, 1) := by decide +kernel
theorem dX7_look_102 : decode cX7_look 102 = .ok (.if_icmp .eq 18, 3) := by decide +kernel
theorem dX7_look_105 : decode cX7_look 105 = .ok (.aload_n 0, 1) := by decide +kernel
theorem dX7_look_106 : decode cX7_look 106 = .ok (.iconst 4, 1) := by decide +kernel
theorem dX7_look_107 : decode cX7_look 107 = .ok (.putfield 161, 3) := by decide +kernel
theorem dX7_look_110 : decode cX7_look 110 = .ok (.aload_n 0, 1) := by decide +kernel
theorem dX7_look_111 : decode cX7_look 111 = .ok (.iload_n 1, 1) := by decide +kernel
theorem dX7_look_112 : decode cX7_look 112 = .ok (.putfield 164, 3) := by decide +kernel
theorem dX7_look_115 : decode cX7_look 115 = .ok (.aload_n 0, 1) := by decide +kernel
theorem dX7_look_116 : decode cX7_look 116 = .ok (.iload_n 2, 1) := by decide +kernel
theorem dX7_look_117 : decode cX7_look 117 = .ok (.putfield 167, 3) := by decide +kernel
theorem dX7_look_120 : decode cX7_look 120 = .ok (.aload_n 0, 1) := by decide +kernel
theorem dX7_look_121 : decode cX7_look 121 = .ok (.iload_n 1, 1) := by decide +kernel
theorem dX7_look_122 : decode cX7_look 122 = .ok (.invokevirtual 191, 3) := by decide +kernel
theorem dX7_look_125 : decode cX7_look 125 = .ok (.iconst (-1), 1) := by decide +kernel
theorem dX7_look_126 : decode cX7_look 126 = .ok (.if_icmp .ne 4, 3) := by decide +kernel
theorem dX7_look_129 : decode cX7_look 129 = .ok (.return_, 1) := by decide +kernel
theorem dX7_look_130 : decode cX7_look 130 = .ok (.aload_n 0, 1) := by decide +kernel
theorem dX7_look_131 : decode cX7_look 131 = .ok (.dup, 1) := by decide +kernel
theorem dX7_look_132 : decode cX7_look 132 = .ok (.getfield 170, 3) := by decide +kernel
theorem dX7_look_135 : decode cX7_look 135 = .ok (.iconst 1, 1) := by decide +kernel
theorem dX7_look_136 : decode cX7_look 136 = .ok (.iadd, 1) := by decide +kernel
theorem dX7_look_137 : decode cX7_look 137 = .ok (.putfield 170, 3) := by decide +kernel
theorem dX7_look_140 : decode cX7_look 140 = .ok (.aload_n 0, 1) := by decide +kernel
theorem dX7_look_141 : decode cX7_look 141 = .ok (.iconst 3, 1) := by decide +kernel
theorem dX7_look_142 : decode cX7_look 142 = .ok (.putfield 161, 3) := by decide +kernel
theorem dX7_look_145 : decode cX7_look 145 = .ok (.aload_n 0, 1) := by decide +kernel
theorem dX7_look_146 : decode cX7_look 146 = .ok (.iload_n 1, 1) := by decide +kernel
theorem dX7_look_147 : decode cX7_look 147 = .ok (.putfield 164, 3) := by decide +kernel
theorem dX7_look_150 : decode cX7_look 150 = .ok (.return_, 1) := by decide +kernel
theorem dX7_taker_0 : decode cX7_taker 0 = .ok (.aload_n 0, 1) := by decide +kernel
theorem dX7_taker_1 : decode cX7_taker 1 = .ok (.getfield 23, 3) := by decide +kernel
theorem dX7_taker_4 : decode cX7_taker 4 = .ok (.iload_n 1, 1) := by decide +kernel
theorem dX7_taker_5 : decode cX7_taker 5 = .ok (.iaload, 1) := by decide +kernel
theorem dX7_taker_6 : decode cX7_taker 6 = .ok (.istore_n 2, 1) := by decide +kernel
theorem dX7_taker_7 : decode cX7_taker 7 = .ok (.aload_n 0, 1) := by decide +kernel
theorem dX7_taker_8 : decode cX7_taker 8 = .ok (.iload_n 1, 1) := by decide +kernel
theorem dX7_taker_9 : decode cX7_taker 9 = .ok (.invokevirtual 191, 3) := by decide +kernel
theorem dX7_taker_12 : decode cX7_taker 12 = .ok (.istore_n 3, 1) := by decide +kernel
theorem dX7_taker_13 : decode cX7_taker 13 = .ok (.iconst 0, 1) := by decide +kernel
theorem dX7_taker_14 : decode cX7_taker 14 = .ok (.istore 4, 2) := by decide +kernel
theorem dX7_taker_16 : decode cX7_taker 16 = .ok (.iload 4, 2) := by decide +kernel
theorem dX7_taker_18 : decode cX7_taker 18 = .ok (.sipush 150, 3) := by decide +kernel
theorem dX7_taker_21 : decode cX7_taker 21 = .ok (.if_icmp .ge 243, 3) := by decide +kernel
theorem dX7_taker_24 : decode cX7_taker 24 = .ok (.aload_n 0, 1) := by decide +kernel
theorem dX7_taker_25 : decode cX7_taker 25 = .ok (.getfield 39, 3) := by decide +kernel
theorem dX7_taker_28 : decode cX7_taker 28 = .ok (.iload 4, 2) := by decide +kernel
theorem dX7_taker_30 : decode cX7_taker 30 = .ok (.baload, 1) := by decide +kernel
theorem dX7_taker_31 : decode cX7_taker 31 = .ok (.ifCond .eq 227, 3) := by decide +kernel
theorem dX7_taker_34 : decode cX7_taker 34 = .ok (.aload_n 0, 1) := by decide +kernel
theorem dX7_taker_35 : decode cX7_taker 35 = .ok (.iload 4, 2) := by decide +kernel
theorem dX7_taker_37 : decode cX7_taker 37 = .ok (.iload_n 2, 1) := by decide +kernel
theorem dX7_taker_38 : decode cX7_taker 38 = .ok (.iload_n 3, 1) := by decide +kernel
theorem dX7_taker_39 : decode cX7_taker 39 = .ok (.invokevirtual 114, 3) := by decide +kernel
theorem dX7_taker_42 : decode cX7_taker 42 = .ok (.ifCond .ne 6, 3) := by decide +kernel
theorem dX7_taker_45 : decode cX7_taker 45 = .ok (.goto 213, 3) := by decide +kernel
theorem dX7_taker_48 : decode cX7_taker 48 = .ok (.iconst 0, 1) := by decide +kernel
theorem dX7_taker_49 : decode cX7_taker 49 = .ok (.istore 5, 2) := by decide +kernel
theorem dX7_taker_51 : decode cX7_taker 51 = .ok (.iload 5, 2) := by decide +kernel
theorem dX7_taker_53 : decode cX7_taker 53 = .ok (.sipush 150, 3) := by decide +kernel
theorem dX7_taker_56 : decode cX7_taker 56 = .ok (.if_icmp .ge 17, 3) := by decide +kernel
theorem dX7_taker_59 : decode cX7_taker 59 = .ok (.aload_n 0, 1) := by decide +kernel
theorem dX7_taker_60 : decode cX7_taker 60 = .ok (.getfield 64, 3) := by decide +kernel
theorem dX7_taker_63 : decode cX7_taker 63 = .ok (.iload 5, 2) := by decide +kernel
theorem dX7_taker_65 : decode cX7_taker 65 = .ok (.iconst 0, 1) := by decide +kernel
theorem dX7_taker_66 : decode cX7_taker 66 = .ok (.bastore, 1) := by decide +kernel
theorem dX7_taker_67 : decode cX7_taker 67 = .ok (.iinc 5 1, 3) := by decide +kernel
theorem dX7_taker_70 : decode cX7_taker 70 = .ok (.goto (-19), 3) := by decide +kernel
theorem dX7_taker_73 : decode cX7_taker 73 = .ok (.aload_n 0, 1) := by decide +kernel
theorem dX7_taker_74 : decode cX7_taker 74 = .ok (.iconst 0, 1) := by decide +kernel
theorem dX7_taker_75 : decode cX7_taker 75 = .ok (.putfield 105, 3) := by decide +kernel
theorem dX7_taker_78 : decode cX7_taker 78 = .ok (.iconst 0, 1) := by decide +kernel
theorem dX7_taker_79 : decode cX7_taker 79 = .ok (.istore 5, 2) := by decide +kernel
theorem dX7_taker_81 : decode cX7_taker 81 = .ok (.iload 5, 2) := by decide +kernel
theorem dX7_taker_83 : decode cX7_taker 83 = .ok (.iconst 4, 1) := by decide +kernel
theorem dX7_taker_84 : decode cX7_taker 84 = .ok (.if_icmp .ge 57, 3) := by decide +kernel
theorem dX7_taker_87 : decode cX7_taker 87 = .ok (.aload_n 0, 1) := by decide +kernel
theorem dX7_taker_88 : decode cX7_taker 88 = .ok (.getfield 32, 3) := by decide +kernel
theorem dX7_taker_91 : decode cX7_taker 91 = .ok (.iconst 4, 1) := by decide +kernel
theorem dX7_taker_92 : decode cX7_taker 92 = .ok (.iload 4, 2) := by decide +kernel
theorem dX7_taker_94 : decode cX7_taker 94 = .ok (.imul, 1) := by decide +kernel
theorem dX7_taker_95 : decode cX7_taker 95 = .ok (.iload 5, 2) := by decide +kernel
theorem dX7_taker_97 : decode cX7_taker 97 = .ok (.iadd, 1) := by decide +kernel
theorem dX7_taker_98 : decode cX7_taker 98 = .ok (.iaload, 1) := by decide +kernel
theorem dX7_taker_99 : decode cX7_taker 99 = .ok (.iconst (-1), 1) := by decide +kernel
theorem dX7_taker_100 : decode cX7_taker 100 = .ok (.if_icmp .eq 35, 3) := by decide +kernel
theorem dX7_taker_103 : decode cX7_taker 103 = .ok (.aload_n 0, 1) := by decide +kernel
theorem dX7_taker_104 : decode cX7_taker 104 = .ok (.aload_n 0, 1) := by decide +kernel
theorem dX7_taker_105 : decode cX7_taker 105 = .ok (.getfield 64, 3) := by decide +kernel
theorem dX7_taker_108 : decode cX7_taker 108 = .ok (.aload_n 0, 1) := by decide +kernel
theorem dX7_taker_109 : decode cX7_taker 109 = .ok (.getfield 32, 3) := by decide +kernel
theorem dX7_taker_112 : decode cX7_taker 112 = .ok (.iconst 4, 1) := by decide +kernel
theorem dX7_taker_113 : decode cX7_taker 113 = .ok (.iload 4, 2) := by decide +kernel
theorem dX7_taker_115 : decode cX7_taker 115 = .ok (.imul, 1) := by decide +kernel
theorem dX7_taker_116 : decode cX7_taker 116 = .ok (.iload 5, 2) := by decide +kernel
theorem dX7_taker_118 : decode cX7_taker 118 = .ok (.iadd, 1) := by decide +kernel
theorem dX7_taker_119 : decode cX7_taker 119 = .ok (.iaload, 1) := by decide +kernel
theorem dX7_taker_120 : decode cX7_taker 120 = .ok (.aload_n 0, 1) := by decide +kernel
theorem dX7_taker_121 : decode cX7_taker 121 = .ok (.getfield 32, 3) := by decide +kernel
theorem dX7_taker_124 : decode cX7_taker 124 = .ok (.iconst 4, 1) := by decide +kernel
theorem dX7_taker_125 : decode cX7_taker 125 = .ok (.iload 4, 2) := by decide +kernel
theorem dX7_taker_127 : decode cX7_taker 127 = .ok (.imul, 1) := by decide +kernel
theorem dX7_taker_128 : decode cX7_taker 128 = .ok (.iload 5, 2) := by decide +kernel
theorem dX7_taker_130 : decode cX7_taker 130 = .ok (.iadd, 1) := by decide +kernel
theorem dX7_taker_131 : decode cX7_taker 131 = .ok (.iaload, 1) := by decide +kernel
theorem dX7_taker_132 : decode cX7_taker 132 = .ok (.invokevirtual 108, 3) := by decide +kernel
theorem dX7_taker_135 : decode cX7_taker 135 = .ok (.iinc 5 1, 3) := by decide +kernel
theorem dX7_taker_138 : decode cX7_taker 138 = .ok (.goto (-57), 3) := by decide +kernel
theorem dX7_taker_141 : decode cX7_taker 141 = .ok (.aload_n 0, 1) := by decide +kernel
theorem dX7_taker_142 : decode cX7_taker 142 = .ok (.getfield 105, 3) := by decide +kernel
theorem dX7_taker_145 : decode cX7_taker 145 = .ok (.ifCond .le 113, 3) := by decide +kernel
theorem dX7_taker_148 : decode cX7_taker 148 = .ok (.aload_n 0, 1) := by decide +kernel
theorem dX7_taker_149 : decode cX7_taker 149 = .ok (.dup, 1) := by decide +kernel
theorem dX7_taker_150 : decode cX7_taker 150 = .ok (.getfield 105, 3) := by decide +kernel
theorem dX7_taker_153 : decode cX7_taker 153 = .ok (.iconst 1, 1) := by decide +kernel
theorem dX7_taker_154 : decode cX7_taker 154 = .ok (.isub, 1) := by decide +kernel
theorem dX7_taker_155 : decode cX7_taker 155 = .ok (.putfield 105, 3) := by decide +kernel
theorem dX7_taker_158 : decode cX7_taker 158 = .ok (.aload_n 0, 1) := by decide +kernel
theorem dX7_taker_159 : decode cX7_taker 159 = .ok (.getfield 58, 3) := by decide +kernel
theorem dX7_taker_162 : decode cX7_taker 162 = .ok (.aload_n 0, 1) := by decide +kernel
theorem dX7_taker_163 : decode cX7_taker 163 = .ok (.getfield 105, 3) := by decide +kernel
theorem dX7_taker_166 : decode cX7_taker 166 = .ok (.iaload, 1) := by decide +kernel
theorem dX7_taker_167 : decode cX7_taker 167 = .ok (.istore 5, 2) := by decide +kernel
theorem dX7_taker_169 : decode cX7_taker 169 = .ok (.iload 5, 2) := by decide +kernel
theorem dX7_taker_171 : decode cX7_taker 171 = .ok (.iload_n 1, 1) := by decide +kernel
theorem dX7_taker_172 : decode cX7_taker 172 = .ok (.if_icmp .ne 6, 3) := by decide +kernel
theorem dX7_taker_175 : decode cX7_taker 175 = .ok (.iload 4, 2) := by decide +kernel
theorem dX7_taker_177 : decode cX7_taker 177 = .ok (.ireturn, 1) := by decide +kernel
theorem dX7_taker_178 : decode cX7_taker 178 = .ok (.aload_n 0, 1) := by decide +kernel
theorem dX7_taker_179 : decode cX7_taker 179 = .ok (.iload 5, 2) := by decide +kernel
theorem dX7_taker_181 : decode cX7_taker 181 = .ok (.iload_n 2, 1) := by decide +kernel
theorem dX7_taker_182 : decode cX7_taker 182 = .ok (.iload_n 3, 1) := by decide +kernel
theorem dX7_taker_183 : decode cX7_taker 183 = .ok (.invokevirtual 111, 3) := by decide +kernel
theorem dX7_taker_186 : decode cX7_taker 186 = .ok (.ifCond .eq 6, 3) := by decide +kernel
theorem dX7_taker_189 : decode cX7_taker 189 = .ok (.goto (-48), 3) := by decide +kernel
theorem dX7_taker_192 : decode cX7_taker 192 = .ok (.iconst 0, 1) := by decide +kernel
theorem dX7_taker_193 : decode cX7_taker 193 = .ok (.istore 6, 2) := by decide +kernel
theorem dX7_taker_195 : decode cX7_taker 195 = .ok (.iload 6, 2) := by decide +kernel
theorem dX7_taker_197 : decode cX7_taker 197 = .ok (.iconst 4, 1) := by decide +kernel
theorem dX7_taker_198 : decode cX7_taker 198 = .ok (.if_icmp .ge 57, 3) := by decide +kernel
theorem dX7_taker_201 : decode cX7_taker 201 = .ok (.aload_n 0, 1) := by decide +kernel
theorem dX7_taker_202 : decode cX7_taker 202 = .ok (.getfield 32, 3) := by decide +kernel
theorem dX7_taker_205 : decode cX7_taker 205 = .ok (.iconst 4, 1) := by decide +kernel
theorem dX7_taker_206 : decode cX7_taker 206 = .ok (.iload 5, 2) := by decide +kernel
theorem dX7_taker_208 : decode cX7_taker 208 = .ok (.imul, 1) := by decide +kernel
theorem dX7_taker_209 : decode cX7_taker 209 = .ok (.iload 6, 2) := by decide +kernel
theorem dX7_taker_211 : decode cX7_taker 211 = .ok (.iadd, 1) := by decide +kernel
theorem dX7_taker_212 : decode cX7_taker 212 = .ok (.iaload, 1) := by decide +kernel
theorem dX7_taker_213 : decode cX7_taker 213 = .ok (.iconst (-1), 1) := by decide +kernel
theorem dX7_taker_214 : decode cX7_taker 214 = .ok (.if_icmp .eq 35, 3) := by decide +kernel
theorem dX7_taker_217 : decode cX7_taker 217 = .ok (.aload_n 0, 1) := by decide +kernel
theorem dX7_taker_218 : decode cX7_taker 218 = .ok (.aload_n 0, 1) := by decide +kernel
theorem dX7_taker_219 : decode cX7_taker 219 = .ok (.getfield 64, 3) := by decide +kernel
theorem dX7_taker_222 : decode cX7_taker 222 = .ok (.aload_n 0, 1) := by decide +kernel
theorem dX7_taker_223 : decode cX7_taker 223 = .ok (.getfield 32, 3) := by decide +kernel
theorem dX7_taker_226 : decode cX7_taker 226 = .ok (.iconst 4, 1) := by decide +kernel
theorem dX7_taker_227 : decode cX7_taker 227 = .ok (.iload 5, 2) := by decide +kernel
theorem dX7_taker_229 : decode cX7_taker 229 = .ok (.imul, 1) := by decide +kernel
theorem dX7_taker_230 : decode cX7_taker 230 = .ok (.iload 6, 2) := by decide +kernel
theorem dX7_taker_232 : decode cX7_taker 232 = .ok (.iadd, 1) := by decide +kernel
theorem dX7_taker_233 : decode cX7_taker 233 = .ok (.iaload, 1) := by decide +kernel
theorem dX7_taker_234 : decode cX7_taker 234 = .ok (.aload_n 0, 1) := by decide +kernel
theorem dX7_taker_235 : decode cX7_taker 235 = .ok (.getfield 32, 3) := by decide +kernel
theorem dX7_taker_238 : decode cX7_taker 238 = .ok (.iconst 4, 1) := by decide +kernel
theorem dX7_taker_239 : decode cX7_taker 239 = .ok (.iload 5, 2) := by decide +kernel
theorem dX7_taker_241 : decode cX7_taker 241 = .ok (.imul, 1) := by decide +kernel
theorem dX7_taker_242 : decode cX7_taker 242 = .ok (.iload 6, 2) := by decide +kernel
theorem dX7_taker_244 : decode cX7_taker 244 = .ok (.iadd, 1) := by decide +kernel
theorem dX7_taker_245 : decode cX7_taker 245 = .ok (.iaload, 1) := by decide +kernel
theorem dX7_taker_246 : decode cX7_taker 246 = .ok (.invokevirtual 108, 3) := by decide +kernel
theorem dX7_taker_249 : decode cX7_taker 249 = .ok (.iinc 6 1, 3) := by decide +kernel
theorem dX7_taker_252 : decode cX7_taker 252 = .ok (.goto (-57), 3) := by decide +kernel
theorem dX7_taker_255 : decode cX7_taker 255 = .ok (.goto (-114), 3) := by decide +kernel
theorem dX7_taker_258 : decode cX7_taker 258 = .ok (.iinc 4 1, 3) := by decide +kernel
theorem dX7_taker_261 : decode cX7_taker 261 = .ok (.goto (-245), 3) := by decide +kernel
theorem dX7_taker_264 : decode cX7_taker 264 = .ok (.iconst (-1), 1) := by decide +kernel
theorem dX7_taker_265 : decode cX7_taker 265 = .ok (.ireturn, 1) := by decide +kernel
theorem dX7_judge_0 : decode cX7_judge 0 = .ok (.aload_n 0, 1) := by decide +kernel
theorem dX7_judge_1 : decode cX7_judge 1 = .ok (.invokevirtual 194, 3) := by decide +kernel
theorem dX7_judge_4 : decode cX7_judge 4 = .ok (.aload_n 0, 1) := by decide +kernel
theorem dX7_judge_5 : decode cX7_judge 5 = .ok (.getfield 161, 3) := by decide +kernel
theorem dX7_judge_8 : decode cX7_judge 8 = .ok (.ireturn, 1) := by decide +kernel
theorem dX7_fault_0 : decode cX7_fault 0 = .ok (.aload_n 0, 1) := by decide +kernel
theorem dX7_fault_1 : decode cX7_fault 1 = .ok (.invokevirtual 194, 3) := by decide +kernel
theorem dX7_fault_4 : decode cX7_fault 4 = .ok (.aload_n 0, 1) := by decide +kernel
theorem dX7_fault_5 : decode cX7_fault 5 = .ok (.getfield 161, 3) := by decide +kernel
theorem dX7_fault_8 : decode cX7_fault 8 = .ok (.ifCond .ne 7, 3) := by decide +kernel
theorem dX7_fault_11 : decode cX7_fault 11 = .ok (.iconst (-1), 1) := by decide +kernel
theorem dX7_fault_12 : decode cX7_fault 12 = .ok (.goto 28, 3) := by decide +kernel
theorem dX7_fault_15 : decode cX7_fault 15 = .ok (.iload_n 1, 1) := by decide +kernel
theorem dX7_fault_16 : decode cX7_fault 16 = .ok (.iconst 1, 1) := by decide +kernel
theorem dX7_fault_17 : decode cX7_fault 17 = .ok (.if_icmp .ne 10, 3) := by decide +kernel
theorem dX7_fault_20 : decode cX7_fault 20 = .ok (.aload_n 0, 1) := by decide +kernel
theorem dX7_fault_21 : decode cX7_fault 21 = .ok (.getfield 164, 3) := by decide +kernel
theorem dX7_fault_24 : decode cX7_fault 24 = .ok (.goto 16, 3) := by decide +kernel
theorem dX7_fault_27 : decode cX7_fault 27 = .ok (.iload_n 1, 1) := by decide +kernel
theorem dX7_fault_28 : decode cX7_fault 28 = .ok (.iconst 2, 1) := by decide +kernel
theorem dX7_fault_29 : decode cX7_fault 29 = .ok (.if_icmp .ne 10, 3) := by decide +kernel
theorem dX7_fault_32 : decode cX7_fault 32 = .ok (.aload_n 0, 1) := by decide +kernel
theorem dX7_fault_33 : decode cX7_fault 33 = .ok (.getfield 167, 3) := by decide +kernel
theorem dX7_fault_36 : decode cX7_fault 36 = .ok (.goto 4, 3) := by decide +kernel
theorem dX7_fault_39 : decode cX7_fault 39 = .ok (.iconst (-1), 1) := by decide +kernel
theorem dX7_fault_40 : decode cX7_fault 40 = .ok (.ireturn, 1) := by decide +kernel
theorem dX7_comes_0 : decode cX7_comes 0 = .ok (.iload_n 1, 1) := by decide +kernel
theorem dX7_comes_1 : decode cX7_comes 1 = .ok (.invokestatic 82, 3) := by decide +kernel
theorem dX7_comes_4 : decode cX7_comes 4 = .ok (.ifCond .ne 5, 3) := by decide +kernel
theorem dX7_comes_7 : decode cX7_comes 7 = .ok (.iconst (-1), 1) := by decide +kernel
theorem dX7_comes_8 : decode cX7_comes 8 = .ok (.ireturn, 1) := by decide +kernel
theorem dX7_comes_9 : decode cX7_comes 9 = .ok (.aload_n 0, 1) := by decide +kernel
theorem dX7_comes_10 : decode cX7_comes 10 = .ok (.invokevirtual 194, 3) := by decide +kernel
theorem dX7_comes_13 : decode cX7_comes 13 = .ok (.aload_n 0, 1) := by decide +kernel
theorem dX7_comes_14 : decode cX7_comes 14 = .ok (.getfield 39, 3) := by decide +kernel
theorem dX7_comes_17 : decode cX7_comes 17 = .ok (.iload_n 1, 1) := by decide +kernel
theorem dX7_comes_18 : decode cX7_comes 18 = .ok (.baload, 1) := by decide +kernel
theorem dX7_comes_19 : decode cX7_comes 19 = .ok (.ifCond .eq 7, 3) := by decide +kernel
theorem dX7_comes_22 : decode cX7_comes 22 = .ok (.iconst 1, 1) := by decide +kernel
theorem dX7_comes_23 : decode cX7_comes 23 = .ok (.goto 4, 3) := by decide +kernel
theorem dX7_comes_26 : decode cX7_comes 26 = .ok (.iconst 0, 1) := by decide +kernel
theorem dX7_comes_27 : decode cX7_comes 27 = .ok (.ireturn, 1) := by decide +kernel
theorem dX7_held_0 : decode cX7_held 0 = .ok (.iload_n 1, 1) := by decide +kernel
theorem dX7_held_1 : decode cX7_held 1 = .ok (.invokestatic 82, 3) := by decide +kernel
theorem dX7_held_4 : decode cX7_held 4 = .ok (.ifCond .eq 27, 3) := by decide +kernel
theorem dX7_held_7 : decode cX7_held 7 = .ok (.aload_n 0, 1) := by decide +kernel
theorem dX7_held_8 : decode cX7_held 8 = .ok (.iload_n 2, 1) := by decide +kernel
theorem dX7_held_9 : decode cX7_held 9 = .ok (.invokevirtual 75, 3) := by decide +kernel
theorem dX7_held_12 : decode cX7_held 12 = .ok (.ifCond .eq 19, 3) := by decide +kernel
theorem dX7_held_15 : decode cX7_held 15 = .ok (.iload_n 3, 1) := by decide +kernel
theorem dX7_held_16 : decode cX7_held 16 = .ok (.iconst 0, 1) := by decide +kernel
theorem dX7_held_17 : decode cX7_held 17 = .ok (.aload_n 0, 1) := by decide +kernel
theorem dX7_held_18 : decode cX7_held 18 = .ok (.getfield 13, 3) := by decide +kernel
theorem dX7_held_21 : decode cX7_held 21 = .ok (.iload_n 2, 1) := by decide +kernel
theorem dX7_held_22 : decode cX7_held 22 = .ok (.iaload, 1) := by decide +kernel
theorem dX7_held_23 : decode cX7_held 23 = .ok (.iconst 1, 1) := by decide +kernel
theorem dX7_held_24 : decode cX7_held 24 = .ok (.isub, 1) := by decide +kernel
theorem dX7_held_25 : decode cX7_held 25 = .ok (.invokestatic 71, 3) := by decide +kernel
theorem dX7_held_28 : decode cX7_held 28 = .ok (.ifCond .ne 5, 3) := by decide +kernel
theorem dX7_held_31 : decode cX7_held 31 = .ok (.iconst (-1), 1) := by decide +kernel
theorem dX7_held_32 : decode cX7_held 32 = .ok (.ireturn, 1) := by decide +kernel
theorem dX7_held_33 : decode cX7_held 33 = .ok (.aload_n 0, 1) := by decide +kernel
theorem dX7_held_34 : decode cX7_held 34 = .ok (.invokevirtual 194, 3) := by decide +kernel
theorem dX7_held_37 : decode cX7_held 37 = .ok (.aload_n 0, 1) := by decide +kernel
theorem dX7_held_38 : decode cX7_held 38 = .ok (.getfield 39, 3) := by decide +kernel
theorem dX7_held_41 : decode cX7_held 41 = .ok (.iload_n 1, 1) := by decide +kernel
theorem dX7_held_42 : decode cX7_held 42 = .ok (.baload, 1) := by decide +kernel
theorem dX7_held_43 : decode cX7_held 43 = .ok (.ifCond .ne 5, 3) := by decide +kernel
theorem dX7_held_46 : decode cX7_held 46 = .ok (.iconst (-1), 1) := by decide +kernel
theorem dX7_held_47 : decode cX7_held 47 = .ok (.ireturn, 1) := by decide +kernel
theorem dX7_held_48 : decode cX7_held 48 = .ok (.bipush 64, 2) := by decide +kernel
theorem dX7_held_50 : decode cX7_held 50 = .ok (.iload_n 1, 1) := by decide +kernel
theorem dX7_held_51 : decode cX7_held 51 = .ok (.imul, 1) := by decide +kernel
theorem dX7_held_52 : decode cX7_held 52 = .ok (.iconst 4, 1) := by decide +kernel
theorem dX7_held_53 : decode cX7_held 53 = .ok (.iload_n 2, 1) := by decide +kernel
theorem dX7_held_54 : decode cX7_held 54 = .ok (.imul, 1) := by decide +kernel
theorem dX7_held_55 : decode cX7_held 55 = .ok (.iadd, 1) := by decide +kernel
theorem dX7_held_56 : decode cX7_held 56 = .ok (.iload_n 3, 1) := by decide +kernel
theorem dX7_held_57 : decode cX7_held 57 = .ok (.iadd, 1) := by decide +kernel
theorem dX7_held_58 : decode cX7_held 58 = .ok (.istore 4, 2) := by decide +kernel
theorem dX7_held_60 : decode cX7_held 60 = .ok (.aload_n 0, 1) := by decide +kernel
theorem dX7_held_61 : decode cX7_held 61 = .ok (.getfield 42, 3) := by decide +kernel
theorem dX7_held_64 : decode cX7_held 64 = .ok (.iload 4, 2) := by decide +kernel
theorem dX7_held_66 : decode cX7_held 66 = .ok (.baload, 1) := by decide +kernel
theorem dX7_held_67 : decode cX7_held 67 = .ok (.ifCond .ne 7, 3) := by decide +kernel
theorem dX7_held_70 : decode cX7_held 70 = .ok (.iconst 1, 1) := by decide +kernel
theorem dX7_held_71 : decode cX7_held 71 = .ok (.goto 18, 3) := by decide +kernel
theorem dX7_held_74 : decode cX7_held 74 = .ok (.aload_n 0, 1) := by decide +kernel
theorem dX7_held_75 : decode cX7_held 75 = .ok (.getfield 45, 3) := by decide +kernel
theorem dX7_held_78 : decode cX7_held 78 = .ok (.iload 4, 2) := by decide +kernel
theorem dX7_held_80 : decode cX7_held 80 = .ok (.baload, 1) := by decide +kernel
theorem dX7_held_81 : decode cX7_held 81 = .ok (.ifCond .eq 7, 3) := by decide +kernel
theorem dX7_held_84 : decode cX7_held 84 = .ok (.iconst 2, 1) := by decide +kernel
theorem dX7_held_85 : decode cX7_held 85 = .ok (.goto 4, 3) := by decide +kernel
theorem dX7_held_88 : decode cX7_held 88 = .ok (.iconst 0, 1) := by decide +kernel
theorem dX7_held_89 : decode cX7_held 89 = .ok (.ireturn, 1) := by decide +kernel
theorem dX7_holds_0 : decode cX7_holds 0 = .ok (.iload_n 1, 1) := by decide +kernel
theorem dX7_holds_1 : decode cX7_holds 1 = .ok (.invokestatic 82, 3) := by decide +kernel
theorem dX7_holds_4 : decode cX7_holds 4 = .ok (.ifCond .eq 26, 3) := by decide +kernel
theorem dX7_holds_7 : decode cX7_holds 7 = .ok (.aload_n 0, 1) := by decide +kernel
theorem dX7_holds_8 : decode cX7_holds 8 = .ok (.iload_n 2, 1) := by decide +kernel
theorem dX7_holds_9 : decode cX7_holds 9 = .ok (.invokevirtual 96, 3) := by decide +kernel
theorem dX7_holds_12 : decode cX7_holds 12 = .ok (.ifCond .eq 18, 3) := by decide +kernel
theorem dX7_holds_15 : decode cX7_holds 15 = .ok (.iload_n 3, 1) := by decide +kernel
theorem dX7_holds_16 : decode cX7_holds 16 = .ok (.invokestatic 82, 3) := by decide +kernel
theorem dX7_holds_19 : decode cX7_holds 19 = .ok (.ifCond .eq 11, 3) := by decide +kernel
theorem dX7_holds_22 : decode cX7_holds 22 = .ok (.aload_n 0, 1) := by decide +kernel
theorem dX7_holds_23 : decode cX7_holds 23 = .ok (.iload_n 3, 1) := by decide +kernel
theorem dX7_holds_24 : decode cX7_holds 24 = .ok (.invokevirtual 155, 3) := by decide +kernel
theorem dX7_holds_27 : decode cX7_holds 27 = .ok (.ifCond .ne 5, 3) := by decide +kernel
theorem dX7_holds_30 : decode cX7_holds 30 = .ok (.iconst (-1), 1) := by decide +kernel
theorem dX7_holds_31 : decode cX7_holds 31 = .ok (.ireturn, 1) := by decide +kernel
theorem dX7_holds_32 : decode cX7_holds 32 = .ok (.aload_n 0, 1) := by decide +kernel
theorem dX7_holds_33 : decode cX7_holds 33 = .ok (.invokevirtual 194, 3) := by decide +kernel
theorem dX7_holds_36 : decode cX7_holds 36 = .ok (.aload_n 0, 1) := by decide +kernel
theorem dX7_holds_37 : decode cX7_holds 37 = .ok (.getfield 39, 3) := by decide +kernel
theorem dX7_holds_40 : decode cX7_holds 40 = .ok (.iload_n 1, 1) := by decide +kernel
theorem dX7_holds_41 : decode cX7_holds 41 = .ok (.baload, 1) := by decide +kernel
theorem dX7_holds_42 : decode cX7_holds 42 = .ok (.ifCond .eq 27, 3) := by decide +kernel
theorem dX7_holds_45 : decode cX7_holds 45 = .ok (.aload_n 0, 1) := by decide +kernel
theorem dX7_holds_46 : decode cX7_holds 46 = .ok (.getfield 49, 3) := by decide +kernel
theorem dX7_holds_49 : decode cX7_holds 49 = .ok (.aload_n 0, 1) := by decide +kernel
theorem dX7_holds_50 : decode cX7_holds 50 = .ok (.aload_n 0, 1) := by decide +kernel
theorem dX7_holds_51 : decode cX7_holds 51 = .ok (.getfield 61, 3) := by decide +kernel
theorem dX7_holds_54 : decode cX7_holds 54 = .ok (.iload_n 3, 1) := by decide +kernel
theorem dX7_holds_55 : decode cX7_holds 55 = .ok (.iaload, 1) := by decide +kernel
theorem dX7_holds_56 : decode cX7_holds 56 = .ok (.iload_n 1, 1) := by decide +kernel
theorem dX7_holds_57 : decode cX7_holds 57 = .ok (.iload_n 2, 1) := by decide +kernel
theorem dX7_holds_58 : decode cX7_holds 58 = .ok (.invokevirtual 117, 3) := by decide +kernel
theorem dX7_holds_61 : decode cX7_holds 61 = .ok (.baload, 1) := by decide +kernel
theorem dX7_holds_62 : decode cX7_holds 62 = .ok (.ifCond .eq 7, 3) := by decide +kernel
theorem dX7_holds_65 : decode cX7_holds 65 = .ok (.iconst 1, 1) := by decide +kernel
theorem dX7_holds_66 : decode cX7_holds 66 = .ok (.goto 4, 3) := by decide +kernel
theorem dX7_holds_69 : decode cX7_holds 69 = .ok (.iconst 0, 1) := by decide +kernel
theorem dX7_holds_70 : decode cX7_holds 70 = .ok (.ireturn, 1) := by decide +kernel
theorem dX7_used_0 : decode cX7_used 0 = .ok (.iload_n 1, 1) := by decide +kernel
theorem dX7_used_1 : decode cX7_used 1 = .ok (.invokestatic 82, 3) := by decide +kernel
theorem dX7_used_4 : decode cX7_used 4 = .ok (.ifCond .eq 11, 3) := by decide +kernel
theorem dX7_used_7 : decode cX7_used 7 = .ok (.aload_n 0, 1) := by decide +kernel
theorem dX7_used_8 : decode cX7_used 8 = .ok (.iload_n 2, 1) := by decide +kernel
theorem dX7_used_9 : decode cX7_used 9 = .ok (.invokevirtual 96, 3) := by decide +kernel
theorem dX7_used_12 : decode cX7_used 12 = .ok (.ifCond .ne 5, 3) := by decide +kernel
theorem dX7_used_15 : decode cX7_used 15 = .ok (.iconst (-1), 1) := by decide +kernel
theorem dX7_used_16 : decode cX7_used 16 = .ok (.ireturn, 1) := by decide +kernel
theorem dX7_used_17 : decode cX7_used 17 = .ok (.aload_n 0, 1) := by decide +kernel
theorem dX7_used_18 : decode cX7_used 18 = .ok (.invokevirtual 194, 3) := by decide +kernel
theorem dX7_used_21 : decode cX7_used 21 = .ok (.aload_n 0, 1) := by decide +kernel
theorem dX7_used_22 : decode cX7_used 22 = .ok (.getfield 39, 3) := by decide +kernel
theorem dX7_used_25 : decode cX7_used 25 = .ok (.iload_n 1, 1) := by decide +kernel
theorem dX7_used_26 : decode cX7_used 26 = .ok (.baload, 1) := by decide +kernel
theorem dX7_used_27 : decode cX7_used 27 = .ok (.ifCond .eq 21, 3) := by decide +kernel
theorem dX7_used_30 : decode cX7_used 30 = .ok (.aload_n 0, 1) := by decide +kernel
theorem dX7_used_31 : decode cX7_used 31 = .ok (.getfield 52, 3) := by decide +kernel
theorem dX7_used_34 : decode cX7_used 34 = .ok (.bipush 16, 2) := by decide +kernel
theorem dX7_used_36 : decode cX7_used 36 = .ok (.iload_n 1, 1) := by decide +kernel
theorem dX7_used_37 : decode cX7_used 37 = .ok (.imul, 1) := by decide +kernel
theorem dX7_used_38 : decode cX7_used 38 = .ok (.iload_n 2, 1) := by decide +kernel
theorem dX7_used_39 : decode cX7_used 39 = .ok (.iadd, 1) := by decide +kernel
theorem dX7_used_40 : decode cX7_used 40 = .ok (.baload, 1) := by decide +kernel
theorem dX7_used_41 : decode cX7_used 41 = .ok (.ifCond .eq 7, 3) := by decide +kernel
theorem dX7_used_44 : decode cX7_used 44 = .ok (.iconst 1, 1) := by decide +kernel
theorem dX7_used_45 : decode cX7_used 45 = .ok (.goto 4, 3) := by decide +kernel
theorem dX7_used_48 : decode cX7_used 48 = .ok (.iconst 0, 1) := by decide +kernel
theorem dX7_used_49 : decode cX7_used 49 = .ok (.ireturn, 1) := by decide +kernel
theorem dX7_force_0 : decode cX7_force 0 = .ok (.iload_n 2, 1) := by decide +kernel
theorem dX7_force_1 : decode cX7_force 1 = .ok (.invokestatic 82, 3) := by decide +kernel
theorem dX7_force_4 : decode cX7_force 4 = .ok (.ifCond .eq 18, 3) := by decide +kernel
theorem dX7_force_7 : decode cX7_force 7 = .ok (.iload_n 1, 1) := by decide +kernel
theorem dX7_force_8 : decode cX7_force 8 = .ok (.invokestatic 82, 3) := by decide +kernel
theorem dX7_force_11 : decode cX7_force 11 = .ok (.ifCond .eq 11, 3) := by decide +kernel
theorem dX7_force_14 : decode cX7_force 14 = .ok (.aload_n 0, 1) := by decide +kernel
theorem dX7_force_15 : decode cX7_force 15 = .ok (.iload_n 1, 1) := by decide +kernel
theorem dX7_force_16 : decode cX7_force 16 = .ok (.invokevirtual 155, 3) := by decide +kernel
theorem dX7_force_19 : decode cX7_force 19 = .ok (.ifCond .ne 5, 3) := by decide +kernel
theorem dX7_force_22 : decode cX7_force 22 = .ok (.iconst (-1), 1) := by decide +kernel
theorem dX7_force_23 : decode cX7_force 23 = .ok (.ireturn, 1) := by decide +kernel
theorem dX7_force_24 : decode cX7_force 24 = .ok (.aload_n 0, 1) := by decide +kernel
theorem dX7_force_25 : decode cX7_force 25 = .ok (.invokevirtual 194, 3) := by decide +kernel
theorem dX7_force_28 : decode cX7_force 28 = .ok (.aload_n 0, 1) := by decide +kernel
theorem dX7_force_29 : decode cX7_force 29 = .ok (.getfield 39, 3) := by decide +kernel
theorem dX7_force_32 : decode cX7_force 32 = .ok (.iload_n 2, 1) := by decide +kernel
theorem dX7_force_33 : decode cX7_force 33 = .ok (.baload, 1) := by decide +kernel
theorem dX7_force_34 : decode cX7_force 34 = .ok (.ifCond .eq 22, 3) := by decide +kernel
theorem dX7_force_37 : decode cX7_force 37 = .ok (.aload_n 0, 1) := by decide +kernel
theorem dX7_force_38 : decode cX7_force 38 = .ok (.getfield 55, 3) := by decide +kernel
theorem dX7_force_41 : decode cX7_force 41 = .ok (.sipush 150, 3) := by decide +kernel
theorem dX7_force_44 : decode cX7_force 44 = .ok (.iload_n 1, 1) := by decide +kernel
theorem dX7_force_45 : decode cX7_force 45 = .ok (.imul, 1) := by decide +kernel
theorem dX7_force_46 : decode cX7_force 46 = .ok (.iload_n 2, 1) := by decide +kernel
theorem dX7_force_47 : decode cX7_force 47 = .ok (.iadd, 1) := by decide +kernel
theorem dX7_force_48 : decode cX7_force 48 = .ok (.baload, 1) := by decide +kernel
theorem dX7_force_49 : decode cX7_force 49 = .ok (.ifCond .eq 7, 3) := by decide +kernel
theorem dX7_force_52 : decode cX7_force 52 = .ok (.iconst 1, 1) := by decide +kernel
theorem dX7_force_53 : decode cX7_force 53 = .ok (.goto 4, 3) := by decide +kernel
theorem dX7_force_56 : decode cX7_force 56 = .ok (.iconst 0, 1) := by decide +kernel
theorem dX7_force_57 : decode cX7_force 57 = .ok (.ireturn, 1) := by decide +kernel
theorem dX7_count_0 : decode cX7_count 0 = .ok (.iload_n 1, 1) := by decide +kernel
theorem dX7_count_1 : decode cX7_count 1 = .ok (.iconst 0, 1) := by decide +kernel
theorem dX7_count_2 : decode cX7_count 2 = .ok (.iconst 5, 1) := by decide +kernel
theorem dX7_count_3 : decode cX7_count 3 = .ok (.invokestatic 71, 3) := by decide +kernel
theorem dX7_count_6 : decode cX7_count 6 = .ok (.ifCond .ne 5, 3) := by decide +kernel
theorem dX7_count_9 : decode cX7_count 9 = .ok (.iconst (-1), 1) := by decide +kernel
theorem dX7_count_10 : decode cX7_count 10 = .ok (.ireturn, 1) := by decide +kernel
theorem dX7_count_11 : decode cX7_count 11 = .ok (.aload_n 0, 1) := by decide +kernel
theorem dX7_count_12 : decode cX7_count 12 = .ok (.invokevirtual 194, 3) := by decide +kernel
theorem dX7_count_15 : decode cX7_count 15 = .ok (.iconst 0, 1) := by decide +kernel
theorem dX7_count_16 : decode cX7_count 16 = .ok (.istore_n 2, 1) := by decide +kernel
theorem dX7_count_17 : decode cX7_count 17 = .ok (.iconst 0, 1) := by decide +kernel
theorem dX7_count_18 : decode cX7_count 18 = .ok (.istore_n 3, 1) := by decide +kernel
theorem dX7_count_19 : decode cX7_count 19 = .ok (.iconst 0, 1) := by decide +kernel
theorem dX7_count_20 : decode cX7_count 20 = .ok (.istore 4, 2) := by decide +kernel
theorem dX7_count_22 : decode cX7_count 22 = .ok (.iconst 0, 1) := by decide +kernel
theorem dX7_count_23 : decode cX7_count 23 = .ok (.istore 5, 2) := by decide +kernel
theorem dX7_count_25 : decode cX7_count 25 = .ok (.iload 5, 2) := by decide +kernel
theorem dX7_count_27 : decode cX7_count 27 = .ok (.sipush 150, 3) := by decide +kernel
theorem dX7_count_30 : decode cX7_count 30 = .ok (.if_icmp .ge 111, 3) := by decide +kernel
theorem dX7_count_33 : decode cX7_count 33 = .ok (.iload_n 3, 1) := by decide +kernel
theorem dX7_count_34 : decode cX7_count 34 = .ok (.aload_n 0, 1) := by decide +kernel
theorem dX7_count_35 : decode cX7_count 35 = .ok (.getfield 39, 3) := by decide +kernel
theorem dX7_count_38 : decode cX7_count 38 = .ok (.iload 5, 2) := by decide +kernel
theorem dX7_count_40 : decode cX7_count 40 = .ok (.baload, 1) := by decide +kernel
theorem dX7_count_41 : decode cX7_count 41 = .ok (.ifCond .eq 7, 3) := by decide +kernel
theorem dX7_count_44 : decode cX7_count 44 = .ok (.iconst 1, 1) := by decide +kernel
theorem dX7_count_45 : decode cX7_count 45 = .ok (.goto 4, 3) := by decide +kernel
theorem dX7_count_48 : decode cX7_count 48 = .ok (.iconst 0, 1) := by decide +kernel
theorem dX7_count_49 : decode cX7_count 49 = .ok (.iadd, 1) := by decide +kernel
theorem dX7_count_50 : decode cX7_count 50 = .ok (.istore_n 3, 1) := by decide +kernel
theorem dX7_count_51 : decode cX7_count 51 = .ok (.iload_n 2, 1) := by decide +kernel
theorem dX7_count_52 : decode cX7_count 52 = .ok (.aload_n 0, 1) := by decide +kernel
theorem dX7_count_53 : decode cX7_count 53 = .ok (.getfield 61, 3) := by decide +kernel
theorem dX7_count_56 : decode cX7_count 56 = .ok (.iload 5, 2) := by decide +kernel
theorem dX7_count_58 : decode cX7_count 58 = .ok (.iaload, 1) := by decide +kernel
theorem dX7_count_59 : decode cX7_count 59 = .ok (.iconst (-1), 1) := by decide +kernel
theorem dX7_count_60 : decode cX7_count 60 = .ok (.if_icmp .eq 7, 3) := by decide +kernel
theorem dX7_count_63 : decode cX7_count 63 = .ok (.iconst 1, 1) := by decide +kernel
theorem dX7_count_64 : decode cX7_count 64 = .ok (.goto 4, 3) := by decide +kernel
theorem dX7_count_67 : decode cX7_count 67 = .ok (.iconst 0, 1) := by decide +kernel
theorem dX7_count_68 : decode cX7_count 68 = .ok (.iadd, 1) := by decide +kernel
theorem dX7_count_69 : decode cX7_count 69 = .ok (.istore_n 2, 1) := by decide +kernel
theorem dX7_count_70 : decode cX7_count 70 = .ok (.iconst 0, 1) := by decide +kernel
theorem dX7_count_71 : decode cX7_count 71 = .ok (.istore 6, 2) := by decide +kernel
theorem dX7_count_73 : decode cX7_count 73 = .ok (.iload 6, 2) := by decide +kernel
theorem dX7_count_75 : decode cX7_count 75 = .ok (.sipush 150, 3) := by decide +kernel
theorem dX7_count_78 : decode cX7_count 78 = .ok (.if_icmp .ge 57, 3) := by decide +kernel
theorem dX7_count_81 : decode cX7_count 81 = .ok (.aload_n 0, 1) := by decide +kernel
theorem dX7_count_82 : decode cX7_count 82 = .ok (.getfield 39, 3) := by decide +kernel
theorem dX7_count_85 : decode cX7_count 85 = .ok (.iload 5, 2) := by decide +kernel
theorem dX7_count_87 : decode cX7_count 87 = .ok (.baload, 1) := by decide +kernel
theorem dX7_count_88 : decode cX7_count 88 = .ok (.ifCond .eq 47, 3) := by decide +kernel
theorem dX7_count_91 : decode cX7_count 91 = .ok (.iload 4, 2) := by decide +kernel
theorem dX7_count_93 : decode cX7_count 93 = .ok (.aload_n 0, 1) := by decide +kernel
theorem dX7_count_94 : decode cX7_count 94 = .ok (.getfield 61, 3) := by decide +kernel
theorem dX7_count_97 : decode cX7_count 97 = .ok (.iload 6, 2) := by decide +kernel
theorem dX7_count_99 : decode cX7_count 99 = .ok (.iaload, 1) := by decide +kernel
theorem dX7_count_100 : decode cX7_count 100 = .ok (.iconst (-1), 1) := by decide +kernel
theorem dX7_count_101 : decode cX7_count 101 = .ok (.if_icmp .eq 24, 3) := by decide +kernel
theorem dX7_count_104 : decode cX7_count 104 = .ok (.aload_n 0, 1) := by decide +kernel
theorem dX7_count_105 : decode cX7_count 105 = .ok (.getfield 55, 3) := by decide +kernel
theorem dX7_count_108 : decode cX7_count 108 = .ok (.sipush 150, 3) := by decide +kernel
theorem dX7_count_111 : decode cX7_count 111 = .ok (.iload 6, 2) := by decide +kernel
theorem dX7_count_113 : decode cX7_count 113 = .ok (.imul, 1) := by decide +kernel
theorem dX7_count_114 : decode cX7_count 114 = .ok (.iload 5, 2) := by decide +kernel
theorem dX7_count_116 : decode cX7_count 116 = .ok (.iadd, 1) := by decide +kernel
theorem dX7_count_117 : decode cX7_count 117 = .ok (.baload, 1) := by decide +kernel
theorem dX7_count_118 : decode cX7_count 118 = .ok (.ifCond .eq 7, 3) := by decide +kernel
theorem dX7_count_121 : decode cX7_count 121 = .ok (.iconst 1, 1) := by decide +kernel
theorem dX7_count_122 : decode cX7_count 122 = .ok (.goto 4, 3) := by decide +kernel
theorem dX7_count_125 : decode cX7_count 125 = .ok (.iconst 0, 1) := by decide +kernel
theorem dX7_count_126 : decode cX7_count 126 = .ok (.iadd, 1) := by decide +kernel
theorem dX7_count_127 : decode cX7_count 127 = .ok (.istore 4, 2) := by decide +kernel
theorem dX7_count_129 : decode cX7_count 129 = .ok (.iinc 6 1, 3) := by decide +kernel
theorem dX7_count_132 : decode cX7_count 132 = .ok (.goto (-59), 3) := by decide +kernel
theorem dX7_count_135 : decode cX7_count 135 = .ok (.iinc 5 1, 3) := by decide +kernel
theorem dX7_count_138 : decode cX7_count 138 = .ok (.goto (-113), 3) := by decide +kernel
theorem dX7_count_141 : decode cX7_count 141 = .ok (.iload_n 1, 1) := by decide +kernel
theorem dX7_count_142 : decode cX7_count 142 = .ok (.ifCond .ne 10, 3) := by decide +kernel
theorem dX7_count_145 : decode cX7_count 145 = .ok (.aload_n 0, 1) := by decide +kernel
theorem dX7_count_146 : decode cX7_count 146 = .ok (.getfield 67, 3) := by decide +kernel
theorem dX7_count_149 : decode cX7_count 149 = .ok (.goto 47, 3) := by decide +kernel
theorem dX7_count_152 : decode cX7_count 152 = .ok (.iload_n 1, 1) := by decide +kernel
theorem dX7_count_153 : decode cX7_count 153 = .ok (.iconst 1, 1) := by decide +kernel
theorem dX7_count_154 : decode cX7_count 154 = .ok (.if_icmp .ne 7, 3) := by decide +kernel
theorem dX7_count_157 : decode cX7_count 157 = .ok (.iload_n 2, 1) := by decide +kernel
theorem dX7_count_158 : decode cX7_count 158 = .ok (.goto 38, 3) := by decide +kernel
theorem dX7_count_161 : decode cX7_count 161 = .ok (.iload_n 1, 1) := by decide +kernel
theorem dX7_count_162 : decode cX7_count 162 = .ok (.iconst 2, 1) := by decide +kernel
theorem dX7_count_163 : decode cX7_count 163 = .ok (.if_icmp .ne 7, 3) := by decide +kernel
theorem dX7_count_166 : decode cX7_count 166 = .ok (.iload_n 3, 1) := by decide +kernel
theorem dX7_count_167 : decode cX7_count 167 = .ok (.goto 29, 3) := by decide +kernel
theorem dX7_count_170 : decode cX7_count 170 = .ok (.iload_n 1, 1) := by decide +kernel
theorem dX7_count_171 : decode cX7_count 171 = .ok (.iconst 3, 1) := by decide +kernel
theorem dX7_count_172 : decode cX7_count 172 = .ok (.if_icmp .ne 8, 3) := by decide +kernel
theorem dX7_count_175 : decode cX7_count 175 = .ok (.iload 4, 2) := by decide +kernel
theorem dX7_count_177 : decode cX7_count 177 = .ok (.goto 19, 3) := by decide +kernel
theorem dX7_count_180 : decode cX7_count 180 = .ok (.iload_n 1, 1) := by decide +kernel
theorem dX7_count_181 : decode cX7_count 181 = .ok (.iconst 4, 1) := by decide +kernel
theorem dX7_count_182 : decode cX7_count 182 = .ok (.if_icmp .ne 10, 3) := by decide +kernel
theorem dX7_count_185 : decode cX7_count 185 = .ok (.aload_n 0, 1) := by decide +kernel
theorem dX7_count_186 : decode cX7_count 186 = .ok (.getfield 170, 3) := by decide +kernel
theorem dX7_count_189 : decode cX7_count 189 = .ok (.goto 7, 3) := by decide +kernel
theorem dX7_count_192 : decode cX7_count 192 = .ok (.aload_n 0, 1) := by decide +kernel
theorem dX7_count_193 : decode cX7_count 193 = .ok (.getfield 173, 3) := by decide +kernel
theorem dX7_count_196 : decode cX7_count 196 = .ok (.ireturn, 1) := by decide +kernel
