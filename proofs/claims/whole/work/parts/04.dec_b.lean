theorem dX2_init_0 : decode cX2_init 0 = .ok (.aload_n 0, 1) := by decide +kernel
theorem dX2_init_1 : decode cX2_init 1 = .ok (.invokespecial 3, 3) := by decide +kernel
theorem dX2_init_4 : decode cX2_init 4 = .ok (.aload_n 0, 1) := by decide +kernel
theorem dX2_init_5 : decode cX2_init 5 = .ok (.bipush 60, 2) := by decide +kernel
theorem dX2_init_7 : decode cX2_init 7 = .ok (.newarray .int, 2) := by decide +kernel
theorem dX2_init_9 : decode cX2_init 9 = .ok (.putfield 9, 3) := by decide +kernel
theorem dX2_init_12 : decode cX2_init 12 = .ok (.aload_n 0, 1) := by decide +kernel
theorem dX2_init_13 : decode cX2_init 13 = .ok (.sipush 150, 3) := by decide +kernel
theorem dX2_init_16 : decode cX2_init 16 = .ok (.newarray .long, 2) := by decide +kernel
theorem dX2_init_18 : decode cX2_init 18 = .ok (.putfield 15, 3) := by decide +kernel
theorem dX2_init_21 : decode cX2_init 21 = .ok (.aload_n 0, 1) := by decide +kernel
theorem dX2_init_22 : decode cX2_init 22 = .ok (.bipush 16, 2) := by decide +kernel
theorem dX2_init_24 : decode cX2_init 24 = .ok (.newarray .long, 2) := by decide +kernel
theorem dX2_init_26 : decode cX2_init 26 = .ok (.putfield 19, 3) := by decide +kernel
theorem dX2_init_29 : decode cX2_init 29 = .ok (.aload_n 0, 1) := by decide +kernel
theorem dX2_init_30 : decode cX2_init 30 = .ok (.sipush 2400, 3) := by decide +kernel
theorem dX2_init_33 : decode cX2_init 33 = .ok (.newarray .long, 2) := by decide +kernel
theorem dX2_init_35 : decode cX2_init 35 = .ok (.putfield 22, 3) := by decide +kernel
theorem dX2_init_38 : decode cX2_init 38 = .ok (.aload_n 0, 1) := by decide +kernel
theorem dX2_init_39 : decode cX2_init 39 = .ok (.bipush 16, 2) := by decide +kernel
theorem dX2_init_41 : decode cX2_init 41 = .ok (.newarray .long, 2) := by decide +kernel
theorem dX2_init_43 : decode cX2_init 43 = .ok (.putfield 25, 3) := by decide +kernel
theorem dX2_init_46 : decode cX2_init 46 = .ok (.aload_n 0, 1) := by decide +kernel
theorem dX2_init_47 : decode cX2_init 47 = .ok (.sipush 150, 3) := by decide +kernel
theorem dX2_init_50 : decode cX2_init 50 = .ok (.newarray .int, 2) := by decide +kernel
theorem dX2_init_52 : decode cX2_init 52 = .ok (.putfield 28, 3) := by decide +kernel
theorem dX2_init_55 : decode cX2_init 55 = .ok (.aload_n 0, 1) := by decide +kernel
theorem dX2_init_56 : decode cX2_init 56 = .ok (.aload_n 1, 1) := by decide +kernel
theorem dX2_init_57 : decode cX2_init 57 = .ok (.putfield 31, 3) := by decide +kernel
theorem dX2_init_60 : decode cX2_init 60 = .ok (.aload_n 0, 1) := by decide +kernel
theorem dX2_init_61 : decode cX2_init 61 = .ok (.aload_n 2, 1) := by decide +kernel
theorem dX2_init_62 : decode cX2_init 62 = .ok (.putfield 35, 3) := by decide +kernel
theorem dX2_init_65 : decode cX2_init 65 = .ok (.aload_n 0, 1) := by decide +kernel
theorem dX2_init_66 : decode cX2_init 66 = .ok (.aload_n 3, 1) := by decide +kernel
theorem dX2_init_67 : decode cX2_init 67 = .ok (.putfield 39, 3) := by decide +kernel
theorem dX2_init_70 : decode cX2_init 70 = .ok (.return_, 1) := by decide +kernel
theorem dX2_number_0 : decode cX2_number 0 = .ok (.aload_n 0, 1) := by decide +kernel
theorem dX2_number_1 : decode cX2_number 1 = .ok (.getfield 15, 3) := by decide +kernel
theorem dX2_number_4 : decode cX2_number 4 = .ok (.lconst 0, 1) := by decide +kernel
theorem dX2_number_5 : decode cX2_number 5 = .ok (.invokestatic 43, 3) := by decide +kernel
theorem dX2_number_8 : decode cX2_number 8 = .ok (.aload_n 0, 1) := by decide +kernel
theorem dX2_number_9 : decode cX2_number 9 = .ok (.getfield 19, 3) := by decide +kernel
theorem dX2_number_12 : decode cX2_number 12 = .ok (.lconst 0, 1) := by decide +kernel
theorem dX2_number_13 : decode cX2_number 13 = .ok (.invokestatic 43, 3) := by decide +kernel
theorem dX2_number_16 : decode cX2_number 16 = .ok (.aload_n 0, 1) := by decide +kernel
theorem dX2_number_17 : decode cX2_number 17 = .ok (.lconst 0, 1) := by decide +kernel
theorem dX2_number_18 : decode cX2_number 18 = .ok (.putfield 49, 3) := by decide +kernel
theorem dX2_number_21 : decode cX2_number 21 = .ok (.aload_n 0, 1) := by decide +kernel
theorem dX2_number_22 : decode cX2_number 22 = .ok (.iconst 0, 1) := by decide +kernel
theorem dX2_number_23 : decode cX2_number 23 = .ok (.putfield 53, 3) := by decide +kernel
theorem dX2_number_26 : decode cX2_number 26 = .ok (.iconst 0, 1) := by decide +kernel
theorem dX2_number_27 : decode cX2_number 27 = .ok (.istore_n 1, 1) := by decide +kernel
theorem dX2_number_28 : decode cX2_number 28 = .ok (.iload_n 1, 1) := by decide +kernel
theorem dX2_number_29 : decode cX2_number 29 = .ok (.sipush 150, 3) := by decide +kernel
theorem dX2_number_32 : decode cX2_number 32 = .ok (.if_icmp .ge 113, 3) := by decide +kernel
theorem dX2_number_35 : decode cX2_number 35 = .ok (.aload_n 0, 1) := by decide +kernel
theorem dX2_number_36 : decode cX2_number 36 = .ok (.getfield 53, 3) := by decide +kernel
theorem dX2_number_39 : decode cX2_number 39 = .ok (.bipush 60, 2) := by decide +kernel
theorem dX2_number_41 : decode cX2_number 41 = .ok (.if_icmp .ge 104, 3) := by decide +kernel
theorem dX2_number_44 : decode cX2_number 44 = .ok (.aload_n 0, 1) := by decide +kernel
theorem dX2_number_45 : decode cX2_number 45 = .ok (.getfield 35, 3) := by decide +kernel
theorem dX2_number_48 : decode cX2_number 48 = .ok (.iload_n 1, 1) := by decide +kernel
theorem dX2_number_49 : decode cX2_number 49 = .ok (.invokevirtual 57, 3) := by decide +kernel
theorem dX2_number_52 : decode cX2_number 52 = .ok (.ifCond .eq 87, 3) := by decide +kernel
theorem dX2_number_55 : decode cX2_number 55 = .ok (.aload_n 0, 1) := by decide +kernel
theorem dX2_number_56 : decode cX2_number 56 = .ok (.getfield 15, 3) := by decide +kernel
theorem dX2_number_59 : decode cX2_number 59 = .ok (.iload_n 1, 1) := by decide +kernel
theorem dX2_number_60 : decode cX2_number 60 = .ok (.lconst 1, 1) := by decide +kernel
theorem dX2_number_61 : decode cX2_number 61 = .ok (.aload_n 0, 1) := by decide +kernel
theorem dX2_number_62 : decode cX2_number 62 = .ok (.getfield 53, 3) := by decide +kernel
theorem dX2_number_65 : decode cX2_number 65 = .ok (.lshl, 1) := by decide +kernel
theorem dX2_number_66 : decode cX2_number 66 = .ok (.lastore, 1) := by decide +kernel
theorem dX2_number_67 : decode cX2_number 67 = .ok (.aload_n 0, 1) := by decide +kernel
theorem dX2_number_68 : decode cX2_number 68 = .ok (.getfield 9, 3) := by decide +kernel
theorem dX2_number_71 : decode cX2_number 71 = .ok (.aload_n 0, 1) := by decide +kernel
theorem dX2_number_72 : decode cX2_number 72 = .ok (.getfield 53, 3) := by decide +kernel
theorem dX2_number_75 : decode cX2_number 75 = .ok (.iload_n 1, 1) := by decide +kernel
theorem dX2_number_76 : decode cX2_number 76 = .ok (.iastore, 1) := by decide +kernel
theorem dX2_number_77 : decode cX2_number 77 = .ok (.aload_n 0, 1) := by decide +kernel
theorem dX2_number_78 : decode cX2_number 78 = .ok (.dup, 1) := by decide +kernel
theorem dX2_number_79 : decode cX2_number 79 = .ok (.getfield 53, 3) := by decide +kernel
theorem dX2_number_82 : decode cX2_number 82 = .ok (.iconst 1, 1) := by decide +kernel
theorem dX2_number_83 : decode cX2_number 83 = .ok (.iadd, 1) := by decide +kernel
theorem dX2_number_84 : decode cX2_number 84 = .ok (.putfield 53, 3) := by decide +kernel
theorem dX2_number_87 : decode cX2_number 87 = .ok (.aload_n 0, 1) := by decide +kernel
theorem dX2_number_88 : decode cX2_number 88 = .ok (.getfield 19, 3) := by decide +kernel
theorem dX2_number_91 : decode cX2_number 91 = .ok (.aload_n 0, 1) := by decide +kernel
theorem dX2_number_92 : decode cX2_number 92 = .ok (.getfield 35, 3) := by decide +kernel
theorem dX2_number_95 : decode cX2_number 95 = .ok (.iload_n 1, 1) := by decide +kernel
theorem dX2_number_96 : decode cX2_number 96 = .ok (.invokevirtual 63, 3) := by decide +kernel
theorem dX2_number_99 : decode cX2_number 99 = .ok (.dup2, 1) := by decide +kernel
theorem dX2_number_100 : decode cX2_number 100 = .ok (.laload, 1) := by decide +kernel
theorem dX2_number_101 : decode cX2_number 101 = .ok (.aload_n 0, 1) := by decide +kernel
theorem dX2_number_102 : decode cX2_number 102 = .ok (.getfield 15, 3) := by decide +kernel
theorem dX2_number_105 : decode cX2_number 105 = .ok (.iload_n 1, 1) := by decide +kernel
theorem dX2_number_106 : decode cX2_number 106 = .ok (.laload, 1) := by decide +kernel
theorem dX2_number_107 : decode cX2_number 107 = .ok (.lor, 1) := by decide +kernel
theorem dX2_number_108 : decode cX2_number 108 = .ok (.lastore, 1) := by decide +kernel
theorem dX2_number_109 : decode cX2_number 109 = .ok (.aload_n 0, 1) := by decide +kernel
theorem dX2_number_110 : decode cX2_number 110 = .ok (.dup, 1) := by decide +kernel
theorem dX2_number_111 : decode cX2_number 111 = .ok (.getfield 49, 3) := by decide +kernel
theorem dX2_number_114 : decode cX2_number 114 = .ok (.aload_n 0, 1) := by decide +kernel
theorem dX2_number_115 : decode cX2_number 115 = .ok (.getfield 35, 3) := by decide +kernel
theorem dX2_number_118 : decode cX2_number 118 = .ok (.iload_n 1, 1) := by decide +kernel
theorem dX2_number_119 : decode cX2_number 119 = .ok (.invokevirtual 67, 3) := by decide +kernel
theorem dX2_number_122 : decode cX2_number 122 = .ok (.ifCond .eq 12, 3) := by decide +kernel
theorem dX2_number_125 : decode cX2_number 125 = .ok (.aload_n 0, 1) := by decide +kernel
theorem dX2_number_126 : decode cX2_number 126 = .ok (.getfield 15, 3) := by decide +kernel
theorem dX2_number_129 : decode cX2_number 129 = .ok (.iload_n 1, 1) := by decide +kernel
theorem dX2_number_130 : decode cX2_number 130 = .ok (.laload, 1) := by decide +kernel
theorem dX2_number_131 : decode cX2_number 131 = .ok (.goto 4, 3) := by decide +kernel
theorem dX2_number_134 : decode cX2_number 134 = .ok (.lconst 0, 1) := by decide +kernel
theorem dX2_number_135 : decode cX2_number 135 = .ok (.lor, 1) := by decide +kernel
theorem dX2_number_136 : decode cX2_number 136 = .ok (.putfield 49, 3) := by decide +kernel
theorem dX2_number_139 : decode cX2_number 139 = .ok (.iinc 1 1, 3) := by decide +kernel
theorem dX2_number_142 : decode cX2_number 142 = .ok (.goto (-114), 3) := by decide +kernel
theorem dX2_number_145 : decode cX2_number 145 = .ok (.return_, 1) := by decide +kernel
theorem dX2_flowHoldings_0 : decode cX2_flowHoldings 0 = .ok (.aload_n 0, 1) := by decide +kernel
theorem dX2_flowHoldings_1 : decode cX2_flowHoldings 1 = .ok (.getfield 22, 3) := by decide +kernel
theorem dX2_flowHoldings_4 : decode cX2_flowHoldings 4 = .ok (.lconst 0, 1) := by decide +kernel
theorem dX2_flowHoldings_5 : decode cX2_flowHoldings 5 = .ok (.invokestatic 43, 3) := by decide +kernel
theorem dX2_flowHoldings_8 : decode cX2_flowHoldings 8 = .ok (.aload_n 0, 1) := by decide +kernel
theorem dX2_flowHoldings_9 : decode cX2_flowHoldings 9 = .ok (.getfield 53, 3) := by decide +kernel
theorem dX2_flowHoldings_12 : decode cX2_flowHoldings 12 = .ok (.ifCond .le 7, 3) := by decide +kernel
theorem dX2_flowHoldings_15 : decode cX2_flowHoldings 15 = .ok (.iconst 1, 1) := by decide +kernel
theorem dX2_flowHoldings_16 : decode cX2_flowHoldings 16 = .ok (.goto 4, 3) := by decide +kernel
theorem dX2_flowHoldings_19 : decode cX2_flowHoldings 19 = .ok (.iconst 0, 1) := by decide +kernel
theorem dX2_flowHoldings_20 : decode cX2_flowHoldings 20 = .ok (.istore_n 1, 1) := by decide +kernel
theorem dX2_flowHoldings_21 : decode cX2_flowHoldings 21 = .ok (.iconst 0, 1) := by decide +kernel
theorem dX2_flowHoldings_22 : decode cX2_flowHoldings 22 = .ok (.istore_n 2, 1) := by decide +kernel
theorem dX2_flowHoldings_23 : decode cX2_flowHoldings 23 = .ok (.iload_n 2, 1) := by decide +kernel
theorem dX2_flowHoldings_24 : decode cX2_flowHoldings 24 = .ok (.ldc 70, 2) := by decide +kernel
theorem dX2_flowHoldings_26 : decode cX2_flowHoldings 26 = .ok (.if_icmp .ge 51, 3) := by decide +kernel
theorem dX2_flowHoldings_29 : decode cX2_flowHoldings 29 = .ok (.iload_n 1, 1) := by decide +kernel
theorem dX2_flowHoldings_30 : decode cX2_flowHoldings 30 = .ok (.ifCond .eq 47, 3) := by decide +kernel
theorem dX2_flowHoldings_33 : decode cX2_flowHoldings 33 = .ok (.iconst 0, 1) := by decide +kernel
theorem dX2_flowHoldings_34 : decode cX2_flowHoldings 34 = .ok (.istore_n 1, 1) := by decide +kernel
theorem dX2_flowHoldings_35 : decode cX2_flowHoldings 35 = .ok (.iconst 0, 1) := by decide +kernel
theorem dX2_flowHoldings_36 : decode cX2_flowHoldings 36 = .ok (.istore_n 3, 1) := by decide +kernel
theorem dX2_flowHoldings_37 : decode cX2_flowHoldings 37 = .ok (.iload_n 3, 1) := by decide +kernel
theorem dX2_flowHoldings_38 : decode cX2_flowHoldings 38 = .ok (.aload_n 0, 1) := by decide +kernel
theorem dX2_flowHoldings_39 : decode cX2_flowHoldings 39 = .ok (.getfield 39, 3) := by decide +kernel
theorem dX2_flowHoldings_42 : decode cX2_flowHoldings 42 = .ok (.invokevirtual 71, 3) := by decide +kernel
theorem dX2_flowHoldings_45 : decode cX2_flowHoldings 45 = .ok (.if_icmp .ge 26, 3) := by decide +kernel
theorem dX2_flowHoldings_48 : decode cX2_flowHoldings 48 = .ok (.aload_n 0, 1) := by decide +kernel
theorem dX2_flowHoldings_49 : decode cX2_flowHoldings 49 = .ok (.aload_n 0, 1) := by decide +kernel
theorem dX2_flowHoldings_50 : decode cX2_flowHoldings 50 = .ok (.getfield 39, 3) := by decide +kernel
theorem dX2_flowHoldings_53 : decode cX2_flowHoldings 53 = .ok (.iload_n 3, 1) := by decide +kernel
theorem dX2_flowHoldings_54 : decode cX2_flowHoldings 54 = .ok (.invokevirtual 77, 3) := by decide +kernel
theorem dX2_flowHoldings_57 : decode cX2_flowHoldings 57 = .ok (.invokevirtual 80, 3) := by decide +kernel
theorem dX2_flowHoldings_60 : decode cX2_flowHoldings 60 = .ok (.ifCond .eq 5, 3) := by decide +kernel
theorem dX2_flowHoldings_63 : decode cX2_flowHoldings 63 = .ok (.iconst 1, 1) := by decide +kernel
theorem dX2_flowHoldings_64 : decode cX2_flowHoldings 64 = .ok (.istore_n 1, 1) := by decide +kernel
theorem dX2_flowHoldings_65 : decode cX2_flowHoldings 65 = .ok (.iinc 3 1, 3) := by decide +kernel
theorem dX2_flowHoldings_68 : decode cX2_flowHoldings 68 = .ok (.goto (-31), 3) := by decide +kernel
theorem dX2_flowHoldings_71 : decode cX2_flowHoldings 71 = .ok (.iinc 2 1, 3) := by decide +kernel
theorem dX2_flowHoldings_74 : decode cX2_flowHoldings 74 = .ok (.goto (-51), 3) := by decide +kernel
theorem dX2_flowHoldings_77 : decode cX2_flowHoldings 77 = .ok (.return_, 1) := by decide +kernel
theorem dX2_handOn_0 : decode cX2_handOn 0 = .ok (.aload_n 0, 1) := by decide +kernel
theorem dX2_handOn_1 : decode cX2_handOn 1 = .ok (.getfield 22, 3) := by decide +kernel
theorem dX2_handOn_4 : decode cX2_handOn 4 = .ok (.iload_n 1, 1) := by decide +kernel
theorem dX2_handOn_5 : decode cX2_handOn 5 = .ok (.bipush 16, 2) := by decide +kernel
theorem dX2_handOn_7 : decode cX2_handOn 7 = .ok (.imul, 1) := by decide +kernel
theorem dX2_handOn_8 : decode cX2_handOn 8 = .ok (.aload_n 0, 1) := by decide +kernel
theorem dX2_handOn_9 : decode cX2_handOn 9 = .ok (.getfield 25, 3) := by decide +kernel
theorem dX2_handOn_12 : decode cX2_handOn 12 = .ok (.iconst 0, 1) := by decide +kernel
theorem dX2_handOn_13 : decode cX2_handOn 13 = .ok (.bipush 16, 2) := by decide +kernel
theorem dX2_handOn_15 : decode cX2_handOn 15 = .ok (.invokestatic 83, 3) := by decide +kernel
theorem dX2_handOn_18 : decode cX2_handOn 18 = .ok (.aload_n 0, 1) := by decide +kernel
theorem dX2_handOn_19 : decode cX2_handOn 19 = .ok (.iload_n 1, 1) := by decide +kernel
theorem dX2_handOn_20 : decode cX2_handOn 20 = .ok (.invokevirtual 89, 3) := by decide +kernel
theorem dX2_handOn_23 : decode cX2_handOn 23 = .ok (.iconst 0, 1) := by decide +kernel
theorem dX2_handOn_24 : decode cX2_handOn 24 = .ok (.istore_n 2, 1) := by decide +kernel
theorem dX2_handOn_25 : decode cX2_handOn 25 = .ok (.iconst 0, 1) := by decide +kernel
theorem dX2_handOn_26 : decode cX2_handOn 26 = .ok (.istore_n 3, 1) := by decide +kernel
theorem dX2_handOn_27 : decode cX2_handOn 27 = .ok (.iload_n 3, 1) := by decide +kernel
theorem dX2_handOn_28 : decode cX2_handOn 28 = .ok (.aload_n 0, 1) := by decide +kernel
theorem dX2_handOn_29 : decode cX2_handOn 29 = .ok (.getfield 39, 3) := by decide +kernel
theorem dX2_handOn_32 : decode cX2_handOn 32 = .ok (.iload_n 1, 1) := by decide +kernel
theorem dX2_handOn_33 : decode cX2_handOn 33 = .ok (.invokevirtual 93, 3) := by decide +kernel
theorem dX2_handOn_36 : decode cX2_handOn 36 = .ok (.if_icmp .ge 27, 3) := by decide +kernel
theorem dX2_handOn_39 : decode cX2_handOn 39 = .ok (.aload_n 0, 1) := by decide +kernel
theorem dX2_handOn_40 : decode cX2_handOn 40 = .ok (.aload_n 0, 1) := by decide +kernel
theorem dX2_handOn_41 : decode cX2_handOn 41 = .ok (.getfield 39, 3) := by decide +kernel
theorem dX2_handOn_44 : decode cX2_handOn 44 = .ok (.iload_n 1, 1) := by decide +kernel
theorem dX2_handOn_45 : decode cX2_handOn 45 = .ok (.iload_n 3, 1) := by decide +kernel
theorem dX2_handOn_46 : decode cX2_handOn 46 = .ok (.invokevirtual 96, 3) := by decide +kernel
theorem dX2_handOn_49 : decode cX2_handOn 49 = .ok (.invokevirtual 100, 3) := by decide +kernel
theorem dX2_handOn_52 : decode cX2_handOn 52 = .ok (.ifCond .eq 5, 3) := by decide +kernel
theorem dX2_handOn_55 : decode cX2_handOn 55 = .ok (.iconst 1, 1) := by decide +kernel
theorem dX2_handOn_56 : decode cX2_handOn 56 = .ok (.istore_n 2, 1) := by decide +kernel
theorem dX2_handOn_57 : decode cX2_handOn 57 = .ok (.iinc 3 1, 3) := by decide +kernel
theorem dX2_handOn_60 : decode cX2_handOn 60 = .ok (.goto (-33), 3) := by decide +kernel
theorem dX2_handOn_63 : decode cX2_handOn 63 = .ok (.iload_n 2, 1) := by decide +kernel
theorem dX2_handOn_64 : decode cX2_handOn 64 = .ok (.ireturn, 1) := by decide +kernel
theorem dX2_renew_0 : decode cX2_renew 0 = .ok (.aload_n 0, 1) := by decide +kernel
theorem dX2_renew_1 : decode cX2_renew 1 = .ok (.getfield 35, 3) := by decide +kernel
theorem dX2_renew_4 : decode cX2_renew 4 = .ok (.iload_n 1, 1) := by decide +kernel
theorem dX2_renew_5 : decode cX2_renew 5 = .ok (.invokevirtual 103, 3) := by decide +kernel
theorem dX2_renew_8 : decode cX2_renew 8 = .ok (.istore_n 2, 1) := by decide +kernel
theorem dX2_renew_9 : decode cX2_renew 9 = .ok (.iload_n 2, 1) := by decide +kernel
theorem dX2_renew_10 : decode cX2_renew 10 = .ok (.iconst (-1), 1) := by decide +kernel
theorem dX2_renew_11 : decode cX2_renew 11 = .ok (.if_icmp .ne 4, 3) := by decide +kernel
theorem dX2_renew_14 : decode cX2_renew 14 = .ok (.return_, 1) := by decide +kernel
theorem dX2_renew_15 : decode cX2_renew 15 = .ok (.aload_n 0, 1) := by decide +kernel
theorem dX2_renew_16 : decode cX2_renew 16 = .ok (.getfield 35, 3) := by decide +kernel
theorem dX2_renew_19 : decode cX2_renew 19 = .ok (.iload_n 1, 1) := by decide +kernel
theorem dX2_renew_20 : decode cX2_renew 20 = .ok (.invokevirtual 106, 3) := by decide +kernel
theorem dX2_renew_23 : decode cX2_renew 23 = .ok (.istore_n 3, 1) := by decide +kernel
theorem dX2_renew_24 : decode cX2_renew 24 = .ok (.aload_n 0, 1) := by decide +kernel
theorem dX2_renew_25 : decode cX2_renew 25 = .ok (.getfield 25, 3) := by decide +kernel
theorem dX2_renew_28 : decode cX2_renew 28 = .ok (.iload_n 2, 1) := by decide +kernel
theorem dX2_renew_29 : decode cX2_renew 29 = .ok (.aload_n 0, 1) := by decide +kernel
theorem dX2_renew_30 : decode cX2_renew 30 = .ok (.getfield 15, 3) := by decide +kernel
theorem dX2_renew_33 : decode cX2_renew 33 = .ok (.iload_n 1, 1) := by decide +kernel
theorem dX2_renew_34 : decode cX2_renew 34 = .ok (.laload, 1) := by decide +kernel
theorem dX2_renew_35 : decode cX2_renew 35 = .ok (.iload_n 3, 1) := by decide +kernel
theorem dX2_renew_36 : decode cX2_renew 36 = .ok (.iconst (-1), 1) := by decide +kernel
theorem dX2_renew_37 : decode cX2_renew 37 = .ok (.if_icmp .ne 7, 3) := by decide +kernel
theorem dX2_renew_40 : decode cX2_renew 40 = .ok (.lconst 0, 1) := by decide +kernel
theorem dX2_renew_41 : decode cX2_renew 41 = .ok (.goto 9, 3) := by decide +kernel
theorem dX2_renew_44 : decode cX2_renew 44 = .ok (.aload_n 0, 1) := by decide +kernel
theorem dX2_renew_45 : decode cX2_renew 45 = .ok (.getfield 25, 3) := by decide +kernel
theorem dX2_renew_48 : decode cX2_renew 48 = .ok (.iload_n 3, 1) := by decide +kernel
theorem dX2_renew_49 : decode cX2_renew 49 = .ok (.laload, 1) := by decide +kernel
theorem dX2_renew_50 : decode cX2_renew 50 = .ok (.lor, 1) := by decide +kernel
theorem dX2_renew_51 : decode cX2_renew 51 = .ok (.lastore, 1) := by decide +kernel
theorem dX2_renew_52 : decode cX2_renew 52 = .ok (.iconst 0, 1) := by decide +kernel
theorem dX2_renew_53 : decode cX2_renew 53 = .ok (.istore 4, 2) := by decide +kernel
theorem dX2_renew_55 : decode cX2_renew 55 = .ok (.iload 4, 2) := by decide +kernel
theorem dX2_renew_57 : decode cX2_renew 57 = .ok (.aload_n 0, 1) := by decide +kernel
theorem dX2_renew_58 : decode cX2_renew 58 = .ok (.getfield 31, 3) := by decide +kernel
theorem dX2_renew_61 : decode cX2_renew 61 = .ok (.invokevirtual 109, 3) := by decide +kernel
theorem dX2_renew_64 : decode cX2_renew 64 = .ok (.if_icmp .ge 29, 3) := by decide +kernel
theorem dX2_renew_67 : decode cX2_renew 67 = .ok (.aload_n 0, 1) := by decide +kernel
theorem dX2_renew_68 : decode cX2_renew 68 = .ok (.getfield 25, 3) := by decide +kernel
theorem dX2_renew_71 : decode cX2_renew 71 = .ok (.iload 4, 2) := by decide +kernel
theorem dX2_renew_73 : decode cX2_renew 73 = .ok (.dup2, 1) := by decide +kernel
theorem dX2_renew_74 : decode cX2_renew 74 = .ok (.laload, 1) := by decide +kernel
theorem dX2_renew_75 : decode cX2_renew 75 = .ok (.aload_n 0, 1) := by decide +kernel
theorem dX2_renew_76 : decode cX2_renew 76 = .ok (.getfield 19, 3) := by decide +kernel
theorem dX2_renew_79 : decode cX2_renew 79 = .ok (.iload_n 2, 1) := by decide +kernel
theorem dX2_renew_80 : decode cX2_renew 80 = .ok (.laload, 1) := by decide +kernel
theorem dX2_renew_81 : decode cX2_renew 81 = .ok (.ldc2_w 112, 3) := by decide +kernel
theorem dX2_renew_84 : decode cX2_renew 84 = .ok (.lxor, 1) := by decide +kernel
theorem dX2_renew_85 : decode cX2_renew 85 = .ok (.land, 1) := by decide +kernel
theorem dX2_renew_86 : decode cX2_renew 86 = .ok (.lastore, 1) := by decide +kernel
theorem dX2_renew_87 : decode cX2_renew 87 = .ok (.iinc 4 1, 3) := by decide +kernel
theorem dX2_renew_90 : decode cX2_renew 90 = .ok (.goto (-35), 3) := by decide +kernel
theorem dX2_renew_93 : decode cX2_renew 93 = .ok (.return_, 1) := by decide +kernel
theorem dX2_takeOver_0 : decode cX2_takeOver 0 = .ok (.iconst 0, 1) := by decide +kernel
theorem dX2_takeOver_1 : decode cX2_takeOver 1 = .ok (.istore_n 2, 1) := by decide +kernel
theorem dX2_takeOver_2 : decode cX2_takeOver 2 = .ok (.iconst 0, 1) := by decide +kernel
theorem dX2_takeOver_3 : decode cX2_takeOver 3 = .ok (.istore_n 3, 1) := by decide +kernel
theorem dX2_takeOver_4 : decode cX2_takeOver 4 = .ok (.iload_n 3, 1) := by decide +kernel
theorem dX2_takeOver_5 : decode cX2_takeOver 5 = .ok (.aload_n 0, 1) := by decide +kernel
theorem dX2_takeOver_6 : decode cX2_takeOver 6 = .ok (.getfield 31, 3) := by decide +kernel
theorem dX2_takeOver_9 : decode cX2_takeOver 9 = .ok (.invokevirtual 109, 3) := by decide +kernel
theorem dX2_takeOver_12 : decode cX2_takeOver 12 = .ok (.if_icmp .ge 58, 3) := by decide +kernel
theorem dX2_takeOver_15 : decode cX2_takeOver 15 = .ok (.iload_n 1, 1) := by decide +kernel
theorem dX2_takeOver_16 : decode cX2_takeOver 16 = .ok (.bipush 16, 2) := by decide +kernel
theorem dX2_takeOver_18 : decode cX2_takeOver 18 = .ok (.imul, 1) := by decide +kernel
theorem dX2_takeOver_19 : decode cX2_takeOver 19 = .ok (.iload_n 3, 1) := by decide +kernel
theorem dX2_takeOver_20 : decode cX2_takeOver 20 = .ok (.iadd, 1) := by decide +kernel
theorem dX2_takeOver_21 : decode cX2_takeOver 21 = .ok (.istore 4, 2) := by decide +kernel
theorem dX2_takeOver_23 : decode cX2_takeOver 23 = .ok (.aload_n 0, 1) := by decide +kernel
theorem dX2_takeOver_24 : decode cX2_takeOver 24 = .ok (.getfield 25, 3) := by decide +kernel
theorem dX2_takeOver_27 : decode cX2_takeOver 27 = .ok (.iload_n 3, 1) := by decide +kernel
theorem dX2_takeOver_28 : decode cX2_takeOver 28 = .ok (.laload, 1) := by decide +kernel
theorem dX2_takeOver_29 : decode cX2_takeOver 29 = .ok (.aload_n 0, 1) := by decide +kernel
theorem dX2_takeOver_30 : decode cX2_takeOver 30 = .ok (.getfield 22, 3) := by decide +kernel
theorem dX2_takeOver_33 : decode cX2_takeOver 33 = .ok (.iload 4, 2) := by decide +kernel
theorem dX2_takeOver_35 : decode cX2_takeOver 35 = .ok (.laload, 1) := by decide +kernel
theorem dX2_takeOver_36 : decode cX2_takeOver 36 = .ok (.ldc2_w 112, 3) := by decide +kernel
theorem dX2_takeOver_39 : decode cX2_takeOver 39 = .ok (.lxor, 1) := by decide +kernel
theorem dX2_takeOver_40 : decode cX2_takeOver 40 = .ok (.land, 1) := by decide +kernel
theorem dX2_takeOver_41 : decode cX2_takeOver 41 = .ok (.lconst 0, 1) := by decide +kernel
theorem dX2_takeOver_42 : decode cX2_takeOver 42 = .ok (.lcmp, 1) := by decide +kernel
theorem dX2_takeOver_43 : decode cX2_takeOver 43 = .ok (.ifCond .eq 21, 3) := by decide +kernel
theorem dX2_takeOver_46 : decode cX2_takeOver 46 = .ok (.aload_n 0, 1) := by decide +kernel
theorem dX2_takeOver_47 : decode cX2_takeOver 47 = .ok (.getfield 22, 3) := by decide +kernel
theorem dX2_takeOver_50 : decode cX2_takeOver 50 = .ok (.iload 4, 2) := by decide +kernel
theorem dX2_takeOver_52 : decode cX2_takeOver 52 = .ok (.dup2, 1) := by decide +kernel
theorem dX2_takeOver_53 : decode cX2_takeOver 53 = .ok (.laload, 1) := by decide +kernel
theorem dX2_takeOver_54 : decode cX2_takeOver 54 = .ok (.aload_n 0, 1) := by decide +kernel
theorem dX2_takeOver_55 : decode cX2_takeOver 55 = .ok (.getfield 25, 3) := by decide +kernel
theorem dX2_takeOver_58 : decode cX2_takeOver 58 = .ok (.iload_n 3, 1) := by decide +kernel
theorem dX2_takeOver_59 : decode cX2_takeOver 59 = .ok (.laload, 1) := by decide +kernel
theorem dX2_takeOver_60 : decode cX2_takeOver 60 = .ok (.lor, 1) := by decide +kernel
theorem dX2_takeOver_61 : decode cX2_takeOver 61 = .ok (.lastore, 1) := by decide +kernel
theorem dX2_takeOver_62 : decode cX2_takeOver 62 = .ok (.iconst 1, 1) := by decide +kernel
theorem dX2_takeOver_63 : decode cX2_takeOver 63 = .ok (.istore_n 2, 1) := by decide +kernel
theorem dX2_takeOver_64 : decode cX2_takeOver 64 = .ok (.iinc 3 1, 3) := by decide +kernel
theorem dX2_takeOver_67 : decode cX2_takeOver 67 = .ok (.goto (-63), 3) := by decide +kernel
theorem dX2_takeOver_70 : decode cX2_takeOver 70 = .ok (.iload_n 2, 1) := by decide +kernel
theorem dX2_takeOver_71 : decode cX2_takeOver 71 = .ok (.ireturn, 1) := by decide +kernel
theorem dX2_flowUses_0 : decode cX2_flowUses 0 = .ok (.aload_n 0, 1) := by decide +kernel
theorem dX2_flowUses_1 : decode cX2_flowUses 1 = .ok (.getfield 28, 3) := by decide +kernel
theorem dX2_flowUses_4 : decode cX2_flowUses 4 = .ok (.iconst 0, 1) := by decide +kernel
theorem dX2_flowUses_5 : decode cX2_flowUses 5 = .ok (.invokestatic 114, 3) := by decide +kernel
theorem dX2_flowUses_8 : decode cX2_flowUses 8 = .ok (.iconst 1, 1) := by decide +kernel
theorem dX2_flowUses_9 : decode cX2_flowUses 9 = .ok (.istore_n 1, 1) := by decide +kernel
theorem dX2_flowUses_10 : decode cX2_flowUses 10 = .ok (.iconst 0, 1) := by decide +kernel
theorem dX2_flowUses_11 : decode cX2_flowUses 11 = .ok (.istore_n 2, 1) := by decide +kernel
theorem dX2_flowUses_12 : decode cX2_flowUses 12 = .ok (.iload_n 2, 1) := by decide +kernel
theorem dX2_flowUses_13 : decode cX2_flowUses 13 = .ok (.ldc 70, 2) := by decide +kernel
theorem dX2_flowUses_15 : decode cX2_flowUses 15 = .ok (.if_icmp .ge 75, 3) := by decide +kernel
theorem dX2_flowUses_18 : decode cX2_flowUses 18 = .ok (.iload_n 1, 1) := by decide +kernel
theorem dX2_flowUses_19 : decode cX2_flowUses 19 = .ok (.ifCond .eq 71, 3) := by decide +kernel
theorem dX2_flowUses_22 : decode cX2_flowUses 22 = .ok (.iconst 0, 1) := by decide +kernel
theorem dX2_flowUses_23 : decode cX2_flowUses 23 = .ok (.istore_n 1, 1) := by decide +kernel
theorem dX2_flowUses_24 : decode cX2_flowUses 24 = .ok (.iconst 0, 1) := by decide +kernel
theorem dX2_flowUses_25 : decode cX2_flowUses 25 = .ok (.istore_n 3, 1) := by decide +kernel
theorem dX2_flowUses_26 : decode cX2_flowUses 26 = .ok (.iload_n 3, 1) := by decide +kernel
theorem dX2_flowUses_27 : decode cX2_flowUses 27 = .ok (.aload_n 0, 1) := by decide +kernel
theorem dX2_flowUses_28 : decode cX2_flowUses 28 = .ok (.getfield 39, 3) := by decide +kernel
theorem dX2_flowUses_31 : decode cX2_flowUses 31 = .ok (.invokevirtual 71, 3) := by decide +kernel
theorem dX2_flowUses_34 : decode cX2_flowUses 34 = .ok (.if_icmp .ge 50, 3) := by decide +kernel
theorem dX2_flowUses_37 : decode cX2_flowUses 37 = .ok (.aload_n 0, 1) := by decide +kernel
theorem dX2_flowUses_38 : decode cX2_flowUses 38 = .ok (.getfield 39, 3) := by decide +kernel
theorem dX2_flowUses_41 : decode cX2_flowUses 41 = .ok (.iload_n 3, 1) := by decide +kernel
theorem dX2_flowUses_42 : decode cX2_flowUses 42 = .ok (.invokevirtual 117, 3) := by decide +kernel
theorem dX2_flowUses_45 : decode cX2_flowUses 45 = .ok (.istore 4, 2) := by decide +kernel
theorem dX2_flowUses_47 : decode cX2_flowUses 47 = .ok (.aload_n 0, 1) := by decide +kernel
theorem dX2_flowUses_48 : decode cX2_flowUses 48 = .ok (.iload 4, 2) := by decide +kernel
theorem dX2_flowUses_50 : decode cX2_flowUses 50 = .ok (.invokevirtual 120, 3) := by decide +kernel
theorem dX2_flowUses_53 : decode cX2_flowUses 53 = .ok (.istore 5, 2) := by decide +kernel
theorem dX2_flowUses_55 : decode cX2_flowUses 55 = .ok (.iload 5, 2) := by decide +kernel
theorem dX2_flowUses_57 : decode cX2_flowUses 57 = .ok (.aload_n 0, 1) := by decide +kernel
theorem dX2_flowUses_58 : decode cX2_flowUses 58 = .ok (.getfield 28, 3) := by decide +kernel
theorem dX2_flowUses_61 : decode cX2_flowUses 61 = .ok (.iload 4, 2) := by decide +kernel
theorem dX2_flowUses_63 : decode cX2_flowUses 63 = .ok (.iaload, 1) := by decide +kernel
theorem dX2_flowUses_64 : decode cX2_flowUses 64 = .ok (.if_icmp .eq 14, 3) := by decide +kernel
theorem dX2_flowUses_67 : decode cX2_flowUses 67 = .ok (.aload_n 0, 1) := by decide +kernel
theorem dX2_flowUses_68 : decode cX2_flowUses 68 = .ok (.getfield 28, 3) := by decide +kernel
theorem dX2_flowUses_71 : decode cX2_flowUses 71 = .ok (.iload 4, 2) := by decide +kernel
theorem dX2_flowUses_73 : decode cX2_flowUses 73 = .ok (.iload 5, 2) := by decide +kernel
theorem dX2_flowUses_75 : decode cX2_flowUses 75 = .ok (.iastore, 1) := by decide +kernel
theorem dX2_flowUses_76 : decode cX2_flowUses 76 = .ok (.iconst 1, 1) := by decide +kernel
theorem dX2_flowUses_77 : decode cX2_flowUses 77 = .ok (.istore_n 1, 1) := by decide +kernel
theorem dX2_flowUses_78 : decode cX2_flowUses 78 = .ok (.iinc 3 1, 3) := by decide +kernel
theorem dX2_flowUses_81 : decode cX2_flowUses 81 = .ok (.goto (-55), 3) := by decide +kernel
theorem dX2_flowUses_84 : decode cX2_flowUses 84 = .ok (.iinc 2 1, 3) := by decide +kernel
theorem dX2_flowUses_87 : decode cX2_flowUses 87 = .ok (.goto (-75), 3) := by decide +kernel
theorem dX2_flowUses_90 : decode cX2_flowUses 90 = .ok (.return_, 1) := by decide +kernel
theorem dX2_usesBehind_0 : decode cX2_usesBehind 0 = .ok (.iconst 0, 1) := by decide +kernel
theorem dX2_usesBehind_1 : decode cX2_usesBehind 1 = .ok (.istore_n 2, 1) := by decide +kernel
theorem dX2_usesBehind_2 : decode cX2_usesBehind 2 = .ok (.iconst 0, 1) := by decide +kernel
theorem dX2_usesBehind_3 : decode cX2_usesBehind 3 = .ok (.istore_n 3, 1) := by decide +kernel
theorem dX2_usesBehind_4 : decode cX2_usesBehind 4 = .ok (.iload_n 3, 1) := by decide +kernel
theorem dX2_usesBehind_5 : decode cX2_usesBehind 5 = .ok (.aload_n 0, 1) := by decide +kernel
theorem dX2_usesBehind_6 : decode cX2_usesBehind 6 = .ok (.getfield 39, 3) := by decide +kernel
theorem dX2_usesBehind_9 : decode cX2_usesBehind 9 = .ok (.iload_n 1, 1) := by decide +kernel
theorem dX2_usesBehind_10 : decode cX2_usesBehind 10 = .ok (.invokevirtual 93, 3) := by decide +kernel
theorem dX2_usesBehind_13 : decode cX2_usesBehind 13 = .ok (.if_icmp .ge 58, 3) := by decide +kernel
theorem dX2_usesBehind_16 : decode cX2_usesBehind 16 = .ok (.aload_n 0, 1) := by decide +kernel
theorem dX2_usesBehind_17 : decode cX2_usesBehind 17 = .ok (.getfield 39, 3) := by decide +kernel
theorem dX2_usesBehind_20 : decode cX2_usesBehind 20 = .ok (.iload_n 1, 1) := by decide +kernel
theorem dX2_usesBehind_21 : decode cX2_usesBehind 21 = .ok (.iload_n 3, 1) := by decide +kernel
theorem dX2_usesBehind_22 : decode cX2_usesBehind 22 = .ok (.invokevirtual 96, 3) := by decide +kernel
theorem dX2_usesBehind_25 : decode cX2_usesBehind 25 = .ok (.istore 4, 2) := by decide +kernel
theorem dX2_usesBehind_27 : decode cX2_usesBehind 27 = .ok (.iload_n 2, 1) := by decide +kernel
theorem dX2_usesBehind_28 : decode cX2_usesBehind 28 = .ok (.aload_n 0, 1) := by decide +kernel
theorem dX2_usesBehind_29 : decode cX2_usesBehind 29 = .ok (.getfield 28, 3) := by decide +kernel
theorem dX2_usesBehind_32 : decode cX2_usesBehind 32 = .ok (.iload 4, 2) := by decide +kernel
theorem dX2_usesBehind_34 : decode cX2_usesBehind 34 = .ok (.iaload, 1) := by decide +kernel
theorem dX2_usesBehind_35 : decode cX2_usesBehind 35 = .ok (.aload_n 0, 1) := by decide +kernel
theorem dX2_usesBehind_36 : decode cX2_usesBehind 36 = .ok (.getfield 35, 3) := by decide +kernel
theorem dX2_usesBehind_39 : decode cX2_usesBehind 39 = .ok (.iload 4, 2) := by decide +kernel
theorem dX2_usesBehind_41 : decode cX2_usesBehind 41 = .ok (.invokevirtual 103, 3) := by decide +kernel
theorem dX2_usesBehind_44 : decode cX2_usesBehind 44 = .ok (.invokestatic 123, 3) := by decide +kernel
theorem dX2_usesBehind_47 : decode cX2_usesBehind 47 = .ok (.iconst (-1), 1) := by decide +kernel
theorem dX2_usesBehind_48 : decode cX2_usesBehind 48 = .ok (.ixor, 1) := by decide +kernel
theorem dX2_usesBehind_49 : decode cX2_usesBehind 49 = .ok (.iand, 1) := by decide +kernel
theorem dX2_usesBehind_50 : decode cX2_usesBehind 50 = .ok (.aload_n 0, 1) := by decide +kernel
theorem dX2_usesBehind_51 : decode cX2_usesBehind 51 = .ok (.getfield 35, 3) := by decide +kernel
theorem dX2_usesBehind_54 : decode cX2_usesBehind 54 = .ok (.iload 4, 2) := by decide +kernel
theorem dX2_usesBehind_56 : decode cX2_usesBehind 56 = .ok (.invokevirtual 106, 3) := by decide +kernel
theorem dX2_usesBehind_59 : decode cX2_usesBehind 59 = .ok (.invokestatic 123, 3) := by decide +kernel
theorem dX2_usesBehind_62 : decode cX2_usesBehind 62 = .ok (.ior, 1) := by decide +kernel
theorem dX2_usesBehind_63 : decode cX2_usesBehind 63 = .ok (.ior, 1) := by decide +kernel
theorem dX2_usesBehind_64 : decode cX2_usesBehind 64 = .ok (.istore_n 2, 1) := by decide +kernel
theorem dX2_usesBehind_65 : decode cX2_usesBehind 65 = .ok (.iinc 3 1, 3) := by decide +kernel
theorem dX2_usesBehind_68 : decode cX2_usesBehind 68 = .ok (.goto (-64), 3) := by decide +kernel
theorem dX2_usesBehind_71 : decode cX2_usesBehind 71 = .ok (.iload_n 2, 1) := by decide +kernel
theorem dX2_usesBehind_72 : decode cX2_usesBehind 72 = .ok (.ireturn, 1) := by decide +kernel
theorem dX2_variableBit_0 : decode cX2_variableBit 0 = .ok (.iload_n 0, 1) := by decide +kernel
theorem dX2_variableBit_1 : decode cX2_variableBit 1 = .ok (.iconst (-1), 1) := by decide +kernel
theorem dX2_variableBit_2 : decode cX2_variableBit 2 = .ok (.if_icmp .ne 7, 3) := by decide +kernel
theorem dX2_variableBit_5 : decode cX2_variableBit 5 = .ok (.iconst 0, 1) := by decide +kernel
theorem dX2_variableBit_6 : decode cX2_variableBit 6 = .ok (.goto 6, 3) := by decide +kernel
theorem dX2_variableBit_9 : decode cX2_variableBit 9 = .ok (.iconst 1, 1) := by decide +kernel
theorem dX2_variableBit_10 : decode cX2_variableBit 10 = .ok (.iload_n 0, 1) := by decide +kernel
theorem dX2_variableBit_11 : decode cX2_variableBit 11 = .ok (.ishl, 1) := by decide +kernel
theorem dX2_variableBit_12 : decode cX2_variableBit 12 = .ok (.ireturn, 1) := by decide +kernel
theorem dX2_size_0 : decode cX2_size 0 = .ok (.aload_n 0, 1) := by decide +kernel
theorem dX2_size_1 : decode cX2_size 1 = .ok (.getfield 53, 3) := by decide +kernel
theorem dX2_size_4 : decode cX2_size 4 = .ok (.ireturn, 1) := by decide +kernel
theorem dX2_isHeldBy_0 : decode cX2_isHeldBy 0 = .ok (.aload_n 0, 1) := by decide +kernel
theorem dX2_isHeldBy_1 : decode cX2_isHeldBy 1 = .ok (.getfield 22, 3) := by decide +kernel
theorem dX2_isHeldBy_4 : decode cX2_isHeldBy 4 = .ok (.iload_n 1, 1) := by decide +kernel
theorem dX2_isHeldBy_5 : decode cX2_isHeldBy 5 = .ok (.bipush 16, 2) := by decide +kernel
theorem dX2_isHeldBy_7 : decode cX2_isHeldBy 7 = .ok (.imul, 1) := by decide +kernel
theorem dX2_isHeldBy_8 : decode cX2_isHeldBy 8 = .ok (.iload_n 2, 1) := by decide +kernel
theorem dX2_isHeldBy_9 : decode cX2_isHeldBy 9 = .ok (.iadd, 1) := by decide +kernel
theorem dX2_isHeldBy_10 : decode cX2_isHeldBy 10 = .ok (.laload, 1) := by decide +kernel
theorem dX2_isHeldBy_11 : decode cX2_isHeldBy 11 = .ok (.aload_n 0, 1) := by decide +kernel
theorem dX2_isHeldBy_12 : decode cX2_isHeldBy 12 = .ok (.getfield 15, 3) := by decide +kernel
theorem dX2_isHeldBy_15 : decode cX2_isHeldBy 15 = .ok (.iload_n 3, 1) := by decide +kernel
theorem dX2_isHeldBy_16 : decode cX2_isHeldBy 16 = .ok (.laload, 1) := by decide +kernel
theorem dX2_isHeldBy_17 : decode cX2_isHeldBy 17 = .ok (.land, 1) := by decide +kernel
theorem dX2_isHeldBy_18 : decode cX2_isHeldBy 18 = .ok (.lconst 0, 1) := by decide +kernel
theorem dX2_isHeldBy_19 : decode cX2_isHeldBy 19 = .ok (.lcmp, 1) := by decide +kernel
theorem dX2_isHeldBy_20 : decode cX2_isHeldBy 20 = .ok (.ifCond .eq 7, 3) := by decide +kernel
theorem dX2_isHeldBy_23 : decode cX2_isHeldBy 23 = .ok (.iconst 1, 1) := by decide +kernel
theorem dX2_isHeldBy_24 : decode cX2_isHeldBy 24 = .ok (.goto 4, 3) := by decide +kernel
theorem dX2_isHeldBy_27 : decode cX2_isHeldBy 27 = .ok (.iconst 0, 1) := by decide +kernel
theorem dX2_isHeldBy_28 : decode cX2_isHeldBy 28 = .ok (.ireturn, 1) := by decide +kernel
theorem dX2_isUsedBehind_0 : decode cX2_isUsedBehind 0 = .ok (.aload_n 0, 1) := by decide +kernel
theorem dX2_isUsedBehind_1 : decode cX2_isUsedBehind 1 = .ok (.getfield 28, 3) := by decide +kernel
theorem dX2_isUsedBehind_4 : decode cX2_isUsedBehind 4 = .ok (.iload_n 1, 1) := by decide +kernel
theorem dX2_isUsedBehind_5 : decode cX2_isUsedBehind 5 = .ok (.iaload, 1) := by decide +kernel
theorem dX2_isUsedBehind_6 : decode cX2_isUsedBehind 6 = .ok (.iload_n 2, 1) := by decide +kernel
theorem dX2_isUsedBehind_7 : decode cX2_isUsedBehind 7 = .ok (.invokestatic 123, 3) := by decide +kernel
theorem dX2_isUsedBehind_10 : decode cX2_isUsedBehind 10 = .ok (.iand, 1) := by decide +kernel
theorem dX2_isUsedBehind_11 : decode cX2_isUsedBehind 11 = .ok (.ifCond .eq 7, 3) := by decide +kernel
theorem dX2_isUsedBehind_14 : decode cX2_isUsedBehind 14 = .ok (.iconst 1, 1) := by decide +kernel
theorem dX2_isUsedBehind_15 : decode cX2_isUsedBehind 15 = .ok (.goto 4, 3) := by decide +kernel
theorem dX2_isUsedBehind_18 : decode cX2_isUsedBehind 18 = .ok (.iconst 0, 1) := by decide +kernel
theorem dX2_isUsedBehind_19 : decode cX2_isUsedBehind 19 = .ok (.ireturn, 1) := by decide +kernel
theorem dX2_isInForce_0 : decode cX2_isInForce 0 = .ok (.aload_n 0, 1) := by decide +kernel
theorem dX2_isInForce_1 : decode cX2_isInForce 1 = .ok (.iload_n 2, 1) := by decide +kernel
theorem dX2_isInForce_2 : decode cX2_isInForce 2 = .ok (.invokevirtual 126, 3) := by decide +kernel
theorem dX2_isInForce_5 : decode cX2_isInForce 5 = .ok (.aload_n 0, 1) := by decide +kernel
theorem dX2_isInForce_6 : decode cX2_isInForce 6 = .ok (.getfield 15, 3) := by decide +kernel
theorem dX2_isInForce_9 : decode cX2_isInForce 9 = .ok (.iload_n 1, 1) := by decide +kernel
theorem dX2_isInForce_10 : decode cX2_isInForce 10 = .ok (.laload, 1) := by decide +kernel
theorem dX2_isInForce_11 : decode cX2_isInForce 11 = .ok (.land, 1) := by decide +kernel
theorem dX2_isInForce_12 : decode cX2_isInForce 12 = .ok (.lconst 0, 1) := by decide +kernel
theorem dX2_isInForce_13 : decode cX2_isInForce 13 = .ok (.lcmp, 1) := by decide +kernel
theorem dX2_isInForce_14 : decode cX2_isInForce 14 = .ok (.ifCond .eq 7, 3) := by decide +kernel
theorem dX2_isInForce_17 : decode cX2_isInForce 17 = .ok (.iconst 1, 1) := by decide +kernel
theorem dX2_isInForce_18 : decode cX2_isInForce 18 = .ok (.goto 4, 3) := by decide +kernel
theorem dX2_isInForce_21 : decode cX2_isInForce 21 = .ok (.iconst 0, 1) := by decide +kernel
theorem dX2_isInForce_22 : decode cX2_isInForce 22 = .ok (.ireturn, 1) := by decide +kernel
theorem dX2_inForce_0 : decode cX2_inForce 0 = .ok (.aload_n 0, 1) := by decide +kernel
theorem dX2_inForce_1 : decode cX2_inForce 1 = .ok (.getfield 28, 3) := by decide +kernel
theorem dX2_inForce_4 : decode cX2_inForce 4 = .ok (.iload_n 1, 1) := by decide +kernel
theorem dX2_inForce_5 : decode cX2_inForce 5 = .ok (.iaload, 1) := by decide +kernel
theorem dX2_inForce_6 : decode cX2_inForce 6 = .ok (.aload_n 0, 1) := by decide +kernel
theorem dX2_inForce_7 : decode cX2_inForce 7 = .ok (.getfield 35, 3) := by decide +kernel
theorem dX2_inForce_10 : decode cX2_inForce 10 = .ok (.iload_n 1, 1) := by decide +kernel
theorem dX2_inForce_11 : decode cX2_inForce 11 = .ok (.invokevirtual 103, 3) := by decide +kernel
theorem dX2_inForce_14 : decode cX2_inForce 14 = .ok (.invokestatic 123, 3) := by decide +kernel
theorem dX2_inForce_17 : decode cX2_inForce 17 = .ok (.iconst (-1), 1) := by decide +kernel
theorem dX2_inForce_18 : decode cX2_inForce 18 = .ok (.ixor, 1) := by decide +kernel
theorem dX2_inForce_19 : decode cX2_inForce 19 = .ok (.iand, 1) := by decide +kernel
theorem dX2_inForce_20 : decode cX2_inForce 20 = .ok (.istore_n 2, 1) := by decide +kernel
theorem dX2_inForce_21 : decode cX2_inForce 21 = .ok (.lconst 0, 1) := by decide +kernel
theorem dX2_inForce_22 : decode cX2_inForce 22 = .ok (.lstore_n 3, 1) := by decide +kernel
theorem dX2_inForce_23 : decode cX2_inForce 23 = .ok (.iconst 0, 1) := by decide +kernel
theorem dX2_inForce_24 : decode cX2_inForce 24 = .ok (.istore 5, 2) := by decide +kernel
theorem dX2_inForce_26 : decode cX2_inForce 26 = .ok (.iload 5, 2) := by decide +kernel
theorem dX2_inForce_28 : decode cX2_inForce 28 = .ok (.aload_n 0, 1) := by decide +kernel
theorem dX2_inForce_29 : decode cX2_inForce 29 = .ok (.getfield 31, 3) := by decide +kernel
theorem dX2_inForce_32 : decode cX2_inForce 32 = .ok (.invokevirtual 109, 3) := by decide +kernel
theorem dX2_inForce_35 : decode cX2_inForce 35 = .ok (.if_icmp .ge 34, 3) := by decide +kernel
theorem dX2_inForce_38 : decode cX2_inForce 38 = .ok (.iload_n 2, 1) := by decide +kernel
theorem dX2_inForce_39 : decode cX2_inForce 39 = .ok (.iload 5, 2) := by decide +kernel
theorem dX2_inForce_41 : decode cX2_inForce 41 = .ok (.invokestatic 123, 3) := by decide +kernel
theorem dX2_inForce_44 : decode cX2_inForce 44 = .ok (.iand, 1) := by decide +kernel
theorem dX2_inForce_45 : decode cX2_inForce 45 = .ok (.ifCond .eq 18, 3) := by decide +kernel
theorem dX2_inForce_48 : decode cX2_inForce 48 = .ok (.lload_n 3, 1) := by decide +kernel
theorem dX2_inForce_49 : decode cX2_inForce 49 = .ok (.aload_n 0, 1) := by decide +kernel
theorem dX2_inForce_50 : decode cX2_inForce 50 = .ok (.getfield 22, 3) := by decide +kernel
theorem dX2_inForce_53 : decode cX2_inForce 53 = .ok (.iload_n 1, 1) := by decide +kernel
theorem dX2_inForce_54 : decode cX2_inForce 54 = .ok (.bipush 16, 2) := by decide +kernel
theorem dX2_inForce_56 : decode cX2_inForce 56 = .ok (.imul, 1) := by decide +kernel
theorem dX2_inForce_57 : decode cX2_inForce 57 = .ok (.iload 5, 2) := by decide +kernel
theorem dX2_inForce_59 : decode cX2_inForce 59 = .ok (.iadd, 1) := by decide +kernel
theorem dX2_inForce_60 : decode cX2_inForce 60 = .ok (.laload, 1) := by decide +kernel
theorem dX2_inForce_61 : decode cX2_inForce 61 = .ok (.lor, 1) := by decide +kernel
theorem dX2_inForce_62 : decode cX2_inForce 62 = .ok (.lstore_n 3, 1) := by decide +kernel
theorem dX2_inForce_63 : decode cX2_inForce 63 = .ok (.iinc 5 1, 3) := by decide +kernel
theorem dX2_inForce_66 : decode cX2_inForce 66 = .ok (.goto (-40), 3) := by decide +kernel
theorem dX2_inForce_69 : decode cX2_inForce 69 = .ok (.lload_n 3, 1) := by decide +kernel
theorem dX2_inForce_70 : decode cX2_inForce 70 = .ok (.lreturn, 1) := by decide +kernel
theorem dX2_leastClash_0 : decode cX2_leastClash 0 = .ok (.aload_n 0, 1) := by decide +kernel
theorem dX2_leastClash_1 : decode cX2_leastClash 1 = .ok (.getfield 35, 3) := by decide +kernel
theorem dX2_leastClash_4 : decode cX2_leastClash 4 = .ok (.iload_n 1, 1) := by decide +kernel
theorem dX2_leastClash_5 : decode cX2_leastClash 5 = .ok (.invokevirtual 130, 3) := by decide +kernel
theorem dX2_leastClash_8 : decode cX2_leastClash 8 = .ok (.ifCond .ne 5, 3) := by decide +kernel
theorem dX2_leastClash_11 : decode cX2_leastClash 11 = .ok (.iconst (-1), 1) := by decide +kernel
theorem dX2_leastClash_12 : decode cX2_leastClash 12 = .ok (.ireturn, 1) := by decide +kernel
theorem dX2_leastClash_13 : decode cX2_leastClash 13 = .ok (.aload_n 0, 1) := by decide +kernel
theorem dX2_leastClash_14 : decode cX2_leastClash 14 = .ok (.iload_n 1, 1) := by decide +kernel
theorem dX2_leastClash_15 : decode cX2_leastClash 15 = .ok (.invokevirtual 126, 3) := by decide +kernel
theorem dX2_leastClash_18 : decode cX2_leastClash 18 = .ok (.aload_n 0, 1) := by decide +kernel
theorem dX2_leastClash_19 : decode cX2_leastClash 19 = .ok (.getfield 19, 3) := by decide +kernel
theorem dX2_leastClash_22 : decode cX2_leastClash 22 = .ok (.aload_n 0, 1) := by decide +kernel
theorem dX2_leastClash_23 : decode cX2_leastClash 23 = .ok (.getfield 35, 3) := by decide +kernel
theorem dX2_leastClash_26 : decode cX2_leastClash 26 = .ok (.iload_n 1, 1) := by decide +kernel
theorem dX2_leastClash_27 : decode cX2_leastClash 27 = .ok (.invokevirtual 63, 3) := by decide +kernel
theorem dX2_leastClash_30 : decode cX2_leastClash 30 = .ok (.laload, 1) := by decide +kernel
theorem dX2_leastClash_31 : decode cX2_leastClash 31 = .ok (.land, 1) := by decide +kernel
theorem dX2_leastClash_32 : decode cX2_leastClash 32 = .ok (.lstore_n 2, 1) := by decide +kernel
theorem dX2_leastClash_33 : decode cX2_leastClash 33 = .ok (.aload_n 0, 1) := by decide +kernel
theorem dX2_leastClash_34 : decode cX2_leastClash 34 = .ok (.getfield 35, 3) := by decide +kernel
theorem dX2_leastClash_37 : decode cX2_leastClash 37 = .ok (.iload_n 1, 1) := by decide +kernel
theorem dX2_leastClash_38 : decode cX2_leastClash 38 = .ok (.invokevirtual 133, 3) := by decide +kernel
theorem dX2_leastClash_41 : decode cX2_leastClash 41 = .ok (.ifCond .eq 10, 3) := by decide +kernel
theorem dX2_leastClash_44 : decode cX2_leastClash 44 = .ok (.lload_n 2, 1) := by decide +kernel
theorem dX2_leastClash_45 : decode cX2_leastClash 45 = .ok (.aload_n 0, 1) := by decide +kernel
theorem dX2_leastClash_46 : decode cX2_leastClash 46 = .ok (.getfield 49, 3) := by decide +kernel
theorem dX2_leastClash_49 : decode cX2_leastClash 49 = .ok (.land, 1) := by decide +kernel
theorem dX2_leastClash_50 : decode cX2_leastClash 50 = .ok (.lstore_n 2, 1) := by decide +kernel
theorem dX2_leastClash_51 : decode cX2_leastClash 51 = .ok (.iconst 0, 1) := by decide +kernel
theorem dX2_leastClash_52 : decode cX2_leastClash 52 = .ok (.istore 4, 2) := by decide +kernel
theorem dX2_leastClash_54 : decode cX2_leastClash 54 = .ok (.iload 4, 2) := by decide +kernel
theorem dX2_leastClash_56 : decode cX2_leastClash 56 = .ok (.aload_n 0, 1) := by decide +kernel
theorem dX2_leastClash_57 : decode cX2_leastClash 57 = .ok (.getfield 53, 3) := by decide +kernel
theorem dX2_leastClash_60 : decode cX2_leastClash 60 = .ok (.if_icmp .ge 66, 3) := by decide +kernel
theorem dX2_leastClash_63 : decode cX2_leastClash 63 = .ok (.lload_n 2, 1) := by decide +kernel
theorem dX2_leastClash_64 : decode cX2_leastClash 64 = .ok (.lconst 0, 1) := by decide +kernel
theorem dX2_leastClash_65 : decode cX2_leastClash 65 = .ok (.lcmp, 1) := by decide +kernel
theorem dX2_leastClash_66 : decode cX2_leastClash 66 = .ok (.ifCond .eq 60, 3) := by decide +kernel
theorem dX2_leastClash_69 : decode cX2_leastClash 69 = .ok (.aload_n 0, 1) := by decide +kernel
theorem dX2_leastClash_70 : decode cX2_leastClash 70 = .ok (.getfield 35, 3) := by decide +kernel
theorem dX2_leastClash_73 : decode cX2_leastClash 73 = .ok (.aload_n 0, 1) := by decide +kernel
theorem dX2_leastClash_74 : decode cX2_leastClash 74 = .ok (.getfield 9, 3) := by decide +kernel
theorem dX2_leastClash_77 : decode cX2_leastClash 77 = .ok (.iload 4, 2) := by decide +kernel
theorem dX2_leastClash_79 : decode cX2_leastClash 79 = .ok (.iaload, 1) := by decide +kernel
theorem dX2_leastClash_80 : decode cX2_leastClash 80 = .ok (.invokevirtual 136, 3) := by decide +kernel
theorem dX2_leastClash_83 : decode cX2_leastClash 83 = .ok (.istore 5, 2) := by decide +kernel
theorem dX2_leastClash_85 : decode cX2_leastClash 85 = .ok (.lload_n 2, 1) := by decide +kernel
theorem dX2_leastClash_86 : decode cX2_leastClash 86 = .ok (.iload 4, 2) := by decide +kernel
theorem dX2_leastClash_88 : decode cX2_leastClash 88 = .ok (.lshr, 1) := by decide +kernel
theorem dX2_leastClash_89 : decode cX2_leastClash 89 = .ok (.lconst 1, 1) := by decide +kernel
theorem dX2_leastClash_90 : decode cX2_leastClash 90 = .ok (.land, 1) := by decide +kernel
theorem dX2_leastClash_91 : decode cX2_leastClash 91 = .ok (.lconst 0, 1) := by decide +kernel
theorem dX2_leastClash_92 : decode cX2_leastClash 92 = .ok (.lcmp, 1) := by decide +kernel
theorem dX2_leastClash_93 : decode cX2_leastClash 93 = .ok (.ifCond .eq 27, 3) := by decide +kernel
theorem dX2_leastClash_96 : decode cX2_leastClash 96 = .ok (.iload 5, 2) := by decide +kernel
theorem dX2_leastClash_98 : decode cX2_leastClash 98 = .ok (.aload_n 0, 1) := by decide +kernel
theorem dX2_leastClash_99 : decode cX2_leastClash 99 = .ok (.getfield 35, 3) := by decide +kernel
theorem dX2_leastClash_102 : decode cX2_leastClash 102 = .ok (.iload_n 1, 1) := by decide +kernel
theorem dX2_leastClash_103 : decode cX2_leastClash 103 = .ok (.invokevirtual 136, 3) := by decide +kernel
theorem dX2_leastClash_106 : decode cX2_leastClash 106 = .ok (.invokestatic 139, 3) := by decide +kernel
theorem dX2_leastClash_109 : decode cX2_leastClash 109 = .ok (.ifCond .eq 11, 3) := by decide +kernel
theorem dX2_leastClash_112 : decode cX2_leastClash 112 = .ok (.aload_n 0, 1) := by decide +kernel
theorem dX2_leastClash_113 : decode cX2_leastClash 113 = .ok (.getfield 9, 3) := by decide +kernel
theorem dX2_leastClash_116 : decode cX2_leastClash 116 = .ok (.iload 4, 2) := by decide +kernel
theorem dX2_leastClash_118 : decode cX2_leastClash 118 = .ok (.iaload, 1) := by decide +kernel
theorem dX2_leastClash_119 : decode cX2_leastClash 119 = .ok (.ireturn, 1) := by decide +kernel
theorem dX2_leastClash_120 : decode cX2_leastClash 120 = .ok (.iinc 4 1, 3) := by decide +kernel
theorem dX2_leastClash_123 : decode cX2_leastClash 123 = .ok (.goto (-69), 3) := by decide +kernel
theorem dX2_leastClash_126 : decode cX2_leastClash 126 = .ok (.iconst (-1), 1) := by decide +kernel
theorem dX2_leastClash_127 : decode cX2_leastClash 127 = .ok (.ireturn, 1) := by decide +kernel
theorem dX6_init_0 : decode cX6_init 0 = .ok (.aload_n 0, 1) := by decide +kernel
theorem dX6_init_1 : decode cX6_init 1 = .ok (.invokespecial 3, 3) := by decide +kernel
theorem dX6_init_4 : decode cX6_init 4 = .ok (.aload_n 0, 1) := by decide +kernel
theorem dX6_init_5 : decode cX6_init 5 = .ok (.new 9, 3) := by decide +kernel
theorem dX6_init_8 : decode cX6_init 8 = .ok (.dup, 1) := by decide +kernel
theorem dX6_init_9 : decode cX6_init 9 = .ok (.invokespecial 11, 3) := by decide +kernel
theorem dX6_init_12 : decode cX6_init 12 = .ok (.putfield 12, 3) := by decide +kernel
theorem dX6_init_15 : decode cX6_init 15 = .ok (.aload_n 0, 1) := by decide +kernel
theorem dX6_init_16 : decode cX6_init 16 = .ok (.new 16, 3) := by decide +kernel
theorem dX6_init_19 : decode cX6_init 19 = .ok (.dup, 1) := by decide +kernel
theorem dX6_init_20 : decode cX6_init 20 = .ok (.aload_n 0, 1) := by decide +kernel
theorem dX6_init_21 : decode cX6_init 21 = .ok (.getfield 12, 3) := by decide +kernel
theorem dX6_init_24 : decode cX6_init 24 = .ok (.invokespecial 18, 3) := by decide +kernel
theorem dX6_init_27 : decode cX6_init 27 = .ok (.putfield 21, 3) := by decide +kernel
theorem dX6_init_30 : decode cX6_init 30 = .ok (.aload_n 0, 1) := by decide +kernel
theorem dX6_init_31 : decode cX6_init 31 = .ok (.new 25, 3) := by decide +kernel
theorem dX6_init_34 : decode cX6_init 34 = .ok (.dup, 1) := by decide +kernel
theorem dX6_init_35 : decode cX6_init 35 = .ok (.invokespecial 27, 3) := by decide +kernel
theorem dX6_init_38 : decode cX6_init 38 = .ok (.putfield 28, 3) := by decide +kernel
theorem dX6_init_41 : decode cX6_init 41 = .ok (.aload_n 0, 1) := by decide +kernel
theorem dX6_init_42 : decode cX6_init 42 = .ok (.new 32, 3) := by decide +kernel
theorem dX6_init_45 : decode cX6_init 45 = .ok (.dup, 1) := by decide +kernel
theorem dX6_init_46 : decode cX6_init 46 = .ok (.aload_n 0, 1) := by decide +kernel
theorem dX6_init_47 : decode cX6_init 47 = .ok (.getfield 21, 3) := by decide +kernel
theorem dX6_init_50 : decode cX6_init 50 = .ok (.aload_n 0, 1) := by decide +kernel
theorem dX6_init_51 : decode cX6_init 51 = .ok (.getfield 28, 3) := by decide +kernel
theorem dX6_init_54 : decode cX6_init 54 = .ok (.invokespecial 34, 3) := by decide +kernel
theorem dX6_init_57 : decode cX6_init 57 = .ok (.putfield 37, 3) := by decide +kernel
theorem dX6_init_60 : decode cX6_init 60 = .ok (.aload_n 0, 1) := by decide +kernel
theorem dX6_init_61 : decode cX6_init 61 = .ok (.new 41, 3) := by decide +kernel
theorem dX6_init_64 : decode cX6_init 64 = .ok (.dup, 1) := by decide +kernel
theorem dX6_init_65 : decode cX6_init 65 = .ok (.aload_n 0, 1) := by decide +kernel
theorem dX6_init_66 : decode cX6_init 66 = .ok (.getfield 12, 3) := by decide +kernel
theorem dX6_init_69 : decode cX6_init 69 = .ok (.aload_n 0, 1) := by decide +kernel
theorem dX6_init_70 : decode cX6_init 70 = .ok (.getfield 21, 3) := by decide +kernel
theorem dX6_init_73 : decode cX6_init 73 = .ok (.aload_n 0, 1) := by decide +kernel
theorem dX6_init_74 : decode cX6_init 74 = .ok (.getfield 28, 3) := by decide +kernel
theorem dX6_init_77 : decode cX6_init 77 = .ok (.invokespecial 43, 3) := by decide +kernel
theorem dX6_init_80 : decode cX6_init 80 = .ok (.putfield 46, 3) := by decide +kernel
theorem dX6_init_83 : decode cX6_init 83 = .ok (.return_, 1) := by decide +kernel
theorem dX6_variable_0 : decode cX6_variable 0 = .ok (.iload_n 1, 1) := by decide +kernel
theorem dX6_variable_1 : decode cX6_variable 1 = .ok (.iload_n 2, 1) := by decide +kernel
theorem dX6_variable_2 : decode cX6_variable 2 = .ok (.invokestatic 50, 3) := by decide +kernel
theorem dX6_variable_5 : decode cX6_variable 5 = .ok (.ifCond .eq 13, 3) := by decide +kernel
theorem dX6_variable_8 : decode cX6_variable 8 = .ok (.aload_n 0, 1) := by decide +kernel
theorem dX6_variable_9 : decode cX6_variable 9 = .ok (.getfield 12, 3) := by decide +kernel
theorem dX6_variable_12 : decode cX6_variable 12 = .ok (.invokevirtual 54, 3) := by decide +kernel
theorem dX6_variable_15 : decode cX6_variable 15 = .ok (.ifCond .eq 5, 3) := by decide +kernel
theorem dX6_variable_18 : decode cX6_variable 18 = .ok (.iconst (-1), 1) := by decide +kernel
theorem dX6_variable_19 : decode cX6_variable 19 = .ok (.ireturn, 1) := by decide +kernel
theorem dX6_variable_20 : decode cX6_variable 20 = .ok (.aload_n 0, 1) := by decide +kernel
theorem dX6_variable_21 : decode cX6_variable 21 = .ok (.invokevirtual 58, 3) := by decide +kernel
theorem dX6_variable_24 : decode cX6_variable 24 = .ok (.aload_n 0, 1) := by decide +kernel
theorem dX6_variable_25 : decode cX6_variable 25 = .ok (.getfield 12, 3) := by decide +kernel
theorem dX6_variable_28 : decode cX6_variable 28 = .ok (.iload_n 1, 1) := by decide +kernel
theorem dX6_variable_29 : decode cX6_variable 29 = .ok (.iload_n 2, 1) := by decide +kernel
theorem dX6_variable_30 : decode cX6_variable 30 = .ok (.invokevirtual 61, 3) := by decide +kernel
theorem dX6_variable_33 : decode cX6_variable 33 = .ok (.ireturn, 1) := by decide +kernel
theorem dX6_begins_0 : decode cX6_begins 0 = .ok (.aload_n 0, 1) := by decide +kernel
theorem dX6_begins_1 : decode cX6_begins 1 = .ok (.getfield 12, 3) := by decide +kernel
theorem dX6_begins_4 : decode cX6_begins 4 = .ok (.iload_n 1, 1) := by decide +kernel
theorem dX6_begins_5 : decode cX6_begins 5 = .ok (.invokevirtual 65, 3) := by decide +kernel
theorem dX6_begins_8 : decode cX6_begins 8 = .ok (.ifCond .ne 5, 3) := by decide +kernel
theorem dX6_begins_11 : decode cX6_begins 11 = .ok (.iconst (-1), 1) := by decide +kernel
theorem dX6_begins_12 : decode cX6_begins 12 = .ok (.ireturn, 1) := by decide +kernel
theorem dX6_begins_13 : decode cX6_begins 13 = .ok (.aload_n 0, 1) := by decide +kernel
theorem dX6_begins_14 : decode cX6_begins 14 = .ok (.getfield 12, 3) := by decide +kernel
theorem dX6_begins_17 : decode cX6_begins 17 = .ok (.iload_n 1, 1) := by decide +kernel
theorem dX6_begins_18 : decode cX6_begins 18 = .ok (.iload_n 2, 1) := by decide +kernel
theorem dX6_begins_19 : decode cX6_begins 19 = .ok (.invokevirtual 69, 3) := by decide +kernel
theorem dX6_begins_22 : decode cX6_begins 22 = .ok (.aload_n 0, 1) := by decide +kernel
theorem dX6_begins_23 : decode cX6_begins 23 = .ok (.invokevirtual 58, 3) := by decide +kernel
theorem dX6_begins_26 : decode cX6_begins 26 = .ok (.iconst 1, 1) := by decide +kernel
theorem dX6_begins_27 : decode cX6_begins 27 = .ok (.ireturn, 1) := by decide +kernel
theorem dX6_act_0 : decode cX6_act 0 = .ok (.iload_n 1, 1) := by decide +kernel
theorem dX6_act_1 : decode cX6_act 1 = .ok (.invokestatic 73, 3) := by decide +kernel
theorem dX6_act_4 : decode cX6_act 4 = .ok (.ifCond .eq 13, 3) := by decide +kernel
theorem dX6_act_7 : decode cX6_act 7 = .ok (.iload_n 2, 1) := by decide +kernel
theorem dX6_act_8 : decode cX6_act 8 = .ok (.ifCond .lt 9, 3) := by decide +kernel
theorem dX6_act_11 : decode cX6_act 11 = .ok (.iload_n 2, 1) := by decide +kernel
theorem dX6_act_12 : decode cX6_act 12 = .ok (.bipush 6, 2) := by decide +kernel
theorem dX6_act_14 : decode cX6_act 14 = .ok (.if_icmp .le 5, 3) := by decide +kernel
theorem dX6_act_17 : decode cX6_act 17 = .ok (.iconst (-1), 1) := by decide +kernel
theorem dX6_act_18 : decode cX6_act 18 = .ok (.ireturn, 1) := by decide +kernel
theorem dX6_act_19 : decode cX6_act 19 = .ok (.iload_n 2, 1) := by decide +kernel
theorem dX6_act_20 : decode cX6_act 20 = .ok (.ifCond .ne 13, 3) := by decide +kernel
theorem dX6_act_23 : decode cX6_act 23 = .ok (.aload_n 0, 1) := by decide +kernel
theorem dX6_act_24 : decode cX6_act 24 = .ok (.iload_n 1, 1) := by decide +kernel
theorem dX6_act_25 : decode cX6_act 25 = .ok (.iconst 0, 1) := by decide +kernel
theorem dX6_act_26 : decode cX6_act 26 = .ok (.iconst 0, 1) := by decide +kernel
theorem dX6_act_27 : decode cX6_act 27 = .ok (.iconst 0, 1) := by decide +kernel
theorem dX6_act_28 : decode cX6_act 28 = .ok (.iconst (-1), 1) := by decide +kernel
theorem dX6_act_29 : decode cX6_act 29 = .ok (.invokevirtual 76, 3) := by decide +kernel
theorem dX6_act_32 : decode cX6_act 32 = .ok (.ireturn, 1) := by decide +kernel
theorem dX6_act_33 : decode cX6_act 33 = .ok (.iload_n 2, 1) := by decide +kernel
theorem dX6_act_34 : decode cX6_act 34 = .ok (.iconst 5, 1) := by decide +kernel
theorem dX6_act_35 : decode cX6_act 35 = .ok (.if_icmp .eq 9, 3) := by decide +kernel
theorem dX6_act_38 : decode cX6_act 38 = .ok (.iload_n 2, 1) := by decide +kernel
theorem dX6_act_39 : decode cX6_act 39 = .ok (.bipush 6, 2) := by decide +kernel
theorem dX6_act_41 : decode cX6_act 41 = .ok (.if_icmp .ne 28, 3) := by decide +kernel
theorem dX6_act_44 : decode cX6_act 44 = .ok (.aload_n 0, 1) := by decide +kernel
theorem dX6_act_45 : decode cX6_act 45 = .ok (.getfield 12, 3) := by decide +kernel
theorem dX6_act_48 : decode cX6_act 48 = .ok (.iload_n 3, 1) := by decide +kernel
theorem dX6_act_49 : decode cX6_act 49 = .ok (.invokevirtual 65, 3) := by decide +kernel
theorem dX6_act_52 : decode cX6_act 52 = .ok (.ifCond .eq 15, 3) := by decide +kernel
theorem dX6_act_55 : decode cX6_act 55 = .ok (.aload_n 0, 1) := by decide +kernel
theorem dX6_act_56 : decode cX6_act 56 = .ok (.iload_n 1, 1) := by decide +kernel
theorem dX6_act_57 : decode cX6_act 57 = .ok (.iload_n 2, 1) := by decide +kernel
theorem dX6_act_58 : decode cX6_act 58 = .ok (.iload_n 3, 1) := by decide +kernel
theorem dX6_act_59 : decode cX6_act 59 = .ok (.iconst 0, 1) := by decide +kernel
theorem dX6_act_60 : decode cX6_act 60 = .ok (.iconst (-1), 1) := by decide +kernel
theorem dX6_act_61 : decode cX6_act 61 = .ok (.invokevirtual 76, 3) := by decide +kernel
theorem dX6_act_64 : decode cX6_act 64 = .ok (.goto 4, 3) := by decide +kernel
theorem dX6_act_67 : decode cX6_act 67 = .ok (.iconst (-1), 1) := by decide +kernel
theorem dX6_act_68 : decode cX6_act 68 = .ok (.ireturn, 1) := by decide +kernel
theorem dX6_act_69 : decode cX6_act 69 = .ok (.aload_n 0, 1) := by decide +kernel
theorem dX6_act_70 : decode cX6_act 70 = .ok (.getfield 12, 3) := by decide +kernel
theorem dX6_act_73 : decode cX6_act 73 = .ok (.iload_n 2, 1) := by decide +kernel
theorem dX6_act_74 : decode cX6_act 74 = .ok (.iload_n 3, 1) := by decide +kernel
theorem dX6_act_75 : decode cX6_act 75 = .ok (.iload 4, 2) := by decide +kernel
theorem dX6_act_77 : decode cX6_act 77 = .ok (.invokevirtual 80, 3) := by decide +kernel
theorem dX6_act_80 : decode cX6_act 80 = .ok (.ifCond .eq 16, 3) := by decide +kernel
theorem dX6_act_83 : decode cX6_act 83 = .ok (.aload_n 0, 1) := by decide +kernel
theorem dX6_act_84 : decode cX6_act 84 = .ok (.iload_n 1, 1) := by decide +kernel
theorem dX6_act_85 : decode cX6_act 85 = .ok (.iload_n 2, 1) := by decide +kernel
theorem dX6_act_86 : decode cX6_act 86 = .ok (.iload_n 3, 1) := by decide +kernel
theorem dX6_act_87 : decode cX6_act 87 = .ok (.iload 4, 2) := by decide +kernel
theorem dX6_act_89 : decode cX6_act 89 = .ok (.iconst (-1), 1) := by decide +kernel
theorem dX6_act_90 : decode cX6_act 90 = .ok (.invokevirtual 76, 3) := by decide +kernel
theorem dX6_act_93 : decode cX6_act 93 = .ok (.goto 4, 3) := by decide +kernel
theorem dX6_act_96 : decode cX6_act 96 = .ok (.iconst (-1), 1) := by decide +kernel
theorem dX6_act_97 : decode cX6_act 97 = .ok (.ireturn, 1) := by decide +kernel
theorem dX6_lend_0 : decode cX6_lend 0 = .ok (.iload_n 1, 1) := by decide +kernel
theorem dX6_lend_1 : decode cX6_lend 1 = .ok (.invokestatic 73, 3) := by decide +kernel
theorem dX6_lend_4 : decode cX6_lend 4 = .ok (.ifCond .eq 30, 3) := by decide +kernel
theorem dX6_lend_7 : decode cX6_lend 7 = .ok (.aload_n 0, 1) := by decide +kernel
theorem dX6_lend_8 : decode cX6_lend 8 = .ok (.getfield 12, 3) := by decide +kernel
theorem dX6_lend_11 : decode cX6_lend 11 = .ok (.iload_n 2, 1) := by decide +kernel
theorem dX6_lend_12 : decode cX6_lend 12 = .ok (.iload_n 3, 1) := by decide +kernel
theorem dX6_lend_13 : decode cX6_lend 13 = .ok (.iload 4, 2) := by decide +kernel
theorem dX6_lend_15 : decode cX6_lend 15 = .ok (.invokevirtual 84, 3) := by decide +kernel
theorem dX6_lend_18 : decode cX6_lend 18 = .ok (.ifCond .eq 16, 3) := by decide +kernel
theorem dX6_lend_21 : decode cX6_lend 21 = .ok (.aload_n 0, 1) := by decide +kernel
theorem dX6_lend_22 : decode cX6_lend 22 = .ok (.getfield 21, 3) := by decide +kernel
theorem dX6_lend_25 : decode cX6_lend 25 = .ok (.iload_n 1, 1) := by decide +kernel
theorem dX6_lend_26 : decode cX6_lend 26 = .ok (.invokevirtual 87, 3) := by decide +kernel
theorem dX6_lend_29 : decode cX6_lend 29 = .ok (.bipush 60, 2) := by decide +kernel
theorem dX6_lend_31 : decode cX6_lend 31 = .ok (.if_icmp .lt 5, 3) := by decide +kernel
theorem dX6_lend_34 : decode cX6_lend 34 = .ok (.iconst (-1), 1) := by decide +kernel
theorem dX6_lend_35 : decode cX6_lend 35 = .ok (.ireturn, 1) := by decide +kernel
theorem dX6_lend_36 : decode cX6_lend 36 = .ok (.aload_n 0, 1) := by decide +kernel
theorem dX6_lend_37 : decode cX6_lend 37 = .ok (.iload_n 1, 1) := by decide +kernel
theorem dX6_lend_38 : decode cX6_lend 38 = .ok (.bipush 7, 2) := by decide +kernel
theorem dX6_lend_40 : decode cX6_lend 40 = .ok (.iload_n 3, 1) := by decide +kernel
theorem dX6_lend_41 : decode cX6_lend 41 = .ok (.iload 4, 2) := by decide +kernel
theorem dX6_lend_43 : decode cX6_lend 43 = .ok (.iload_n 2, 1) := by decide +kernel
theorem dX6_lend_44 : decode cX6_lend 44 = .ok (.invokevirtual 76, 3) := by decide +kernel
theorem dX6_lend_47 : decode cX6_lend 47 = .ok (.ireturn, 1) := by decide +kernel
theorem dX6_copy_0 : decode cX6_copy 0 = .ok (.iload_n 1, 1) := by decide +kernel
theorem dX6_copy_1 : decode cX6_copy 1 = .ok (.invokestatic 73, 3) := by decide +kernel
theorem dX6_copy_4 : decode cX6_copy 4 = .ok (.ifCond .eq 15, 3) := by decide +kernel
theorem dX6_copy_7 : decode cX6_copy 7 = .ok (.aload_n 0, 1) := by decide +kernel
theorem dX6_copy_8 : decode cX6_copy 8 = .ok (.getfield 12, 3) := by decide +kernel
theorem dX6_copy_11 : decode cX6_copy 11 = .ok (.iload_n 2, 1) := by decide +kernel
theorem dX6_copy_12 : decode cX6_copy 12 = .ok (.iload_n 3, 1) := by decide +kernel
theorem dX6_copy_13 : decode cX6_copy 13 = .ok (.invokevirtual 91, 3) := by decide +kernel
theorem dX6_copy_16 : decode cX6_copy 16 = .ok (.ifCond .ne 5, 3) := by decide +kernel
theorem dX6_copy_19 : decode cX6_copy 19 = .ok (.iconst (-1), 1) := by decide +kernel
theorem dX6_copy_20 : decode cX6_copy 20 = .ok (.ireturn, 1) := by decide +kernel
theorem dX6_copy_21 : decode cX6_copy 21 = .ok (.aload_n 0, 1) := by decide +kernel
theorem dX6_copy_22 : decode cX6_copy 22 = .ok (.iload_n 1, 1) := by decide +kernel
theorem dX6_copy_23 : decode cX6_copy 23 = .ok (.bipush 8, 2) := by decide +kernel
theorem dX6_copy_25 : decode cX6_copy 25 = .ok (.iload_n 3, 1) := by decide +kernel
theorem dX6_copy_26 : decode cX6_copy 26 = .ok (.iconst 0, 1) := by decide +kernel
theorem dX6_copy_27 : decode cX6_copy 27 = .ok (.iload_n 2, 1) := by decide +kernel
theorem dX6_copy_28 : decode cX6_copy 28 = .ok (.invokevirtual 76, 3) := by decide +kernel
theorem dX6_copy_31 : decode cX6_copy 31 = .ok (.ireturn, 1) := by decide +kernel
theorem dX6_next_0 : decode cX6_next 0 = .ok (.iload_n 1, 1) := by decide +kernel
theorem dX6_next_1 : decode cX6_next 1 = .ok (.invokestatic 73, 3) := by decide +kernel
theorem dX6_next_4 : decode cX6_next 4 = .ok (.ifCond .eq 10, 3) := by decide +kernel
theorem dX6_next_7 : decode cX6_next 7 = .ok (.iload_n 2, 1) := by decide +kernel
theorem dX6_next_8 : decode cX6_next 8 = .ok (.invokestatic 73, 3) := by decide +kernel
theorem dX6_next_11 : decode cX6_next 11 = .ok (.ifCond .ne 5, 3) := by decide +kernel
theorem dX6_next_14 : decode cX6_next 14 = .ok (.iconst (-1), 1) := by decide +kernel
theorem dX6_next_15 : decode cX6_next 15 = .ok (.ireturn, 1) := by decide +kernel
theorem dX6_next_16 : decode cX6_next 16 = .ok (.iload_n 3, 1) := by decide +kernel
theorem dX6_next_17 : decode cX6_next 17 = .ok (.ifCond .eq 17, 3) := by decide +kernel
theorem dX6_next_20 : decode cX6_next 20 = .ok (.aload_n 0, 1) := by decide +kernel
theorem dX6_next_21 : decode cX6_next 21 = .ok (.getfield 28, 3) := by decide +kernel
theorem dX6_next_24 : decode cX6_next 24 = .ok (.iload_n 1, 1) := by decide +kernel
theorem dX6_next_25 : decode cX6_next 25 = .ok (.iload_n 2, 1) := by decide +kernel
theorem dX6_next_26 : decode cX6_next 26 = .ok (.invokevirtual 94, 3) := by decide +kernel
theorem dX6_next_29 : decode cX6_next 29 = .ok (.ifCond .ne 5, 3) := by decide +kernel
theorem dX6_next_32 : decode cX6_next 32 = .ok (.iconst (-1), 1) := by decide +kernel
theorem dX6_next_33 : decode cX6_next 33 = .ok (.ireturn, 1) := by decide +kernel
theorem dX6_next_34 : decode cX6_next 34 = .ok (.iload_n 3, 1) := by decide +kernel
theorem dX6_next_35 : decode cX6_next 35 = .ok (.ifCond .ne 12, 3) := by decide +kernel
theorem dX6_next_38 : decode cX6_next 38 = .ok (.aload_n 0, 1) := by decide +kernel
theorem dX6_next_39 : decode cX6_next 39 = .ok (.getfield 28, 3) := by decide +kernel
theorem dX6_next_42 : decode cX6_next 42 = .ok (.iload_n 1, 1) := by decide +kernel
theorem dX6_next_43 : decode cX6_next 43 = .ok (.iload_n 2, 1) := by decide +kernel
theorem dX6_next_44 : decode cX6_next 44 = .ok (.invokevirtual 96, 3) := by decide +kernel
theorem dX6_next_47 : decode cX6_next 47 = .ok (.aload_n 0, 1) := by decide +kernel
theorem dX6_next_48 : decode cX6_next 48 = .ok (.invokevirtual 58, 3) := by decide +kernel
theorem dX6_next_51 : decode cX6_next 51 = .ok (.iconst 1, 1) := by decide +kernel
theorem dX6_next_52 : decode cX6_next 52 = .ok (.ireturn, 1) := by decide +kernel
theorem dX6_judge_0 : decode cX6_judge 0 = .ok (.aload_n 0, 1) := by decide +kernel
theorem dX6_judge_1 : decode cX6_judge 1 = .ok (.invokevirtual 100, 3) := by decide +kernel
theorem dX6_judge_4 : decode cX6_judge 4 = .ok (.aload_n 0, 1) := by decide +kernel
theorem dX6_judge_5 : decode cX6_judge 5 = .ok (.invokevirtual 103, 3) := by decide +kernel
theorem dX6_judge_8 : decode cX6_judge 8 = .ok (.iconst (-1), 1) := by decide +kernel
theorem dX6_judge_9 : decode cX6_judge 9 = .ok (.if_icmp .eq 5, 3) := by decide +kernel
theorem dX6_judge_12 : decode cX6_judge 12 = .ok (.iconst 3, 1) := by decide +kernel
theorem dX6_judge_13 : decode cX6_judge 13 = .ok (.ireturn, 1) := by decide +kernel
theorem dX6_judge_14 : decode cX6_judge 14 = .ok (.aload_n 0, 1) := by decide +kernel
theorem dX6_judge_15 : decode cX6_judge 15 = .ok (.invokevirtual 107, 3) := by decide +kernel
theorem dX6_judge_18 : decode cX6_judge 18 = .ok (.aload_n 0, 1) := by decide +kernel
theorem dX6_judge_19 : decode cX6_judge 19 = .ok (.invokevirtual 110, 3) := by decide +kernel
theorem dX6_judge_22 : decode cX6_judge 22 = .ok (.iconst (-1), 1) := by decide +kernel
theorem dX6_judge_23 : decode cX6_judge 23 = .ok (.if_icmp .eq 7, 3) := by decide +kernel
theorem dX6_judge_26 : decode cX6_judge 26 = .ok (.iconst 4, 1) := by decide +kernel
theorem dX6_judge_27 : decode cX6_judge 27 = .ok (.goto 4, 3) := by decide +kernel
theorem dX6_judge_30 : decode cX6_judge 30 = .ok (.iconst 0, 1) := by decide +kernel
theorem dX6_judge_31 : decode cX6_judge 31 = .ok (.ireturn, 1) := by decide +kernel
theorem dX6_fault_0 : decode cX6_fault 0 = .ok (.iload_n 1, 1) := by decide +kernel
theorem dX6_fault_1 : decode cX6_fault 1 = .ok (.iconst 1, 1) := by decide +kernel
theorem dX6_fault_2 : decode cX6_fault 2 = .ok (.if_icmp .eq 10, 3) := by decide +kernel
theorem dX6_fault_5 : decode cX6_fault 5 = .ok (.iload_n 1, 1) := by decide +kernel
theorem dX6_fault_6 : decode cX6_fault 6 = .ok (.iconst 2, 1) := by decide +kernel
theorem dX6_fault_7 : decode cX6_fault 7 = .ok (.if_icmp .eq 5, 3) := by decide +kernel
theorem dX6_fault_10 : decode cX6_fault 10 = .ok (.iconst (-1), 1) := by decide +kernel
theorem dX6_fault_11 : decode cX6_fault 11 = .ok (.ireturn, 1) := by decide +kernel
theorem dX6_fault_12 : decode cX6_fault 12 = .ok (.aload_n 0, 1) := by decide +kernel
theorem dX6_fault_13 : decode cX6_fault 13 = .ok (.invokevirtual 100, 3) := by decide +kernel
theorem dX6_fault_16 : decode cX6_fault 16 = .ok (.aload_n 0, 1) := by decide +kernel
theorem dX6_fault_17 : decode cX6_fault 17 = .ok (.invokevirtual 103, 3) := by decide +kernel
theorem dX6_fault_20 : decode cX6_fault 20 = .ok (.istore_n 2, 1) := by decide +kernel
theorem dX6_fault_21 : decode cX6_fault 21 = .ok (.iload_n 2, 1) := by decide +kernel
theorem dX6_fault_22 : decode cX6_fault 22 = .ok (.iconst (-1), 1) := by decide +kernel
theorem dX6_fault_23 : decode cX6_fault 23 = .ok (.if_icmp .eq 21, 3) := by decide +kernel
theorem dX6_fault_26 : decode cX6_fault 26 = .ok (.iload_n 1, 1) := by decide +kernel
theorem dX6_fault_27 : decode cX6_fault 27 = .ok (.iconst 1, 1) := by decide +kernel
theorem dX6_fault_28 : decode cX6_fault 28 = .ok (.if_icmp .ne 7, 3) := by decide +kernel
theorem dX6_fault_31 : decode cX6_fault 31 = .ok (.iload_n 2, 1) := by decide +kernel
theorem dX6_fault_32 : decode cX6_fault 32 = .ok (.goto 11, 3) := by decide +kernel
theorem dX6_fault_35 : decode cX6_fault 35 = .ok (.aload_n 0, 1) := by decide +kernel
theorem dX6_fault_36 : decode cX6_fault 36 = .ok (.getfield 37, 3) := by decide +kernel
theorem dX6_fault_39 : decode cX6_fault 39 = .ok (.iload_n 2, 1) := by decide +kernel
theorem dX6_fault_40 : decode cX6_fault 40 = .ok (.invokevirtual 113, 3) := by decide +kernel
theorem dX6_fault_43 : decode cX6_fault 43 = .ok (.ireturn, 1) := by decide +kernel
theorem dX6_fault_44 : decode cX6_fault 44 = .ok (.aload_n 0, 1) := by decide +kernel
theorem dX6_fault_45 : decode cX6_fault 45 = .ok (.invokevirtual 107, 3) := by decide +kernel
theorem dX6_fault_48 : decode cX6_fault 48 = .ok (.aload_n 0, 1) := by decide +kernel
theorem dX6_fault_49 : decode cX6_fault 49 = .ok (.invokevirtual 110, 3) := by decide +kernel
theorem dX6_fault_52 : decode cX6_fault 52 = .ok (.istore_n 3, 1) := by decide +kernel
theorem dX6_fault_53 : decode cX6_fault 53 = .ok (.iload_n 3, 1) := by decide +kernel
theorem dX6_fault_54 : decode cX6_fault 54 = .ok (.iconst (-1), 1) := by decide +kernel
theorem dX6_fault_55 : decode cX6_fault 55 = .ok (.if_icmp .ne 5, 3) := by decide +kernel
theorem dX6_fault_58 : decode cX6_fault 58 = .ok (.iconst (-1), 1) := by decide +kernel
theorem dX6_fault_59 : decode cX6_fault 59 = .ok (.ireturn, 1) := by decide +kernel
theorem dX6_fault_60 : decode cX6_fault 60 = .ok (.iload_n 1, 1) := by decide +kernel
theorem dX6_fault_61 : decode cX6_fault 61 = .ok (.iconst 1, 1) := by decide +kernel
theorem dX6_fault_62 : decode cX6_fault 62 = .ok (.if_icmp .ne 7, 3) := by decide +kernel
theorem dX6_fault_65 : decode cX6_fault 65 = .ok (.iload_n 3, 1) := by decide +kernel
theorem dX6_fault_66 : decode cX6_fault 66 = .ok (.goto 11, 3) := by decide +kernel
theorem dX6_fault_69 : decode cX6_fault 69 = .ok (.aload_n 0, 1) := by decide +kernel
theorem dX6_fault_70 : decode cX6_fault 70 = .ok (.getfield 46, 3) := by decide +kernel
theorem dX6_fault_73 : decode cX6_fault 73 = .ok (.iload_n 3, 1) := by decide +kernel
theorem dX6_fault_74 : decode cX6_fault 74 = .ok (.invokevirtual 116, 3) := by decide +kernel
theorem dX6_fault_77 : decode cX6_fault 77 = .ok (.ireturn, 1) := by decide +kernel
theorem dX6_comes_0 : decode cX6_comes 0 = .ok (.iload_n 1, 1) := by decide +kernel
theorem dX6_comes_1 : decode cX6_comes 1 = .ok (.invokestatic 73, 3) := by decide +kernel
theorem dX6_comes_4 : decode cX6_comes 4 = .ok (.ifCond .ne 5, 3) := by decide +kernel
theorem dX6_comes_7 : decode cX6_comes 7 = .ok (.iconst (-1), 1) := by decide +kernel
theorem dX6_comes_8 : decode cX6_comes 8 = .ok (.ireturn, 1) := by decide +kernel
theorem dX6_comes_9 : decode cX6_comes 9 = .ok (.aload_n 0, 1) := by decide +kernel
theorem dX6_comes_10 : decode cX6_comes 10 = .ok (.invokevirtual 119, 3) := by decide +kernel
theorem dX6_comes_13 : decode cX6_comes 13 = .ok (.aload_n 0, 1) := by decide +kernel
theorem dX6_comes_14 : decode cX6_comes 14 = .ok (.getfield 28, 3) := by decide +kernel
theorem dX6_comes_17 : decode cX6_comes 17 = .ok (.iload_n 1, 1) := by decide +kernel
theorem dX6_comes_18 : decode cX6_comes 18 = .ok (.invokevirtual 122, 3) := by decide +kernel
theorem dX6_comes_21 : decode cX6_comes 21 = .ok (.invokestatic 125, 3) := by decide +kernel
theorem dX6_comes_24 : decode cX6_comes 24 = .ok (.ireturn, 1) := by decide +kernel
theorem dX6_held_0 : decode cX6_held 0 = .ok (.iload_n 1, 1) := by decide +kernel
theorem dX6_held_1 : decode cX6_held 1 = .ok (.invokestatic 73, 3) := by decide +kernel
theorem dX6_held_4 : decode cX6_held 4 = .ok (.ifCond .eq 15, 3) := by decide +kernel
theorem dX6_held_7 : decode cX6_held 7 = .ok (.aload_n 0, 1) := by decide +kernel
theorem dX6_held_8 : decode cX6_held 8 = .ok (.getfield 12, 3) := by decide +kernel
theorem dX6_held_11 : decode cX6_held 11 = .ok (.iload_n 2, 1) := by decide +kernel
theorem dX6_held_12 : decode cX6_held 12 = .ok (.iload_n 3, 1) := by decide +kernel
theorem dX6_held_13 : decode cX6_held 13 = .ok (.invokevirtual 129, 3) := by decide +kernel
theorem dX6_held_16 : decode cX6_held 16 = .ok (.ifCond .ne 5, 3) := by decide +kernel
theorem dX6_held_19 : decode cX6_held 19 = .ok (.iconst (-1), 1) := by decide +kernel
theorem dX6_held_20 : decode cX6_held 20 = .ok (.ireturn, 1) := by decide +kernel
theorem dX6_held_21 : decode cX6_held 21 = .ok (.aload_n 0, 1) := by decide +kernel
theorem dX6_held_22 : decode cX6_held 22 = .ok (.invokevirtual 100, 3) := by decide +kernel
theorem dX6_held_25 : decode cX6_held 25 = .ok (.aload_n 0, 1) := by decide +kernel
theorem dX6_held_26 : decode cX6_held 26 = .ok (.getfield 28, 3) := by decide +kernel
theorem dX6_held_29 : decode cX6_held 29 = .ok (.iload_n 1, 1) := by decide +kernel
theorem dX6_held_30 : decode cX6_held 30 = .ok (.invokevirtual 122, 3) := by decide +kernel
theorem dX6_held_33 : decode cX6_held 33 = .ok (.ifCond .eq 19, 3) := by decide +kernel
theorem dX6_held_36 : decode cX6_held 36 = .ok (.aload_n 0, 1) := by decide +kernel
theorem dX6_held_37 : decode cX6_held 37 = .ok (.getfield 37, 3) := by decide +kernel
theorem dX6_held_40 : decode cX6_held 40 = .ok (.iload_n 1, 1) := by decide +kernel
theorem dX6_held_41 : decode cX6_held 41 = .ok (.iload_n 2, 1) := by decide +kernel
theorem dX6_held_42 : decode cX6_held 42 = .ok (.iload_n 3, 1) := by decide +kernel
theorem dX6_held_43 : decode cX6_held 43 = .ok (.invokestatic 132, 3) := by decide +kernel
theorem dX6_held_46 : decode cX6_held 46 = .ok (.invokevirtual 136, 3) := by decide +kernel
theorem dX6_held_49 : decode cX6_held 49 = .ok (.goto 4, 3) := by decide +kernel
theorem dX6_held_52 : decode cX6_held 52 = .ok (.iconst (-1), 1) := by decide +kernel
theorem dX6_held_53 : decode cX6_held 53 = .ok (.ireturn, 1) := by decide +kernel
theorem dX6_holds_0 : decode cX6_holds 0 = .ok (.iload_n 1, 1) := by decide +kernel
theorem dX6_holds_1 : decode cX6_holds 1 = .ok (.invokestatic 73, 3) := by decide +kernel
theorem dX6_holds_4 : decode cX6_holds 4 = .ok (.ifCond .eq 22, 3) := by decide +kernel
theorem dX6_holds_7 : decode cX6_holds 7 = .ok (.aload_n 0, 1) := by decide +kernel
theorem dX6_holds_8 : decode cX6_holds 8 = .ok (.getfield 12, 3) := by decide +kernel
theorem dX6_holds_11 : decode cX6_holds 11 = .ok (.iload_n 2, 1) := by decide +kernel
theorem dX6_holds_12 : decode cX6_holds 12 = .ok (.invokevirtual 140, 3) := by decide +kernel
theorem dX6_holds_15 : decode cX6_holds 15 = .ok (.ifCond .eq 11, 3) := by decide +kernel
theorem dX6_holds_18 : decode cX6_holds 18 = .ok (.aload_n 0, 1) := by decide +kernel
theorem dX6_holds_19 : decode cX6_holds 19 = .ok (.iload_n 3, 1) := by decide +kernel
theorem dX6_holds_20 : decode cX6_holds 20 = .ok (.invokevirtual 143, 3) := by decide +kernel
theorem dX6_holds_23 : decode cX6_holds 23 = .ok (.ifCond .ne 5, 3) := by decide +kernel
theorem dX6_holds_26 : decode cX6_holds 26 = .ok (.iconst (-1), 1) := by decide +kernel
theorem dX6_holds_27 : decode cX6_holds 27 = .ok (.ireturn, 1) := by decide +kernel
theorem dX6_holds_28 : decode cX6_holds 28 = .ok (.aload_n 0, 1) := by decide +kernel
theorem dX6_holds_29 : decode cX6_holds 29 = .ok (.invokevirtual 107, 3) := by decide +kernel
theorem dX6_holds_32 : decode cX6_holds 32 = .ok (.aload_n 0, 1) := by decide +kernel
theorem dX6_holds_33 : decode cX6_holds 33 = .ok (.getfield 46, 3) := by decide +kernel
theorem dX6_holds_36 : decode cX6_holds 36 = .ok (.iload_n 1, 1) := by decide +kernel
theorem dX6_holds_37 : decode cX6_holds 37 = .ok (.iload_n 2, 1) := by decide +kernel
theorem dX6_holds_38 : decode cX6_holds 38 = .ok (.iload_n 3, 1) := by decide +kernel
theorem dX6_holds_39 : decode cX6_holds 39 = .ok (.invokevirtual 146, 3) := by decide +kernel
theorem dX6_holds_42 : decode cX6_holds 42 = .ok (.invokestatic 125, 3) := by decide +kernel
theorem dX6_holds_45 : decode cX6_holds 45 = .ok (.ireturn, 1) := by decide +kernel
theorem dX6_used_0 : decode cX6_used 0 = .ok (.iload_n 1, 1) := by decide +kernel
theorem dX6_used_1 : decode cX6_used 1 = .ok (.invokestatic 73, 3) := by decide +kernel
theorem dX6_used_4 : decode cX6_used 4 = .ok (.ifCond .eq 14, 3) := by decide +kernel
theorem dX6_used_7 : decode cX6_used 7 = .ok (.aload_n 0, 1) := by decide +kernel
theorem dX6_used_8 : decode cX6_used 8 = .ok (.getfield 12, 3) := by decide +kernel
theorem dX6_used_11 : decode cX6_used 11 = .ok (.iload_n 2, 1) := by decide +kernel
theorem dX6_used_12 : decode cX6_used 12 = .ok (.invokevirtual 140, 3) := by decide +kernel
theorem dX6_used_15 : decode cX6_used 15 = .ok (.ifCond .ne 5, 3) := by decide +kernel
theorem dX6_used_18 : decode cX6_used 18 = .ok (.iconst (-1), 1) := by decide +kernel
theorem dX6_used_19 : decode cX6_used 19 = .ok (.ireturn, 1) := by decide +kernel
theorem dX6_used_20 : decode cX6_used 20 = .ok (.aload_n 0, 1) := by decide +kernel
theorem dX6_used_21 : decode cX6_used 21 = .ok (.invokevirtual 107, 3) := by decide +kernel
theorem dX6_used_24 : decode cX6_used 24 = .ok (.aload_n 0, 1) := by decide +kernel
theorem dX6_used_25 : decode cX6_used 25 = .ok (.getfield 46, 3) := by decide +kernel
theorem dX6_used_28 : decode cX6_used 28 = .ok (.iload_n 1, 1) := by decide +kernel
theorem dX6_used_29 : decode cX6_used 29 = .ok (.iload_n 2, 1) := by decide +kernel
theorem dX6_used_30 : decode cX6_used 30 = .ok (.invokevirtual 149, 3) := by decide +kernel
theorem dX6_used_33 : decode cX6_used 33 = .ok (.invokestatic 125, 3) := by decide +kernel
theorem dX6_used_36 : decode cX6_used 36 = .ok (.ireturn, 1) := by decide +kernel
theorem dX6_force_0 : decode cX6_force 0 = .ok (.iload_n 2, 1) := by decide +kernel
theorem dX6_force_1 : decode cX6_force 1 = .ok (.invokestatic 73, 3) := by decide +kernel
theorem dX6_force_4 : decode cX6_force 4 = .ok (.ifCond .eq 11, 3) := by decide +kernel
theorem dX6_force_7 : decode cX6_force 7 = .ok (.aload_n 0, 1) := by decide +kernel
theorem dX6_force_8 : decode cX6_force 8 = .ok (.iload_n 1, 1) := by decide +kernel
theorem dX6_force_9 : decode cX6_force 9 = .ok (.invokevirtual 143, 3) := by decide +kernel
theorem dX6_force_12 : decode cX6_force 12 = .ok (.ifCond .ne 5, 3) := by decide +kernel
theorem dX6_force_15 : decode cX6_force 15 = .ok (.iconst (-1), 1) := by decide +kernel
theorem dX6_force_16 : decode cX6_force 16 = .ok (.ireturn, 1) := by decide +kernel
theorem dX6_force_17 : decode cX6_force 17 = .ok (.aload_n 0, 1) := by decide +kernel
theorem dX6_force_18 : decode cX6_force 18 = .ok (.invokevirtual 107, 3) := by decide +kernel
theorem dX6_force_21 : decode cX6_force 21 = .ok (.aload_n 0, 1) := by decide +kernel
theorem dX6_force_22 : decode cX6_force 22 = .ok (.getfield 46, 3) := by decide +kernel
theorem dX6_force_25 : decode cX6_force 25 = .ok (.iload_n 1, 1) := by decide +kernel
theorem dX6_force_26 : decode cX6_force 26 = .ok (.iload_n 2, 1) := by decide +kernel
theorem dX6_force_27 : decode cX6_force 27 = .ok (.invokevirtual 152, 3) := by decide +kernel
theorem dX6_force_30 : decode cX6_force 30 = .ok (.invokestatic 125, 3) := by decide +kernel
theorem dX6_force_33 : decode cX6_force 33 = .ok (.ireturn, 1) := by decide +kernel
theorem dX6_count_0 : decode cX6_count 0 = .ok (.iload_n 1, 1) := by decide +kernel
theorem dX6_count_1 : decode cX6_count 1 = .ok (.tableswitch 98 0 5 #[39, 47, 59, 71, 80, 89], 39) := by decide +kernel
theorem dX6_count_40 : decode cX6_count 40 = .ok (.aload_n 0, 1) := by decide +kernel
theorem dX6_count_41 : decode cX6_count 41 = .ok (.getfield 12, 3) := by decide +kernel
theorem dX6_count_44 : decode cX6_count 44 = .ok (.invokevirtual 155, 3) := by decide +kernel
theorem dX6_count_47 : decode cX6_count 47 = .ok (.ireturn, 1) := by decide +kernel
theorem dX6_count_48 : decode cX6_count 48 = .ok (.aload_n 0, 1) := by decide +kernel
theorem dX6_count_49 : decode cX6_count 49 = .ok (.invokevirtual 107, 3) := by decide +kernel
theorem dX6_count_52 : decode cX6_count 52 = .ok (.aload_n 0, 1) := by decide +kernel
theorem dX6_count_53 : decode cX6_count 53 = .ok (.getfield 46, 3) := by decide +kernel
theorem dX6_count_56 : decode cX6_count 56 = .ok (.invokevirtual 158, 3) := by decide +kernel
theorem dX6_count_59 : decode cX6_count 59 = .ok (.ireturn, 1) := by decide +kernel
theorem dX6_count_60 : decode cX6_count 60 = .ok (.aload_n 0, 1) := by decide +kernel
theorem dX6_count_61 : decode cX6_count 61 = .ok (.invokevirtual 119, 3) := by decide +kernel
theorem dX6_count_64 : decode cX6_count 64 = .ok (.aload_n 0, 1) := by decide +kernel
theorem dX6_count_65 : decode cX6_count 65 = .ok (.getfield 28, 3) := by decide +kernel
theorem dX6_count_68 : decode cX6_count 68 = .ok (.invokevirtual 159, 3) := by decide +kernel
theorem dX6_count_71 : decode cX6_count 71 = .ok (.ireturn, 1) := by decide +kernel
theorem dX6_count_72 : decode cX6_count 72 = .ok (.aload_n 0, 1) := by decide +kernel
theorem dX6_count_73 : decode cX6_count 73 = .ok (.invokevirtual 107, 3) := by decide +kernel
theorem dX6_count_76 : decode cX6_count 76 = .ok (.aload_n 0, 1) := by decide +kernel
theorem dX6_count_77 : decode cX6_count 77 = .ok (.invokevirtual 160, 3) := by decide +kernel
theorem dX6_count_80 : decode cX6_count 80 = .ok (.ireturn, 1) := by decide +kernel
theorem dX6_count_81 : decode cX6_count 81 = .ok (.aload_n 0, 1) := by decide +kernel
theorem dX6_count_82 : decode cX6_count 82 = .ok (.invokevirtual 100, 3) := by decide +kernel
theorem dX6_count_85 : decode cX6_count 85 = .ok (.aload_n 0, 1) := by decide +kernel
theorem dX6_count_86 : decode cX6_count 86 = .ok (.invokevirtual 163, 3) := by decide +kernel
theorem dX6_count_89 : decode cX6_count 89 = .ok (.ireturn, 1) := by decide +kernel
theorem dX6_count_90 : decode cX6_count 90 = .ok (.aload_n 0, 1) := by decide +kernel
theorem dX6_count_91 : decode cX6_count 91 = .ok (.invokevirtual 107, 3) := by decide +kernel
theorem dX6_count_94 : decode cX6_count 94 = .ok (.aload_n 0, 1) := by decide +kernel
theorem dX6_count_95 : decode cX6_count 95 = .ok (.invokevirtual 166, 3) := by decide +kernel
theorem dX6_count_98 : decode cX6_count 98 = .ok (.ireturn, 1) := by decide +kernel
theorem dX6_count_99 : decode cX6_count 99 = .ok (.iconst (-1), 1) := by decide +kernel
theorem dX6_count_100 : decode cX6_count 100 = .ok (.ireturn, 1) := by decide +kernel
theorem dX6_isPoint_0 : decode cX6_isPoint 0 = .ok (.iload_n 0, 1) := by decide +kernel
theorem dX6_isPoint_1 : decode cX6_isPoint 1 = .ok (.ifCond .lt 14, 3) := by decide +kernel
theorem dX6_isPoint_4 : decode cX6_isPoint 4 = .ok (.iload_n 0, 1) := by decide +kernel
theorem dX6_isPoint_5 : decode cX6_isPoint 5 = .ok (.sipush 150, 3) := by decide +kernel
theorem dX6_isPoint_8 : decode cX6_isPoint 8 = .ok (.if_icmp .ge 7, 3) := by decide +kernel
theorem dX6_isPoint_11 : decode cX6_isPoint 11 = .ok (.iconst 1, 1) := by decide +kernel
theorem dX6_isPoint_12 : decode cX6_isPoint 12 = .ok (.goto 4, 3) := by decide +kernel
theorem dX6_isPoint_15 : decode cX6_isPoint 15 = .ok (.iconst 0, 1) := by decide +kernel
theorem dX6_isPoint_16 : decode cX6_isPoint 16 = .ok (.ireturn, 1) := by decide +kernel
theorem dX6_isSort_0 : decode cX6_isSort 0 = .ok (.iload_n 0, 1) := by decide +kernel
theorem dX6_isSort_1 : decode cX6_isSort 1 = .ok (.ifCond .ne 19, 3) := by decide +kernel
theorem dX6_isSort_4 : decode cX6_isSort 4 = .ok (.iload_n 1, 1) := by decide +kernel
theorem dX6_isSort_5 : decode cX6_isSort 5 = .ok (.iconst 1, 1) := by decide +kernel
theorem dX6_isSort_6 : decode cX6_isSort 6 = .ok (.if_icmp .lt 12, 3) := by decide +kernel
theorem dX6_isSort_9 : decode cX6_isSort 9 = .ok (.iload_n 1, 1) := by decide +kernel
theorem dX6_isSort_10 : decode cX6_isSort 10 = .ok (.iconst 4, 1) := by decide +kernel
theorem dX6_isSort_11 : decode cX6_isSort 11 = .ok (.if_icmp .gt 7, 3) := by decide +kernel
theorem dX6_isSort_14 : decode cX6_isSort 14 = .ok (.iconst 1, 1) := by decide +kernel
theorem dX6_isSort_15 : decode cX6_isSort 15 = .ok (.goto 4, 3) := by decide +kernel
theorem dX6_isSort_18 : decode cX6_isSort 18 = .ok (.iconst 0, 1) := by decide +kernel
theorem dX6_isSort_19 : decode cX6_isSort 19 = .ok (.ireturn, 1) := by decide +kernel
theorem dX6_isSort_20 : decode cX6_isSort 20 = .ok (.iload_n 0, 1) := by decide +kernel
theorem dX6_isSort_21 : decode cX6_isSort 21 = .ok (.iconst 1, 1) := by decide +kernel
theorem dX6_isSort_22 : decode cX6_isSort 22 = .ok (.if_icmp .eq 8, 3) := by decide +kernel
theorem dX6_isSort_25 : decode cX6_isSort 25 = .ok (.iload_n 0, 1) := by decide +kernel
theorem dX6_isSort_26 : decode cX6_isSort 26 = .ok (.iconst 2, 1) := by decide +kernel
theorem dX6_isSort_27 : decode cX6_isSort 27 = .ok (.if_icmp .ne 12, 3) := by decide +kernel
theorem dX6_isSort_30 : decode cX6_isSort 30 = .ok (.iload_n 1, 1) := by decide +kernel
theorem dX6_isSort_31 : decode cX6_isSort 31 = .ok (.iconst 1, 1) := by decide +kernel
theorem dX6_isSort_32 : decode cX6_isSort 32 = .ok (.if_icmp .ne 7, 3) := by decide +kernel
theorem dX6_isSort_35 : decode cX6_isSort 35 = .ok (.iconst 1, 1) := by decide +kernel
theorem dX6_isSort_36 : decode cX6_isSort 36 = .ok (.goto 4, 3) := by decide +kernel
theorem dX6_isSort_39 : decode cX6_isSort 39 = .ok (.iconst 0, 1) := by decide +kernel
theorem dX6_isSort_40 : decode cX6_isSort 40 = .ok (.ireturn, 1) := by decide +kernel
theorem dX6_answer_0 : decode cX6_answer 0 = .ok (.iload_n 0, 1) := by decide +kernel
theorem dX6_answer_1 : decode cX6_answer 1 = .ok (.ifCond .eq 7, 3) := by decide +kernel
theorem dX6_answer_4 : decode cX6_answer 4 = .ok (.iconst 1, 1) := by decide +kernel
theorem dX6_answer_5 : decode cX6_answer 5 = .ok (.goto 4, 3) := by decide +kernel
theorem dX6_answer_8 : decode cX6_answer 8 = .ok (.iconst 0, 1) := by decide +kernel
theorem dX6_answer_9 : decode cX6_answer 9 = .ok (.ireturn, 1) := by decide +kernel
theorem dX6_leafBit_0 : decode cX6_leafBit 0 = .ok (.lconst 1, 1) := by decide +kernel
theorem dX6_leafBit_1 : decode cX6_leafBit 1 = .ok (.iload_n 0, 1) := by decide +kernel
theorem dX6_leafBit_2 : decode cX6_leafBit 2 = .ok (.iconst 4, 1) := by decide +kernel
theorem dX6_leafBit_3 : decode cX6_leafBit 3 = .ok (.imul, 1) := by decide +kernel
theorem dX6_leafBit_4 : decode cX6_leafBit 4 = .ok (.iload_n 1, 1) := by decide +kernel
theorem dX6_leafBit_5 : decode cX6_leafBit 5 = .ok (.iadd, 1) := by decide +kernel
theorem dX6_leafBit_6 : decode cX6_leafBit 6 = .ok (.lshl, 1) := by decide +kernel
theorem dX6_leafBit_7 : decode cX6_leafBit 7 = .ok (.lreturn, 1) := by decide +kernel
theorem dX6_isLoan_0 : decode cX6_isLoan 0 = .ok (.iload_n 1, 1) := by decide +kernel
theorem dX6_isLoan_1 : decode cX6_isLoan 1 = .ok (.invokestatic 73, 3) := by decide +kernel
theorem dX6_isLoan_4 : decode cX6_isLoan 4 = .ok (.ifCond .eq 18, 3) := by decide +kernel
theorem dX6_isLoan_7 : decode cX6_isLoan 7 = .ok (.aload_n 0, 1) := by decide +kernel
theorem dX6_isLoan_8 : decode cX6_isLoan 8 = .ok (.getfield 21, 3) := by decide +kernel
theorem dX6_isLoan_11 : decode cX6_isLoan 11 = .ok (.iload_n 1, 1) := by decide +kernel
theorem dX6_isLoan_12 : decode cX6_isLoan 12 = .ok (.invokevirtual 169, 3) := by decide +kernel
theorem dX6_isLoan_15 : decode cX6_isLoan 15 = .ok (.ifCond .eq 7, 3) := by decide +kernel
theorem dX6_isLoan_18 : decode cX6_isLoan 18 = .ok (.iconst 1, 1) := by decide +kernel
theorem dX6_isLoan_19 : decode cX6_isLoan 19 = .ok (.goto 4, 3) := by decide +kernel
theorem dX6_isLoan_22 : decode cX6_isLoan 22 = .ok (.iconst 0, 1) := by decide +kernel
theorem dX6_isLoan_23 : decode cX6_isLoan 23 = .ok (.ireturn, 1) := by decide +kernel
theorem dX6_put_0 : decode cX6_put 0 = .ok (.aload_n 0, 1) := by decide +kernel
theorem dX6_put_1 : decode cX6_put 1 = .ok (.getfield 21, 3) := by decide +kernel
theorem dX6_put_4 : decode cX6_put 4 = .ok (.iload_n 1, 1) := by decide +kernel
theorem dX6_put_5 : decode cX6_put 5 = .ok (.iload_n 2, 1) := by decide +kernel
theorem dX6_put_6 : decode cX6_put 6 = .ok (.iload_n 3, 1) := by decide +kernel
theorem dX6_put_7 : decode cX6_put 7 = .ok (.iload 4, 2) := by decide +kernel
theorem dX6_put_9 : decode cX6_put 9 = .ok (.iload 5, 2) := by decide +kernel
theorem dX6_put_11 : decode cX6_put 11 = .ok (.invokevirtual 172, 3) := by decide +kernel
theorem dX6_put_14 : decode cX6_put 14 = .ok (.aload_n 0, 1) := by decide +kernel
theorem dX6_put_15 : decode cX6_put 15 = .ok (.invokevirtual 58, 3) := by decide +kernel
theorem dX6_put_18 : decode cX6_put 18 = .ok (.iconst 1, 1) := by decide +kernel
theorem dX6_put_19 : decode cX6_put 19 = .ok (.ireturn, 1) := by decide +kernel
theorem dX6_forget_0 : decode cX6_forget 0 = .ok (.aload_n 0, 1) := by decide +kernel
theorem dX6_forget_1 : decode cX6_forget 1 = .ok (.iconst 0, 1) := by decide +kernel
theorem dX6_forget_2 : decode cX6_forget 2 = .ok (.putfield 175, 3) := by decide +kernel
theorem dX6_forget_5 : decode cX6_forget 5 = .ok (.aload_n 0, 1) := by decide +kernel
theorem dX6_forget_6 : decode cX6_forget 6 = .ok (.iconst 0, 1) := by decide +kernel
theorem dX6_forget_7 : decode cX6_forget 7 = .ok (.putfield 179, 3) := by decide +kernel
theorem dX6_forget_10 : decode cX6_forget 10 = .ok (.aload_n 0, 1) := by decide +kernel
theorem dX6_forget_11 : decode cX6_forget 11 = .ok (.iconst 0, 1) := by decide +kernel
theorem dX6_forget_12 : decode cX6_forget 12 = .ok (.putfield 182, 3) := by decide +kernel
theorem dX6_forget_15 : decode cX6_forget 15 = .ok (.return_, 1) := by decide +kernel
theorem dX6_knowWays_0 : decode cX6_knowWays 0 = .ok (.aload_n 0, 1) := by decide +kernel
theorem dX6_knowWays_1 : decode cX6_knowWays 1 = .ok (.getfield 175, 3) := by decide +kernel
theorem dX6_knowWays_4 : decode cX6_knowWays 4 = .ok (.ifCond .ne 15, 3) := by decide +kernel
theorem dX6_knowWays_7 : decode cX6_knowWays 7 = .ok (.aload_n 0, 1) := by decide +kernel
theorem dX6_knowWays_8 : decode cX6_knowWays 8 = .ok (.getfield 28, 3) := by decide +kernel
theorem dX6_knowWays_11 : decode cX6_knowWays 11 = .ok (.invokevirtual 185, 3) := by decide +kernel
theorem dX6_knowWays_14 : decode cX6_knowWays 14 = .ok (.aload_n 0, 1) := by decide +kernel
theorem dX6_knowWays_15 : decode cX6_knowWays 15 = .ok (.iconst 1, 1) := by decide +kernel
theorem dX6_knowWays_16 : decode cX6_knowWays 16 = .ok (.putfield 175, 3) := by decide +kernel
theorem dX6_knowWays_19 : decode cX6_knowWays 19 = .ok (.return_, 1) := by decide +kernel
theorem dX6_knowLeaves_0 : decode cX6_knowLeaves 0 = .ok (.aload_n 0, 1) := by decide +kernel
theorem dX6_knowLeaves_1 : decode cX6_knowLeaves 1 = .ok (.invokevirtual 119, 3) := by decide +kernel
theorem dX6_knowLeaves_4 : decode cX6_knowLeaves 4 = .ok (.aload_n 0, 1) := by decide +kernel
theorem dX6_knowLeaves_5 : decode cX6_knowLeaves 5 = .ok (.getfield 179, 3) := by decide +kernel
theorem dX6_knowLeaves_8 : decode cX6_knowLeaves 8 = .ok (.ifCond .ne 22, 3) := by decide +kernel
theorem dX6_knowLeaves_11 : decode cX6_knowLeaves 11 = .ok (.aload_n 0, 1) := by decide +kernel
theorem dX6_knowLeaves_12 : decode cX6_knowLeaves 12 = .ok (.getfield 37, 3) := by decide +kernel
theorem dX6_knowLeaves_15 : decode cX6_knowLeaves 15 = .ok (.aload_n 0, 1) := by decide +kernel
theorem dX6_knowLeaves_16 : decode cX6_knowLeaves 16 = .ok (.getfield 12, 3) := by decide +kernel
theorem dX6_knowLeaves_19 : decode cX6_knowLeaves 19 = .ok (.invokevirtual 188, 3) := by decide +kernel
theorem dX6_knowLeaves_22 : decode cX6_knowLeaves 22 = .ok (.invokevirtual 192, 3) := by decide +kernel
theorem dX6_knowLeaves_25 : decode cX6_knowLeaves 25 = .ok (.aload_n 0, 1) := by decide +kernel
theorem dX6_knowLeaves_26 : decode cX6_knowLeaves 26 = .ok (.iconst 1, 1) := by decide +kernel
theorem dX6_knowLeaves_27 : decode cX6_knowLeaves 27 = .ok (.putfield 179, 3) := by decide +kernel
theorem dX6_knowLeaves_30 : decode cX6_knowLeaves 30 = .ok (.return_, 1) := by decide +kernel
theorem dX6_knowLoans_0 : decode cX6_knowLoans 0 = .ok (.aload_n 0, 1) := by decide +kernel
theorem dX6_knowLoans_1 : decode cX6_knowLoans 1 = .ok (.invokevirtual 119, 3) := by decide +kernel
theorem dX6_knowLoans_4 : decode cX6_knowLoans 4 = .ok (.aload_n 0, 1) := by decide +kernel
theorem dX6_knowLoans_5 : decode cX6_knowLoans 5 = .ok (.getfield 182, 3) := by decide +kernel
theorem dX6_knowLoans_8 : decode cX6_knowLoans 8 = .ok (.ifCond .ne 29, 3) := by decide +kernel
theorem dX6_knowLoans_11 : decode cX6_knowLoans 11 = .ok (.aload_n 0, 1) := by decide +kernel
theorem dX6_knowLoans_12 : decode cX6_knowLoans 12 = .ok (.getfield 46, 3) := by decide +kernel
theorem dX6_knowLoans_15 : decode cX6_knowLoans 15 = .ok (.invokevirtual 196, 3) := by decide +kernel
theorem dX6_knowLoans_18 : decode cX6_knowLoans 18 = .ok (.aload_n 0, 1) := by decide +kernel
theorem dX6_knowLoans_19 : decode cX6_knowLoans 19 = .ok (.getfield 46, 3) := by decide +kernel
theorem dX6_knowLoans_22 : decode cX6_knowLoans 22 = .ok (.invokevirtual 199, 3) := by decide +kernel
theorem dX6_knowLoans_25 : decode cX6_knowLoans 25 = .ok (.aload_n 0, 1) := by decide +kernel
theorem dX6_knowLoans_26 : decode cX6_knowLoans 26 = .ok (.getfield 46, 3) := by decide +kernel
theorem dX6_knowLoans_29 : decode cX6_knowLoans 29 = .ok (.invokevirtual 202, 3) := by decide +kernel
theorem dX6_knowLoans_32 : decode cX6_knowLoans 32 = .ok (.aload_n 0, 1) := by decide +kernel
theorem dX6_knowLoans_33 : decode cX6_knowLoans 33 = .ok (.iconst 1, 1) := by decide +kernel
theorem dX6_knowLoans_34 : decode cX6_knowLoans 34 = .ok (.putfield 182, 3) := by decide +kernel
theorem dX6_knowLoans_37 : decode cX6_knowLoans 37 = .ok (.return_, 1) := by decide +kernel
theorem dX6_leastUnheld_0 : decode cX6_leastUnheld 0 = .ok (.iconst 0, 1) := by decide +kernel
theorem dX6_leastUnheld_1 : decode cX6_leastUnheld 1 = .ok (.istore_n 1, 1) := by decide +kernel
theorem dX6_leastUnheld_2 : decode cX6_leastUnheld 2 = .ok (.iload_n 1, 1) := by decide +kernel
theorem dX6_leastUnheld_3 : decode cX6_leastUnheld 3 = .ok (.sipush 150, 3) := by decide +kernel
theorem dX6_leastUnheld_6 : decode cX6_leastUnheld 6 = .ok (.if_icmp .ge 24, 3) := by decide +kernel
theorem dX6_leastUnheld_9 : decode cX6_leastUnheld 9 = .ok (.aload_n 0, 1) := by decide +kernel
theorem dX6_leastUnheld_10 : decode cX6_leastUnheld 10 = .ok (.getfield 37, 3) := by decide +kernel
theorem dX6_leastUnheld_13 : decode cX6_leastUnheld 13 = .ok (.iload_n 1, 1) := by decide +kernel
theorem dX6_leastUnheld_14 : decode cX6_leastUnheld 14 = .ok (.invokevirtual 205, 3) := by decide +kernel
theorem dX6_leastUnheld_17 : decode cX6_leastUnheld 17 = .ok (.lconst 0, 1) := by decide +kernel
theorem dX6_leastUnheld_18 : decode cX6_leastUnheld 18 = .ok (.lcmp, 1) := by decide +kernel
theorem dX6_leastUnheld_19 : decode cX6_leastUnheld 19 = .ok (.ifCond .eq 5, 3) := by decide +kernel
theorem dX6_leastUnheld_22 : decode cX6_leastUnheld 22 = .ok (.iload_n 1, 1) := by decide +kernel
theorem dX6_leastUnheld_23 : decode cX6_leastUnheld 23 = .ok (.ireturn, 1) := by decide +kernel
theorem dX6_leastUnheld_24 : decode cX6_leastUnheld 24 = .ok (.iinc 1 1, 3) := by decide +kernel
theorem dX6_leastUnheld_27 : decode cX6_leastUnheld 27 = .ok (.goto (-25), 3) := by decide +kernel
theorem dX6_leastUnheld_30 : decode cX6_leastUnheld 30 = .ok (.iconst (-1), 1) := by decide +kernel
theorem dX6_leastUnheld_31 : decode cX6_leastUnheld 31 = .ok (.ireturn, 1) := by decide +kernel
theorem dX6_leastClashing_0 : decode cX6_leastClashing 0 = .ok (.iconst 0, 1) := by decide +kernel
theorem dX6_leastClashing_1 : decode cX6_leastClashing 1 = .ok (.istore_n 1, 1) := by decide +kernel
theorem dX6_leastClashing_2 : decode cX6_leastClashing 2 = .ok (.iload_n 1, 1) := by decide +kernel
theorem dX6_leastClashing_3 : decode cX6_leastClashing 3 = .ok (.sipush 150, 3) := by decide +kernel
theorem dX6_leastClashing_6 : decode cX6_leastClashing 6 = .ok (.if_icmp .ge 23, 3) := by decide +kernel
theorem dX6_leastClashing_9 : decode cX6_leastClashing 9 = .ok (.aload_n 0, 1) := by decide +kernel
theorem dX6_leastClashing_10 : decode cX6_leastClashing 10 = .ok (.getfield 46, 3) := by decide +kernel
theorem dX6_leastClashing_13 : decode cX6_leastClashing 13 = .ok (.iload_n 1, 1) := by decide +kernel
theorem dX6_leastClashing_14 : decode cX6_leastClashing 14 = .ok (.invokevirtual 116, 3) := by decide +kernel
theorem dX6_leastClashing_17 : decode cX6_leastClashing 17 = .ok (.iconst (-1), 1) := by decide +kernel
theorem dX6_leastClashing_18 : decode cX6_leastClashing 18 = .ok (.if_icmp .eq 5, 3) := by decide +kernel
theorem dX6_leastClashing_21 : decode cX6_leastClashing 21 = .ok (.iload_n 1, 1) := by decide +kernel
theorem dX6_leastClashing_22 : decode cX6_leastClashing 22 = .ok (.ireturn, 1) := by decide +kernel
theorem dX6_leastClashing_23 : decode cX6_leastClashing 23 = .ok (.iinc 1 1, 3) := by decide +kernel
theorem dX6_leastClashing_26 : decode cX6_leastClashing 26 = .ok (.goto (-24), 3) := by decide +kernel
theorem dX6_leastClashing_29 : decode cX6_leastClashing 29 = .ok (.iconst (-1), 1) := by decide +kernel
theorem dX6_leastClashing_30 : decode cX6_leastClashing 30 = .ok (.ireturn, 1) := by decide +kernel
theorem dX6_countInForce_0 : decode cX6_countInForce 0 = .ok (.iconst 0, 1) := by decide +kernel
theorem dX6_countInForce_1 : decode cX6_countInForce 1 = .ok (.istore_n 1, 1) := by decide +kernel
theorem dX6_countInForce_2 : decode cX6_countInForce 2 = .ok (.iconst 0, 1) := by decide +kernel
theorem dX6_countInForce_3 : decode cX6_countInForce 3 = .ok (.istore_n 2, 1) := by decide +kernel
theorem dX6_countInForce_4 : decode cX6_countInForce 4 = .ok (.iload_n 2, 1) := by decide +kernel
theorem dX6_countInForce_5 : decode cX6_countInForce 5 = .ok (.sipush 150, 3) := by decide +kernel
theorem dX6_countInForce_8 : decode cX6_countInForce 8 = .ok (.if_icmp .ge 23, 3) := by decide +kernel
theorem dX6_countInForce_11 : decode cX6_countInForce 11 = .ok (.iload_n 1, 1) := by decide +kernel
theorem dX6_countInForce_12 : decode cX6_countInForce 12 = .ok (.aload_n 0, 1) := by decide +kernel
theorem dX6_countInForce_13 : decode cX6_countInForce 13 = .ok (.getfield 46, 3) := by decide +kernel
theorem dX6_countInForce_16 : decode cX6_countInForce 16 = .ok (.iload_n 2, 1) := by decide +kernel
theorem dX6_countInForce_17 : decode cX6_countInForce 17 = .ok (.invokevirtual 209, 3) := by decide +kernel
theorem dX6_countInForce_20 : decode cX6_countInForce 20 = .ok (.invokestatic 212, 3) := by decide +kernel
theorem dX6_countInForce_23 : decode cX6_countInForce 23 = .ok (.iadd, 1) := by decide +kernel
theorem dX6_countInForce_24 : decode cX6_countInForce 24 = .ok (.istore_n 1, 1) := by decide +kernel
theorem dX6_countInForce_25 : decode cX6_countInForce 25 = .ok (.iinc 2 1, 3) := by decide +kernel
theorem dX6_countInForce_28 : decode cX6_countInForce 28 = .ok (.goto (-24), 3) := by decide +kernel
theorem dX6_countInForce_31 : decode cX6_countInForce 31 = .ok (.iload_n 1, 1) := by decide +kernel
theorem dX6_countInForce_32 : decode cX6_countInForce 32 = .ok (.ireturn, 1) := by decide +kernel
theorem dX6_countUnheld_0 : decode cX6_countUnheld 0 = .ok (.iconst 0, 1) := by decide +kernel
theorem dX6_countUnheld_1 : decode cX6_countUnheld 1 = .ok (.istore_n 1, 1) := by decide +kernel
theorem dX6_countUnheld_2 : decode cX6_countUnheld 2 = .ok (.iconst 0, 1) := by decide +kernel
theorem dX6_countUnheld_3 : decode cX6_countUnheld 3 = .ok (.istore_n 2, 1) := by decide +kernel
theorem dX6_countUnheld_4 : decode cX6_countUnheld 4 = .ok (.iload_n 2, 1) := by decide +kernel
theorem dX6_countUnheld_5 : decode cX6_countUnheld 5 = .ok (.sipush 150, 3) := by decide +kernel
theorem dX6_countUnheld_8 : decode cX6_countUnheld 8 = .ok (.if_icmp .ge 33, 3) := by decide +kernel
theorem dX6_countUnheld_11 : decode cX6_countUnheld 11 = .ok (.iload_n 1, 1) := by decide +kernel
theorem dX6_countUnheld_12 : decode cX6_countUnheld 12 = .ok (.aload_n 0, 1) := by decide +kernel
theorem dX6_countUnheld_13 : decode cX6_countUnheld 13 = .ok (.getfield 37, 3) := by decide +kernel
theorem dX6_countUnheld_16 : decode cX6_countUnheld 16 = .ok (.iload_n 2, 1) := by decide +kernel
theorem dX6_countUnheld_17 : decode cX6_countUnheld 17 = .ok (.invokevirtual 205, 3) := by decide +kernel
theorem dX6_countUnheld_20 : decode cX6_countUnheld 20 = .ok (.lconst 0, 1) := by decide +kernel
theorem dX6_countUnheld_21 : decode cX6_countUnheld 21 = .ok (.lcmp, 1) := by decide +kernel
theorem dX6_countUnheld_22 : decode cX6_countUnheld 22 = .ok (.ifCond .eq 7, 3) := by decide +kernel
theorem dX6_countUnheld_25 : decode cX6_countUnheld 25 = .ok (.iconst 1, 1) := by decide +kernel
theorem dX6_countUnheld_26 : decode cX6_countUnheld 26 = .ok (.goto 4, 3) := by decide +kernel
theorem dX6_countUnheld_29 : decode cX6_countUnheld 29 = .ok (.iconst 0, 1) := by decide +kernel
theorem dX6_countUnheld_30 : decode cX6_countUnheld 30 = .ok (.invokestatic 125, 3) := by decide +kernel
theorem dX6_countUnheld_33 : decode cX6_countUnheld 33 = .ok (.iadd, 1) := by decide +kernel
theorem dX6_countUnheld_34 : decode cX6_countUnheld 34 = .ok (.istore_n 1, 1) := by decide +kernel
theorem dX6_countUnheld_35 : decode cX6_countUnheld 35 = .ok (.iinc 2 1, 3) := by decide +kernel
theorem dX6_countUnheld_38 : decode cX6_countUnheld 38 = .ok (.goto (-34), 3) := by decide +kernel
theorem dX6_countUnheld_41 : decode cX6_countUnheld 41 = .ok (.iload_n 1, 1) := by decide +kernel
theorem dX6_countUnheld_42 : decode cX6_countUnheld 42 = .ok (.ireturn, 1) := by decide +kernel
theorem dX6_countClashing_0 : decode cX6_countClashing 0 = .ok (.iconst 0, 1) := by decide +kernel
theorem dX6_countClashing_1 : decode cX6_countClashing 1 = .ok (.istore_n 1, 1) := by decide +kernel
theorem dX6_countClashing_2 : decode cX6_countClashing 2 = .ok (.iconst 0, 1) := by decide +kernel
theorem dX6_countClashing_3 : decode cX6_countClashing 3 = .ok (.istore_n 2, 1) := by decide +kernel
theorem dX6_countClashing_4 : decode cX6_countClashing 4 = .ok (.iload_n 2, 1) := by decide +kernel
theorem dX6_countClashing_5 : decode cX6_countClashing 5 = .ok (.sipush 150, 3) := by decide +kernel
theorem dX6_countClashing_8 : decode cX6_countClashing 8 = .ok (.if_icmp .ge 32, 3) := by decide +kernel
theorem dX6_countClashing_11 : decode cX6_countClashing 11 = .ok (.iload_n 1, 1) := by decide +kernel
theorem dX6_countClashing_12 : decode cX6_countClashing 12 = .ok (.aload_n 0, 1) := by decide +kernel
theorem dX6_countClashing_13 : decode cX6_countClashing 13 = .ok (.getfield 46, 3) := by decide +kernel
theorem dX6_countClashing_16 : decode cX6_countClashing 16 = .ok (.iload_n 2, 1) := by decide +kernel
theorem dX6_countClashing_17 : decode cX6_countClashing 17 = .ok (.invokevirtual 116, 3) := by decide +kernel
theorem dX6_countClashing_20 : decode cX6_countClashing 20 = .ok (.iconst (-1), 1) := by decide +kernel
theorem dX6_countClashing_21 : decode cX6_countClashing 21 = .ok (.if_icmp .eq 7, 3) := by decide +kernel
theorem dX6_countClashing_24 : decode cX6_countClashing 24 = .ok (.iconst 1, 1) := by decide +kernel
theorem dX6_countClashing_25 : decode cX6_countClashing 25 = .ok (.goto 4, 3) := by decide +kernel
theorem dX6_countClashing_28 : decode cX6_countClashing 28 = .ok (.iconst 0, 1) := by decide +kernel
theorem dX6_countClashing_29 : decode cX6_countClashing 29 = .ok (.invokestatic 125, 3) := by decide +kernel
theorem dX6_countClashing_32 : decode cX6_countClashing 32 = .ok (.iadd, 1) := by decide +kernel
theorem dX6_countClashing_33 : decode cX6_countClashing 33 = .ok (.istore_n 1, 1) := by decide +kernel
theorem dX6_countClashing_34 : decode cX6_countClashing 34 = .ok (.iinc 2 1, 3) := by decide +kernel
theorem dX6_countClashing_37 : decode cX6_countClashing 37 = .ok (.goto (-33), 3) := by decide +kernel
theorem dX6_countClashing_40 : decode cX6_countClashing 40 = .ok (.iload_n 1, 1) := by decide +kernel
theorem dX6_countClashing_41 : decode cX6_countClashing 41 = .ok (.ireturn, 1) := by decide +kernel
theorem dJ13_bitCount_95d88_0 : decode cJ13_bitCount_95d88 0 = .ok (.lload_n 0, 1) := by decide +kernel
theorem dJ13_bitCount_95d88_1 : decode cJ13_bitCount_95d88 1 = .ok (.lload_n 0, 1) := by decide +kernel
theorem dJ13_bitCount_95d88_2 : decode cJ13_bitCount_95d88 2 = .ok (.iconst 1, 1) := by decide +kernel
theorem dJ13_bitCount_95d88_3 : decode cJ13_bitCount_95d88 3 = .ok (.lushr, 1) := by decide +kernel
theorem dJ13_bitCount_95d88_4 : decode cJ13_bitCount_95d88 4 = .ok (.ldc2_w 314, 3) := by decide +kernel
theorem dJ13_bitCount_95d88_7 : decode cJ13_bitCount_95d88 7 = .ok (.land, 1) := by decide +kernel
theorem dJ13_bitCount_95d88_8 : decode cJ13_bitCount_95d88 8 = .ok (.lsub, 1) := by decide +kernel
theorem dJ13_bitCount_95d88_9 : decode cJ13_bitCount_95d88 9 = .ok (.lstore_n 0, 1) := by decide +kernel
theorem dJ13_bitCount_95d88_10 : decode cJ13_bitCount_95d88 10 = .ok (.lload_n 0, 1) := by decide +kernel
theorem dJ13_bitCount_95d88_11 : decode cJ13_bitCount_95d88 11 = .ok (.ldc2_w 316, 3) := by decide +kernel
theorem dJ13_bitCount_95d88_14 : decode cJ13_bitCount_95d88 14 = .ok (.land, 1) := by decide +kernel
theorem dJ13_bitCount_95d88_15 : decode cJ13_bitCount_95d88 15 = .ok (.lload_n 0, 1) := by decide +kernel
theorem dJ13_bitCount_95d88_16 : decode cJ13_bitCount_95d88 16 = .ok (.iconst 2, 1) := by decide +kernel
theorem dJ13_bitCount_95d88_17 : decode cJ13_bitCount_95d88 17 = .ok (.lushr, 1) := by decide +kernel
theorem dJ13_bitCount_95d88_18 : decode cJ13_bitCount_95d88 18 = .ok (.ldc2_w 316, 3) := by decide +kernel
theorem dJ13_bitCount_95d88_21 : decode cJ13_bitCount_95d88 21 = .ok (.land, 1) := by decide +kernel
theorem dJ13_bitCount_95d88_22 : decode cJ13_bitCount_95d88 22 = .ok (.ladd, 1) := by decide +kernel
theorem dJ13_bitCount_95d88_23 : decode cJ13_bitCount_95d88 23 = .ok (.lstore_n 0, 1) := by decide +kernel
theorem dJ13_bitCount_95d88_24 : decode cJ13_bitCount_95d88 24 = .ok (.lload_n 0, 1) := by decide +kernel
theorem dJ13_bitCount_95d88_25 : decode cJ13_bitCount_95d88 25 = .ok (.lload_n 0, 1) := by decide +kernel
theorem dJ13_bitCount_95d88_26 : decode cJ13_bitCount_95d88 26 = .ok (.iconst 4, 1) := by decide +kernel
theorem dJ13_bitCount_95d88_27 : decode cJ13_bitCount_95d88 27 = .ok (.lushr, 1) := by decide +kernel
theorem dJ13_bitCount_95d88_28 : decode cJ13_bitCount_95d88 28 = .ok (.ladd, 1) := by decide +kernel
theorem dJ13_bitCount_95d88_29 : decode cJ13_bitCount_95d88 29 = .ok (.ldc2_w 318, 3) := by decide +kernel
theorem dJ13_bitCount_95d88_32 : decode cJ13_bitCount_95d88 32 = .ok (.land, 1) := by decide +kernel
theorem dJ13_bitCount_95d88_33 : decode cJ13_bitCount_95d88 33 = .ok (.lstore_n 0, 1) := by decide +kernel
theorem dJ13_bitCount_95d88_34 : decode cJ13_bitCount_95d88 34 = .ok (.lload_n 0, 1) := by decide +kernel
theorem dJ13_bitCount_95d88_35 : decode cJ13_bitCount_95d88 35 = .ok (.lload_n 0, 1) := by decide +kernel
theorem dJ13_bitCount_95d88_36 : decode cJ13_bitCount_95d88 36 = .ok (.bipush 8, 2) := by decide +kernel
theorem dJ13_bitCount_95d88_38 : decode cJ13_bitCount_95d88 38 = .ok (.lushr, 1) := by decide +kernel
theorem dJ13_bitCount_95d88_39 : decode cJ13_bitCount_95d88 39 = .ok (.ladd, 1) := by decide +kernel
theorem dJ13_bitCount_95d88_40 : decode cJ13_bitCount_95d88 40 = .ok (.lstore_n 0, 1) := by decide +kernel
theorem dJ13_bitCount_95d88_41 : decode cJ13_bitCount_95d88 41 = .ok (.lload_n 0, 1) := by decide +kernel
theorem dJ13_bitCount_95d88_42 : decode cJ13_bitCount_95d88 42 = .ok (.lload_n 0, 1) := by decide +kernel
theorem dJ13_bitCount_95d88_43 : decode cJ13_bitCount_95d88 43 = .ok (.bipush 16, 2) := by decide +kernel
theorem dJ13_bitCount_95d88_45 : decode cJ13_bitCount_95d88 45 = .ok (.lushr, 1) := by decide +kernel
theorem dJ13_bitCount_95d88_46 : decode cJ13_bitCount_95d88 46 = .ok (.ladd, 1) := by decide +kernel
theorem dJ13_bitCount_95d88_47 : decode cJ13_bitCount_95d88 47 = .ok (.lstore_n 0, 1) := by decide +kernel
theorem dJ13_bitCount_95d88_48 : decode cJ13_bitCount_95d88 48 = .ok (.lload_n 0, 1) := by decide +kernel
theorem dJ13_bitCount_95d88_49 : decode cJ13_bitCount_95d88 49 = .ok (.lload_n 0, 1) := by decide +kernel
theorem dJ13_bitCount_95d88_50 : decode cJ13_bitCount_95d88 50 = .ok (.bipush 32, 2) := by decide +kernel
theorem dJ13_bitCount_95d88_52 : decode cJ13_bitCount_95d88 52 = .ok (.lushr, 1) := by decide +kernel
theorem dJ13_bitCount_95d88_53 : decode cJ13_bitCount_95d88 53 = .ok (.ladd, 1) := by decide +kernel
theorem dJ13_bitCount_95d88_54 : decode cJ13_bitCount_95d88 54 = .ok (.lstore_n 0, 1) := by decide +kernel
theorem dJ13_bitCount_95d88_55 : decode cJ13_bitCount_95d88 55 = .ok (.lload_n 0, 1) := by decide +kernel
theorem dJ13_bitCount_95d88_56 : decode cJ13_bitCount_95d88 56 = .ok (.l2i, 1) := by decide +kernel
theorem dJ13_bitCount_95d88_57 : decode cJ13_bitCount_95d88 57 = .ok (.bipush 127, 2) := by decide +kernel
theorem dJ13_bitCount_95d88_59 : decode cJ13_bitCount_95d88 59 = .ok (.iand, 1) := by decide +kernel
theorem dJ13_bitCount_95d88_60 : decode cJ13_bitCount_95d88 60 = .ok (.ireturn, 1) := by decide +kernel
theorem dJ7_fill_d0a16_0 : decode cJ7_fill_d0a16 0 = .ok (.iconst 0, 1) := by decide +kernel
theorem dJ7_fill_d0a16_1 : decode cJ7_fill_d0a16 1 = .ok (.istore_n 3, 1) := by decide +kernel
theorem dJ7_fill_d0a16_2 : decode cJ7_fill_d0a16 2 = .ok (.aload_n 0, 1) := by decide +kernel
theorem dJ7_fill_d0a16_3 : decode cJ7_fill_d0a16 3 = .ok (.arraylength, 1) := by decide +kernel
theorem dJ7_fill_d0a16_4 : decode cJ7_fill_d0a16 4 = .ok (.istore 4, 2) := by decide +kernel
theorem dJ7_fill_d0a16_6 : decode cJ7_fill_d0a16 6 = .ok (.iload_n 3, 1) := by decide +kernel
theorem dJ7_fill_d0a16_7 : decode cJ7_fill_d0a16 7 = .ok (.iload 4, 2) := by decide +kernel
theorem dJ7_fill_d0a16_9 : decode cJ7_fill_d0a16 9 = .ok (.if_icmp .ge 13, 3) := by decide +kernel
theorem dJ7_fill_d0a16_12 : decode cJ7_fill_d0a16 12 = .ok (.aload_n 0, 1) := by decide +kernel
theorem dJ7_fill_d0a16_13 : decode cJ7_fill_d0a16 13 = .ok (.iload_n 3, 1) := by decide +kernel
theorem dJ7_fill_d0a16_14 : decode cJ7_fill_d0a16 14 = .ok (.lload_n 1, 1) := by decide +kernel
theorem dJ7_fill_d0a16_15 : decode cJ7_fill_d0a16 15 = .ok (.lastore, 1) := by decide +kernel
theorem dJ7_fill_d0a16_16 : decode cJ7_fill_d0a16 16 = .ok (.iinc 3 1, 3) := by decide +kernel
theorem dJ7_fill_d0a16_19 : decode cJ7_fill_d0a16 19 = .ok (.goto (-13), 3) := by decide +kernel
theorem dJ7_fill_d0a16_22 : decode cJ7_fill_d0a16 22 = .ok (.return_, 1) := by decide +kernel
theorem dJ7_fill_53178_0 : decode cJ7_fill_53178 0 = .ok (.iconst 0, 1) := by decide +kernel
theorem dJ7_fill_53178_1 : decode cJ7_fill_53178 1 = .ok (.istore_n 2, 1) := by decide +kernel
theorem dJ7_fill_53178_2 : decode cJ7_fill_53178 2 = .ok (.aload_n 0, 1) := by decide +kernel
theorem dJ7_fill_53178_3 : decode cJ7_fill_53178 3 = .ok (.arraylength, 1) := by decide +kernel
theorem dJ7_fill_53178_4 : decode cJ7_fill_53178 4 = .ok (.istore_n 3, 1) := by decide +kernel
theorem dJ7_fill_53178_5 : decode cJ7_fill_53178 5 = .ok (.iload_n 2, 1) := by decide +kernel
theorem dJ7_fill_53178_6 : decode cJ7_fill_53178 6 = .ok (.iload_n 3, 1) := by decide +kernel
theorem dJ7_fill_53178_7 : decode cJ7_fill_53178 7 = .ok (.if_icmp .ge 13, 3) := by decide +kernel
theorem dJ7_fill_53178_10 : decode cJ7_fill_53178 10 = .ok (.aload_n 0, 1) := by decide +kernel
theorem dJ7_fill_53178_11 : decode cJ7_fill_53178 11 = .ok (.iload_n 2, 1) := by decide +kernel
theorem dJ7_fill_53178_12 : decode cJ7_fill_53178 12 = .ok (.iload_n 1, 1) := by decide +kernel
theorem dJ7_fill_53178_13 : decode cJ7_fill_53178 13 = .ok (.iastore, 1) := by decide +kernel
theorem dJ7_fill_53178_14 : decode cJ7_fill_53178 14 = .ok (.iinc 2 1, 3) := by decide +kernel
theorem dJ7_fill_53178_17 : decode cJ7_fill_53178 17 = .ok (.goto (-12), 3) := by decide +kernel
theorem dJ7_fill_53178_20 : decode cJ7_fill_53178 20 = .ok (.return_, 1) := by decide +kernel
theorem dL_law_0 : decode cL_law 0 = .ok (.new 7, 3) := by decide +kernel
theorem dL_law_3 : decode cL_law 3 = .ok (.dup, 1) := by decide +kernel
theorem dL_law_4 : decode cL_law 4 = .ok (.invokespecial 9, 3) := by decide +kernel
theorem dL_law_7 : decode cL_law 7 = .ok (.astore_n 1, 1) := by decide +kernel
theorem dL_law_8 : decode cL_law 8 = .ok (.new 10, 3) := by decide +kernel
theorem dL_law_11 : decode cL_law 11 = .ok (.dup, 1) := by decide +kernel
theorem dL_law_12 : decode cL_law 12 = .ok (.invokespecial 12, 3) := by decide +kernel
theorem dL_law_15 : decode cL_law 15 = .ok (.astore_n 2, 1) := by decide +kernel
theorem dL_law_16 : decode cL_law 16 = .ok (.iconst 0, 1) := by decide +kernel
theorem dL_law_17 : decode cL_law 17 = .ok (.istore_n 3, 1) := by decide +kernel
theorem dL_law_18 : decode cL_law 18 = .ok (.iload_n 3, 1) := by decide +kernel
theorem dL_law_19 : decode cL_law 19 = .ok (.aload_n 0, 1) := by decide +kernel
theorem dL_law_20 : decode cL_law 20 = .ok (.arraylength, 1) := by decide +kernel
theorem dL_law_21 : decode cL_law 21 = .ok (.iconst 5, 1) := by decide +kernel
theorem dL_law_22 : decode cL_law 22 = .ok (.isub, 1) := by decide +kernel
theorem dL_law_23 : decode cL_law 23 = .ok (.if_icmp .gt 611, 3) := by decide +kernel
theorem dL_law_26 : decode cL_law 26 = .ok (.aload_n 0, 1) := by decide +kernel
theorem dL_law_27 : decode cL_law 27 = .ok (.iload_n 3, 1) := by decide +kernel
theorem dL_law_28 : decode cL_law 28 = .ok (.iaload, 1) := by decide +kernel
theorem dL_law_29 : decode cL_law 29 = .ok (.bipush 15, 2) := by decide +kernel
theorem dL_law_31 : decode cL_law 31 = .ok (.iand, 1) := by decide +kernel
theorem dL_law_32 : decode cL_law 32 = .ok (.tableswitch 596 0 13 #[72, 105, 154, 207, 260, 303, 362, 375, 398, 421, 464, 507, 540, 573], 72) := by decide +kernel
theorem dL_law_104 : decode cL_law 104 = .ok (.aload_n 1, 1) := by decide +kernel
theorem dL_law_105 : decode cL_law 105 = .ok (.aload_n 0, 1) := by decide +kernel
theorem dL_law_106 : decode cL_law 106 = .ok (.iload_n 3, 1) := by decide +kernel
theorem dL_law_107 : decode cL_law 107 = .ok (.iconst 1, 1) := by decide +kernel
theorem dL_law_108 : decode cL_law 108 = .ok (.iadd, 1) := by decide +kernel
theorem dL_law_109 : decode cL_law 109 = .ok (.iaload, 1) := by decide +kernel
theorem dL_law_110 : decode cL_law 110 = .ok (.aload_n 0, 1) := by decide +kernel
theorem dL_law_111 : decode cL_law 111 = .ok (.iload_n 3, 1) := by decide +kernel
theorem dL_law_112 : decode cL_law 112 = .ok (.iconst 2, 1) := by decide +kernel
theorem dL_law_113 : decode cL_law 113 = .ok (.iadd, 1) := by decide +kernel
theorem dL_law_114 : decode cL_law 114 = .ok (.iaload, 1) := by decide +kernel
theorem dL_law_115 : decode cL_law 115 = .ok (.invokevirtual 13, 3) := by decide +kernel
theorem dL_law_118 : decode cL_law 118 = .ok (.aload_n 2, 1) := by decide +kernel
theorem dL_law_119 : decode cL_law 119 = .ok (.aload_n 0, 1) := by decide +kernel
theorem dL_law_120 : decode cL_law 120 = .ok (.iload_n 3, 1) := by decide +kernel
theorem dL_law_121 : decode cL_law 121 = .ok (.iconst 1, 1) := by decide +kernel
theorem dL_law_122 : decode cL_law 122 = .ok (.iadd, 1) := by decide +kernel
theorem dL_law_123 : decode cL_law 123 = .ok (.iaload, 1) := by decide +kernel
theorem dL_law_124 : decode cL_law 124 = .ok (.aload_n 0, 1) := by decide +kernel
theorem dL_law_125 : decode cL_law 125 = .ok (.iload_n 3, 1) := by decide +kernel
theorem dL_law_126 : decode cL_law 126 = .ok (.iconst 2, 1) := by decide +kernel
theorem dL_law_127 : decode cL_law 127 = .ok (.iadd, 1) := by decide +kernel
theorem dL_law_128 : decode cL_law 128 = .ok (.iaload, 1) := by decide +kernel
theorem dL_law_129 : decode cL_law 129 = .ok (.invokevirtual 17, 3) := by decide +kernel
theorem dL_law_132 : decode cL_law 132 = .ok (.if_icmp .eq 496, 3) := by decide +kernel
theorem dL_law_135 : decode cL_law 135 = .ok (.iconst 0, 1) := by decide +kernel
theorem dL_law_136 : decode cL_law 136 = .ok (.ireturn, 1) := by decide +kernel
theorem dL_law_137 : decode cL_law 137 = .ok (.aload_n 1, 1) := by decide +kernel
theorem dL_law_138 : decode cL_law 138 = .ok (.aload_n 0, 1) := by decide +kernel
theorem dL_law_139 : decode cL_law 139 = .ok (.iload_n 3, 1) := by decide +kernel
theorem dL_law_140 : decode cL_law 140 = .ok (.iconst 1, 1) := by decide +kernel
theorem dL_law_141 : decode cL_law 141 = .ok (.iadd, 1) := by decide +kernel
theorem dL_law_142 : decode cL_law 142 = .ok (.iaload, 1) := by decide +kernel
theorem dL_law_143 : decode cL_law 143 = .ok (.aload_n 0, 1) := by decide +kernel
theorem dL_law_144 : decode cL_law 144 = .ok (.iload_n 3, 1) := by decide +kernel
theorem dL_law_145 : decode cL_law 145 = .ok (.iconst 2, 1) := by decide +kernel
theorem dL_law_146 : decode cL_law 146 = .ok (.iadd, 1) := by decide +kernel
theorem dL_law_147 : decode cL_law 147 = .ok (.iaload, 1) := by decide +kernel
theorem dL_law_148 : decode cL_law 148 = .ok (.ifCond .eq 7, 3) := by decide +kernel
theorem dL_law_151 : decode cL_law 151 = .ok (.iconst 1, 1) := by decide +kernel
theorem dL_law_152 : decode cL_law 152 = .ok (.goto 4, 3) := by decide +kernel
theorem dL_law_155 : decode cL_law 155 = .ok (.iconst 0, 1) := by decide +kernel
theorem dL_law_156 : decode cL_law 156 = .ok (.invokevirtual 18, 3) := by decide +kernel
theorem dL_law_159 : decode cL_law 159 = .ok (.aload_n 2, 1) := by decide +kernel
theorem dL_law_160 : decode cL_law 160 = .ok (.aload_n 0, 1) := by decide +kernel
theorem dL_law_161 : decode cL_law 161 = .ok (.iload_n 3, 1) := by decide +kernel
theorem dL_law_162 : decode cL_law 162 = .ok (.iconst 1, 1) := by decide +kernel
theorem dL_law_163 : decode cL_law 163 = .ok (.iadd, 1) := by decide +kernel
theorem dL_law_164 : decode cL_law 164 = .ok (.iaload, 1) := by decide +kernel
theorem dL_law_165 : decode cL_law 165 = .ok (.aload_n 0, 1) := by decide +kernel
theorem dL_law_166 : decode cL_law 166 = .ok (.iload_n 3, 1) := by decide +kernel
theorem dL_law_167 : decode cL_law 167 = .ok (.iconst 2, 1) := by decide +kernel
theorem dL_law_168 : decode cL_law 168 = .ok (.iadd, 1) := by decide +kernel
theorem dL_law_169 : decode cL_law 169 = .ok (.iaload, 1) := by decide +kernel
theorem dL_law_170 : decode cL_law 170 = .ok (.ifCond .eq 7, 3) := by decide +kernel
theorem dL_law_173 : decode cL_law 173 = .ok (.iconst 1, 1) := by decide +kernel
theorem dL_law_174 : decode cL_law 174 = .ok (.goto 4, 3) := by decide +kernel
theorem dL_law_177 : decode cL_law 177 = .ok (.iconst 0, 1) := by decide +kernel
theorem dL_law_178 : decode cL_law 178 = .ok (.invokevirtual 22, 3) := by decide +kernel
theorem dL_law_181 : decode cL_law 181 = .ok (.if_icmp .eq 447, 3) := by decide +kernel
theorem dL_law_184 : decode cL_law 184 = .ok (.iconst 0, 1) := by decide +kernel
theorem dL_law_185 : decode cL_law 185 = .ok (.ireturn, 1) := by decide +kernel
theorem dL_law_186 : decode cL_law 186 = .ok (.aload_n 1, 1) := by decide +kernel
theorem dL_law_187 : decode cL_law 187 = .ok (.aload_n 0, 1) := by decide +kernel
theorem dL_law_188 : decode cL_law 188 = .ok (.iload_n 3, 1) := by decide +kernel
theorem dL_law_189 : decode cL_law 189 = .ok (.iconst 1, 1) := by decide +kernel
theorem dL_law_190 : decode cL_law 190 = .ok (.iadd, 1) := by decide +kernel
theorem dL_law_191 : decode cL_law 191 = .ok (.iaload, 1) := by decide +kernel
theorem dL_law_192 : decode cL_law 192 = .ok (.aload_n 0, 1) := by decide +kernel
theorem dL_law_193 : decode cL_law 193 = .ok (.iload_n 3, 1) := by decide +kernel
theorem dL_law_194 : decode cL_law 194 = .ok (.iconst 2, 1) := by decide +kernel
theorem dL_law_195 : decode cL_law 195 = .ok (.iadd, 1) := by decide +kernel
theorem dL_law_196 : decode cL_law 196 = .ok (.iaload, 1) := by decide +kernel
theorem dL_law_197 : decode cL_law 197 = .ok (.aload_n 0, 1) := by decide +kernel
theorem dL_law_198 : decode cL_law 198 = .ok (.iload_n 3, 1) := by decide +kernel
theorem dL_law_199 : decode cL_law 199 = .ok (.iconst 3, 1) := by decide +kernel
theorem dL_law_200 : decode cL_law 200 = .ok (.iadd, 1) := by decide +kernel
theorem dL_law_201 : decode cL_law 201 = .ok (.iaload, 1) := by decide +kernel
theorem dL_law_202 : decode cL_law 202 = .ok (.aload_n 0, 1) := by decide +kernel
theorem dL_law_203 : decode cL_law 203 = .ok (.iload_n 3, 1) := by decide +kernel
theorem dL_law_204 : decode cL_law 204 = .ok (.iconst 4, 1) := by decide +kernel
theorem dL_law_205 : decode cL_law 205 = .ok (.iadd, 1) := by decide +kernel
theorem dL_law_206 : decode cL_law 206 = .ok (.iaload, 1) := by decide +kernel
theorem dL_law_207 : decode cL_law 207 = .ok (.invokevirtual 23, 3) := by decide +kernel
theorem dL_law_210 : decode cL_law 210 = .ok (.aload_n 2, 1) := by decide +kernel
theorem dL_law_211 : decode cL_law 211 = .ok (.aload_n 0, 1) := by decide +kernel
theorem dL_law_212 : decode cL_law 212 = .ok (.iload_n 3, 1) := by decide +kernel
theorem dL_law_213 : decode cL_law 213 = .ok (.iconst 1, 1) := by decide +kernel
theorem dL_law_214 : decode cL_law 214 = .ok (.iadd, 1) := by decide +kernel
theorem dL_law_215 : decode cL_law 215 = .ok (.iaload, 1) := by decide +kernel
theorem dL_law_216 : decode cL_law 216 = .ok (.aload_n 0, 1) := by decide +kernel
theorem dL_law_217 : decode cL_law 217 = .ok (.iload_n 3, 1) := by decide +kernel
theorem dL_law_218 : decode cL_law 218 = .ok (.iconst 2, 1) := by decide +kernel
theorem dL_law_219 : decode cL_law 219 = .ok (.iadd, 1) := by decide +kernel
theorem dL_law_220 : decode cL_law 220 = .ok (.iaload, 1) := by decide +kernel
theorem dL_law_221 : decode cL_law 221 = .ok (.aload_n 0, 1) := by decide +kernel
theorem dL_law_222 : decode cL_law 222 = .ok (.iload_n 3, 1) := by decide +kernel
theorem dL_law_223 : decode cL_law 223 = .ok (.iconst 3, 1) := by decide +kernel
theorem dL_law_224 : decode cL_law 224 = .ok (.iadd, 1) := by decide +kernel
theorem dL_law_225 : decode cL_law 225 = .ok (.iaload, 1) := by decide +kernel
theorem dL_law_226 : decode cL_law 226 = .ok (.aload_n 0, 1) := by decide +kernel
theorem dL_law_227 : decode cL_law 227 = .ok (.iload_n 3, 1) := by decide +kernel
theorem dL_law_228 : decode cL_law 228 = .ok (.iconst 4, 1) := by decide +kernel
theorem dL_law_229 : decode cL_law 229 = .ok (.iadd, 1) := by decide +kernel
theorem dL_law_230 : decode cL_law 230 = .ok (.iaload, 1) := by decide +kernel
theorem dL_law_231 : decode cL_law 231 = .ok (.invokevirtual 27, 3) := by decide +kernel
theorem dL_law_234 : decode cL_law 234 = .ok (.if_icmp .eq 394, 3) := by decide +kernel
theorem dL_law_237 : decode cL_law 237 = .ok (.iconst 0, 1) := by decide +kernel
theorem dL_law_238 : decode cL_law 238 = .ok (.ireturn, 1) := by decide +kernel
theorem dL_law_239 : decode cL_law 239 = .ok (.aload_n 1, 1) := by decide +kernel
theorem dL_law_240 : decode cL_law 240 = .ok (.aload_n 0, 1) := by decide +kernel
theorem dL_law_241 : decode cL_law 241 = .ok (.iload_n 3, 1) := by decide +kernel
theorem dL_law_242 : decode cL_law 242 = .ok (.iconst 1, 1) := by decide +kernel
theorem dL_law_243 : decode cL_law 243 = .ok (.iadd, 1) := by decide +kernel
theorem dL_law_244 : decode cL_law 244 = .ok (.iaload, 1) := by decide +kernel
theorem dL_law_245 : decode cL_law 245 = .ok (.aload_n 0, 1) := by decide +kernel
theorem dL_law_246 : decode cL_law 246 = .ok (.iload_n 3, 1) := by decide +kernel
theorem dL_law_247 : decode cL_law 247 = .ok (.iconst 2, 1) := by decide +kernel
theorem dL_law_248 : decode cL_law 248 = .ok (.iadd, 1) := by decide +kernel
theorem dL_law_249 : decode cL_law 249 = .ok (.iaload, 1) := by decide +kernel
theorem dL_law_250 : decode cL_law 250 = .ok (.aload_n 0, 1) := by decide +kernel
theorem dL_law_251 : decode cL_law 251 = .ok (.iload_n 3, 1) := by decide +kernel
theorem dL_law_252 : decode cL_law 252 = .ok (.iconst 3, 1) := by decide +kernel
theorem dL_law_253 : decode cL_law 253 = .ok (.iadd, 1) := by decide +kernel
theorem dL_law_254 : decode cL_law 254 = .ok (.iaload, 1) := by decide +kernel
theorem dL_law_255 : decode cL_law 255 = .ok (.aload_n 0, 1) := by decide +kernel
theorem dL_law_256 : decode cL_law 256 = .ok (.iload_n 3, 1) := by decide +kernel
theorem dL_law_257 : decode cL_law 257 = .ok (.iconst 4, 1) := by decide +kernel
theorem dL_law_258 : decode cL_law 258 = .ok (.iadd, 1) := by decide +kernel
theorem dL_law_259 : decode cL_law 259 = .ok (.iaload, 1) := by decide +kernel
theorem dL_law_260 : decode cL_law 260 = .ok (.invokevirtual 28, 3) := by decide +kernel
theorem dL_law_263 : decode cL_law 263 = .ok (.aload_n 2, 1) := by decide +kernel
theorem dL_law_264 : decode cL_law 264 = .ok (.aload_n 0, 1) := by decide +kernel
theorem dL_law_265 : decode cL_law 265 = .ok (.iload_n 3, 1) := by decide +kernel
theorem dL_law_266 : decode cL_law 266 = .ok (.iconst 1, 1) := by decide +kernel
theorem dL_law_267 : decode cL_law 267 = .ok (.iadd, 1) := by decide +kernel
theorem dL_law_268 : decode cL_law 268 = .ok (.iaload, 1) := by decide +kernel
theorem dL_law_269 : decode cL_law 269 = .ok (.aload_n 0, 1) := by decide +kernel
theorem dL_law_270 : decode cL_law 270 = .ok (.iload_n 3, 1) := by decide +kernel
theorem dL_law_271 : decode cL_law 271 = .ok (.iconst 2, 1) := by decide +kernel
theorem dL_law_272 : decode cL_law 272 = .ok (.iadd, 1) := by decide +kernel
theorem dL_law_273 : decode cL_law 273 = .ok (.iaload, 1) := by decide +kernel
theorem dL_law_274 : decode cL_law 274 = .ok (.aload_n 0, 1) := by decide +kernel
theorem dL_law_275 : decode cL_law 275 = .ok (.iload_n 3, 1) := by decide +kernel
theorem dL_law_276 : decode cL_law 276 = .ok (.iconst 3, 1) := by decide +kernel
theorem dL_law_277 : decode cL_law 277 = .ok (.iadd, 1) := by decide +kernel
theorem dL_law_278 : decode cL_law 278 = .ok (.iaload, 1) := by decide +kernel
theorem dL_law_279 : decode cL_law 279 = .ok (.aload_n 0, 1) := by decide +kernel
theorem dL_law_280 : decode cL_law 280 = .ok (.iload_n 3, 1) := by decide +kernel
theorem dL_law_281 : decode cL_law 281 = .ok (.iconst 4, 1) := by decide +kernel
theorem dL_law_282 : decode cL_law 282 = .ok (.iadd, 1) := by decide +kernel
theorem dL_law_283 : decode cL_law 283 = .ok (.iaload, 1) := by decide +kernel
theorem dL_law_284 : decode cL_law 284 = .ok (.invokevirtual 31, 3) := by decide +kernel
theorem dL_law_287 : decode cL_law 287 = .ok (.if_icmp .eq 341, 3) := by decide +kernel
theorem dL_law_290 : decode cL_law 290 = .ok (.iconst 0, 1) := by decide +kernel
theorem dL_law_291 : decode cL_law 291 = .ok (.ireturn, 1) := by decide +kernel
theorem dL_law_292 : decode cL_law 292 = .ok (.aload_n 1, 1) := by decide +kernel
theorem dL_law_293 : decode cL_law 293 = .ok (.aload_n 0, 1) := by decide +kernel
theorem dL_law_294 : decode cL_law 294 = .ok (.iload_n 3, 1) := by decide +kernel
theorem dL_law_295 : decode cL_law 295 = .ok (.iconst 1, 1) := by decide +kernel
theorem dL_law_296 : decode cL_law 296 = .ok (.iadd, 1) := by decide +kernel
theorem dL_law_297 : decode cL_law 297 = .ok (.iaload, 1) := by decide +kernel
theorem dL_law_298 : decode cL_law 298 = .ok (.aload_n 0, 1) := by decide +kernel
theorem dL_law_299 : decode cL_law 299 = .ok (.iload_n 3, 1) := by decide +kernel
theorem dL_law_300 : decode cL_law 300 = .ok (.iconst 2, 1) := by decide +kernel
theorem dL_law_301 : decode cL_law 301 = .ok (.iadd, 1) := by decide +kernel
theorem dL_law_302 : decode cL_law 302 = .ok (.iaload, 1) := by decide +kernel
theorem dL_law_303 : decode cL_law 303 = .ok (.aload_n 0, 1) := by decide +kernel
theorem dL_law_304 : decode cL_law 304 = .ok (.iload_n 3, 1) := by decide +kernel
theorem dL_law_305 : decode cL_law 305 = .ok (.iconst 3, 1) := by decide +kernel
theorem dL_law_306 : decode cL_law 306 = .ok (.iadd, 1) := by decide +kernel
theorem dL_law_307 : decode cL_law 307 = .ok (.iaload, 1) := by decide +kernel
theorem dL_law_308 : decode cL_law 308 = .ok (.invokevirtual 32, 3) := by decide +kernel
theorem dL_law_311 : decode cL_law 311 = .ok (.aload_n 2, 1) := by decide +kernel
theorem dL_law_312 : decode cL_law 312 = .ok (.aload_n 0, 1) := by decide +kernel
theorem dL_law_313 : decode cL_law 313 = .ok (.iload_n 3, 1) := by decide +kernel
theorem dL_law_314 : decode cL_law 314 = .ok (.iconst 1, 1) := by decide +kernel
theorem dL_law_315 : decode cL_law 315 = .ok (.iadd, 1) := by decide +kernel
theorem dL_law_316 : decode cL_law 316 = .ok (.iaload, 1) := by decide +kernel
theorem dL_law_317 : decode cL_law 317 = .ok (.aload_n 0, 1) := by decide +kernel
theorem dL_law_318 : decode cL_law 318 = .ok (.iload_n 3, 1) := by decide +kernel
theorem dL_law_319 : decode cL_law 319 = .ok (.iconst 2, 1) := by decide +kernel
theorem dL_law_320 : decode cL_law 320 = .ok (.iadd, 1) := by decide +kernel
theorem dL_law_321 : decode cL_law 321 = .ok (.iaload, 1) := by decide +kernel
theorem dL_law_322 : decode cL_law 322 = .ok (.aload_n 0, 1) := by decide +kernel
theorem dL_law_323 : decode cL_law 323 = .ok (.iload_n 3, 1) := by decide +kernel
theorem dL_law_324 : decode cL_law 324 = .ok (.iconst 3, 1) := by decide +kernel
theorem dL_law_325 : decode cL_law 325 = .ok (.iadd, 1) := by decide +kernel
theorem dL_law_326 : decode cL_law 326 = .ok (.iaload, 1) := by decide +kernel
theorem dL_law_327 : decode cL_law 327 = .ok (.invokevirtual 36, 3) := by decide +kernel
theorem dL_law_330 : decode cL_law 330 = .ok (.if_icmp .eq 298, 3) := by decide +kernel
theorem dL_law_333 : decode cL_law 333 = .ok (.iconst 0, 1) := by decide +kernel
theorem dL_law_334 : decode cL_law 334 = .ok (.ireturn, 1) := by decide +kernel
theorem dL_law_335 : decode cL_law 335 = .ok (.aload_n 1, 1) := by decide +kernel
theorem dL_law_336 : decode cL_law 336 = .ok (.aload_n 0, 1) := by decide +kernel
theorem dL_law_337 : decode cL_law 337 = .ok (.iload_n 3, 1) := by decide +kernel
theorem dL_law_338 : decode cL_law 338 = .ok (.iconst 1, 1) := by decide +kernel
theorem dL_law_339 : decode cL_law 339 = .ok (.iadd, 1) := by decide +kernel
theorem dL_law_340 : decode cL_law 340 = .ok (.iaload, 1) := by decide +kernel
theorem dL_law_341 : decode cL_law 341 = .ok (.aload_n 0, 1) := by decide +kernel
theorem dL_law_342 : decode cL_law 342 = .ok (.iload_n 3, 1) := by decide +kernel
theorem dL_law_343 : decode cL_law 343 = .ok (.iconst 2, 1) := by decide +kernel
theorem dL_law_344 : decode cL_law 344 = .ok (.iadd, 1) := by decide +kernel
theorem dL_law_345 : decode cL_law 345 = .ok (.iaload, 1) := by decide +kernel
theorem dL_law_346 : decode cL_law 346 = .ok (.aload_n 0, 1) := by decide +kernel
theorem dL_law_347 : decode cL_law 347 = .ok (.iload_n 3, 1) := by decide +kernel
theorem dL_law_348 : decode cL_law 348 = .ok (.iconst 3, 1) := by decide +kernel
theorem dL_law_349 : decode cL_law 349 = .ok (.iadd, 1) := by decide +kernel
theorem dL_law_350 : decode cL_law 350 = .ok (.iaload, 1) := by decide +kernel
theorem dL_law_351 : decode cL_law 351 = .ok (.ifCond .eq 7, 3) := by decide +kernel
theorem dL_law_354 : decode cL_law 354 = .ok (.iconst 1, 1) := by decide +kernel
theorem dL_law_355 : decode cL_law 355 = .ok (.goto 4, 3) := by decide +kernel
theorem dL_law_358 : decode cL_law 358 = .ok (.iconst 0, 1) := by decide +kernel
theorem dL_law_359 : decode cL_law 359 = .ok (.invokevirtual 37, 3) := by decide +kernel
theorem dL_law_362 : decode cL_law 362 = .ok (.aload_n 2, 1) := by decide +kernel
theorem dL_law_363 : decode cL_law 363 = .ok (.aload_n 0, 1) := by decide +kernel
theorem dL_law_364 : decode cL_law 364 = .ok (.iload_n 3, 1) := by decide +kernel
theorem dL_law_365 : decode cL_law 365 = .ok (.iconst 1, 1) := by decide +kernel
theorem dL_law_366 : decode cL_law 366 = .ok (.iadd, 1) := by decide +kernel
theorem dL_law_367 : decode cL_law 367 = .ok (.iaload, 1) := by decide +kernel
theorem dL_law_368 : decode cL_law 368 = .ok (.aload_n 0, 1) := by decide +kernel
theorem dL_law_369 : decode cL_law 369 = .ok (.iload_n 3, 1) := by decide +kernel
theorem dL_law_370 : decode cL_law 370 = .ok (.iconst 2, 1) := by decide +kernel
theorem dL_law_371 : decode cL_law 371 = .ok (.iadd, 1) := by decide +kernel
theorem dL_law_372 : decode cL_law 372 = .ok (.iaload, 1) := by decide +kernel
theorem dL_law_373 : decode cL_law 373 = .ok (.aload_n 0, 1) := by decide +kernel
theorem dL_law_374 : decode cL_law 374 = .ok (.iload_n 3, 1) := by decide +kernel
theorem dL_law_375 : decode cL_law 375 = .ok (.iconst 3, 1) := by decide +kernel
theorem dL_law_376 : decode cL_law 376 = .ok (.iadd, 1) := by decide +kernel
theorem dL_law_377 : decode cL_law 377 = .ok (.iaload, 1) := by decide +kernel
theorem dL_law_378 : decode cL_law 378 = .ok (.ifCond .eq 7, 3) := by decide +kernel
theorem dL_law_381 : decode cL_law 381 = .ok (.iconst 1, 1) := by decide +kernel
theorem dL_law_382 : decode cL_law 382 = .ok (.goto 4, 3) := by decide +kernel
theorem dL_law_385 : decode cL_law 385 = .ok (.iconst 0, 1) := by decide +kernel
theorem dL_law_386 : decode cL_law 386 = .ok (.invokevirtual 41, 3) := by decide +kernel
theorem dL_law_389 : decode cL_law 389 = .ok (.if_icmp .eq 239, 3) := by decide +kernel
theorem dL_law_392 : decode cL_law 392 = .ok (.iconst 0, 1) := by decide +kernel
theorem dL_law_393 : decode cL_law 393 = .ok (.ireturn, 1) := by decide +kernel
theorem dL_law_394 : decode cL_law 394 = .ok (.aload_n 1, 1) := by decide +kernel
theorem dL_law_395 : decode cL_law 395 = .ok (.invokevirtual 42, 3) := by decide +kernel
theorem dL_law_398 : decode cL_law 398 = .ok (.aload_n 2, 1) := by decide +kernel
theorem dL_law_399 : decode cL_law 399 = .ok (.invokevirtual 46, 3) := by decide +kernel
theorem dL_law_402 : decode cL_law 402 = .ok (.if_icmp .eq 226, 3) := by decide +kernel
theorem dL_law_405 : decode cL_law 405 = .ok (.iconst 0, 1) := by decide +kernel
theorem dL_law_406 : decode cL_law 406 = .ok (.ireturn, 1) := by decide +kernel
theorem dL_law_407 : decode cL_law 407 = .ok (.aload_n 1, 1) := by decide +kernel
theorem dL_law_408 : decode cL_law 408 = .ok (.aload_n 0, 1) := by decide +kernel
theorem dL_law_409 : decode cL_law 409 = .ok (.iload_n 3, 1) := by decide +kernel
theorem dL_law_410 : decode cL_law 410 = .ok (.iconst 1, 1) := by decide +kernel
theorem dL_law_411 : decode cL_law 411 = .ok (.iadd, 1) := by decide +kernel
theorem dL_law_412 : decode cL_law 412 = .ok (.iaload, 1) := by decide +kernel
theorem dL_law_413 : decode cL_law 413 = .ok (.invokevirtual 47, 3) := by decide +kernel
theorem dL_law_416 : decode cL_law 416 = .ok (.aload_n 2, 1) := by decide +kernel
theorem dL_law_417 : decode cL_law 417 = .ok (.aload_n 0, 1) := by decide +kernel
theorem dL_law_418 : decode cL_law 418 = .ok (.iload_n 3, 1) := by decide +kernel
theorem dL_law_419 : decode cL_law 419 = .ok (.iconst 1, 1) := by decide +kernel
theorem dL_law_420 : decode cL_law 420 = .ok (.iadd, 1) := by decide +kernel
theorem dL_law_421 : decode cL_law 421 = .ok (.iaload, 1) := by decide +kernel
theorem dL_law_422 : decode cL_law 422 = .ok (.invokevirtual 51, 3) := by decide +kernel
theorem dL_law_425 : decode cL_law 425 = .ok (.if_icmp .eq 203, 3) := by decide +kernel
theorem dL_law_428 : decode cL_law 428 = .ok (.iconst 0, 1) := by decide +kernel
theorem dL_law_429 : decode cL_law 429 = .ok (.ireturn, 1) := by decide +kernel
theorem dL_law_430 : decode cL_law 430 = .ok (.aload_n 1, 1) := by decide +kernel
theorem dL_law_431 : decode cL_law 431 = .ok (.aload_n 0, 1) := by decide +kernel
theorem dL_law_432 : decode cL_law 432 = .ok (.iload_n 3, 1) := by decide +kernel
theorem dL_law_433 : decode cL_law 433 = .ok (.iconst 1, 1) := by decide +kernel
theorem dL_law_434 : decode cL_law 434 = .ok (.iadd, 1) := by decide +kernel
theorem dL_law_435 : decode cL_law 435 = .ok (.iaload, 1) := by decide +kernel
theorem dL_law_436 : decode cL_law 436 = .ok (.invokevirtual 52, 3) := by decide +kernel
theorem dL_law_439 : decode cL_law 439 = .ok (.aload_n 2, 1) := by decide +kernel
theorem dL_law_440 : decode cL_law 440 = .ok (.aload_n 0, 1) := by decide +kernel
theorem dL_law_441 : decode cL_law 441 = .ok (.iload_n 3, 1) := by decide +kernel
theorem dL_law_442 : decode cL_law 442 = .ok (.iconst 1, 1) := by decide +kernel
theorem dL_law_443 : decode cL_law 443 = .ok (.iadd, 1) := by decide +kernel
theorem dL_law_444 : decode cL_law 444 = .ok (.iaload, 1) := by decide +kernel
theorem dL_law_445 : decode cL_law 445 = .ok (.invokevirtual 55, 3) := by decide +kernel
theorem dL_law_448 : decode cL_law 448 = .ok (.if_icmp .eq 180, 3) := by decide +kernel
theorem dL_law_451 : decode cL_law 451 = .ok (.iconst 0, 1) := by decide +kernel
theorem dL_law_452 : decode cL_law 452 = .ok (.ireturn, 1) := by decide +kernel
theorem dL_law_453 : decode cL_law 453 = .ok (.aload_n 1, 1) := by decide +kernel
theorem dL_law_454 : decode cL_law 454 = .ok (.aload_n 0, 1) := by decide +kernel
theorem dL_law_455 : decode cL_law 455 = .ok (.iload_n 3, 1) := by decide +kernel
theorem dL_law_456 : decode cL_law 456 = .ok (.iconst 1, 1) := by decide +kernel
theorem dL_law_457 : decode cL_law 457 = .ok (.iadd, 1) := by decide +kernel
theorem dL_law_458 : decode cL_law 458 = .ok (.iaload, 1) := by decide +kernel
theorem dL_law_459 : decode cL_law 459 = .ok (.aload_n 0, 1) := by decide +kernel
theorem dL_law_460 : decode cL_law 460 = .ok (.iload_n 3, 1) := by decide +kernel
theorem dL_law_461 : decode cL_law 461 = .ok (.iconst 2, 1) := by decide +kernel
theorem dL_law_462 : decode cL_law 462 = .ok (.iadd, 1) := by decide +kernel
theorem dL_law_463 : decode cL_law 463 = .ok (.iaload, 1) := by decide +kernel
theorem dL_law_464 : decode cL_law 464 = .ok (.aload_n 0, 1) := by decide +kernel
theorem dL_law_465 : decode cL_law 465 = .ok (.iload_n 3, 1) := by decide +kernel
theorem dL_law_466 : decode cL_law 466 = .ok (.iconst 3, 1) := by decide +kernel
theorem dL_law_467 : decode cL_law 467 = .ok (.iadd, 1) := by decide +kernel
theorem dL_law_468 : decode cL_law 468 = .ok (.iaload, 1) := by decide +kernel
theorem dL_law_469 : decode cL_law 469 = .ok (.invokevirtual 56, 3) := by decide +kernel
theorem dL_law_472 : decode cL_law 472 = .ok (.aload_n 2, 1) := by decide +kernel
theorem dL_law_473 : decode cL_law 473 = .ok (.aload_n 0, 1) := by decide +kernel
theorem dL_law_474 : decode cL_law 474 = .ok (.iload_n 3, 1) := by decide +kernel
theorem dL_law_475 : decode cL_law 475 = .ok (.iconst 1, 1) := by decide +kernel
theorem dL_law_476 : decode cL_law 476 = .ok (.iadd, 1) := by decide +kernel
theorem dL_law_477 : decode cL_law 477 = .ok (.iaload, 1) := by decide +kernel
theorem dL_law_478 : decode cL_law 478 = .ok (.aload_n 0, 1) := by decide +kernel
theorem dL_law_479 : decode cL_law 479 = .ok (.iload_n 3, 1) := by decide +kernel
theorem dL_law_480 : decode cL_law 480 = .ok (.iconst 2, 1) := by decide +kernel
theorem dL_law_481 : decode cL_law 481 = .ok (.iadd, 1) := by decide +kernel
theorem dL_law_482 : decode cL_law 482 = .ok (.iaload, 1) := by decide +kernel
theorem dL_law_483 : decode cL_law 483 = .ok (.aload_n 0, 1) := by decide +kernel
theorem dL_law_484 : decode cL_law 484 = .ok (.iload_n 3, 1) := by decide +kernel
theorem dL_law_485 : decode cL_law 485 = .ok (.iconst 3, 1) := by decide +kernel
theorem dL_law_486 : decode cL_law 486 = .ok (.iadd, 1) := by decide +kernel
theorem dL_law_487 : decode cL_law 487 = .ok (.iaload, 1) := by decide +kernel
theorem dL_law_488 : decode cL_law 488 = .ok (.invokevirtual 59, 3) := by decide +kernel
theorem dL_law_491 : decode cL_law 491 = .ok (.if_icmp .eq 137, 3) := by decide +kernel
theorem dL_law_494 : decode cL_law 494 = .ok (.iconst 0, 1) := by decide +kernel
theorem dL_law_495 : decode cL_law 495 = .ok (.ireturn, 1) := by decide +kernel
theorem dL_law_496 : decode cL_law 496 = .ok (.aload_n 1, 1) := by decide +kernel
theorem dL_law_497 : decode cL_law 497 = .ok (.aload_n 0, 1) := by decide +kernel
theorem dL_law_498 : decode cL_law 498 = .ok (.iload_n 3, 1) := by decide +kernel
theorem dL_law_499 : decode cL_law 499 = .ok (.iconst 1, 1) := by decide +kernel
theorem dL_law_500 : decode cL_law 500 = .ok (.iadd, 1) := by decide +kernel
theorem dL_law_501 : decode cL_law 501 = .ok (.iaload, 1) := by decide +kernel
theorem dL_law_502 : decode cL_law 502 = .ok (.aload_n 0, 1) := by decide +kernel
theorem dL_law_503 : decode cL_law 503 = .ok (.iload_n 3, 1) := by decide +kernel
theorem dL_law_504 : decode cL_law 504 = .ok (.iconst 2, 1) := by decide +kernel
theorem dL_law_505 : decode cL_law 505 = .ok (.iadd, 1) := by decide +kernel
theorem dL_law_506 : decode cL_law 506 = .ok (.iaload, 1) := by decide +kernel
theorem dL_law_507 : decode cL_law 507 = .ok (.aload_n 0, 1) := by decide +kernel
theorem dL_law_508 : decode cL_law 508 = .ok (.iload_n 3, 1) := by decide +kernel
theorem dL_law_509 : decode cL_law 509 = .ok (.iconst 3, 1) := by decide +kernel
theorem dL_law_510 : decode cL_law 510 = .ok (.iadd, 1) := by decide +kernel
theorem dL_law_511 : decode cL_law 511 = .ok (.iaload, 1) := by decide +kernel
theorem dL_law_512 : decode cL_law 512 = .ok (.invokevirtual 60, 3) := by decide +kernel
theorem dL_law_515 : decode cL_law 515 = .ok (.aload_n 2, 1) := by decide +kernel
theorem dL_law_516 : decode cL_law 516 = .ok (.aload_n 0, 1) := by decide +kernel
theorem dL_law_517 : decode cL_law 517 = .ok (.iload_n 3, 1) := by decide +kernel
theorem dL_law_518 : decode cL_law 518 = .ok (.iconst 1, 1) := by decide +kernel
theorem dL_law_519 : decode cL_law 519 = .ok (.iadd, 1) := by decide +kernel
theorem dL_law_520 : decode cL_law 520 = .ok (.iaload, 1) := by decide +kernel
theorem dL_law_521 : decode cL_law 521 = .ok (.aload_n 0, 1) := by decide +kernel
theorem dL_law_522 : decode cL_law 522 = .ok (.iload_n 3, 1) := by decide +kernel
theorem dL_law_523 : decode cL_law 523 = .ok (.iconst 2, 1) := by decide +kernel
theorem dL_law_524 : decode cL_law 524 = .ok (.iadd, 1) := by decide +kernel
theorem dL_law_525 : decode cL_law 525 = .ok (.iaload, 1) := by decide +kernel
theorem dL_law_526 : decode cL_law 526 = .ok (.aload_n 0, 1) := by decide +kernel
theorem dL_law_527 : decode cL_law 527 = .ok (.iload_n 3, 1) := by decide +kernel
theorem dL_law_528 : decode cL_law 528 = .ok (.iconst 3, 1) := by decide +kernel
theorem dL_law_529 : decode cL_law 529 = .ok (.iadd, 1) := by decide +kernel
theorem dL_law_530 : decode cL_law 530 = .ok (.iaload, 1) := by decide +kernel
theorem dL_law_531 : decode cL_law 531 = .ok (.invokevirtual 63, 3) := by decide +kernel
theorem dL_law_534 : decode cL_law 534 = .ok (.if_icmp .eq 94, 3) := by decide +kernel
theorem dL_law_537 : decode cL_law 537 = .ok (.iconst 0, 1) := by decide +kernel
theorem dL_law_538 : decode cL_law 538 = .ok (.ireturn, 1) := by decide +kernel
theorem dL_law_539 : decode cL_law 539 = .ok (.aload_n 1, 1) := by decide +kernel
theorem dL_law_540 : decode cL_law 540 = .ok (.aload_n 0, 1) := by decide +kernel
theorem dL_law_541 : decode cL_law 541 = .ok (.iload_n 3, 1) := by decide +kernel
theorem dL_law_542 : decode cL_law 542 = .ok (.iconst 1, 1) := by decide +kernel
theorem dL_law_543 : decode cL_law 543 = .ok (.iadd, 1) := by decide +kernel
theorem dL_law_544 : decode cL_law 544 = .ok (.iaload, 1) := by decide +kernel
theorem dL_law_545 : decode cL_law 545 = .ok (.aload_n 0, 1) := by decide +kernel
theorem dL_law_546 : decode cL_law 546 = .ok (.iload_n 3, 1) := by decide +kernel
theorem dL_law_547 : decode cL_law 547 = .ok (.iconst 2, 1) := by decide +kernel
theorem dL_law_548 : decode cL_law 548 = .ok (.iadd, 1) := by decide +kernel
theorem dL_law_549 : decode cL_law 549 = .ok (.iaload, 1) := by decide +kernel
theorem dL_law_550 : decode cL_law 550 = .ok (.invokevirtual 64, 3) := by decide +kernel
theorem dL_law_553 : decode cL_law 553 = .ok (.aload_n 2, 1) := by decide +kernel
theorem dL_law_554 : decode cL_law 554 = .ok (.aload_n 0, 1) := by decide +kernel
theorem dL_law_555 : decode cL_law 555 = .ok (.iload_n 3, 1) := by decide +kernel
theorem dL_law_556 : decode cL_law 556 = .ok (.iconst 1, 1) := by decide +kernel
theorem dL_law_557 : decode cL_law 557 = .ok (.iadd, 1) := by decide +kernel
theorem dL_law_558 : decode cL_law 558 = .ok (.iaload, 1) := by decide +kernel
theorem dL_law_559 : decode cL_law 559 = .ok (.aload_n 0, 1) := by decide +kernel
theorem dL_law_560 : decode cL_law 560 = .ok (.iload_n 3, 1) := by decide +kernel
theorem dL_law_561 : decode cL_law 561 = .ok (.iconst 2, 1) := by decide +kernel
theorem dL_law_562 : decode cL_law 562 = .ok (.iadd, 1) := by decide +kernel
theorem dL_law_563 : decode cL_law 563 = .ok (.iaload, 1) := by decide +kernel
theorem dL_law_564 : decode cL_law 564 = .ok (.invokevirtual 67, 3) := by decide +kernel
theorem dL_law_567 : decode cL_law 567 = .ok (.if_icmp .eq 61, 3) := by decide +kernel
theorem dL_law_570 : decode cL_law 570 = .ok (.iconst 0, 1) := by decide +kernel
theorem dL_law_571 : decode cL_law 571 = .ok (.ireturn, 1) := by decide +kernel
theorem dL_law_572 : decode cL_law 572 = .ok (.aload_n 1, 1) := by decide +kernel
theorem dL_law_573 : decode cL_law 573 = .ok (.aload_n 0, 1) := by decide +kernel
theorem dL_law_574 : decode cL_law 574 = .ok (.iload_n 3, 1) := by decide +kernel
theorem dL_law_575 : decode cL_law 575 = .ok (.iconst 1, 1) := by decide +kernel
theorem dL_law_576 : decode cL_law 576 = .ok (.iadd, 1) := by decide +kernel
theorem dL_law_577 : decode cL_law 577 = .ok (.iaload, 1) := by decide +kernel
theorem dL_law_578 : decode cL_law 578 = .ok (.aload_n 0, 1) := by decide +kernel
theorem dL_law_579 : decode cL_law 579 = .ok (.iload_n 3, 1) := by decide +kernel
theorem dL_law_580 : decode cL_law 580 = .ok (.iconst 2, 1) := by decide +kernel
theorem dL_law_581 : decode cL_law 581 = .ok (.iadd, 1) := by decide +kernel
theorem dL_law_582 : decode cL_law 582 = .ok (.iaload, 1) := by decide +kernel
theorem dL_law_583 : decode cL_law 583 = .ok (.invokevirtual 68, 3) := by decide +kernel
theorem dL_law_586 : decode cL_law 586 = .ok (.aload_n 2, 1) := by decide +kernel
theorem dL_law_587 : decode cL_law 587 = .ok (.aload_n 0, 1) := by decide +kernel
theorem dL_law_588 : decode cL_law 588 = .ok (.iload_n 3, 1) := by decide +kernel
theorem dL_law_589 : decode cL_law 589 = .ok (.iconst 1, 1) := by decide +kernel
theorem dL_law_590 : decode cL_law 590 = .ok (.iadd, 1) := by decide +kernel
theorem dL_law_591 : decode cL_law 591 = .ok (.iaload, 1) := by decide +kernel
theorem dL_law_592 : decode cL_law 592 = .ok (.aload_n 0, 1) := by decide +kernel
theorem dL_law_593 : decode cL_law 593 = .ok (.iload_n 3, 1) := by decide +kernel
theorem dL_law_594 : decode cL_law 594 = .ok (.iconst 2, 1) := by decide +kernel
theorem dL_law_595 : decode cL_law 595 = .ok (.iadd, 1) := by decide +kernel
theorem dL_law_596 : decode cL_law 596 = .ok (.iaload, 1) := by decide +kernel
theorem dL_law_597 : decode cL_law 597 = .ok (.invokevirtual 71, 3) := by decide +kernel
theorem dL_law_600 : decode cL_law 600 = .ok (.if_icmp .eq 28, 3) := by decide +kernel
theorem dL_law_603 : decode cL_law 603 = .ok (.iconst 0, 1) := by decide +kernel
theorem dL_law_604 : decode cL_law 604 = .ok (.ireturn, 1) := by decide +kernel
theorem dL_law_605 : decode cL_law 605 = .ok (.aload_n 1, 1) := by decide +kernel
theorem dL_law_606 : decode cL_law 606 = .ok (.aload_n 0, 1) := by decide +kernel
theorem dL_law_607 : decode cL_law 607 = .ok (.iload_n 3, 1) := by decide +kernel
theorem dL_law_608 : decode cL_law 608 = .ok (.iconst 1, 1) := by decide +kernel
theorem dL_law_609 : decode cL_law 609 = .ok (.iadd, 1) := by decide +kernel
theorem dL_law_610 : decode cL_law 610 = .ok (.iaload, 1) := by decide +kernel
theorem dL_law_611 : decode cL_law 611 = .ok (.invokevirtual 72, 3) := by decide +kernel
theorem dL_law_614 : decode cL_law 614 = .ok (.aload_n 2, 1) := by decide +kernel
theorem dL_law_615 : decode cL_law 615 = .ok (.aload_n 0, 1) := by decide +kernel
theorem dL_law_616 : decode cL_law 616 = .ok (.iload_n 3, 1) := by decide +kernel
theorem dL_law_617 : decode cL_law 617 = .ok (.iconst 1, 1) := by decide +kernel
theorem dL_law_618 : decode cL_law 618 = .ok (.iadd, 1) := by decide +kernel
theorem dL_law_619 : decode cL_law 619 = .ok (.iaload, 1) := by decide +kernel
theorem dL_law_620 : decode cL_law 620 = .ok (.invokevirtual 75, 3) := by decide +kernel
theorem dL_law_623 : decode cL_law 623 = .ok (.if_icmp .eq 5, 3) := by decide +kernel
theorem dL_law_626 : decode cL_law 626 = .ok (.iconst 0, 1) := by decide +kernel
theorem dL_law_627 : decode cL_law 627 = .ok (.ireturn, 1) := by decide +kernel
theorem dL_law_628 : decode cL_law 628 = .ok (.iinc 3 5, 3) := by decide +kernel
theorem dL_law_631 : decode cL_law 631 = .ok (.goto (-613), 3) := by decide +kernel
theorem dL_law_634 : decode cL_law 634 = .ok (.iconst 1, 1) := by decide +kernel
theorem dL_law_635 : decode cL_law 635 = .ok (.ireturn, 1) := by decide +kernel
