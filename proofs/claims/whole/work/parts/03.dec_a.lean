theorem dX0_init_0 : decode cX0_init 0 = .ok (.aload_n 0, 1) := by decide +kernel
theorem dX0_init_1 : decode cX0_init 1 = .ok (.invokespecial 3, 3) := by decide +kernel
theorem dX0_init_4 : decode cX0_init 4 = .ok (.aload_n 0, 1) := by decide +kernel
theorem dX0_init_5 : decode cX0_init 5 = .ok (.sipush 150, 3) := by decide +kernel
theorem dX0_init_8 : decode cX0_init 8 = .ok (.newarray .int, 2) := by decide +kernel
theorem dX0_init_10 : decode cX0_init 10 = .ok (.putfield 9, 3) := by decide +kernel
theorem dX0_init_13 : decode cX0_init 13 = .ok (.aload_n 0, 1) := by decide +kernel
theorem dX0_init_14 : decode cX0_init 14 = .ok (.sipush 150, 3) := by decide +kernel
theorem dX0_init_17 : decode cX0_init 17 = .ok (.newarray .int, 2) := by decide +kernel
theorem dX0_init_19 : decode cX0_init 19 = .ok (.putfield 15, 3) := by decide +kernel
theorem dX0_init_22 : decode cX0_init 22 = .ok (.aload_n 0, 1) := by decide +kernel
theorem dX0_init_23 : decode cX0_init 23 = .ok (.sipush 150, 3) := by decide +kernel
theorem dX0_init_26 : decode cX0_init 26 = .ok (.newarray .int, 2) := by decide +kernel
theorem dX0_init_28 : decode cX0_init 28 = .ok (.putfield 18, 3) := by decide +kernel
theorem dX0_init_31 : decode cX0_init 31 = .ok (.aload_n 0, 1) := by decide +kernel
theorem dX0_init_32 : decode cX0_init 32 = .ok (.sipush 150, 3) := by decide +kernel
theorem dX0_init_35 : decode cX0_init 35 = .ok (.newarray .int, 2) := by decide +kernel
theorem dX0_init_37 : decode cX0_init 37 = .ok (.putfield 21, 3) := by decide +kernel
theorem dX0_init_40 : decode cX0_init 40 = .ok (.aload_n 0, 1) := by decide +kernel
theorem dX0_init_41 : decode cX0_init 41 = .ok (.sipush 150, 3) := by decide +kernel
theorem dX0_init_44 : decode cX0_init 44 = .ok (.newarray .long, 2) := by decide +kernel
theorem dX0_init_46 : decode cX0_init 46 = .ok (.putfield 24, 3) := by decide +kernel
theorem dX0_init_49 : decode cX0_init 49 = .ok (.aload_n 0, 1) := by decide +kernel
theorem dX0_init_50 : decode cX0_init 50 = .ok (.sipush 150, 3) := by decide +kernel
theorem dX0_init_53 : decode cX0_init 53 = .ok (.newarray .long, 2) := by decide +kernel
theorem dX0_init_55 : decode cX0_init 55 = .ok (.putfield 28, 3) := by decide +kernel
theorem dX0_init_58 : decode cX0_init 58 = .ok (.aload_n 0, 1) := by decide +kernel
theorem dX0_init_59 : decode cX0_init 59 = .ok (.sipush 150, 3) := by decide +kernel
theorem dX0_init_62 : decode cX0_init 62 = .ok (.newarray .long, 2) := by decide +kernel
theorem dX0_init_64 : decode cX0_init 64 = .ok (.putfield 31, 3) := by decide +kernel
theorem dX0_init_67 : decode cX0_init 67 = .ok (.aload_n 0, 1) := by decide +kernel
theorem dX0_init_68 : decode cX0_init 68 = .ok (.sipush 150, 3) := by decide +kernel
theorem dX0_init_71 : decode cX0_init 71 = .ok (.newarray .int, 2) := by decide +kernel
theorem dX0_init_73 : decode cX0_init 73 = .ok (.putfield 34, 3) := by decide +kernel
theorem dX0_init_76 : decode cX0_init 76 = .ok (.aload_n 0, 1) := by decide +kernel
theorem dX0_init_77 : decode cX0_init 77 = .ok (.sipush 150, 3) := by decide +kernel
theorem dX0_init_80 : decode cX0_init 80 = .ok (.newarray .int, 2) := by decide +kernel
theorem dX0_init_82 : decode cX0_init 82 = .ok (.putfield 37, 3) := by decide +kernel
theorem dX0_init_85 : decode cX0_init 85 = .ok (.aload_n 0, 1) := by decide +kernel
theorem dX0_init_86 : decode cX0_init 86 = .ok (.aload_n 1, 1) := by decide +kernel
theorem dX0_init_87 : decode cX0_init 87 = .ok (.putfield 40, 3) := by decide +kernel
theorem dX0_init_90 : decode cX0_init 90 = .ok (.aload_n 0, 1) := by decide +kernel
theorem dX0_init_91 : decode cX0_init 91 = .ok (.getfield 34, 3) := by decide +kernel
theorem dX0_init_94 : decode cX0_init 94 = .ok (.iconst (-1), 1) := by decide +kernel
theorem dX0_init_95 : decode cX0_init 95 = .ok (.invokestatic 44, 3) := by decide +kernel
theorem dX0_init_98 : decode cX0_init 98 = .ok (.aload_n 0, 1) := by decide +kernel
theorem dX0_init_99 : decode cX0_init 99 = .ok (.getfield 37, 3) := by decide +kernel
theorem dX0_init_102 : decode cX0_init 102 = .ok (.iconst (-1), 1) := by decide +kernel
theorem dX0_init_103 : decode cX0_init 103 = .ok (.invokestatic 44, 3) := by decide +kernel
theorem dX0_init_106 : decode cX0_init 106 = .ok (.return_, 1) := by decide +kernel
theorem dX0_put_0 : decode cX0_put 0 = .ok (.aload_n 0, 1) := by decide +kernel
theorem dX0_put_1 : decode cX0_put 1 = .ok (.aload_n 0, 1) := by decide +kernel
theorem dX0_put_2 : decode cX0_put 2 = .ok (.iload_n 1, 1) := by decide +kernel
theorem dX0_put_3 : decode cX0_put 3 = .ok (.invokevirtual 50, 3) := by decide +kernel
theorem dX0_put_6 : decode cX0_put 6 = .ok (.iload_n 2, 1) := by decide +kernel
theorem dX0_put_7 : decode cX0_put 7 = .ok (.bipush 7, 2) := by decide +kernel
theorem dX0_put_9 : decode cX0_put 9 = .ok (.if_icmp .ne 7, 3) := by decide +kernel
theorem dX0_put_12 : decode cX0_put 12 = .ok (.iconst 1, 1) := by decide +kernel
theorem dX0_put_13 : decode cX0_put 13 = .ok (.goto 4, 3) := by decide +kernel
theorem dX0_put_16 : decode cX0_put 16 = .ok (.iconst 0, 1) := by decide +kernel
theorem dX0_put_17 : decode cX0_put 17 = .ok (.invokestatic 54, 3) := by decide +kernel
theorem dX0_put_20 : decode cX0_put 20 = .ok (.iadd, 1) := by decide +kernel
theorem dX0_put_21 : decode cX0_put 21 = .ok (.putfield 58, 3) := by decide +kernel
theorem dX0_put_24 : decode cX0_put 24 = .ok (.aload_n 0, 1) := by decide +kernel
theorem dX0_put_25 : decode cX0_put 25 = .ok (.getfield 9, 3) := by decide +kernel
theorem dX0_put_28 : decode cX0_put 28 = .ok (.iload_n 1, 1) := by decide +kernel
theorem dX0_put_29 : decode cX0_put 29 = .ok (.iload_n 2, 1) := by decide +kernel
theorem dX0_put_30 : decode cX0_put 30 = .ok (.iastore, 1) := by decide +kernel
theorem dX0_put_31 : decode cX0_put 31 = .ok (.aload_n 0, 1) := by decide +kernel
theorem dX0_put_32 : decode cX0_put 32 = .ok (.getfield 15, 3) := by decide +kernel
theorem dX0_put_35 : decode cX0_put 35 = .ok (.iload_n 1, 1) := by decide +kernel
theorem dX0_put_36 : decode cX0_put 36 = .ok (.iload_n 3, 1) := by decide +kernel
theorem dX0_put_37 : decode cX0_put 37 = .ok (.iastore, 1) := by decide +kernel
theorem dX0_put_38 : decode cX0_put 38 = .ok (.aload_n 0, 1) := by decide +kernel
theorem dX0_put_39 : decode cX0_put 39 = .ok (.getfield 18, 3) := by decide +kernel
theorem dX0_put_42 : decode cX0_put 42 = .ok (.iload_n 1, 1) := by decide +kernel
theorem dX0_put_43 : decode cX0_put 43 = .ok (.iload 4, 2) := by decide +kernel
theorem dX0_put_45 : decode cX0_put 45 = .ok (.iastore, 1) := by decide +kernel
theorem dX0_put_46 : decode cX0_put 46 = .ok (.aload_n 0, 1) := by decide +kernel
theorem dX0_put_47 : decode cX0_put 47 = .ok (.getfield 21, 3) := by decide +kernel
theorem dX0_put_50 : decode cX0_put 50 = .ok (.iload_n 1, 1) := by decide +kernel
theorem dX0_put_51 : decode cX0_put 51 = .ok (.iload 5, 2) := by decide +kernel
theorem dX0_put_53 : decode cX0_put 53 = .ok (.iastore, 1) := by decide +kernel
theorem dX0_put_54 : decode cX0_put 54 = .ok (.aload_n 0, 1) := by decide +kernel
theorem dX0_put_55 : decode cX0_put 55 = .ok (.getfield 24, 3) := by decide +kernel
theorem dX0_put_58 : decode cX0_put 58 = .ok (.iload_n 1, 1) := by decide +kernel
theorem dX0_put_59 : decode cX0_put 59 = .ok (.aload_n 0, 1) := by decide +kernel
theorem dX0_put_60 : decode cX0_put 60 = .ok (.iload_n 2, 1) := by decide +kernel
theorem dX0_put_61 : decode cX0_put 61 = .ok (.iload_n 3, 1) := by decide +kernel
theorem dX0_put_62 : decode cX0_put 62 = .ok (.iload 4, 2) := by decide +kernel
theorem dX0_put_64 : decode cX0_put 64 = .ok (.invokevirtual 62, 3) := by decide +kernel
theorem dX0_put_67 : decode cX0_put 67 = .ok (.lastore, 1) := by decide +kernel
theorem dX0_put_68 : decode cX0_put 68 = .ok (.aload_n 0, 1) := by decide +kernel
theorem dX0_put_69 : decode cX0_put 69 = .ok (.getfield 28, 3) := by decide +kernel
theorem dX0_put_72 : decode cX0_put 72 = .ok (.iload_n 1, 1) := by decide +kernel
theorem dX0_put_73 : decode cX0_put 73 = .ok (.aload_n 0, 1) := by decide +kernel
theorem dX0_put_74 : decode cX0_put 74 = .ok (.iload_n 2, 1) := by decide +kernel
theorem dX0_put_75 : decode cX0_put 75 = .ok (.iload_n 3, 1) := by decide +kernel
theorem dX0_put_76 : decode cX0_put 76 = .ok (.iload 4, 2) := by decide +kernel
theorem dX0_put_78 : decode cX0_put 78 = .ok (.iload 5, 2) := by decide +kernel
theorem dX0_put_80 : decode cX0_put 80 = .ok (.invokevirtual 66, 3) := by decide +kernel
theorem dX0_put_83 : decode cX0_put 83 = .ok (.lastore, 1) := by decide +kernel
theorem dX0_put_84 : decode cX0_put 84 = .ok (.aload_n 0, 1) := by decide +kernel
theorem dX0_put_85 : decode cX0_put 85 = .ok (.getfield 31, 3) := by decide +kernel
theorem dX0_put_88 : decode cX0_put 88 = .ok (.iload_n 1, 1) := by decide +kernel
theorem dX0_put_89 : decode cX0_put 89 = .ok (.aload_n 0, 1) := by decide +kernel
theorem dX0_put_90 : decode cX0_put 90 = .ok (.iload_n 2, 1) := by decide +kernel
theorem dX0_put_91 : decode cX0_put 91 = .ok (.iload_n 3, 1) := by decide +kernel
theorem dX0_put_92 : decode cX0_put 92 = .ok (.iload 4, 2) := by decide +kernel
theorem dX0_put_94 : decode cX0_put 94 = .ok (.invokevirtual 70, 3) := by decide +kernel
theorem dX0_put_97 : decode cX0_put 97 = .ok (.lastore, 1) := by decide +kernel
theorem dX0_put_98 : decode cX0_put 98 = .ok (.aload_n 0, 1) := by decide +kernel
theorem dX0_put_99 : decode cX0_put 99 = .ok (.getfield 34, 3) := by decide +kernel
theorem dX0_put_102 : decode cX0_put 102 = .ok (.iload_n 1, 1) := by decide +kernel
theorem dX0_put_103 : decode cX0_put 103 = .ok (.aload_n 0, 1) := by decide +kernel
theorem dX0_put_104 : decode cX0_put 104 = .ok (.iload_n 2, 1) := by decide +kernel
theorem dX0_put_105 : decode cX0_put 105 = .ok (.iload_n 3, 1) := by decide +kernel
theorem dX0_put_106 : decode cX0_put 106 = .ok (.iload 4, 2) := by decide +kernel
theorem dX0_put_108 : decode cX0_put 108 = .ok (.invokevirtual 73, 3) := by decide +kernel
theorem dX0_put_111 : decode cX0_put 111 = .ok (.iastore, 1) := by decide +kernel
theorem dX0_put_112 : decode cX0_put 112 = .ok (.aload_n 0, 1) := by decide +kernel
theorem dX0_put_113 : decode cX0_put 113 = .ok (.getfield 37, 3) := by decide +kernel
theorem dX0_put_116 : decode cX0_put 116 = .ok (.iload_n 1, 1) := by decide +kernel
theorem dX0_put_117 : decode cX0_put 117 = .ok (.aload_n 0, 1) := by decide +kernel
theorem dX0_put_118 : decode cX0_put 118 = .ok (.iload_n 2, 1) := by decide +kernel
theorem dX0_put_119 : decode cX0_put 119 = .ok (.iload_n 3, 1) := by decide +kernel
theorem dX0_put_120 : decode cX0_put 120 = .ok (.iload 5, 2) := by decide +kernel
theorem dX0_put_122 : decode cX0_put 122 = .ok (.invokevirtual 77, 3) := by decide +kernel
theorem dX0_put_125 : decode cX0_put 125 = .ok (.iastore, 1) := by decide +kernel
theorem dX0_put_126 : decode cX0_put 126 = .ok (.return_, 1) := by decide +kernel
theorem dX0_lendsBeside_0 : decode cX0_lendsBeside 0 = .ok (.aload_n 0, 1) := by decide +kernel
theorem dX0_lendsBeside_1 : decode cX0_lendsBeside 1 = .ok (.getfield 58, 3) := by decide +kernel
theorem dX0_lendsBeside_4 : decode cX0_lendsBeside 4 = .ok (.aload_n 0, 1) := by decide +kernel
theorem dX0_lendsBeside_5 : decode cX0_lendsBeside 5 = .ok (.getfield 9, 3) := by decide +kernel
theorem dX0_lendsBeside_8 : decode cX0_lendsBeside 8 = .ok (.iload_n 1, 1) := by decide +kernel
theorem dX0_lendsBeside_9 : decode cX0_lendsBeside 9 = .ok (.iaload, 1) := by decide +kernel
theorem dX0_lendsBeside_10 : decode cX0_lendsBeside 10 = .ok (.bipush 7, 2) := by decide +kernel
theorem dX0_lendsBeside_12 : decode cX0_lendsBeside 12 = .ok (.if_icmp .ne 7, 3) := by decide +kernel
theorem dX0_lendsBeside_15 : decode cX0_lendsBeside 15 = .ok (.iconst 1, 1) := by decide +kernel
theorem dX0_lendsBeside_16 : decode cX0_lendsBeside 16 = .ok (.goto 4, 3) := by decide +kernel
theorem dX0_lendsBeside_19 : decode cX0_lendsBeside 19 = .ok (.iconst 0, 1) := by decide +kernel
theorem dX0_lendsBeside_20 : decode cX0_lendsBeside 20 = .ok (.invokestatic 54, 3) := by decide +kernel
theorem dX0_lendsBeside_23 : decode cX0_lendsBeside 23 = .ok (.isub, 1) := by decide +kernel
theorem dX0_lendsBeside_24 : decode cX0_lendsBeside 24 = .ok (.ireturn, 1) := by decide +kernel
theorem dX0_leavesWanted_0 : decode cX0_leavesWanted 0 = .ok (.iload_n 1, 1) := by decide +kernel
theorem dX0_leavesWanted_1 : decode cX0_leavesWanted 1 = .ok (.iconst 1, 1) := by decide +kernel
theorem dX0_leavesWanted_2 : decode cX0_leavesWanted 2 = .ok (.if_icmp .eq 42, 3) := by decide +kernel
theorem dX0_leavesWanted_5 : decode cX0_leavesWanted 5 = .ok (.iload_n 1, 1) := by decide +kernel
theorem dX0_leavesWanted_6 : decode cX0_leavesWanted 6 = .ok (.iconst 2, 1) := by decide +kernel
theorem dX0_leavesWanted_7 : decode cX0_leavesWanted 7 = .ok (.if_icmp .eq 37, 3) := by decide +kernel
theorem dX0_leavesWanted_10 : decode cX0_leavesWanted 10 = .ok (.iload_n 1, 1) := by decide +kernel
theorem dX0_leavesWanted_11 : decode cX0_leavesWanted 11 = .ok (.iconst 4, 1) := by decide +kernel
theorem dX0_leavesWanted_12 : decode cX0_leavesWanted 12 = .ok (.if_icmp .eq 32, 3) := by decide +kernel
theorem dX0_leavesWanted_15 : decode cX0_leavesWanted 15 = .ok (.iload_n 1, 1) := by decide +kernel
theorem dX0_leavesWanted_16 : decode cX0_leavesWanted 16 = .ok (.bipush 7, 2) := by decide +kernel
theorem dX0_leavesWanted_18 : decode cX0_leavesWanted 18 = .ok (.if_icmp .eq 26, 3) := by decide +kernel
theorem dX0_leavesWanted_21 : decode cX0_leavesWanted 21 = .ok (.iload_n 1, 1) := by decide +kernel
theorem dX0_leavesWanted_22 : decode cX0_leavesWanted 22 = .ok (.bipush 8, 2) := by decide +kernel
theorem dX0_leavesWanted_24 : decode cX0_leavesWanted 24 = .ok (.if_icmp .eq 20, 3) := by decide +kernel
theorem dX0_leavesWanted_27 : decode cX0_leavesWanted 27 = .ok (.iload_n 1, 1) := by decide +kernel
theorem dX0_leavesWanted_28 : decode cX0_leavesWanted 28 = .ok (.iconst 3, 1) := by decide +kernel
theorem dX0_leavesWanted_29 : decode cX0_leavesWanted 29 = .ok (.if_icmp .ne 19, 3) := by decide +kernel
theorem dX0_leavesWanted_32 : decode cX0_leavesWanted 32 = .ok (.aload_n 0, 1) := by decide +kernel
theorem dX0_leavesWanted_33 : decode cX0_leavesWanted 33 = .ok (.getfield 40, 3) := by decide +kernel
theorem dX0_leavesWanted_36 : decode cX0_leavesWanted 36 = .ok (.iload_n 2, 1) := by decide +kernel
theorem dX0_leavesWanted_37 : decode cX0_leavesWanted 37 = .ok (.iload_n 3, 1) := by decide +kernel
theorem dX0_leavesWanted_38 : decode cX0_leavesWanted 38 = .ok (.invokevirtual 80, 3) := by decide +kernel
theorem dX0_leavesWanted_41 : decode cX0_leavesWanted 41 = .ok (.ifCond .eq 7, 3) := by decide +kernel
theorem dX0_leavesWanted_44 : decode cX0_leavesWanted 44 = .ok (.iconst 1, 1) := by decide +kernel
theorem dX0_leavesWanted_45 : decode cX0_leavesWanted 45 = .ok (.goto 4, 3) := by decide +kernel
theorem dX0_leavesWanted_48 : decode cX0_leavesWanted 48 = .ok (.iconst 0, 1) := by decide +kernel
theorem dX0_leavesWanted_49 : decode cX0_leavesWanted 49 = .ok (.istore 4, 2) := by decide +kernel
theorem dX0_leavesWanted_51 : decode cX0_leavesWanted 51 = .ok (.iload 4, 2) := by decide +kernel
theorem dX0_leavesWanted_53 : decode cX0_leavesWanted 53 = .ok (.ifCond .eq 15, 3) := by decide +kernel
theorem dX0_leavesWanted_56 : decode cX0_leavesWanted 56 = .ok (.aload_n 0, 1) := by decide +kernel
theorem dX0_leavesWanted_57 : decode cX0_leavesWanted 57 = .ok (.getfield 40, 3) := by decide +kernel
theorem dX0_leavesWanted_60 : decode cX0_leavesWanted 60 = .ok (.iload_n 2, 1) := by decide +kernel
theorem dX0_leavesWanted_61 : decode cX0_leavesWanted 61 = .ok (.iload_n 3, 1) := by decide +kernel
theorem dX0_leavesWanted_62 : decode cX0_leavesWanted 62 = .ok (.invokevirtual 86, 3) := by decide +kernel
theorem dX0_leavesWanted_65 : decode cX0_leavesWanted 65 = .ok (.goto 4, 3) := by decide +kernel
theorem dX0_leavesWanted_68 : decode cX0_leavesWanted 68 = .ok (.lconst 0, 1) := by decide +kernel
theorem dX0_leavesWanted_69 : decode cX0_leavesWanted 69 = .ok (.lreturn, 1) := by decide +kernel
theorem dX0_leavesGiven_0 : decode cX0_leavesGiven 0 = .ok (.iload_n 1, 1) := by decide +kernel
theorem dX0_leavesGiven_1 : decode cX0_leavesGiven 1 = .ok (.bipush 7, 2) := by decide +kernel
theorem dX0_leavesGiven_3 : decode cX0_leavesGiven 3 = .ok (.if_icmp .eq 9, 3) := by decide +kernel
theorem dX0_leavesGiven_6 : decode cX0_leavesGiven 6 = .ok (.iload_n 1, 1) := by decide +kernel
theorem dX0_leavesGiven_7 : decode cX0_leavesGiven 7 = .ok (.bipush 8, 2) := by decide +kernel
theorem dX0_leavesGiven_9 : decode cX0_leavesGiven 9 = .ok (.if_icmp .ne 14, 3) := by decide +kernel
theorem dX0_leavesGiven_12 : decode cX0_leavesGiven 12 = .ok (.aload_n 0, 1) := by decide +kernel
theorem dX0_leavesGiven_13 : decode cX0_leavesGiven 13 = .ok (.getfield 40, 3) := by decide +kernel
theorem dX0_leavesGiven_16 : decode cX0_leavesGiven 16 = .ok (.iload 4, 2) := by decide +kernel
theorem dX0_leavesGiven_18 : decode cX0_leavesGiven 18 = .ok (.iconst 0, 1) := by decide +kernel
theorem dX0_leavesGiven_19 : decode cX0_leavesGiven 19 = .ok (.invokevirtual 86, 3) := by decide +kernel
theorem dX0_leavesGiven_22 : decode cX0_leavesGiven 22 = .ok (.lreturn, 1) := by decide +kernel
theorem dX0_leavesGiven_23 : decode cX0_leavesGiven 23 = .ok (.iload_n 1, 1) := by decide +kernel
theorem dX0_leavesGiven_24 : decode cX0_leavesGiven 24 = .ok (.iconst 3, 1) := by decide +kernel
theorem dX0_leavesGiven_25 : decode cX0_leavesGiven 25 = .ok (.if_icmp .ne 19, 3) := by decide +kernel
theorem dX0_leavesGiven_28 : decode cX0_leavesGiven 28 = .ok (.aload_n 0, 1) := by decide +kernel
theorem dX0_leavesGiven_29 : decode cX0_leavesGiven 29 = .ok (.getfield 40, 3) := by decide +kernel
theorem dX0_leavesGiven_32 : decode cX0_leavesGiven 32 = .ok (.iload_n 2, 1) := by decide +kernel
theorem dX0_leavesGiven_33 : decode cX0_leavesGiven 33 = .ok (.iload_n 3, 1) := by decide +kernel
theorem dX0_leavesGiven_34 : decode cX0_leavesGiven 34 = .ok (.invokevirtual 80, 3) := by decide +kernel
theorem dX0_leavesGiven_37 : decode cX0_leavesGiven 37 = .ok (.ifCond .ne 7, 3) := by decide +kernel
theorem dX0_leavesGiven_40 : decode cX0_leavesGiven 40 = .ok (.iconst 1, 1) := by decide +kernel
theorem dX0_leavesGiven_41 : decode cX0_leavesGiven 41 = .ok (.goto 4, 3) := by decide +kernel
theorem dX0_leavesGiven_44 : decode cX0_leavesGiven 44 = .ok (.iconst 0, 1) := by decide +kernel
theorem dX0_leavesGiven_45 : decode cX0_leavesGiven 45 = .ok (.istore 5, 2) := by decide +kernel
theorem dX0_leavesGiven_47 : decode cX0_leavesGiven 47 = .ok (.iload 5, 2) := by decide +kernel
theorem dX0_leavesGiven_49 : decode cX0_leavesGiven 49 = .ok (.ifCond .eq 15, 3) := by decide +kernel
theorem dX0_leavesGiven_52 : decode cX0_leavesGiven 52 = .ok (.aload_n 0, 1) := by decide +kernel
theorem dX0_leavesGiven_53 : decode cX0_leavesGiven 53 = .ok (.getfield 40, 3) := by decide +kernel
theorem dX0_leavesGiven_56 : decode cX0_leavesGiven 56 = .ok (.iload_n 2, 1) := by decide +kernel
theorem dX0_leavesGiven_57 : decode cX0_leavesGiven 57 = .ok (.iload_n 3, 1) := by decide +kernel
theorem dX0_leavesGiven_58 : decode cX0_leavesGiven 58 = .ok (.invokevirtual 86, 3) := by decide +kernel
theorem dX0_leavesGiven_61 : decode cX0_leavesGiven 61 = .ok (.goto 4, 3) := by decide +kernel
theorem dX0_leavesGiven_64 : decode cX0_leavesGiven 64 = .ok (.lconst 0, 1) := by decide +kernel
theorem dX0_leavesGiven_65 : decode cX0_leavesGiven 65 = .ok (.lreturn, 1) := by decide +kernel
theorem dX0_leavesTaken_0 : decode cX0_leavesTaken 0 = .ok (.iload_n 1, 1) := by decide +kernel
theorem dX0_leavesTaken_1 : decode cX0_leavesTaken 1 = .ok (.iconst 2, 1) := by decide +kernel
theorem dX0_leavesTaken_2 : decode cX0_leavesTaken 2 = .ok (.if_icmp .eq 25, 3) := by decide +kernel
theorem dX0_leavesTaken_5 : decode cX0_leavesTaken 5 = .ok (.iload_n 1, 1) := by decide +kernel
theorem dX0_leavesTaken_6 : decode cX0_leavesTaken 6 = .ok (.iconst 5, 1) := by decide +kernel
theorem dX0_leavesTaken_7 : decode cX0_leavesTaken 7 = .ok (.if_icmp .eq 20, 3) := by decide +kernel
theorem dX0_leavesTaken_10 : decode cX0_leavesTaken 10 = .ok (.iload_n 1, 1) := by decide +kernel
theorem dX0_leavesTaken_11 : decode cX0_leavesTaken 11 = .ok (.bipush 8, 2) := by decide +kernel
theorem dX0_leavesTaken_13 : decode cX0_leavesTaken 13 = .ok (.if_icmp .ne 18, 3) := by decide +kernel
theorem dX0_leavesTaken_16 : decode cX0_leavesTaken 16 = .ok (.aload_n 0, 1) := by decide +kernel
theorem dX0_leavesTaken_17 : decode cX0_leavesTaken 17 = .ok (.getfield 40, 3) := by decide +kernel
theorem dX0_leavesTaken_20 : decode cX0_leavesTaken 20 = .ok (.iload_n 2, 1) := by decide +kernel
theorem dX0_leavesTaken_21 : decode cX0_leavesTaken 21 = .ok (.invokevirtual 90, 3) := by decide +kernel
theorem dX0_leavesTaken_24 : decode cX0_leavesTaken 24 = .ok (.ifCond .eq 7, 3) := by decide +kernel
theorem dX0_leavesTaken_27 : decode cX0_leavesTaken 27 = .ok (.iconst 1, 1) := by decide +kernel
theorem dX0_leavesTaken_28 : decode cX0_leavesTaken 28 = .ok (.goto 4, 3) := by decide +kernel
theorem dX0_leavesTaken_31 : decode cX0_leavesTaken 31 = .ok (.iconst 0, 1) := by decide +kernel
theorem dX0_leavesTaken_32 : decode cX0_leavesTaken 32 = .ok (.istore 4, 2) := by decide +kernel
theorem dX0_leavesTaken_34 : decode cX0_leavesTaken 34 = .ok (.iload 4, 2) := by decide +kernel
theorem dX0_leavesTaken_36 : decode cX0_leavesTaken 36 = .ok (.ifCond .eq 15, 3) := by decide +kernel
theorem dX0_leavesTaken_39 : decode cX0_leavesTaken 39 = .ok (.aload_n 0, 1) := by decide +kernel
theorem dX0_leavesTaken_40 : decode cX0_leavesTaken 40 = .ok (.getfield 40, 3) := by decide +kernel
theorem dX0_leavesTaken_43 : decode cX0_leavesTaken 43 = .ok (.iload_n 2, 1) := by decide +kernel
theorem dX0_leavesTaken_44 : decode cX0_leavesTaken 44 = .ok (.iload_n 3, 1) := by decide +kernel
theorem dX0_leavesTaken_45 : decode cX0_leavesTaken 45 = .ok (.invokevirtual 86, 3) := by decide +kernel
theorem dX0_leavesTaken_48 : decode cX0_leavesTaken 48 = .ok (.goto 4, 3) := by decide +kernel
theorem dX0_leavesTaken_51 : decode cX0_leavesTaken 51 = .ok (.lconst 0, 1) := by decide +kernel
theorem dX0_leavesTaken_52 : decode cX0_leavesTaken 52 = .ok (.lreturn, 1) := by decide +kernel
theorem dX0_referenceUsed_0 : decode cX0_referenceUsed 0 = .ok (.iload_n 1, 1) := by decide +kernel
theorem dX0_referenceUsed_1 : decode cX0_referenceUsed 1 = .ok (.invokestatic 94, 3) := by decide +kernel
theorem dX0_referenceUsed_4 : decode cX0_referenceUsed 4 = .ok (.ifCond .eq 19, 3) := by decide +kernel
theorem dX0_referenceUsed_7 : decode cX0_referenceUsed 7 = .ok (.aload_n 0, 1) := by decide +kernel
theorem dX0_referenceUsed_8 : decode cX0_referenceUsed 8 = .ok (.getfield 40, 3) := by decide +kernel
theorem dX0_referenceUsed_11 : decode cX0_referenceUsed 11 = .ok (.iload_n 2, 1) := by decide +kernel
theorem dX0_referenceUsed_12 : decode cX0_referenceUsed 12 = .ok (.iload_n 3, 1) := by decide +kernel
theorem dX0_referenceUsed_13 : decode cX0_referenceUsed 13 = .ok (.invokevirtual 97, 3) := by decide +kernel
theorem dX0_referenceUsed_16 : decode cX0_referenceUsed 16 = .ok (.ifCond .eq 7, 3) := by decide +kernel
theorem dX0_referenceUsed_19 : decode cX0_referenceUsed 19 = .ok (.iconst 1, 1) := by decide +kernel
theorem dX0_referenceUsed_20 : decode cX0_referenceUsed 20 = .ok (.goto 4, 3) := by decide +kernel
theorem dX0_referenceUsed_23 : decode cX0_referenceUsed 23 = .ok (.iconst 0, 1) := by decide +kernel
theorem dX0_referenceUsed_24 : decode cX0_referenceUsed 24 = .ok (.istore 4, 2) := by decide +kernel
theorem dX0_referenceUsed_26 : decode cX0_referenceUsed 26 = .ok (.iload 4, 2) := by decide +kernel
theorem dX0_referenceUsed_28 : decode cX0_referenceUsed 28 = .ok (.ifCond .ne 9, 3) := by decide +kernel
theorem dX0_referenceUsed_31 : decode cX0_referenceUsed 31 = .ok (.iload_n 1, 1) := by decide +kernel
theorem dX0_referenceUsed_32 : decode cX0_referenceUsed 32 = .ok (.bipush 8, 2) := by decide +kernel
theorem dX0_referenceUsed_34 : decode cX0_referenceUsed 34 = .ok (.if_icmp .ne 7, 3) := by decide +kernel
theorem dX0_referenceUsed_37 : decode cX0_referenceUsed 37 = .ok (.iload_n 2, 1) := by decide +kernel
theorem dX0_referenceUsed_38 : decode cX0_referenceUsed 38 = .ok (.goto 4, 3) := by decide +kernel
theorem dX0_referenceUsed_41 : decode cX0_referenceUsed 41 = .ok (.iconst (-1), 1) := by decide +kernel
theorem dX0_referenceUsed_42 : decode cX0_referenceUsed 42 = .ok (.ireturn, 1) := by decide +kernel
theorem dX0_referenceRenewed_0 : decode cX0_referenceRenewed 0 = .ok (.iload_n 1, 1) := by decide +kernel
theorem dX0_referenceRenewed_1 : decode cX0_referenceRenewed 1 = .ok (.iconst 5, 1) := by decide +kernel
theorem dX0_referenceRenewed_2 : decode cX0_referenceRenewed 2 = .ok (.if_icmp .ne 20, 3) := by decide +kernel
theorem dX0_referenceRenewed_5 : decode cX0_referenceRenewed 5 = .ok (.aload_n 0, 1) := by decide +kernel
theorem dX0_referenceRenewed_6 : decode cX0_referenceRenewed 6 = .ok (.getfield 40, 3) := by decide +kernel
theorem dX0_referenceRenewed_9 : decode cX0_referenceRenewed 9 = .ok (.iload_n 2, 1) := by decide +kernel
theorem dX0_referenceRenewed_10 : decode cX0_referenceRenewed 10 = .ok (.invokevirtual 100, 3) := by decide +kernel
theorem dX0_referenceRenewed_13 : decode cX0_referenceRenewed 13 = .ok (.ifCond .eq 7, 3) := by decide +kernel
theorem dX0_referenceRenewed_16 : decode cX0_referenceRenewed 16 = .ok (.iload_n 2, 1) := by decide +kernel
theorem dX0_referenceRenewed_17 : decode cX0_referenceRenewed 17 = .ok (.goto 4, 3) := by decide +kernel
theorem dX0_referenceRenewed_20 : decode cX0_referenceRenewed 20 = .ok (.iconst (-1), 1) := by decide +kernel
theorem dX0_referenceRenewed_21 : decode cX0_referenceRenewed 21 = .ok (.ireturn, 1) := by decide +kernel
theorem dX0_referenceRenewed_22 : decode cX0_referenceRenewed 22 = .ok (.iload_n 1, 1) := by decide +kernel
theorem dX0_referenceRenewed_23 : decode cX0_referenceRenewed 23 = .ok (.bipush 7, 2) := by decide +kernel
theorem dX0_referenceRenewed_25 : decode cX0_referenceRenewed 25 = .ok (.if_icmp .eq 9, 3) := by decide +kernel
theorem dX0_referenceRenewed_28 : decode cX0_referenceRenewed 28 = .ok (.iload_n 1, 1) := by decide +kernel
theorem dX0_referenceRenewed_29 : decode cX0_referenceRenewed 29 = .ok (.bipush 8, 2) := by decide +kernel
theorem dX0_referenceRenewed_31 : decode cX0_referenceRenewed 31 = .ok (.if_icmp .ne 7, 3) := by decide +kernel
theorem dX0_referenceRenewed_34 : decode cX0_referenceRenewed 34 = .ok (.iload_n 3, 1) := by decide +kernel
theorem dX0_referenceRenewed_35 : decode cX0_referenceRenewed 35 = .ok (.goto 4, 3) := by decide +kernel
theorem dX0_referenceRenewed_38 : decode cX0_referenceRenewed 38 = .ok (.iconst (-1), 1) := by decide +kernel
theorem dX0_referenceRenewed_39 : decode cX0_referenceRenewed 39 = .ok (.ireturn, 1) := by decide +kernel
theorem dX0_isOnPlace_0 : decode cX0_isOnPlace 0 = .ok (.iload_n 0, 1) := by decide +kernel
theorem dX0_isOnPlace_1 : decode cX0_isOnPlace 1 = .ok (.iconst 1, 1) := by decide +kernel
theorem dX0_isOnPlace_2 : decode cX0_isOnPlace 2 = .ok (.if_icmp .eq 24, 3) := by decide +kernel
theorem dX0_isOnPlace_5 : decode cX0_isOnPlace 5 = .ok (.iload_n 0, 1) := by decide +kernel
theorem dX0_isOnPlace_6 : decode cX0_isOnPlace 6 = .ok (.iconst 2, 1) := by decide +kernel
theorem dX0_isOnPlace_7 : decode cX0_isOnPlace 7 = .ok (.if_icmp .eq 19, 3) := by decide +kernel
theorem dX0_isOnPlace_10 : decode cX0_isOnPlace 10 = .ok (.iload_n 0, 1) := by decide +kernel
theorem dX0_isOnPlace_11 : decode cX0_isOnPlace 11 = .ok (.iconst 3, 1) := by decide +kernel
theorem dX0_isOnPlace_12 : decode cX0_isOnPlace 12 = .ok (.if_icmp .eq 14, 3) := by decide +kernel
theorem dX0_isOnPlace_15 : decode cX0_isOnPlace 15 = .ok (.iload_n 0, 1) := by decide +kernel
theorem dX0_isOnPlace_16 : decode cX0_isOnPlace 16 = .ok (.iconst 4, 1) := by decide +kernel
theorem dX0_isOnPlace_17 : decode cX0_isOnPlace 17 = .ok (.if_icmp .eq 9, 3) := by decide +kernel
theorem dX0_isOnPlace_20 : decode cX0_isOnPlace 20 = .ok (.iload_n 0, 1) := by decide +kernel
theorem dX0_isOnPlace_21 : decode cX0_isOnPlace 21 = .ok (.bipush 7, 2) := by decide +kernel
theorem dX0_isOnPlace_23 : decode cX0_isOnPlace 23 = .ok (.if_icmp .ne 7, 3) := by decide +kernel
theorem dX0_isOnPlace_26 : decode cX0_isOnPlace 26 = .ok (.iconst 1, 1) := by decide +kernel
theorem dX0_isOnPlace_27 : decode cX0_isOnPlace 27 = .ok (.goto 4, 3) := by decide +kernel
theorem dX0_isOnPlace_30 : decode cX0_isOnPlace 30 = .ok (.iconst 0, 1) := by decide +kernel
theorem dX0_isOnPlace_31 : decode cX0_isOnPlace 31 = .ok (.ireturn, 1) := by decide +kernel
theorem dX0_wantedAt_0 : decode cX0_wantedAt 0 = .ok (.aload_n 0, 1) := by decide +kernel
theorem dX0_wantedAt_1 : decode cX0_wantedAt 1 = .ok (.getfield 24, 3) := by decide +kernel
theorem dX0_wantedAt_4 : decode cX0_wantedAt 4 = .ok (.iload_n 1, 1) := by decide +kernel
theorem dX0_wantedAt_5 : decode cX0_wantedAt 5 = .ok (.laload, 1) := by decide +kernel
theorem dX0_wantedAt_6 : decode cX0_wantedAt 6 = .ok (.lreturn, 1) := by decide +kernel
theorem dX0_givenAt_0 : decode cX0_givenAt 0 = .ok (.aload_n 0, 1) := by decide +kernel
theorem dX0_givenAt_1 : decode cX0_givenAt 1 = .ok (.getfield 28, 3) := by decide +kernel
theorem dX0_givenAt_4 : decode cX0_givenAt 4 = .ok (.iload_n 1, 1) := by decide +kernel
theorem dX0_givenAt_5 : decode cX0_givenAt 5 = .ok (.laload, 1) := by decide +kernel
theorem dX0_givenAt_6 : decode cX0_givenAt 6 = .ok (.lreturn, 1) := by decide +kernel
theorem dX0_takenAt_0 : decode cX0_takenAt 0 = .ok (.aload_n 0, 1) := by decide +kernel
theorem dX0_takenAt_1 : decode cX0_takenAt 1 = .ok (.getfield 31, 3) := by decide +kernel
theorem dX0_takenAt_4 : decode cX0_takenAt 4 = .ok (.iload_n 1, 1) := by decide +kernel
theorem dX0_takenAt_5 : decode cX0_takenAt 5 = .ok (.laload, 1) := by decide +kernel
theorem dX0_takenAt_6 : decode cX0_takenAt 6 = .ok (.lreturn, 1) := by decide +kernel
theorem dX0_variableAt_0 : decode cX0_variableAt 0 = .ok (.aload_n 0, 1) := by decide +kernel
theorem dX0_variableAt_1 : decode cX0_variableAt 1 = .ok (.getfield 15, 3) := by decide +kernel
theorem dX0_variableAt_4 : decode cX0_variableAt 4 = .ok (.iload_n 1, 1) := by decide +kernel
theorem dX0_variableAt_5 : decode cX0_variableAt 5 = .ok (.iaload, 1) := by decide +kernel
theorem dX0_variableAt_6 : decode cX0_variableAt 6 = .ok (.ireturn, 1) := by decide +kernel
theorem dX0_pathAt_0 : decode cX0_pathAt 0 = .ok (.aload_n 0, 1) := by decide +kernel
theorem dX0_pathAt_1 : decode cX0_pathAt 1 = .ok (.getfield 18, 3) := by decide +kernel
theorem dX0_pathAt_4 : decode cX0_pathAt 4 = .ok (.iload_n 1, 1) := by decide +kernel
theorem dX0_pathAt_5 : decode cX0_pathAt 5 = .ok (.iaload, 1) := by decide +kernel
theorem dX0_pathAt_6 : decode cX0_pathAt 6 = .ok (.ireturn, 1) := by decide +kernel
theorem dX0_makesLoan_0 : decode cX0_makesLoan 0 = .ok (.aload_n 0, 1) := by decide +kernel
theorem dX0_makesLoan_1 : decode cX0_makesLoan 1 = .ok (.getfield 9, 3) := by decide +kernel
theorem dX0_makesLoan_4 : decode cX0_makesLoan 4 = .ok (.iload_n 1, 1) := by decide +kernel
theorem dX0_makesLoan_5 : decode cX0_makesLoan 5 = .ok (.iaload, 1) := by decide +kernel
theorem dX0_makesLoan_6 : decode cX0_makesLoan 6 = .ok (.bipush 7, 2) := by decide +kernel
theorem dX0_makesLoan_8 : decode cX0_makesLoan 8 = .ok (.if_icmp .ne 23, 3) := by decide +kernel
theorem dX0_makesLoan_11 : decode cX0_makesLoan 11 = .ok (.aload_n 0, 1) := by decide +kernel
theorem dX0_makesLoan_12 : decode cX0_makesLoan 12 = .ok (.getfield 40, 3) := by decide +kernel
theorem dX0_makesLoan_15 : decode cX0_makesLoan 15 = .ok (.aload_n 0, 1) := by decide +kernel
theorem dX0_makesLoan_16 : decode cX0_makesLoan 16 = .ok (.getfield 15, 3) := by decide +kernel
theorem dX0_makesLoan_19 : decode cX0_makesLoan 19 = .ok (.iload_n 1, 1) := by decide +kernel
theorem dX0_makesLoan_20 : decode cX0_makesLoan 20 = .ok (.iaload, 1) := by decide +kernel
theorem dX0_makesLoan_21 : decode cX0_makesLoan 21 = .ok (.invokevirtual 103, 3) := by decide +kernel
theorem dX0_makesLoan_24 : decode cX0_makesLoan 24 = .ok (.ifCond .ne 7, 3) := by decide +kernel
theorem dX0_makesLoan_27 : decode cX0_makesLoan 27 = .ok (.iconst 1, 1) := by decide +kernel
theorem dX0_makesLoan_28 : decode cX0_makesLoan 28 = .ok (.goto 4, 3) := by decide +kernel
theorem dX0_makesLoan_31 : decode cX0_makesLoan 31 = .ok (.iconst 0, 1) := by decide +kernel
theorem dX0_makesLoan_32 : decode cX0_makesLoan 32 = .ok (.ireturn, 1) := by decide +kernel
theorem dX0_makesSoleLoan_0 : decode cX0_makesSoleLoan 0 = .ok (.aload_n 0, 1) := by decide +kernel
theorem dX0_makesSoleLoan_1 : decode cX0_makesSoleLoan 1 = .ok (.iload_n 1, 1) := by decide +kernel
theorem dX0_makesSoleLoan_2 : decode cX0_makesSoleLoan 2 = .ok (.invokevirtual 106, 3) := by decide +kernel
theorem dX0_makesSoleLoan_5 : decode cX0_makesSoleLoan 5 = .ok (.ifCond .eq 23, 3) := by decide +kernel
theorem dX0_makesSoleLoan_8 : decode cX0_makesSoleLoan 8 = .ok (.aload_n 0, 1) := by decide +kernel
theorem dX0_makesSoleLoan_9 : decode cX0_makesSoleLoan 9 = .ok (.getfield 40, 3) := by decide +kernel
theorem dX0_makesSoleLoan_12 : decode cX0_makesSoleLoan 12 = .ok (.aload_n 0, 1) := by decide +kernel
theorem dX0_makesSoleLoan_13 : decode cX0_makesSoleLoan 13 = .ok (.getfield 21, 3) := by decide +kernel
theorem dX0_makesSoleLoan_16 : decode cX0_makesSoleLoan 16 = .ok (.iload_n 1, 1) := by decide +kernel
theorem dX0_makesSoleLoan_17 : decode cX0_makesSoleLoan 17 = .ok (.iaload, 1) := by decide +kernel
theorem dX0_makesSoleLoan_18 : decode cX0_makesSoleLoan 18 = .ok (.invokevirtual 90, 3) := by decide +kernel
theorem dX0_makesSoleLoan_21 : decode cX0_makesSoleLoan 21 = .ok (.ifCond .eq 7, 3) := by decide +kernel
theorem dX0_makesSoleLoan_24 : decode cX0_makesSoleLoan 24 = .ok (.iconst 1, 1) := by decide +kernel
theorem dX0_makesSoleLoan_25 : decode cX0_makesSoleLoan 25 = .ok (.goto 4, 3) := by decide +kernel
theorem dX0_makesSoleLoan_28 : decode cX0_makesSoleLoan 28 = .ok (.iconst 0, 1) := by decide +kernel
theorem dX0_makesSoleLoan_29 : decode cX0_makesSoleLoan 29 = .ok (.ireturn, 1) := by decide +kernel
theorem dX0_usedAt_0 : decode cX0_usedAt 0 = .ok (.aload_n 0, 1) := by decide +kernel
theorem dX0_usedAt_1 : decode cX0_usedAt 1 = .ok (.getfield 34, 3) := by decide +kernel
theorem dX0_usedAt_4 : decode cX0_usedAt 4 = .ok (.iload_n 1, 1) := by decide +kernel
theorem dX0_usedAt_5 : decode cX0_usedAt 5 = .ok (.iaload, 1) := by decide +kernel
theorem dX0_usedAt_6 : decode cX0_usedAt 6 = .ok (.ireturn, 1) := by decide +kernel
theorem dX0_renewedAt_0 : decode cX0_renewedAt 0 = .ok (.aload_n 0, 1) := by decide +kernel
theorem dX0_renewedAt_1 : decode cX0_renewedAt 1 = .ok (.getfield 37, 3) := by decide +kernel
theorem dX0_renewedAt_4 : decode cX0_renewedAt 4 = .ok (.iload_n 1, 1) := by decide +kernel
theorem dX0_renewedAt_5 : decode cX0_renewedAt 5 = .ok (.iaload, 1) := by decide +kernel
theorem dX0_renewedAt_6 : decode cX0_renewedAt 6 = .ok (.ireturn, 1) := by decide +kernel
theorem dX0_canClash_0 : decode cX0_canClash 0 = .ok (.aload_n 0, 1) := by decide +kernel
theorem dX0_canClash_1 : decode cX0_canClash 1 = .ok (.getfield 9, 3) := by decide +kernel
theorem dX0_canClash_4 : decode cX0_canClash 4 = .ok (.iload_n 1, 1) := by decide +kernel
theorem dX0_canClash_5 : decode cX0_canClash 5 = .ok (.iaload, 1) := by decide +kernel
theorem dX0_canClash_6 : decode cX0_canClash 6 = .ok (.bipush 6, 2) := by decide +kernel
theorem dX0_canClash_8 : decode cX0_canClash 8 = .ok (.if_icmp .ne 25, 3) := by decide +kernel
theorem dX0_canClash_11 : decode cX0_canClash 11 = .ok (.aload_n 0, 1) := by decide +kernel
theorem dX0_canClash_12 : decode cX0_canClash 12 = .ok (.getfield 40, 3) := by decide +kernel
theorem dX0_canClash_15 : decode cX0_canClash 15 = .ok (.aload_n 0, 1) := by decide +kernel
theorem dX0_canClash_16 : decode cX0_canClash 16 = .ok (.getfield 15, 3) := by decide +kernel
theorem dX0_canClash_19 : decode cX0_canClash 19 = .ok (.iload_n 1, 1) := by decide +kernel
theorem dX0_canClash_20 : decode cX0_canClash 20 = .ok (.iaload, 1) := by decide +kernel
theorem dX0_canClash_21 : decode cX0_canClash 21 = .ok (.invokevirtual 100, 3) := by decide +kernel
theorem dX0_canClash_24 : decode cX0_canClash 24 = .ok (.ifCond .ne 7, 3) := by decide +kernel
theorem dX0_canClash_27 : decode cX0_canClash 27 = .ok (.iconst 1, 1) := by decide +kernel
theorem dX0_canClash_28 : decode cX0_canClash 28 = .ok (.goto 4, 3) := by decide +kernel
theorem dX0_canClash_31 : decode cX0_canClash 31 = .ok (.iconst 0, 1) := by decide +kernel
theorem dX0_canClash_32 : decode cX0_canClash 32 = .ok (.ireturn, 1) := by decide +kernel
theorem dX0_canClash_33 : decode cX0_canClash 33 = .ok (.aload_n 0, 1) := by decide +kernel
theorem dX0_canClash_34 : decode cX0_canClash 34 = .ok (.getfield 9, 3) := by decide +kernel
theorem dX0_canClash_37 : decode cX0_canClash 37 = .ok (.iload_n 1, 1) := by decide +kernel
theorem dX0_canClash_38 : decode cX0_canClash 38 = .ok (.iaload, 1) := by decide +kernel
theorem dX0_canClash_39 : decode cX0_canClash 39 = .ok (.invokestatic 94, 3) := by decide +kernel
theorem dX0_canClash_42 : decode cX0_canClash 42 = .ok (.ifCond .ne 14, 3) := by decide +kernel
theorem dX0_canClash_45 : decode cX0_canClash 45 = .ok (.aload_n 0, 1) := by decide +kernel
theorem dX0_canClash_46 : decode cX0_canClash 46 = .ok (.getfield 9, 3) := by decide +kernel
theorem dX0_canClash_49 : decode cX0_canClash 49 = .ok (.iload_n 1, 1) := by decide +kernel
theorem dX0_canClash_50 : decode cX0_canClash 50 = .ok (.iaload, 1) := by decide +kernel
theorem dX0_canClash_51 : decode cX0_canClash 51 = .ok (.bipush 8, 2) := by decide +kernel
theorem dX0_canClash_53 : decode cX0_canClash 53 = .ok (.if_icmp .ne 7, 3) := by decide +kernel
theorem dX0_canClash_56 : decode cX0_canClash 56 = .ok (.iconst 1, 1) := by decide +kernel
theorem dX0_canClash_57 : decode cX0_canClash 57 = .ok (.goto 4, 3) := by decide +kernel
theorem dX0_canClash_60 : decode cX0_canClash 60 = .ok (.iconst 0, 1) := by decide +kernel
theorem dX0_canClash_61 : decode cX0_canClash 61 = .ok (.ireturn, 1) := by decide +kernel
theorem dX0_onlyLooks_0 : decode cX0_onlyLooks 0 = .ok (.aload_n 0, 1) := by decide +kernel
theorem dX0_onlyLooks_1 : decode cX0_onlyLooks 1 = .ok (.getfield 9, 3) := by decide +kernel
theorem dX0_onlyLooks_4 : decode cX0_onlyLooks 4 = .ok (.iload_n 1, 1) := by decide +kernel
theorem dX0_onlyLooks_5 : decode cX0_onlyLooks 5 = .ok (.iaload, 1) := by decide +kernel
theorem dX0_onlyLooks_6 : decode cX0_onlyLooks 6 = .ok (.istore_n 2, 1) := by decide +kernel
theorem dX0_onlyLooks_7 : decode cX0_onlyLooks 7 = .ok (.iload_n 2, 1) := by decide +kernel
theorem dX0_onlyLooks_8 : decode cX0_onlyLooks 8 = .ok (.iconst 1, 1) := by decide +kernel
theorem dX0_onlyLooks_9 : decode cX0_onlyLooks 9 = .ok (.if_icmp .eq 47, 3) := by decide +kernel
theorem dX0_onlyLooks_12 : decode cX0_onlyLooks 12 = .ok (.iload_n 2, 1) := by decide +kernel
theorem dX0_onlyLooks_13 : decode cX0_onlyLooks 13 = .ok (.bipush 7, 2) := by decide +kernel
theorem dX0_onlyLooks_15 : decode cX0_onlyLooks 15 = .ok (.if_icmp .ne 19, 3) := by decide +kernel
theorem dX0_onlyLooks_18 : decode cX0_onlyLooks 18 = .ok (.aload_n 0, 1) := by decide +kernel
theorem dX0_onlyLooks_19 : decode cX0_onlyLooks 19 = .ok (.getfield 40, 3) := by decide +kernel
theorem dX0_onlyLooks_22 : decode cX0_onlyLooks 22 = .ok (.aload_n 0, 1) := by decide +kernel
theorem dX0_onlyLooks_23 : decode cX0_onlyLooks 23 = .ok (.getfield 21, 3) := by decide +kernel
theorem dX0_onlyLooks_26 : decode cX0_onlyLooks 26 = .ok (.iload_n 1, 1) := by decide +kernel
theorem dX0_onlyLooks_27 : decode cX0_onlyLooks 27 = .ok (.iaload, 1) := by decide +kernel
theorem dX0_onlyLooks_28 : decode cX0_onlyLooks 28 = .ok (.invokevirtual 103, 3) := by decide +kernel
theorem dX0_onlyLooks_31 : decode cX0_onlyLooks 31 = .ok (.ifCond .ne 25, 3) := by decide +kernel
theorem dX0_onlyLooks_34 : decode cX0_onlyLooks 34 = .ok (.iload_n 2, 1) := by decide +kernel
theorem dX0_onlyLooks_35 : decode cX0_onlyLooks 35 = .ok (.bipush 8, 2) := by decide +kernel
theorem dX0_onlyLooks_37 : decode cX0_onlyLooks 37 = .ok (.if_icmp .ne 23, 3) := by decide +kernel
theorem dX0_onlyLooks_40 : decode cX0_onlyLooks 40 = .ok (.aload_n 0, 1) := by decide +kernel
theorem dX0_onlyLooks_41 : decode cX0_onlyLooks 41 = .ok (.getfield 40, 3) := by decide +kernel
theorem dX0_onlyLooks_44 : decode cX0_onlyLooks 44 = .ok (.aload_n 0, 1) := by decide +kernel
theorem dX0_onlyLooks_45 : decode cX0_onlyLooks 45 = .ok (.getfield 15, 3) := by decide +kernel
theorem dX0_onlyLooks_48 : decode cX0_onlyLooks 48 = .ok (.iload_n 1, 1) := by decide +kernel
theorem dX0_onlyLooks_49 : decode cX0_onlyLooks 49 = .ok (.iaload, 1) := by decide +kernel
theorem dX0_onlyLooks_50 : decode cX0_onlyLooks 50 = .ok (.invokevirtual 103, 3) := by decide +kernel
theorem dX0_onlyLooks_53 : decode cX0_onlyLooks 53 = .ok (.ifCond .eq 7, 3) := by decide +kernel
theorem dX0_onlyLooks_56 : decode cX0_onlyLooks 56 = .ok (.iconst 1, 1) := by decide +kernel
theorem dX0_onlyLooks_57 : decode cX0_onlyLooks 57 = .ok (.goto 4, 3) := by decide +kernel
theorem dX0_onlyLooks_60 : decode cX0_onlyLooks 60 = .ok (.iconst 0, 1) := by decide +kernel
theorem dX0_onlyLooks_61 : decode cX0_onlyLooks 61 = .ok (.ireturn, 1) := by decide +kernel
theorem dX1_init_0 : decode cX1_init 0 = .ok (.aload_n 0, 1) := by decide +kernel
theorem dX1_init_1 : decode cX1_init 1 = .ok (.invokespecial 3, 3) := by decide +kernel
theorem dX1_init_4 : decode cX1_init 4 = .ok (.aload_n 0, 1) := by decide +kernel
theorem dX1_init_5 : decode cX1_init 5 = .ok (.sipush 150, 3) := by decide +kernel
theorem dX1_init_8 : decode cX1_init 8 = .ok (.newarray .long, 2) := by decide +kernel
theorem dX1_init_10 : decode cX1_init 10 = .ok (.putfield 9, 3) := by decide +kernel
theorem dX1_init_13 : decode cX1_init 13 = .ok (.aload_n 0, 1) := by decide +kernel
theorem dX1_init_14 : decode cX1_init 14 = .ok (.sipush 150, 3) := by decide +kernel
theorem dX1_init_17 : decode cX1_init 17 = .ok (.newarray .long, 2) := by decide +kernel
theorem dX1_init_19 : decode cX1_init 19 = .ok (.putfield 15, 3) := by decide +kernel
theorem dX1_init_22 : decode cX1_init 22 = .ok (.aload_n 0, 1) := by decide +kernel
theorem dX1_init_23 : decode cX1_init 23 = .ok (.sipush 150, 3) := by decide +kernel
theorem dX1_init_26 : decode cX1_init 26 = .ok (.newarray .int, 2) := by decide +kernel
theorem dX1_init_28 : decode cX1_init 28 = .ok (.putfield 18, 3) := by decide +kernel
theorem dX1_init_31 : decode cX1_init 31 = .ok (.aload_n 0, 1) := by decide +kernel
theorem dX1_init_32 : decode cX1_init 32 = .ok (.aload_n 1, 1) := by decide +kernel
theorem dX1_init_33 : decode cX1_init 33 = .ok (.putfield 22, 3) := by decide +kernel
theorem dX1_init_36 : decode cX1_init 36 = .ok (.aload_n 0, 1) := by decide +kernel
theorem dX1_init_37 : decode cX1_init 37 = .ok (.aload_n 2, 1) := by decide +kernel
theorem dX1_init_38 : decode cX1_init 38 = .ok (.putfield 26, 3) := by decide +kernel
theorem dX1_init_41 : decode cX1_init 41 = .ok (.return_, 1) := by decide +kernel
theorem dX1_flow_0 : decode cX1_flow 0 = .ok (.aload_n 0, 1) := by decide +kernel
theorem dX1_flow_1 : decode cX1_flow 1 = .ok (.getfield 9, 3) := by decide +kernel
theorem dX1_flow_4 : decode cX1_flow 4 = .ok (.ldc2_w 30, 3) := by decide +kernel
theorem dX1_flow_7 : decode cX1_flow 7 = .ok (.invokestatic 32, 3) := by decide +kernel
theorem dX1_flow_10 : decode cX1_flow 10 = .ok (.aload_n 0, 1) := by decide +kernel
theorem dX1_flow_11 : decode cX1_flow 11 = .ok (.getfield 15, 3) := by decide +kernel
theorem dX1_flow_14 : decode cX1_flow 14 = .ok (.lconst 0, 1) := by decide +kernel
theorem dX1_flow_15 : decode cX1_flow 15 = .ok (.invokestatic 32, 3) := by decide +kernel
theorem dX1_flow_18 : decode cX1_flow 18 = .ok (.aload_n 0, 1) := by decide +kernel
theorem dX1_flow_19 : decode cX1_flow 19 = .ok (.getfield 9, 3) := by decide +kernel
theorem dX1_flow_22 : decode cX1_flow 22 = .ok (.iconst 0, 1) := by decide +kernel
theorem dX1_flow_23 : decode cX1_flow 23 = .ok (.lload_n 1, 1) := by decide +kernel
theorem dX1_flow_24 : decode cX1_flow 24 = .ok (.lastore, 1) := by decide +kernel
theorem dX1_flow_25 : decode cX1_flow 25 = .ok (.aload_n 0, 1) := by decide +kernel
theorem dX1_flow_26 : decode cX1_flow 26 = .ok (.getfield 15, 3) := by decide +kernel
theorem dX1_flow_29 : decode cX1_flow 29 = .ok (.iconst 0, 1) := by decide +kernel
theorem dX1_flow_30 : decode cX1_flow 30 = .ok (.lload_n 1, 1) := by decide +kernel
theorem dX1_flow_31 : decode cX1_flow 31 = .ok (.lastore, 1) := by decide +kernel
theorem dX1_flow_32 : decode cX1_flow 32 = .ok (.iconst 1, 1) := by decide +kernel
theorem dX1_flow_33 : decode cX1_flow 33 = .ok (.istore_n 3, 1) := by decide +kernel
theorem dX1_flow_34 : decode cX1_flow 34 = .ok (.iconst 0, 1) := by decide +kernel
theorem dX1_flow_35 : decode cX1_flow 35 = .ok (.istore 4, 2) := by decide +kernel
theorem dX1_flow_37 : decode cX1_flow 37 = .ok (.iload 4, 2) := by decide +kernel
theorem dX1_flow_39 : decode cX1_flow 39 = .ok (.ldc 38, 2) := by decide +kernel
theorem dX1_flow_41 : decode cX1_flow 41 = .ok (.if_icmp .ge 54, 3) := by decide +kernel
theorem dX1_flow_44 : decode cX1_flow 44 = .ok (.iload_n 3, 1) := by decide +kernel
theorem dX1_flow_45 : decode cX1_flow 45 = .ok (.ifCond .eq 50, 3) := by decide +kernel
theorem dX1_flow_48 : decode cX1_flow 48 = .ok (.iconst 0, 1) := by decide +kernel
theorem dX1_flow_49 : decode cX1_flow 49 = .ok (.istore_n 3, 1) := by decide +kernel
theorem dX1_flow_50 : decode cX1_flow 50 = .ok (.iconst 0, 1) := by decide +kernel
theorem dX1_flow_51 : decode cX1_flow 51 = .ok (.istore 5, 2) := by decide +kernel
theorem dX1_flow_53 : decode cX1_flow 53 = .ok (.iload 5, 2) := by decide +kernel
theorem dX1_flow_55 : decode cX1_flow 55 = .ok (.aload_n 0, 1) := by decide +kernel
theorem dX1_flow_56 : decode cX1_flow 56 = .ok (.getfield 26, 3) := by decide +kernel
theorem dX1_flow_59 : decode cX1_flow 59 = .ok (.invokevirtual 39, 3) := by decide +kernel
theorem dX1_flow_62 : decode cX1_flow 62 = .ok (.if_icmp .ge 27, 3) := by decide +kernel
theorem dX1_flow_65 : decode cX1_flow 65 = .ok (.aload_n 0, 1) := by decide +kernel
theorem dX1_flow_66 : decode cX1_flow 66 = .ok (.aload_n 0, 1) := by decide +kernel
theorem dX1_flow_67 : decode cX1_flow 67 = .ok (.getfield 26, 3) := by decide +kernel
theorem dX1_flow_70 : decode cX1_flow 70 = .ok (.iload 5, 2) := by decide +kernel
theorem dX1_flow_72 : decode cX1_flow 72 = .ok (.invokevirtual 45, 3) := by decide +kernel
theorem dX1_flow_75 : decode cX1_flow 75 = .ok (.invokevirtual 49, 3) := by decide +kernel
theorem dX1_flow_78 : decode cX1_flow 78 = .ok (.ifCond .eq 5, 3) := by decide +kernel
theorem dX1_flow_81 : decode cX1_flow 81 = .ok (.iconst 1, 1) := by decide +kernel
theorem dX1_flow_82 : decode cX1_flow 82 = .ok (.istore_n 3, 1) := by decide +kernel
theorem dX1_flow_83 : decode cX1_flow 83 = .ok (.iinc 5 1, 3) := by decide +kernel
theorem dX1_flow_86 : decode cX1_flow 86 = .ok (.goto (-33), 3) := by decide +kernel
theorem dX1_flow_89 : decode cX1_flow 89 = .ok (.iinc 4 1, 3) := by decide +kernel
theorem dX1_flow_92 : decode cX1_flow 92 = .ok (.goto (-55), 3) := by decide +kernel
theorem dX1_flow_95 : decode cX1_flow 95 = .ok (.return_, 1) := by decide +kernel
theorem dX1_handOn_0 : decode cX1_handOn 0 = .ok (.aload_n 0, 1) := by decide +kernel
theorem dX1_handOn_1 : decode cX1_handOn 1 = .ok (.getfield 9, 3) := by decide +kernel
theorem dX1_handOn_4 : decode cX1_handOn 4 = .ok (.iload_n 1, 1) := by decide +kernel
theorem dX1_handOn_5 : decode cX1_handOn 5 = .ok (.laload, 1) := by decide +kernel
theorem dX1_handOn_6 : decode cX1_handOn 6 = .ok (.aload_n 0, 1) := by decide +kernel
theorem dX1_handOn_7 : decode cX1_handOn 7 = .ok (.getfield 22, 3) := by decide +kernel
theorem dX1_handOn_10 : decode cX1_handOn 10 = .ok (.iload_n 1, 1) := by decide +kernel
theorem dX1_handOn_11 : decode cX1_handOn 11 = .ok (.invokevirtual 53, 3) := by decide +kernel
theorem dX1_handOn_14 : decode cX1_handOn 14 = .ok (.ldc2_w 30, 3) := by decide +kernel
theorem dX1_handOn_17 : decode cX1_handOn 17 = .ok (.lxor, 1) := by decide +kernel
theorem dX1_handOn_18 : decode cX1_handOn 18 = .ok (.land, 1) := by decide +kernel
theorem dX1_handOn_19 : decode cX1_handOn 19 = .ok (.aload_n 0, 1) := by decide +kernel
theorem dX1_handOn_20 : decode cX1_handOn 20 = .ok (.getfield 22, 3) := by decide +kernel
theorem dX1_handOn_23 : decode cX1_handOn 23 = .ok (.iload_n 1, 1) := by decide +kernel
theorem dX1_handOn_24 : decode cX1_handOn 24 = .ok (.invokevirtual 59, 3) := by decide +kernel
theorem dX1_handOn_27 : decode cX1_handOn 27 = .ok (.lor, 1) := by decide +kernel
theorem dX1_handOn_28 : decode cX1_handOn 28 = .ok (.lstore_n 2, 1) := by decide +kernel
theorem dX1_handOn_29 : decode cX1_handOn 29 = .ok (.aload_n 0, 1) := by decide +kernel
theorem dX1_handOn_30 : decode cX1_handOn 30 = .ok (.getfield 15, 3) := by decide +kernel
theorem dX1_handOn_33 : decode cX1_handOn 33 = .ok (.iload_n 1, 1) := by decide +kernel
theorem dX1_handOn_34 : decode cX1_handOn 34 = .ok (.laload, 1) := by decide +kernel
theorem dX1_handOn_35 : decode cX1_handOn 35 = .ok (.aload_n 0, 1) := by decide +kernel
theorem dX1_handOn_36 : decode cX1_handOn 36 = .ok (.getfield 22, 3) := by decide +kernel
theorem dX1_handOn_39 : decode cX1_handOn 39 = .ok (.iload_n 1, 1) := by decide +kernel
theorem dX1_handOn_40 : decode cX1_handOn 40 = .ok (.invokevirtual 53, 3) := by decide +kernel
theorem dX1_handOn_43 : decode cX1_handOn 43 = .ok (.ldc2_w 30, 3) := by decide +kernel
theorem dX1_handOn_46 : decode cX1_handOn 46 = .ok (.lxor, 1) := by decide +kernel
theorem dX1_handOn_47 : decode cX1_handOn 47 = .ok (.land, 1) := by decide +kernel
theorem dX1_handOn_48 : decode cX1_handOn 48 = .ok (.aload_n 0, 1) := by decide +kernel
theorem dX1_handOn_49 : decode cX1_handOn 49 = .ok (.getfield 22, 3) := by decide +kernel
theorem dX1_handOn_52 : decode cX1_handOn 52 = .ok (.iload_n 1, 1) := by decide +kernel
theorem dX1_handOn_53 : decode cX1_handOn 53 = .ok (.invokevirtual 59, 3) := by decide +kernel
theorem dX1_handOn_56 : decode cX1_handOn 56 = .ok (.lor, 1) := by decide +kernel
theorem dX1_handOn_57 : decode cX1_handOn 57 = .ok (.lstore 4, 2) := by decide +kernel
theorem dX1_handOn_59 : decode cX1_handOn 59 = .ok (.iconst 0, 1) := by decide +kernel
theorem dX1_handOn_60 : decode cX1_handOn 60 = .ok (.istore 6, 2) := by decide +kernel
theorem dX1_handOn_62 : decode cX1_handOn 62 = .ok (.iconst 0, 1) := by decide +kernel
theorem dX1_handOn_63 : decode cX1_handOn 63 = .ok (.istore 7, 2) := by decide +kernel
theorem dX1_handOn_65 : decode cX1_handOn 65 = .ok (.iload 7, 2) := by decide +kernel
theorem dX1_handOn_67 : decode cX1_handOn 67 = .ok (.aload_n 0, 1) := by decide +kernel
theorem dX1_handOn_68 : decode cX1_handOn 68 = .ok (.getfield 26, 3) := by decide +kernel
theorem dX1_handOn_71 : decode cX1_handOn 71 = .ok (.iload_n 1, 1) := by decide +kernel
theorem dX1_handOn_72 : decode cX1_handOn 72 = .ok (.invokevirtual 62, 3) := by decide +kernel
theorem dX1_handOn_75 : decode cX1_handOn 75 = .ok (.if_icmp .ge 84, 3) := by decide +kernel
theorem dX1_handOn_78 : decode cX1_handOn 78 = .ok (.aload_n 0, 1) := by decide +kernel
theorem dX1_handOn_79 : decode cX1_handOn 79 = .ok (.getfield 26, 3) := by decide +kernel
theorem dX1_handOn_82 : decode cX1_handOn 82 = .ok (.iload_n 1, 1) := by decide +kernel
theorem dX1_handOn_83 : decode cX1_handOn 83 = .ok (.iload 7, 2) := by decide +kernel
theorem dX1_handOn_85 : decode cX1_handOn 85 = .ok (.invokevirtual 65, 3) := by decide +kernel
theorem dX1_handOn_88 : decode cX1_handOn 88 = .ok (.istore 8, 2) := by decide +kernel
theorem dX1_handOn_90 : decode cX1_handOn 90 = .ok (.aload_n 0, 1) := by decide +kernel
theorem dX1_handOn_91 : decode cX1_handOn 91 = .ok (.getfield 9, 3) := by decide +kernel
theorem dX1_handOn_94 : decode cX1_handOn 94 = .ok (.iload 8, 2) := by decide +kernel
theorem dX1_handOn_96 : decode cX1_handOn 96 = .ok (.laload, 1) := by decide +kernel
theorem dX1_handOn_97 : decode cX1_handOn 97 = .ok (.lload_n 2, 1) := by decide +kernel
theorem dX1_handOn_98 : decode cX1_handOn 98 = .ok (.ldc2_w 30, 3) := by decide +kernel
theorem dX1_handOn_101 : decode cX1_handOn 101 = .ok (.lxor, 1) := by decide +kernel
theorem dX1_handOn_102 : decode cX1_handOn 102 = .ok (.land, 1) := by decide +kernel
theorem dX1_handOn_103 : decode cX1_handOn 103 = .ok (.lconst 0, 1) := by decide +kernel
theorem dX1_handOn_104 : decode cX1_handOn 104 = .ok (.lcmp, 1) := by decide +kernel
theorem dX1_handOn_105 : decode cX1_handOn 105 = .ok (.ifCond .ne 22, 3) := by decide +kernel
theorem dX1_handOn_108 : decode cX1_handOn 108 = .ok (.lload 4, 2) := by decide +kernel
theorem dX1_handOn_110 : decode cX1_handOn 110 = .ok (.aload_n 0, 1) := by decide +kernel
theorem dX1_handOn_111 : decode cX1_handOn 111 = .ok (.getfield 15, 3) := by decide +kernel
theorem dX1_handOn_114 : decode cX1_handOn 114 = .ok (.iload 8, 2) := by decide +kernel
theorem dX1_handOn_116 : decode cX1_handOn 116 = .ok (.laload, 1) := by decide +kernel
theorem dX1_handOn_117 : decode cX1_handOn 117 = .ok (.ldc2_w 30, 3) := by decide +kernel
theorem dX1_handOn_120 : decode cX1_handOn 120 = .ok (.lxor, 1) := by decide +kernel
theorem dX1_handOn_121 : decode cX1_handOn 121 = .ok (.land, 1) := by decide +kernel
theorem dX1_handOn_122 : decode cX1_handOn 122 = .ok (.lconst 0, 1) := by decide +kernel
theorem dX1_handOn_123 : decode cX1_handOn 123 = .ok (.lcmp, 1) := by decide +kernel
theorem dX1_handOn_124 : decode cX1_handOn 124 = .ok (.ifCond .eq 29, 3) := by decide +kernel
theorem dX1_handOn_127 : decode cX1_handOn 127 = .ok (.aload_n 0, 1) := by decide +kernel
theorem dX1_handOn_128 : decode cX1_handOn 128 = .ok (.getfield 9, 3) := by decide +kernel
theorem dX1_handOn_131 : decode cX1_handOn 131 = .ok (.iload 8, 2) := by decide +kernel
theorem dX1_handOn_133 : decode cX1_handOn 133 = .ok (.dup2, 1) := by decide +kernel
theorem dX1_handOn_134 : decode cX1_handOn 134 = .ok (.laload, 1) := by decide +kernel
theorem dX1_handOn_135 : decode cX1_handOn 135 = .ok (.lload_n 2, 1) := by decide +kernel
theorem dX1_handOn_136 : decode cX1_handOn 136 = .ok (.land, 1) := by decide +kernel
theorem dX1_handOn_137 : decode cX1_handOn 137 = .ok (.lastore, 1) := by decide +kernel
theorem dX1_handOn_138 : decode cX1_handOn 138 = .ok (.aload_n 0, 1) := by decide +kernel
theorem dX1_handOn_139 : decode cX1_handOn 139 = .ok (.getfield 15, 3) := by decide +kernel
theorem dX1_handOn_142 : decode cX1_handOn 142 = .ok (.iload 8, 2) := by decide +kernel
theorem dX1_handOn_144 : decode cX1_handOn 144 = .ok (.dup2, 1) := by decide +kernel
theorem dX1_handOn_145 : decode cX1_handOn 145 = .ok (.laload, 1) := by decide +kernel
theorem dX1_handOn_146 : decode cX1_handOn 146 = .ok (.lload 4, 2) := by decide +kernel
theorem dX1_handOn_148 : decode cX1_handOn 148 = .ok (.lor, 1) := by decide +kernel
theorem dX1_handOn_149 : decode cX1_handOn 149 = .ok (.lastore, 1) := by decide +kernel
theorem dX1_handOn_150 : decode cX1_handOn 150 = .ok (.iconst 1, 1) := by decide +kernel
theorem dX1_handOn_151 : decode cX1_handOn 151 = .ok (.istore 6, 2) := by decide +kernel
theorem dX1_handOn_153 : decode cX1_handOn 153 = .ok (.iinc 7 1, 3) := by decide +kernel
theorem dX1_handOn_156 : decode cX1_handOn 156 = .ok (.goto (-91), 3) := by decide +kernel
theorem dX1_handOn_159 : decode cX1_handOn 159 = .ok (.iload 6, 2) := by decide +kernel
theorem dX1_handOn_161 : decode cX1_handOn 161 = .ok (.ireturn, 1) := by decide +kernel
theorem dX1_state_0 : decode cX1_state 0 = .ok (.aload_n 0, 1) := by decide +kernel
theorem dX1_state_1 : decode cX1_state 1 = .ok (.getfield 9, 3) := by decide +kernel
theorem dX1_state_4 : decode cX1_state 4 = .ok (.iload_n 1, 1) := by decide +kernel
theorem dX1_state_5 : decode cX1_state 5 = .ok (.laload, 1) := by decide +kernel
theorem dX1_state_6 : decode cX1_state 6 = .ok (.lload_n 2, 1) := by decide +kernel
theorem dX1_state_7 : decode cX1_state 7 = .ok (.land, 1) := by decide +kernel
theorem dX1_state_8 : decode cX1_state 8 = .ok (.lconst 0, 1) := by decide +kernel
theorem dX1_state_9 : decode cX1_state 9 = .ok (.lcmp, 1) := by decide +kernel
theorem dX1_state_10 : decode cX1_state 10 = .ok (.ifCond .eq 5, 3) := by decide +kernel
theorem dX1_state_13 : decode cX1_state 13 = .ok (.iconst 1, 1) := by decide +kernel
theorem dX1_state_14 : decode cX1_state 14 = .ok (.ireturn, 1) := by decide +kernel
theorem dX1_state_15 : decode cX1_state 15 = .ok (.aload_n 0, 1) := by decide +kernel
theorem dX1_state_16 : decode cX1_state 16 = .ok (.getfield 15, 3) := by decide +kernel
theorem dX1_state_19 : decode cX1_state 19 = .ok (.iload_n 1, 1) := by decide +kernel
theorem dX1_state_20 : decode cX1_state 20 = .ok (.laload, 1) := by decide +kernel
theorem dX1_state_21 : decode cX1_state 21 = .ok (.lload_n 2, 1) := by decide +kernel
theorem dX1_state_22 : decode cX1_state 22 = .ok (.land, 1) := by decide +kernel
theorem dX1_state_23 : decode cX1_state 23 = .ok (.lconst 0, 1) := by decide +kernel
theorem dX1_state_24 : decode cX1_state 24 = .ok (.lcmp, 1) := by decide +kernel
theorem dX1_state_25 : decode cX1_state 25 = .ok (.ifCond .eq 7, 3) := by decide +kernel
theorem dX1_state_28 : decode cX1_state 28 = .ok (.iconst 2, 1) := by decide +kernel
theorem dX1_state_29 : decode cX1_state 29 = .ok (.goto 4, 3) := by decide +kernel
theorem dX1_state_32 : decode cX1_state 32 = .ok (.iconst 0, 1) := by decide +kernel
theorem dX1_state_33 : decode cX1_state 33 = .ok (.ireturn, 1) := by decide +kernel
theorem dX1_missing_0 : decode cX1_missing 0 = .ok (.aload_n 0, 1) := by decide +kernel
theorem dX1_missing_1 : decode cX1_missing 1 = .ok (.getfield 26, 3) := by decide +kernel
theorem dX1_missing_4 : decode cX1_missing 4 = .ok (.iload_n 1, 1) := by decide +kernel
theorem dX1_missing_5 : decode cX1_missing 5 = .ok (.invokevirtual 69, 3) := by decide +kernel
theorem dX1_missing_8 : decode cX1_missing 8 = .ok (.ifCond .eq 25, 3) := by decide +kernel
theorem dX1_missing_11 : decode cX1_missing 11 = .ok (.aload_n 0, 1) := by decide +kernel
theorem dX1_missing_12 : decode cX1_missing 12 = .ok (.getfield 22, 3) := by decide +kernel
theorem dX1_missing_15 : decode cX1_missing 15 = .ok (.iload_n 1, 1) := by decide +kernel
theorem dX1_missing_16 : decode cX1_missing 16 = .ok (.invokevirtual 72, 3) := by decide +kernel
theorem dX1_missing_19 : decode cX1_missing 19 = .ok (.aload_n 0, 1) := by decide +kernel
theorem dX1_missing_20 : decode cX1_missing 20 = .ok (.getfield 9, 3) := by decide +kernel
theorem dX1_missing_23 : decode cX1_missing 23 = .ok (.iload_n 1, 1) := by decide +kernel
theorem dX1_missing_24 : decode cX1_missing 24 = .ok (.laload, 1) := by decide +kernel
theorem dX1_missing_25 : decode cX1_missing 25 = .ok (.ldc2_w 30, 3) := by decide +kernel
theorem dX1_missing_28 : decode cX1_missing 28 = .ok (.lxor, 1) := by decide +kernel
theorem dX1_missing_29 : decode cX1_missing 29 = .ok (.land, 1) := by decide +kernel
theorem dX1_missing_30 : decode cX1_missing 30 = .ok (.goto 4, 3) := by decide +kernel
theorem dX1_missing_33 : decode cX1_missing 33 = .ok (.lconst 0, 1) := by decide +kernel
theorem dX1_missing_34 : decode cX1_missing 34 = .ok (.lreturn, 1) := by decide +kernel
theorem dX1_leastTaker_0 : decode cX1_leastTaker 0 = .ok (.aload_n 0, 1) := by decide +kernel
theorem dX1_leastTaker_1 : decode cX1_leastTaker 1 = .ok (.iload_n 1, 1) := by decide +kernel
theorem dX1_leastTaker_2 : decode cX1_leastTaker 2 = .ok (.invokevirtual 75, 3) := by decide +kernel
theorem dX1_leastTaker_5 : decode cX1_leastTaker 5 = .ok (.lstore_n 2, 1) := by decide +kernel
theorem dX1_leastTaker_6 : decode cX1_leastTaker 6 = .ok (.lload_n 2, 1) := by decide +kernel
theorem dX1_leastTaker_7 : decode cX1_leastTaker 7 = .ok (.lload_n 2, 1) := by decide +kernel
theorem dX1_leastTaker_8 : decode cX1_leastTaker 8 = .ok (.lneg, 1) := by decide +kernel
theorem dX1_leastTaker_9 : decode cX1_leastTaker 9 = .ok (.land, 1) := by decide +kernel
theorem dX1_leastTaker_10 : decode cX1_leastTaker 10 = .ok (.lstore 4, 2) := by decide +kernel
theorem dX1_leastTaker_12 : decode cX1_leastTaker 12 = .ok (.aload_n 0, 1) := by decide +kernel
theorem dX1_leastTaker_13 : decode cX1_leastTaker 13 = .ok (.iload_n 1, 1) := by decide +kernel
theorem dX1_leastTaker_14 : decode cX1_leastTaker 14 = .ok (.lload 4, 2) := by decide +kernel
theorem dX1_leastTaker_16 : decode cX1_leastTaker 16 = .ok (.invokevirtual 78, 3) := by decide +kernel
theorem dX1_leastTaker_19 : decode cX1_leastTaker 19 = .ok (.iconst 0, 1) := by decide +kernel
theorem dX1_leastTaker_20 : decode cX1_leastTaker 20 = .ok (.istore 6, 2) := by decide +kernel
theorem dX1_leastTaker_22 : decode cX1_leastTaker 22 = .ok (.iload 6, 2) := by decide +kernel
theorem dX1_leastTaker_24 : decode cX1_leastTaker 24 = .ok (.sipush 150, 3) := by decide +kernel
theorem dX1_leastTaker_27 : decode cX1_leastTaker 27 = .ok (.if_icmp .ge 50, 3) := by decide +kernel
theorem dX1_leastTaker_30 : decode cX1_leastTaker 30 = .ok (.aload_n 0, 1) := by decide +kernel
theorem dX1_leastTaker_31 : decode cX1_leastTaker 31 = .ok (.getfield 26, 3) := by decide +kernel
theorem dX1_leastTaker_34 : decode cX1_leastTaker 34 = .ok (.iload 6, 2) := by decide +kernel
theorem dX1_leastTaker_36 : decode cX1_leastTaker 36 = .ok (.invokevirtual 69, 3) := by decide +kernel
theorem dX1_leastTaker_39 : decode cX1_leastTaker 39 = .ok (.ifCond .eq 32, 3) := by decide +kernel
theorem dX1_leastTaker_42 : decode cX1_leastTaker 42 = .ok (.aload_n 0, 1) := by decide +kernel
theorem dX1_leastTaker_43 : decode cX1_leastTaker 43 = .ok (.getfield 22, 3) := by decide +kernel
theorem dX1_leastTaker_46 : decode cX1_leastTaker 46 = .ok (.iload 6, 2) := by decide +kernel
theorem dX1_leastTaker_48 : decode cX1_leastTaker 48 = .ok (.invokevirtual 53, 3) := by decide +kernel
theorem dX1_leastTaker_51 : decode cX1_leastTaker 51 = .ok (.lload 4, 2) := by decide +kernel
theorem dX1_leastTaker_53 : decode cX1_leastTaker 53 = .ok (.land, 1) := by decide +kernel
theorem dX1_leastTaker_54 : decode cX1_leastTaker 54 = .ok (.lconst 0, 1) := by decide +kernel
theorem dX1_leastTaker_55 : decode cX1_leastTaker 55 = .ok (.lcmp, 1) := by decide +kernel
theorem dX1_leastTaker_56 : decode cX1_leastTaker 56 = .ok (.ifCond .eq 15, 3) := by decide +kernel
theorem dX1_leastTaker_59 : decode cX1_leastTaker 59 = .ok (.aload_n 0, 1) := by decide +kernel
theorem dX1_leastTaker_60 : decode cX1_leastTaker 60 = .ok (.iload 6, 2) := by decide +kernel
theorem dX1_leastTaker_62 : decode cX1_leastTaker 62 = .ok (.invokevirtual 82, 3) := by decide +kernel
theorem dX1_leastTaker_65 : decode cX1_leastTaker 65 = .ok (.ifCond .eq 6, 3) := by decide +kernel
theorem dX1_leastTaker_68 : decode cX1_leastTaker 68 = .ok (.iload 6, 2) := by decide +kernel
theorem dX1_leastTaker_70 : decode cX1_leastTaker 70 = .ok (.ireturn, 1) := by decide +kernel
theorem dX1_leastTaker_71 : decode cX1_leastTaker 71 = .ok (.iinc 6 1, 3) := by decide +kernel
theorem dX1_leastTaker_74 : decode cX1_leastTaker 74 = .ok (.goto (-52), 3) := by decide +kernel
theorem dX1_leastTaker_77 : decode cX1_leastTaker 77 = .ok (.iconst (-1), 1) := by decide +kernel
theorem dX1_leastTaker_78 : decode cX1_leastTaker 78 = .ok (.ireturn, 1) := by decide +kernel
theorem dX1_findLeading_0 : decode cX1_findLeading 0 = .ok (.aload_n 0, 1) := by decide +kernel
theorem dX1_findLeading_1 : decode cX1_findLeading 1 = .ok (.getfield 18, 3) := by decide +kernel
theorem dX1_findLeading_4 : decode cX1_findLeading 4 = .ok (.iconst 0, 1) := by decide +kernel
theorem dX1_findLeading_5 : decode cX1_findLeading 5 = .ok (.invokestatic 85, 3) := by decide +kernel
theorem dX1_findLeading_8 : decode cX1_findLeading 8 = .ok (.aload_n 0, 1) := by decide +kernel
theorem dX1_findLeading_9 : decode cX1_findLeading 9 = .ok (.getfield 18, 3) := by decide +kernel
theorem dX1_findLeading_12 : decode cX1_findLeading 12 = .ok (.iload_n 1, 1) := by decide +kernel
theorem dX1_findLeading_13 : decode cX1_findLeading 13 = .ok (.iconst 1, 1) := by decide +kernel
theorem dX1_findLeading_14 : decode cX1_findLeading 14 = .ok (.iastore, 1) := by decide +kernel
theorem dX1_findLeading_15 : decode cX1_findLeading 15 = .ok (.iconst 1, 1) := by decide +kernel
theorem dX1_findLeading_16 : decode cX1_findLeading 16 = .ok (.istore 4, 2) := by decide +kernel
theorem dX1_findLeading_18 : decode cX1_findLeading 18 = .ok (.iconst 0, 1) := by decide +kernel
theorem dX1_findLeading_19 : decode cX1_findLeading 19 = .ok (.istore 5, 2) := by decide +kernel
theorem dX1_findLeading_21 : decode cX1_findLeading 21 = .ok (.iload 5, 2) := by decide +kernel
theorem dX1_findLeading_23 : decode cX1_findLeading 23 = .ok (.sipush 150, 3) := by decide +kernel
theorem dX1_findLeading_26 : decode cX1_findLeading 26 = .ok (.if_icmp .ge 95, 3) := by decide +kernel
theorem dX1_findLeading_29 : decode cX1_findLeading 29 = .ok (.iload 4, 2) := by decide +kernel
theorem dX1_findLeading_31 : decode cX1_findLeading 31 = .ok (.ifCond .eq 90, 3) := by decide +kernel
theorem dX1_findLeading_34 : decode cX1_findLeading 34 = .ok (.iconst 0, 1) := by decide +kernel
theorem dX1_findLeading_35 : decode cX1_findLeading 35 = .ok (.istore 4, 2) := by decide +kernel
theorem dX1_findLeading_37 : decode cX1_findLeading 37 = .ok (.iconst 0, 1) := by decide +kernel
theorem dX1_findLeading_38 : decode cX1_findLeading 38 = .ok (.istore 6, 2) := by decide +kernel
theorem dX1_findLeading_40 : decode cX1_findLeading 40 = .ok (.iload 6, 2) := by decide +kernel
theorem dX1_findLeading_42 : decode cX1_findLeading 42 = .ok (.aload_n 0, 1) := by decide +kernel
theorem dX1_findLeading_43 : decode cX1_findLeading 43 = .ok (.getfield 26, 3) := by decide +kernel
theorem dX1_findLeading_46 : decode cX1_findLeading 46 = .ok (.invokevirtual 39, 3) := by decide +kernel
theorem dX1_findLeading_49 : decode cX1_findLeading 49 = .ok (.if_icmp .ge 66, 3) := by decide +kernel
theorem dX1_findLeading_52 : decode cX1_findLeading 52 = .ok (.aload_n 0, 1) := by decide +kernel
theorem dX1_findLeading_53 : decode cX1_findLeading 53 = .ok (.getfield 26, 3) := by decide +kernel
theorem dX1_findLeading_56 : decode cX1_findLeading 56 = .ok (.iload 6, 2) := by decide +kernel
theorem dX1_findLeading_58 : decode cX1_findLeading 58 = .ok (.invokevirtual 88, 3) := by decide +kernel
theorem dX1_findLeading_61 : decode cX1_findLeading 61 = .ok (.istore 7, 2) := by decide +kernel
theorem dX1_findLeading_63 : decode cX1_findLeading 63 = .ok (.aload_n 0, 1) := by decide +kernel
theorem dX1_findLeading_64 : decode cX1_findLeading 64 = .ok (.getfield 18, 3) := by decide +kernel
theorem dX1_findLeading_67 : decode cX1_findLeading 67 = .ok (.iload 7, 2) := by decide +kernel
theorem dX1_findLeading_69 : decode cX1_findLeading 69 = .ok (.iaload, 1) := by decide +kernel
theorem dX1_findLeading_70 : decode cX1_findLeading 70 = .ok (.ifCond .ne 39, 3) := by decide +kernel
theorem dX1_findLeading_73 : decode cX1_findLeading 73 = .ok (.aload_n 0, 1) := by decide +kernel
theorem dX1_findLeading_74 : decode cX1_findLeading 74 = .ok (.getfield 22, 3) := by decide +kernel
theorem dX1_findLeading_77 : decode cX1_findLeading 77 = .ok (.iload 7, 2) := by decide +kernel
theorem dX1_findLeading_79 : decode cX1_findLeading 79 = .ok (.invokevirtual 59, 3) := by decide +kernel
theorem dX1_findLeading_82 : decode cX1_findLeading 82 = .ok (.lload_n 2, 1) := by decide +kernel
theorem dX1_findLeading_83 : decode cX1_findLeading 83 = .ok (.land, 1) := by decide +kernel
theorem dX1_findLeading_84 : decode cX1_findLeading 84 = .ok (.lconst 0, 1) := by decide +kernel
theorem dX1_findLeading_85 : decode cX1_findLeading 85 = .ok (.lcmp, 1) := by decide +kernel
theorem dX1_findLeading_86 : decode cX1_findLeading 86 = .ok (.ifCond .ne 23, 3) := by decide +kernel
theorem dX1_findLeading_89 : decode cX1_findLeading 89 = .ok (.aload_n 0, 1) := by decide +kernel
theorem dX1_findLeading_90 : decode cX1_findLeading 90 = .ok (.iload 7, 2) := by decide +kernel
theorem dX1_findLeading_92 : decode cX1_findLeading 92 = .ok (.invokevirtual 82, 3) := by decide +kernel
theorem dX1_findLeading_95 : decode cX1_findLeading 95 = .ok (.ifCond .eq 14, 3) := by decide +kernel
theorem dX1_findLeading_98 : decode cX1_findLeading 98 = .ok (.aload_n 0, 1) := by decide +kernel
theorem dX1_findLeading_99 : decode cX1_findLeading 99 = .ok (.getfield 18, 3) := by decide +kernel
theorem dX1_findLeading_102 : decode cX1_findLeading 102 = .ok (.iload 7, 2) := by decide +kernel
theorem dX1_findLeading_104 : decode cX1_findLeading 104 = .ok (.iconst 1, 1) := by decide +kernel
theorem dX1_findLeading_105 : decode cX1_findLeading 105 = .ok (.iastore, 1) := by decide +kernel
theorem dX1_findLeading_106 : decode cX1_findLeading 106 = .ok (.iconst 1, 1) := by decide +kernel
theorem dX1_findLeading_107 : decode cX1_findLeading 107 = .ok (.istore 4, 2) := by decide +kernel
theorem dX1_findLeading_109 : decode cX1_findLeading 109 = .ok (.iinc 6 1, 3) := by decide +kernel
theorem dX1_findLeading_112 : decode cX1_findLeading 112 = .ok (.goto (-72), 3) := by decide +kernel
theorem dX1_findLeading_115 : decode cX1_findLeading 115 = .ok (.iinc 5 1, 3) := by decide +kernel
theorem dX1_findLeading_118 : decode cX1_findLeading 118 = .ok (.goto (-97), 3) := by decide +kernel
theorem dX1_findLeading_121 : decode cX1_findLeading 121 = .ok (.return_, 1) := by decide +kernel
theorem dX1_leadsOn_0 : decode cX1_leadsOn 0 = .ok (.iconst 0, 1) := by decide +kernel
theorem dX1_leadsOn_1 : decode cX1_leadsOn 1 = .ok (.istore_n 2, 1) := by decide +kernel
theorem dX1_leadsOn_2 : decode cX1_leadsOn 2 = .ok (.iload_n 2, 1) := by decide +kernel
theorem dX1_leadsOn_3 : decode cX1_leadsOn 3 = .ok (.aload_n 0, 1) := by decide +kernel
theorem dX1_leadsOn_4 : decode cX1_leadsOn 4 = .ok (.getfield 26, 3) := by decide +kernel
theorem dX1_leadsOn_7 : decode cX1_leadsOn 7 = .ok (.iload_n 1, 1) := by decide +kernel
theorem dX1_leadsOn_8 : decode cX1_leadsOn 8 = .ok (.invokevirtual 62, 3) := by decide +kernel
theorem dX1_leadsOn_11 : decode cX1_leadsOn 11 = .ok (.if_icmp .ge 28, 3) := by decide +kernel
theorem dX1_leadsOn_14 : decode cX1_leadsOn 14 = .ok (.aload_n 0, 1) := by decide +kernel
theorem dX1_leadsOn_15 : decode cX1_leadsOn 15 = .ok (.getfield 18, 3) := by decide +kernel
theorem dX1_leadsOn_18 : decode cX1_leadsOn 18 = .ok (.aload_n 0, 1) := by decide +kernel
theorem dX1_leadsOn_19 : decode cX1_leadsOn 19 = .ok (.getfield 26, 3) := by decide +kernel
theorem dX1_leadsOn_22 : decode cX1_leadsOn 22 = .ok (.iload_n 1, 1) := by decide +kernel
theorem dX1_leadsOn_23 : decode cX1_leadsOn 23 = .ok (.iload_n 2, 1) := by decide +kernel
theorem dX1_leadsOn_24 : decode cX1_leadsOn 24 = .ok (.invokevirtual 65, 3) := by decide +kernel
theorem dX1_leadsOn_27 : decode cX1_leadsOn 27 = .ok (.iaload, 1) := by decide +kernel
theorem dX1_leadsOn_28 : decode cX1_leadsOn 28 = .ok (.ifCond .eq 5, 3) := by decide +kernel
theorem dX1_leadsOn_31 : decode cX1_leadsOn 31 = .ok (.iconst 1, 1) := by decide +kernel
theorem dX1_leadsOn_32 : decode cX1_leadsOn 32 = .ok (.ireturn, 1) := by decide +kernel
theorem dX1_leadsOn_33 : decode cX1_leadsOn 33 = .ok (.iinc 2 1, 3) := by decide +kernel
theorem dX1_leadsOn_36 : decode cX1_leadsOn 36 = .ok (.goto (-34), 3) := by decide +kernel
theorem dX1_leadsOn_39 : decode cX1_leadsOn 39 = .ok (.iconst 0, 1) := by decide +kernel
theorem dX1_leadsOn_40 : decode cX1_leadsOn 40 = .ok (.ireturn, 1) := by decide +kernel
theorem dX3_isPath_0 : decode cX3_isPath 0 = .ok (.iload_n 0, 1) := by decide +kernel
theorem dX3_isPath_1 : decode cX3_isPath 1 = .ok (.ifCond .lt 10, 3) := by decide +kernel
theorem dX3_isPath_4 : decode cX3_isPath 4 = .ok (.iload_n 0, 1) := by decide +kernel
theorem dX3_isPath_5 : decode cX3_isPath 5 = .ok (.sipush 4096, 3) := by decide +kernel
theorem dX3_isPath_8 : decode cX3_isPath 8 = .ok (.if_icmp .lt 5, 3) := by decide +kernel
theorem dX3_isPath_11 : decode cX3_isPath 11 = .ok (.iconst 0, 1) := by decide +kernel
theorem dX3_isPath_12 : decode cX3_isPath 12 = .ok (.ireturn, 1) := by decide +kernel
theorem dX3_isPath_13 : decode cX3_isPath 13 = .ok (.iload_n 0, 1) := by decide +kernel
theorem dX3_isPath_14 : decode cX3_isPath 14 = .ok (.istore_n 1, 1) := by decide +kernel
theorem dX3_isPath_15 : decode cX3_isPath 15 = .ok (.iconst 0, 1) := by decide +kernel
theorem dX3_isPath_16 : decode cX3_isPath 16 = .ok (.istore_n 2, 1) := by decide +kernel
theorem dX3_isPath_17 : decode cX3_isPath 17 = .ok (.iload_n 2, 1) := by decide +kernel
theorem dX3_isPath_18 : decode cX3_isPath 18 = .ok (.iconst 4, 1) := by decide +kernel
theorem dX3_isPath_19 : decode cX3_isPath 19 = .ok (.if_icmp .ge 35, 3) := by decide +kernel
theorem dX3_isPath_22 : decode cX3_isPath 22 = .ok (.iload_n 1, 1) := by decide +kernel
theorem dX3_isPath_23 : decode cX3_isPath 23 = .ok (.ifCond .eq 31, 3) := by decide +kernel
theorem dX3_isPath_26 : decode cX3_isPath 26 = .ok (.iload_n 1, 1) := by decide +kernel
theorem dX3_isPath_27 : decode cX3_isPath 27 = .ok (.invokestatic 9, 3) := by decide +kernel
theorem dX3_isPath_30 : decode cX3_isPath 30 = .ok (.istore_n 3, 1) := by decide +kernel
theorem dX3_isPath_31 : decode cX3_isPath 31 = .ok (.iload_n 3, 1) := by decide +kernel
theorem dX3_isPath_32 : decode cX3_isPath 32 = .ok (.ifCond .eq 9, 3) := by decide +kernel
theorem dX3_isPath_35 : decode cX3_isPath 35 = .ok (.iload_n 3, 1) := by decide +kernel
theorem dX3_isPath_36 : decode cX3_isPath 36 = .ok (.bipush 6, 2) := by decide +kernel
theorem dX3_isPath_38 : decode cX3_isPath 38 = .ok (.if_icmp .le 5, 3) := by decide +kernel
theorem dX3_isPath_41 : decode cX3_isPath 41 = .ok (.iconst 0, 1) := by decide +kernel
theorem dX3_isPath_42 : decode cX3_isPath 42 = .ok (.ireturn, 1) := by decide +kernel
theorem dX3_isPath_43 : decode cX3_isPath 43 = .ok (.iload_n 1, 1) := by decide +kernel
theorem dX3_isPath_44 : decode cX3_isPath 44 = .ok (.invokestatic 15, 3) := by decide +kernel
theorem dX3_isPath_47 : decode cX3_isPath 47 = .ok (.istore_n 1, 1) := by decide +kernel
theorem dX3_isPath_48 : decode cX3_isPath 48 = .ok (.iinc 2 1, 3) := by decide +kernel
theorem dX3_isPath_51 : decode cX3_isPath 51 = .ok (.goto (-34), 3) := by decide +kernel
theorem dX3_isPath_54 : decode cX3_isPath 54 = .ok (.iconst 1, 1) := by decide +kernel
theorem dX3_isPath_55 : decode cX3_isPath 55 = .ok (.ireturn, 1) := by decide +kernel
theorem dX3_firstDigit_0 : decode cX3_firstDigit 0 = .ok (.iload_n 0, 1) := by decide +kernel
theorem dX3_firstDigit_1 : decode cX3_firstDigit 1 = .ok (.bipush 7, 2) := by decide +kernel
theorem dX3_firstDigit_3 : decode cX3_firstDigit 3 = .ok (.iand, 1) := by decide +kernel
theorem dX3_firstDigit_4 : decode cX3_firstDigit 4 = .ok (.ireturn, 1) := by decide +kernel
theorem dX3_behindFirst_0 : decode cX3_behindFirst 0 = .ok (.iload_n 0, 1) := by decide +kernel
theorem dX3_behindFirst_1 : decode cX3_behindFirst 1 = .ok (.iconst 3, 1) := by decide +kernel
theorem dX3_behindFirst_2 : decode cX3_behindFirst 2 = .ok (.ishr, 1) := by decide +kernel
theorem dX3_behindFirst_3 : decode cX3_behindFirst 3 = .ok (.ireturn, 1) := by decide +kernel
theorem dX3_oneBeginsTheOther_0 : decode cX3_oneBeginsTheOther 0 = .ok (.iload_n 0, 1) := by decide +kernel
theorem dX3_oneBeginsTheOther_1 : decode cX3_oneBeginsTheOther 1 = .ok (.istore_n 2, 1) := by decide +kernel
theorem dX3_oneBeginsTheOther_2 : decode cX3_oneBeginsTheOther 2 = .ok (.iload_n 1, 1) := by decide +kernel
theorem dX3_oneBeginsTheOther_3 : decode cX3_oneBeginsTheOther 3 = .ok (.istore_n 3, 1) := by decide +kernel
theorem dX3_oneBeginsTheOther_4 : decode cX3_oneBeginsTheOther 4 = .ok (.iconst 0, 1) := by decide +kernel
theorem dX3_oneBeginsTheOther_5 : decode cX3_oneBeginsTheOther 5 = .ok (.istore 4, 2) := by decide +kernel
theorem dX3_oneBeginsTheOther_7 : decode cX3_oneBeginsTheOther 7 = .ok (.iload 4, 2) := by decide +kernel
theorem dX3_oneBeginsTheOther_9 : decode cX3_oneBeginsTheOther 9 = .ok (.iconst 4, 1) := by decide +kernel
theorem dX3_oneBeginsTheOther_10 : decode cX3_oneBeginsTheOther 10 = .ok (.if_icmp .ge 40, 3) := by decide +kernel
theorem dX3_oneBeginsTheOther_13 : decode cX3_oneBeginsTheOther 13 = .ok (.iload_n 2, 1) := by decide +kernel
theorem dX3_oneBeginsTheOther_14 : decode cX3_oneBeginsTheOther 14 = .ok (.ifCond .eq 36, 3) := by decide +kernel
theorem dX3_oneBeginsTheOther_17 : decode cX3_oneBeginsTheOther 17 = .ok (.iload_n 3, 1) := by decide +kernel
theorem dX3_oneBeginsTheOther_18 : decode cX3_oneBeginsTheOther 18 = .ok (.ifCond .eq 32, 3) := by decide +kernel
theorem dX3_oneBeginsTheOther_21 : decode cX3_oneBeginsTheOther 21 = .ok (.iload_n 2, 1) := by decide +kernel
theorem dX3_oneBeginsTheOther_22 : decode cX3_oneBeginsTheOther 22 = .ok (.invokestatic 9, 3) := by decide +kernel
theorem dX3_oneBeginsTheOther_25 : decode cX3_oneBeginsTheOther 25 = .ok (.iload_n 3, 1) := by decide +kernel
theorem dX3_oneBeginsTheOther_26 : decode cX3_oneBeginsTheOther 26 = .ok (.invokestatic 9, 3) := by decide +kernel
theorem dX3_oneBeginsTheOther_29 : decode cX3_oneBeginsTheOther 29 = .ok (.if_icmp .eq 5, 3) := by decide +kernel
theorem dX3_oneBeginsTheOther_32 : decode cX3_oneBeginsTheOther 32 = .ok (.iconst 0, 1) := by decide +kernel
theorem dX3_oneBeginsTheOther_33 : decode cX3_oneBeginsTheOther 33 = .ok (.ireturn, 1) := by decide +kernel
theorem dX3_oneBeginsTheOther_34 : decode cX3_oneBeginsTheOther 34 = .ok (.iload_n 2, 1) := by decide +kernel
theorem dX3_oneBeginsTheOther_35 : decode cX3_oneBeginsTheOther 35 = .ok (.invokestatic 15, 3) := by decide +kernel
theorem dX3_oneBeginsTheOther_38 : decode cX3_oneBeginsTheOther 38 = .ok (.istore_n 2, 1) := by decide +kernel
theorem dX3_oneBeginsTheOther_39 : decode cX3_oneBeginsTheOther 39 = .ok (.iload_n 3, 1) := by decide +kernel
theorem dX3_oneBeginsTheOther_40 : decode cX3_oneBeginsTheOther 40 = .ok (.invokestatic 15, 3) := by decide +kernel
theorem dX3_oneBeginsTheOther_43 : decode cX3_oneBeginsTheOther 43 = .ok (.istore_n 3, 1) := by decide +kernel
theorem dX3_oneBeginsTheOther_44 : decode cX3_oneBeginsTheOther 44 = .ok (.iinc 4 1, 3) := by decide +kernel
theorem dX3_oneBeginsTheOther_47 : decode cX3_oneBeginsTheOther 47 = .ok (.goto (-40), 3) := by decide +kernel
theorem dX3_oneBeginsTheOther_50 : decode cX3_oneBeginsTheOther 50 = .ok (.iconst 1, 1) := by decide +kernel
theorem dX3_oneBeginsTheOther_51 : decode cX3_oneBeginsTheOther 51 = .ok (.ireturn, 1) := by decide +kernel
theorem dX4_init_0 : decode cX4_init 0 = .ok (.aload_n 0, 1) := by decide +kernel
theorem dX4_init_1 : decode cX4_init 1 = .ok (.invokespecial 3, 3) := by decide +kernel
theorem dX4_init_4 : decode cX4_init 4 = .ok (.aload_n 0, 1) := by decide +kernel
theorem dX4_init_5 : decode cX4_init 5 = .ok (.bipush 16, 2) := by decide +kernel
theorem dX4_init_7 : decode cX4_init 7 = .ok (.newarray .int, 2) := by decide +kernel
theorem dX4_init_9 : decode cX4_init 9 = .ok (.putfield 9, 3) := by decide +kernel
theorem dX4_init_12 : decode cX4_init 12 = .ok (.aload_n 0, 1) := by decide +kernel
theorem dX4_init_13 : decode cX4_init 13 = .ok (.bipush 16, 2) := by decide +kernel
theorem dX4_init_15 : decode cX4_init 15 = .ok (.newarray .int, 2) := by decide +kernel
theorem dX4_init_17 : decode cX4_init 17 = .ok (.putfield 15, 3) := by decide +kernel
theorem dX4_init_20 : decode cX4_init 20 = .ok (.return_, 1) := by decide +kernel
theorem dX4_isFull_0 : decode cX4_isFull 0 = .ok (.aload_n 0, 1) := by decide +kernel
theorem dX4_isFull_1 : decode cX4_isFull 1 = .ok (.getfield 18, 3) := by decide +kernel
theorem dX4_isFull_4 : decode cX4_isFull 4 = .ok (.bipush 16, 2) := by decide +kernel
theorem dX4_isFull_6 : decode cX4_isFull 6 = .ok (.if_icmp .lt 7, 3) := by decide +kernel
theorem dX4_isFull_9 : decode cX4_isFull 9 = .ok (.iconst 1, 1) := by decide +kernel
theorem dX4_isFull_10 : decode cX4_isFull 10 = .ok (.goto 4, 3) := by decide +kernel
theorem dX4_isFull_13 : decode cX4_isFull 13 = .ok (.iconst 0, 1) := by decide +kernel
theorem dX4_isFull_14 : decode cX4_isFull 14 = .ok (.ireturn, 1) := by decide +kernel
theorem dX4_add_0 : decode cX4_add 0 = .ok (.aload_n 0, 1) := by decide +kernel
theorem dX4_add_1 : decode cX4_add 1 = .ok (.getfield 9, 3) := by decide +kernel
theorem dX4_add_4 : decode cX4_add 4 = .ok (.aload_n 0, 1) := by decide +kernel
theorem dX4_add_5 : decode cX4_add 5 = .ok (.getfield 18, 3) := by decide +kernel
theorem dX4_add_8 : decode cX4_add 8 = .ok (.iload_n 1, 1) := by decide +kernel
theorem dX4_add_9 : decode cX4_add 9 = .ok (.iastore, 1) := by decide +kernel
theorem dX4_add_10 : decode cX4_add 10 = .ok (.aload_n 0, 1) := by decide +kernel
theorem dX4_add_11 : decode cX4_add 11 = .ok (.getfield 15, 3) := by decide +kernel
theorem dX4_add_14 : decode cX4_add 14 = .ok (.aload_n 0, 1) := by decide +kernel
theorem dX4_add_15 : decode cX4_add 15 = .ok (.getfield 18, 3) := by decide +kernel
theorem dX4_add_18 : decode cX4_add 18 = .ok (.iload_n 2, 1) := by decide +kernel
theorem dX4_add_19 : decode cX4_add 19 = .ok (.iastore, 1) := by decide +kernel
theorem dX4_add_20 : decode cX4_add 20 = .ok (.aload_n 0, 1) := by decide +kernel
theorem dX4_add_21 : decode cX4_add 21 = .ok (.dup, 1) := by decide +kernel
theorem dX4_add_22 : decode cX4_add 22 = .ok (.getfield 18, 3) := by decide +kernel
theorem dX4_add_25 : decode cX4_add 25 = .ok (.iconst 1, 1) := by decide +kernel
theorem dX4_add_26 : decode cX4_add 26 = .ok (.iadd, 1) := by decide +kernel
theorem dX4_add_27 : decode cX4_add 27 = .ok (.putfield 18, 3) := by decide +kernel
theorem dX4_add_30 : decode cX4_add 30 = .ok (.aload_n 0, 1) := by decide +kernel
theorem dX4_add_31 : decode cX4_add 31 = .ok (.getfield 18, 3) := by decide +kernel
theorem dX4_add_34 : decode cX4_add 34 = .ok (.iconst 1, 1) := by decide +kernel
theorem dX4_add_35 : decode cX4_add 35 = .ok (.isub, 1) := by decide +kernel
theorem dX4_add_36 : decode cX4_add 36 = .ok (.ireturn, 1) := by decide +kernel
theorem dX4_size_0 : decode cX4_size 0 = .ok (.aload_n 0, 1) := by decide +kernel
theorem dX4_size_1 : decode cX4_size 1 = .ok (.getfield 18, 3) := by decide +kernel
theorem dX4_size_4 : decode cX4_size 4 = .ok (.ireturn, 1) := by decide +kernel
theorem dX4_has_0 : decode cX4_has 0 = .ok (.iload_n 1, 1) := by decide +kernel
theorem dX4_has_1 : decode cX4_has 1 = .ok (.ifCond .lt 15, 3) := by decide +kernel
theorem dX4_has_4 : decode cX4_has 4 = .ok (.iload_n 1, 1) := by decide +kernel
theorem dX4_has_5 : decode cX4_has 5 = .ok (.aload_n 0, 1) := by decide +kernel
theorem dX4_has_6 : decode cX4_has 6 = .ok (.getfield 18, 3) := by decide +kernel
theorem dX4_has_9 : decode cX4_has 9 = .ok (.if_icmp .ge 7, 3) := by decide +kernel
theorem dX4_has_12 : decode cX4_has 12 = .ok (.iconst 1, 1) := by decide +kernel
theorem dX4_has_13 : decode cX4_has 13 = .ok (.goto 4, 3) := by decide +kernel
theorem dX4_has_16 : decode cX4_has 16 = .ok (.iconst 0, 1) := by decide +kernel
theorem dX4_has_17 : decode cX4_has 17 = .ok (.ireturn, 1) := by decide +kernel
theorem dX4_hasLeaf_0 : decode cX4_hasLeaf 0 = .ok (.aload_n 0, 1) := by decide +kernel
theorem dX4_hasLeaf_1 : decode cX4_hasLeaf 1 = .ok (.iload_n 1, 1) := by decide +kernel
theorem dX4_hasLeaf_2 : decode cX4_hasLeaf 2 = .ok (.invokevirtual 22, 3) := by decide +kernel
theorem dX4_hasLeaf_5 : decode cX4_hasLeaf 5 = .ok (.ifCond .eq 21, 3) := by decide +kernel
theorem dX4_hasLeaf_8 : decode cX4_hasLeaf 8 = .ok (.iload_n 2, 1) := by decide +kernel
theorem dX4_hasLeaf_9 : decode cX4_hasLeaf 9 = .ok (.ifCond .lt 17, 3) := by decide +kernel
theorem dX4_hasLeaf_12 : decode cX4_hasLeaf 12 = .ok (.iload_n 2, 1) := by decide +kernel
theorem dX4_hasLeaf_13 : decode cX4_hasLeaf 13 = .ok (.aload_n 0, 1) := by decide +kernel
theorem dX4_hasLeaf_14 : decode cX4_hasLeaf 14 = .ok (.getfield 15, 3) := by decide +kernel
theorem dX4_hasLeaf_17 : decode cX4_hasLeaf 17 = .ok (.iload_n 1, 1) := by decide +kernel
theorem dX4_hasLeaf_18 : decode cX4_hasLeaf 18 = .ok (.iaload, 1) := by decide +kernel
theorem dX4_hasLeaf_19 : decode cX4_hasLeaf 19 = .ok (.if_icmp .ge 7, 3) := by decide +kernel
theorem dX4_hasLeaf_22 : decode cX4_hasLeaf 22 = .ok (.iconst 1, 1) := by decide +kernel
theorem dX4_hasLeaf_23 : decode cX4_hasLeaf 23 = .ok (.goto 4, 3) := by decide +kernel
theorem dX4_hasLeaf_26 : decode cX4_hasLeaf 26 = .ok (.iconst 0, 1) := by decide +kernel
theorem dX4_hasLeaf_27 : decode cX4_hasLeaf 27 = .ok (.ireturn, 1) := by decide +kernel
theorem dX4_isReference_0 : decode cX4_isReference 0 = .ok (.aload_n 0, 1) := by decide +kernel
theorem dX4_isReference_1 : decode cX4_isReference 1 = .ok (.iload_n 1, 1) := by decide +kernel
theorem dX4_isReference_2 : decode cX4_isReference 2 = .ok (.invokevirtual 22, 3) := by decide +kernel
theorem dX4_isReference_5 : decode cX4_isReference 5 = .ok (.ifCond .eq 16, 3) := by decide +kernel
theorem dX4_isReference_8 : decode cX4_isReference 8 = .ok (.aload_n 0, 1) := by decide +kernel
theorem dX4_isReference_9 : decode cX4_isReference 9 = .ok (.getfield 9, 3) := by decide +kernel
theorem dX4_isReference_12 : decode cX4_isReference 12 = .ok (.iload_n 1, 1) := by decide +kernel
theorem dX4_isReference_13 : decode cX4_isReference 13 = .ok (.iaload, 1) := by decide +kernel
theorem dX4_isReference_14 : decode cX4_isReference 14 = .ok (.ifCond .eq 7, 3) := by decide +kernel
theorem dX4_isReference_17 : decode cX4_isReference 17 = .ok (.iconst 1, 1) := by decide +kernel
theorem dX4_isReference_18 : decode cX4_isReference 18 = .ok (.goto 4, 3) := by decide +kernel
theorem dX4_isReference_21 : decode cX4_isReference 21 = .ok (.iconst 0, 1) := by decide +kernel
theorem dX4_isReference_22 : decode cX4_isReference 22 = .ok (.ireturn, 1) := by decide +kernel
theorem dX4_isShared_0 : decode cX4_isShared 0 = .ok (.aload_n 0, 1) := by decide +kernel
theorem dX4_isShared_1 : decode cX4_isShared 1 = .ok (.iload_n 1, 1) := by decide +kernel
theorem dX4_isShared_2 : decode cX4_isShared 2 = .ok (.invokevirtual 22, 3) := by decide +kernel
theorem dX4_isShared_5 : decode cX4_isShared 5 = .ok (.ifCond .eq 17, 3) := by decide +kernel
theorem dX4_isShared_8 : decode cX4_isShared 8 = .ok (.aload_n 0, 1) := by decide +kernel
theorem dX4_isShared_9 : decode cX4_isShared 9 = .ok (.getfield 9, 3) := by decide +kernel
theorem dX4_isShared_12 : decode cX4_isShared 12 = .ok (.iload_n 1, 1) := by decide +kernel
theorem dX4_isShared_13 : decode cX4_isShared 13 = .ok (.iaload, 1) := by decide +kernel
theorem dX4_isShared_14 : decode cX4_isShared 14 = .ok (.iconst 1, 1) := by decide +kernel
theorem dX4_isShared_15 : decode cX4_isShared 15 = .ok (.if_icmp .ne 7, 3) := by decide +kernel
theorem dX4_isShared_18 : decode cX4_isShared 18 = .ok (.iconst 1, 1) := by decide +kernel
theorem dX4_isShared_19 : decode cX4_isShared 19 = .ok (.goto 4, 3) := by decide +kernel
theorem dX4_isShared_22 : decode cX4_isShared 22 = .ok (.iconst 0, 1) := by decide +kernel
theorem dX4_isShared_23 : decode cX4_isShared 23 = .ok (.ireturn, 1) := by decide +kernel
theorem dX4_isSole_0 : decode cX4_isSole 0 = .ok (.aload_n 0, 1) := by decide +kernel
theorem dX4_isSole_1 : decode cX4_isSole 1 = .ok (.iload_n 1, 1) := by decide +kernel
theorem dX4_isSole_2 : decode cX4_isSole 2 = .ok (.invokevirtual 22, 3) := by decide +kernel
theorem dX4_isSole_5 : decode cX4_isSole 5 = .ok (.ifCond .eq 17, 3) := by decide +kernel
theorem dX4_isSole_8 : decode cX4_isSole 8 = .ok (.aload_n 0, 1) := by decide +kernel
theorem dX4_isSole_9 : decode cX4_isSole 9 = .ok (.getfield 9, 3) := by decide +kernel
theorem dX4_isSole_12 : decode cX4_isSole 12 = .ok (.iload_n 1, 1) := by decide +kernel
theorem dX4_isSole_13 : decode cX4_isSole 13 = .ok (.iaload, 1) := by decide +kernel
theorem dX4_isSole_14 : decode cX4_isSole 14 = .ok (.iconst 2, 1) := by decide +kernel
theorem dX4_isSole_15 : decode cX4_isSole 15 = .ok (.if_icmp .ne 7, 3) := by decide +kernel
theorem dX4_isSole_18 : decode cX4_isSole 18 = .ok (.iconst 1, 1) := by decide +kernel
theorem dX4_isSole_19 : decode cX4_isSole 19 = .ok (.goto 4, 3) := by decide +kernel
theorem dX4_isSole_22 : decode cX4_isSole 22 = .ok (.iconst 0, 1) := by decide +kernel
theorem dX4_isSole_23 : decode cX4_isSole 23 = .ok (.ireturn, 1) := by decide +kernel
theorem dX4_hasParts_0 : decode cX4_hasParts 0 = .ok (.aload_n 0, 1) := by decide +kernel
theorem dX4_hasParts_1 : decode cX4_hasParts 1 = .ok (.iload_n 1, 1) := by decide +kernel
theorem dX4_hasParts_2 : decode cX4_hasParts 2 = .ok (.invokevirtual 22, 3) := by decide +kernel
theorem dX4_hasParts_5 : decode cX4_hasParts 5 = .ok (.ifCond .eq 17, 3) := by decide +kernel
theorem dX4_hasParts_8 : decode cX4_hasParts 8 = .ok (.aload_n 0, 1) := by decide +kernel
theorem dX4_hasParts_9 : decode cX4_hasParts 9 = .ok (.getfield 15, 3) := by decide +kernel
theorem dX4_hasParts_12 : decode cX4_hasParts 12 = .ok (.iload_n 1, 1) := by decide +kernel
theorem dX4_hasParts_13 : decode cX4_hasParts 13 = .ok (.iaload, 1) := by decide +kernel
theorem dX4_hasParts_14 : decode cX4_hasParts 14 = .ok (.iconst 1, 1) := by decide +kernel
theorem dX4_hasParts_15 : decode cX4_hasParts 15 = .ok (.if_icmp .le 7, 3) := by decide +kernel
theorem dX4_hasParts_18 : decode cX4_hasParts 18 = .ok (.iconst 1, 1) := by decide +kernel
theorem dX4_hasParts_19 : decode cX4_hasParts 19 = .ok (.goto 4, 3) := by decide +kernel
theorem dX4_hasParts_22 : decode cX4_hasParts 22 = .ok (.iconst 0, 1) := by decide +kernel
theorem dX4_hasParts_23 : decode cX4_hasParts 23 = .ok (.ireturn, 1) := by decide +kernel
theorem dX4_begin_0 : decode cX4_begin 0 = .ok (.aload_n 0, 1) := by decide +kernel
theorem dX4_begin_1 : decode cX4_begin 1 = .ok (.iload_n 1, 1) := by decide +kernel
theorem dX4_begin_2 : decode cX4_begin 2 = .ok (.iconst 0, 1) := by decide +kernel
theorem dX4_begin_3 : decode cX4_begin 3 = .ok (.invokevirtual 26, 3) := by decide +kernel
theorem dX4_begin_6 : decode cX4_begin 6 = .ok (.lstore_n 3, 1) := by decide +kernel
theorem dX4_begin_7 : decode cX4_begin 7 = .ok (.aload_n 0, 1) := by decide +kernel
theorem dX4_begin_8 : decode cX4_begin 8 = .ok (.iload_n 2, 1) := by decide +kernel
theorem dX4_begin_9 : decode cX4_begin 9 = .ok (.ifCond .eq 12, 3) := by decide +kernel
theorem dX4_begin_12 : decode cX4_begin 12 = .ok (.aload_n 0, 1) := by decide +kernel
theorem dX4_begin_13 : decode cX4_begin 13 = .ok (.getfield 30, 3) := by decide +kernel
theorem dX4_begin_16 : decode cX4_begin 16 = .ok (.lload_n 3, 1) := by decide +kernel
theorem dX4_begin_17 : decode cX4_begin 17 = .ok (.lor, 1) := by decide +kernel
theorem dX4_begin_18 : decode cX4_begin 18 = .ok (.goto 13, 3) := by decide +kernel
theorem dX4_begin_21 : decode cX4_begin 21 = .ok (.aload_n 0, 1) := by decide +kernel
theorem dX4_begin_22 : decode cX4_begin 22 = .ok (.getfield 30, 3) := by decide +kernel
theorem dX4_begin_25 : decode cX4_begin 25 = .ok (.lload_n 3, 1) := by decide +kernel
theorem dX4_begin_26 : decode cX4_begin 26 = .ok (.ldc2_w 34, 3) := by decide +kernel
theorem dX4_begin_29 : decode cX4_begin 29 = .ok (.lxor, 1) := by decide +kernel
theorem dX4_begin_30 : decode cX4_begin 30 = .ok (.land, 1) := by decide +kernel
theorem dX4_begin_31 : decode cX4_begin 31 = .ok (.putfield 30, 3) := by decide +kernel
theorem dX4_begin_34 : decode cX4_begin 34 = .ok (.return_, 1) := by decide +kernel
theorem dX4_begun_0 : decode cX4_begun 0 = .ok (.aload_n 0, 1) := by decide +kernel
theorem dX4_begun_1 : decode cX4_begun 1 = .ok (.getfield 30, 3) := by decide +kernel
theorem dX4_begun_4 : decode cX4_begun 4 = .ok (.lreturn, 1) := by decide +kernel
theorem dX4_isPlace_0 : decode cX4_isPlace 0 = .ok (.aload_n 0, 1) := by decide +kernel
theorem dX4_isPlace_1 : decode cX4_isPlace 1 = .ok (.iload_n 1, 1) := by decide +kernel
theorem dX4_isPlace_2 : decode cX4_isPlace 2 = .ok (.invokevirtual 22, 3) := by decide +kernel
theorem dX4_isPlace_5 : decode cX4_isPlace 5 = .ok (.ifCond .eq 10, 3) := by decide +kernel
theorem dX4_isPlace_8 : decode cX4_isPlace 8 = .ok (.iload_n 2, 1) := by decide +kernel
theorem dX4_isPlace_9 : decode cX4_isPlace 9 = .ok (.invokestatic 36, 3) := by decide +kernel
theorem dX4_isPlace_12 : decode cX4_isPlace 12 = .ok (.ifCond .ne 5, 3) := by decide +kernel
theorem dX4_isPlace_15 : decode cX4_isPlace 15 = .ok (.iconst 0, 1) := by decide +kernel
theorem dX4_isPlace_16 : decode cX4_isPlace 16 = .ok (.ireturn, 1) := by decide +kernel
theorem dX4_isPlace_17 : decode cX4_isPlace 17 = .ok (.iload_n 2, 1) := by decide +kernel
theorem dX4_isPlace_18 : decode cX4_isPlace 18 = .ok (.ifCond .ne 5, 3) := by decide +kernel
theorem dX4_isPlace_21 : decode cX4_isPlace 21 = .ok (.iconst 1, 1) := by decide +kernel
theorem dX4_isPlace_22 : decode cX4_isPlace 22 = .ok (.ireturn, 1) := by decide +kernel
theorem dX4_isPlace_23 : decode cX4_isPlace 23 = .ok (.aload_n 0, 1) := by decide +kernel
theorem dX4_isPlace_24 : decode cX4_isPlace 24 = .ok (.iload_n 1, 1) := by decide +kernel
theorem dX4_isPlace_25 : decode cX4_isPlace 25 = .ok (.invokevirtual 41, 3) := by decide +kernel
theorem dX4_isPlace_28 : decode cX4_isPlace 28 = .ok (.ifCond .eq 17, 3) := by decide +kernel
theorem dX4_isPlace_31 : decode cX4_isPlace 31 = .ok (.iload_n 2, 1) := by decide +kernel
theorem dX4_isPlace_32 : decode cX4_isPlace 32 = .ok (.invokestatic 44, 3) := by decide +kernel
theorem dX4_isPlace_35 : decode cX4_isPlace 35 = .ok (.iconst 5, 1) := by decide +kernel
theorem dX4_isPlace_36 : decode cX4_isPlace 36 = .ok (.if_icmp .ne 7, 3) := by decide +kernel
theorem dX4_isPlace_39 : decode cX4_isPlace 39 = .ok (.iconst 1, 1) := by decide +kernel
theorem dX4_isPlace_40 : decode cX4_isPlace 40 = .ok (.goto 4, 3) := by decide +kernel
theorem dX4_isPlace_43 : decode cX4_isPlace 43 = .ok (.iconst 0, 1) := by decide +kernel
theorem dX4_isPlace_44 : decode cX4_isPlace 44 = .ok (.ireturn, 1) := by decide +kernel
theorem dX4_isPlace_45 : decode cX4_isPlace 45 = .ok (.aload_n 0, 1) := by decide +kernel
theorem dX4_isPlace_46 : decode cX4_isPlace 46 = .ok (.iload_n 1, 1) := by decide +kernel
theorem dX4_isPlace_47 : decode cX4_isPlace 47 = .ok (.invokevirtual 48, 3) := by decide +kernel
theorem dX4_isPlace_50 : decode cX4_isPlace 50 = .ok (.ifCond .eq 16, 3) := by decide +kernel
theorem dX4_isPlace_53 : decode cX4_isPlace 53 = .ok (.iload_n 2, 1) := by decide +kernel
theorem dX4_isPlace_54 : decode cX4_isPlace 54 = .ok (.invokestatic 44, 3) := by decide +kernel
theorem dX4_isPlace_57 : decode cX4_isPlace 57 = .ok (.aload_n 0, 1) := by decide +kernel
theorem dX4_isPlace_58 : decode cX4_isPlace 58 = .ok (.getfield 15, 3) := by decide +kernel
theorem dX4_isPlace_61 : decode cX4_isPlace 61 = .ok (.iload_n 1, 1) := by decide +kernel
theorem dX4_isPlace_62 : decode cX4_isPlace 62 = .ok (.iaload, 1) := by decide +kernel
theorem dX4_isPlace_63 : decode cX4_isPlace 63 = .ok (.if_icmp .gt 7, 3) := by decide +kernel
theorem dX4_isPlace_66 : decode cX4_isPlace 66 = .ok (.iconst 1, 1) := by decide +kernel
theorem dX4_isPlace_67 : decode cX4_isPlace 67 = .ok (.goto 4, 3) := by decide +kernel
theorem dX4_isPlace_70 : decode cX4_isPlace 70 = .ok (.iconst 0, 1) := by decide +kernel
theorem dX4_isPlace_71 : decode cX4_isPlace 71 = .ok (.ireturn, 1) := by decide +kernel
theorem dX4_goesThrough_0 : decode cX4_goesThrough 0 = .ok (.aload_n 0, 1) := by decide +kernel
theorem dX4_goesThrough_1 : decode cX4_goesThrough 1 = .ok (.iload_n 1, 1) := by decide +kernel
theorem dX4_goesThrough_2 : decode cX4_goesThrough 2 = .ok (.invokevirtual 41, 3) := by decide +kernel
theorem dX4_goesThrough_5 : decode cX4_goesThrough 5 = .ok (.ifCond .eq 15, 3) := by decide +kernel
theorem dX4_goesThrough_8 : decode cX4_goesThrough 8 = .ok (.iload_n 2, 1) := by decide +kernel
theorem dX4_goesThrough_9 : decode cX4_goesThrough 9 = .ok (.invokestatic 44, 3) := by decide +kernel
theorem dX4_goesThrough_12 : decode cX4_goesThrough 12 = .ok (.iconst 5, 1) := by decide +kernel
theorem dX4_goesThrough_13 : decode cX4_goesThrough 13 = .ok (.if_icmp .ne 7, 3) := by decide +kernel
theorem dX4_goesThrough_16 : decode cX4_goesThrough 16 = .ok (.iconst 1, 1) := by decide +kernel
theorem dX4_goesThrough_17 : decode cX4_goesThrough 17 = .ok (.goto 4, 3) := by decide +kernel
theorem dX4_goesThrough_20 : decode cX4_goesThrough 20 = .ok (.iconst 0, 1) := by decide +kernel
theorem dX4_goesThrough_21 : decode cX4_goesThrough 21 = .ok (.ireturn, 1) := by decide +kernel
theorem dX4_isWithin_0 : decode cX4_isWithin 0 = .ok (.aload_n 0, 1) := by decide +kernel
theorem dX4_isWithin_1 : decode cX4_isWithin 1 = .ok (.iload_n 1, 1) := by decide +kernel
theorem dX4_isWithin_2 : decode cX4_isWithin 2 = .ok (.invokevirtual 48, 3) := by decide +kernel
theorem dX4_isWithin_5 : decode cX4_isWithin 5 = .ok (.ifCond .eq 18, 3) := by decide +kernel
theorem dX4_isWithin_8 : decode cX4_isWithin 8 = .ok (.iload_n 2, 1) := by decide +kernel
theorem dX4_isWithin_9 : decode cX4_isWithin 9 = .ok (.invokestatic 51, 3) := by decide +kernel
theorem dX4_isWithin_12 : decode cX4_isWithin 12 = .ok (.ifCond .eq 7, 3) := by decide +kernel
theorem dX4_isWithin_15 : decode cX4_isWithin 15 = .ok (.iconst 1, 1) := by decide +kernel
theorem dX4_isWithin_16 : decode cX4_isWithin 16 = .ok (.goto 16, 3) := by decide +kernel
theorem dX4_isWithin_19 : decode cX4_isWithin 19 = .ok (.iconst 0, 1) := by decide +kernel
theorem dX4_isWithin_20 : decode cX4_isWithin 20 = .ok (.goto 12, 3) := by decide +kernel
theorem dX4_isWithin_23 : decode cX4_isWithin 23 = .ok (.iload_n 2, 1) := by decide +kernel
theorem dX4_isWithin_24 : decode cX4_isWithin 24 = .ok (.ifCond .eq 7, 3) := by decide +kernel
theorem dX4_isWithin_27 : decode cX4_isWithin 27 = .ok (.iconst 1, 1) := by decide +kernel
theorem dX4_isWithin_28 : decode cX4_isWithin 28 = .ok (.goto 4, 3) := by decide +kernel
theorem dX4_isWithin_31 : decode cX4_isWithin 31 = .ok (.iconst 0, 1) := by decide +kernel
theorem dX4_isWithin_32 : decode cX4_isWithin 32 = .ok (.ireturn, 1) := by decide +kernel
theorem dX4_leavesOf_0 : decode cX4_leavesOf 0 = .ok (.aload_n 0, 1) := by decide +kernel
theorem dX4_leavesOf_1 : decode cX4_leavesOf 1 = .ok (.iload_n 1, 1) := by decide +kernel
theorem dX4_leavesOf_2 : decode cX4_leavesOf 2 = .ok (.invokevirtual 22, 3) := by decide +kernel
theorem dX4_leavesOf_5 : decode cX4_leavesOf 5 = .ok (.ifCond .ne 5, 3) := by decide +kernel
theorem dX4_leavesOf_8 : decode cX4_leavesOf 8 = .ok (.lconst 0, 1) := by decide +kernel
theorem dX4_leavesOf_9 : decode cX4_leavesOf 9 = .ok (.lreturn, 1) := by decide +kernel
theorem dX4_leavesOf_10 : decode cX4_leavesOf 10 = .ok (.aload_n 0, 1) := by decide +kernel
theorem dX4_leavesOf_11 : decode cX4_leavesOf 11 = .ok (.iload_n 1, 1) := by decide +kernel
theorem dX4_leavesOf_12 : decode cX4_leavesOf 12 = .ok (.invokevirtual 48, 3) := by decide +kernel
theorem dX4_leavesOf_15 : decode cX4_leavesOf 15 = .ok (.ifCond .eq 18, 3) := by decide +kernel
theorem dX4_leavesOf_18 : decode cX4_leavesOf 18 = .ok (.iload_n 2, 1) := by decide +kernel
theorem dX4_leavesOf_19 : decode cX4_leavesOf 19 = .ok (.ifCond .eq 14, 3) := by decide +kernel
theorem dX4_leavesOf_22 : decode cX4_leavesOf 22 = .ok (.iload_n 1, 1) := by decide +kernel
theorem dX4_leavesOf_23 : decode cX4_leavesOf 23 = .ok (.iload_n 2, 1) := by decide +kernel
theorem dX4_leavesOf_24 : decode cX4_leavesOf 24 = .ok (.invokestatic 44, 3) := by decide +kernel
theorem dX4_leavesOf_27 : decode cX4_leavesOf 27 = .ok (.iconst 1, 1) := by decide +kernel
theorem dX4_leavesOf_28 : decode cX4_leavesOf 28 = .ok (.isub, 1) := by decide +kernel
theorem dX4_leavesOf_29 : decode cX4_leavesOf 29 = .ok (.invokestatic 54, 3) := by decide +kernel
theorem dX4_leavesOf_32 : decode cX4_leavesOf 32 = .ok (.lreturn, 1) := by decide +kernel
theorem dX4_leavesOf_33 : decode cX4_leavesOf 33 = .ok (.lconst 1, 1) := by decide +kernel
theorem dX4_leavesOf_34 : decode cX4_leavesOf 34 = .ok (.aload_n 0, 1) := by decide +kernel
theorem dX4_leavesOf_35 : decode cX4_leavesOf 35 = .ok (.getfield 15, 3) := by decide +kernel
theorem dX4_leavesOf_38 : decode cX4_leavesOf 38 = .ok (.iload_n 1, 1) := by decide +kernel
theorem dX4_leavesOf_39 : decode cX4_leavesOf 39 = .ok (.iaload, 1) := by decide +kernel
theorem dX4_leavesOf_40 : decode cX4_leavesOf 40 = .ok (.lshl, 1) := by decide +kernel
theorem dX4_leavesOf_41 : decode cX4_leavesOf 41 = .ok (.lconst 1, 1) := by decide +kernel
theorem dX4_leavesOf_42 : decode cX4_leavesOf 42 = .ok (.lsub, 1) := by decide +kernel
theorem dX4_leavesOf_43 : decode cX4_leavesOf 43 = .ok (.lstore_n 3, 1) := by decide +kernel
theorem dX4_leavesOf_44 : decode cX4_leavesOf 44 = .ok (.lload_n 3, 1) := by decide +kernel
theorem dX4_leavesOf_45 : decode cX4_leavesOf 45 = .ok (.iload_n 1, 1) := by decide +kernel
theorem dX4_leavesOf_46 : decode cX4_leavesOf 46 = .ok (.iconst 4, 1) := by decide +kernel
theorem dX4_leavesOf_47 : decode cX4_leavesOf 47 = .ok (.imul, 1) := by decide +kernel
theorem dX4_leavesOf_48 : decode cX4_leavesOf 48 = .ok (.lshl, 1) := by decide +kernel
theorem dX4_leavesOf_49 : decode cX4_leavesOf 49 = .ok (.lreturn, 1) := by decide +kernel
theorem dX4_mayAct_0 : decode cX4_mayAct 0 = .ok (.aload_n 0, 1) := by decide +kernel
theorem dX4_mayAct_1 : decode cX4_mayAct 1 = .ok (.iload_n 2, 1) := by decide +kernel
theorem dX4_mayAct_2 : decode cX4_mayAct 2 = .ok (.iload_n 3, 1) := by decide +kernel
theorem dX4_mayAct_3 : decode cX4_mayAct 3 = .ok (.invokevirtual 57, 3) := by decide +kernel
theorem dX4_mayAct_6 : decode cX4_mayAct 6 = .ok (.ifCond .ne 5, 3) := by decide +kernel
theorem dX4_mayAct_9 : decode cX4_mayAct 9 = .ok (.iconst 0, 1) := by decide +kernel
theorem dX4_mayAct_10 : decode cX4_mayAct 10 = .ok (.ireturn, 1) := by decide +kernel
theorem dX4_mayAct_11 : decode cX4_mayAct 11 = .ok (.iload_n 1, 1) := by decide +kernel
theorem dX4_mayAct_12 : decode cX4_mayAct 12 = .ok (.iconst 2, 1) := by decide +kernel
theorem dX4_mayAct_13 : decode cX4_mayAct 13 = .ok (.if_icmp .ne 26, 3) := by decide +kernel
theorem dX4_mayAct_16 : decode cX4_mayAct 16 = .ok (.aload_n 0, 1) := by decide +kernel
theorem dX4_mayAct_17 : decode cX4_mayAct 17 = .ok (.iload_n 2, 1) := by decide +kernel
theorem dX4_mayAct_18 : decode cX4_mayAct 18 = .ok (.invokevirtual 41, 3) := by decide +kernel
theorem dX4_mayAct_21 : decode cX4_mayAct 21 = .ok (.ifCond .ne 16, 3) := by decide +kernel
theorem dX4_mayAct_24 : decode cX4_mayAct 24 = .ok (.aload_n 0, 1) := by decide +kernel
theorem dX4_mayAct_25 : decode cX4_mayAct 25 = .ok (.iload_n 2, 1) := by decide +kernel
theorem dX4_mayAct_26 : decode cX4_mayAct 26 = .ok (.iload_n 3, 1) := by decide +kernel
theorem dX4_mayAct_27 : decode cX4_mayAct 27 = .ok (.invokevirtual 61, 3) := by decide +kernel
theorem dX4_mayAct_30 : decode cX4_mayAct 30 = .ok (.ifCond .ne 7, 3) := by decide +kernel
theorem dX4_mayAct_33 : decode cX4_mayAct 33 = .ok (.iconst 1, 1) := by decide +kernel
theorem dX4_mayAct_34 : decode cX4_mayAct 34 = .ok (.goto 4, 3) := by decide +kernel
theorem dX4_mayAct_37 : decode cX4_mayAct 37 = .ok (.iconst 0, 1) := by decide +kernel
theorem dX4_mayAct_38 : decode cX4_mayAct 38 = .ok (.ireturn, 1) := by decide +kernel
theorem dX4_mayAct_39 : decode cX4_mayAct 39 = .ok (.aload_n 0, 1) := by decide +kernel
theorem dX4_mayAct_40 : decode cX4_mayAct 40 = .ok (.iload_n 2, 1) := by decide +kernel
theorem dX4_mayAct_41 : decode cX4_mayAct 41 = .ok (.invokevirtual 41, 3) := by decide +kernel
theorem dX4_mayAct_44 : decode cX4_mayAct 44 = .ok (.ifCond .ne 5, 3) := by decide +kernel
theorem dX4_mayAct_47 : decode cX4_mayAct 47 = .ok (.iconst 1, 1) := by decide +kernel
theorem dX4_mayAct_48 : decode cX4_mayAct 48 = .ok (.ireturn, 1) := by decide +kernel
theorem dX4_mayAct_49 : decode cX4_mayAct 49 = .ok (.iload_n 3, 1) := by decide +kernel
theorem dX4_mayAct_50 : decode cX4_mayAct 50 = .ok (.ifCond .eq 20, 3) := by decide +kernel
theorem dX4_mayAct_53 : decode cX4_mayAct 53 = .ok (.iload_n 1, 1) := by decide +kernel
theorem dX4_mayAct_54 : decode cX4_mayAct 54 = .ok (.iconst 1, 1) := by decide +kernel
theorem dX4_mayAct_55 : decode cX4_mayAct 55 = .ok (.if_icmp .eq 11, 3) := by decide +kernel
theorem dX4_mayAct_58 : decode cX4_mayAct 58 = .ok (.aload_n 0, 1) := by decide +kernel
theorem dX4_mayAct_59 : decode cX4_mayAct 59 = .ok (.iload_n 2, 1) := by decide +kernel
theorem dX4_mayAct_60 : decode cX4_mayAct 60 = .ok (.invokevirtual 64, 3) := by decide +kernel
theorem dX4_mayAct_63 : decode cX4_mayAct 63 = .ok (.ifCond .eq 7, 3) := by decide +kernel
theorem dX4_mayAct_66 : decode cX4_mayAct 66 = .ok (.iconst 1, 1) := by decide +kernel
theorem dX4_mayAct_67 : decode cX4_mayAct 67 = .ok (.goto 4, 3) := by decide +kernel
theorem dX4_mayAct_70 : decode cX4_mayAct 70 = .ok (.iconst 0, 1) := by decide +kernel
theorem dX4_mayAct_71 : decode cX4_mayAct 71 = .ok (.ireturn, 1) := by decide +kernel
theorem dX4_mayLend_0 : decode cX4_mayLend 0 = .ok (.aload_n 0, 1) := by decide +kernel
theorem dX4_mayLend_1 : decode cX4_mayLend 1 = .ok (.iload_n 1, 1) := by decide +kernel
theorem dX4_mayLend_2 : decode cX4_mayLend 2 = .ok (.invokevirtual 41, 3) := by decide +kernel
theorem dX4_mayLend_5 : decode cX4_mayLend 5 = .ok (.ifCond .eq 12, 3) := by decide +kernel
theorem dX4_mayLend_8 : decode cX4_mayLend 8 = .ok (.aload_n 0, 1) := by decide +kernel
theorem dX4_mayLend_9 : decode cX4_mayLend 9 = .ok (.iload_n 2, 1) := by decide +kernel
theorem dX4_mayLend_10 : decode cX4_mayLend 10 = .ok (.iload_n 3, 1) := by decide +kernel
theorem dX4_mayLend_11 : decode cX4_mayLend 11 = .ok (.invokevirtual 57, 3) := by decide +kernel
theorem dX4_mayLend_14 : decode cX4_mayLend 14 = .ok (.ifCond .ne 5, 3) := by decide +kernel
theorem dX4_mayLend_17 : decode cX4_mayLend 17 = .ok (.iconst 0, 1) := by decide +kernel
theorem dX4_mayLend_18 : decode cX4_mayLend 18 = .ok (.ireturn, 1) := by decide +kernel
theorem dX4_mayLend_19 : decode cX4_mayLend 19 = .ok (.aload_n 0, 1) := by decide +kernel
theorem dX4_mayLend_20 : decode cX4_mayLend 20 = .ok (.iload_n 2, 1) := by decide +kernel
theorem dX4_mayLend_21 : decode cX4_mayLend 21 = .ok (.invokevirtual 41, 3) := by decide +kernel
theorem dX4_mayLend_24 : decode cX4_mayLend 24 = .ok (.ifCond .ne 5, 3) := by decide +kernel
theorem dX4_mayLend_27 : decode cX4_mayLend 27 = .ok (.iconst 1, 1) := by decide +kernel
theorem dX4_mayLend_28 : decode cX4_mayLend 28 = .ok (.ireturn, 1) := by decide +kernel
theorem dX4_mayLend_29 : decode cX4_mayLend 29 = .ok (.iload_n 3, 1) := by decide +kernel
theorem dX4_mayLend_30 : decode cX4_mayLend 30 = .ok (.ifCond .eq 23, 3) := by decide +kernel
theorem dX4_mayLend_33 : decode cX4_mayLend 33 = .ok (.aload_n 0, 1) := by decide +kernel
theorem dX4_mayLend_34 : decode cX4_mayLend 34 = .ok (.iload_n 1, 1) := by decide +kernel
theorem dX4_mayLend_35 : decode cX4_mayLend 35 = .ok (.invokevirtual 67, 3) := by decide +kernel
theorem dX4_mayLend_38 : decode cX4_mayLend 38 = .ok (.ifCond .ne 11, 3) := by decide +kernel
theorem dX4_mayLend_41 : decode cX4_mayLend 41 = .ok (.aload_n 0, 1) := by decide +kernel
theorem dX4_mayLend_42 : decode cX4_mayLend 42 = .ok (.iload_n 2, 1) := by decide +kernel
theorem dX4_mayLend_43 : decode cX4_mayLend 43 = .ok (.invokevirtual 64, 3) := by decide +kernel
theorem dX4_mayLend_46 : decode cX4_mayLend 46 = .ok (.ifCond .eq 7, 3) := by decide +kernel
theorem dX4_mayLend_49 : decode cX4_mayLend 49 = .ok (.iconst 1, 1) := by decide +kernel
theorem dX4_mayLend_50 : decode cX4_mayLend 50 = .ok (.goto 4, 3) := by decide +kernel
theorem dX4_mayLend_53 : decode cX4_mayLend 53 = .ok (.iconst 0, 1) := by decide +kernel
theorem dX4_mayLend_54 : decode cX4_mayLend 54 = .ok (.ireturn, 1) := by decide +kernel
theorem dX4_mayCopy_0 : decode cX4_mayCopy 0 = .ok (.iload_n 1, 1) := by decide +kernel
theorem dX4_mayCopy_1 : decode cX4_mayCopy 1 = .ok (.iload_n 2, 1) := by decide +kernel
theorem dX4_mayCopy_2 : decode cX4_mayCopy 2 = .ok (.if_icmp .eq 38, 3) := by decide +kernel
theorem dX4_mayCopy_5 : decode cX4_mayCopy 5 = .ok (.aload_n 0, 1) := by decide +kernel
theorem dX4_mayCopy_6 : decode cX4_mayCopy 6 = .ok (.iload_n 1, 1) := by decide +kernel
theorem dX4_mayCopy_7 : decode cX4_mayCopy 7 = .ok (.invokevirtual 41, 3) := by decide +kernel
theorem dX4_mayCopy_10 : decode cX4_mayCopy 10 = .ok (.ifCond .eq 30, 3) := by decide +kernel
theorem dX4_mayCopy_13 : decode cX4_mayCopy 13 = .ok (.aload_n 0, 1) := by decide +kernel
theorem dX4_mayCopy_14 : decode cX4_mayCopy 14 = .ok (.iload_n 2, 1) := by decide +kernel
theorem dX4_mayCopy_15 : decode cX4_mayCopy 15 = .ok (.invokevirtual 41, 3) := by decide +kernel
theorem dX4_mayCopy_18 : decode cX4_mayCopy 18 = .ok (.ifCond .eq 22, 3) := by decide +kernel
theorem dX4_mayCopy_21 : decode cX4_mayCopy 21 = .ok (.aload_n 0, 1) := by decide +kernel
theorem dX4_mayCopy_22 : decode cX4_mayCopy 22 = .ok (.getfield 9, 3) := by decide +kernel
theorem dX4_mayCopy_25 : decode cX4_mayCopy 25 = .ok (.iload_n 1, 1) := by decide +kernel
theorem dX4_mayCopy_26 : decode cX4_mayCopy 26 = .ok (.iaload, 1) := by decide +kernel
theorem dX4_mayCopy_27 : decode cX4_mayCopy 27 = .ok (.aload_n 0, 1) := by decide +kernel
theorem dX4_mayCopy_28 : decode cX4_mayCopy 28 = .ok (.getfield 9, 3) := by decide +kernel
theorem dX4_mayCopy_31 : decode cX4_mayCopy 31 = .ok (.iload_n 2, 1) := by decide +kernel
theorem dX4_mayCopy_32 : decode cX4_mayCopy 32 = .ok (.iaload, 1) := by decide +kernel
theorem dX4_mayCopy_33 : decode cX4_mayCopy 33 = .ok (.if_icmp .ne 7, 3) := by decide +kernel
theorem dX4_mayCopy_36 : decode cX4_mayCopy 36 = .ok (.iconst 1, 1) := by decide +kernel
theorem dX4_mayCopy_37 : decode cX4_mayCopy 37 = .ok (.goto 4, 3) := by decide +kernel
theorem dX4_mayCopy_40 : decode cX4_mayCopy 40 = .ok (.iconst 0, 1) := by decide +kernel
theorem dX4_mayCopy_41 : decode cX4_mayCopy 41 = .ok (.ireturn, 1) := by decide +kernel
theorem dX5_init_0 : decode cX5_init 0 = .ok (.aload_n 0, 1) := by decide +kernel
theorem dX5_init_1 : decode cX5_init 1 = .ok (.invokespecial 3, 3) := by decide +kernel
theorem dX5_init_4 : decode cX5_init 4 = .ok (.aload_n 0, 1) := by decide +kernel
theorem dX5_init_5 : decode cX5_init 5 = .ok (.sipush 600, 3) := by decide +kernel
theorem dX5_init_8 : decode cX5_init 8 = .ok (.newarray .int, 2) := by decide +kernel
theorem dX5_init_10 : decode cX5_init 10 = .ok (.putfield 9, 3) := by decide +kernel
theorem dX5_init_13 : decode cX5_init 13 = .ok (.aload_n 0, 1) := by decide +kernel
theorem dX5_init_14 : decode cX5_init 14 = .ok (.sipush 150, 3) := by decide +kernel
theorem dX5_init_17 : decode cX5_init 17 = .ok (.newarray .int, 2) := by decide +kernel
theorem dX5_init_19 : decode cX5_init 19 = .ok (.putfield 15, 3) := by decide +kernel
theorem dX5_init_22 : decode cX5_init 22 = .ok (.aload_n 0, 1) := by decide +kernel
theorem dX5_init_23 : decode cX5_init 23 = .ok (.sipush 150, 3) := by decide +kernel
theorem dX5_init_26 : decode cX5_init 26 = .ok (.newarray .int, 2) := by decide +kernel
theorem dX5_init_28 : decode cX5_init 28 = .ok (.putfield 18, 3) := by decide +kernel
theorem dX5_init_31 : decode cX5_init 31 = .ok (.aload_n 0, 1) := by decide +kernel
theorem dX5_init_32 : decode cX5_init 32 = .ok (.sipush 150, 3) := by decide +kernel
theorem dX5_init_35 : decode cX5_init 35 = .ok (.newarray .int, 2) := by decide +kernel
theorem dX5_init_37 : decode cX5_init 37 = .ok (.putfield 21, 3) := by decide +kernel
theorem dX5_init_40 : decode cX5_init 40 = .ok (.aload_n 0, 1) := by decide +kernel
theorem dX5_init_41 : decode cX5_init 41 = .ok (.sipush 150, 3) := by decide +kernel
theorem dX5_init_44 : decode cX5_init 44 = .ok (.newarray .int, 2) := by decide +kernel
theorem dX5_init_46 : decode cX5_init 46 = .ok (.putfield 24, 3) := by decide +kernel
theorem dX5_init_49 : decode cX5_init 49 = .ok (.return_, 1) := by decide +kernel
theorem dX5_add_0 : decode cX5_add 0 = .ok (.aload_n 0, 1) := by decide +kernel
theorem dX5_add_1 : decode cX5_add 1 = .ok (.iload_n 1, 1) := by decide +kernel
theorem dX5_add_2 : decode cX5_add 2 = .ok (.iload_n 2, 1) := by decide +kernel
theorem dX5_add_3 : decode cX5_add 3 = .ok (.invokevirtual 27, 3) := by decide +kernel
theorem dX5_add_6 : decode cX5_add 6 = .ok (.iconst (-1), 1) := by decide +kernel
theorem dX5_add_7 : decode cX5_add 7 = .ok (.if_icmp .eq 5, 3) := by decide +kernel
theorem dX5_add_10 : decode cX5_add 10 = .ok (.iconst 1, 1) := by decide +kernel
theorem dX5_add_11 : decode cX5_add 11 = .ok (.ireturn, 1) := by decide +kernel
theorem dX5_add_12 : decode cX5_add 12 = .ok (.aload_n 0, 1) := by decide +kernel
theorem dX5_add_13 : decode cX5_add 13 = .ok (.getfield 15, 3) := by decide +kernel
theorem dX5_add_16 : decode cX5_add 16 = .ok (.iload_n 1, 1) := by decide +kernel
theorem dX5_add_17 : decode cX5_add 17 = .ok (.iaload, 1) := by decide +kernel
theorem dX5_add_18 : decode cX5_add 18 = .ok (.iconst 4, 1) := by decide +kernel
theorem dX5_add_19 : decode cX5_add 19 = .ok (.if_icmp .lt 5, 3) := by decide +kernel
theorem dX5_add_22 : decode cX5_add 22 = .ok (.iconst 0, 1) := by decide +kernel
theorem dX5_add_23 : decode cX5_add 23 = .ok (.ireturn, 1) := by decide +kernel
theorem dX5_add_24 : decode cX5_add 24 = .ok (.aload_n 0, 1) := by decide +kernel
theorem dX5_add_25 : decode cX5_add 25 = .ok (.getfield 9, 3) := by decide +kernel
theorem dX5_add_28 : decode cX5_add 28 = .ok (.iload_n 1, 1) := by decide +kernel
theorem dX5_add_29 : decode cX5_add 29 = .ok (.iconst 4, 1) := by decide +kernel
theorem dX5_add_30 : decode cX5_add 30 = .ok (.imul, 1) := by decide +kernel
theorem dX5_add_31 : decode cX5_add 31 = .ok (.aload_n 0, 1) := by decide +kernel
theorem dX5_add_32 : decode cX5_add 32 = .ok (.getfield 15, 3) := by decide +kernel
theorem dX5_add_35 : decode cX5_add 35 = .ok (.iload_n 1, 1) := by decide +kernel
theorem dX5_add_36 : decode cX5_add 36 = .ok (.iaload, 1) := by decide +kernel
theorem dX5_add_37 : decode cX5_add 37 = .ok (.iadd, 1) := by decide +kernel
theorem dX5_add_38 : decode cX5_add 38 = .ok (.iload_n 2, 1) := by decide +kernel
theorem dX5_add_39 : decode cX5_add 39 = .ok (.iastore, 1) := by decide +kernel
theorem dX5_add_40 : decode cX5_add 40 = .ok (.aload_n 0, 1) := by decide +kernel
theorem dX5_add_41 : decode cX5_add 41 = .ok (.getfield 15, 3) := by decide +kernel
theorem dX5_add_44 : decode cX5_add 44 = .ok (.iload_n 1, 1) := by decide +kernel
theorem dX5_add_45 : decode cX5_add 45 = .ok (.dup2, 1) := by decide +kernel
theorem dX5_add_46 : decode cX5_add 46 = .ok (.iaload, 1) := by decide +kernel
theorem dX5_add_47 : decode cX5_add 47 = .ok (.iconst 1, 1) := by decide +kernel
theorem dX5_add_48 : decode cX5_add 48 = .ok (.iadd, 1) := by decide +kernel
theorem dX5_add_49 : decode cX5_add 49 = .ok (.iastore, 1) := by decide +kernel
theorem dX5_add_50 : decode cX5_add 50 = .ok (.iconst 1, 1) := by decide +kernel
theorem dX5_add_51 : decode cX5_add 51 = .ok (.ireturn, 1) := by decide +kernel
theorem dX5_remove_0 : decode cX5_remove 0 = .ok (.aload_n 0, 1) := by decide +kernel
theorem dX5_remove_1 : decode cX5_remove 1 = .ok (.iload_n 1, 1) := by decide +kernel
theorem dX5_remove_2 : decode cX5_remove 2 = .ok (.iload_n 2, 1) := by decide +kernel
theorem dX5_remove_3 : decode cX5_remove 3 = .ok (.invokevirtual 27, 3) := by decide +kernel
theorem dX5_remove_6 : decode cX5_remove 6 = .ok (.istore_n 3, 1) := by decide +kernel
theorem dX5_remove_7 : decode cX5_remove 7 = .ok (.iload_n 3, 1) := by decide +kernel
theorem dX5_remove_8 : decode cX5_remove 8 = .ok (.iconst (-1), 1) := by decide +kernel
theorem dX5_remove_9 : decode cX5_remove 9 = .ok (.if_icmp .eq 38, 3) := by decide +kernel
theorem dX5_remove_12 : decode cX5_remove 12 = .ok (.aload_n 0, 1) := by decide +kernel
theorem dX5_remove_13 : decode cX5_remove 13 = .ok (.getfield 15, 3) := by decide +kernel
theorem dX5_remove_16 : decode cX5_remove 16 = .ok (.iload_n 1, 1) := by decide +kernel
theorem dX5_remove_17 : decode cX5_remove 17 = .ok (.dup2, 1) := by decide +kernel
theorem dX5_remove_18 : decode cX5_remove 18 = .ok (.iaload, 1) := by decide +kernel
theorem dX5_remove_19 : decode cX5_remove 19 = .ok (.iconst 1, 1) := by decide +kernel
theorem dX5_remove_20 : decode cX5_remove 20 = .ok (.isub, 1) := by decide +kernel
theorem dX5_remove_21 : decode cX5_remove 21 = .ok (.iastore, 1) := by decide +kernel
theorem dX5_remove_22 : decode cX5_remove 22 = .ok (.aload_n 0, 1) := by decide +kernel
theorem dX5_remove_23 : decode cX5_remove 23 = .ok (.getfield 9, 3) := by decide +kernel
theorem dX5_remove_26 : decode cX5_remove 26 = .ok (.iload_n 1, 1) := by decide +kernel
theorem dX5_remove_27 : decode cX5_remove 27 = .ok (.iconst 4, 1) := by decide +kernel
theorem dX5_remove_28 : decode cX5_remove 28 = .ok (.imul, 1) := by decide +kernel
theorem dX5_remove_29 : decode cX5_remove 29 = .ok (.iload_n 3, 1) := by decide +kernel
theorem dX5_remove_30 : decode cX5_remove 30 = .ok (.iadd, 1) := by decide +kernel
theorem dX5_remove_31 : decode cX5_remove 31 = .ok (.aload_n 0, 1) := by decide +kernel
theorem dX5_remove_32 : decode cX5_remove 32 = .ok (.getfield 9, 3) := by decide +kernel
theorem dX5_remove_35 : decode cX5_remove 35 = .ok (.iload_n 1, 1) := by decide +kernel
theorem dX5_remove_36 : decode cX5_remove 36 = .ok (.iconst 4, 1) := by decide +kernel
theorem dX5_remove_37 : decode cX5_remove 37 = .ok (.imul, 1) := by decide +kernel
theorem dX5_remove_38 : decode cX5_remove 38 = .ok (.aload_n 0, 1) := by decide +kernel
theorem dX5_remove_39 : decode cX5_remove 39 = .ok (.getfield 15, 3) := by decide +kernel
theorem dX5_remove_42 : decode cX5_remove 42 = .ok (.iload_n 1, 1) := by decide +kernel
theorem dX5_remove_43 : decode cX5_remove 43 = .ok (.iaload, 1) := by decide +kernel
theorem dX5_remove_44 : decode cX5_remove 44 = .ok (.iadd, 1) := by decide +kernel
theorem dX5_remove_45 : decode cX5_remove 45 = .ok (.iaload, 1) := by decide +kernel
theorem dX5_remove_46 : decode cX5_remove 46 = .ok (.iastore, 1) := by decide +kernel
theorem dX5_remove_47 : decode cX5_remove 47 = .ok (.return_, 1) := by decide +kernel
theorem dX5_indexOf_0 : decode cX5_indexOf 0 = .ok (.iconst 0, 1) := by decide +kernel
theorem dX5_indexOf_1 : decode cX5_indexOf 1 = .ok (.istore_n 3, 1) := by decide +kernel
theorem dX5_indexOf_2 : decode cX5_indexOf 2 = .ok (.iload_n 3, 1) := by decide +kernel
theorem dX5_indexOf_3 : decode cX5_indexOf 3 = .ok (.aload_n 0, 1) := by decide +kernel
theorem dX5_indexOf_4 : decode cX5_indexOf 4 = .ok (.getfield 15, 3) := by decide +kernel
theorem dX5_indexOf_7 : decode cX5_indexOf 7 = .ok (.iload_n 1, 1) := by decide +kernel
theorem dX5_indexOf_8 : decode cX5_indexOf 8 = .ok (.iaload, 1) := by decide +kernel
theorem dX5_indexOf_9 : decode cX5_indexOf 9 = .ok (.if_icmp .ge 21, 3) := by decide +kernel
theorem dX5_indexOf_12 : decode cX5_indexOf 12 = .ok (.aload_n 0, 1) := by decide +kernel
theorem dX5_indexOf_13 : decode cX5_indexOf 13 = .ok (.iload_n 1, 1) := by decide +kernel
theorem dX5_indexOf_14 : decode cX5_indexOf 14 = .ok (.iload_n 3, 1) := by decide +kernel
theorem dX5_indexOf_15 : decode cX5_indexOf 15 = .ok (.invokevirtual 31, 3) := by decide +kernel
theorem dX5_indexOf_18 : decode cX5_indexOf 18 = .ok (.iload_n 2, 1) := by decide +kernel
theorem dX5_indexOf_19 : decode cX5_indexOf 19 = .ok (.if_icmp .ne 5, 3) := by decide +kernel
theorem dX5_indexOf_22 : decode cX5_indexOf 22 = .ok (.iload_n 3, 1) := by decide +kernel
theorem dX5_indexOf_23 : decode cX5_indexOf 23 = .ok (.ireturn, 1) := by decide +kernel
theorem dX5_indexOf_24 : decode cX5_indexOf 24 = .ok (.iinc 3 1, 3) := by decide +kernel
theorem dX5_indexOf_27 : decode cX5_indexOf 27 = .ok (.goto (-25), 3) := by decide +kernel
theorem dX5_indexOf_30 : decode cX5_indexOf 30 = .ok (.iconst (-1), 1) := by decide +kernel
theorem dX5_indexOf_31 : decode cX5_indexOf 31 = .ok (.ireturn, 1) := by decide +kernel
theorem dX5_nextCount_0 : decode cX5_nextCount 0 = .ok (.aload_n 0, 1) := by decide +kernel
theorem dX5_nextCount_1 : decode cX5_nextCount 1 = .ok (.getfield 15, 3) := by decide +kernel
theorem dX5_nextCount_4 : decode cX5_nextCount 4 = .ok (.iload_n 1, 1) := by decide +kernel
theorem dX5_nextCount_5 : decode cX5_nextCount 5 = .ok (.iaload, 1) := by decide +kernel
theorem dX5_nextCount_6 : decode cX5_nextCount 6 = .ok (.ireturn, 1) := by decide +kernel
theorem dX5_nextOf_0 : decode cX5_nextOf 0 = .ok (.aload_n 0, 1) := by decide +kernel
theorem dX5_nextOf_1 : decode cX5_nextOf 1 = .ok (.getfield 9, 3) := by decide +kernel
theorem dX5_nextOf_4 : decode cX5_nextOf 4 = .ok (.iload_n 1, 1) := by decide +kernel
theorem dX5_nextOf_5 : decode cX5_nextOf 5 = .ok (.iconst 4, 1) := by decide +kernel
theorem dX5_nextOf_6 : decode cX5_nextOf 6 = .ok (.imul, 1) := by decide +kernel
theorem dX5_nextOf_7 : decode cX5_nextOf 7 = .ok (.iload_n 2, 1) := by decide +kernel
theorem dX5_nextOf_8 : decode cX5_nextOf 8 = .ok (.iadd, 1) := by decide +kernel
theorem dX5_nextOf_9 : decode cX5_nextOf 9 = .ok (.iaload, 1) := by decide +kernel
theorem dX5_nextOf_10 : decode cX5_nextOf 10 = .ok (.ireturn, 1) := by decide +kernel
theorem dX5_walk_0 : decode cX5_walk 0 = .ok (.aload_n 0, 1) := by decide +kernel
theorem dX5_walk_1 : decode cX5_walk 1 = .ok (.getfield 18, 3) := by decide +kernel
theorem dX5_walk_4 : decode cX5_walk 4 = .ok (.iconst (-1), 1) := by decide +kernel
theorem dX5_walk_5 : decode cX5_walk 5 = .ok (.invokestatic 34, 3) := by decide +kernel
theorem dX5_walk_8 : decode cX5_walk 8 = .ok (.aload_n 0, 1) := by decide +kernel
theorem dX5_walk_9 : decode cX5_walk 9 = .ok (.iconst 0, 1) := by decide +kernel
theorem dX5_walk_10 : decode cX5_walk 10 = .ok (.putfield 40, 3) := by decide +kernel
theorem dX5_walk_13 : decode cX5_walk 13 = .ok (.aload_n 0, 1) := by decide +kernel
theorem dX5_walk_14 : decode cX5_walk 14 = .ok (.getfield 21, 3) := by decide +kernel
theorem dX5_walk_17 : decode cX5_walk 17 = .ok (.iconst 0, 1) := by decide +kernel
theorem dX5_walk_18 : decode cX5_walk 18 = .ok (.iconst 0, 1) := by decide +kernel
theorem dX5_walk_19 : decode cX5_walk 19 = .ok (.iastore, 1) := by decide +kernel
theorem dX5_walk_20 : decode cX5_walk 20 = .ok (.aload_n 0, 1) := by decide +kernel
theorem dX5_walk_21 : decode cX5_walk 21 = .ok (.getfield 18, 3) := by decide +kernel
theorem dX5_walk_24 : decode cX5_walk 24 = .ok (.iconst 0, 1) := by decide +kernel
theorem dX5_walk_25 : decode cX5_walk 25 = .ok (.iconst 0, 1) := by decide +kernel
theorem dX5_walk_26 : decode cX5_walk 26 = .ok (.iastore, 1) := by decide +kernel
theorem dX5_walk_27 : decode cX5_walk 27 = .ok (.iconst 1, 1) := by decide +kernel
theorem dX5_walk_28 : decode cX5_walk 28 = .ok (.istore_n 1, 1) := by decide +kernel
theorem dX5_walk_29 : decode cX5_walk 29 = .ok (.iconst 0, 1) := by decide +kernel
theorem dX5_walk_30 : decode cX5_walk 30 = .ok (.istore_n 2, 1) := by decide +kernel
theorem dX5_walk_31 : decode cX5_walk 31 = .ok (.iload_n 2, 1) := by decide +kernel
theorem dX5_walk_32 : decode cX5_walk 32 = .ok (.sipush 750, 3) := by decide +kernel
theorem dX5_walk_35 : decode cX5_walk 35 = .ok (.if_icmp .ge 116, 3) := by decide +kernel
theorem dX5_walk_38 : decode cX5_walk 38 = .ok (.iload_n 1, 1) := by decide +kernel
theorem dX5_walk_39 : decode cX5_walk 39 = .ok (.ifCond .le 112, 3) := by decide +kernel
theorem dX5_walk_42 : decode cX5_walk 42 = .ok (.aload_n 0, 1) := by decide +kernel
theorem dX5_walk_43 : decode cX5_walk 43 = .ok (.getfield 21, 3) := by decide +kernel
theorem dX5_walk_46 : decode cX5_walk 46 = .ok (.iload_n 1, 1) := by decide +kernel
theorem dX5_walk_47 : decode cX5_walk 47 = .ok (.iconst 1, 1) := by decide +kernel
theorem dX5_walk_48 : decode cX5_walk 48 = .ok (.isub, 1) := by decide +kernel
theorem dX5_walk_49 : decode cX5_walk 49 = .ok (.iaload, 1) := by decide +kernel
theorem dX5_walk_50 : decode cX5_walk 50 = .ok (.istore_n 3, 1) := by decide +kernel
theorem dX5_walk_51 : decode cX5_walk 51 = .ok (.aload_n 0, 1) := by decide +kernel
theorem dX5_walk_52 : decode cX5_walk 52 = .ok (.getfield 18, 3) := by decide +kernel
theorem dX5_walk_55 : decode cX5_walk 55 = .ok (.iload_n 3, 1) := by decide +kernel
theorem dX5_walk_56 : decode cX5_walk 56 = .ok (.iaload, 1) := by decide +kernel
theorem dX5_walk_57 : decode cX5_walk 57 = .ok (.aload_n 0, 1) := by decide +kernel
theorem dX5_walk_58 : decode cX5_walk 58 = .ok (.getfield 15, 3) := by decide +kernel
theorem dX5_walk_61 : decode cX5_walk 61 = .ok (.iload_n 3, 1) := by decide +kernel
theorem dX5_walk_62 : decode cX5_walk 62 = .ok (.iaload, 1) := by decide +kernel
theorem dX5_walk_63 : decode cX5_walk 63 = .ok (.if_icmp .lt 29, 3) := by decide +kernel
theorem dX5_walk_66 : decode cX5_walk 66 = .ok (.aload_n 0, 1) := by decide +kernel
theorem dX5_walk_67 : decode cX5_walk 67 = .ok (.getfield 24, 3) := by decide +kernel
theorem dX5_walk_70 : decode cX5_walk 70 = .ok (.aload_n 0, 1) := by decide +kernel
theorem dX5_walk_71 : decode cX5_walk 71 = .ok (.getfield 40, 3) := by decide +kernel
theorem dX5_walk_74 : decode cX5_walk 74 = .ok (.iload_n 3, 1) := by decide +kernel
theorem dX5_walk_75 : decode cX5_walk 75 = .ok (.iastore, 1) := by decide +kernel
theorem dX5_walk_76 : decode cX5_walk 76 = .ok (.aload_n 0, 1) := by decide +kernel
theorem dX5_walk_77 : decode cX5_walk 77 = .ok (.dup, 1) := by decide +kernel
theorem dX5_walk_78 : decode cX5_walk 78 = .ok (.getfield 40, 3) := by decide +kernel
theorem dX5_walk_81 : decode cX5_walk 81 = .ok (.iconst 1, 1) := by decide +kernel
theorem dX5_walk_82 : decode cX5_walk 82 = .ok (.iadd, 1) := by decide +kernel
theorem dX5_walk_83 : decode cX5_walk 83 = .ok (.putfield 40, 3) := by decide +kernel
theorem dX5_walk_86 : decode cX5_walk 86 = .ok (.iinc 1 (-1), 3) := by decide +kernel
theorem dX5_walk_89 : decode cX5_walk 89 = .ok (.goto 56, 3) := by decide +kernel
theorem dX5_walk_92 : decode cX5_walk 92 = .ok (.aload_n 0, 1) := by decide +kernel
theorem dX5_walk_93 : decode cX5_walk 93 = .ok (.iload_n 3, 1) := by decide +kernel
theorem dX5_walk_94 : decode cX5_walk 94 = .ok (.aload_n 0, 1) := by decide +kernel
theorem dX5_walk_95 : decode cX5_walk 95 = .ok (.getfield 18, 3) := by decide +kernel
theorem dX5_walk_98 : decode cX5_walk 98 = .ok (.iload_n 3, 1) := by decide +kernel
theorem dX5_walk_99 : decode cX5_walk 99 = .ok (.iaload, 1) := by decide +kernel
theorem dX5_walk_100 : decode cX5_walk 100 = .ok (.invokevirtual 31, 3) := by decide +kernel
theorem dX5_walk_103 : decode cX5_walk 103 = .ok (.istore 4, 2) := by decide +kernel
theorem dX5_walk_105 : decode cX5_walk 105 = .ok (.aload_n 0, 1) := by decide +kernel
theorem dX5_walk_106 : decode cX5_walk 106 = .ok (.getfield 18, 3) := by decide +kernel
theorem dX5_walk_109 : decode cX5_walk 109 = .ok (.iload_n 3, 1) := by decide +kernel
theorem dX5_walk_110 : decode cX5_walk 110 = .ok (.dup2, 1) := by decide +kernel
theorem dX5_walk_111 : decode cX5_walk 111 = .ok (.iaload, 1) := by decide +kernel
theorem dX5_walk_112 : decode cX5_walk 112 = .ok (.iconst 1, 1) := by decide +kernel
theorem dX5_walk_113 : decode cX5_walk 113 = .ok (.iadd, 1) := by decide +kernel
theorem dX5_walk_114 : decode cX5_walk 114 = .ok (.iastore, 1) := by decide +kernel
theorem dX5_walk_115 : decode cX5_walk 115 = .ok (.aload_n 0, 1) := by decide +kernel
theorem dX5_walk_116 : decode cX5_walk 116 = .ok (.getfield 18, 3) := by decide +kernel
theorem dX5_walk_119 : decode cX5_walk 119 = .ok (.iload 4, 2) := by decide +kernel
theorem dX5_walk_121 : decode cX5_walk 121 = .ok (.iaload, 1) := by decide +kernel
theorem dX5_walk_122 : decode cX5_walk 122 = .ok (.iconst (-1), 1) := by decide +kernel
theorem dX5_walk_123 : decode cX5_walk 123 = .ok (.if_icmp .ne 22, 3) := by decide +kernel
theorem dX5_walk_126 : decode cX5_walk 126 = .ok (.aload_n 0, 1) := by decide +kernel
theorem dX5_walk_127 : decode cX5_walk 127 = .ok (.getfield 18, 3) := by decide +kernel
theorem dX5_walk_130 : decode cX5_walk 130 = .ok (.iload 4, 2) := by decide +kernel
theorem dX5_walk_132 : decode cX5_walk 132 = .ok (.iconst 0, 1) := by decide +kernel
theorem dX5_walk_133 : decode cX5_walk 133 = .ok (.iastore, 1) := by decide +kernel
theorem dX5_walk_134 : decode cX5_walk 134 = .ok (.aload_n 0, 1) := by decide +kernel
theorem dX5_walk_135 : decode cX5_walk 135 = .ok (.getfield 21, 3) := by decide +kernel
theorem dX5_walk_138 : decode cX5_walk 138 = .ok (.iload_n 1, 1) := by decide +kernel
theorem dX5_walk_139 : decode cX5_walk 139 = .ok (.iload 4, 2) := by decide +kernel
theorem dX5_walk_141 : decode cX5_walk 141 = .ok (.iastore, 1) := by decide +kernel
theorem dX5_walk_142 : decode cX5_walk 142 = .ok (.iinc 1 1, 3) := by decide +kernel
theorem dX5_walk_145 : decode cX5_walk 145 = .ok (.iinc 2 1, 3) := by decide +kernel
theorem dX5_walk_148 : decode cX5_walk 148 = .ok (.goto (-117), 3) := by decide +kernel
theorem dX5_walk_151 : decode cX5_walk 151 = .ok (.return_, 1) := by decide +kernel
theorem dX5_comeTo_0 : decode cX5_comeTo 0 = .ok (.aload_n 0, 1) := by decide +kernel
theorem dX5_comeTo_1 : decode cX5_comeTo 1 = .ok (.getfield 18, 3) := by decide +kernel
theorem dX5_comeTo_4 : decode cX5_comeTo 4 = .ok (.iload_n 1, 1) := by decide +kernel
theorem dX5_comeTo_5 : decode cX5_comeTo 5 = .ok (.iaload, 1) := by decide +kernel
theorem dX5_comeTo_6 : decode cX5_comeTo 6 = .ok (.iconst (-1), 1) := by decide +kernel
theorem dX5_comeTo_7 : decode cX5_comeTo 7 = .ok (.if_icmp .eq 7, 3) := by decide +kernel
theorem dX5_comeTo_10 : decode cX5_comeTo 10 = .ok (.iconst 1, 1) := by decide +kernel
theorem dX5_comeTo_11 : decode cX5_comeTo 11 = .ok (.goto 4, 3) := by decide +kernel
theorem dX5_comeTo_14 : decode cX5_comeTo 14 = .ok (.iconst 0, 1) := by decide +kernel
theorem dX5_comeTo_15 : decode cX5_comeTo 15 = .ok (.ireturn, 1) := by decide +kernel
theorem dX5_size_0 : decode cX5_size 0 = .ok (.aload_n 0, 1) := by decide +kernel
theorem dX5_size_1 : decode cX5_size 1 = .ok (.getfield 40, 3) := by decide +kernel
theorem dX5_size_4 : decode cX5_size 4 = .ok (.ireturn, 1) := by decide +kernel
theorem dX5_fromTheEnd_0 : decode cX5_fromTheEnd 0 = .ok (.aload_n 0, 1) := by decide +kernel
theorem dX5_fromTheEnd_1 : decode cX5_fromTheEnd 1 = .ok (.getfield 24, 3) := by decide +kernel
theorem dX5_fromTheEnd_4 : decode cX5_fromTheEnd 4 = .ok (.iload_n 1, 1) := by decide +kernel
theorem dX5_fromTheEnd_5 : decode cX5_fromTheEnd 5 = .ok (.iaload, 1) := by decide +kernel
theorem dX5_fromTheEnd_6 : decode cX5_fromTheEnd 6 = .ok (.ireturn, 1) := by decide +kernel
theorem dX5_fromTheBeginning_0 : decode cX5_fromTheBeginning 0 = .ok (.aload_n 0, 1) := by decide +kernel
theorem dX5_fromTheBeginning_1 : decode cX5_fromTheBeginning 1 = .ok (.getfield 24, 3) := by decide +kernel
theorem dX5_fromTheBeginning_4 : decode cX5_fromTheBeginning 4 = .ok (.aload_n 0, 1) := by decide +kernel
theorem dX5_fromTheBeginning_5 : decode cX5_fromTheBeginning 5 = .ok (.getfield 40, 3) := by decide +kernel
theorem dX5_fromTheBeginning_8 : decode cX5_fromTheBeginning 8 = .ok (.iconst 1, 1) := by decide +kernel
theorem dX5_fromTheBeginning_9 : decode cX5_fromTheBeginning 9 = .ok (.isub, 1) := by decide +kernel
theorem dX5_fromTheBeginning_10 : decode cX5_fromTheBeginning 10 = .ok (.iload_n 1, 1) := by decide +kernel
theorem dX5_fromTheBeginning_11 : decode cX5_fromTheBeginning 11 = .ok (.isub, 1) := by decide +kernel
theorem dX5_fromTheBeginning_12 : decode cX5_fromTheBeginning 12 = .ok (.iaload, 1) := by decide +kernel
theorem dX5_fromTheBeginning_13 : decode cX5_fromTheBeginning 13 = .ok (.ireturn, 1) := by decide +kernel
