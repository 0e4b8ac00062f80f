theorem dX6_says_93 : decode cX6_says 93 = .ok (.iload 5, 2) := by decide +kernel
theorem dX6_says_95 : decode cX6_says 95 = .ok (.ifCond .eq 7, 3) := by decide +kernel
theorem dX6_says_98 : decode cX6_says 98 = .ok (.iconst 1, 1) := by decide +kernel
theorem dX6_says_99 : decode cX6_says 99 = .ok (.goto 4, 3) := by decide +kernel
theorem dX6_says_102 : decode cX6_says 102 = .ok (.iconst 0, 1) := by decide +kernel
theorem dX6_says_103 : decode cX6_says 103 = .ok (.ireturn, 1) := by decide +kernel
theorem dX6_goodOf_0 : decode cX6_goodOf 0 = .ok (.iload_n 2, 1) := by decide +kernel
theorem dX6_goodOf_1 : decode cX6_goodOf 1 = .ok (.invokestatic 348, 3) := by decide +kernel
theorem dX6_goodOf_4 : decode cX6_goodOf 4 = .ok (.istore_n 3, 1) := by decide +kernel
theorem dX6_goodOf_5 : decode cX6_goodOf 5 = .ok (.aload_n 0, 1) := by decide +kernel
theorem dX6_goodOf_6 : decode cX6_goodOf 6 = .ok (.getfield 35, 3) := by decide +kernel
theorem dX6_goodOf_9 : decode cX6_goodOf 9 = .ok (.iload_n 3, 1) := by decide +kernel
theorem dX6_goodOf_10 : decode cX6_goodOf 10 = .ok (.idiv, 1) := by decide +kernel
theorem dX6_goodOf_11 : decode cX6_goodOf 11 = .ok (.istore 4, 2) := by decide +kernel
theorem dX6_goodOf_13 : decode cX6_goodOf 13 = .ok (.iconst 0, 1) := by decide +kernel
theorem dX6_goodOf_14 : decode cX6_goodOf 14 = .ok (.istore 5, 2) := by decide +kernel
theorem dX6_goodOf_16 : decode cX6_goodOf 16 = .ok (.iload 5, 2) := by decide +kernel
theorem dX6_goodOf_18 : decode cX6_goodOf 18 = .ok (.aload_n 0, 1) := by decide +kernel
theorem dX6_goodOf_19 : decode cX6_goodOf 19 = .ok (.getfield 94, 3) := by decide +kernel
theorem dX6_goodOf_22 : decode cX6_goodOf 22 = .ok (.if_icmp .ge 47, 3) := by decide +kernel
theorem dX6_goodOf_25 : decode cX6_goodOf 25 = .ok (.iload 5, 2) := by decide +kernel
theorem dX6_goodOf_27 : decode cX6_goodOf 27 = .ok (.iload_n 1, 1) := by decide +kernel
theorem dX6_goodOf_28 : decode cX6_goodOf 28 = .ok (.if_icmp .eq 35, 3) := by decide +kernel
theorem dX6_goodOf_31 : decode cX6_goodOf 31 = .ok (.iload_n 2, 1) := by decide +kernel
theorem dX6_goodOf_32 : decode cX6_goodOf 32 = .ok (.iload 5, 2) := by decide +kernel
theorem dX6_goodOf_34 : decode cX6_goodOf 34 = .ok (.ishr, 1) := by decide +kernel
theorem dX6_goodOf_35 : decode cX6_goodOf 35 = .ok (.iconst 1, 1) := by decide +kernel
theorem dX6_goodOf_36 : decode cX6_goodOf 36 = .ok (.iand, 1) := by decide +kernel
theorem dX6_goodOf_37 : decode cX6_goodOf 37 = .ok (.iconst 1, 1) := by decide +kernel
theorem dX6_goodOf_38 : decode cX6_goodOf 38 = .ok (.if_icmp .ne 25, 3) := by decide +kernel
theorem dX6_goodOf_41 : decode cX6_goodOf 41 = .ok (.iload 4, 2) := by decide +kernel
theorem dX6_goodOf_43 : decode cX6_goodOf 43 = .ok (.aload_n 0, 1) := by decide +kernel
theorem dX6_goodOf_44 : decode cX6_goodOf 44 = .ok (.iconst 0, 1) := by decide +kernel
theorem dX6_goodOf_45 : decode cX6_goodOf 45 = .ok (.iload_n 1, 1) := by decide +kernel
theorem dX6_goodOf_46 : decode cX6_goodOf 46 = .ok (.iload 5, 2) := by decide +kernel
theorem dX6_goodOf_48 : decode cX6_goodOf 48 = .ok (.iload_n 3, 1) := by decide +kernel
theorem dX6_goodOf_49 : decode cX6_goodOf 49 = .ok (.invokevirtual 351, 3) := by decide +kernel
theorem dX6_goodOf_52 : decode cX6_goodOf 52 = .ok (.aload_n 0, 1) := by decide +kernel
theorem dX6_goodOf_53 : decode cX6_goodOf 53 = .ok (.iload 5, 2) := by decide +kernel
theorem dX6_goodOf_55 : decode cX6_goodOf 55 = .ok (.iload_n 3, 1) := by decide +kernel
theorem dX6_goodOf_56 : decode cX6_goodOf 56 = .ok (.invokevirtual 355, 3) := by decide +kernel
theorem dX6_goodOf_59 : decode cX6_goodOf 59 = .ok (.iadd, 1) := by decide +kernel
theorem dX6_goodOf_60 : decode cX6_goodOf 60 = .ok (.iadd, 1) := by decide +kernel
theorem dX6_goodOf_61 : decode cX6_goodOf 61 = .ok (.istore 4, 2) := by decide +kernel
theorem dX6_goodOf_63 : decode cX6_goodOf 63 = .ok (.iinc 5 1, 3) := by decide +kernel
theorem dX6_goodOf_66 : decode cX6_goodOf 66 = .ok (.goto (-50), 3) := by decide +kernel
theorem dX6_goodOf_69 : decode cX6_goodOf 69 = .ok (.iload 4, 2) := by decide +kernel
theorem dX6_goodOf_71 : decode cX6_goodOf 71 = .ok (.ireturn, 1) := by decide +kernel
theorem dX6_told_0 : decode cX6_told 0 = .ok (.aload_n 0, 1) := by decide +kernel
theorem dX6_told_1 : decode cX6_told 1 = .ok (.iload_n 1, 1) := by decide +kernel
theorem dX6_told_2 : decode cX6_told 2 = .ok (.invokevirtual 101, 3) := by decide +kernel
theorem dX6_told_5 : decode cX6_told 5 = .ok (.ifCond .eq 15, 3) := by decide +kernel
theorem dX6_told_8 : decode cX6_told 8 = .ok (.iload_n 2, 1) := by decide +kernel
theorem dX6_told_9 : decode cX6_told 9 = .ok (.i2l, 1) := by decide +kernel
theorem dX6_told_10 : decode cX6_told 10 = .ok (.lconst 0, 1) := by decide +kernel
theorem dX6_told_11 : decode cX6_told 11 = .ok (.ldc2_w 358, 3) := by decide +kernel
theorem dX6_told_14 : decode cX6_told 14 = .ok (.invokestatic 97, 3) := by decide +kernel
theorem dX6_told_17 : decode cX6_told 17 = .ok (.ifCond .ne 7, 3) := by decide +kernel
theorem dX6_told_20 : decode cX6_told 20 = .ok (.ldc_w 360, 3) := by decide +kernel
theorem dX6_told_23 : decode cX6_told 23 = .ok (.ireturn, 1) := by decide +kernel
theorem dX6_told_24 : decode cX6_told 24 = .ok (.aload_n 0, 1) := by decide +kernel
theorem dX6_told_25 : decode cX6_told 25 = .ok (.getfield 105, 3) := by decide +kernel
theorem dX6_told_28 : decode cX6_told 28 = .ok (.invokestatic 348, 3) := by decide +kernel
theorem dX6_told_31 : decode cX6_told 31 = .ok (.istore_n 3, 1) := by decide +kernel
theorem dX6_told_32 : decode cX6_told 32 = .ok (.iload_n 2, 1) := by decide +kernel
theorem dX6_told_33 : decode cX6_told 33 = .ok (.iconst 3, 1) := by decide +kernel
theorem dX6_told_34 : decode cX6_told 34 = .ok (.if_icmp .ge 39, 3) := by decide +kernel
theorem dX6_told_37 : decode cX6_told 37 = .ok (.iload_n 2, 1) := by decide +kernel
theorem dX6_told_38 : decode cX6_told 38 = .ok (.ifCond .ne 12, 3) := by decide +kernel
theorem dX6_told_41 : decode cX6_told 41 = .ok (.aload_n 0, 1) := by decide +kernel
theorem dX6_told_42 : decode cX6_told 42 = .ok (.getfield 23, 3) := by decide +kernel
theorem dX6_told_45 : decode cX6_told 45 = .ok (.iload_n 1, 1) := by decide +kernel
theorem dX6_told_46 : decode cX6_told 46 = .ok (.iaload, 1) := by decide +kernel
theorem dX6_told_47 : decode cX6_told 47 = .ok (.goto 25, 3) := by decide +kernel
theorem dX6_told_50 : decode cX6_told 50 = .ok (.iload_n 2, 1) := by decide +kernel
theorem dX6_told_51 : decode cX6_told 51 = .ok (.iconst 1, 1) := by decide +kernel
theorem dX6_told_52 : decode cX6_told 52 = .ok (.if_icmp .ne 12, 3) := by decide +kernel
theorem dX6_told_55 : decode cX6_told 55 = .ok (.aload_n 0, 1) := by decide +kernel
theorem dX6_told_56 : decode cX6_told 56 = .ok (.getfield 26, 3) := by decide +kernel
theorem dX6_told_59 : decode cX6_told 59 = .ok (.iload_n 1, 1) := by decide +kernel
theorem dX6_told_60 : decode cX6_told 60 = .ok (.iaload, 1) := by decide +kernel
theorem dX6_told_61 : decode cX6_told 61 = .ok (.goto 11, 3) := by decide +kernel
theorem dX6_told_64 : decode cX6_told 64 = .ok (.aload_n 0, 1) := by decide +kernel
theorem dX6_told_65 : decode cX6_told 65 = .ok (.getfield 105, 3) := by decide +kernel
theorem dX6_told_68 : decode cX6_told 68 = .ok (.iload_n 1, 1) := by decide +kernel
theorem dX6_told_69 : decode cX6_told 69 = .ok (.ishr, 1) := by decide +kernel
theorem dX6_told_70 : decode cX6_told 70 = .ok (.iconst 1, 1) := by decide +kernel
theorem dX6_told_71 : decode cX6_told 71 = .ok (.iand, 1) := by decide +kernel
theorem dX6_told_72 : decode cX6_told 72 = .ok (.ireturn, 1) := by decide +kernel
theorem dX6_told_73 : decode cX6_told 73 = .ok (.iload_n 2, 1) := by decide +kernel
theorem dX6_told_74 : decode cX6_told 74 = .ok (.bipush 6, 2) := by decide +kernel
theorem dX6_told_76 : decode cX6_told 76 = .ok (.if_icmp .ge 34, 3) := by decide +kernel
theorem dX6_told_79 : decode cX6_told 79 = .ok (.iload_n 2, 1) := by decide +kernel
theorem dX6_told_80 : decode cX6_told 80 = .ok (.iconst 3, 1) := by decide +kernel
theorem dX6_told_81 : decode cX6_told 81 = .ok (.if_icmp .ne 12, 3) := by decide +kernel
theorem dX6_told_84 : decode cX6_told 84 = .ok (.aload_n 0, 1) := by decide +kernel
theorem dX6_told_85 : decode cX6_told 85 = .ok (.iload_n 1, 1) := by decide +kernel
theorem dX6_told_86 : decode cX6_told 86 = .ok (.iload_n 3, 1) := by decide +kernel
theorem dX6_told_87 : decode cX6_told 87 = .ok (.invokevirtual 355, 3) := by decide +kernel
theorem dX6_told_90 : decode cX6_told 90 = .ok (.goto 19, 3) := by decide +kernel
theorem dX6_told_93 : decode cX6_told 93 = .ok (.aload_n 0, 1) := by decide +kernel
theorem dX6_told_94 : decode cX6_told 94 = .ok (.iload_n 1, 1) := by decide +kernel
theorem dX6_told_95 : decode cX6_told 95 = .ok (.iload_n 3, 1) := by decide +kernel
theorem dX6_told_96 : decode cX6_told 96 = .ok (.iload_n 2, 1) := by decide +kernel
theorem dX6_told_97 : decode cX6_told 97 = .ok (.iconst 5, 1) := by decide +kernel
theorem dX6_told_98 : decode cX6_told 98 = .ok (.if_icmp .ne 7, 3) := by decide +kernel
theorem dX6_told_101 : decode cX6_told 101 = .ok (.iconst 1, 1) := by decide +kernel
theorem dX6_told_102 : decode cX6_told 102 = .ok (.goto 4, 3) := by decide +kernel
theorem dX6_told_105 : decode cX6_told 105 = .ok (.iconst 0, 1) := by decide +kernel
theorem dX6_told_106 : decode cX6_told 106 = .ok (.invokevirtual 361, 3) := by decide +kernel
theorem dX6_told_109 : decode cX6_told 109 = .ok (.ireturn, 1) := by decide +kernel
theorem dX6_told_110 : decode cX6_told 110 = .ok (.iload_n 2, 1) := by decide +kernel
theorem dX6_told_111 : decode cX6_told 111 = .ok (.bipush 7, 2) := by decide +kernel
theorem dX6_told_113 : decode cX6_told 113 = .ok (.if_icmp .ne 12, 3) := by decide +kernel
theorem dX6_told_116 : decode cX6_told 116 = .ok (.aload_n 0, 1) := by decide +kernel
theorem dX6_told_117 : decode cX6_told 117 = .ok (.getfield 32, 3) := by decide +kernel
theorem dX6_told_120 : decode cX6_told 120 = .ok (.iload_n 1, 1) := by decide +kernel
theorem dX6_told_121 : decode cX6_told 121 = .ok (.iaload, 1) := by decide +kernel
theorem dX6_told_122 : decode cX6_told 122 = .ok (.goto 24, 3) := by decide +kernel
theorem dX6_told_125 : decode cX6_told 125 = .ok (.aload_n 0, 1) := by decide +kernel
theorem dX6_told_126 : decode cX6_told 126 = .ok (.iload_n 1, 1) := by decide +kernel
theorem dX6_told_127 : decode cX6_told 127 = .ok (.invokevirtual 365, 3) := by decide +kernel
theorem dX6_told_130 : decode cX6_told 130 = .ok (.ifCond .eq 15, 3) := by decide +kernel
theorem dX6_told_133 : decode cX6_told 133 = .ok (.aload_n 0, 1) := by decide +kernel
theorem dX6_told_134 : decode cX6_told 134 = .ok (.iload_n 1, 1) := by decide +kernel
theorem dX6_told_135 : decode cX6_told 135 = .ok (.aload_n 0, 1) := by decide +kernel
theorem dX6_told_136 : decode cX6_told 136 = .ok (.getfield 105, 3) := by decide +kernel
theorem dX6_told_139 : decode cX6_told 139 = .ok (.invokevirtual 368, 3) := by decide +kernel
theorem dX6_told_142 : decode cX6_told 142 = .ok (.goto 4, 3) := by decide +kernel
theorem dX6_told_145 : decode cX6_told 145 = .ok (.iconst 0, 1) := by decide +kernel
theorem dX6_told_146 : decode cX6_told 146 = .ok (.ireturn, 1) := by decide +kernel
theorem dX6_looks_0 : decode cX6_looks 0 = .ok (.aload_n 0, 1) := by decide +kernel
theorem dX6_looks_1 : decode cX6_looks 1 = .ok (.iload_n 1, 1) := by decide +kernel
theorem dX6_looks_2 : decode cX6_looks 2 = .ok (.putfield 371, 3) := by decide +kernel
theorem dX6_looks_5 : decode cX6_looks 5 = .ok (.iload_n 1, 1) := by decide +kernel
theorem dX6_looks_6 : decode cX6_looks 6 = .ok (.invokestatic 348, 3) := by decide +kernel
theorem dX6_looks_9 : decode cX6_looks 9 = .ok (.istore_n 2, 1) := by decide +kernel
theorem dX6_looks_10 : decode cX6_looks 10 = .ok (.iconst 0, 1) := by decide +kernel
theorem dX6_looks_11 : decode cX6_looks 11 = .ok (.istore_n 3, 1) := by decide +kernel
theorem dX6_looks_12 : decode cX6_looks 12 = .ok (.iload_n 3, 1) := by decide +kernel
theorem dX6_looks_13 : decode cX6_looks 13 = .ok (.aload_n 0, 1) := by decide +kernel
theorem dX6_looks_14 : decode cX6_looks 14 = .ok (.getfield 94, 3) := by decide +kernel
theorem dX6_looks_17 : decode cX6_looks 17 = .ok (.if_icmp .ge 130, 3) := by decide +kernel
theorem dX6_looks_20 : decode cX6_looks 20 = .ok (.iload_n 1, 1) := by decide +kernel
theorem dX6_looks_21 : decode cX6_looks 21 = .ok (.iload_n 3, 1) := by decide +kernel
theorem dX6_looks_22 : decode cX6_looks 22 = .ok (.ishr, 1) := by decide +kernel
theorem dX6_looks_23 : decode cX6_looks 23 = .ok (.iconst 1, 1) := by decide +kernel
theorem dX6_looks_24 : decode cX6_looks 24 = .ok (.iand, 1) := by decide +kernel
theorem dX6_looks_25 : decode cX6_looks 25 = .ok (.iconst 1, 1) := by decide +kernel
theorem dX6_looks_26 : decode cX6_looks 26 = .ok (.if_icmp .ne 115, 3) := by decide +kernel
theorem dX6_looks_29 : decode cX6_looks 29 = .ok (.aload_n 0, 1) := by decide +kernel
theorem dX6_looks_30 : decode cX6_looks 30 = .ok (.iload_n 3, 1) := by decide +kernel
theorem dX6_looks_31 : decode cX6_looks 31 = .ok (.iload_n 1, 1) := by decide +kernel
theorem dX6_looks_32 : decode cX6_looks 32 = .ok (.invokevirtual 368, 3) := by decide +kernel
theorem dX6_looks_35 : decode cX6_looks 35 = .ok (.istore 4, 2) := by decide +kernel
theorem dX6_looks_37 : decode cX6_looks 37 = .ok (.iconst 0, 1) := by decide +kernel
theorem dX6_looks_38 : decode cX6_looks 38 = .ok (.istore 5, 2) := by decide +kernel
theorem dX6_looks_40 : decode cX6_looks 40 = .ok (.iload 5, 2) := by decide +kernel
theorem dX6_looks_42 : decode cX6_looks 42 = .ok (.aload_n 0, 1) := by decide +kernel
theorem dX6_looks_43 : decode cX6_looks 43 = .ok (.getfield 94, 3) := by decide +kernel
theorem dX6_looks_46 : decode cX6_looks 46 = .ok (.if_icmp .ge 95, 3) := by decide +kernel
theorem dX6_looks_49 : decode cX6_looks 49 = .ok (.iload 5, 2) := by decide +kernel
theorem dX6_looks_51 : decode cX6_looks 51 = .ok (.iload_n 3, 1) := by decide +kernel
theorem dX6_looks_52 : decode cX6_looks 52 = .ok (.if_icmp .eq 83, 3) := by decide +kernel
theorem dX6_looks_55 : decode cX6_looks 55 = .ok (.iload_n 1, 1) := by decide +kernel
theorem dX6_looks_56 : decode cX6_looks 56 = .ok (.iload 5, 2) := by decide +kernel
theorem dX6_looks_58 : decode cX6_looks 58 = .ok (.ishr, 1) := by decide +kernel
theorem dX6_looks_59 : decode cX6_looks 59 = .ok (.iconst 1, 1) := by decide +kernel
theorem dX6_looks_60 : decode cX6_looks 60 = .ok (.iand, 1) := by decide +kernel
theorem dX6_looks_61 : decode cX6_looks 61 = .ok (.iconst 1, 1) := by decide +kernel
theorem dX6_looks_62 : decode cX6_looks 62 = .ok (.if_icmp .ne 73, 3) := by decide +kernel
theorem dX6_looks_65 : decode cX6_looks 65 = .ok (.aload_n 0, 1) := by decide +kernel
theorem dX6_looks_66 : decode cX6_looks 66 = .ok (.getfield 41, 3) := by decide +kernel
theorem dX6_looks_69 : decode cX6_looks 69 = .ok (.bipush 7, 2) := by decide +kernel
theorem dX6_looks_71 : decode cX6_looks 71 = .ok (.iload_n 3, 1) := by decide +kernel
theorem dX6_looks_72 : decode cX6_looks 72 = .ok (.imul, 1) := by decide +kernel
theorem dX6_looks_73 : decode cX6_looks 73 = .ok (.iload 5, 2) := by decide +kernel
theorem dX6_looks_75 : decode cX6_looks 75 = .ok (.iadd, 1) := by decide +kernel
theorem dX6_looks_76 : decode cX6_looks 76 = .ok (.aload_n 0, 1) := by decide +kernel
theorem dX6_looks_77 : decode cX6_looks 77 = .ok (.iload_n 3, 1) := by decide +kernel
theorem dX6_looks_78 : decode cX6_looks 78 = .ok (.iload_n 1, 1) := by decide +kernel
theorem dX6_looks_79 : decode cX6_looks 79 = .ok (.iconst 1, 1) := by decide +kernel
theorem dX6_looks_80 : decode cX6_looks 80 = .ok (.iload 5, 2) := by decide +kernel
theorem dX6_looks_82 : decode cX6_looks 82 = .ok (.ishl, 1) := by decide +kernel
theorem dX6_looks_83 : decode cX6_looks 83 = .ok (.iconst (-1), 1) := by decide +kernel
theorem dX6_looks_84 : decode cX6_looks 84 = .ok (.ixor, 1) := by decide +kernel
theorem dX6_looks_85 : decode cX6_looks 85 = .ok (.iand, 1) := by decide +kernel
theorem dX6_looks_86 : decode cX6_looks 86 = .ok (.invokevirtual 368, 3) := by decide +kernel
theorem dX6_looks_89 : decode cX6_looks 89 = .ok (.iload 4, 2) := by decide +kernel
theorem dX6_looks_91 : decode cX6_looks 91 = .ok (.isub, 1) := by decide +kernel
theorem dX6_looks_92 : decode cX6_looks 92 = .ok (.iastore, 1) := by decide +kernel
theorem dX6_looks_93 : decode cX6_looks 93 = .ok (.aload_n 0, 1) := by decide +kernel
theorem dX6_looks_94 : decode cX6_looks 94 = .ok (.getfield 44, 3) := by decide +kernel
theorem dX6_looks_97 : decode cX6_looks 97 = .ok (.bipush 7, 2) := by decide +kernel
theorem dX6_looks_99 : decode cX6_looks 99 = .ok (.iload_n 3, 1) := by decide +kernel
theorem dX6_looks_100 : decode cX6_looks 100 = .ok (.imul, 1) := by decide +kernel
theorem dX6_looks_101 : decode cX6_looks 101 = .ok (.iload 5, 2) := by decide +kernel
theorem dX6_looks_103 : decode cX6_looks 103 = .ok (.iadd, 1) := by decide +kernel
theorem dX6_looks_104 : decode cX6_looks 104 = .ok (.aload_n 0, 1) := by decide +kernel
theorem dX6_looks_105 : decode cX6_looks 105 = .ok (.iconst 1, 1) := by decide +kernel
theorem dX6_looks_106 : decode cX6_looks 106 = .ok (.iload_n 3, 1) := by decide +kernel
theorem dX6_looks_107 : decode cX6_looks 107 = .ok (.iload 5, 2) := by decide +kernel
theorem dX6_looks_109 : decode cX6_looks 109 = .ok (.iload_n 2, 1) := by decide +kernel
theorem dX6_looks_110 : decode cX6_looks 110 = .ok (.invokevirtual 351, 3) := by decide +kernel
theorem dX6_looks_113 : decode cX6_looks 113 = .ok (.iastore, 1) := by decide +kernel
theorem dX6_looks_114 : decode cX6_looks 114 = .ok (.aload_n 0, 1) := by decide +kernel
theorem dX6_looks_115 : decode cX6_looks 115 = .ok (.getfield 47, 3) := by decide +kernel
theorem dX6_looks_118 : decode cX6_looks 118 = .ok (.bipush 7, 2) := by decide +kernel
theorem dX6_looks_120 : decode cX6_looks 120 = .ok (.iload_n 3, 1) := by decide +kernel
theorem dX6_looks_121 : decode cX6_looks 121 = .ok (.imul, 1) := by decide +kernel
theorem dX6_looks_122 : decode cX6_looks 122 = .ok (.iload 5, 2) := by decide +kernel
theorem dX6_looks_124 : decode cX6_looks 124 = .ok (.iadd, 1) := by decide +kernel
theorem dX6_looks_125 : decode cX6_looks 125 = .ok (.aload_n 0, 1) := by decide +kernel
theorem dX6_looks_126 : decode cX6_looks 126 = .ok (.iconst 2, 1) := by decide +kernel
theorem dX6_looks_127 : decode cX6_looks 127 = .ok (.iload_n 3, 1) := by decide +kernel
theorem dX6_looks_128 : decode cX6_looks 128 = .ok (.iload 5, 2) := by decide +kernel
theorem dX6_looks_130 : decode cX6_looks 130 = .ok (.iload_n 2, 1) := by decide +kernel
theorem dX6_looks_131 : decode cX6_looks 131 = .ok (.invokevirtual 351, 3) := by decide +kernel
theorem dX6_looks_134 : decode cX6_looks 134 = .ok (.iastore, 1) := by decide +kernel
theorem dX6_looks_135 : decode cX6_looks 135 = .ok (.iinc 5 1, 3) := by decide +kernel
theorem dX6_looks_138 : decode cX6_looks 138 = .ok (.goto (-98), 3) := by decide +kernel
theorem dX6_looks_141 : decode cX6_looks 141 = .ok (.iinc 3 1, 3) := by decide +kernel
theorem dX6_looks_144 : decode cX6_looks 144 = .ok (.goto (-132), 3) := by decide +kernel
theorem dX6_looks_147 : decode cX6_looks 147 = .ok (.return_, 1) := by decide +kernel
theorem dX6_wouldJoin_0 : decode cX6_wouldJoin 0 = .ok (.aload_n 0, 1) := by decide +kernel
theorem dX6_wouldJoin_1 : decode cX6_wouldJoin 1 = .ok (.iload_n 1, 1) := by decide +kernel
theorem dX6_wouldJoin_2 : decode cX6_wouldJoin 2 = .ok (.iload_n 2, 1) := by decide +kernel
theorem dX6_wouldJoin_3 : decode cX6_wouldJoin 3 = .ok (.invokevirtual 112, 3) := by decide +kernel
theorem dX6_wouldJoin_6 : decode cX6_wouldJoin 6 = .ok (.istore_n 3, 1) := by decide +kernel
theorem dX6_wouldJoin_7 : decode cX6_wouldJoin 7 = .ok (.bipush 7, 2) := by decide +kernel
theorem dX6_wouldJoin_9 : decode cX6_wouldJoin 9 = .ok (.iload_n 1, 1) := by decide +kernel
theorem dX6_wouldJoin_10 : decode cX6_wouldJoin 10 = .ok (.imul, 1) := by decide +kernel
theorem dX6_wouldJoin_11 : decode cX6_wouldJoin 11 = .ok (.iload_n 2, 1) := by decide +kernel
theorem dX6_wouldJoin_12 : decode cX6_wouldJoin 12 = .ok (.iadd, 1) := by decide +kernel
theorem dX6_wouldJoin_13 : decode cX6_wouldJoin 13 = .ok (.istore 4, 2) := by decide +kernel
theorem dX6_wouldJoin_15 : decode cX6_wouldJoin 15 = .ok (.aload_n 0, 1) := by decide +kernel
theorem dX6_wouldJoin_16 : decode cX6_wouldJoin 16 = .ok (.getfield 47, 3) := by decide +kernel
theorem dX6_wouldJoin_19 : decode cX6_wouldJoin 19 = .ok (.iload 4, 2) := by decide +kernel
theorem dX6_wouldJoin_21 : decode cX6_wouldJoin 21 = .ok (.iaload, 1) := by decide +kernel
theorem dX6_wouldJoin_22 : decode cX6_wouldJoin 22 = .ok (.iconst 1, 1) := by decide +kernel
theorem dX6_wouldJoin_23 : decode cX6_wouldJoin 23 = .ok (.if_icmp .ne 46, 3) := by decide +kernel
theorem dX6_wouldJoin_26 : decode cX6_wouldJoin 26 = .ok (.aload_n 0, 1) := by decide +kernel
theorem dX6_wouldJoin_27 : decode cX6_wouldJoin 27 = .ok (.getfield 41, 3) := by decide +kernel
theorem dX6_wouldJoin_30 : decode cX6_wouldJoin 30 = .ok (.iload 4, 2) := by decide +kernel
theorem dX6_wouldJoin_32 : decode cX6_wouldJoin 32 = .ok (.iaload, 1) := by decide +kernel
theorem dX6_wouldJoin_33 : decode cX6_wouldJoin 33 = .ok (.iload_n 3, 1) := by decide +kernel
theorem dX6_wouldJoin_34 : decode cX6_wouldJoin 34 = .ok (.ifCond .eq 13, 3) := by decide +kernel
theorem dX6_wouldJoin_37 : decode cX6_wouldJoin 37 = .ok (.aload_n 0, 1) := by decide +kernel
theorem dX6_wouldJoin_38 : decode cX6_wouldJoin 38 = .ok (.getfield 44, 3) := by decide +kernel
theorem dX6_wouldJoin_41 : decode cX6_wouldJoin 41 = .ok (.iload 4, 2) := by decide +kernel
theorem dX6_wouldJoin_43 : decode cX6_wouldJoin 43 = .ok (.iaload, 1) := by decide +kernel
theorem dX6_wouldJoin_44 : decode cX6_wouldJoin 44 = .ok (.goto 4, 3) := by decide +kernel
theorem dX6_wouldJoin_47 : decode cX6_wouldJoin 47 = .ok (.iconst 0, 1) := by decide +kernel
theorem dX6_wouldJoin_48 : decode cX6_wouldJoin 48 = .ok (.isub, 1) := by decide +kernel
theorem dX6_wouldJoin_49 : decode cX6_wouldJoin 49 = .ok (.aload_n 0, 1) := by decide +kernel
theorem dX6_wouldJoin_50 : decode cX6_wouldJoin 50 = .ok (.iload_n 1, 1) := by decide +kernel
theorem dX6_wouldJoin_51 : decode cX6_wouldJoin 51 = .ok (.aload_n 0, 1) := by decide +kernel
theorem dX6_wouldJoin_52 : decode cX6_wouldJoin 52 = .ok (.getfield 371, 3) := by decide +kernel
theorem dX6_wouldJoin_55 : decode cX6_wouldJoin 55 = .ok (.invokestatic 348, 3) := by decide +kernel
theorem dX6_wouldJoin_58 : decode cX6_wouldJoin 58 = .ok (.iload_n 3, 1) := by decide +kernel
theorem dX6_wouldJoin_59 : decode cX6_wouldJoin 59 = .ok (.invokevirtual 361, 3) := by decide +kernel
theorem dX6_wouldJoin_62 : decode cX6_wouldJoin 62 = .ok (.if_icmp .lt 7, 3) := by decide +kernel
theorem dX6_wouldJoin_65 : decode cX6_wouldJoin 65 = .ok (.iconst 1, 1) := by decide +kernel
theorem dX6_wouldJoin_66 : decode cX6_wouldJoin 66 = .ok (.goto 4, 3) := by decide +kernel
theorem dX6_wouldJoin_69 : decode cX6_wouldJoin 69 = .ok (.iconst 0, 1) := by decide +kernel
theorem dX6_wouldJoin_70 : decode cX6_wouldJoin 70 = .ok (.ireturn, 1) := by decide +kernel
theorem dX6_isBand_0 : decode cX6_isBand 0 = .ok (.iload_n 1, 1) := by decide +kernel
theorem dX6_isBand_1 : decode cX6_isBand 1 = .ok (.iload_n 3, 1) := by decide +kernel
theorem dX6_isBand_2 : decode cX6_isBand 2 = .ok (.iconst (-1), 1) := by decide +kernel
theorem dX6_isBand_3 : decode cX6_isBand 3 = .ok (.ixor, 1) := by decide +kernel
theorem dX6_isBand_4 : decode cX6_isBand 4 = .ok (.iand, 1) := by decide +kernel
theorem dX6_isBand_5 : decode cX6_isBand 5 = .ok (.ifCond .ne 35, 3) := by decide +kernel
theorem dX6_isBand_8 : decode cX6_isBand 8 = .ok (.iload_n 1, 1) := by decide +kernel
theorem dX6_isBand_9 : decode cX6_isBand 9 = .ok (.invokestatic 348, 3) := by decide +kernel
theorem dX6_isBand_12 : decode cX6_isBand 12 = .ok (.aload_n 0, 1) := by decide +kernel
theorem dX6_isBand_13 : decode cX6_isBand 13 = .ok (.getfield 38, 3) := by decide +kernel
theorem dX6_isBand_16 : decode cX6_isBand 16 = .ok (.if_icmp .ne 24, 3) := by decide +kernel
theorem dX6_isBand_19 : decode cX6_isBand 19 = .ok (.iload_n 3, 1) := by decide +kernel
theorem dX6_isBand_20 : decode cX6_isBand 20 = .ok (.iload_n 2, 1) := by decide +kernel
theorem dX6_isBand_21 : decode cX6_isBand 21 = .ok (.ishr, 1) := by decide +kernel
theorem dX6_isBand_22 : decode cX6_isBand 22 = .ok (.iconst 1, 1) := by decide +kernel
theorem dX6_isBand_23 : decode cX6_isBand 23 = .ok (.iand, 1) := by decide +kernel
theorem dX6_isBand_24 : decode cX6_isBand 24 = .ok (.iconst 1, 1) := by decide +kernel
theorem dX6_isBand_25 : decode cX6_isBand 25 = .ok (.if_icmp .ne 15, 3) := by decide +kernel
theorem dX6_isBand_28 : decode cX6_isBand 28 = .ok (.iload_n 1, 1) := by decide +kernel
theorem dX6_isBand_29 : decode cX6_isBand 29 = .ok (.iload_n 2, 1) := by decide +kernel
theorem dX6_isBand_30 : decode cX6_isBand 30 = .ok (.ishr, 1) := by decide +kernel
theorem dX6_isBand_31 : decode cX6_isBand 31 = .ok (.iconst 1, 1) := by decide +kernel
theorem dX6_isBand_32 : decode cX6_isBand 32 = .ok (.iand, 1) := by decide +kernel
theorem dX6_isBand_33 : decode cX6_isBand 33 = .ok (.ifCond .ne 7, 3) := by decide +kernel
theorem dX6_isBand_36 : decode cX6_isBand 36 = .ok (.iconst 1, 1) := by decide +kernel
theorem dX6_isBand_37 : decode cX6_isBand 37 = .ok (.goto 4, 3) := by decide +kernel
theorem dX6_isBand_40 : decode cX6_isBand 40 = .ok (.iconst 0, 1) := by decide +kernel
theorem dX6_isBand_41 : decode cX6_isBand 41 = .ok (.ireturn, 1) := by decide +kernel
theorem dX6_allWould_0 : decode cX6_allWould 0 = .ok (.iconst 0, 1) := by decide +kernel
theorem dX6_allWould_1 : decode cX6_allWould 1 = .ok (.istore_n 3, 1) := by decide +kernel
theorem dX6_allWould_2 : decode cX6_allWould 2 = .ok (.iload_n 3, 1) := by decide +kernel
theorem dX6_allWould_3 : decode cX6_allWould 3 = .ok (.aload_n 0, 1) := by decide +kernel
theorem dX6_allWould_4 : decode cX6_allWould 4 = .ok (.getfield 94, 3) := by decide +kernel
theorem dX6_allWould_7 : decode cX6_allWould 7 = .ok (.if_icmp .ge 29, 3) := by decide +kernel
theorem dX6_allWould_10 : decode cX6_allWould 10 = .ok (.iload_n 1, 1) := by decide +kernel
theorem dX6_allWould_11 : decode cX6_allWould 11 = .ok (.iload_n 3, 1) := by decide +kernel
theorem dX6_allWould_12 : decode cX6_allWould 12 = .ok (.ishr, 1) := by decide +kernel
theorem dX6_allWould_13 : decode cX6_allWould 13 = .ok (.iconst 1, 1) := by decide +kernel
theorem dX6_allWould_14 : decode cX6_allWould 14 = .ok (.iand, 1) := by decide +kernel
theorem dX6_allWould_15 : decode cX6_allWould 15 = .ok (.iconst 1, 1) := by decide +kernel
theorem dX6_allWould_16 : decode cX6_allWould 16 = .ok (.if_icmp .ne 14, 3) := by decide +kernel
theorem dX6_allWould_19 : decode cX6_allWould 19 = .ok (.aload_n 0, 1) := by decide +kernel
theorem dX6_allWould_20 : decode cX6_allWould 20 = .ok (.iload_n 3, 1) := by decide +kernel
theorem dX6_allWould_21 : decode cX6_allWould 21 = .ok (.iload_n 2, 1) := by decide +kernel
theorem dX6_allWould_22 : decode cX6_allWould 22 = .ok (.invokevirtual 374, 3) := by decide +kernel
theorem dX6_allWould_25 : decode cX6_allWould 25 = .ok (.ifCond .ne 5, 3) := by decide +kernel
theorem dX6_allWould_28 : decode cX6_allWould 28 = .ok (.iconst 0, 1) := by decide +kernel
theorem dX6_allWould_29 : decode cX6_allWould 29 = .ok (.ireturn, 1) := by decide +kernel
theorem dX6_allWould_30 : decode cX6_allWould 30 = .ok (.iinc 3 1, 3) := by decide +kernel
theorem dX6_allWould_33 : decode cX6_allWould 33 = .ok (.goto (-31), 3) := by decide +kernel
theorem dX6_allWould_36 : decode cX6_allWould 36 = .ok (.iconst 1, 1) := by decide +kernel
theorem dX6_allWould_37 : decode cX6_allWould 37 = .ok (.ireturn, 1) := by decide +kernel
theorem dX6_goesThrough_0 : decode cX6_goesThrough 0 = .ok (.aload_n 0, 1) := by decide +kernel
theorem dX6_goesThrough_1 : decode cX6_goesThrough 1 = .ok (.iconst (-1), 1) := by decide +kernel
theorem dX6_goesThrough_2 : decode cX6_goesThrough 2 = .ok (.putfield 377, 3) := by decide +kernel
theorem dX6_goesThrough_5 : decode cX6_goesThrough 5 = .ok (.aload_n 0, 1) := by decide +kernel
theorem dX6_goesThrough_6 : decode cX6_goesThrough 6 = .ok (.iconst (-1), 1) := by decide +kernel
theorem dX6_goesThrough_7 : decode cX6_goesThrough 7 = .ok (.putfield 380, 3) := by decide +kernel
theorem dX6_goesThrough_10 : decode cX6_goesThrough 10 = .ok (.aload_n 0, 1) := by decide +kernel
theorem dX6_goesThrough_11 : decode cX6_goesThrough 11 = .ok (.iconst 0, 1) := by decide +kernel
theorem dX6_goesThrough_12 : decode cX6_goesThrough 12 = .ok (.putfield 383, 3) := by decide +kernel
theorem dX6_goesThrough_15 : decode cX6_goesThrough 15 = .ok (.iconst 1, 1) := by decide +kernel
theorem dX6_goesThrough_16 : decode cX6_goesThrough 16 = .ok (.istore_n 1, 1) := by decide +kernel
theorem dX6_goesThrough_17 : decode cX6_goesThrough 17 = .ok (.iload_n 1, 1) := by decide +kernel
theorem dX6_goesThrough_18 : decode cX6_goesThrough 18 = .ok (.iconst 1, 1) := by decide +kernel
theorem dX6_goesThrough_19 : decode cX6_goesThrough 19 = .ok (.aload_n 0, 1) := by decide +kernel
theorem dX6_goesThrough_20 : decode cX6_goesThrough 20 = .ok (.getfield 94, 3) := by decide +kernel
theorem dX6_goesThrough_23 : decode cX6_goesThrough 23 = .ok (.ishl, 1) := by decide +kernel
theorem dX6_goesThrough_24 : decode cX6_goesThrough 24 = .ok (.if_icmp .ge 75, 3) := by decide +kernel
theorem dX6_goesThrough_27 : decode cX6_goesThrough 27 = .ok (.iconst 0, 1) := by decide +kernel
theorem dX6_goesThrough_28 : decode cX6_goesThrough 28 = .ok (.istore_n 2, 1) := by decide +kernel
theorem dX6_goesThrough_29 : decode cX6_goesThrough 29 = .ok (.iload_n 2, 1) := by decide +kernel
theorem dX6_goesThrough_30 : decode cX6_goesThrough 30 = .ok (.aload_n 0, 1) := by decide +kernel
theorem dX6_goesThrough_31 : decode cX6_goesThrough 31 = .ok (.getfield 94, 3) := by decide +kernel
theorem dX6_goesThrough_34 : decode cX6_goesThrough 34 = .ok (.if_icmp .ge 59, 3) := by decide +kernel
theorem dX6_goesThrough_37 : decode cX6_goesThrough 37 = .ok (.aload_n 0, 1) := by decide +kernel
theorem dX6_goesThrough_38 : decode cX6_goesThrough 38 = .ok (.iload_n 1, 1) := by decide +kernel
theorem dX6_goesThrough_39 : decode cX6_goesThrough 39 = .ok (.iload_n 2, 1) := by decide +kernel
theorem dX6_goesThrough_40 : decode cX6_goesThrough 40 = .ok (.aload_n 0, 1) := by decide +kernel
theorem dX6_goesThrough_41 : decode cX6_goesThrough 41 = .ok (.getfield 371, 3) := by decide +kernel
theorem dX6_goesThrough_44 : decode cX6_goesThrough 44 = .ok (.invokevirtual 386, 3) := by decide +kernel
theorem dX6_goesThrough_47 : decode cX6_goesThrough 47 = .ok (.ifCond .eq 40, 3) := by decide +kernel
theorem dX6_goesThrough_50 : decode cX6_goesThrough 50 = .ok (.aload_n 0, 1) := by decide +kernel
theorem dX6_goesThrough_51 : decode cX6_goesThrough 51 = .ok (.iload_n 1, 1) := by decide +kernel
theorem dX6_goesThrough_52 : decode cX6_goesThrough 52 = .ok (.iload_n 2, 1) := by decide +kernel
theorem dX6_goesThrough_53 : decode cX6_goesThrough 53 = .ok (.invokevirtual 390, 3) := by decide +kernel
theorem dX6_goesThrough_56 : decode cX6_goesThrough 56 = .ok (.ifCond .eq 31, 3) := by decide +kernel
theorem dX6_goesThrough_59 : decode cX6_goesThrough 59 = .ok (.aload_n 0, 1) := by decide +kernel
theorem dX6_goesThrough_60 : decode cX6_goesThrough 60 = .ok (.dup, 1) := by decide +kernel
theorem dX6_goesThrough_61 : decode cX6_goesThrough 61 = .ok (.getfield 383, 3) := by decide +kernel
theorem dX6_goesThrough_64 : decode cX6_goesThrough 64 = .ok (.iconst 1, 1) := by decide +kernel
theorem dX6_goesThrough_65 : decode cX6_goesThrough 65 = .ok (.iadd, 1) := by decide +kernel
theorem dX6_goesThrough_66 : decode cX6_goesThrough 66 = .ok (.putfield 383, 3) := by decide +kernel
theorem dX6_goesThrough_69 : decode cX6_goesThrough 69 = .ok (.aload_n 0, 1) := by decide +kernel
theorem dX6_goesThrough_70 : decode cX6_goesThrough 70 = .ok (.getfield 377, 3) := by decide +kernel
theorem dX6_goesThrough_73 : decode cX6_goesThrough 73 = .ok (.iconst (-1), 1) := by decide +kernel
theorem dX6_goesThrough_74 : decode cX6_goesThrough 74 = .ok (.if_icmp .ne 13, 3) := by decide +kernel
theorem dX6_goesThrough_77 : decode cX6_goesThrough 77 = .ok (.aload_n 0, 1) := by decide +kernel
theorem dX6_goesThrough_78 : decode cX6_goesThrough 78 = .ok (.iload_n 1, 1) := by decide +kernel
theorem dX6_goesThrough_79 : decode cX6_goesThrough 79 = .ok (.putfield 377, 3) := by decide +kernel
theorem dX6_goesThrough_82 : decode cX6_goesThrough 82 = .ok (.aload_n 0, 1) := by decide +kernel
theorem dX6_goesThrough_83 : decode cX6_goesThrough 83 = .ok (.iload_n 2, 1) := by decide +kernel
theorem dX6_goesThrough_84 : decode cX6_goesThrough 84 = .ok (.putfield 380, 3) := by decide +kernel
theorem dX6_goesThrough_87 : decode cX6_goesThrough 87 = .ok (.iinc 2 1, 3) := by decide +kernel
theorem dX6_goesThrough_90 : decode cX6_goesThrough 90 = .ok (.goto (-61), 3) := by decide +kernel
theorem dX6_goesThrough_93 : decode cX6_goesThrough 93 = .ok (.iinc 1 1, 3) := by decide +kernel
theorem dX6_goesThrough_96 : decode cX6_goesThrough 96 = .ok (.goto (-79), 3) := by decide +kernel
theorem dX6_goesThrough_99 : decode cX6_goesThrough 99 = .ok (.return_, 1) := by decide +kernel
theorem dX6_isSafe_0 : decode cX6_isSafe 0 = .ok (.iconst 1, 1) := by decide +kernel
theorem dX6_isSafe_1 : decode cX6_isSafe 1 = .ok (.istore_n 2, 1) := by decide +kernel
theorem dX6_isSafe_2 : decode cX6_isSafe 2 = .ok (.iload_n 2, 1) := by decide +kernel
theorem dX6_isSafe_3 : decode cX6_isSafe 3 = .ok (.iconst 1, 1) := by decide +kernel
theorem dX6_isSafe_4 : decode cX6_isSafe 4 = .ok (.aload_n 0, 1) := by decide +kernel
theorem dX6_isSafe_5 : decode cX6_isSafe 5 = .ok (.getfield 94, 3) := by decide +kernel
theorem dX6_isSafe_8 : decode cX6_isSafe 8 = .ok (.ishl, 1) := by decide +kernel
theorem dX6_isSafe_9 : decode cX6_isSafe 9 = .ok (.if_icmp .ge 33, 3) := by decide +kernel
theorem dX6_isSafe_12 : decode cX6_isSafe 12 = .ok (.aload_n 0, 1) := by decide +kernel
theorem dX6_isSafe_13 : decode cX6_isSafe 13 = .ok (.iload_n 2, 1) := by decide +kernel
theorem dX6_isSafe_14 : decode cX6_isSafe 14 = .ok (.iload_n 1, 1) := by decide +kernel
theorem dX6_isSafe_15 : decode cX6_isSafe 15 = .ok (.aload_n 0, 1) := by decide +kernel
theorem dX6_isSafe_16 : decode cX6_isSafe 16 = .ok (.getfield 371, 3) := by decide +kernel
theorem dX6_isSafe_19 : decode cX6_isSafe 19 = .ok (.invokevirtual 386, 3) := by decide +kernel
theorem dX6_isSafe_22 : decode cX6_isSafe 22 = .ok (.ifCond .eq 14, 3) := by decide +kernel
theorem dX6_isSafe_25 : decode cX6_isSafe 25 = .ok (.aload_n 0, 1) := by decide +kernel
theorem dX6_isSafe_26 : decode cX6_isSafe 26 = .ok (.iload_n 2, 1) := by decide +kernel
theorem dX6_isSafe_27 : decode cX6_isSafe 27 = .ok (.iload_n 1, 1) := by decide +kernel
theorem dX6_isSafe_28 : decode cX6_isSafe 28 = .ok (.invokevirtual 390, 3) := by decide +kernel
theorem dX6_isSafe_31 : decode cX6_isSafe 31 = .ok (.ifCond .eq 5, 3) := by decide +kernel
theorem dX6_isSafe_34 : decode cX6_isSafe 34 = .ok (.iconst 0, 1) := by decide +kernel
theorem dX6_isSafe_35 : decode cX6_isSafe 35 = .ok (.ireturn, 1) := by decide +kernel
theorem dX6_isSafe_36 : decode cX6_isSafe 36 = .ok (.iinc 2 1, 3) := by decide +kernel
theorem dX6_isSafe_39 : decode cX6_isSafe 39 = .ok (.goto (-37), 3) := by decide +kernel
theorem dX6_isSafe_42 : decode cX6_isSafe 42 = .ok (.iconst 1, 1) := by decide +kernel
theorem dX6_isSafe_43 : decode cX6_isSafe 43 = .ok (.ireturn, 1) := by decide +kernel
theorem dX6_isRest_0 : decode cX6_isRest 0 = .ok (.aload_n 0, 1) := by decide +kernel
theorem dX6_isRest_1 : decode cX6_isRest 1 = .ok (.invokevirtual 393, 3) := by decide +kernel
theorem dX6_isRest_4 : decode cX6_isRest 4 = .ok (.aload_n 0, 1) := by decide +kernel
theorem dX6_isRest_5 : decode cX6_isRest 5 = .ok (.getfield 383, 3) := by decide +kernel
theorem dX6_isRest_8 : decode cX6_isRest 8 = .ok (.ifCond .ne 7, 3) := by decide +kernel
theorem dX6_isRest_11 : decode cX6_isRest 11 = .ok (.iconst 1, 1) := by decide +kernel
theorem dX6_isRest_12 : decode cX6_isRest 12 = .ok (.goto 4, 3) := by decide +kernel
theorem dX6_isRest_15 : decode cX6_isRest 15 = .ok (.iconst 0, 1) := by decide +kernel
theorem dX6_isRest_16 : decode cX6_isRest 16 = .ok (.ireturn, 1) := by decide +kernel
theorem dX6_would_0 : decode cX6_would 0 = .ok (.iload_n 1, 1) := by decide +kernel
theorem dX6_would_1 : decode cX6_would 1 = .ok (.i2l, 1) := by decide +kernel
theorem dX6_would_2 : decode cX6_would 2 = .ok (.lconst 1, 1) := by decide +kernel
theorem dX6_would_3 : decode cX6_would 3 = .ok (.iconst 1, 1) := by decide +kernel
theorem dX6_would_4 : decode cX6_would 4 = .ok (.aload_n 0, 1) := by decide +kernel
theorem dX6_would_5 : decode cX6_would 5 = .ok (.getfield 94, 3) := by decide +kernel
theorem dX6_would_8 : decode cX6_would 8 = .ok (.ishl, 1) := by decide +kernel
theorem dX6_would_9 : decode cX6_would 9 = .ok (.iconst 1, 1) := by decide +kernel
theorem dX6_would_10 : decode cX6_would 10 = .ok (.isub, 1) := by decide +kernel
theorem dX6_would_11 : decode cX6_would 11 = .ok (.i2l, 1) := by decide +kernel
theorem dX6_would_12 : decode cX6_would 12 = .ok (.invokestatic 97, 3) := by decide +kernel
theorem dX6_would_15 : decode cX6_would 15 = .ok (.ifCond .eq 24, 3) := by decide +kernel
theorem dX6_would_18 : decode cX6_would 18 = .ok (.aload_n 0, 1) := by decide +kernel
theorem dX6_would_19 : decode cX6_would 19 = .ok (.iload_n 2, 1) := by decide +kernel
theorem dX6_would_20 : decode cX6_would 20 = .ok (.invokevirtual 101, 3) := by decide +kernel
theorem dX6_would_23 : decode cX6_would 23 = .ok (.ifCond .eq 16, 3) := by decide +kernel
theorem dX6_would_26 : decode cX6_would 26 = .ok (.aload_n 0, 1) := by decide +kernel
theorem dX6_would_27 : decode cX6_would 27 = .ok (.iload_n 1, 1) := by decide +kernel
theorem dX6_would_28 : decode cX6_would 28 = .ok (.iload_n 2, 1) := by decide +kernel
theorem dX6_would_29 : decode cX6_would 29 = .ok (.aload_n 0, 1) := by decide +kernel
theorem dX6_would_30 : decode cX6_would 30 = .ok (.getfield 105, 3) := by decide +kernel
theorem dX6_would_33 : decode cX6_would 33 = .ok (.invokevirtual 386, 3) := by decide +kernel
theorem dX6_would_36 : decode cX6_would 36 = .ok (.ifCond .ne 6, 3) := by decide +kernel
theorem dX6_would_39 : decode cX6_would 39 = .ok (.bipush (-2), 2) := by decide +kernel
theorem dX6_would_41 : decode cX6_would 41 = .ok (.ireturn, 1) := by decide +kernel
theorem dX6_would_42 : decode cX6_would 42 = .ok (.aload_n 0, 1) := by decide +kernel
theorem dX6_would_43 : decode cX6_would 43 = .ok (.aload_n 0, 1) := by decide +kernel
theorem dX6_would_44 : decode cX6_would 44 = .ok (.getfield 105, 3) := by decide +kernel
theorem dX6_would_47 : decode cX6_would 47 = .ok (.invokevirtual 396, 3) := by decide +kernel
theorem dX6_would_50 : decode cX6_would 50 = .ok (.aload_n 0, 1) := by decide +kernel
theorem dX6_would_51 : decode cX6_would 51 = .ok (.iload_n 1, 1) := by decide +kernel
theorem dX6_would_52 : decode cX6_would 52 = .ok (.iload_n 2, 1) := by decide +kernel
theorem dX6_would_53 : decode cX6_would 53 = .ok (.invokevirtual 390, 3) := by decide +kernel
theorem dX6_would_56 : decode cX6_would 56 = .ok (.ifCond .eq 7, 3) := by decide +kernel
theorem dX6_would_59 : decode cX6_would 59 = .ok (.iconst 1, 1) := by decide +kernel
theorem dX6_would_60 : decode cX6_would 60 = .ok (.goto 4, 3) := by decide +kernel
theorem dX6_would_63 : decode cX6_would 63 = .ok (.iconst 0, 1) := by decide +kernel
theorem dX6_would_64 : decode cX6_would 64 = .ok (.ireturn, 1) := by decide +kernel
theorem dX6_now_0 : decode cX6_now 0 = .ok (.iload_n 1, 1) := by decide +kernel
theorem dX6_now_1 : decode cX6_now 1 = .ok (.i2l, 1) := by decide +kernel
theorem dX6_now_2 : decode cX6_now 2 = .ok (.lconst 0, 1) := by decide +kernel
theorem dX6_now_3 : decode cX6_now 3 = .ok (.ldc2_w 122, 3) := by decide +kernel
theorem dX6_now_6 : decode cX6_now 6 = .ok (.invokestatic 97, 3) := by decide +kernel
theorem dX6_now_9 : decode cX6_now 9 = .ok (.ifCond .ne 6, 3) := by decide +kernel
theorem dX6_now_12 : decode cX6_now 12 = .ok (.bipush (-2), 2) := by decide +kernel
theorem dX6_now_14 : decode cX6_now 14 = .ok (.ireturn, 1) := by decide +kernel
theorem dX6_now_15 : decode cX6_now 15 = .ok (.aload_n 0, 1) := by decide +kernel
theorem dX6_now_16 : decode cX6_now 16 = .ok (.aload_n 0, 1) := by decide +kernel
theorem dX6_now_17 : decode cX6_now 17 = .ok (.getfield 105, 3) := by decide +kernel
theorem dX6_now_20 : decode cX6_now 20 = .ok (.invokevirtual 396, 3) := by decide +kernel
theorem dX6_now_23 : decode cX6_now 23 = .ok (.aload_n 0, 1) := by decide +kernel
theorem dX6_now_24 : decode cX6_now 24 = .ok (.invokevirtual 393, 3) := by decide +kernel
theorem dX6_now_27 : decode cX6_now 27 = .ok (.iload_n 1, 1) := by decide +kernel
theorem dX6_now_28 : decode cX6_now 28 = .ok (.ifCond .ne 10, 3) := by decide +kernel
theorem dX6_now_31 : decode cX6_now 31 = .ok (.aload_n 0, 1) := by decide +kernel
theorem dX6_now_32 : decode cX6_now 32 = .ok (.getfield 377, 3) := by decide +kernel
theorem dX6_now_35 : decode cX6_now 35 = .ok (.goto 19, 3) := by decide +kernel
theorem dX6_now_38 : decode cX6_now 38 = .ok (.iload_n 1, 1) := by decide +kernel
theorem dX6_now_39 : decode cX6_now 39 = .ok (.iconst 1, 1) := by decide +kernel
theorem dX6_now_40 : decode cX6_now 40 = .ok (.if_icmp .ne 10, 3) := by decide +kernel
theorem dX6_now_43 : decode cX6_now 43 = .ok (.aload_n 0, 1) := by decide +kernel
theorem dX6_now_44 : decode cX6_now 44 = .ok (.getfield 380, 3) := by decide +kernel
theorem dX6_now_47 : decode cX6_now 47 = .ok (.goto 7, 3) := by decide +kernel
theorem dX6_now_50 : decode cX6_now 50 = .ok (.aload_n 0, 1) := by decide +kernel
theorem dX6_now_51 : decode cX6_now 51 = .ok (.getfield 383, 3) := by decide +kernel
theorem dX6_now_54 : decode cX6_now 54 = .ok (.ireturn, 1) := by decide +kernel
theorem dX6_dayMore_0 : decode cX6_dayMore 0 = .ok (.aload_n 0, 1) := by decide +kernel
theorem dX6_dayMore_1 : decode cX6_dayMore 1 = .ok (.aload_n 0, 1) := by decide +kernel
theorem dX6_dayMore_2 : decode cX6_dayMore 2 = .ok (.getfield 128, 3) := by decide +kernel
theorem dX6_dayMore_5 : decode cX6_dayMore 5 = .ok (.sipush 999, 3) := by decide +kernel
theorem dX6_dayMore_8 : decode cX6_dayMore 8 = .ok (.if_icmp .ge 12, 3) := by decide +kernel
theorem dX6_dayMore_11 : decode cX6_dayMore 11 = .ok (.aload_n 0, 1) := by decide +kernel
theorem dX6_dayMore_12 : decode cX6_dayMore 12 = .ok (.getfield 128, 3) := by decide +kernel
theorem dX6_dayMore_15 : decode cX6_dayMore 15 = .ok (.iconst 1, 1) := by decide +kernel
theorem dX6_dayMore_16 : decode cX6_dayMore 16 = .ok (.iadd, 1) := by decide +kernel
theorem dX6_dayMore_17 : decode cX6_dayMore 17 = .ok (.goto 6, 3) := by decide +kernel
theorem dX6_dayMore_20 : decode cX6_dayMore 20 = .ok (.sipush 999, 3) := by decide +kernel
theorem dX6_dayMore_23 : decode cX6_dayMore 23 = .ok (.putfield 128, 3) := by decide +kernel
theorem dX6_dayMore_26 : decode cX6_dayMore 26 = .ok (.return_, 1) := by decide +kernel
theorem dX6_turnOut_0 : decode cX6_turnOut 0 = .ok (.aload_n 0, 1) := by decide +kernel
theorem dX6_turnOut_1 : decode cX6_turnOut 1 = .ok (.iload_n 1, 1) := by decide +kernel
theorem dX6_turnOut_2 : decode cX6_turnOut 2 = .ok (.iload_n 2, 1) := by decide +kernel
theorem dX6_turnOut_3 : decode cX6_turnOut 3 = .ok (.invokevirtual 400, 3) := by decide +kernel
theorem dX6_turnOut_6 : decode cX6_turnOut 6 = .ok (.istore_n 3, 1) := by decide +kernel
theorem dX6_turnOut_7 : decode cX6_turnOut 7 = .ok (.iload_n 3, 1) := by decide +kernel
theorem dX6_turnOut_8 : decode cX6_turnOut 8 = .ok (.iconst 1, 1) := by decide +kernel
theorem dX6_turnOut_9 : decode cX6_turnOut 9 = .ok (.if_icmp .ge 17, 3) := by decide +kernel
theorem dX6_turnOut_12 : decode cX6_turnOut 12 = .ok (.iload_n 3, 1) := by decide +kernel
theorem dX6_turnOut_13 : decode cX6_turnOut 13 = .ok (.bipush (-2), 2) := by decide +kernel
theorem dX6_turnOut_15 : decode cX6_turnOut 15 = .ok (.if_icmp .ne 8, 3) := by decide +kernel
theorem dX6_turnOut_18 : decode cX6_turnOut 18 = .ok (.bipush (-2), 2) := by decide +kernel
theorem dX6_turnOut_20 : decode cX6_turnOut 20 = .ok (.goto 5, 3) := by decide +kernel
theorem dX6_turnOut_23 : decode cX6_turnOut 23 = .ok (.bipush (-3), 2) := by decide +kernel
theorem dX6_turnOut_25 : decode cX6_turnOut 25 = .ok (.ireturn, 1) := by decide +kernel
theorem dX6_turnOut_26 : decode cX6_turnOut 26 = .ok (.aload_n 0, 1) := by decide +kernel
theorem dX6_turnOut_27 : decode cX6_turnOut 27 = .ok (.dup, 1) := by decide +kernel
theorem dX6_turnOut_28 : decode cX6_turnOut 28 = .ok (.getfield 105, 3) := by decide +kernel
theorem dX6_turnOut_31 : decode cX6_turnOut 31 = .ok (.iconst 1, 1) := by decide +kernel
theorem dX6_turnOut_32 : decode cX6_turnOut 32 = .ok (.iload_n 2, 1) := by decide +kernel
theorem dX6_turnOut_33 : decode cX6_turnOut 33 = .ok (.ishl, 1) := by decide +kernel
theorem dX6_turnOut_34 : decode cX6_turnOut 34 = .ok (.iconst (-1), 1) := by decide +kernel
theorem dX6_turnOut_35 : decode cX6_turnOut 35 = .ok (.ixor, 1) := by decide +kernel
theorem dX6_turnOut_36 : decode cX6_turnOut 36 = .ok (.iand, 1) := by decide +kernel
theorem dX6_turnOut_37 : decode cX6_turnOut 37 = .ok (.putfield 105, 3) := by decide +kernel
theorem dX6_turnOut_40 : decode cX6_turnOut 40 = .ok (.aload_n 0, 1) := by decide +kernel
theorem dX6_turnOut_41 : decode cX6_turnOut 41 = .ok (.invokevirtual 403, 3) := by decide +kernel
theorem dX6_turnOut_44 : decode cX6_turnOut 44 = .ok (.aload_n 0, 1) := by decide +kernel
theorem dX6_turnOut_45 : decode cX6_turnOut 45 = .ok (.getfield 105, 3) := by decide +kernel
theorem dX6_turnOut_48 : decode cX6_turnOut 48 = .ok (.invokestatic 348, 3) := by decide +kernel
theorem dX6_turnOut_51 : decode cX6_turnOut 51 = .ok (.ireturn, 1) := by decide +kernel
theorem dX6_goOn_0 : decode cX6_goOn 0 = .ok (.iload_n 1, 1) := by decide +kernel
theorem dX6_goOn_1 : decode cX6_goOn 1 = .ok (.i2l, 1) := by decide +kernel
theorem dX6_goOn_2 : decode cX6_goOn 2 = .ok (.lconst 0, 1) := by decide +kernel
theorem dX6_goOn_3 : decode cX6_goOn 3 = .ok (.ldc2_w 406, 3) := by decide +kernel
theorem dX6_goOn_6 : decode cX6_goOn 6 = .ok (.invokestatic 97, 3) := by decide +kernel
theorem dX6_goOn_9 : decode cX6_goOn 9 = .ok (.ifCond .ne 6, 3) := by decide +kernel
theorem dX6_goOn_12 : decode cX6_goOn 12 = .ok (.bipush (-2), 2) := by decide +kernel
theorem dX6_goOn_14 : decode cX6_goOn 14 = .ok (.ireturn, 1) := by decide +kernel
theorem dX6_goOn_15 : decode cX6_goOn 15 = .ok (.aload_n 0, 1) := by decide +kernel
theorem dX6_goOn_16 : decode cX6_goOn 16 = .ok (.getfield 105, 3) := by decide +kernel
theorem dX6_goOn_19 : decode cX6_goOn 19 = .ok (.istore_n 2, 1) := by decide +kernel
theorem dX6_goOn_20 : decode cX6_goOn 20 = .ok (.aload_n 0, 1) := by decide +kernel
theorem dX6_goOn_21 : decode cX6_goOn 21 = .ok (.getfield 128, 3) := by decide +kernel
theorem dX6_goOn_24 : decode cX6_goOn 24 = .ok (.istore_n 3, 1) := by decide +kernel
theorem dX6_goOn_25 : decode cX6_goOn 25 = .ok (.iconst 0, 1) := by decide +kernel
theorem dX6_goOn_26 : decode cX6_goOn 26 = .ok (.istore 4, 2) := by decide +kernel
theorem dX6_goOn_28 : decode cX6_goOn 28 = .ok (.aload_n 0, 1) := by decide +kernel
theorem dX6_goOn_29 : decode cX6_goOn 29 = .ok (.aload_n 0, 1) := by decide +kernel
theorem dX6_goOn_30 : decode cX6_goOn 30 = .ok (.getfield 105, 3) := by decide +kernel
theorem dX6_goOn_33 : decode cX6_goOn 33 = .ok (.invokevirtual 396, 3) := by decide +kernel
theorem dX6_goOn_36 : decode cX6_goOn 36 = .ok (.aload_n 0, 1) := by decide +kernel
theorem dX6_goOn_37 : decode cX6_goOn 37 = .ok (.invokevirtual 408, 3) := by decide +kernel
theorem dX6_goOn_40 : decode cX6_goOn 40 = .ok (.ifCond .ne 49, 3) := by decide +kernel
theorem dX6_goOn_43 : decode cX6_goOn 43 = .ok (.aload_n 0, 1) := by decide +kernel
theorem dX6_goOn_44 : decode cX6_goOn 44 = .ok (.getfield 50, 3) := by decide +kernel
theorem dX6_goOn_47 : decode cX6_goOn 47 = .ok (.iload 4, 2) := by decide +kernel
theorem dX6_goOn_49 : decode cX6_goOn 49 = .ok (.aload_n 0, 1) := by decide +kernel
theorem dX6_goOn_50 : decode cX6_goOn 50 = .ok (.getfield 380, 3) := by decide +kernel
theorem dX6_goOn_53 : decode cX6_goOn 53 = .ok (.iastore, 1) := by decide +kernel
theorem dX6_goOn_54 : decode cX6_goOn 54 = .ok (.iinc 4 1, 3) := by decide +kernel
theorem dX6_goOn_57 : decode cX6_goOn 57 = .ok (.aload_n 0, 1) := by decide +kernel
theorem dX6_goOn_58 : decode cX6_goOn 58 = .ok (.dup, 1) := by decide +kernel
theorem dX6_goOn_59 : decode cX6_goOn 59 = .ok (.getfield 105, 3) := by decide +kernel
theorem dX6_goOn_62 : decode cX6_goOn 62 = .ok (.iconst 1, 1) := by decide +kernel
theorem dX6_goOn_63 : decode cX6_goOn 63 = .ok (.aload_n 0, 1) := by decide +kernel
theorem dX6_goOn_64 : decode cX6_goOn 64 = .ok (.getfield 380, 3) := by decide +kernel
theorem dX6_goOn_67 : decode cX6_goOn 67 = .ok (.ishl, 1) := by decide +kernel
theorem dX6_goOn_68 : decode cX6_goOn 68 = .ok (.iconst (-1), 1) := by decide +kernel
theorem dX6_goOn_69 : decode cX6_goOn 69 = .ok (.ixor, 1) := by decide +kernel
theorem dX6_goOn_70 : decode cX6_goOn 70 = .ok (.iand, 1) := by decide +kernel
theorem dX6_goOn_71 : decode cX6_goOn 71 = .ok (.putfield 105, 3) := by decide +kernel
theorem dX6_goOn_74 : decode cX6_goOn 74 = .ok (.aload_n 0, 1) := by decide +kernel
theorem dX6_goOn_75 : decode cX6_goOn 75 = .ok (.invokevirtual 403, 3) := by decide +kernel
theorem dX6_goOn_78 : decode cX6_goOn 78 = .ok (.aload_n 0, 1) := by decide +kernel
theorem dX6_goOn_79 : decode cX6_goOn 79 = .ok (.aload_n 0, 1) := by decide +kernel
theorem dX6_goOn_80 : decode cX6_goOn 80 = .ok (.getfield 105, 3) := by decide +kernel
theorem dX6_goOn_83 : decode cX6_goOn 83 = .ok (.invokevirtual 396, 3) := by decide +kernel
theorem dX6_goOn_86 : decode cX6_goOn 86 = .ok (.goto (-50), 3) := by decide +kernel
theorem dX6_goOn_89 : decode cX6_goOn 89 = .ok (.aload_n 0, 1) := by decide +kernel
theorem dX6_goOn_90 : decode cX6_goOn 90 = .ok (.getfield 105, 3) := by decide +kernel
theorem dX6_goOn_93 : decode cX6_goOn 93 = .ok (.istore 5, 2) := by decide +kernel
theorem dX6_goOn_95 : decode cX6_goOn 95 = .ok (.aload_n 0, 1) := by decide +kernel
theorem dX6_goOn_96 : decode cX6_goOn 96 = .ok (.iload_n 2, 1) := by decide +kernel
theorem dX6_goOn_97 : decode cX6_goOn 97 = .ok (.putfield 105, 3) := by decide +kernel
theorem dX6_goOn_100 : decode cX6_goOn 100 = .ok (.aload_n 0, 1) := by decide +kernel
theorem dX6_goOn_101 : decode cX6_goOn 101 = .ok (.iload_n 3, 1) := by decide +kernel
theorem dX6_goOn_102 : decode cX6_goOn 102 = .ok (.putfield 128, 3) := by decide +kernel
theorem dX6_goOn_105 : decode cX6_goOn 105 = .ok (.iload_n 1, 1) := by decide +kernel
theorem dX6_goOn_106 : decode cX6_goOn 106 = .ok (.ifCond .ne 8, 3) := by decide +kernel
theorem dX6_goOn_109 : decode cX6_goOn 109 = .ok (.iload 5, 2) := by decide +kernel
theorem dX6_goOn_111 : decode cX6_goOn 111 = .ok (.goto 33, 3) := by decide +kernel
theorem dX6_goOn_114 : decode cX6_goOn 114 = .ok (.iload_n 1, 1) := by decide +kernel
theorem dX6_goOn_115 : decode cX6_goOn 115 = .ok (.iconst 1, 1) := by decide +kernel
theorem dX6_goOn_116 : decode cX6_goOn 116 = .ok (.if_icmp .ne 8, 3) := by decide +kernel
theorem dX6_goOn_119 : decode cX6_goOn 119 = .ok (.iload 4, 2) := by decide +kernel
theorem dX6_goOn_121 : decode cX6_goOn 121 = .ok (.goto 23, 3) := by decide +kernel
theorem dX6_goOn_124 : decode cX6_goOn 124 = .ok (.iload_n 1, 1) := by decide +kernel
theorem dX6_goOn_125 : decode cX6_goOn 125 = .ok (.iconst 2, 1) := by decide +kernel
theorem dX6_goOn_126 : decode cX6_goOn 126 = .ok (.isub, 1) := by decide +kernel
theorem dX6_goOn_127 : decode cX6_goOn 127 = .ok (.iload 4, 2) := by decide +kernel
theorem dX6_goOn_129 : decode cX6_goOn 129 = .ok (.if_icmp .ge 14, 3) := by decide +kernel
theorem dX6_goOn_132 : decode cX6_goOn 132 = .ok (.aload_n 0, 1) := by decide +kernel
theorem dX6_goOn_133 : decode cX6_goOn 133 = .ok (.getfield 50, 3) := by decide +kernel
theorem dX6_goOn_136 : decode cX6_goOn 136 = .ok (.iload_n 1, 1) := by decide +kernel
theorem dX6_goOn_137 : decode cX6_goOn 137 = .ok (.iconst 2, 1) := by decide +kernel
theorem dX6_goOn_138 : decode cX6_goOn 138 = .ok (.isub, 1) := by decide +kernel
theorem dX6_goOn_139 : decode cX6_goOn 139 = .ok (.iaload, 1) := by decide +kernel
theorem dX6_goOn_140 : decode cX6_goOn 140 = .ok (.goto 4, 3) := by decide +kernel
theorem dX6_goOn_143 : decode cX6_goOn 143 = .ok (.iconst (-1), 1) := by decide +kernel
theorem dX6_goOn_144 : decode cX6_goOn 144 = .ok (.ireturn, 1) := by decide +kernel
theorem dX6_foresees_0 : decode cX6_foresees 0 = .ok (.iconst 0, 1) := by decide +kernel
theorem dX6_foresees_1 : decode cX6_foresees 1 = .ok (.istore_n 2, 1) := by decide +kernel
theorem dX6_foresees_2 : decode cX6_foresees 2 = .ok (.iload_n 2, 1) := by decide +kernel
theorem dX6_foresees_3 : decode cX6_foresees 3 = .ok (.iconst 1, 1) := by decide +kernel
theorem dX6_foresees_4 : decode cX6_foresees 4 = .ok (.aload_n 0, 1) := by decide +kernel
theorem dX6_foresees_5 : decode cX6_foresees 5 = .ok (.getfield 94, 3) := by decide +kernel
theorem dX6_foresees_8 : decode cX6_foresees 8 = .ok (.ishl, 1) := by decide +kernel
theorem dX6_foresees_9 : decode cX6_foresees 9 = .ok (.if_icmp .ge 64, 3) := by decide +kernel
theorem dX6_foresees_12 : decode cX6_foresees 12 = .ok (.iload_n 2, 1) := by decide +kernel
theorem dX6_foresees_13 : decode cX6_foresees 13 = .ok (.iload_n 1, 1) := by decide +kernel
theorem dX6_foresees_14 : decode cX6_foresees 14 = .ok (.iconst (-1), 1) := by decide +kernel
theorem dX6_foresees_15 : decode cX6_foresees 15 = .ok (.ixor, 1) := by decide +kernel
theorem dX6_foresees_16 : decode cX6_foresees 16 = .ok (.iand, 1) := by decide +kernel
theorem dX6_foresees_17 : decode cX6_foresees 17 = .ok (.ifCond .ne 50, 3) := by decide +kernel
theorem dX6_foresees_20 : decode cX6_foresees 20 = .ok (.iconst 0, 1) := by decide +kernel
theorem dX6_foresees_21 : decode cX6_foresees 21 = .ok (.istore_n 3, 1) := by decide +kernel
theorem dX6_foresees_22 : decode cX6_foresees 22 = .ok (.iload_n 3, 1) := by decide +kernel
theorem dX6_foresees_23 : decode cX6_foresees 23 = .ok (.aload_n 0, 1) := by decide +kernel
theorem dX6_foresees_24 : decode cX6_foresees 24 = .ok (.getfield 94, 3) := by decide +kernel
theorem dX6_foresees_27 : decode cX6_foresees 27 = .ok (.if_icmp .ge 35, 3) := by decide +kernel
theorem dX6_foresees_30 : decode cX6_foresees 30 = .ok (.iload_n 2, 1) := by decide +kernel
theorem dX6_foresees_31 : decode cX6_foresees 31 = .ok (.iload_n 3, 1) := by decide +kernel
theorem dX6_foresees_32 : decode cX6_foresees 32 = .ok (.ishr, 1) := by decide +kernel
theorem dX6_foresees_33 : decode cX6_foresees 33 = .ok (.iconst 1, 1) := by decide +kernel
theorem dX6_foresees_34 : decode cX6_foresees 34 = .ok (.iand, 1) := by decide +kernel
theorem dX6_foresees_35 : decode cX6_foresees 35 = .ok (.iconst 1, 1) := by decide +kernel
theorem dX6_foresees_36 : decode cX6_foresees 36 = .ok (.if_icmp .ne 20, 3) := by decide +kernel
theorem dX6_foresees_39 : decode cX6_foresees 39 = .ok (.aload_n 0, 1) := by decide +kernel
theorem dX6_foresees_40 : decode cX6_foresees 40 = .ok (.getfield 56, 3) := by decide +kernel
theorem dX6_foresees_43 : decode cX6_foresees 43 = .ok (.bipush 7, 2) := by decide +kernel
theorem dX6_foresees_45 : decode cX6_foresees 45 = .ok (.iload_n 2, 1) := by decide +kernel
theorem dX6_foresees_46 : decode cX6_foresees 46 = .ok (.imul, 1) := by decide +kernel
theorem dX6_foresees_47 : decode cX6_foresees 47 = .ok (.iload_n 3, 1) := by decide +kernel
theorem dX6_foresees_48 : decode cX6_foresees 48 = .ok (.iadd, 1) := by decide +kernel
theorem dX6_foresees_49 : decode cX6_foresees 49 = .ok (.aload_n 0, 1) := by decide +kernel
theorem dX6_foresees_50 : decode cX6_foresees 50 = .ok (.iload_n 3, 1) := by decide +kernel
theorem dX6_foresees_51 : decode cX6_foresees 51 = .ok (.iload_n 2, 1) := by decide +kernel
theorem dX6_foresees_52 : decode cX6_foresees 52 = .ok (.invokevirtual 368, 3) := by decide +kernel
theorem dX6_foresees_55 : decode cX6_foresees 55 = .ok (.iastore, 1) := by decide +kernel
theorem dX6_foresees_56 : decode cX6_foresees 56 = .ok (.iinc 3 1, 3) := by decide +kernel
theorem dX6_foresees_59 : decode cX6_foresees 59 = .ok (.goto (-37), 3) := by decide +kernel
theorem dX6_foresees_62 : decode cX6_foresees 62 = .ok (.aload_n 0, 1) := by decide +kernel
theorem dX6_foresees_63 : decode cX6_foresees 63 = .ok (.iload_n 2, 1) := by decide +kernel
theorem dX6_foresees_64 : decode cX6_foresees 64 = .ok (.invokevirtual 411, 3) := by decide +kernel
theorem dX6_foresees_67 : decode cX6_foresees 67 = .ok (.iinc 2 1, 3) := by decide +kernel
theorem dX6_foresees_70 : decode cX6_foresees 70 = .ok (.goto (-68), 3) := by decide +kernel
theorem dX6_foresees_73 : decode cX6_foresees 73 = .ok (.return_, 1) := by decide +kernel
theorem dX6_endOf_0 : decode cX6_endOf 0 = .ok (.aload_n 0, 1) := by decide +kernel
theorem dX6_endOf_1 : decode cX6_endOf 1 = .ok (.getfield 53, 3) := by decide +kernel
theorem dX6_endOf_4 : decode cX6_endOf 4 = .ok (.iload_n 1, 1) := by decide +kernel
theorem dX6_endOf_5 : decode cX6_endOf 5 = .ok (.iload_n 1, 1) := by decide +kernel
theorem dX6_endOf_6 : decode cX6_endOf 6 = .ok (.iastore, 1) := by decide +kernel
theorem dX6_endOf_7 : decode cX6_endOf 7 = .ok (.aload_n 0, 1) := by decide +kernel
theorem dX6_endOf_8 : decode cX6_endOf 8 = .ok (.getfield 59, 3) := by decide +kernel
theorem dX6_endOf_11 : decode cX6_endOf 11 = .ok (.iload_n 1, 1) := by decide +kernel
theorem dX6_endOf_12 : decode cX6_endOf 12 = .ok (.iconst (-1), 1) := by decide +kernel
theorem dX6_endOf_13 : decode cX6_endOf 13 = .ok (.iastore, 1) := by decide +kernel
theorem dX6_endOf_14 : decode cX6_endOf 14 = .ok (.iload_n 1, 1) := by decide +kernel
theorem dX6_endOf_15 : decode cX6_endOf 15 = .ok (.invokestatic 348, 3) := by decide +kernel
theorem dX6_endOf_18 : decode cX6_endOf 18 = .ok (.aload_n 0, 1) := by decide +kernel
theorem dX6_endOf_19 : decode cX6_endOf 19 = .ok (.getfield 38, 3) := by decide +kernel
theorem dX6_endOf_22 : decode cX6_endOf 22 = .ok (.if_icmp .gt 4, 3) := by decide +kernel
theorem dX6_endOf_25 : decode cX6_endOf 25 = .ok (.return_, 1) := by decide +kernel
theorem dX6_endOf_26 : decode cX6_endOf 26 = .ok (.iload_n 1, 1) := by decide +kernel
theorem dX6_endOf_27 : decode cX6_endOf 27 = .ok (.invokestatic 348, 3) := by decide +kernel
theorem dX6_endOf_30 : decode cX6_endOf 30 = .ok (.istore_n 2, 1) := by decide +kernel
theorem dX6_endOf_31 : decode cX6_endOf 31 = .ok (.iconst 0, 1) := by decide +kernel
theorem dX6_endOf_32 : decode cX6_endOf 32 = .ok (.istore_n 3, 1) := by decide +kernel
theorem dX6_endOf_33 : decode cX6_endOf 33 = .ok (.iload_n 3, 1) := by decide +kernel
theorem dX6_endOf_34 : decode cX6_endOf 34 = .ok (.aload_n 0, 1) := by decide +kernel
theorem dX6_endOf_35 : decode cX6_endOf 35 = .ok (.getfield 94, 3) := by decide +kernel
theorem dX6_endOf_38 : decode cX6_endOf 38 = .ok (.if_icmp .ge 93, 3) := by decide +kernel
theorem dX6_endOf_41 : decode cX6_endOf 41 = .ok (.iconst 0, 1) := by decide +kernel
theorem dX6_endOf_42 : decode cX6_endOf 42 = .ok (.istore 4, 2) := by decide +kernel
theorem dX6_endOf_44 : decode cX6_endOf 44 = .ok (.iload 4, 2) := by decide +kernel
theorem dX6_endOf_46 : decode cX6_endOf 46 = .ok (.aload_n 0, 1) := by decide +kernel
theorem dX6_endOf_47 : decode cX6_endOf 47 = .ok (.getfield 94, 3) := by decide +kernel
theorem dX6_endOf_50 : decode cX6_endOf 50 = .ok (.if_icmp .ge 75, 3) := by decide +kernel
theorem dX6_endOf_53 : decode cX6_endOf 53 = .ok (.iload_n 3, 1) := by decide +kernel
theorem dX6_endOf_54 : decode cX6_endOf 54 = .ok (.iload 4, 2) := by decide +kernel
theorem dX6_endOf_56 : decode cX6_endOf 56 = .ok (.if_icmp .eq 26, 3) := by decide +kernel
theorem dX6_endOf_59 : decode cX6_endOf 59 = .ok (.iload_n 1, 1) := by decide +kernel
theorem dX6_endOf_60 : decode cX6_endOf 60 = .ok (.iload_n 3, 1) := by decide +kernel
theorem dX6_endOf_61 : decode cX6_endOf 61 = .ok (.ishr, 1) := by decide +kernel
theorem dX6_endOf_62 : decode cX6_endOf 62 = .ok (.iconst 1, 1) := by decide +kernel
theorem dX6_endOf_63 : decode cX6_endOf 63 = .ok (.iand, 1) := by decide +kernel
theorem dX6_endOf_64 : decode cX6_endOf 64 = .ok (.iconst 1, 1) := by decide +kernel
theorem dX6_endOf_65 : decode cX6_endOf 65 = .ok (.if_icmp .ne 17, 3) := by decide +kernel
theorem dX6_endOf_68 : decode cX6_endOf 68 = .ok (.iload_n 1, 1) := by decide +kernel
theorem dX6_endOf_69 : decode cX6_endOf 69 = .ok (.iload 4, 2) := by decide +kernel
theorem dX6_endOf_71 : decode cX6_endOf 71 = .ok (.ishr, 1) := by decide +kernel
theorem dX6_endOf_72 : decode cX6_endOf 72 = .ok (.iconst 1, 1) := by decide +kernel
theorem dX6_endOf_73 : decode cX6_endOf 73 = .ok (.iand, 1) := by decide +kernel
theorem dX6_endOf_74 : decode cX6_endOf 74 = .ok (.iconst 1, 1) := by decide +kernel
theorem dX6_endOf_75 : decode cX6_endOf 75 = .ok (.if_icmp .ne 7, 3) := by decide +kernel
theorem dX6_endOf_78 : decode cX6_endOf 78 = .ok (.iconst 1, 1) := by decide +kernel
theorem dX6_endOf_79 : decode cX6_endOf 79 = .ok (.goto 4, 3) := by decide +kernel
theorem dX6_endOf_82 : decode cX6_endOf 82 = .ok (.iconst 0, 1) := by decide +kernel
theorem dX6_endOf_83 : decode cX6_endOf 83 = .ok (.istore 5, 2) := by decide +kernel
theorem dX6_endOf_85 : decode cX6_endOf 85 = .ok (.aload_n 0, 1) := by decide +kernel
theorem dX6_endOf_86 : decode cX6_endOf 86 = .ok (.getfield 47, 3) := by decide +kernel
theorem dX6_endOf_89 : decode cX6_endOf 89 = .ok (.bipush 7, 2) := by decide +kernel
theorem dX6_endOf_91 : decode cX6_endOf 91 = .ok (.iload_n 3, 1) := by decide +kernel
theorem dX6_endOf_92 : decode cX6_endOf 92 = .ok (.imul, 1) := by decide +kernel
theorem dX6_endOf_93 : decode cX6_endOf 93 = .ok (.iload 4, 2) := by decide +kernel
theorem dX6_endOf_95 : decode cX6_endOf 95 = .ok (.iadd, 1) := by decide +kernel
theorem dX6_endOf_96 : decode cX6_endOf 96 = .ok (.iload 5, 2) := by decide +kernel
theorem dX6_endOf_98 : decode cX6_endOf 98 = .ok (.ifCond .eq 19, 3) := by decide +kernel
theorem dX6_endOf_101 : decode cX6_endOf 101 = .ok (.aload_n 0, 1) := by decide +kernel
theorem dX6_endOf_102 : decode cX6_endOf 102 = .ok (.iload_n 3, 1) := by decide +kernel
theorem dX6_endOf_103 : decode cX6_endOf 103 = .ok (.iload 4, 2) := by decide +kernel
theorem dX6_endOf_105 : decode cX6_endOf 105 = .ok (.iload_n 1, 1) := by decide +kernel
theorem dX6_endOf_106 : decode cX6_endOf 106 = .ok (.iload_n 2, 1) := by decide +kernel
theorem dX6_endOf_107 : decode cX6_endOf 107 = .ok (.invokevirtual 414, 3) := by decide +kernel
theorem dX6_endOf_110 : decode cX6_endOf 110 = .ok (.ifCond .eq 7, 3) := by decide +kernel
theorem dX6_endOf_113 : decode cX6_endOf 113 = .ok (.iconst 1, 1) := by decide +kernel
theorem dX6_endOf_114 : decode cX6_endOf 114 = .ok (.goto 4, 3) := by decide +kernel
theorem dX6_endOf_117 : decode cX6_endOf 117 = .ok (.iconst 0, 1) := by decide +kernel
theorem dX6_endOf_118 : decode cX6_endOf 118 = .ok (.iastore, 1) := by decide +kernel
theorem dX6_endOf_119 : decode cX6_endOf 119 = .ok (.iinc 4 1, 3) := by decide +kernel
theorem dX6_endOf_122 : decode cX6_endOf 122 = .ok (.goto (-78), 3) := by decide +kernel
theorem dX6_endOf_125 : decode cX6_endOf 125 = .ok (.iinc 3 1, 3) := by decide +kernel
theorem dX6_endOf_128 : decode cX6_endOf 128 = .ok (.goto (-95), 3) := by decide +kernel
theorem dX6_endOf_131 : decode cX6_endOf 131 = .ok (.iconst 1, 1) := by decide +kernel
theorem dX6_endOf_132 : decode cX6_endOf 132 = .ok (.istore_n 3, 1) := by decide +kernel
theorem dX6_endOf_133 : decode cX6_endOf 133 = .ok (.iload_n 3, 1) := by decide +kernel
theorem dX6_endOf_134 : decode cX6_endOf 134 = .ok (.iload_n 1, 1) := by decide +kernel
theorem dX6_endOf_135 : decode cX6_endOf 135 = .ok (.if_icmp .gt 95, 3) := by decide +kernel
theorem dX6_endOf_138 : decode cX6_endOf 138 = .ok (.aload_n 0, 1) := by decide +kernel
theorem dX6_endOf_139 : decode cX6_endOf 139 = .ok (.getfield 59, 3) := by decide +kernel
theorem dX6_endOf_142 : decode cX6_endOf 142 = .ok (.iload_n 1, 1) := by decide +kernel
theorem dX6_endOf_143 : decode cX6_endOf 143 = .ok (.iaload, 1) := by decide +kernel
theorem dX6_endOf_144 : decode cX6_endOf 144 = .ok (.iconst (-1), 1) := by decide +kernel
theorem dX6_endOf_145 : decode cX6_endOf 145 = .ok (.if_icmp .ne 85, 3) := by decide +kernel
theorem dX6_endOf_148 : decode cX6_endOf 148 = .ok (.iconst 0, 1) := by decide +kernel
theorem dX6_endOf_149 : decode cX6_endOf 149 = .ok (.istore 4, 2) := by decide +kernel
theorem dX6_endOf_151 : decode cX6_endOf 151 = .ok (.iload 4, 2) := by decide +kernel
theorem dX6_endOf_153 : decode cX6_endOf 153 = .ok (.aload_n 0, 1) := by decide +kernel
theorem dX6_endOf_154 : decode cX6_endOf 154 = .ok (.getfield 94, 3) := by decide +kernel
theorem dX6_endOf_157 : decode cX6_endOf 157 = .ok (.if_icmp .ge 67, 3) := by decide +kernel
theorem dX6_endOf_160 : decode cX6_endOf 160 = .ok (.aload_n 0, 1) := by decide +kernel
theorem dX6_endOf_161 : decode cX6_endOf 161 = .ok (.getfield 59, 3) := by decide +kernel
theorem dX6_endOf_164 : decode cX6_endOf 164 = .ok (.iload_n 1, 1) := by decide +kernel
theorem dX6_endOf_165 : decode cX6_endOf 165 = .ok (.iaload, 1) := by decide +kernel
theorem dX6_endOf_166 : decode cX6_endOf 166 = .ok (.iconst (-1), 1) := by decide +kernel
theorem dX6_endOf_167 : decode cX6_endOf 167 = .ok (.if_icmp .ne 57, 3) := by decide +kernel
theorem dX6_endOf_170 : decode cX6_endOf 170 = .ok (.aload_n 0, 1) := by decide +kernel
theorem dX6_endOf_171 : decode cX6_endOf 171 = .ok (.iload_n 3, 1) := by decide +kernel
theorem dX6_endOf_172 : decode cX6_endOf 172 = .ok (.iload 4, 2) := by decide +kernel
theorem dX6_endOf_174 : decode cX6_endOf 174 = .ok (.iload_n 1, 1) := by decide +kernel
theorem dX6_endOf_175 : decode cX6_endOf 175 = .ok (.invokevirtual 386, 3) := by decide +kernel
theorem dX6_endOf_178 : decode cX6_endOf 178 = .ok (.ifCond .eq 40, 3) := by decide +kernel
theorem dX6_endOf_181 : decode cX6_endOf 181 = .ok (.aload_n 0, 1) := by decide +kernel
theorem dX6_endOf_182 : decode cX6_endOf 182 = .ok (.iload_n 3, 1) := by decide +kernel
theorem dX6_endOf_183 : decode cX6_endOf 183 = .ok (.iload 4, 2) := by decide +kernel
theorem dX6_endOf_185 : decode cX6_endOf 185 = .ok (.invokevirtual 418, 3) := by decide +kernel
theorem dX6_endOf_188 : decode cX6_endOf 188 = .ok (.ifCond .eq 30, 3) := by decide +kernel
theorem dX6_endOf_191 : decode cX6_endOf 191 = .ok (.aload_n 0, 1) := by decide +kernel
theorem dX6_endOf_192 : decode cX6_endOf 192 = .ok (.getfield 59, 3) := by decide +kernel
theorem dX6_endOf_195 : decode cX6_endOf 195 = .ok (.iload_n 1, 1) := by decide +kernel
theorem dX6_endOf_196 : decode cX6_endOf 196 = .ok (.iload 4, 2) := by decide +kernel
theorem dX6_endOf_198 : decode cX6_endOf 198 = .ok (.iastore, 1) := by decide +kernel
theorem dX6_endOf_199 : decode cX6_endOf 199 = .ok (.aload_n 0, 1) := by decide +kernel
theorem dX6_endOf_200 : decode cX6_endOf 200 = .ok (.getfield 53, 3) := by decide +kernel
theorem dX6_endOf_203 : decode cX6_endOf 203 = .ok (.iload_n 1, 1) := by decide +kernel
theorem dX6_endOf_204 : decode cX6_endOf 204 = .ok (.aload_n 0, 1) := by decide +kernel
theorem dX6_endOf_205 : decode cX6_endOf 205 = .ok (.getfield 53, 3) := by decide +kernel
theorem dX6_endOf_208 : decode cX6_endOf 208 = .ok (.iload_n 1, 1) := by decide +kernel
theorem dX6_endOf_209 : decode cX6_endOf 209 = .ok (.iconst 1, 1) := by decide +kernel
theorem dX6_endOf_210 : decode cX6_endOf 210 = .ok (.iload 4, 2) := by decide +kernel
theorem dX6_endOf_212 : decode cX6_endOf 212 = .ok (.ishl, 1) := by decide +kernel
theorem dX6_endOf_213 : decode cX6_endOf 213 = .ok (.iconst (-1), 1) := by decide +kernel
theorem dX6_endOf_214 : decode cX6_endOf 214 = .ok (.ixor, 1) := by decide +kernel
theorem dX6_endOf_215 : decode cX6_endOf 215 = .ok (.iand, 1) := by decide +kernel
theorem dX6_endOf_216 : decode cX6_endOf 216 = .ok (.iaload, 1) := by decide +kernel
theorem dX6_endOf_217 : decode cX6_endOf 217 = .ok (.iastore, 1) := by decide +kernel
theorem dX6_endOf_218 : decode cX6_endOf 218 = .ok (.iinc 4 1, 3) := by decide +kernel
theorem dX6_endOf_221 : decode cX6_endOf 221 = .ok (.goto (-70), 3) := by decide +kernel
theorem dX6_endOf_224 : decode cX6_endOf 224 = .ok (.iinc 3 1, 3) := by decide +kernel
theorem dX6_endOf_227 : decode cX6_endOf 227 = .ok (.goto (-94), 3) := by decide +kernel
theorem dX6_endOf_230 : decode cX6_endOf 230 = .ok (.return_, 1) := by decide +kernel
theorem dX6_allJoin_0 : decode cX6_allJoin 0 = .ok (.iconst 0, 1) := by decide +kernel
theorem dX6_allJoin_1 : decode cX6_allJoin 1 = .ok (.istore_n 3, 1) := by decide +kernel
theorem dX6_allJoin_2 : decode cX6_allJoin 2 = .ok (.iload_n 3, 1) := by decide +kernel
theorem dX6_allJoin_3 : decode cX6_allJoin 3 = .ok (.aload_n 0, 1) := by decide +kernel
theorem dX6_allJoin_4 : decode cX6_allJoin 4 = .ok (.getfield 94, 3) := by decide +kernel
theorem dX6_allJoin_7 : decode cX6_allJoin 7 = .ok (.if_icmp .ge 34, 3) := by decide +kernel
theorem dX6_allJoin_10 : decode cX6_allJoin 10 = .ok (.iload_n 1, 1) := by decide +kernel
theorem dX6_allJoin_11 : decode cX6_allJoin 11 = .ok (.iload_n 3, 1) := by decide +kernel
theorem dX6_allJoin_12 : decode cX6_allJoin 12 = .ok (.ishr, 1) := by decide +kernel
theorem dX6_allJoin_13 : decode cX6_allJoin 13 = .ok (.iconst 1, 1) := by decide +kernel
theorem dX6_allJoin_14 : decode cX6_allJoin 14 = .ok (.iand, 1) := by decide +kernel
theorem dX6_allJoin_15 : decode cX6_allJoin 15 = .ok (.iconst 1, 1) := by decide +kernel
theorem dX6_allJoin_16 : decode cX6_allJoin 16 = .ok (.if_icmp .ne 19, 3) := by decide +kernel
theorem dX6_allJoin_19 : decode cX6_allJoin 19 = .ok (.aload_n 0, 1) := by decide +kernel
theorem dX6_allJoin_20 : decode cX6_allJoin 20 = .ok (.getfield 47, 3) := by decide +kernel
theorem dX6_allJoin_23 : decode cX6_allJoin 23 = .ok (.bipush 7, 2) := by decide +kernel
theorem dX6_allJoin_25 : decode cX6_allJoin 25 = .ok (.iload_n 3, 1) := by decide +kernel
theorem dX6_allJoin_26 : decode cX6_allJoin 26 = .ok (.imul, 1) := by decide +kernel
theorem dX6_allJoin_27 : decode cX6_allJoin 27 = .ok (.iload_n 2, 1) := by decide +kernel
theorem dX6_allJoin_28 : decode cX6_allJoin 28 = .ok (.iadd, 1) := by decide +kernel
theorem dX6_allJoin_29 : decode cX6_allJoin 29 = .ok (.iaload, 1) := by decide +kernel
theorem dX6_allJoin_30 : decode cX6_allJoin 30 = .ok (.ifCond .ne 5, 3) := by decide +kernel
theorem dX6_allJoin_33 : decode cX6_allJoin 33 = .ok (.iconst 0, 1) := by decide +kernel
theorem dX6_allJoin_34 : decode cX6_allJoin 34 = .ok (.ireturn, 1) := by decide +kernel
theorem dX6_allJoin_35 : decode cX6_allJoin 35 = .ok (.iinc 3 1, 3) := by decide +kernel
theorem dX6_allJoin_38 : decode cX6_allJoin 38 = .ok (.goto (-36), 3) := by decide +kernel
theorem dX6_allJoin_41 : decode cX6_allJoin 41 = .ok (.iconst 1, 1) := by decide +kernel
theorem dX6_allJoin_42 : decode cX6_allJoin 42 = .ok (.ireturn, 1) := by decide +kernel
theorem dX6_foreseen_0 : decode cX6_foreseen 0 = .ok (.aload_n 0, 1) := by decide +kernel
theorem dX6_foreseen_1 : decode cX6_foreseen 1 = .ok (.getfield 53, 3) := by decide +kernel
theorem dX6_foreseen_4 : decode cX6_foreseen 4 = .ok (.iload_n 3, 1) := by decide +kernel
theorem dX6_foreseen_5 : decode cX6_foreseen 5 = .ok (.iconst 1, 1) := by decide +kernel
theorem dX6_foreseen_6 : decode cX6_foreseen 6 = .ok (.iload_n 2, 1) := by decide +kernel
theorem dX6_foreseen_7 : decode cX6_foreseen 7 = .ok (.ishl, 1) := by decide +kernel
theorem dX6_foreseen_8 : decode cX6_foreseen 8 = .ok (.iconst (-1), 1) := by decide +kernel
theorem dX6_foreseen_9 : decode cX6_foreseen 9 = .ok (.ixor, 1) := by decide +kernel
theorem dX6_foreseen_10 : decode cX6_foreseen 10 = .ok (.iand, 1) := by decide +kernel
theorem dX6_foreseen_11 : decode cX6_foreseen 11 = .ok (.iaload, 1) := by decide +kernel
theorem dX6_foreseen_12 : decode cX6_foreseen 12 = .ok (.istore 5, 2) := by decide +kernel
theorem dX6_foreseen_14 : decode cX6_foreseen 14 = .ok (.iload 5, 2) := by decide +kernel
theorem dX6_foreseen_16 : decode cX6_foreseen 16 = .ok (.iload_n 1, 1) := by decide +kernel
theorem dX6_foreseen_17 : decode cX6_foreseen 17 = .ok (.ishr, 1) := by decide +kernel
theorem dX6_foreseen_18 : decode cX6_foreseen 18 = .ok (.iconst 1, 1) := by decide +kernel
theorem dX6_foreseen_19 : decode cX6_foreseen 19 = .ok (.iand, 1) := by decide +kernel
theorem dX6_foreseen_20 : decode cX6_foreseen 20 = .ok (.ifCond .eq 15, 3) := by decide +kernel
theorem dX6_foreseen_23 : decode cX6_foreseen 23 = .ok (.aload_n 0, 1) := by decide +kernel
theorem dX6_foreseen_24 : decode cX6_foreseen 24 = .ok (.iconst 2, 1) := by decide +kernel
theorem dX6_foreseen_25 : decode cX6_foreseen 25 = .ok (.iload_n 1, 1) := by decide +kernel
theorem dX6_foreseen_26 : decode cX6_foreseen 26 = .ok (.iload_n 2, 1) := by decide +kernel
theorem dX6_foreseen_27 : decode cX6_foreseen 27 = .ok (.iload 4, 2) := by decide +kernel
theorem dX6_foreseen_29 : decode cX6_foreseen 29 = .ok (.invokevirtual 351, 3) := by decide +kernel
theorem dX6_foreseen_32 : decode cX6_foreseen 32 = .ok (.ifCond .ne 5, 3) := by decide +kernel
theorem dX6_foreseen_35 : decode cX6_foreseen 35 = .ok (.iconst 0, 1) := by decide +kernel
theorem dX6_foreseen_36 : decode cX6_foreseen 36 = .ok (.ireturn, 1) := by decide +kernel
theorem dX6_foreseen_37 : decode cX6_foreseen 37 = .ok (.aload_n 0, 1) := by decide +kernel
theorem dX6_foreseen_38 : decode cX6_foreseen 38 = .ok (.iload_n 1, 1) := by decide +kernel
theorem dX6_foreseen_39 : decode cX6_foreseen 39 = .ok (.iload_n 2, 1) := by decide +kernel
theorem dX6_foreseen_40 : decode cX6_foreseen 40 = .ok (.invokevirtual 112, 3) := by decide +kernel
theorem dX6_foreseen_43 : decode cX6_foreseen 43 = .ok (.istore 6, 2) := by decide +kernel
theorem dX6_foreseen_45 : decode cX6_foreseen 45 = .ok (.aload_n 0, 1) := by decide +kernel
theorem dX6_foreseen_46 : decode cX6_foreseen 46 = .ok (.getfield 56, 3) := by decide +kernel
theorem dX6_foreseen_49 : decode cX6_foreseen 49 = .ok (.bipush 7, 2) := by decide +kernel
theorem dX6_foreseen_51 : decode cX6_foreseen 51 = .ok (.iload 5, 2) := by decide +kernel
theorem dX6_foreseen_53 : decode cX6_foreseen 53 = .ok (.imul, 1) := by decide +kernel
theorem dX6_foreseen_54 : decode cX6_foreseen 54 = .ok (.iload_n 1, 1) := by decide +kernel
theorem dX6_foreseen_55 : decode cX6_foreseen 55 = .ok (.iadd, 1) := by decide +kernel
theorem dX6_foreseen_56 : decode cX6_foreseen 56 = .ok (.iaload, 1) := by decide +kernel
theorem dX6_foreseen_57 : decode cX6_foreseen 57 = .ok (.iload 6, 2) := by decide +kernel
theorem dX6_foreseen_59 : decode cX6_foreseen 59 = .ok (.ifCond .eq 15, 3) := by decide +kernel
theorem dX6_foreseen_62 : decode cX6_foreseen 62 = .ok (.aload_n 0, 1) := by decide +kernel
theorem dX6_foreseen_63 : decode cX6_foreseen 63 = .ok (.iconst 1, 1) := by decide +kernel
theorem dX6_foreseen_64 : decode cX6_foreseen 64 = .ok (.iload_n 1, 1) := by decide +kernel
theorem dX6_foreseen_65 : decode cX6_foreseen 65 = .ok (.iload_n 2, 1) := by decide +kernel
theorem dX6_foreseen_66 : decode cX6_foreseen 66 = .ok (.iload 4, 2) := by decide +kernel
theorem dX6_foreseen_68 : decode cX6_foreseen 68 = .ok (.invokevirtual 351, 3) := by decide +kernel
theorem dX6_foreseen_71 : decode cX6_foreseen 71 = .ok (.goto 4, 3) := by decide +kernel
theorem dX6_foreseen_74 : decode cX6_foreseen 74 = .ok (.iconst 0, 1) := by decide +kernel
theorem dX6_foreseen_75 : decode cX6_foreseen 75 = .ok (.isub, 1) := by decide +kernel
theorem dX6_foreseen_76 : decode cX6_foreseen 76 = .ok (.aload_n 0, 1) := by decide +kernel
theorem dX6_foreseen_77 : decode cX6_foreseen 77 = .ok (.getfield 56, 3) := by decide +kernel
theorem dX6_foreseen_80 : decode cX6_foreseen 80 = .ok (.bipush 7, 2) := by decide +kernel
theorem dX6_foreseen_82 : decode cX6_foreseen 82 = .ok (.iload_n 3, 1) := by decide +kernel
theorem dX6_foreseen_83 : decode cX6_foreseen 83 = .ok (.imul, 1) := by decide +kernel
theorem dX6_foreseen_84 : decode cX6_foreseen 84 = .ok (.iload_n 1, 1) := by decide +kernel
theorem dX6_foreseen_85 : decode cX6_foreseen 85 = .ok (.iadd, 1) := by decide +kernel
theorem dX6_foreseen_86 : decode cX6_foreseen 86 = .ok (.iaload, 1) := by decide +kernel
theorem dX6_foreseen_87 : decode cX6_foreseen 87 = .ok (.aload_n 0, 1) := by decide +kernel
theorem dX6_foreseen_88 : decode cX6_foreseen 88 = .ok (.iload_n 1, 1) := by decide +kernel
theorem dX6_foreseen_89 : decode cX6_foreseen 89 = .ok (.iload 4, 2) := by decide +kernel
theorem dX6_foreseen_91 : decode cX6_foreseen 91 = .ok (.iload 6, 2) := by decide +kernel
theorem dX6_foreseen_93 : decode cX6_foreseen 93 = .ok (.invokevirtual 361, 3) := by decide +kernel
theorem dX6_foreseen_96 : decode cX6_foreseen 96 = .ok (.iadd, 1) := by decide +kernel
theorem dX6_foreseen_97 : decode cX6_foreseen 97 = .ok (.if_icmp .lt 7, 3) := by decide +kernel
theorem dX6_foreseen_100 : decode cX6_foreseen 100 = .ok (.iconst 1, 1) := by decide +kernel
theorem dX6_foreseen_101 : decode cX6_foreseen 101 = .ok (.goto 4, 3) := by decide +kernel
theorem dX6_foreseen_104 : decode cX6_foreseen 104 = .ok (.iconst 0, 1) := by decide +kernel
theorem dX6_foreseen_105 : decode cX6_foreseen 105 = .ok (.ireturn, 1) := by decide +kernel
theorem dX6_end_0 : decode cX6_end 0 = .ok (.iload_n 1, 1) := by decide +kernel
theorem dX6_end_1 : decode cX6_end 1 = .ok (.i2l, 1) := by decide +kernel
theorem dX6_end_2 : decode cX6_end 2 = .ok (.lconst 0, 1) := by decide +kernel
theorem dX6_end_3 : decode cX6_end 3 = .ok (.iconst 1, 1) := by decide +kernel
theorem dX6_end_4 : decode cX6_end 4 = .ok (.aload_n 0, 1) := by decide +kernel
theorem dX6_end_5 : decode cX6_end 5 = .ok (.getfield 94, 3) := by decide +kernel
theorem dX6_end_8 : decode cX6_end 8 = .ok (.ishl, 1) := by decide +kernel
theorem dX6_end_9 : decode cX6_end 9 = .ok (.iconst 1, 1) := by decide +kernel
theorem dX6_end_10 : decode cX6_end 10 = .ok (.isub, 1) := by decide +kernel
theorem dX6_end_11 : decode cX6_end 11 = .ok (.i2l, 1) := by decide +kernel
theorem dX6_end_12 : decode cX6_end 12 = .ok (.invokestatic 97, 3) := by decide +kernel
theorem dX6_end_15 : decode cX6_end 15 = .ok (.ifCond .eq 13, 3) := by decide +kernel
theorem dX6_end_18 : decode cX6_end 18 = .ok (.iload_n 2, 1) := by decide +kernel
theorem dX6_end_19 : decode cX6_end 19 = .ok (.i2l, 1) := by decide +kernel
theorem dX6_end_20 : decode cX6_end 20 = .ok (.lconst 0, 1) := by decide +kernel
theorem dX6_end_21 : decode cX6_end 21 = .ok (.lconst 1, 1) := by decide +kernel
theorem dX6_end_22 : decode cX6_end 22 = .ok (.invokestatic 97, 3) := by decide +kernel
theorem dX6_end_25 : decode cX6_end 25 = .ok (.ifCond .ne 6, 3) := by decide +kernel
theorem dX6_end_28 : decode cX6_end 28 = .ok (.bipush (-2), 2) := by decide +kernel
theorem dX6_end_30 : decode cX6_end 30 = .ok (.ireturn, 1) := by decide +kernel
theorem dX6_end_31 : decode cX6_end 31 = .ok (.aload_n 0, 1) := by decide +kernel
theorem dX6_end_32 : decode cX6_end 32 = .ok (.iload_n 1, 1) := by decide +kernel
theorem dX6_end_33 : decode cX6_end 33 = .ok (.invokevirtual 421, 3) := by decide +kernel
theorem dX6_end_36 : decode cX6_end 36 = .ok (.iload_n 2, 1) := by decide +kernel
theorem dX6_end_37 : decode cX6_end 37 = .ok (.ifCond .ne 12, 3) := by decide +kernel
theorem dX6_end_40 : decode cX6_end 40 = .ok (.aload_n 0, 1) := by decide +kernel
theorem dX6_end_41 : decode cX6_end 41 = .ok (.getfield 53, 3) := by decide +kernel
theorem dX6_end_44 : decode cX6_end 44 = .ok (.iload_n 1, 1) := by decide +kernel
theorem dX6_end_45 : decode cX6_end 45 = .ok (.iaload, 1) := by decide +kernel
theorem dX6_end_46 : decode cX6_end 46 = .ok (.goto 9, 3) := by decide +kernel
theorem dX6_end_49 : decode cX6_end 49 = .ok (.aload_n 0, 1) := by decide +kernel
theorem dX6_end_50 : decode cX6_end 50 = .ok (.getfield 59, 3) := by decide +kernel
theorem dX6_end_53 : decode cX6_end 53 = .ok (.iload_n 1, 1) := by decide +kernel
theorem dX6_end_54 : decode cX6_end 54 = .ok (.iaload, 1) := by decide +kernel
theorem dX6_end_55 : decode cX6_end 55 = .ok (.ireturn, 1) := by decide +kernel
theorem dX6_safe_0 : decode cX6_safe 0 = .ok (.aload_n 0, 1) := by decide +kernel
theorem dX6_safe_1 : decode cX6_safe 1 = .ok (.aload_n 0, 1) := by decide +kernel
theorem dX6_safe_2 : decode cX6_safe 2 = .ok (.getfield 105, 3) := by decide +kernel
theorem dX6_safe_5 : decode cX6_safe 5 = .ok (.invokevirtual 396, 3) := by decide +kernel
theorem dX6_safe_8 : decode cX6_safe 8 = .ok (.iconst 0, 1) := by decide +kernel
theorem dX6_safe_9 : decode cX6_safe 9 = .ok (.istore_n 1, 1) := by decide +kernel
theorem dX6_safe_10 : decode cX6_safe 10 = .ok (.iconst 0, 1) := by decide +kernel
theorem dX6_safe_11 : decode cX6_safe 11 = .ok (.istore_n 2, 1) := by decide +kernel
theorem dX6_safe_12 : decode cX6_safe 12 = .ok (.iload_n 2, 1) := by decide +kernel
theorem dX6_safe_13 : decode cX6_safe 13 = .ok (.aload_n 0, 1) := by decide +kernel
theorem dX6_safe_14 : decode cX6_safe 14 = .ok (.getfield 94, 3) := by decide +kernel
theorem dX6_safe_17 : decode cX6_safe 17 = .ok (.if_icmp .ge 35, 3) := by decide +kernel
theorem dX6_safe_20 : decode cX6_safe 20 = .ok (.iload_n 1, 1) := by decide +kernel
theorem dX6_safe_21 : decode cX6_safe 21 = .ok (.aload_n 0, 1) := by decide +kernel
theorem dX6_safe_22 : decode cX6_safe 22 = .ok (.iload_n 2, 1) := by decide +kernel
theorem dX6_safe_23 : decode cX6_safe 23 = .ok (.invokevirtual 365, 3) := by decide +kernel
theorem dX6_safe_26 : decode cX6_safe 26 = .ok (.ifCond .eq 15, 3) := by decide +kernel
theorem dX6_safe_29 : decode cX6_safe 29 = .ok (.aload_n 0, 1) := by decide +kernel
theorem dX6_safe_30 : decode cX6_safe 30 = .ok (.iload_n 2, 1) := by decide +kernel
theorem dX6_safe_31 : decode cX6_safe 31 = .ok (.invokevirtual 424, 3) := by decide +kernel
theorem dX6_safe_34 : decode cX6_safe 34 = .ok (.ifCond .eq 7, 3) := by decide +kernel
theorem dX6_safe_37 : decode cX6_safe 37 = .ok (.iconst 1, 1) := by decide +kernel
theorem dX6_safe_38 : decode cX6_safe 38 = .ok (.goto 4, 3) := by decide +kernel
theorem dX6_safe_41 : decode cX6_safe 41 = .ok (.iconst 0, 1) := by decide +kernel
theorem dX6_safe_42 : decode cX6_safe 42 = .ok (.iload_n 2, 1) := by decide +kernel
theorem dX6_safe_43 : decode cX6_safe 43 = .ok (.ishl, 1) := by decide +kernel
theorem dX6_safe_44 : decode cX6_safe 44 = .ok (.ior, 1) := by decide +kernel
theorem dX6_safe_45 : decode cX6_safe 45 = .ok (.istore_n 1, 1) := by decide +kernel
theorem dX6_safe_46 : decode cX6_safe 46 = .ok (.iinc 2 1, 3) := by decide +kernel
theorem dX6_safe_49 : decode cX6_safe 49 = .ok (.goto (-37), 3) := by decide +kernel
theorem dX6_safe_52 : decode cX6_safe 52 = .ok (.iload_n 1, 1) := by decide +kernel
theorem dX6_safe_53 : decode cX6_safe 53 = .ok (.ireturn, 1) := by decide +kernel
theorem dX6_sworn_0 : decode cX6_sworn 0 = .ok (.aload_n 0, 1) := by decide +kernel
theorem dX6_sworn_1 : decode cX6_sworn 1 = .ok (.iload_n 1, 1) := by decide +kernel
theorem dX6_sworn_2 : decode cX6_sworn 2 = .ok (.invokevirtual 365, 3) := by decide +kernel
theorem dX6_sworn_5 : decode cX6_sworn 5 = .ok (.ifCond .ne 6, 3) := by decide +kernel
theorem dX6_sworn_8 : decode cX6_sworn 8 = .ok (.bipush (-2), 2) := by decide +kernel
theorem dX6_sworn_10 : decode cX6_sworn 10 = .ok (.ireturn, 1) := by decide +kernel
theorem dX6_sworn_11 : decode cX6_sworn 11 = .ok (.aload_n 0, 1) := by decide +kernel
theorem dX6_sworn_12 : decode cX6_sworn 12 = .ok (.aload_n 0, 1) := by decide +kernel
theorem dX6_sworn_13 : decode cX6_sworn 13 = .ok (.getfield 105, 3) := by decide +kernel
theorem dX6_sworn_16 : decode cX6_sworn 16 = .ok (.invokevirtual 396, 3) := by decide +kernel
theorem dX6_sworn_19 : decode cX6_sworn 19 = .ok (.aload_n 0, 1) := by decide +kernel
theorem dX6_sworn_20 : decode cX6_sworn 20 = .ok (.iload_n 1, 1) := by decide +kernel
theorem dX6_sworn_21 : decode cX6_sworn 21 = .ok (.invokevirtual 424, 3) := by decide +kernel
theorem dX6_sworn_24 : decode cX6_sworn 24 = .ok (.ifCond .eq 6, 3) := by decide +kernel
theorem dX6_sworn_27 : decode cX6_sworn 27 = .ok (.bipush (-2), 2) := by decide +kernel
theorem dX6_sworn_29 : decode cX6_sworn 29 = .ok (.ireturn, 1) := by decide +kernel
theorem dX6_sworn_30 : decode cX6_sworn 30 = .ok (.iconst (-1), 1) := by decide +kernel
theorem dX6_sworn_31 : decode cX6_sworn 31 = .ok (.istore_n 2, 1) := by decide +kernel
theorem dX6_sworn_32 : decode cX6_sworn 32 = .ok (.iconst 0, 1) := by decide +kernel
theorem dX6_sworn_33 : decode cX6_sworn 33 = .ok (.istore_n 3, 1) := by decide +kernel
theorem dX6_sworn_34 : decode cX6_sworn 34 = .ok (.iload_n 3, 1) := by decide +kernel
theorem dX6_sworn_35 : decode cX6_sworn 35 = .ok (.aload_n 0, 1) := by decide +kernel
theorem dX6_sworn_36 : decode cX6_sworn 36 = .ok (.getfield 94, 3) := by decide +kernel
theorem dX6_sworn_39 : decode cX6_sworn 39 = .ok (.if_icmp .ge 64, 3) := by decide +kernel
theorem dX6_sworn_42 : decode cX6_sworn 42 = .ok (.iload_n 2, 1) := by decide +kernel
theorem dX6_sworn_43 : decode cX6_sworn 43 = .ok (.iconst (-1), 1) := by decide +kernel
theorem dX6_sworn_44 : decode cX6_sworn 44 = .ok (.if_icmp .ne 59, 3) := by decide +kernel
theorem dX6_sworn_47 : decode cX6_sworn 47 = .ok (.aload_n 0, 1) := by decide +kernel
theorem dX6_sworn_48 : decode cX6_sworn 48 = .ok (.iload_n 3, 1) := by decide +kernel
theorem dX6_sworn_49 : decode cX6_sworn 49 = .ok (.invokevirtual 365, 3) := by decide +kernel
theorem dX6_sworn_52 : decode cX6_sworn 52 = .ok (.ifCond .eq 45, 3) := by decide +kernel
theorem dX6_sworn_55 : decode cX6_sworn 55 = .ok (.iload_n 3, 1) := by decide +kernel
theorem dX6_sworn_56 : decode cX6_sworn 56 = .ok (.iload_n 1, 1) := by decide +kernel
theorem dX6_sworn_57 : decode cX6_sworn 57 = .ok (.if_icmp .eq 40, 3) := by decide +kernel
theorem dX6_sworn_60 : decode cX6_sworn 60 = .ok (.aload_n 0, 1) := by decide +kernel
theorem dX6_sworn_61 : decode cX6_sworn 61 = .ok (.iload_n 1, 1) := by decide +kernel
theorem dX6_sworn_62 : decode cX6_sworn 62 = .ok (.iload_n 3, 1) := by decide +kernel
theorem dX6_sworn_63 : decode cX6_sworn 63 = .ok (.invokevirtual 112, 3) := by decide +kernel
theorem dX6_sworn_66 : decode cX6_sworn 66 = .ok (.ifCond .ne 31, 3) := by decide +kernel
theorem dX6_sworn_69 : decode cX6_sworn 69 = .ok (.aload_n 0, 1) := by decide +kernel
theorem dX6_sworn_70 : decode cX6_sworn 70 = .ok (.iload_n 1, 1) := by decide +kernel
theorem dX6_sworn_71 : decode cX6_sworn 71 = .ok (.iload_n 3, 1) := by decide +kernel
theorem dX6_sworn_72 : decode cX6_sworn 72 = .ok (.iconst 1, 1) := by decide +kernel
theorem dX6_sworn_73 : decode cX6_sworn 73 = .ok (.invokevirtual 116, 3) := by decide +kernel
theorem dX6_sworn_76 : decode cX6_sworn 76 = .ok (.aload_n 0, 1) := by decide +kernel
theorem dX6_sworn_77 : decode cX6_sworn 77 = .ok (.iload_n 1, 1) := by decide +kernel
theorem dX6_sworn_78 : decode cX6_sworn 78 = .ok (.invokevirtual 424, 3) := by decide +kernel
theorem dX6_sworn_81 : decode cX6_sworn 81 = .ok (.ifCond .eq 7, 3) := by decide +kernel
theorem dX6_sworn_84 : decode cX6_sworn 84 = .ok (.iload_n 3, 1) := by decide +kernel
theorem dX6_sworn_85 : decode cX6_sworn 85 = .ok (.goto 4, 3) := by decide +kernel
theorem dX6_sworn_88 : decode cX6_sworn 88 = .ok (.iconst (-1), 1) := by decide +kernel
theorem dX6_sworn_89 : decode cX6_sworn 89 = .ok (.istore_n 2, 1) := by decide +kernel
theorem dX6_sworn_90 : decode cX6_sworn 90 = .ok (.aload_n 0, 1) := by decide +kernel
theorem dX6_sworn_91 : decode cX6_sworn 91 = .ok (.iload_n 1, 1) := by decide +kernel
theorem dX6_sworn_92 : decode cX6_sworn 92 = .ok (.iload_n 3, 1) := by decide +kernel
theorem dX6_sworn_93 : decode cX6_sworn 93 = .ok (.iconst 0, 1) := by decide +kernel
theorem dX6_sworn_94 : decode cX6_sworn 94 = .ok (.invokevirtual 116, 3) := by decide +kernel
theorem dX6_sworn_97 : decode cX6_sworn 97 = .ok (.iinc 3 1, 3) := by decide +kernel
theorem dX6_sworn_100 : decode cX6_sworn 100 = .ok (.goto (-66), 3) := by decide +kernel
theorem dX6_sworn_103 : decode cX6_sworn 103 = .ok (.iload_n 2, 1) := by decide +kernel
theorem dX6_sworn_104 : decode cX6_sworn 104 = .ok (.ireturn, 1) := by decide +kernel
theorem dX6_canSwear_0 : decode cX6_canSwear 0 = .ok (.iload_n 1, 1) := by decide +kernel
theorem dX6_canSwear_1 : decode cX6_canSwear 1 = .ok (.bipush 7, 2) := by decide +kernel
theorem dX6_canSwear_3 : decode cX6_canSwear 3 = .ok (.idiv, 1) := by decide +kernel
theorem dX6_canSwear_4 : decode cX6_canSwear 4 = .ok (.iload_n 1, 1) := by decide +kernel
theorem dX6_canSwear_5 : decode cX6_canSwear 5 = .ok (.bipush 7, 2) := by decide +kernel
theorem dX6_canSwear_7 : decode cX6_canSwear 7 = .ok (.irem, 1) := by decide +kernel
theorem dX6_canSwear_8 : decode cX6_canSwear 8 = .ok (.if_icmp .ge 44, 3) := by decide +kernel
theorem dX6_canSwear_11 : decode cX6_canSwear 11 = .ok (.aload_n 0, 1) := by decide +kernel
theorem dX6_canSwear_12 : decode cX6_canSwear 12 = .ok (.iload_n 1, 1) := by decide +kernel
theorem dX6_canSwear_13 : decode cX6_canSwear 13 = .ok (.bipush 7, 2) := by decide +kernel
theorem dX6_canSwear_15 : decode cX6_canSwear 15 = .ok (.idiv, 1) := by decide +kernel
theorem dX6_canSwear_16 : decode cX6_canSwear 16 = .ok (.invokevirtual 365, 3) := by decide +kernel
theorem dX6_canSwear_19 : decode cX6_canSwear 19 = .ok (.ifCond .eq 33, 3) := by decide +kernel
theorem dX6_canSwear_22 : decode cX6_canSwear 22 = .ok (.aload_n 0, 1) := by decide +kernel
theorem dX6_canSwear_23 : decode cX6_canSwear 23 = .ok (.iload_n 1, 1) := by decide +kernel
theorem dX6_canSwear_24 : decode cX6_canSwear 24 = .ok (.bipush 7, 2) := by decide +kernel
theorem dX6_canSwear_26 : decode cX6_canSwear 26 = .ok (.irem, 1) := by decide +kernel
theorem dX6_canSwear_27 : decode cX6_canSwear 27 = .ok (.invokevirtual 365, 3) := by decide +kernel
theorem dX6_canSwear_30 : decode cX6_canSwear 30 = .ok (.ifCond .eq 22, 3) := by decide +kernel
theorem dX6_canSwear_33 : decode cX6_canSwear 33 = .ok (.aload_n 0, 1) := by decide +kernel
theorem dX6_canSwear_34 : decode cX6_canSwear 34 = .ok (.iload_n 1, 1) := by decide +kernel
theorem dX6_canSwear_35 : decode cX6_canSwear 35 = .ok (.bipush 7, 2) := by decide +kernel
theorem dX6_canSwear_37 : decode cX6_canSwear 37 = .ok (.idiv, 1) := by decide +kernel
theorem dX6_canSwear_38 : decode cX6_canSwear 38 = .ok (.iload_n 1, 1) := by decide +kernel
theorem dX6_canSwear_39 : decode cX6_canSwear 39 = .ok (.bipush 7, 2) := by decide +kernel
theorem dX6_canSwear_41 : decode cX6_canSwear 41 = .ok (.irem, 1) := by decide +kernel
theorem dX6_canSwear_42 : decode cX6_canSwear 42 = .ok (.invokevirtual 112, 3) := by decide +kernel
theorem dX6_canSwear_45 : decode cX6_canSwear 45 = .ok (.ifCond .ne 7, 3) := by decide +kernel
theorem dX6_canSwear_48 : decode cX6_canSwear 48 = .ok (.iconst 1, 1) := by decide +kernel
theorem dX6_canSwear_49 : decode cX6_canSwear 49 = .ok (.goto 4, 3) := by decide +kernel
theorem dX6_canSwear_52 : decode cX6_canSwear 52 = .ok (.iconst 0, 1) := by decide +kernel
theorem dX6_canSwear_53 : decode cX6_canSwear 53 = .ok (.ireturn, 1) := by decide +kernel
theorem dX6_findsOaths_0 : decode cX6_findsOaths 0 = .ok (.aload_n 0, 1) := by decide +kernel
theorem dX6_findsOaths_1 : decode cX6_findsOaths 1 = .ok (.aload_n 0, 1) := by decide +kernel
theorem dX6_findsOaths_2 : decode cX6_findsOaths 2 = .ok (.getfield 105, 3) := by decide +kernel
theorem dX6_findsOaths_5 : decode cX6_findsOaths 5 = .ok (.invokevirtual 396, 3) := by decide +kernel
theorem dX6_findsOaths_8 : decode cX6_findsOaths 8 = .ok (.aload_n 0, 1) := by decide +kernel
theorem dX6_findsOaths_9 : decode cX6_findsOaths 9 = .ok (.aload_n 0, 1) := by decide +kernel
theorem dX6_findsOaths_10 : decode cX6_findsOaths 10 = .ok (.invokevirtual 408, 3) := by decide +kernel
theorem dX6_findsOaths_13 : decode cX6_findsOaths 13 = .ok (.ifCond .eq 7, 3) := by decide +kernel
theorem dX6_findsOaths_16 : decode cX6_findsOaths 16 = .ok (.iconst 0, 1) := by decide +kernel
theorem dX6_findsOaths_17 : decode cX6_findsOaths 17 = .ok (.goto 4, 3) := by decide +kernel
theorem dX6_findsOaths_20 : decode cX6_findsOaths 20 = .ok (.iconst (-1), 1) := by decide +kernel
theorem dX6_findsOaths_21 : decode cX6_findsOaths 21 = .ok (.putfield 427, 3) := by decide +kernel
theorem dX6_findsOaths_24 : decode cX6_findsOaths 24 = .ok (.aload_n 0, 1) := by decide +kernel
theorem dX6_findsOaths_25 : decode cX6_findsOaths 25 = .ok (.iconst (-1), 1) := by decide +kernel
theorem dX6_findsOaths_26 : decode cX6_findsOaths 26 = .ok (.putfield 430, 3) := by decide +kernel
theorem dX6_findsOaths_29 : decode cX6_findsOaths 29 = .ok (.aload_n 0, 1) := by decide +kernel
theorem dX6_findsOaths_30 : decode cX6_findsOaths 30 = .ok (.iconst (-1), 1) := by decide +kernel
theorem dX6_findsOaths_31 : decode cX6_findsOaths 31 = .ok (.putfield 433, 3) := by decide +kernel
theorem dX6_findsOaths_34 : decode cX6_findsOaths 34 = .ok (.iconst 0, 1) := by decide +kernel
theorem dX6_findsOaths_35 : decode cX6_findsOaths 35 = .ok (.istore_n 1, 1) := by decide +kernel
theorem dX6_findsOaths_36 : decode cX6_findsOaths 36 = .ok (.iload_n 1, 1) := by decide +kernel
theorem dX6_findsOaths_37 : decode cX6_findsOaths 37 = .ok (.bipush 49, 2) := by decide +kernel
theorem dX6_findsOaths_39 : decode cX6_findsOaths 39 = .ok (.if_icmp .ge 68, 3) := by decide +kernel
theorem dX6_findsOaths_42 : decode cX6_findsOaths 42 = .ok (.aload_n 0, 1) := by decide +kernel
theorem dX6_findsOaths_43 : decode cX6_findsOaths 43 = .ok (.getfield 427, 3) := by decide +kernel
theorem dX6_findsOaths_46 : decode cX6_findsOaths 46 = .ok (.iconst (-1), 1) := by decide +kernel
theorem dX6_findsOaths_47 : decode cX6_findsOaths 47 = .ok (.if_icmp .ne 60, 3) := by decide +kernel
theorem dX6_findsOaths_50 : decode cX6_findsOaths 50 = .ok (.aload_n 0, 1) := by decide +kernel
theorem dX6_findsOaths_51 : decode cX6_findsOaths 51 = .ok (.iload_n 1, 1) := by decide +kernel
theorem dX6_findsOaths_52 : decode cX6_findsOaths 52 = .ok (.invokevirtual 436, 3) := by decide +kernel
theorem dX6_findsOaths_55 : decode cX6_findsOaths 55 = .ok (.ifCond .eq 46, 3) := by decide +kernel
theorem dX6_findsOaths_58 : decode cX6_findsOaths 58 = .ok (.aload_n 0, 1) := by decide +kernel
theorem dX6_findsOaths_59 : decode cX6_findsOaths 59 = .ok (.iload_n 1, 1) := by decide +kernel
theorem dX6_findsOaths_60 : decode cX6_findsOaths 60 = .ok (.bipush 7, 2) := by decide +kernel
theorem dX6_findsOaths_62 : decode cX6_findsOaths 62 = .ok (.idiv, 1) := by decide +kernel
theorem dX6_findsOaths_63 : decode cX6_findsOaths 63 = .ok (.iload_n 1, 1) := by decide +kernel
theorem dX6_findsOaths_64 : decode cX6_findsOaths 64 = .ok (.bipush 7, 2) := by decide +kernel
theorem dX6_findsOaths_66 : decode cX6_findsOaths 66 = .ok (.irem, 1) := by decide +kernel
theorem dX6_findsOaths_67 : decode cX6_findsOaths 67 = .ok (.iconst 1, 1) := by decide +kernel
theorem dX6_findsOaths_68 : decode cX6_findsOaths 68 = .ok (.invokevirtual 116, 3) := by decide +kernel
theorem dX6_findsOaths_71 : decode cX6_findsOaths 71 = .ok (.aload_n 0, 1) := by decide +kernel
theorem dX6_findsOaths_72 : decode cX6_findsOaths 72 = .ok (.invokevirtual 408, 3) := by decide +kernel
theorem dX6_findsOaths_75 : decode cX6_findsOaths 75 = .ok (.ifCond .eq 13, 3) := by decide +kernel
theorem dX6_findsOaths_78 : decode cX6_findsOaths 78 = .ok (.aload_n 0, 1) := by decide +kernel
theorem dX6_findsOaths_79 : decode cX6_findsOaths 79 = .ok (.iconst 1, 1) := by decide +kernel
theorem dX6_findsOaths_80 : decode cX6_findsOaths 80 = .ok (.putfield 427, 3) := by decide +kernel
theorem dX6_findsOaths_83 : decode cX6_findsOaths 83 = .ok (.aload_n 0, 1) := by decide +kernel
theorem dX6_findsOaths_84 : decode cX6_findsOaths 84 = .ok (.iload_n 1, 1) := by decide +kernel
theorem dX6_findsOaths_85 : decode cX6_findsOaths 85 = .ok (.putfield 430, 3) := by decide +kernel
theorem dX6_findsOaths_88 : decode cX6_findsOaths 88 = .ok (.aload_n 0, 1) := by decide +kernel
theorem dX6_findsOaths_89 : decode cX6_findsOaths 89 = .ok (.iload_n 1, 1) := by decide +kernel
theorem dX6_findsOaths_90 : decode cX6_findsOaths 90 = .ok (.bipush 7, 2) := by decide +kernel
theorem dX6_findsOaths_92 : decode cX6_findsOaths 92 = .ok (.idiv, 1) := by decide +kernel
theorem dX6_findsOaths_93 : decode cX6_findsOaths 93 = .ok (.iload_n 1, 1) := by decide +kernel
theorem dX6_findsOaths_94 : decode cX6_findsOaths 94 = .ok (.bipush 7, 2) := by decide +kernel
theorem dX6_findsOaths_96 : decode cX6_findsOaths 96 = .ok (.irem, 1) := by decide +kernel
theorem dX6_findsOaths_97 : decode cX6_findsOaths 97 = .ok (.iconst 0, 1) := by decide +kernel
theorem dX6_findsOaths_98 : decode cX6_findsOaths 98 = .ok (.invokevirtual 116, 3) := by decide +kernel
theorem dX6_findsOaths_101 : decode cX6_findsOaths 101 = .ok (.iinc 1 1, 3) := by decide +kernel
theorem dX6_findsOaths_104 : decode cX6_findsOaths 104 = .ok (.goto (-68), 3) := by decide +kernel
theorem dX6_findsOaths_107 : decode cX6_findsOaths 107 = .ok (.iconst 0, 1) := by decide +kernel
theorem dX6_findsOaths_108 : decode cX6_findsOaths 108 = .ok (.istore_n 1, 1) := by decide +kernel
theorem dX6_findsOaths_109 : decode cX6_findsOaths 109 = .ok (.iload_n 1, 1) := by decide +kernel
theorem dX6_findsOaths_110 : decode cX6_findsOaths 110 = .ok (.bipush 49, 2) := by decide +kernel
theorem dX6_findsOaths_112 : decode cX6_findsOaths 112 = .ok (.if_icmp .ge 131, 3) := by decide +kernel
theorem dX6_findsOaths_115 : decode cX6_findsOaths 115 = .ok (.aload_n 0, 1) := by decide +kernel
theorem dX6_findsOaths_116 : decode cX6_findsOaths 116 = .ok (.getfield 427, 3) := by decide +kernel
theorem dX6_findsOaths_119 : decode cX6_findsOaths 119 = .ok (.iconst (-1), 1) := by decide +kernel
theorem dX6_findsOaths_120 : decode cX6_findsOaths 120 = .ok (.if_icmp .ne 123, 3) := by decide +kernel
theorem dX6_findsOaths_123 : decode cX6_findsOaths 123 = .ok (.iload_n 1, 1) := by decide +kernel
theorem dX6_findsOaths_124 : decode cX6_findsOaths 124 = .ok (.iconst 1, 1) := by decide +kernel
theorem dX6_findsOaths_125 : decode cX6_findsOaths 125 = .ok (.iadd, 1) := by decide +kernel
theorem dX6_findsOaths_126 : decode cX6_findsOaths 126 = .ok (.istore_n 2, 1) := by decide +kernel
theorem dX6_findsOaths_127 : decode cX6_findsOaths 127 = .ok (.iload_n 2, 1) := by decide +kernel
theorem dX6_findsOaths_128 : decode cX6_findsOaths 128 = .ok (.bipush 49, 2) := by decide +kernel
theorem dX6_findsOaths_130 : decode cX6_findsOaths 130 = .ok (.if_icmp .ge 107, 3) := by decide +kernel
theorem dX6_findsOaths_133 : decode cX6_findsOaths 133 = .ok (.aload_n 0, 1) := by decide +kernel
theorem dX6_findsOaths_134 : decode cX6_findsOaths 134 = .ok (.getfield 427, 3) := by decide +kernel
theorem dX6_findsOaths_137 : decode cX6_findsOaths 137 = .ok (.iconst (-1), 1) := by decide +kernel
theorem dX6_findsOaths_138 : decode cX6_findsOaths 138 = .ok (.if_icmp .ne 99, 3) := by decide +kernel
theorem dX6_findsOaths_141 : decode cX6_findsOaths 141 = .ok (.aload_n 0, 1) := by decide +kernel
theorem dX6_findsOaths_142 : decode cX6_findsOaths 142 = .ok (.iload_n 1, 1) := by decide +kernel
theorem dX6_findsOaths_143 : decode cX6_findsOaths 143 = .ok (.invokevirtual 436, 3) := by decide +kernel
theorem dX6_findsOaths_146 : decode cX6_findsOaths 146 = .ok (.ifCond .eq 85, 3) := by decide +kernel
theorem dX6_findsOaths_149 : decode cX6_findsOaths 149 = .ok (.aload_n 0, 1) := by decide +kernel
theorem dX6_findsOaths_150 : decode cX6_findsOaths 150 = .ok (.iload_n 2, 1) := by decide +kernel
theorem dX6_findsOaths_151 : decode cX6_findsOaths 151 = .ok (.invokevirtual 436, 3) := by decide +kernel
theorem dX6_findsOaths_154 : decode cX6_findsOaths 154 = .ok (.ifCond .eq 77, 3) := by decide +kernel
theorem dX6_findsOaths_157 : decode cX6_findsOaths 157 = .ok (.aload_n 0, 1) := by decide +kernel
theorem dX6_findsOaths_158 : decode cX6_findsOaths 158 = .ok (.iload_n 1, 1) := by decide +kernel
theorem dX6_findsOaths_159 : decode cX6_findsOaths 159 = .ok (.bipush 7, 2) := by decide +kernel
theorem dX6_findsOaths_161 : decode cX6_findsOaths 161 = .ok (.idiv, 1) := by decide +kernel
theorem dX6_findsOaths_162 : decode cX6_findsOaths 162 = .ok (.iload_n 1, 1) := by decide +kernel
theorem dX6_findsOaths_163 : decode cX6_findsOaths 163 = .ok (.bipush 7, 2) := by decide +kernel
theorem dX6_findsOaths_165 : decode cX6_findsOaths 165 = .ok (.irem, 1) := by decide +kernel
theorem dX6_findsOaths_166 : decode cX6_findsOaths 166 = .ok (.iconst 1, 1) := by decide +kernel
theorem dX6_findsOaths_167 : decode cX6_findsOaths 167 = .ok (.invokevirtual 116, 3) := by decide +kernel
theorem dX6_findsOaths_170 : decode cX6_findsOaths 170 = .ok (.aload_n 0, 1) := by decide +kernel
theorem dX6_findsOaths_171 : decode cX6_findsOaths 171 = .ok (.iload_n 2, 1) := by decide +kernel
theorem dX6_findsOaths_172 : decode cX6_findsOaths 172 = .ok (.bipush 7, 2) := by decide +kernel
theorem dX6_findsOaths_174 : decode cX6_findsOaths 174 = .ok (.idiv, 1) := by decide +kernel
theorem dX6_findsOaths_175 : decode cX6_findsOaths 175 = .ok (.iload_n 2, 1) := by decide +kernel
theorem dX6_findsOaths_176 : decode cX6_findsOaths 176 = .ok (.bipush 7, 2) := by decide +kernel
theorem dX6_findsOaths_178 : decode cX6_findsOaths 178 = .ok (.irem, 1) := by decide +kernel
theorem dX6_findsOaths_179 : decode cX6_findsOaths 179 = .ok (.iconst 1, 1) := by decide +kernel
theorem dX6_findsOaths_180 : decode cX6_findsOaths 180 = .ok (.invokevirtual 116, 3) := by decide +kernel
theorem dX6_findsOaths_183 : decode cX6_findsOaths 183 = .ok (.aload_n 0, 1) := by decide +kernel
theorem dX6_findsOaths_184 : decode cX6_findsOaths 184 = .ok (.invokevirtual 408, 3) := by decide +kernel
theorem dX6_findsOaths_187 : decode cX6_findsOaths 187 = .ok (.ifCond .eq 18, 3) := by decide +kernel
theorem dX6_findsOaths_190 : decode cX6_findsOaths 190 = .ok (.aload_n 0, 1) := by decide +kernel
theorem dX6_findsOaths_191 : decode cX6_findsOaths 191 = .ok (.iconst 2, 1) := by decide +kernel
theorem dX6_findsOaths_192 : decode cX6_findsOaths 192 = .ok (.putfield 427, 3) := by decide +kernel
theorem dX6_findsOaths_195 : decode cX6_findsOaths 195 = .ok (.aload_n 0, 1) := by decide +kernel
theorem dX6_findsOaths_196 : decode cX6_findsOaths 196 = .ok (.iload_n 1, 1) := by decide +kernel
theorem dX6_findsOaths_197 : decode cX6_findsOaths 197 = .ok (.putfield 430, 3) := by decide +kernel
theorem dX6_findsOaths_200 : decode cX6_findsOaths 200 = .ok (.aload_n 0, 1) := by decide +kernel
theorem dX6_findsOaths_201 : decode cX6_findsOaths 201 = .ok (.iload_n 2, 1) := by decide +kernel
theorem dX6_findsOaths_202 : decode cX6_findsOaths 202 = .ok (.putfield 433, 3) := by decide +kernel
theorem dX6_findsOaths_205 : decode cX6_findsOaths 205 = .ok (.aload_n 0, 1) := by decide +kernel
theorem dX6_findsOaths_206 : decode cX6_findsOaths 206 = .ok (.iload_n 1, 1) := by decide +kernel
theorem dX6_findsOaths_207 : decode cX6_findsOaths 207 = .ok (.bipush 7, 2) := by decide +kernel
theorem dX6_findsOaths_209 : decode cX6_findsOaths 209 = .ok (.idiv, 1) := by decide +kernel
theorem dX6_findsOaths_210 : decode cX6_findsOaths 210 = .ok (.iload_n 1, 1) := by decide +kernel
theorem dX6_findsOaths_211 : decode cX6_findsOaths 211 = .ok (.bipush 7, 2) := by decide +kernel
theorem dX6_findsOaths_213 : decode cX6_findsOaths 213 = .ok (.irem, 1) := by decide +kernel
theorem dX6_findsOaths_214 : decode cX6_findsOaths 214 = .ok (.iconst 0, 1) := by decide +kernel
theorem dX6_findsOaths_215 : decode cX6_findsOaths 215 = .ok (.invokevirtual 116, 3) := by decide +kernel
theorem dX6_findsOaths_218 : decode cX6_findsOaths 218 = .ok (.aload_n 0, 1) := by decide +kernel
theorem dX6_findsOaths_219 : decode cX6_findsOaths 219 = .ok (.iload_n 2, 1) := by decide +kernel
theorem dX6_findsOaths_220 : decode cX6_findsOaths 220 = .ok (.bipush 7, 2) := by decide +kernel
theorem dX6_findsOaths_222 : decode cX6_findsOaths 222 = .ok (.idiv, 1) := by decide +kernel
theorem dX6_findsOaths_223 : decode cX6_findsOaths 223 = .ok (.iload_n 2, 1) := by decide +kernel
theorem dX6_findsOaths_224 : decode cX6_findsOaths 224 = .ok (.bipush 7, 2) := by decide +kernel
theorem dX6_findsOaths_226 : decode cX6_findsOaths 226 = .ok (.irem, 1) := by decide +kernel
theorem dX6_findsOaths_227 : decode cX6_findsOaths 227 = .ok (.iconst 0, 1) := by decide +kernel
theorem dX6_findsOaths_228 : decode cX6_findsOaths 228 = .ok (.invokevirtual 116, 3) := by decide +kernel
theorem dX6_findsOaths_231 : decode cX6_findsOaths 231 = .ok (.iinc 2 1, 3) := by decide +kernel
theorem dX6_findsOaths_234 : decode cX6_findsOaths 234 = .ok (.goto (-107), 3) := by decide +kernel
theorem dX6_findsOaths_237 : decode cX6_findsOaths 237 = .ok (.iinc 1 1, 3) := by decide +kernel
theorem dX6_findsOaths_240 : decode cX6_findsOaths 240 = .ok (.goto (-131), 3) := by decide +kernel
theorem dX6_findsOaths_243 : decode cX6_findsOaths 243 = .ok (.return_, 1) := by decide +kernel
theorem dX6_oaths_0 : decode cX6_oaths 0 = .ok (.iload_n 1, 1) := by decide +kernel
theorem dX6_oaths_1 : decode cX6_oaths 1 = .ok (.i2l, 1) := by decide +kernel
theorem dX6_oaths_2 : decode cX6_oaths 2 = .ok (.lconst 0, 1) := by decide +kernel
theorem dX6_oaths_3 : decode cX6_oaths 3 = .ok (.ldc2_w 122, 3) := by decide +kernel
theorem dX6_oaths_6 : decode cX6_oaths 6 = .ok (.invokestatic 97, 3) := by decide +kernel
theorem dX6_oaths_9 : decode cX6_oaths 9 = .ok (.ifCond .ne 6, 3) := by decide +kernel
theorem dX6_oaths_12 : decode cX6_oaths 12 = .ok (.bipush (-2), 2) := by decide +kernel
theorem dX6_oaths_14 : decode cX6_oaths 14 = .ok (.ireturn, 1) := by decide +kernel
theorem dX6_oaths_15 : decode cX6_oaths 15 = .ok (.aload_n 0, 1) := by decide +kernel
theorem dX6_oaths_16 : decode cX6_oaths 16 = .ok (.invokevirtual 439, 3) := by decide +kernel
theorem dX6_oaths_19 : decode cX6_oaths 19 = .ok (.iload_n 1, 1) := by decide +kernel
theorem dX6_oaths_20 : decode cX6_oaths 20 = .ok (.ifCond .ne 8, 3) := by decide +kernel
theorem dX6_oaths_23 : decode cX6_oaths 23 = .ok (.aload_n 0, 1) := by decide +kernel
theorem dX6_oaths_24 : decode cX6_oaths 24 = .ok (.getfield 427, 3) := by decide +kernel
theorem dX6_oaths_27 : decode cX6_oaths 27 = .ok (.ireturn, 1) := by decide +kernel
theorem dX6_oaths_28 : decode cX6_oaths 28 = .ok (.iload_n 1, 1) := by decide +kernel
theorem dX6_oaths_29 : decode cX6_oaths 29 = .ok (.iconst 1, 1) := by decide +kernel
theorem dX6_oaths_30 : decode cX6_oaths 30 = .ok (.if_icmp .ne 10, 3) := by decide +kernel
theorem dX6_oaths_33 : decode cX6_oaths 33 = .ok (.aload_n 0, 1) := by decide +kernel
theorem dX6_oaths_34 : decode cX6_oaths 34 = .ok (.getfield 430, 3) := by decide +kernel
theorem dX6_oaths_37 : decode cX6_oaths 37 = .ok (.goto 7, 3) := by decide +kernel
theorem dX6_oaths_40 : decode cX6_oaths 40 = .ok (.aload_n 0, 1) := by decide +kernel
theorem dX6_oaths_41 : decode cX6_oaths 41 = .ok (.getfield 433, 3) := by decide +kernel
theorem dX6_oaths_44 : decode cX6_oaths 44 = .ok (.istore_n 2, 1) := by decide +kernel
theorem dX6_oaths_45 : decode cX6_oaths 45 = .ok (.iload_n 2, 1) := by decide +kernel
theorem dX6_oaths_46 : decode cX6_oaths 46 = .ok (.iconst (-1), 1) := by decide +kernel
theorem dX6_oaths_47 : decode cX6_oaths 47 = .ok (.if_icmp .ne 7, 3) := by decide +kernel
theorem dX6_oaths_50 : decode cX6_oaths 50 = .ok (.iconst (-1), 1) := by decide +kernel
theorem dX6_oaths_51 : decode cX6_oaths 51 = .ok (.goto 15, 3) := by decide +kernel
theorem dX6_oaths_54 : decode cX6_oaths 54 = .ok (.bipush 10, 2) := by decide +kernel
theorem dX6_oaths_56 : decode cX6_oaths 56 = .ok (.iload_n 2, 1) := by decide +kernel
theorem dX6_oaths_57 : decode cX6_oaths 57 = .ok (.bipush 7, 2) := by decide +kernel
theorem dX6_oaths_59 : decode cX6_oaths 59 = .ok (.idiv, 1) := by decide +kernel
theorem dX6_oaths_60 : decode cX6_oaths 60 = .ok (.imul, 1) := by decide +kernel
theorem dX6_oaths_61 : decode cX6_oaths 61 = .ok (.iload_n 2, 1) := by decide +kernel
theorem dX6_oaths_62 : decode cX6_oaths 62 = .ok (.bipush 7, 2) := by decide +kernel
theorem dX6_oaths_64 : decode cX6_oaths 64 = .ok (.irem, 1) := by decide +kernel
theorem dX6_oaths_65 : decode cX6_oaths 65 = .ok (.iadd, 1) := by decide +kernel
theorem dX6_oaths_66 : decode cX6_oaths 66 = .ok (.ireturn, 1) := by decide +kernel
theorem dX6_shield_0 : decode cX6_shield 0 = .ok (.aload_n 0, 1) := by decide +kernel
theorem dX6_shield_1 : decode cX6_shield 1 = .ok (.iload_n 1, 1) := by decide +kernel
theorem dX6_shield_2 : decode cX6_shield 2 = .ok (.invokevirtual 365, 3) := by decide +kernel
theorem dX6_shield_5 : decode cX6_shield 5 = .ok (.ifCond .eq 19, 3) := by decide +kernel
theorem dX6_shield_8 : decode cX6_shield 8 = .ok (.aload_n 0, 1) := by decide +kernel
theorem dX6_shield_9 : decode cX6_shield 9 = .ok (.iload_n 2, 1) := by decide +kernel
theorem dX6_shield_10 : decode cX6_shield 10 = .ok (.invokevirtual 101, 3) := by decide +kernel
theorem dX6_shield_13 : decode cX6_shield 13 = .ok (.ifCond .eq 11, 3) := by decide +kernel
theorem dX6_shield_16 : decode cX6_shield 16 = .ok (.aload_n 0, 1) := by decide +kernel
theorem dX6_shield_17 : decode cX6_shield 17 = .ok (.iload_n 2, 1) := by decide +kernel
theorem dX6_shield_18 : decode cX6_shield 18 = .ok (.invokevirtual 365, 3) := by decide +kernel
theorem dX6_shield_21 : decode cX6_shield 21 = .ok (.ifCond .eq 6, 3) := by decide +kernel
theorem dX6_shield_24 : decode cX6_shield 24 = .ok (.bipush (-2), 2) := by decide +kernel
theorem dX6_shield_26 : decode cX6_shield 26 = .ok (.ireturn, 1) := by decide +kernel
theorem dX6_shield_27 : decode cX6_shield 27 = .ok (.aload_n 0, 1) := by decide +kernel
theorem dX6_shield_28 : decode cX6_shield 28 = .ok (.aload_n 0, 1) := by decide +kernel
theorem dX6_shield_29 : decode cX6_shield 29 = .ok (.getfield 105, 3) := by decide +kernel
theorem dX6_shield_32 : decode cX6_shield 32 = .ok (.iconst 1, 1) := by decide +kernel
theorem dX6_shield_33 : decode cX6_shield 33 = .ok (.iload_n 2, 1) := by decide +kernel
theorem dX6_shield_34 : decode cX6_shield 34 = .ok (.ishl, 1) := by decide +kernel
theorem dX6_shield_35 : decode cX6_shield 35 = .ok (.ior, 1) := by decide +kernel
theorem dX6_shield_36 : decode cX6_shield 36 = .ok (.invokevirtual 396, 3) := by decide +kernel
theorem dX6_shield_39 : decode cX6_shield 39 = .ok (.aload_n 0, 1) := by decide +kernel
theorem dX6_shield_40 : decode cX6_shield 40 = .ok (.iload_n 1, 1) := by decide +kernel
theorem dX6_shield_41 : decode cX6_shield 41 = .ok (.invokevirtual 424, 3) := by decide +kernel
theorem dX6_shield_44 : decode cX6_shield 44 = .ok (.ifCond .eq 7, 3) := by decide +kernel
theorem dX6_shield_47 : decode cX6_shield 47 = .ok (.iconst 1, 1) := by decide +kernel
theorem dX6_shield_48 : decode cX6_shield 48 = .ok (.goto 4, 3) := by decide +kernel
theorem dX6_shield_51 : decode cX6_shield 51 = .ok (.iconst 0, 1) := by decide +kernel
theorem dX6_shield_52 : decode cX6_shield 52 = .ok (.ireturn, 1) := by decide +kernel
theorem dX6_holds_0 : decode cX6_holds 0 = .ok (.iload_n 1, 1) := by decide +kernel
theorem dX6_holds_1 : decode cX6_holds 1 = .ok (.i2l, 1) := by decide +kernel
theorem dX6_holds_2 : decode cX6_holds 2 = .ok (.lconst 0, 1) := by decide +kernel
theorem dX6_holds_3 : decode cX6_holds 3 = .ok (.lconst 1, 1) := by decide +kernel
theorem dX6_holds_4 : decode cX6_holds 4 = .ok (.invokestatic 97, 3) := by decide +kernel
theorem dX6_holds_7 : decode cX6_holds 7 = .ok (.ifCond .ne 6, 3) := by decide +kernel
theorem dX6_holds_10 : decode cX6_holds 10 = .ok (.bipush (-2), 2) := by decide +kernel
theorem dX6_holds_12 : decode cX6_holds 12 = .ok (.ireturn, 1) := by decide +kernel
theorem dX6_holds_13 : decode cX6_holds 13 = .ok (.iconst (-1), 1) := by decide +kernel
theorem dX6_holds_14 : decode cX6_holds 14 = .ok (.istore_n 2, 1) := by decide +kernel
theorem dX6_holds_15 : decode cX6_holds 15 = .ok (.iload_n 1, 1) := by decide +kernel
theorem dX6_holds_16 : decode cX6_holds 16 = .ok (.ifCond .ne 71, 3) := by decide +kernel
theorem dX6_holds_19 : decode cX6_holds 19 = .ok (.aload_n 0, 1) := by decide +kernel
theorem dX6_holds_20 : decode cX6_holds 20 = .ok (.getfield 38, 3) := by decide +kernel
theorem dX6_holds_23 : decode cX6_holds 23 = .ok (.istore_n 3, 1) := by decide +kernel
theorem dX6_holds_24 : decode cX6_holds 24 = .ok (.aload_n 0, 1) := by decide +kernel
theorem dX6_holds_25 : decode cX6_holds 25 = .ok (.aload_n 0, 1) := by decide +kernel
theorem dX6_holds_26 : decode cX6_holds 26 = .ok (.getfield 105, 3) := by decide +kernel
theorem dX6_holds_29 : decode cX6_holds 29 = .ok (.invokevirtual 396, 3) := by decide +kernel
theorem dX6_holds_32 : decode cX6_holds 32 = .ok (.aload_n 0, 1) := by decide +kernel
theorem dX6_holds_33 : decode cX6_holds 33 = .ok (.iconst 2, 1) := by decide +kernel
theorem dX6_holds_34 : decode cX6_holds 34 = .ok (.putfield 38, 3) := by decide +kernel
theorem dX6_holds_37 : decode cX6_holds 37 = .ok (.aload_n 0, 1) := by decide +kernel
theorem dX6_holds_38 : decode cX6_holds 38 = .ok (.getfield 38, 3) := by decide +kernel
theorem dX6_holds_41 : decode cX6_holds 41 = .ok (.bipush 6, 2) := by decide +kernel
theorem dX6_holds_43 : decode cX6_holds 43 = .ok (.if_icmp .ge 37, 3) := by decide +kernel
theorem dX6_holds_46 : decode cX6_holds 46 = .ok (.iload_n 2, 1) := by decide +kernel
theorem dX6_holds_47 : decode cX6_holds 47 = .ok (.iconst (-1), 1) := by decide +kernel
theorem dX6_holds_48 : decode cX6_holds 48 = .ok (.if_icmp .ne 32, 3) := by decide +kernel
theorem dX6_holds_51 : decode cX6_holds 51 = .ok (.aload_n 0, 1) := by decide +kernel
theorem dX6_holds_52 : decode cX6_holds 52 = .ok (.invokevirtual 408, 3) := by decide +kernel
theorem dX6_holds_55 : decode cX6_holds 55 = .ok (.ifCond .eq 10, 3) := by decide +kernel
theorem dX6_holds_58 : decode cX6_holds 58 = .ok (.aload_n 0, 1) := by decide +kernel
theorem dX6_holds_59 : decode cX6_holds 59 = .ok (.getfield 38, 3) := by decide +kernel
theorem dX6_holds_62 : decode cX6_holds 62 = .ok (.goto 4, 3) := by decide +kernel
theorem dX6_holds_65 : decode cX6_holds 65 = .ok (.iconst (-1), 1) := by decide +kernel
theorem dX6_holds_66 : decode cX6_holds 66 = .ok (.istore_n 2, 1) := by decide +kernel
theorem dX6_holds_67 : decode cX6_holds 67 = .ok (.aload_n 0, 1) := by decide +kernel
theorem dX6_holds_68 : decode cX6_holds 68 = .ok (.dup, 1) := by decide +kernel
theorem dX6_holds_69 : decode cX6_holds 69 = .ok (.getfield 38, 3) := by decide +kernel
theorem dX6_holds_72 : decode cX6_holds 72 = .ok (.iconst 1, 1) := by decide +kernel
theorem dX6_holds_73 : decode cX6_holds 73 = .ok (.iadd, 1) := by decide +kernel
theorem dX6_holds_74 : decode cX6_holds 74 = .ok (.putfield 38, 3) := by decide +kernel
theorem dX6_holds_77 : decode cX6_holds 77 = .ok (.goto (-40), 3) := by decide +kernel
theorem dX6_holds_80 : decode cX6_holds 80 = .ok (.aload_n 0, 1) := by decide +kernel
theorem dX6_holds_81 : decode cX6_holds 81 = .ok (.iload_n 3, 1) := by decide +kernel
theorem dX6_holds_82 : decode cX6_holds 82 = .ok (.putfield 38, 3) := by decide +kernel
theorem dX6_holds_85 : decode cX6_holds 85 = .ok (.iload_n 2, 1) := by decide +kernel
theorem dX6_holds_86 : decode cX6_holds 86 = .ok (.ireturn, 1) := by decide +kernel
theorem dX6_holds_87 : decode cX6_holds 87 = .ok (.aload_n 0, 1) := by decide +kernel
theorem dX6_holds_88 : decode cX6_holds 88 = .ok (.getfield 35, 3) := by decide +kernel
theorem dX6_holds_91 : decode cX6_holds 91 = .ok (.istore_n 3, 1) := by decide +kernel
theorem dX6_holds_92 : decode cX6_holds 92 = .ok (.iconst 0, 1) := by decide +kernel
theorem dX6_holds_93 : decode cX6_holds 93 = .ok (.istore 4, 2) := by decide +kernel
theorem dX6_holds_95 : decode cX6_holds 95 = .ok (.iload 4, 2) := by decide +kernel
theorem dX6_holds_97 : decode cX6_holds 97 = .ok (.bipush 100, 2) := by decide +kernel
theorem dX6_holds_99 : decode cX6_holds 99 = .ok (.if_icmp .ge 47, 3) := by decide +kernel
theorem dX6_holds_102 : decode cX6_holds 102 = .ok (.iload_n 2, 1) := by decide +kernel
theorem dX6_holds_103 : decode cX6_holds 103 = .ok (.iconst (-1), 1) := by decide +kernel
theorem dX6_holds_104 : decode cX6_holds 104 = .ok (.if_icmp .ne 42, 3) := by decide +kernel
theorem dX6_holds_107 : decode cX6_holds 107 = .ok (.aload_n 0, 1) := by decide +kernel
theorem dX6_holds_108 : decode cX6_holds 108 = .ok (.bipush 10, 2) := by decide +kernel
theorem dX6_holds_110 : decode cX6_holds 110 = .ok (.iload 4, 2) := by decide +kernel
theorem dX6_holds_112 : decode cX6_holds 112 = .ok (.imul, 1) := by decide +kernel
theorem dX6_holds_113 : decode cX6_holds 113 = .ok (.putfield 35, 3) := by decide +kernel
theorem dX6_holds_116 : decode cX6_holds 116 = .ok (.aload_n 0, 1) := by decide +kernel
theorem dX6_holds_117 : decode cX6_holds 117 = .ok (.aload_n 0, 1) := by decide +kernel
theorem dX6_holds_118 : decode cX6_holds 118 = .ok (.getfield 105, 3) := by decide +kernel
theorem dX6_holds_121 : decode cX6_holds 121 = .ok (.invokevirtual 396, 3) := by decide +kernel
theorem dX6_holds_124 : decode cX6_holds 124 = .ok (.aload_n 0, 1) := by decide +kernel
theorem dX6_holds_125 : decode cX6_holds 125 = .ok (.invokevirtual 408, 3) := by decide +kernel
theorem dX6_holds_128 : decode cX6_holds 128 = .ok (.ifCond .eq 7, 3) := by decide +kernel
theorem dX6_holds_131 : decode cX6_holds 131 = .ok (.iconst (-1), 1) := by decide +kernel
theorem dX6_holds_132 : decode cX6_holds 132 = .ok (.goto 7, 3) := by decide +kernel
theorem dX6_holds_135 : decode cX6_holds 135 = .ok (.aload_n 0, 1) := by decide +kernel
theorem dX6_holds_136 : decode cX6_holds 136 = .ok (.getfield 35, 3) := by decide +kernel
theorem dX6_holds_139 : decode cX6_holds 139 = .ok (.istore_n 2, 1) := by decide +kernel
theorem dX6_holds_140 : decode cX6_holds 140 = .ok (.iinc 4 1, 3) := by decide +kernel
theorem dX6_holds_143 : decode cX6_holds 143 = .ok (.goto (-48), 3) := by decide +kernel
theorem dX6_holds_146 : decode cX6_holds 146 = .ok (.aload_n 0, 1) := by decide +kernel
theorem dX6_holds_147 : decode cX6_holds 147 = .ok (.iload_n 3, 1) := by decide +kernel
theorem dX6_holds_148 : decode cX6_holds 148 = .ok (.putfield 35, 3) := by decide +kernel
theorem dX6_holds_151 : decode cX6_holds 151 = .ok (.iload_n 2, 1) := by decide +kernel
theorem dX6_holds_152 : decode cX6_holds 152 = .ok (.ireturn, 1) := by decide +kernel
theorem dX6_who_0 : decode cX6_who 0 = .ok (.iload_n 1, 1) := by decide +kernel
theorem dX6_who_1 : decode cX6_who 1 = .ok (.invokestatic 442, 3) := by decide +kernel
theorem dX6_who_4 : decode cX6_who 4 = .ok (.ifCond .eq 15, 3) := by decide +kernel
theorem dX6_who_7 : decode cX6_who 7 = .ok (.iload_n 2, 1) := by decide +kernel
theorem dX6_who_8 : decode cX6_who 8 = .ok (.i2l, 1) := by decide +kernel
theorem dX6_who_9 : decode cX6_who 9 = .ok (.lconst 0, 1) := by decide +kernel
theorem dX6_who_10 : decode cX6_who 10 = .ok (.ldc2_w 122, 3) := by decide +kernel
theorem dX6_who_13 : decode cX6_who 13 = .ok (.invokestatic 97, 3) := by decide +kernel
theorem dX6_who_16 : decode cX6_who 16 = .ok (.ifCond .ne 6, 3) := by decide +kernel
theorem dX6_who_19 : decode cX6_who 19 = .ok (.bipush (-2), 2) := by decide +kernel
theorem dX6_who_21 : decode cX6_who 21 = .ok (.ireturn, 1) := by decide +kernel
theorem dX6_who_22 : decode cX6_who 22 = .ok (.aload_n 0, 1) := by decide +kernel
theorem dX6_who_23 : decode cX6_who 23 = .ok (.getfield 74, 3) := by decide +kernel
theorem dX6_who_26 : decode cX6_who 26 = .ok (.iload_n 1, 1) := by decide +kernel
theorem dX6_who_27 : decode cX6_who 27 = .ok (.baload, 1) := by decide +kernel
theorem dX6_who_28 : decode cX6_who 28 = .ok (.ifCond .ne 6, 3) := by decide +kernel
theorem dX6_who_31 : decode cX6_who 31 = .ok (.bipush (-11), 2) := by decide +kernel
theorem dX6_who_33 : decode cX6_who 33 = .ok (.ireturn, 1) := by decide +kernel
theorem dX6_who_34 : decode cX6_who 34 = .ok (.aload_n 0, 1) := by decide +kernel
theorem dX6_who_35 : decode cX6_who 35 = .ok (.getfield 105, 3) := by decide +kernel
theorem dX6_who_38 : decode cX6_who 38 = .ok (.istore_n 3, 1) := by decide +kernel
theorem dX6_who_39 : decode cX6_who 39 = .ok (.iconst 0, 1) := by decide +kernel
theorem dX6_who_40 : decode cX6_who 40 = .ok (.istore 4, 2) := by decide +kernel
theorem dX6_who_42 : decode cX6_who 42 = .ok (.iload 4, 2) := by decide +kernel
theorem dX6_who_44 : decode cX6_who 44 = .ok (.aload_n 0, 1) := by decide +kernel
theorem dX6_who_45 : decode cX6_who 45 = .ok (.getfield 81, 3) := by decide +kernel
theorem dX6_who_48 : decode cX6_who 48 = .ok (.iload_n 1, 1) := by decide +kernel
theorem dX6_who_49 : decode cX6_who 49 = .ok (.iaload, 1) := by decide +kernel
theorem dX6_who_50 : decode cX6_who 50 = .ok (.if_icmp .ge 53, 3) := by decide +kernel
theorem dX6_who_53 : decode cX6_who 53 = .ok (.aload_n 0, 1) := by decide +kernel
theorem dX6_who_54 : decode cX6_who 54 = .ok (.getfield 84, 3) := by decide +kernel
theorem dX6_who_57 : decode cX6_who 57 = .ok (.bipush 40, 2) := by decide +kernel
theorem dX6_who_59 : decode cX6_who 59 = .ok (.iload_n 1, 1) := by decide +kernel
theorem dX6_who_60 : decode cX6_who 60 = .ok (.imul, 1) := by decide +kernel
theorem dX6_who_61 : decode cX6_who 61 = .ok (.iload 4, 2) := by decide +kernel
theorem dX6_who_63 : decode cX6_who 63 = .ok (.iadd, 1) := by decide +kernel
theorem dX6_who_64 : decode cX6_who 64 = .ok (.iaload, 1) := by decide +kernel
theorem dX6_who_65 : decode cX6_who 65 = .ok (.istore 5, 2) := by decide +kernel
theorem dX6_who_67 : decode cX6_who 67 = .ok (.aload_n 0, 1) := by decide +kernel
theorem dX6_who_68 : decode cX6_who 68 = .ok (.iload 5, 2) := by decide +kernel
theorem dX6_who_70 : decode cX6_who 70 = .ok (.invokevirtual 101, 3) := by decide +kernel
theorem dX6_who_73 : decode cX6_who 73 = .ok (.ifCond .eq 12, 3) := by decide +kernel
theorem dX6_who_76 : decode cX6_who 76 = .ok (.iload_n 3, 1) := by decide +kernel
theorem dX6_who_77 : decode cX6_who 77 = .ok (.iload 5, 2) := by decide +kernel
theorem dX6_who_79 : decode cX6_who 79 = .ok (.ishr, 1) := by decide +kernel
theorem dX6_who_80 : decode cX6_who 80 = .ok (.iconst 1, 1) := by decide +kernel
theorem dX6_who_81 : decode cX6_who 81 = .ok (.iand, 1) := by decide +kernel
theorem dX6_who_82 : decode cX6_who 82 = .ok (.ifCond .ne 6, 3) := by decide +kernel
theorem dX6_who_85 : decode cX6_who 85 = .ok (.bipush (-2), 2) := by decide +kernel
theorem dX6_who_87 : decode cX6_who 87 = .ok (.ireturn, 1) := by decide +kernel
theorem dX6_who_88 : decode cX6_who 88 = .ok (.iload_n 3, 1) := by decide +kernel
theorem dX6_who_89 : decode cX6_who 89 = .ok (.iconst 1, 1) := by decide +kernel
theorem dX6_who_90 : decode cX6_who 90 = .ok (.iload 5, 2) := by decide +kernel
theorem dX6_who_92 : decode cX6_who 92 = .ok (.ishl, 1) := by decide +kernel
theorem dX6_who_93 : decode cX6_who 93 = .ok (.iconst (-1), 1) := by decide +kernel
theorem dX6_who_94 : decode cX6_who 94 = .ok (.ixor, 1) := by decide +kernel
theorem dX6_who_95 : decode cX6_who 95 = .ok (.iand, 1) := by decide +kernel
theorem dX6_who_96 : decode cX6_who 96 = .ok (.istore_n 3, 1) := by decide +kernel
theorem dX6_who_97 : decode cX6_who 97 = .ok (.iinc 4 1, 3) := by decide +kernel
theorem dX6_who_100 : decode cX6_who 100 = .ok (.goto (-58), 3) := by decide +kernel
theorem dX6_who_103 : decode cX6_who 103 = .ok (.aload_n 0, 1) := by decide +kernel
theorem dX6_who_104 : decode cX6_who 104 = .ok (.getfield 81, 3) := by decide +kernel
theorem dX6_who_107 : decode cX6_who 107 = .ok (.iload_n 1, 1) := by decide +kernel
theorem dX6_who_108 : decode cX6_who 108 = .ok (.iaload, 1) := by decide +kernel
theorem dX6_who_109 : decode cX6_who 109 = .ok (.ifCond .ne 6, 3) := by decide +kernel
theorem dX6_who_112 : decode cX6_who 112 = .ok (.bipush (-2), 2) := by decide +kernel
theorem dX6_who_114 : decode cX6_who 114 = .ok (.ireturn, 1) := by decide +kernel
theorem dX6_who_115 : decode cX6_who 115 = .ok (.aload_n 0, 1) := by decide +kernel
theorem dX6_who_116 : decode cX6_who 116 = .ok (.getfield 105, 3) := by decide +kernel
theorem dX6_who_119 : decode cX6_who 119 = .ok (.istore 4, 2) := by decide +kernel
theorem dX6_who_121 : decode cX6_who 121 = .ok (.aload_n 0, 1) := by decide +kernel
theorem dX6_who_122 : decode cX6_who 122 = .ok (.getfield 128, 3) := by decide +kernel
theorem dX6_who_125 : decode cX6_who 125 = .ok (.istore 5, 2) := by decide +kernel
theorem dX6_who_127 : decode cX6_who 127 = .ok (.iconst 0, 1) := by decide +kernel
theorem dX6_who_128 : decode cX6_who 128 = .ok (.istore 6, 2) := by decide +kernel
theorem dX6_who_130 : decode cX6_who 130 = .ok (.iconst (-1), 1) := by decide +kernel
theorem dX6_who_131 : decode cX6_who 131 = .ok (.istore 7, 2) := by decide +kernel
theorem dX6_who_133 : decode cX6_who 133 = .ok (.iconst (-1), 1) := by decide +kernel
theorem dX6_who_134 : decode cX6_who 134 = .ok (.istore 8, 2) := by decide +kernel
theorem dX6_who_136 : decode cX6_who 136 = .ok (.iconst 0, 1) := by decide +kernel
theorem dX6_who_137 : decode cX6_who 137 = .ok (.istore 9, 2) := by decide +kernel
theorem dX6_who_139 : decode cX6_who 139 = .ok (.iload 9, 2) := by decide +kernel
theorem dX6_who_141 : decode cX6_who 141 = .ok (.aload_n 0, 1) := by decide +kernel
theorem dX6_who_142 : decode cX6_who 142 = .ok (.getfield 81, 3) := by decide +kernel
theorem dX6_who_145 : decode cX6_who 145 = .ok (.iload_n 1, 1) := by decide +kernel
theorem dX6_who_146 : decode cX6_who 146 = .ok (.iaload, 1) := by decide +kernel
theorem dX6_who_147 : decode cX6_who 147 = .ok (.if_icmp .ge 140, 3) := by decide +kernel
theorem dX6_who_150 : decode cX6_who 150 = .ok (.aload_n 0, 1) := by decide +kernel
theorem dX6_who_151 : decode cX6_who 151 = .ok (.getfield 84, 3) := by decide +kernel
theorem dX6_who_154 : decode cX6_who 154 = .ok (.bipush 40, 2) := by decide +kernel
theorem dX6_who_156 : decode cX6_who 156 = .ok (.iload_n 1, 1) := by decide +kernel
theorem dX6_who_157 : decode cX6_who 157 = .ok (.imul, 1) := by decide +kernel
theorem dX6_who_158 : decode cX6_who 158 = .ok (.iload 9, 2) := by decide +kernel
theorem dX6_who_160 : decode cX6_who 160 = .ok (.iadd, 1) := by decide +kernel
theorem dX6_who_161 : decode cX6_who 161 = .ok (.iaload, 1) := by decide +kernel
theorem dX6_who_162 : decode cX6_who 162 = .ok (.istore 10, 2) := by decide +kernel
theorem dX6_who_164 : decode cX6_who 164 = .ok (.aload_n 0, 1) := by decide +kernel
theorem dX6_who_165 : decode cX6_who 165 = .ok (.aload_n 0, 1) := by decide +kernel
theorem dX6_who_166 : decode cX6_who 166 = .ok (.getfield 105, 3) := by decide +kernel
theorem dX6_who_169 : decode cX6_who 169 = .ok (.invokevirtual 396, 3) := by decide +kernel
theorem dX6_who_172 : decode cX6_who 172 = .ok (.iconst 0, 1) := by decide +kernel
theorem dX6_who_173 : decode cX6_who 173 = .ok (.istore 6, 2) := by decide +kernel
theorem dX6_who_175 : decode cX6_who 175 = .ok (.iconst (-1), 1) := by decide +kernel
theorem dX6_who_176 : decode cX6_who 176 = .ok (.istore 7, 2) := by decide +kernel
theorem dX6_who_178 : decode cX6_who 178 = .ok (.iconst 1, 1) := by decide +kernel
theorem dX6_who_179 : decode cX6_who 179 = .ok (.istore 11, 2) := by decide +kernel
theorem dX6_who_181 : decode cX6_who 181 = .ok (.iload 11, 2) := by decide +kernel
theorem dX6_who_183 : decode cX6_who 183 = .ok (.iconst 1, 1) := by decide +kernel
theorem dX6_who_184 : decode cX6_who 184 = .ok (.aload_n 0, 1) := by decide +kernel
theorem dX6_who_185 : decode cX6_who 185 = .ok (.getfield 94, 3) := by decide +kernel
theorem dX6_who_188 : decode cX6_who 188 = .ok (.ishl, 1) := by decide +kernel
theorem dX6_who_189 : decode cX6_who 189 = .ok (.if_icmp .ge 53, 3) := by decide +kernel
theorem dX6_who_192 : decode cX6_who 192 = .ok (.aload_n 0, 1) := by decide +kernel
theorem dX6_who_193 : decode cX6_who 193 = .ok (.iload 11, 2) := by decide +kernel
theorem dX6_who_195 : decode cX6_who 195 = .ok (.iload 10, 2) := by decide +kernel
theorem dX6_who_197 : decode cX6_who 197 = .ok (.aload_n 0, 1) := by decide +kernel
theorem dX6_who_198 : decode cX6_who 198 = .ok (.getfield 105, 3) := by decide +kernel
theorem dX6_who_201 : decode cX6_who 201 = .ok (.invokevirtual 386, 3) := by decide +kernel
theorem dX6_who_204 : decode cX6_who 204 = .ok (.ifCond .eq 32, 3) := by decide +kernel
theorem dX6_who_207 : decode cX6_who 207 = .ok (.aload_n 0, 1) := by decide +kernel
theorem dX6_who_208 : decode cX6_who 208 = .ok (.iload 11, 2) := by decide +kernel
theorem dX6_who_210 : decode cX6_who 210 = .ok (.iload 10, 2) := by decide +kernel
theorem dX6_who_212 : decode cX6_who 212 = .ok (.invokevirtual 390, 3) := by decide +kernel
theorem dX6_who_215 : decode cX6_who 215 = .ok (.ifCond .eq 21, 3) := by decide +kernel
theorem dX6_who_218 : decode cX6_who 218 = .ok (.iinc 6 1, 3) := by decide +kernel
theorem dX6_who_221 : decode cX6_who 221 = .ok (.iload 7, 2) := by decide +kernel
theorem dX6_who_223 : decode cX6_who 223 = .ok (.iconst (-1), 1) := by decide +kernel
theorem dX6_who_224 : decode cX6_who 224 = .ok (.if_icmp .ne 8, 3) := by decide +kernel
theorem dX6_who_227 : decode cX6_who 227 = .ok (.iload 11, 2) := by decide +kernel
theorem dX6_who_229 : decode cX6_who 229 = .ok (.goto 5, 3) := by decide +kernel
theorem dX6_who_232 : decode cX6_who 232 = .ok (.iload 7, 2) := by decide +kernel
theorem dX6_who_234 : decode cX6_who 234 = .ok (.istore 7, 2) := by decide +kernel
theorem dX6_who_236 : decode cX6_who 236 = .ok (.iinc 11 1, 3) := by decide +kernel
theorem dX6_who_239 : decode cX6_who 239 = .ok (.goto (-58), 3) := by decide +kernel
theorem dX6_who_242 : decode cX6_who 242 = .ok (.iload 6, 2) := by decide +kernel
theorem dX6_who_244 : decode cX6_who 244 = .ok (.ifCond .ne 14, 3) := by decide +kernel
theorem dX6_who_247 : decode cX6_who 247 = .ok (.iload 8, 2) := by decide +kernel
theorem dX6_who_249 : decode cX6_who 249 = .ok (.iconst (-1), 1) := by decide +kernel
theorem dX6_who_250 : decode cX6_who 250 = .ok (.if_icmp .ne 8, 3) := by decide +kernel
theorem dX6_who_253 : decode cX6_who 253 = .ok (.iload 9, 2) := by decide +kernel
theorem dX6_who_255 : decode cX6_who 255 = .ok (.goto 5, 3) := by decide +kernel
theorem dX6_who_258 : decode cX6_who 258 = .ok (.iload 8, 2) := by decide +kernel
theorem dX6_who_260 : decode cX6_who 260 = .ok (.istore 8, 2) := by decide +kernel
theorem dX6_who_262 : decode cX6_who 262 = .ok (.aload_n 0, 1) := by decide +kernel
theorem dX6_who_263 : decode cX6_who 263 = .ok (.dup, 1) := by decide +kernel
theorem dX6_who_264 : decode cX6_who 264 = .ok (.getfield 105, 3) := by decide +kernel
theorem dX6_who_267 : decode cX6_who 267 = .ok (.iconst 1, 1) := by decide +kernel
theorem dX6_who_268 : decode cX6_who 268 = .ok (.iload 10, 2) := by decide +kernel
theorem dX6_who_270 : decode cX6_who 270 = .ok (.ishl, 1) := by decide +kernel
theorem dX6_who_271 : decode cX6_who 271 = .ok (.iconst (-1), 1) := by decide +kernel
theorem dX6_who_272 : decode cX6_who 272 = .ok (.ixor, 1) := by decide +kernel
theorem dX6_who_273 : decode cX6_who 273 = .ok (.iand, 1) := by decide +kernel
theorem dX6_who_274 : decode cX6_who 274 = .ok (.putfield 105, 3) := by decide +kernel
theorem dX6_who_277 : decode cX6_who 277 = .ok (.aload_n 0, 1) := by decide +kernel
theorem dX6_who_278 : decode cX6_who 278 = .ok (.invokevirtual 403, 3) := by decide +kernel
theorem dX6_who_281 : decode cX6_who 281 = .ok (.iinc 9 1, 3) := by decide +kernel
theorem dX6_who_284 : decode cX6_who 284 = .ok (.goto (-145), 3) := by decide +kernel
theorem dX6_who_287 : decode cX6_who 287 = .ok (.aload_n 0, 1) := by decide +kernel
theorem dX6_who_288 : decode cX6_who 288 = .ok (.iload 4, 2) := by decide +kernel
theorem dX6_who_290 : decode cX6_who 290 = .ok (.putfield 105, 3) := by decide +kernel
theorem dX6_who_293 : decode cX6_who 293 = .ok (.aload_n 0, 1) := by decide +kernel
theorem dX6_who_294 : decode cX6_who 294 = .ok (.iload 5, 2) := by decide +kernel
theorem dX6_who_296 : decode cX6_who 296 = .ok (.putfield 128, 3) := by decide +kernel
theorem dX6_who_299 : decode cX6_who 299 = .ok (.iload_n 2, 1) := by decide +kernel
theorem dX6_who_300 : decode cX6_who 300 = .ok (.ifCond .ne 8, 3) := by decide +kernel
theorem dX6_who_303 : decode cX6_who 303 = .ok (.iload 6, 2) := by decide +kernel
theorem dX6_who_305 : decode cX6_who 305 = .ok (.goto 15, 3) := by decide +kernel
theorem dX6_who_308 : decode cX6_who 308 = .ok (.iload_n 2, 1) := by decide +kernel
theorem dX6_who_309 : decode cX6_who 309 = .ok (.iconst 1, 1) := by decide +kernel
theorem dX6_who_310 : decode cX6_who 310 = .ok (.if_icmp .ne 8, 3) := by decide +kernel
theorem dX6_who_313 : decode cX6_who 313 = .ok (.iload 7, 2) := by decide +kernel
theorem dX6_who_315 : decode cX6_who 315 = .ok (.goto 5, 3) := by decide +kernel
theorem dX6_who_318 : decode cX6_who 318 = .ok (.iload 8, 2) := by decide +kernel
theorem dX6_who_320 : decode cX6_who 320 = .ok (.ireturn, 1) := by decide +kernel
theorem dX6_draws_0 : decode cX6_draws 0 = .ok (.aload_n 0, 1) := by decide +kernel
theorem dX6_draws_1 : decode cX6_draws 1 = .ok (.getfield 105, 3) := by decide +kernel
theorem dX6_draws_4 : decode cX6_draws 4 = .ok (.istore_n 3, 1) := by decide +kernel
theorem dX6_draws_5 : decode cX6_draws 5 = .ok (.aload_n 0, 1) := by decide +kernel
theorem dX6_draws_6 : decode cX6_draws 6 = .ok (.getfield 128, 3) := by decide +kernel
theorem dX6_draws_9 : decode cX6_draws 9 = .ok (.istore 4, 2) := by decide +kernel
theorem dX6_draws_11 : decode cX6_draws 11 = .ok (.iload_n 1, 1) := by decide +kernel
theorem dX6_draws_12 : decode cX6_draws 12 = .ok (.istore 5, 2) := by decide +kernel
theorem dX6_draws_14 : decode cX6_draws 14 = .ok (.iconst 0, 1) := by decide +kernel
theorem dX6_draws_15 : decode cX6_draws 15 = .ok (.istore 6, 2) := by decide +kernel
theorem dX6_draws_17 : decode cX6_draws 17 = .ok (.iload 6, 2) := by decide +kernel
theorem dX6_draws_19 : decode cX6_draws 19 = .ok (.iload_n 2, 1) := by decide +kernel
theorem dX6_draws_20 : decode cX6_draws 20 = .ok (.if_icmp .ge 101, 3) := by decide +kernel
theorem dX6_draws_23 : decode cX6_draws 23 = .ok (.iload 5, 2) := by decide +kernel
theorem dX6_draws_25 : decode cX6_draws 25 = .ok (.ldc_w 445, 3) := by decide +kernel
theorem dX6_draws_28 : decode cX6_draws 28 = .ok (.imul, 1) := by decide +kernel
theorem dX6_draws_29 : decode cX6_draws 29 = .ok (.sipush 12345, 3) := by decide +kernel
theorem dX6_draws_32 : decode cX6_draws 32 = .ok (.iadd, 1) := by decide +kernel
theorem dX6_draws_33 : decode cX6_draws 33 = .ok (.istore 5, 2) := by decide +kernel
theorem dX6_draws_35 : decode cX6_draws 35 = .ok (.iconst 0, 1) := by decide +kernel
theorem dX6_draws_36 : decode cX6_draws 36 = .ok (.istore 7, 2) := by decide +kernel
theorem dX6_draws_38 : decode cX6_draws 38 = .ok (.iconst 1, 1) := by decide +kernel
theorem dX6_draws_39 : decode cX6_draws 39 = .ok (.istore 8, 2) := by decide +kernel
theorem dX6_draws_41 : decode cX6_draws 41 = .ok (.iload 8, 2) := by decide +kernel
theorem dX6_draws_43 : decode cX6_draws 43 = .ok (.iconst 1, 1) := by decide +kernel
theorem dX6_draws_44 : decode cX6_draws 44 = .ok (.aload_n 0, 1) := by decide +kernel
theorem dX6_draws_45 : decode cX6_draws 45 = .ok (.getfield 94, 3) := by decide +kernel
theorem dX6_draws_48 : decode cX6_draws 48 = .ok (.ishl, 1) := by decide +kernel
theorem dX6_draws_49 : decode cX6_draws 49 = .ok (.if_icmp .ge 45, 3) := by decide +kernel
theorem dX6_draws_52 : decode cX6_draws 52 = .ok (.iload 7, 2) := by decide +kernel
theorem dX6_draws_54 : decode cX6_draws 54 = .ok (.iload 8, 2) := by decide +kernel
theorem dX6_draws_56 : decode cX6_draws 56 = .ok (.aload_n 0, 1) := by decide +kernel
theorem dX6_draws_57 : decode cX6_draws 57 = .ok (.getfield 105, 3) := by decide +kernel
theorem dX6_draws_60 : decode cX6_draws 60 = .ok (.iconst (-1), 1) := by decide +kernel
theorem dX6_draws_61 : decode cX6_draws 61 = .ok (.ixor, 1) := by decide +kernel
theorem dX6_draws_62 : decode cX6_draws 62 = .ok (.iand, 1) := by decide +kernel
theorem dX6_draws_63 : decode cX6_draws 63 = .ok (.ifCond .ne 21, 3) := by decide +kernel
theorem dX6_draws_66 : decode cX6_draws 66 = .ok (.iload 8, 2) := by decide +kernel
theorem dX6_draws_68 : decode cX6_draws 68 = .ok (.invokestatic 348, 3) := by decide +kernel
theorem dX6_draws_71 : decode cX6_draws 71 = .ok (.aload_n 0, 1) := by decide +kernel
theorem dX6_draws_72 : decode cX6_draws 72 = .ok (.getfield 38, 3) := by decide +kernel
theorem dX6_draws_75 : decode cX6_draws 75 = .ok (.iconst 1, 1) := by decide +kernel
theorem dX6_draws_76 : decode cX6_draws 76 = .ok (.iadd, 1) := by decide +kernel
theorem dX6_draws_77 : decode cX6_draws 77 = .ok (.if_icmp .ne 7, 3) := by decide +kernel
theorem dX6_draws_80 : decode cX6_draws 80 = .ok (.iconst 1, 1) := by decide +kernel
theorem dX6_draws_81 : decode cX6_draws 81 = .ok (.goto 4, 3) := by decide +kernel
theorem dX6_draws_84 : decode cX6_draws 84 = .ok (.iconst 0, 1) := by decide +kernel
theorem dX6_draws_85 : decode cX6_draws 85 = .ok (.iadd, 1) := by decide +kernel
theorem dX6_draws_86 : decode cX6_draws 86 = .ok (.istore 7, 2) := by decide +kernel
theorem dX6_draws_88 : decode cX6_draws 88 = .ok (.iinc 8 1, 3) := by decide +kernel
theorem dX6_draws_91 : decode cX6_draws 91 = .ok (.goto (-50), 3) := by decide +kernel
theorem dX6_draws_94 : decode cX6_draws 94 = .ok (.iload 7, 2) := by decide +kernel
theorem dX6_draws_96 : decode cX6_draws 96 = .ok (.ifCond .le 15, 3) := by decide +kernel
theorem dX6_draws_99 : decode cX6_draws 99 = .ok (.aload_n 0, 1) := by decide +kernel
theorem dX6_draws_100 : decode cX6_draws 100 = .ok (.iload 5, 2) := by decide +kernel
theorem dX6_draws_102 : decode cX6_draws 102 = .ok (.bipush 9, 2) := by decide +kernel
theorem dX6_draws_104 : decode cX6_draws 104 = .ok (.iushr, 1) := by decide +kernel
theorem dX6_draws_105 : decode cX6_draws 105 = .ok (.iload 7, 2) := by decide +kernel
theorem dX6_draws_107 : decode cX6_draws 107 = .ok (.irem, 1) := by decide +kernel
theorem dX6_draws_108 : decode cX6_draws 108 = .ok (.invokevirtual 446, 3) := by decide +kernel
theorem dX6_draws_111 : decode cX6_draws 111 = .ok (.aload_n 0, 1) := by decide +kernel
theorem dX6_draws_112 : decode cX6_draws 112 = .ok (.invokevirtual 403, 3) := by decide +kernel
theorem dX6_draws_115 : decode cX6_draws 115 = .ok (.iinc 6 1, 3) := by decide +kernel
theorem dX6_draws_118 : decode cX6_draws 118 = .ok (.goto (-101), 3) := by decide +kernel
theorem dX6_draws_121 : decode cX6_draws 121 = .ok (.aload_n 0, 1) := by decide +kernel
theorem dX6_draws_122 : decode cX6_draws 122 = .ok (.getfield 105, 3) := by decide +kernel
theorem dX6_draws_125 : decode cX6_draws 125 = .ok (.istore 6, 2) := by decide +kernel
theorem dX6_draws_127 : decode cX6_draws 127 = .ok (.aload_n 0, 1) := by decide +kernel
theorem dX6_draws_128 : decode cX6_draws 128 = .ok (.iload_n 3, 1) := by decide +kernel
theorem dX6_draws_129 : decode cX6_draws 129 = .ok (.putfield 105, 3) := by decide +kernel
theorem dX6_draws_132 : decode cX6_draws 132 = .ok (.aload_n 0, 1) := by decide +kernel
theorem dX6_draws_133 : decode cX6_draws 133 = .ok (.iload 4, 2) := by decide +kernel
theorem dX6_draws_135 : decode cX6_draws 135 = .ok (.putfield 128, 3) := by decide +kernel
theorem dX6_draws_138 : decode cX6_draws 138 = .ok (.iload 6, 2) := by decide +kernel
theorem dX6_draws_140 : decode cX6_draws 140 = .ok (.ireturn, 1) := by decide +kernel
theorem dX6_meets_0 : decode cX6_meets 0 = .ok (.iconst 0, 1) := by decide +kernel
theorem dX6_meets_1 : decode cX6_meets 1 = .ok (.istore_n 2, 1) := by decide +kernel
theorem dX6_meets_2 : decode cX6_meets 2 = .ok (.iload_n 1, 1) := by decide +kernel
theorem dX6_meets_3 : decode cX6_meets 3 = .ok (.istore_n 3, 1) := by decide +kernel
theorem dX6_meets_4 : decode cX6_meets 4 = .ok (.iconst 1, 1) := by decide +kernel
theorem dX6_meets_5 : decode cX6_meets 5 = .ok (.istore 4, 2) := by decide +kernel
theorem dX6_meets_7 : decode cX6_meets 7 = .ok (.iload 4, 2) := by decide +kernel
theorem dX6_meets_9 : decode cX6_meets 9 = .ok (.iconst 1, 1) := by decide +kernel
theorem dX6_meets_10 : decode cX6_meets 10 = .ok (.aload_n 0, 1) := by decide +kernel
theorem dX6_meets_11 : decode cX6_meets 11 = .ok (.getfield 94, 3) := by decide +kernel
theorem dX6_meets_14 : decode cX6_meets 14 = .ok (.ishl, 1) := by decide +kernel
theorem dX6_meets_15 : decode cX6_meets 15 = .ok (.if_icmp .ge 45, 3) := by decide +kernel
theorem dX6_meets_18 : decode cX6_meets 18 = .ok (.iload_n 3, 1) := by decide +kernel
theorem dX6_meets_19 : decode cX6_meets 19 = .ok (.ifCond .lt 41, 3) := by decide +kernel
theorem dX6_meets_22 : decode cX6_meets 22 = .ok (.iload 4, 2) := by decide +kernel
theorem dX6_meets_24 : decode cX6_meets 24 = .ok (.aload_n 0, 1) := by decide +kernel
theorem dX6_meets_25 : decode cX6_meets 25 = .ok (.getfield 105, 3) := by decide +kernel
theorem dX6_meets_28 : decode cX6_meets 28 = .ok (.iconst (-1), 1) := by decide +kernel
theorem dX6_meets_29 : decode cX6_meets 29 = .ok (.ixor, 1) := by decide +kernel
theorem dX6_meets_30 : decode cX6_meets 30 = .ok (.iand, 1) := by decide +kernel
theorem dX6_meets_31 : decode cX6_meets 31 = .ok (.ifCond .ne 23, 3) := by decide +kernel
theorem dX6_meets_34 : decode cX6_meets 34 = .ok (.iload 4, 2) := by decide +kernel
theorem dX6_meets_36 : decode cX6_meets 36 = .ok (.invokestatic 348, 3) := by decide +kernel
theorem dX6_meets_39 : decode cX6_meets 39 = .ok (.aload_n 0, 1) := by decide +kernel
theorem dX6_meets_40 : decode cX6_meets 40 = .ok (.getfield 38, 3) := by decide +kernel
theorem dX6_meets_43 : decode cX6_meets 43 = .ok (.iconst 1, 1) := by decide +kernel
theorem dX6_meets_44 : decode cX6_meets 44 = .ok (.iadd, 1) := by decide +kernel
theorem dX6_meets_45 : decode cX6_meets 45 = .ok (.if_icmp .ne 9, 3) := by decide +kernel
theorem dX6_meets_48 : decode cX6_meets 48 = .ok (.iload 4, 2) := by decide +kernel
theorem dX6_meets_50 : decode cX6_meets 50 = .ok (.istore_n 2, 1) := by decide +kernel
theorem dX6_meets_51 : decode cX6_meets 51 = .ok (.iinc 3 (-1), 3) := by decide +kernel
theorem dX6_meets_54 : decode cX6_meets 54 = .ok (.iinc 4 1, 3) := by decide +kernel
theorem dX6_meets_57 : decode cX6_meets 57 = .ok (.goto (-50), 3) := by decide +kernel
theorem dX6_meets_60 : decode cX6_meets 60 = .ok (.aload_n 0, 1) := by decide +kernel
theorem dX6_meets_61 : decode cX6_meets 61 = .ok (.aload_n 0, 1) := by decide +kernel
theorem dX6_meets_62 : decode cX6_meets 62 = .ok (.getfield 105, 3) := by decide +kernel
theorem dX6_meets_65 : decode cX6_meets 65 = .ok (.invokevirtual 396, 3) := by decide +kernel
theorem dX6_meets_68 : decode cX6_meets 68 = .ok (.iconst 0, 1) := by decide +kernel
theorem dX6_meets_69 : decode cX6_meets 69 = .ok (.istore 4, 2) := by decide +kernel
theorem dX6_meets_71 : decode cX6_meets 71 = .ok (.iconst 1, 1) := by decide +kernel
theorem dX6_meets_72 : decode cX6_meets 72 = .ok (.istore 5, 2) := by decide +kernel
theorem dX6_meets_74 : decode cX6_meets 74 = .ok (.iload 5, 2) := by decide +kernel
theorem dX6_meets_76 : decode cX6_meets 76 = .ok (.iload_n 2, 1) := by decide +kernel
theorem dX6_meets_77 : decode cX6_meets 77 = .ok (.if_icmp .ge 87, 3) := by decide +kernel
theorem dX6_meets_80 : decode cX6_meets 80 = .ok (.iload 4, 2) := by decide +kernel
theorem dX6_meets_82 : decode cX6_meets 82 = .ok (.ifCond .ne 82, 3) := by decide +kernel
theorem dX6_meets_85 : decode cX6_meets 85 = .ok (.iload 5, 2) := by decide +kernel
theorem dX6_meets_87 : decode cX6_meets 87 = .ok (.iload_n 2, 1) := by decide +kernel
theorem dX6_meets_88 : decode cX6_meets 88 = .ok (.iconst (-1), 1) := by decide +kernel
theorem dX6_meets_89 : decode cX6_meets 89 = .ok (.ixor, 1) := by decide +kernel
theorem dX6_meets_90 : decode cX6_meets 90 = .ok (.iand, 1) := by decide +kernel
theorem dX6_meets_91 : decode cX6_meets 91 = .ok (.ifCond .ne 67, 3) := by decide +kernel
theorem dX6_meets_94 : decode cX6_meets 94 = .ok (.iload 5, 2) := by decide +kernel
theorem dX6_meets_96 : decode cX6_meets 96 = .ok (.invokestatic 348, 3) := by decide +kernel
theorem dX6_meets_99 : decode cX6_meets 99 = .ok (.aload_n 0, 1) := by decide +kernel
theorem dX6_meets_100 : decode cX6_meets 100 = .ok (.getfield 38, 3) := by decide +kernel
theorem dX6_meets_103 : decode cX6_meets 103 = .ok (.if_icmp .ne 55, 3) := by decide +kernel
theorem dX6_meets_106 : decode cX6_meets 106 = .ok (.iconst 0, 1) := by decide +kernel
theorem dX6_meets_107 : decode cX6_meets 107 = .ok (.istore 6, 2) := by decide +kernel
theorem dX6_meets_109 : decode cX6_meets 109 = .ok (.iload_n 2, 1) := by decide +kernel
theorem dX6_meets_110 : decode cX6_meets 110 = .ok (.iload 5, 2) := by decide +kernel
theorem dX6_meets_112 : decode cX6_meets 112 = .ok (.iconst (-1), 1) := by decide +kernel
theorem dX6_meets_113 : decode cX6_meets 113 = .ok (.ixor, 1) := by decide +kernel
theorem dX6_meets_114 : decode cX6_meets 114 = .ok (.iand, 1) := by decide +kernel
theorem dX6_meets_115 : decode cX6_meets 115 = .ok (.iload 6, 2) := by decide +kernel
theorem dX6_meets_117 : decode cX6_meets 117 = .ok (.ishr, 1) := by decide +kernel
theorem dX6_meets_118 : decode cX6_meets 118 = .ok (.iconst 1, 1) := by decide +kernel
theorem dX6_meets_119 : decode cX6_meets 119 = .ok (.if_icmp .eq 9, 3) := by decide +kernel
theorem dX6_meets_122 : decode cX6_meets 122 = .ok (.iinc 6 1, 3) := by decide +kernel
theorem dX6_meets_125 : decode cX6_meets 125 = .ok (.goto (-16), 3) := by decide +kernel
theorem dX6_meets_128 : decode cX6_meets 128 = .ok (.aload_n 0, 1) := by decide +kernel
theorem dX6_meets_129 : decode cX6_meets 129 = .ok (.iload 5, 2) := by decide +kernel
theorem dX6_meets_131 : decode cX6_meets 131 = .ok (.iload 6, 2) := by decide +kernel
theorem dX6_meets_133 : decode cX6_meets 133 = .ok (.invokevirtual 390, 3) := by decide +kernel
theorem dX6_meets_136 : decode cX6_meets 136 = .ok (.istore 4, 2) := by decide +kernel
theorem dX6_meets_138 : decode cX6_meets 138 = .ok (.iload 4, 2) := by decide +kernel
theorem dX6_meets_140 : decode cX6_meets 140 = .ok (.ifCond .eq 18, 3) := by decide +kernel
theorem dX6_meets_143 : decode cX6_meets 143 = .ok (.aload_n 0, 1) := by decide +kernel
theorem dX6_meets_144 : decode cX6_meets 144 = .ok (.dup, 1) := by decide +kernel
theorem dX6_meets_145 : decode cX6_meets 145 = .ok (.getfield 105, 3) := by decide +kernel
theorem dX6_meets_148 : decode cX6_meets 148 = .ok (.iconst 1, 1) := by decide +kernel
theorem dX6_meets_149 : decode cX6_meets 149 = .ok (.iload 6, 2) := by decide +kernel
theorem dX6_meets_151 : decode cX6_meets 151 = .ok (.ishl, 1) := by decide +kernel
theorem dX6_meets_152 : decode cX6_meets 152 = .ok (.iconst (-1), 1) := by decide +kernel
theorem dX6_meets_153 : decode cX6_meets 153 = .ok (.ixor, 1) := by decide +kernel
theorem dX6_meets_154 : decode cX6_meets 154 = .ok (.iand, 1) := by decide +kernel
theorem dX6_meets_155 : decode cX6_meets 155 = .ok (.putfield 105, 3) := by decide +kernel
theorem dX6_meets_158 : decode cX6_meets 158 = .ok (.iinc 5 1, 3) := by decide +kernel
theorem dX6_meets_161 : decode cX6_meets 161 = .ok (.goto (-87), 3) := by decide +kernel
theorem dX6_meets_164 : decode cX6_meets 164 = .ok (.return_, 1) := by decide +kernel
theorem dX6_drawn_0 : decode cX6_drawn 0 = .ok (.iload_n 2, 1) := by decide +kernel
theorem dX6_drawn_1 : decode cX6_drawn 1 = .ok (.i2l, 1) := by decide +kernel
theorem dX6_drawn_2 : decode cX6_drawn 2 = .ok (.lconst 0, 1) := by decide +kernel
theorem dX6_drawn_3 : decode cX6_drawn 3 = .ok (.ldc2_w 449, 3) := by decide +kernel
theorem dX6_drawn_6 : decode cX6_drawn 6 = .ok (.invokestatic 97, 3) := by decide +kernel
theorem dX6_drawn_9 : decode cX6_drawn 9 = .ok (.ifCond .eq 12, 3) := by decide +kernel
theorem dX6_drawn_12 : decode cX6_drawn 12 = .ok (.aload_n 0, 1) := by decide +kernel
theorem dX6_drawn_13 : decode cX6_drawn 13 = .ok (.iload_n 1, 1) := by decide +kernel
theorem dX6_drawn_14 : decode cX6_drawn 14 = .ok (.iload_n 2, 1) := by decide +kernel
theorem dX6_drawn_15 : decode cX6_drawn 15 = .ok (.invokevirtual 451, 3) := by decide +kernel
theorem dX6_drawn_18 : decode cX6_drawn 18 = .ok (.goto 5, 3) := by decide +kernel
theorem dX6_drawn_21 : decode cX6_drawn 21 = .ok (.bipush (-2), 2) := by decide +kernel
theorem dX6_drawn_23 : decode cX6_drawn 23 = .ok (.ireturn, 1) := by decide +kernel
theorem dX6_chance_0 : decode cX6_chance 0 = .ok (.iload_n 2, 1) := by decide +kernel
theorem dX6_chance_1 : decode cX6_chance 1 = .ok (.i2l, 1) := by decide +kernel
theorem dX6_chance_2 : decode cX6_chance 2 = .ok (.lconst 1, 1) := by decide +kernel
theorem dX6_chance_3 : decode cX6_chance 3 = .ok (.ldc2_w 167, 3) := by decide +kernel
theorem dX6_chance_6 : decode cX6_chance 6 = .ok (.invokestatic 97, 3) := by decide +kernel
theorem dX6_chance_9 : decode cX6_chance 9 = .ok (.ifCond .eq 35, 3) := by decide +kernel
theorem dX6_chance_12 : decode cX6_chance 12 = .ok (.iload_n 3, 1) := by decide +kernel
theorem dX6_chance_13 : decode cX6_chance 13 = .ok (.i2l, 1) := by decide +kernel
theorem dX6_chance_14 : decode cX6_chance 14 = .ok (.lconst 0, 1) := by decide +kernel
theorem dX6_chance_15 : decode cX6_chance 15 = .ok (.ldc2_w 449, 3) := by decide +kernel
theorem dX6_chance_18 : decode cX6_chance 18 = .ok (.invokestatic 97, 3) := by decide +kernel
theorem dX6_chance_21 : decode cX6_chance 21 = .ok (.ifCond .eq 23, 3) := by decide +kernel
theorem dX6_chance_24 : decode cX6_chance 24 = .ok (.aload_n 0, 1) := by decide +kernel
theorem dX6_chance_25 : decode cX6_chance 25 = .ok (.iload 4, 2) := by decide +kernel
theorem dX6_chance_27 : decode cX6_chance 27 = .ok (.invokevirtual 101, 3) := by decide +kernel
theorem dX6_chance_30 : decode cX6_chance 30 = .ok (.ifCond .eq 14, 3) := by decide +kernel
theorem dX6_chance_33 : decode cX6_chance 33 = .ok (.iload 5, 2) := by decide +kernel
theorem dX6_chance_35 : decode cX6_chance 35 = .ok (.i2l, 1) := by decide +kernel
theorem dX6_chance_36 : decode cX6_chance 36 = .ok (.lconst 0, 1) := by decide +kernel
theorem dX6_chance_37 : decode cX6_chance 37 = .ok (.lconst 1, 1) := by decide +kernel
theorem dX6_chance_38 : decode cX6_chance 38 = .ok (.invokestatic 97, 3) := by decide +kernel
theorem dX6_chance_41 : decode cX6_chance 41 = .ok (.ifCond .ne 7, 3) := by decide +kernel
theorem dX6_chance_44 : decode cX6_chance 44 = .ok (.ldc2_w 454, 3) := by decide +kernel
theorem dX6_chance_47 : decode cX6_chance 47 = .ok (.lreturn, 1) := by decide +kernel
theorem dX6_chance_48 : decode cX6_chance 48 = .ok (.lconst 0, 1) := by decide +kernel
theorem dX6_chance_49 : decode cX6_chance 49 = .ok (.lstore 6, 2) := by decide +kernel
theorem dX6_chance_51 : decode cX6_chance 51 = .ok (.iconst 0, 1) := by decide +kernel
theorem dX6_chance_52 : decode cX6_chance 52 = .ok (.istore 8, 2) := by decide +kernel
theorem dX6_chance_54 : decode cX6_chance 54 = .ok (.iload 8, 2) := by decide +kernel
theorem dX6_chance_56 : decode cX6_chance 56 = .ok (.iload_n 2, 1) := by decide +kernel
theorem dX6_chance_57 : decode cX6_chance 57 = .ok (.if_icmp .ge 29, 3) := by decide +kernel
theorem dX6_chance_60 : decode cX6_chance 60 = .ok (.lload 6, 2) := by decide +kernel
theorem dX6_chance_62 : decode cX6_chance 62 = .ok (.aload_n 0, 1) := by decide +kernel
theorem dX6_chance_63 : decode cX6_chance 63 = .ok (.iload_n 1, 1) := by decide +kernel
theorem dX6_chance_64 : decode cX6_chance 64 = .ok (.iload 8, 2) := by decide +kernel
theorem dX6_chance_66 : decode cX6_chance 66 = .ok (.iadd, 1) := by decide +kernel
theorem dX6_chance_67 : decode cX6_chance 67 = .ok (.iload_n 3, 1) := by decide +kernel
theorem dX6_chance_68 : decode cX6_chance 68 = .ok (.invokevirtual 451, 3) := by decide +kernel
theorem dX6_chance_71 : decode cX6_chance 71 = .ok (.iload 4, 2) := by decide +kernel
theorem dX6_chance_73 : decode cX6_chance 73 = .ok (.ishr, 1) := by decide +kernel
theorem dX6_chance_74 : decode cX6_chance 74 = .ok (.iconst 1, 1) := by decide +kernel
theorem dX6_chance_75 : decode cX6_chance 75 = .ok (.iand, 1) := by decide +kernel
theorem dX6_chance_76 : decode cX6_chance 76 = .ok (.i2l, 1) := by decide +kernel
theorem dX6_chance_77 : decode cX6_chance 77 = .ok (.ladd, 1) := by decide +kernel
theorem dX6_chance_78 : decode cX6_chance 78 = .ok (.lstore 6, 2) := by decide +kernel
theorem dX6_chance_80 : decode cX6_chance 80 = .ok (.iinc 8 1, 3) := by decide +kernel
theorem dX6_chance_83 : decode cX6_chance 83 = .ok (.goto (-29), 3) := by decide +kernel
theorem dX6_chance_86 : decode cX6_chance 86 = .ok (.lload 6, 2) := by decide +kernel
theorem dX6_chance_88 : decode cX6_chance 88 = .ok (.lstore 8, 2) := by decide +kernel
theorem dX6_chance_90 : decode cX6_chance 90 = .ok (.iload_n 2, 1) := by decide +kernel
theorem dX6_chance_91 : decode cX6_chance 91 = .ok (.i2l, 1) := by decide +kernel
theorem dX6_chance_92 : decode cX6_chance 92 = .ok (.lstore 10, 2) := by decide +kernel
theorem dX6_chance_94 : decode cX6_chance 94 = .ok (.lload 10, 2) := by decide +kernel
theorem dX6_chance_96 : decode cX6_chance 96 = .ok (.lconst 0, 1) := by decide +kernel
theorem dX6_chance_97 : decode cX6_chance 97 = .ok (.lcmp, 1) := by decide +kernel
theorem dX6_chance_98 : decode cX6_chance 98 = .ok (.ifCond .eq 21, 3) := by decide +kernel
theorem dX6_chance_101 : decode cX6_chance 101 = .ok (.lload 8, 2) := by decide +kernel
theorem dX6_chance_103 : decode cX6_chance 103 = .ok (.lload 10, 2) := by decide +kernel
theorem dX6_chance_105 : decode cX6_chance 105 = .ok (.lrem, 1) := by decide +kernel
theorem dX6_chance_106 : decode cX6_chance 106 = .ok (.lstore 12, 2) := by decide +kernel
theorem dX6_chance_108 : decode cX6_chance 108 = .ok (.lload 10, 2) := by decide +kernel
theorem dX6_chance_110 : decode cX6_chance 110 = .ok (.lstore 8, 2) := by decide +kernel
theorem dX6_chance_112 : decode cX6_chance 112 = .ok (.lload 12, 2) := by decide +kernel
theorem dX6_chance_114 : decode cX6_chance 114 = .ok (.lstore 10, 2) := by decide +kernel
theorem dX6_chance_116 : decode cX6_chance 116 = .ok (.goto (-22), 3) := by decide +kernel
theorem dX6_chance_119 : decode cX6_chance 119 = .ok (.iload 5, 2) := by decide +kernel
theorem dX6_chance_121 : decode cX6_chance 121 = .ok (.ifCond .ne 11, 3) := by decide +kernel
theorem dX6_chance_124 : decode cX6_chance 124 = .ok (.lload 6, 2) := by decide +kernel
theorem dX6_chance_126 : decode cX6_chance 126 = .ok (.lload 8, 2) := by decide +kernel
theorem dX6_chance_128 : decode cX6_chance 128 = .ok (.ldiv, 1) := by decide +kernel
theorem dX6_chance_129 : decode cX6_chance 129 = .ok (.goto 8, 3) := by decide +kernel
theorem dX6_chance_132 : decode cX6_chance 132 = .ok (.iload_n 2, 1) := by decide +kernel
theorem dX6_chance_133 : decode cX6_chance 133 = .ok (.i2l, 1) := by decide +kernel
theorem dX6_chance_134 : decode cX6_chance 134 = .ok (.lload 8, 2) := by decide +kernel
theorem dX6_chance_136 : decode cX6_chance 136 = .ok (.ldiv, 1) := by decide +kernel
theorem dX6_chance_137 : decode cX6_chance 137 = .ok (.lreturn, 1) := by decide +kernel
theorem dX6_image_0 : decode cX6_image 0 = .ok (.iconst 0, 1) := by decide +kernel
theorem dX6_image_1 : decode cX6_image 1 = .ok (.istore_n 1, 1) := by decide +kernel
theorem dX6_image_2 : decode cX6_image 2 = .ok (.iload_n 1, 1) := by decide +kernel
theorem dX6_image_3 : decode cX6_image 3 = .ok (.bipush 49, 2) := by decide +kernel
theorem dX6_image_5 : decode cX6_image 5 = .ok (.if_icmp .ge 21, 3) := by decide +kernel
theorem dX6_image_8 : decode cX6_image 8 = .ok (.aload_n 0, 1) := by decide +kernel
theorem dX6_image_9 : decode cX6_image 9 = .ok (.getfield 62, 3) := by decide +kernel
theorem dX6_image_12 : decode cX6_image 12 = .ok (.iload_n 1, 1) := by decide +kernel
theorem dX6_image_13 : decode cX6_image 13 = .ok (.aload_n 0, 1) := by decide +kernel
theorem dX6_image_14 : decode cX6_image 14 = .ok (.getfield 29, 3) := by decide +kernel
theorem dX6_image_17 : decode cX6_image 17 = .ok (.iload_n 1, 1) := by decide +kernel
theorem dX6_image_18 : decode cX6_image 18 = .ok (.iaload, 1) := by decide +kernel
theorem dX6_image_19 : decode cX6_image 19 = .ok (.iastore, 1) := by decide +kernel
theorem dX6_image_20 : decode cX6_image 20 = .ok (.iinc 1 1, 3) := by decide +kernel
theorem dX6_image_23 : decode cX6_image 23 = .ok (.goto (-21), 3) := by decide +kernel
theorem dX6_image_26 : decode cX6_image 26 = .ok (.iconst 0, 1) := by decide +kernel
theorem dX6_image_27 : decode cX6_image 27 = .ok (.istore_n 1, 1) := by decide +kernel
theorem dX6_image_28 : decode cX6_image 28 = .ok (.iload_n 1, 1) := by decide +kernel
theorem dX6_image_29 : decode cX6_image 29 = .ok (.bipush 7, 2) := by decide +kernel
theorem dX6_image_31 : decode cX6_image 31 = .ok (.if_icmp .ge 33, 3) := by decide +kernel
theorem dX6_image_34 : decode cX6_image 34 = .ok (.aload_n 0, 1) := by decide +kernel
theorem dX6_image_35 : decode cX6_image 35 = .ok (.getfield 65, 3) := by decide +kernel
theorem dX6_image_38 : decode cX6_image 38 = .ok (.iload_n 1, 1) := by decide +kernel
theorem dX6_image_39 : decode cX6_image 39 = .ok (.aload_n 0, 1) := by decide +kernel
theorem dX6_image_40 : decode cX6_image 40 = .ok (.getfield 32, 3) := by decide +kernel
theorem dX6_image_43 : decode cX6_image 43 = .ok (.iload_n 1, 1) := by decide +kernel
theorem dX6_image_44 : decode cX6_image 44 = .ok (.iaload, 1) := by decide +kernel
theorem dX6_image_45 : decode cX6_image 45 = .ok (.iastore, 1) := by decide +kernel
theorem dX6_image_46 : decode cX6_image 46 = .ok (.aload_n 0, 1) := by decide +kernel
theorem dX6_image_47 : decode cX6_image 47 = .ok (.getfield 68, 3) := by decide +kernel
theorem dX6_image_50 : decode cX6_image 50 = .ok (.iload_n 1, 1) := by decide +kernel
theorem dX6_image_51 : decode cX6_image 51 = .ok (.aload_n 0, 1) := by decide +kernel
theorem dX6_image_52 : decode cX6_image 52 = .ok (.getfield 26, 3) := by decide +kernel
theorem dX6_image_55 : decode cX6_image 55 = .ok (.iload_n 1, 1) := by decide +kernel
theorem dX6_image_56 : decode cX6_image 56 = .ok (.iaload, 1) := by decide +kernel
theorem dX6_image_57 : decode cX6_image 57 = .ok (.iastore, 1) := by decide +kernel
theorem dX6_image_58 : decode cX6_image 58 = .ok (.iinc 1 1, 3) := by decide +kernel
theorem dX6_image_61 : decode cX6_image 61 = .ok (.goto (-33), 3) := by decide +kernel
theorem dX6_image_64 : decode cX6_image 64 = .ok (.aload_n 0, 1) := by decide +kernel
theorem dX6_image_65 : decode cX6_image 65 = .ok (.aload_n 0, 1) := by decide +kernel
theorem dX6_image_66 : decode cX6_image 66 = .ok (.getfield 94, 3) := by decide +kernel
theorem dX6_image_69 : decode cX6_image 69 = .ok (.putfield 71, 3) := by decide +kernel
theorem dX6_image_72 : decode cX6_image 72 = .ok (.aload_n 0, 1) := by decide +kernel
theorem dX6_image_73 : decode cX6_image 73 = .ok (.aload_n 0, 1) := by decide +kernel
theorem dX6_image_74 : decode cX6_image 74 = .ok (.getfield 105, 3) := by decide +kernel
theorem dX6_image_77 : decode cX6_image 77 = .ok (.putfield 456, 3) := by decide +kernel
theorem dX6_image_80 : decode cX6_image 80 = .ok (.aload_n 0, 1) := by decide +kernel
theorem dX6_image_81 : decode cX6_image 81 = .ok (.aload_n 0, 1) := by decide +kernel
theorem dX6_image_82 : decode cX6_image 82 = .ok (.getfield 35, 3) := by decide +kernel
theorem dX6_image_85 : decode cX6_image 85 = .ok (.putfield 459, 3) := by decide +kernel
theorem dX6_image_88 : decode cX6_image 88 = .ok (.aload_n 0, 1) := by decide +kernel
theorem dX6_image_89 : decode cX6_image 89 = .ok (.aload_n 0, 1) := by decide +kernel
theorem dX6_image_90 : decode cX6_image 90 = .ok (.getfield 38, 3) := by decide +kernel
theorem dX6_image_93 : decode cX6_image 93 = .ok (.putfield 462, 3) := by decide +kernel
theorem dX6_image_96 : decode cX6_image 96 = .ok (.aload_n 0, 1) := by decide +kernel
theorem dX6_image_97 : decode cX6_image 97 = .ok (.aload_n 0, 1) := by decide +kernel
theorem dX6_image_98 : decode cX6_image 98 = .ok (.getfield 128, 3) := by decide +kernel
theorem dX6_image_101 : decode cX6_image 101 = .ok (.putfield 465, 3) := by decide +kernel
theorem dX6_image_104 : decode cX6_image 104 = .ok (.aload_n 0, 1) := by decide +kernel
theorem dX6_image_105 : decode cX6_image 105 = .ok (.aload_n 0, 1) := by decide +kernel
theorem dX6_image_106 : decode cX6_image 106 = .ok (.getfield 341, 3) := by decide +kernel
theorem dX6_image_109 : decode cX6_image 109 = .ok (.putfield 468, 3) := by decide +kernel
theorem dX6_image_112 : decode cX6_image 112 = .ok (.aload_n 0, 1) := by decide +kernel
theorem dX6_image_113 : decode cX6_image 113 = .ok (.getfield 94, 3) := by decide +kernel
theorem dX6_image_116 : decode cX6_image 116 = .ok (.ireturn, 1) := by decide +kernel
theorem dX6_back_0 : decode cX6_back 0 = .ok (.aload_n 0, 1) := by decide +kernel
theorem dX6_back_1 : decode cX6_back 1 = .ok (.getfield 71, 3) := by decide +kernel
theorem dX6_back_4 : decode cX6_back 4 = .ok (.iconst (-1), 1) := by decide +kernel
theorem dX6_back_5 : decode cX6_back 5 = .ok (.if_icmp .ne 6, 3) := by decide +kernel
theorem dX6_back_8 : decode cX6_back 8 = .ok (.bipush (-3), 2) := by decide +kernel
theorem dX6_back_10 : decode cX6_back 10 = .ok (.ireturn, 1) := by decide +kernel
theorem dX6_back_11 : decode cX6_back 11 = .ok (.iconst 0, 1) := by decide +kernel
theorem dX6_back_12 : decode cX6_back 12 = .ok (.istore_n 1, 1) := by decide +kernel
theorem dX6_back_13 : decode cX6_back 13 = .ok (.iload_n 1, 1) := by decide +kernel
theorem dX6_back_14 : decode cX6_back 14 = .ok (.bipush 49, 2) := by decide +kernel
theorem dX6_back_16 : decode cX6_back 16 = .ok (.if_icmp .ge 21, 3) := by decide +kernel
theorem dX6_back_19 : decode cX6_back 19 = .ok (.aload_n 0, 1) := by decide +kernel
theorem dX6_back_20 : decode cX6_back 20 = .ok (.getfield 29, 3) := by decide +kernel
theorem dX6_back_23 : decode cX6_back 23 = .ok (.iload_n 1, 1) := by decide +kernel
theorem dX6_back_24 : decode cX6_back 24 = .ok (.aload_n 0, 1) := by decide +kernel
theorem dX6_back_25 : decode cX6_back 25 = .ok (.getfield 62, 3) := by decide +kernel
theorem dX6_back_28 : decode cX6_back 28 = .ok (.iload_n 1, 1) := by decide +kernel
theorem dX6_back_29 : decode cX6_back 29 = .ok (.iaload, 1) := by decide +kernel
theorem dX6_back_30 : decode cX6_back 30 = .ok (.iastore, 1) := by decide +kernel
theorem dX6_back_31 : decode cX6_back 31 = .ok (.iinc 1 1, 3) := by decide +kernel
theorem dX6_back_34 : decode cX6_back 34 = .ok (.goto (-21), 3) := by decide +kernel
theorem dX6_back_37 : decode cX6_back 37 = .ok (.iconst 0, 1) := by decide +kernel
theorem dX6_back_38 : decode cX6_back 38 = .ok (.istore_n 1, 1) := by decide +kernel
theorem dX6_back_39 : decode cX6_back 39 = .ok (.iload_n 1, 1) := by decide +kernel
theorem dX6_back_40 : decode cX6_back 40 = .ok (.bipush 7, 2) := by decide +kernel
theorem dX6_back_42 : decode cX6_back 42 = .ok (.if_icmp .ge 33, 3) := by decide +kernel
theorem dX6_back_45 : decode cX6_back 45 = .ok (.aload_n 0, 1) := by decide +kernel
theorem dX6_back_46 : decode cX6_back 46 = .ok (.getfield 32, 3) := by decide +kernel
theorem dX6_back_49 : decode cX6_back 49 = .ok (.iload_n 1, 1) := by decide +kernel
theorem dX6_back_50 : decode cX6_back 50 = .ok (.aload_n 0, 1) := by decide +kernel
theorem dX6_back_51 : decode cX6_back 51 = .ok (.getfield 65, 3) := by decide +kernel
theorem dX6_back_54 : decode cX6_back 54 = .ok (.iload_n 1, 1) := by decide +kernel
theorem dX6_back_55 : decode cX6_back 55 = .ok (.iaload, 1) := by decide +kernel
theorem dX6_back_56 : decode cX6_back 56 = .ok (.iastore, 1) := by decide +kernel
theorem dX6_back_57 : decode cX6_back 57 = .ok (.aload_n 0, 1) := by decide +kernel
theorem dX6_back_58 : decode cX6_back 58 = .ok (.getfield 26, 3) := by decide +kernel
theorem dX6_back_61 : decode cX6_back 61 = .ok (.iload_n 1, 1) := by decide +kernel
theorem dX6_back_62 : decode cX6_back 62 = .ok (.aload_n 0, 1) := by decide +kernel
theorem dX6_back_63 : decode cX6_back 63 = .ok (.getfield 68, 3) := by decide +kernel
theorem dX6_back_66 : decode cX6_back 66 = .ok (.iload_n 1, 1) := by decide +kernel
theorem dX6_back_67 : decode cX6_back 67 = .ok (.iaload, 1) := by decide +kernel
theorem dX6_back_68 : decode cX6_back 68 = .ok (.iastore, 1) := by decide +kernel
theorem dX6_back_69 : decode cX6_back 69 = .ok (.iinc 1 1, 3) := by decide +kernel
theorem dX6_back_72 : decode cX6_back 72 = .ok (.goto (-33), 3) := by decide +kernel
theorem dX6_back_75 : decode cX6_back 75 = .ok (.aload_n 0, 1) := by decide +kernel
theorem dX6_back_76 : decode cX6_back 76 = .ok (.aload_n 0, 1) := by decide +kernel
theorem dX6_back_77 : decode cX6_back 77 = .ok (.getfield 71, 3) := by decide +kernel
theorem dX6_back_80 : decode cX6_back 80 = .ok (.putfield 94, 3) := by decide +kernel
theorem dX6_back_83 : decode cX6_back 83 = .ok (.aload_n 0, 1) := by decide +kernel
theorem dX6_back_84 : decode cX6_back 84 = .ok (.aload_n 0, 1) := by decide +kernel
theorem dX6_back_85 : decode cX6_back 85 = .ok (.getfield 456, 3) := by decide +kernel
theorem dX6_back_88 : decode cX6_back 88 = .ok (.putfield 105, 3) := by decide +kernel
theorem dX6_back_91 : decode cX6_back 91 = .ok (.aload_n 0, 1) := by decide +kernel
theorem dX6_back_92 : decode cX6_back 92 = .ok (.aload_n 0, 1) := by decide +kernel
theorem dX6_back_93 : decode cX6_back 93 = .ok (.getfield 459, 3) := by decide +kernel
theorem dX6_back_96 : decode cX6_back 96 = .ok (.putfield 35, 3) := by decide +kernel
theorem dX6_back_99 : decode cX6_back 99 = .ok (.aload_n 0, 1) := by decide +kernel
theorem dX6_back_100 : decode cX6_back 100 = .ok (.aload_n 0, 1) := by decide +kernel
theorem dX6_back_101 : decode cX6_back 101 = .ok (.getfield 462, 3) := by decide +kernel
theorem dX6_back_104 : decode cX6_back 104 = .ok (.putfield 38, 3) := by decide +kernel
theorem dX6_back_107 : decode cX6_back 107 = .ok (.aload_n 0, 1) := by decide +kernel
theorem dX6_back_108 : decode cX6_back 108 = .ok (.aload_n 0, 1) := by decide +kernel
theorem dX6_back_109 : decode cX6_back 109 = .ok (.getfield 465, 3) := by decide +kernel
theorem dX6_back_112 : decode cX6_back 112 = .ok (.putfield 128, 3) := by decide +kernel
theorem dX6_back_115 : decode cX6_back 115 = .ok (.aload_n 0, 1) := by decide +kernel
theorem dX6_back_116 : decode cX6_back 116 = .ok (.aload_n 0, 1) := by decide +kernel
theorem dX6_back_117 : decode cX6_back 117 = .ok (.getfield 468, 3) := by decide +kernel
theorem dX6_back_120 : decode cX6_back 120 = .ok (.putfield 341, 3) := by decide +kernel
theorem dX6_back_123 : decode cX6_back 123 = .ok (.aload_n 0, 1) := by decide +kernel
theorem dX6_back_124 : decode cX6_back 124 = .ok (.getfield 94, 3) := by decide +kernel
theorem dX6_back_127 : decode cX6_back 127 = .ok (.ireturn, 1) := by decide +kernel
theorem dX6_count_0 : decode cX6_count 0 = .ok (.iload_n 1, 1) := by decide +kernel
theorem dX6_count_1 : decode cX6_count 1 = .ok (.i2l, 1) := by decide +kernel
theorem dX6_count_2 : decode cX6_count 2 = .ok (.lconst 0, 1) := by decide +kernel
theorem dX6_count_3 : decode cX6_count 3 = .ok (.ldc2_w 471, 3) := by decide +kernel
theorem dX6_count_6 : decode cX6_count 6 = .ok (.invokestatic 97, 3) := by decide +kernel
theorem dX6_count_9 : decode cX6_count 9 = .ok (.ifCond .ne 6, 3) := by decide +kernel
theorem dX6_count_12 : decode cX6_count 12 = .ok (.bipush (-2), 2) := by decide +kernel
theorem dX6_count_14 : decode cX6_count 14 = .ok (.ireturn, 1) := by decide +kernel
theorem dX6_count_15 : decode cX6_count 15 = .ok (.iload_n 1, 1) := by decide +kernel
theorem dX6_count_16 : decode cX6_count 16 = .ok (.iconst 2, 1) := by decide +kernel
theorem dX6_count_17 : decode cX6_count 17 = .ok (.if_icmp .ne 37, 3) := by decide +kernel
theorem dX6_count_20 : decode cX6_count 20 = .ok (.iconst 0, 1) := by decide +kernel
theorem dX6_count_21 : decode cX6_count 21 = .ok (.istore_n 2, 1) := by decide +kernel
theorem dX6_count_22 : decode cX6_count 22 = .ok (.iconst 0, 1) := by decide +kernel
theorem dX6_count_23 : decode cX6_count 23 = .ok (.istore_n 3, 1) := by decide +kernel
theorem dX6_count_24 : decode cX6_count 24 = .ok (.iload_n 3, 1) := by decide +kernel
theorem dX6_count_25 : decode cX6_count 25 = .ok (.aload_n 0, 1) := by decide +kernel
theorem dX6_count_26 : decode cX6_count 26 = .ok (.getfield 94, 3) := by decide +kernel
theorem dX6_count_29 : decode cX6_count 29 = .ok (.if_icmp .ge 21, 3) := by decide +kernel
theorem dX6_count_32 : decode cX6_count 32 = .ok (.iload_n 2, 1) := by decide +kernel
theorem dX6_count_33 : decode cX6_count 33 = .ok (.aload_n 0, 1) := by decide +kernel
theorem dX6_count_34 : decode cX6_count 34 = .ok (.getfield 32, 3) := by decide +kernel
theorem dX6_count_37 : decode cX6_count 37 = .ok (.iload_n 3, 1) := by decide +kernel
theorem dX6_count_38 : decode cX6_count 38 = .ok (.iaload, 1) := by decide +kernel
theorem dX6_count_39 : decode cX6_count 39 = .ok (.invokestatic 348, 3) := by decide +kernel
theorem dX6_count_42 : decode cX6_count 42 = .ok (.iadd, 1) := by decide +kernel
theorem dX6_count_43 : decode cX6_count 43 = .ok (.istore_n 2, 1) := by decide +kernel
theorem dX6_count_44 : decode cX6_count 44 = .ok (.iinc 3 1, 3) := by decide +kernel
theorem dX6_count_47 : decode cX6_count 47 = .ok (.goto (-23), 3) := by decide +kernel
theorem dX6_count_50 : decode cX6_count 50 = .ok (.iload_n 2, 1) := by decide +kernel
theorem dX6_count_51 : decode cX6_count 51 = .ok (.iconst 2, 1) := by decide +kernel
theorem dX6_count_52 : decode cX6_count 52 = .ok (.idiv, 1) := by decide +kernel
theorem dX6_count_53 : decode cX6_count 53 = .ok (.ireturn, 1) := by decide +kernel
theorem dX6_count_54 : decode cX6_count 54 = .ok (.iload_n 1, 1) := by decide +kernel
theorem dX6_count_55 : decode cX6_count 55 = .ok (.iconst 4, 1) := by decide +kernel
theorem dX6_count_56 : decode cX6_count 56 = .ok (.if_icmp .ge 34, 3) := by decide +kernel
theorem dX6_count_59 : decode cX6_count 59 = .ok (.iload_n 1, 1) := by decide +kernel
theorem dX6_count_60 : decode cX6_count 60 = .ok (.ifCond .ne 10, 3) := by decide +kernel
theorem dX6_count_63 : decode cX6_count 63 = .ok (.aload_n 0, 1) := by decide +kernel
theorem dX6_count_64 : decode cX6_count 64 = .ok (.getfield 94, 3) := by decide +kernel
theorem dX6_count_67 : decode cX6_count 67 = .ok (.goto 22, 3) := by decide +kernel
theorem dX6_count_70 : decode cX6_count 70 = .ok (.iload_n 1, 1) := by decide +kernel
theorem dX6_count_71 : decode cX6_count 71 = .ok (.iconst 1, 1) := by decide +kernel
theorem dX6_count_72 : decode cX6_count 72 = .ok (.if_icmp .ne 13, 3) := by decide +kernel
theorem dX6_count_75 : decode cX6_count 75 = .ok (.aload_n 0, 1) := by decide +kernel
theorem dX6_count_76 : decode cX6_count 76 = .ok (.getfield 105, 3) := by decide +kernel
theorem dX6_count_79 : decode cX6_count 79 = .ok (.invokestatic 348, 3) := by decide +kernel
theorem dX6_count_82 : decode cX6_count 82 = .ok (.goto 7, 3) := by decide +kernel
theorem dX6_count_85 : decode cX6_count 85 = .ok (.aload_n 0, 1) := by decide +kernel
theorem dX6_count_86 : decode cX6_count 86 = .ok (.getfield 35, 3) := by decide +kernel
theorem dX6_count_89 : decode cX6_count 89 = .ok (.ireturn, 1) := by decide +kernel
theorem dX6_count_90 : decode cX6_count 90 = .ok (.iload_n 1, 1) := by decide +kernel
theorem dX6_count_91 : decode cX6_count 91 = .ok (.bipush 6, 2) := by decide +kernel
theorem dX6_count_93 : decode cX6_count 93 = .ok (.if_icmp .ge 20, 3) := by decide +kernel
theorem dX6_count_96 : decode cX6_count 96 = .ok (.iload_n 1, 1) := by decide +kernel
theorem dX6_count_97 : decode cX6_count 97 = .ok (.iconst 4, 1) := by decide +kernel
theorem dX6_count_98 : decode cX6_count 98 = .ok (.if_icmp .ne 10, 3) := by decide +kernel
theorem dX6_count_101 : decode cX6_count 101 = .ok (.aload_n 0, 1) := by decide +kernel
theorem dX6_count_102 : decode cX6_count 102 = .ok (.getfield 38, 3) := by decide +kernel
theorem dX6_count_105 : decode cX6_count 105 = .ok (.goto 7, 3) := by decide +kernel
theorem dX6_count_108 : decode cX6_count 108 = .ok (.aload_n 0, 1) := by decide +kernel
theorem dX6_count_109 : decode cX6_count 109 = .ok (.getfield 128, 3) := by decide +kernel
theorem dX6_count_112 : decode cX6_count 112 = .ok (.ireturn, 1) := by decide +kernel
theorem dX6_count_113 : decode cX6_count 113 = .ok (.iload_n 1, 1) := by decide +kernel
theorem dX6_count_114 : decode cX6_count 114 = .ok (.bipush 6, 2) := by decide +kernel
theorem dX6_count_116 : decode cX6_count 116 = .ok (.if_icmp .ne 10, 3) := by decide +kernel
theorem dX6_count_119 : decode cX6_count 119 = .ok (.aload_n 0, 1) := by decide +kernel
theorem dX6_count_120 : decode cX6_count 120 = .ok (.getfield 91, 3) := by decide +kernel
theorem dX6_count_123 : decode cX6_count 123 = .ok (.goto 20, 3) := by decide +kernel
theorem dX6_count_126 : decode cX6_count 126 = .ok (.iload_n 1, 1) := by decide +kernel
theorem dX6_count_127 : decode cX6_count 127 = .ok (.bipush 7, 2) := by decide +kernel
theorem dX6_count_129 : decode cX6_count 129 = .ok (.if_icmp .ne 10, 3) := by decide +kernel
theorem dX6_count_132 : decode cX6_count 132 = .ok (.aload_n 0, 1) := by decide +kernel
theorem dX6_count_133 : decode cX6_count 133 = .ok (.getfield 133, 3) := by decide +kernel
theorem dX6_count_136 : decode cX6_count 136 = .ok (.goto 7, 3) := by decide +kernel
theorem dX6_count_139 : decode cX6_count 139 = .ok (.aload_n 0, 1) := by decide +kernel
theorem dX6_count_140 : decode cX6_count 140 = .ok (.getfield 341, 3) := by decide +kernel
theorem dX6_count_143 : decode cX6_count 143 = .ok (.ireturn, 1) := by decide +kernel
theorem dX6_isSheet_0 : decode cX6_isSheet 0 = .ok (.iload_n 0, 1) := by decide +kernel
theorem dX6_isSheet_1 : decode cX6_isSheet 1 = .ok (.i2l, 1) := by decide +kernel
theorem dX6_isSheet_2 : decode cX6_isSheet 2 = .ok (.lconst 0, 1) := by decide +kernel
theorem dX6_isSheet_3 : decode cX6_isSheet 3 = .ok (.ldc2_w 473, 3) := by decide +kernel
theorem dX6_isSheet_6 : decode cX6_isSheet 6 = .ok (.invokestatic 97, 3) := by decide +kernel
theorem dX6_isSheet_9 : decode cX6_isSheet 9 = .ok (.ireturn, 1) := by decide +kernel
theorem dX6_sheet_0 : decode cX6_sheet 0 = .ok (.iload_n 1, 1) := by decide +kernel
theorem dX6_sheet_1 : decode cX6_sheet 1 = .ok (.invokestatic 442, 3) := by decide +kernel
theorem dX6_sheet_4 : decode cX6_sheet 4 = .ok (.ifCond .eq 27, 3) := by decide +kernel
theorem dX6_sheet_7 : decode cX6_sheet 7 = .ok (.iload_n 2, 1) := by decide +kernel
theorem dX6_sheet_8 : decode cX6_sheet 8 = .ok (.i2l, 1) := by decide +kernel
theorem dX6_sheet_9 : decode cX6_sheet 9 = .ok (.ldc2_w 475, 3) := by decide +kernel
theorem dX6_sheet_12 : decode cX6_sheet 12 = .ok (.ldc2_w 122, 3) := by decide +kernel
theorem dX6_sheet_15 : decode cX6_sheet 15 = .ok (.invokestatic 97, 3) := by decide +kernel
theorem dX6_sheet_18 : decode cX6_sheet 18 = .ok (.ifCond .eq 13, 3) := by decide +kernel
theorem dX6_sheet_21 : decode cX6_sheet 21 = .ok (.iload_n 2, 1) := by decide +kernel
theorem dX6_sheet_22 : decode cX6_sheet 22 = .ok (.ifCond .lt 12, 3) := by decide +kernel
theorem dX6_sheet_25 : decode cX6_sheet 25 = .ok (.iload_n 3, 1) := by decide +kernel
theorem dX6_sheet_26 : decode cX6_sheet 26 = .ok (.bipush 40, 2) := by decide +kernel
theorem dX6_sheet_28 : decode cX6_sheet 28 = .ok (.if_icmp .le 6, 3) := by decide +kernel
theorem dX6_sheet_31 : decode cX6_sheet 31 = .ok (.bipush (-2), 2) := by decide +kernel
theorem dX6_sheet_33 : decode cX6_sheet 33 = .ok (.ireturn, 1) := by decide +kernel
theorem dX6_sheet_34 : decode cX6_sheet 34 = .ok (.iload_n 2, 1) := by decide +kernel
theorem dX6_sheet_35 : decode cX6_sheet 35 = .ok (.ifCond .lt 10, 3) := by decide +kernel
theorem dX6_sheet_38 : decode cX6_sheet 38 = .ok (.iload_n 3, 1) := by decide +kernel
theorem dX6_sheet_39 : decode cX6_sheet 39 = .ok (.ifCond .ge 6, 3) := by decide +kernel
theorem dX6_sheet_42 : decode cX6_sheet 42 = .ok (.bipush (-14), 2) := by decide +kernel
theorem dX6_sheet_44 : decode cX6_sheet 44 = .ok (.ireturn, 1) := by decide +kernel
theorem dX6_sheet_45 : decode cX6_sheet 45 = .ok (.aload_n 0, 1) := by decide +kernel
theorem dX6_sheet_46 : decode cX6_sheet 46 = .ok (.getfield 74, 3) := by decide +kernel
theorem dX6_sheet_49 : decode cX6_sheet 49 = .ok (.iload_n 1, 1) := by decide +kernel
theorem dX6_sheet_50 : decode cX6_sheet 50 = .ok (.iload_n 2, 1) := by decide +kernel
theorem dX6_sheet_51 : decode cX6_sheet 51 = .ok (.ifCond .lt 7, 3) := by decide +kernel
theorem dX6_sheet_54 : decode cX6_sheet 54 = .ok (.iconst 1, 1) := by decide +kernel
theorem dX6_sheet_55 : decode cX6_sheet 55 = .ok (.goto 4, 3) := by decide +kernel
theorem dX6_sheet_58 : decode cX6_sheet 58 = .ok (.iconst 0, 1) := by decide +kernel
theorem dX6_sheet_59 : decode cX6_sheet 59 = .ok (.bastore, 1) := by decide +kernel
theorem dX6_sheet_60 : decode cX6_sheet 60 = .ok (.aload_n 0, 1) := by decide +kernel
theorem dX6_sheet_61 : decode cX6_sheet 61 = .ok (.getfield 78, 3) := by decide +kernel
theorem dX6_sheet_64 : decode cX6_sheet 64 = .ok (.iload_n 1, 1) := by decide +kernel
theorem dX6_sheet_65 : decode cX6_sheet 65 = .ok (.iload_n 2, 1) := by decide +kernel
theorem dX6_sheet_66 : decode cX6_sheet 66 = .ok (.iastore, 1) := by decide +kernel
theorem dX6_sheet_67 : decode cX6_sheet 67 = .ok (.aload_n 0, 1) := by decide +kernel
theorem dX6_sheet_68 : decode cX6_sheet 68 = .ok (.getfield 81, 3) := by decide +kernel
theorem dX6_sheet_71 : decode cX6_sheet 71 = .ok (.iload_n 1, 1) := by decide +kernel
theorem dX6_sheet_72 : decode cX6_sheet 72 = .ok (.iload_n 3, 1) := by decide +kernel
theorem dX6_sheet_73 : decode cX6_sheet 73 = .ok (.iastore, 1) := by decide +kernel
theorem dX6_sheet_74 : decode cX6_sheet 74 = .ok (.iconst 0, 1) := by decide +kernel
theorem dX6_sheet_75 : decode cX6_sheet 75 = .ok (.istore 4, 2) := by decide +kernel
theorem dX6_sheet_77 : decode cX6_sheet 77 = .ok (.iload 4, 2) := by decide +kernel
theorem dX6_sheet_79 : decode cX6_sheet 79 = .ok (.iload_n 3, 1) := by decide +kernel
theorem dX6_sheet_80 : decode cX6_sheet 80 = .ok (.if_icmp .ge 26, 3) := by decide +kernel
theorem dX6_sheet_83 : decode cX6_sheet 83 = .ok (.iload_n 2, 1) := by decide +kernel
theorem dX6_sheet_84 : decode cX6_sheet 84 = .ok (.ifCond .lt 22, 3) := by decide +kernel
theorem dX6_sheet_87 : decode cX6_sheet 87 = .ok (.aload_n 0, 1) := by decide +kernel
theorem dX6_sheet_88 : decode cX6_sheet 88 = .ok (.getfield 84, 3) := by decide +kernel
theorem dX6_sheet_91 : decode cX6_sheet 91 = .ok (.bipush 40, 2) := by decide +kernel
theorem dX6_sheet_93 : decode cX6_sheet 93 = .ok (.iload_n 1, 1) := by decide +kernel
theorem dX6_sheet_94 : decode cX6_sheet 94 = .ok (.imul, 1) := by decide +kernel
theorem dX6_sheet_95 : decode cX6_sheet 95 = .ok (.iload 4, 2) := by decide +kernel
theorem dX6_sheet_97 : decode cX6_sheet 97 = .ok (.iadd, 1) := by decide +kernel
theorem dX6_sheet_98 : decode cX6_sheet 98 = .ok (.iconst 0, 1) := by decide +kernel
theorem dX6_sheet_99 : decode cX6_sheet 99 = .ok (.iastore, 1) := by decide +kernel
theorem dX6_sheet_100 : decode cX6_sheet 100 = .ok (.iinc 4 1, 3) := by decide +kernel
theorem dX6_sheet_103 : decode cX6_sheet 103 = .ok (.goto (-26), 3) := by decide +kernel
theorem dX6_sheet_106 : decode cX6_sheet 106 = .ok (.iconst 1, 1) := by decide +kernel
theorem dX6_sheet_107 : decode cX6_sheet 107 = .ok (.ireturn, 1) := by decide +kernel
theorem dX6_cell_0 : decode cX6_cell 0 = .ok (.iload_n 1, 1) := by decide +kernel
theorem dX6_cell_1 : decode cX6_cell 1 = .ok (.invokestatic 442, 3) := by decide +kernel
theorem dX6_cell_4 : decode cX6_cell 4 = .ok (.ifCond .ne 6, 3) := by decide +kernel
theorem dX6_cell_7 : decode cX6_cell 7 = .ok (.bipush (-2), 2) := by decide +kernel
theorem dX6_cell_9 : decode cX6_cell 9 = .ok (.ireturn, 1) := by decide +kernel
theorem dX6_cell_10 : decode cX6_cell 10 = .ok (.aload_n 0, 1) := by decide +kernel
theorem dX6_cell_11 : decode cX6_cell 11 = .ok (.getfield 74, 3) := by decide +kernel
theorem dX6_cell_14 : decode cX6_cell 14 = .ok (.iload_n 1, 1) := by decide +kernel
theorem dX6_cell_15 : decode cX6_cell 15 = .ok (.baload, 1) := by decide +kernel
theorem dX6_cell_16 : decode cX6_cell 16 = .ok (.ifCond .ne 6, 3) := by decide +kernel
theorem dX6_cell_19 : decode cX6_cell 19 = .ok (.bipush (-11), 2) := by decide +kernel
theorem dX6_cell_21 : decode cX6_cell 21 = .ok (.ireturn, 1) := by decide +kernel
theorem dX6_cell_22 : decode cX6_cell 22 = .ok (.iload_n 2, 1) := by decide +kernel
theorem dX6_cell_23 : decode cX6_cell 23 = .ok (.i2l, 1) := by decide +kernel
theorem dX6_cell_24 : decode cX6_cell 24 = .ok (.lconst 0, 1) := by decide +kernel
theorem dX6_cell_25 : decode cX6_cell 25 = .ok (.aload_n 0, 1) := by decide +kernel
theorem dX6_cell_26 : decode cX6_cell 26 = .ok (.getfield 81, 3) := by decide +kernel
theorem dX6_cell_29 : decode cX6_cell 29 = .ok (.iload_n 1, 1) := by decide +kernel
theorem dX6_cell_30 : decode cX6_cell 30 = .ok (.iaload, 1) := by decide +kernel
theorem dX6_cell_31 : decode cX6_cell 31 = .ok (.iconst 1, 1) := by decide +kernel
theorem dX6_cell_32 : decode cX6_cell 32 = .ok (.isub, 1) := by decide +kernel
theorem dX6_cell_33 : decode cX6_cell 33 = .ok (.i2l, 1) := by decide +kernel
theorem dX6_cell_34 : decode cX6_cell 34 = .ok (.invokestatic 97, 3) := by decide +kernel
theorem dX6_cell_37 : decode cX6_cell 37 = .ok (.ifCond .ne 6, 3) := by decide +kernel
theorem dX6_cell_40 : decode cX6_cell 40 = .ok (.bipush (-12), 2) := by decide +kernel
theorem dX6_cell_42 : decode cX6_cell 42 = .ok (.ireturn, 1) := by decide +kernel
theorem dX6_cell_43 : decode cX6_cell 43 = .ok (.aload_n 0, 1) := by decide +kernel
theorem dX6_cell_44 : decode cX6_cell 44 = .ok (.getfield 84, 3) := by decide +kernel
theorem dX6_cell_47 : decode cX6_cell 47 = .ok (.bipush 40, 2) := by decide +kernel
theorem dX6_cell_49 : decode cX6_cell 49 = .ok (.iload_n 1, 1) := by decide +kernel
theorem dX6_cell_50 : decode cX6_cell 50 = .ok (.imul, 1) := by decide +kernel
theorem dX6_cell_51 : decode cX6_cell 51 = .ok (.iload_n 2, 1) := by decide +kernel
theorem dX6_cell_52 : decode cX6_cell 52 = .ok (.iadd, 1) := by decide +kernel
theorem dX6_cell_53 : decode cX6_cell 53 = .ok (.aload_n 0, 1) := by decide +kernel
theorem dX6_cell_54 : decode cX6_cell 54 = .ok (.getfield 78, 3) := by decide +kernel
theorem dX6_cell_57 : decode cX6_cell 57 = .ok (.iload_n 1, 1) := by decide +kernel
theorem dX6_cell_58 : decode cX6_cell 58 = .ok (.iaload, 1) := by decide +kernel
theorem dX6_cell_59 : decode cX6_cell 59 = .ok (.ifCond .ne 8, 3) := by decide +kernel
theorem dX6_cell_62 : decode cX6_cell 62 = .ok (.iload_n 3, 1) := by decide +kernel
theorem dX6_cell_63 : decode cX6_cell 63 = .ok (.i2b, 1) := by decide +kernel
theorem dX6_cell_64 : decode cX6_cell 64 = .ok (.goto 19, 3) := by decide +kernel
theorem dX6_cell_67 : decode cX6_cell 67 = .ok (.aload_n 0, 1) := by decide +kernel
theorem dX6_cell_68 : decode cX6_cell 68 = .ok (.getfield 78, 3) := by decide +kernel
theorem dX6_cell_71 : decode cX6_cell 71 = .ok (.iload_n 1, 1) := by decide +kernel
theorem dX6_cell_72 : decode cX6_cell 72 = .ok (.iaload, 1) := by decide +kernel
theorem dX6_cell_73 : decode cX6_cell 73 = .ok (.iconst 1, 1) := by decide +kernel
theorem dX6_cell_74 : decode cX6_cell 74 = .ok (.if_icmp .ne 8, 3) := by decide +kernel
theorem dX6_cell_77 : decode cX6_cell 77 = .ok (.iload_n 3, 1) := by decide +kernel
theorem dX6_cell_78 : decode cX6_cell 78 = .ok (.i2s, 1) := by decide +kernel
theorem dX6_cell_79 : decode cX6_cell 79 = .ok (.goto 4, 3) := by decide +kernel
theorem dX6_cell_82 : decode cX6_cell 82 = .ok (.iload_n 3, 1) := by decide +kernel
theorem dX6_cell_83 : decode cX6_cell 83 = .ok (.iastore, 1) := by decide +kernel
theorem dX6_cell_84 : decode cX6_cell 84 = .ok (.iconst 1, 1) := by decide +kernel
theorem dX6_cell_85 : decode cX6_cell 85 = .ok (.ireturn, 1) := by decide +kernel
theorem dX6_copy_0 : decode cX6_copy 0 = .ok (.iload_n 1, 1) := by decide +kernel
theorem dX6_copy_1 : decode cX6_copy 1 = .ok (.invokestatic 442, 3) := by decide +kernel
theorem dX6_copy_4 : decode cX6_copy 4 = .ok (.ifCond .eq 10, 3) := by decide +kernel
theorem dX6_copy_7 : decode cX6_copy 7 = .ok (.iload_n 3, 1) := by decide +kernel
theorem dX6_copy_8 : decode cX6_copy 8 = .ok (.invokestatic 442, 3) := by decide +kernel
theorem dX6_copy_11 : decode cX6_copy 11 = .ok (.ifCond .ne 6, 3) := by decide +kernel
theorem dX6_copy_14 : decode cX6_copy 14 = .ok (.bipush (-2), 2) := by decide +kernel
theorem dX6_copy_16 : decode cX6_copy 16 = .ok (.ireturn, 1) := by decide +kernel
theorem dX6_copy_17 : decode cX6_copy 17 = .ok (.aload_n 0, 1) := by decide +kernel
theorem dX6_copy_18 : decode cX6_copy 18 = .ok (.getfield 74, 3) := by decide +kernel
theorem dX6_copy_21 : decode cX6_copy 21 = .ok (.iload_n 1, 1) := by decide +kernel
theorem dX6_copy_22 : decode cX6_copy 22 = .ok (.baload, 1) := by decide +kernel
theorem dX6_copy_23 : decode cX6_copy 23 = .ok (.ifCond .eq 12, 3) := by decide +kernel
theorem dX6_copy_26 : decode cX6_copy 26 = .ok (.aload_n 0, 1) := by decide +kernel
theorem dX6_copy_27 : decode cX6_copy 27 = .ok (.getfield 74, 3) := by decide +kernel
theorem dX6_copy_30 : decode cX6_copy 30 = .ok (.iload_n 3, 1) := by decide +kernel
theorem dX6_copy_31 : decode cX6_copy 31 = .ok (.baload, 1) := by decide +kernel
theorem dX6_copy_32 : decode cX6_copy 32 = .ok (.ifCond .ne 6, 3) := by decide +kernel
theorem dX6_copy_35 : decode cX6_copy 35 = .ok (.bipush (-11), 2) := by decide +kernel
theorem dX6_copy_37 : decode cX6_copy 37 = .ok (.ireturn, 1) := by decide +kernel
theorem dX6_copy_38 : decode cX6_copy 38 = .ok (.aload_n 0, 1) := by decide +kernel
theorem dX6_copy_39 : decode cX6_copy 39 = .ok (.getfield 78, 3) := by decide +kernel
theorem dX6_copy_42 : decode cX6_copy 42 = .ok (.iload_n 1, 1) := by decide +kernel
theorem dX6_copy_43 : decode cX6_copy 43 = .ok (.iaload, 1) := by decide +kernel
theorem dX6_copy_44 : decode cX6_copy 44 = .ok (.aload_n 0, 1) := by decide +kernel
theorem dX6_copy_45 : decode cX6_copy 45 = .ok (.getfield 78, 3) := by decide +kernel
theorem dX6_copy_48 : decode cX6_copy 48 = .ok (.iload_n 3, 1) := by decide +kernel
theorem dX6_copy_49 : decode cX6_copy 49 = .ok (.iaload, 1) := by decide +kernel
theorem dX6_copy_50 : decode cX6_copy 50 = .ok (.if_icmp .eq 6, 3) := by decide +kernel
theorem dX6_copy_53 : decode cX6_copy 53 = .ok (.bipush (-13), 2) := by decide +kernel
theorem dX6_copy_55 : decode cX6_copy 55 = .ok (.ireturn, 1) := by decide +kernel
theorem dX6_copy_56 : decode cX6_copy 56 = .ok (.iload 5, 2) := by decide +kernel
theorem dX6_copy_58 : decode cX6_copy 58 = .ok (.ifCond .lt 39, 3) := by decide +kernel
theorem dX6_copy_61 : decode cX6_copy 61 = .ok (.iload_n 2, 1) := by decide +kernel
theorem dX6_copy_62 : decode cX6_copy 62 = .ok (.ifCond .lt 35, 3) := by decide +kernel
theorem dX6_copy_65 : decode cX6_copy 65 = .ok (.iload 4, 2) := by decide +kernel
theorem dX6_copy_67 : decode cX6_copy 67 = .ok (.ifCond .lt 30, 3) := by decide +kernel
theorem dX6_copy_70 : decode cX6_copy 70 = .ok (.iload_n 2, 1) := by decide +kernel
theorem dX6_copy_71 : decode cX6_copy 71 = .ok (.aload_n 0, 1) := by decide +kernel
theorem dX6_copy_72 : decode cX6_copy 72 = .ok (.getfield 81, 3) := by decide +kernel
theorem dX6_copy_75 : decode cX6_copy 75 = .ok (.iload_n 1, 1) := by decide +kernel
theorem dX6_copy_76 : decode cX6_copy 76 = .ok (.iaload, 1) := by decide +kernel
theorem dX6_copy_77 : decode cX6_copy 77 = .ok (.iload 5, 2) := by decide +kernel
theorem dX6_copy_79 : decode cX6_copy 79 = .ok (.isub, 1) := by decide +kernel
theorem dX6_copy_80 : decode cX6_copy 80 = .ok (.if_icmp .gt 17, 3) := by decide +kernel
theorem dX6_copy_83 : decode cX6_copy 83 = .ok (.iload 4, 2) := by decide +kernel
theorem dX6_copy_85 : decode cX6_copy 85 = .ok (.aload_n 0, 1) := by decide +kernel
theorem dX6_copy_86 : decode cX6_copy 86 = .ok (.getfield 81, 3) := by decide +kernel
theorem dX6_copy_89 : decode cX6_copy 89 = .ok (.iload_n 3, 1) := by decide +kernel
theorem dX6_copy_90 : decode cX6_copy 90 = .ok (.iaload, 1) := by decide +kernel
theorem dX6_copy_91 : decode cX6_copy 91 = .ok (.iload 5, 2) := by decide +kernel
theorem dX6_copy_93 : decode cX6_copy 93 = .ok (.isub, 1) := by decide +kernel
theorem dX6_copy_94 : decode cX6_copy 94 = .ok (.if_icmp .le 6, 3) := by decide +kernel
theorem dX6_copy_97 : decode cX6_copy 97 = .ok (.bipush (-12), 2) := by decide +kernel
theorem dX6_copy_99 : decode cX6_copy 99 = .ok (.ireturn, 1) := by decide +kernel
theorem dX6_copy_100 : decode cX6_copy 100 = .ok (.iload_n 1, 1) := by decide +kernel
theorem dX6_copy_101 : decode cX6_copy 101 = .ok (.iload_n 3, 1) := by decide +kernel
theorem dX6_copy_102 : decode cX6_copy 102 = .ok (.if_icmp .ne 13, 3) := by decide +kernel
theorem dX6_copy_105 : decode cX6_copy 105 = .ok (.iload_n 2, 1) := by decide +kernel
theorem dX6_copy_106 : decode cX6_copy 106 = .ok (.iload 4, 2) := by decide +kernel
theorem dX6_copy_108 : decode cX6_copy 108 = .ok (.if_icmp .ge 7, 3) := by decide +kernel
theorem dX6_copy_111 : decode cX6_copy 111 = .ok (.iconst 1, 1) := by decide +kernel
theorem dX6_copy_112 : decode cX6_copy 112 = .ok (.goto 4, 3) := by decide +kernel
theorem dX6_copy_115 : decode cX6_copy 115 = .ok (.iconst 0, 1) := by decide +kernel
theorem dX6_copy_116 : decode cX6_copy 116 = .ok (.istore 6, 2) := by decide +kernel
theorem dX6_copy_118 : decode cX6_copy 118 = .ok (.iconst 0, 1) := by decide +kernel
theorem dX6_copy_119 : decode cX6_copy 119 = .ok (.istore 7, 2) := by decide +kernel
theorem dX6_copy_121 : decode cX6_copy 121 = .ok (.iload 7, 2) := by decide +kernel
theorem dX6_copy_123 : decode cX6_copy 123 = .ok (.iload 5, 2) := by decide +kernel
theorem dX6_copy_125 : decode cX6_copy 125 = .ok (.if_icmp .ge 57, 3) := by decide +kernel
theorem dX6_copy_128 : decode cX6_copy 128 = .ok (.iload 6, 2) := by decide +kernel
theorem dX6_copy_130 : decode cX6_copy 130 = .ok (.ifCond .eq 13, 3) := by decide +kernel
theorem dX6_copy_133 : decode cX6_copy 133 = .ok (.iload 5, 2) := by decide +kernel
theorem dX6_copy_135 : decode cX6_copy 135 = .ok (.iconst 1, 1) := by decide +kernel
theorem dX6_copy_136 : decode cX6_copy 136 = .ok (.isub, 1) := by decide +kernel
theorem dX6_copy_137 : decode cX6_copy 137 = .ok (.iload 7, 2) := by decide +kernel
theorem dX6_copy_139 : decode cX6_copy 139 = .ok (.isub, 1) := by decide +kernel
theorem dX6_copy_140 : decode cX6_copy 140 = .ok (.goto 5, 3) := by decide +kernel
theorem dX6_copy_143 : decode cX6_copy 143 = .ok (.iload 7, 2) := by decide +kernel
theorem dX6_copy_145 : decode cX6_copy 145 = .ok (.istore 8, 2) := by decide +kernel
theorem dX6_copy_147 : decode cX6_copy 147 = .ok (.aload_n 0, 1) := by decide +kernel
theorem dX6_copy_148 : decode cX6_copy 148 = .ok (.getfield 84, 3) := by decide +kernel
theorem dX6_copy_151 : decode cX6_copy 151 = .ok (.bipush 40, 2) := by decide +kernel
theorem dX6_copy_153 : decode cX6_copy 153 = .ok (.iload_n 3, 1) := by decide +kernel
theorem dX6_copy_154 : decode cX6_copy 154 = .ok (.imul, 1) := by decide +kernel
theorem dX6_copy_155 : decode cX6_copy 155 = .ok (.iload 4, 2) := by decide +kernel
theorem dX6_copy_157 : decode cX6_copy 157 = .ok (.iadd, 1) := by decide +kernel
theorem dX6_copy_158 : decode cX6_copy 158 = .ok (.iload 8, 2) := by decide +kernel
theorem dX6_copy_160 : decode cX6_copy 160 = .ok (.iadd, 1) := by decide +kernel
theorem dX6_copy_161 : decode cX6_copy 161 = .ok (.aload_n 0, 1) := by decide +kernel
theorem dX6_copy_162 : decode cX6_copy 162 = .ok (.getfield 84, 3) := by decide +kernel
theorem dX6_copy_165 : decode cX6_copy 165 = .ok (.bipush 40, 2) := by decide +kernel
theorem dX6_copy_167 : decode cX6_copy 167 = .ok (.iload_n 1, 1) := by decide +kernel
theorem dX6_copy_168 : decode cX6_copy 168 = .ok (.imul, 1) := by decide +kernel
theorem dX6_copy_169 : decode cX6_copy 169 = .ok (.iload_n 2, 1) := by decide +kernel
theorem dX6_copy_170 : decode cX6_copy 170 = .ok (.iadd, 1) := by decide +kernel
theorem dX6_copy_171 : decode cX6_copy 171 = .ok (.iload 8, 2) := by decide +kernel
theorem dX6_copy_173 : decode cX6_copy 173 = .ok (.iadd, 1) := by decide +kernel
theorem dX6_copy_174 : decode cX6_copy 174 = .ok (.iaload, 1) := by decide +kernel
theorem dX6_copy_175 : decode cX6_copy 175 = .ok (.iastore, 1) := by decide +kernel
theorem dX6_copy_176 : decode cX6_copy 176 = .ok (.iinc 7 1, 3) := by decide +kernel
theorem dX6_copy_179 : decode cX6_copy 179 = .ok (.goto (-58), 3) := by decide +kernel
theorem dX6_copy_182 : decode cX6_copy 182 = .ok (.iload 5, 2) := by decide +kernel
theorem dX6_copy_184 : decode cX6_copy 184 = .ok (.ireturn, 1) := by decide +kernel
theorem dX6_likes_0 : decode cX6_likes 0 = .ok (.iload_n 1, 1) := by decide +kernel
theorem dX6_likes_1 : decode cX6_likes 1 = .ok (.invokestatic 442, 3) := by decide +kernel
theorem dX6_likes_4 : decode cX6_likes 4 = .ok (.ifCond .eq 28, 3) := by decide +kernel
theorem dX6_likes_7 : decode cX6_likes 7 = .ok (.iload_n 2, 1) := by decide +kernel
theorem dX6_likes_8 : decode cX6_likes 8 = .ok (.i2l, 1) := by decide +kernel
theorem dX6_likes_9 : decode cX6_likes 9 = .ok (.lconst 0, 1) := by decide +kernel
theorem dX6_likes_10 : decode cX6_likes 10 = .ok (.ldc2_w 122, 3) := by decide +kernel
theorem dX6_likes_13 : decode cX6_likes 13 = .ok (.invokestatic 97, 3) := by decide +kernel
theorem dX6_likes_16 : decode cX6_likes 16 = .ok (.ifCond .eq 16, 3) := by decide +kernel
theorem dX6_likes_19 : decode cX6_likes 19 = .ok (.iload 4, 2) := by decide +kernel
theorem dX6_likes_21 : decode cX6_likes 21 = .ok (.i2l, 1) := by decide +kernel
theorem dX6_likes_22 : decode cX6_likes 22 = .ok (.lconst 0, 1) := by decide +kernel
theorem dX6_likes_23 : decode cX6_likes 23 = .ok (.ldc2_w 477, 3) := by decide +kernel
theorem dX6_likes_26 : decode cX6_likes 26 = .ok (.invokestatic 97, 3) := by decide +kernel
theorem dX6_likes_29 : decode cX6_likes 29 = .ok (.ifCond .ne 6, 3) := by decide +kernel
theorem dX6_likes_32 : decode cX6_likes 32 = .ok (.bipush (-2), 2) := by decide +kernel
theorem dX6_likes_34 : decode cX6_likes 34 = .ok (.ireturn, 1) := by decide +kernel
theorem dX6_likes_35 : decode cX6_likes 35 = .ok (.aload_n 0, 1) := by decide +kernel
theorem dX6_likes_36 : decode cX6_likes 36 = .ok (.getfield 74, 3) := by decide +kernel
theorem dX6_likes_39 : decode cX6_likes 39 = .ok (.iload_n 1, 1) := by decide +kernel
theorem dX6_likes_40 : decode cX6_likes 40 = .ok (.baload, 1) := by decide +kernel
theorem dX6_likes_41 : decode cX6_likes 41 = .ok (.ifCond .eq 16, 3) := by decide +kernel
theorem dX6_likes_44 : decode cX6_likes 44 = .ok (.aload_n 0, 1) := by decide +kernel
theorem dX6_likes_45 : decode cX6_likes 45 = .ok (.getfield 78, 3) := by decide +kernel
theorem dX6_likes_48 : decode cX6_likes 48 = .ok (.iload_n 1, 1) := by decide +kernel
theorem dX6_likes_49 : decode cX6_likes 49 = .ok (.iaload, 1) := by decide +kernel
theorem dX6_likes_50 : decode cX6_likes 50 = .ok (.iload_n 2, 1) := by decide +kernel
theorem dX6_likes_51 : decode cX6_likes 51 = .ok (.if_icmp .eq 6, 3) := by decide +kernel
theorem dX6_likes_54 : decode cX6_likes 54 = .ok (.bipush (-13), 2) := by decide +kernel
theorem dX6_likes_56 : decode cX6_likes 56 = .ok (.ireturn, 1) := by decide +kernel
theorem dX6_likes_57 : decode cX6_likes 57 = .ok (.aload_n 0, 1) := by decide +kernel
theorem dX6_likes_58 : decode cX6_likes 58 = .ok (.getfield 74, 3) := by decide +kernel
theorem dX6_likes_61 : decode cX6_likes 61 = .ok (.iload_n 1, 1) := by decide +kernel
theorem dX6_likes_62 : decode cX6_likes 62 = .ok (.baload, 1) := by decide +kernel
theorem dX6_likes_63 : decode cX6_likes 63 = .ok (.ifCond .ne 6, 3) := by decide +kernel
theorem dX6_likes_66 : decode cX6_likes 66 = .ok (.bipush (-11), 2) := by decide +kernel
theorem dX6_likes_68 : decode cX6_likes 68 = .ok (.ireturn, 1) := by decide +kernel
theorem dX6_likes_69 : decode cX6_likes 69 = .ok (.iconst 0, 1) := by decide +kernel
theorem dX6_likes_70 : decode cX6_likes 70 = .ok (.istore 5, 2) := by decide +kernel
theorem dX6_likes_72 : decode cX6_likes 72 = .ok (.iconst 0, 1) := by decide +kernel
theorem dX6_likes_73 : decode cX6_likes 73 = .ok (.istore 6, 2) := by decide +kernel
theorem dX6_likes_75 : decode cX6_likes 75 = .ok (.iload 6, 2) := by decide +kernel
theorem dX6_likes_77 : decode cX6_likes 77 = .ok (.iload 4, 2) := by decide +kernel
theorem dX6_likes_79 : decode cX6_likes 79 = .ok (.if_icmp .ge 88, 3) := by decide +kernel
theorem dX6_likes_82 : decode cX6_likes 82 = .ok (.iload_n 3, 1) := by decide +kernel
theorem dX6_likes_83 : decode cX6_likes 83 = .ok (.ifCond .lt 20, 3) := by decide +kernel
theorem dX6_likes_86 : decode cX6_likes 86 = .ok (.iload_n 3, 1) := by decide +kernel
theorem dX6_likes_87 : decode cX6_likes 87 = .ok (.aload_n 0, 1) := by decide +kernel
theorem dX6_likes_88 : decode cX6_likes 88 = .ok (.getfield 81, 3) := by decide +kernel
theorem dX6_likes_91 : decode cX6_likes 91 = .ok (.iload_n 1, 1) := by decide +kernel
theorem dX6_likes_92 : decode cX6_likes 92 = .ok (.iaload, 1) := by decide +kernel
theorem dX6_likes_93 : decode cX6_likes 93 = .ok (.iconst 3, 1) := by decide +kernel
theorem dX6_likes_94 : decode cX6_likes 94 = .ok (.iload 6, 2) := by decide +kernel
theorem dX6_likes_96 : decode cX6_likes 96 = .ok (.imul, 1) := by decide +kernel
theorem dX6_likes_97 : decode cX6_likes 97 = .ok (.isub, 1) := by decide +kernel
theorem dX6_likes_98 : decode cX6_likes 98 = .ok (.iconst 3, 1) := by decide +kernel
theorem dX6_likes_99 : decode cX6_likes 99 = .ok (.isub, 1) := by decide +kernel
theorem dX6_likes_100 : decode cX6_likes 100 = .ok (.if_icmp .le 6, 3) := by decide +kernel
theorem dX6_likes_103 : decode cX6_likes 103 = .ok (.bipush (-12), 2) := by decide +kernel
theorem dX6_likes_105 : decode cX6_likes 105 = .ok (.ireturn, 1) := by decide +kernel
theorem dX6_likes_106 : decode cX6_likes 106 = .ok (.bipush 40, 2) := by decide +kernel
theorem dX6_likes_108 : decode cX6_likes 108 = .ok (.iload_n 1, 1) := by decide +kernel
theorem dX6_likes_109 : decode cX6_likes 109 = .ok (.imul, 1) := by decide +kernel
theorem dX6_likes_110 : decode cX6_likes 110 = .ok (.iload_n 3, 1) := by decide +kernel
theorem dX6_likes_111 : decode cX6_likes 111 = .ok (.iadd, 1) := by decide +kernel
theorem dX6_likes_112 : decode cX6_likes 112 = .ok (.iconst 3, 1) := by decide +kernel
theorem dX6_likes_113 : decode cX6_likes 113 = .ok (.iload 6, 2) := by decide +kernel
theorem dX6_likes_115 : decode cX6_likes 115 = .ok (.imul, 1) := by decide +kernel
theorem dX6_likes_116 : decode cX6_likes 116 = .ok (.iadd, 1) := by decide +kernel
theorem dX6_likes_117 : decode cX6_likes 117 = .ok (.istore 7, 2) := by decide +kernel
theorem dX6_likes_119 : decode cX6_likes 119 = .ok (.iload 5, 2) := by decide +kernel
theorem dX6_likes_121 : decode cX6_likes 121 = .ok (.aload_n 0, 1) := by decide +kernel
theorem dX6_likes_122 : decode cX6_likes 122 = .ok (.aload_n 0, 1) := by decide +kernel
theorem dX6_likes_123 : decode cX6_likes 123 = .ok (.getfield 84, 3) := by decide +kernel
theorem dX6_likes_126 : decode cX6_likes 126 = .ok (.iload 7, 2) := by decide +kernel
theorem dX6_likes_128 : decode cX6_likes 128 = .ok (.iaload, 1) := by decide +kernel
theorem dX6_likes_129 : decode cX6_likes 129 = .ok (.aload_n 0, 1) := by decide +kernel
theorem dX6_likes_130 : decode cX6_likes 130 = .ok (.getfield 84, 3) := by decide +kernel
theorem dX6_likes_133 : decode cX6_likes 133 = .ok (.iload 7, 2) := by decide +kernel
theorem dX6_likes_135 : decode cX6_likes 135 = .ok (.iconst 1, 1) := by decide +kernel
theorem dX6_likes_136 : decode cX6_likes 136 = .ok (.iadd, 1) := by decide +kernel
theorem dX6_likes_137 : decode cX6_likes 137 = .ok (.iaload, 1) := by decide +kernel
theorem dX6_likes_138 : decode cX6_likes 138 = .ok (.aload_n 0, 1) := by decide +kernel
theorem dX6_likes_139 : decode cX6_likes 139 = .ok (.getfield 84, 3) := by decide +kernel
theorem dX6_likes_142 : decode cX6_likes 142 = .ok (.iload 7, 2) := by decide +kernel
theorem dX6_likes_144 : decode cX6_likes 144 = .ok (.iconst 2, 1) := by decide +kernel
theorem dX6_likes_145 : decode cX6_likes 145 = .ok (.iadd, 1) := by decide +kernel
theorem dX6_likes_146 : decode cX6_likes 146 = .ok (.iaload, 1) := by decide +kernel
theorem dX6_likes_147 : decode cX6_likes 147 = .ok (.invokevirtual 479, 3) := by decide +kernel
theorem dX6_likes_150 : decode cX6_likes 150 = .ok (.ifCond .lt 7, 3) := by decide +kernel
theorem dX6_likes_153 : decode cX6_likes 153 = .ok (.iconst 1, 1) := by decide +kernel
theorem dX6_likes_154 : decode cX6_likes 154 = .ok (.goto 4, 3) := by decide +kernel
theorem dX6_likes_157 : decode cX6_likes 157 = .ok (.iconst 0, 1) := by decide +kernel
theorem dX6_likes_158 : decode cX6_likes 158 = .ok (.iadd, 1) := by decide +kernel
theorem dX6_likes_159 : decode cX6_likes 159 = .ok (.istore 5, 2) := by decide +kernel
theorem dX6_likes_161 : decode cX6_likes 161 = .ok (.iinc 6 1, 3) := by decide +kernel
theorem dX6_likes_164 : decode cX6_likes 164 = .ok (.goto (-89), 3) := by decide +kernel
theorem dX6_likes_167 : decode cX6_likes 167 = .ok (.iload 5, 2) := by decide +kernel
theorem dX6_likes_169 : decode cX6_likes 169 = .ok (.ireturn, 1) := by decide +kernel
theorem dX6_over_0 : decode cX6_over 0 = .ok (.iload_n 0, 1) := by decide +kernel
theorem dX6_over_1 : decode cX6_over 1 = .ok (.ifCond .ne 7, 3) := by decide +kernel
theorem dX6_over_4 : decode cX6_over 4 = .ok (.iconst (-1), 1) := by decide +kernel
theorem dX6_over_5 : decode cX6_over 5 = .ok (.goto 27, 3) := by decide +kernel
theorem dX6_over_8 : decode cX6_over 8 = .ok (.iload_n 0, 1) := by decide +kernel
theorem dX6_over_9 : decode cX6_over 9 = .ok (.iconst 3, 1) := by decide +kernel
theorem dX6_over_10 : decode cX6_over 10 = .ok (.if_icmp .eq 8, 3) := by decide +kernel
theorem dX6_over_13 : decode cX6_over 13 = .ok (.iload_n 0, 1) := by decide +kernel
theorem dX6_over_14 : decode cX6_over 14 = .ok (.iconst 5, 1) := by decide +kernel
theorem dX6_over_15 : decode cX6_over 15 = .ok (.if_icmp .ne 7, 3) := by decide +kernel
theorem dX6_over_18 : decode cX6_over 18 = .ok (.iconst 1, 1) := by decide +kernel
theorem dX6_over_19 : decode cX6_over 19 = .ok (.goto 13, 3) := by decide +kernel
theorem dX6_over_22 : decode cX6_over 22 = .ok (.iload_n 0, 1) := by decide +kernel
theorem dX6_over_23 : decode cX6_over 23 = .ok (.iconst 4, 1) := by decide +kernel
theorem dX6_over_24 : decode cX6_over 24 = .ok (.if_icmp .ne 7, 3) := by decide +kernel
theorem dX6_over_27 : decode cX6_over 27 = .ok (.iconst 2, 1) := by decide +kernel
theorem dX6_over_28 : decode cX6_over 28 = .ok (.goto 4, 3) := by decide +kernel
theorem dX6_over_31 : decode cX6_over 31 = .ok (.iconst 0, 1) := by decide +kernel
theorem dX6_over_32 : decode cX6_over 32 = .ok (.ireturn, 1) := by decide +kernel
theorem dX6_taken_0 : decode cX6_taken 0 = .ok (.iload_n 2, 1) := by decide +kernel
theorem dX6_taken_1 : decode cX6_taken 1 = .ok (.i2l, 1) := by decide +kernel
theorem dX6_taken_2 : decode cX6_taken 2 = .ok (.lconst 0, 1) := by decide +kernel
theorem dX6_taken_3 : decode cX6_taken 3 = .ok (.ldc2_w 108, 3) := by decide +kernel
theorem dX6_taken_6 : decode cX6_taken 6 = .ok (.invokestatic 97, 3) := by decide +kernel
theorem dX6_taken_9 : decode cX6_taken 9 = .ok (.ifCond .ne 6, 3) := by decide +kernel
theorem dX6_taken_12 : decode cX6_taken 12 = .ok (.bipush (-2), 2) := by decide +kernel
theorem dX6_taken_14 : decode cX6_taken 14 = .ok (.ireturn, 1) := by decide +kernel
theorem dX6_taken_15 : decode cX6_taken 15 = .ok (.aload_n 0, 1) := by decide +kernel
theorem dX6_taken_16 : decode cX6_taken 16 = .ok (.iload_n 1, 1) := by decide +kernel
theorem dX6_taken_17 : decode cX6_taken 17 = .ok (.invokevirtual 101, 3) := by decide +kernel
theorem dX6_taken_20 : decode cX6_taken 20 = .ok (.ifCond .ne 6, 3) := by decide +kernel
theorem dX6_taken_23 : decode cX6_taken 23 = .ok (.bipush (-11), 2) := by decide +kernel
theorem dX6_taken_25 : decode cX6_taken 25 = .ok (.ireturn, 1) := by decide +kernel
theorem dX6_taken_26 : decode cX6_taken 26 = .ok (.aload_n 0, 1) := by decide +kernel
theorem dX6_taken_27 : decode cX6_taken 27 = .ok (.getfield 23, 3) := by decide +kernel
theorem dX6_taken_30 : decode cX6_taken 30 = .ok (.iload_n 1, 1) := by decide +kernel
theorem dX6_taken_31 : decode cX6_taken 31 = .ok (.iaload, 1) := by decide +kernel
theorem dX6_taken_32 : decode cX6_taken 32 = .ok (.istore_n 3, 1) := by decide +kernel
theorem dX6_taken_33 : decode cX6_taken 33 = .ok (.iload_n 3, 1) := by decide +kernel
theorem dX6_taken_34 : decode cX6_taken 34 = .ok (.iconst (-1), 1) := by decide +kernel
theorem dX6_taken_35 : decode cX6_taken 35 = .ok (.if_icmp .eq 16, 3) := by decide +kernel
theorem dX6_taken_38 : decode cX6_taken 38 = .ok (.iload_n 3, 1) := by decide +kernel
theorem dX6_taken_39 : decode cX6_taken 39 = .ok (.iload_n 2, 1) := by decide +kernel
theorem dX6_taken_40 : decode cX6_taken 40 = .ok (.if_icmp .eq 11, 3) := by decide +kernel
theorem dX6_taken_43 : decode cX6_taken 43 = .ok (.iload_n 3, 1) := by decide +kernel
theorem dX6_taken_44 : decode cX6_taken 44 = .ok (.invokestatic 482, 3) := by decide +kernel
theorem dX6_taken_47 : decode cX6_taken 47 = .ok (.istore_n 3, 1) := by decide +kernel
theorem dX6_taken_48 : decode cX6_taken 48 = .ok (.goto (-15), 3) := by decide +kernel
theorem dX6_taken_51 : decode cX6_taken 51 = .ok (.iload_n 3, 1) := by decide +kernel
theorem dX6_taken_52 : decode cX6_taken 52 = .ok (.iload_n 2, 1) := by decide +kernel
theorem dX6_taken_53 : decode cX6_taken 53 = .ok (.if_icmp .ne 12, 3) := by decide +kernel
theorem dX6_taken_56 : decode cX6_taken 56 = .ok (.aload_n 0, 1) := by decide +kernel
theorem dX6_taken_57 : decode cX6_taken 57 = .ok (.getfield 26, 3) := by decide +kernel
theorem dX6_taken_60 : decode cX6_taken 60 = .ok (.iload_n 1, 1) := by decide +kernel
theorem dX6_taken_61 : decode cX6_taken 61 = .ok (.iaload, 1) := by decide +kernel
theorem dX6_taken_62 : decode cX6_taken 62 = .ok (.goto 5, 3) := by decide +kernel
theorem dX6_taken_65 : decode cX6_taken 65 = .ok (.bipush (-13), 2) := by decide +kernel
theorem dX6_taken_67 : decode cX6_taken 67 = .ok (.ireturn, 1) := by decide +kernel
