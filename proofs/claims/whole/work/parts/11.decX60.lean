theorem dX6_in_0 : decode cX6_in 0 = .ok (.lload_n 0, 1) := by decide +kernel
theorem dX6_in_1 : decode cX6_in 1 = .ok (.lload_n 2, 1) := by decide +kernel
theorem dX6_in_2 : decode cX6_in 2 = .ok (.lcmp, 1) := by decide +kernel
theorem dX6_in_3 : decode cX6_in 3 = .ok (.ifCond .lt 14, 3) := by decide +kernel
theorem dX6_in_6 : decode cX6_in 6 = .ok (.lload_n 0, 1) := by decide +kernel
theorem dX6_in_7 : decode cX6_in 7 = .ok (.lload 4, 2) := by decide +kernel
theorem dX6_in_9 : decode cX6_in 9 = .ok (.lcmp, 1) := by decide +kernel
theorem dX6_in_10 : decode cX6_in 10 = .ok (.ifCond .gt 7, 3) := by decide +kernel
theorem dX6_in_13 : decode cX6_in 13 = .ok (.iconst 1, 1) := by decide +kernel
theorem dX6_in_14 : decode cX6_in 14 = .ok (.goto 4, 3) := by decide +kernel
theorem dX6_in_17 : decode cX6_in 17 = .ok (.iconst 0, 1) := by decide +kernel
theorem dX6_in_18 : decode cX6_in 18 = .ok (.ireturn, 1) := by decide +kernel
theorem dX6_within_0 : decode cX6_within 0 = .ok (.iload_n 0, 1) := by decide +kernel
theorem dX6_within_1 : decode cX6_within 1 = .ok (.iload_n 1, 1) := by decide +kernel
theorem dX6_within_2 : decode cX6_within 2 = .ok (.if_icmp .ge 7, 3) := by decide +kernel
theorem dX6_within_5 : decode cX6_within 5 = .ok (.iload_n 1, 1) := by decide +kernel
theorem dX6_within_6 : decode cX6_within 6 = .ok (.goto 13, 3) := by decide +kernel
theorem dX6_within_9 : decode cX6_within 9 = .ok (.iload_n 0, 1) := by decide +kernel
theorem dX6_within_10 : decode cX6_within 10 = .ok (.iload_n 2, 1) := by decide +kernel
theorem dX6_within_11 : decode cX6_within 11 = .ok (.if_icmp .le 7, 3) := by decide +kernel
theorem dX6_within_14 : decode cX6_within 14 = .ok (.iload_n 2, 1) := by decide +kernel
theorem dX6_within_15 : decode cX6_within 15 = .ok (.goto 4, 3) := by decide +kernel
theorem dX6_within_18 : decode cX6_within 18 = .ok (.iload_n 0, 1) := by decide +kernel
theorem dX6_within_19 : decode cX6_within 19 = .ok (.ireturn, 1) := by decide +kernel
theorem dX6_bitsOf_0 : decode cX6_bitsOf 0 = .ok (.iconst 0, 1) := by decide +kernel
theorem dX6_bitsOf_1 : decode cX6_bitsOf 1 = .ok (.istore_n 1, 1) := by decide +kernel
theorem dX6_bitsOf_2 : decode cX6_bitsOf 2 = .ok (.iload_n 0, 1) := by decide +kernel
theorem dX6_bitsOf_3 : decode cX6_bitsOf 3 = .ok (.istore_n 2, 1) := by decide +kernel
theorem dX6_bitsOf_4 : decode cX6_bitsOf 4 = .ok (.iload_n 2, 1) := by decide +kernel
theorem dX6_bitsOf_5 : decode cX6_bitsOf 5 = .ok (.ifCond .eq 15, 3) := by decide +kernel
theorem dX6_bitsOf_8 : decode cX6_bitsOf 8 = .ok (.iinc 1 1, 3) := by decide +kernel
theorem dX6_bitsOf_11 : decode cX6_bitsOf 11 = .ok (.iload_n 2, 1) := by decide +kernel
theorem dX6_bitsOf_12 : decode cX6_bitsOf 12 = .ok (.iload_n 2, 1) := by decide +kernel
theorem dX6_bitsOf_13 : decode cX6_bitsOf 13 = .ok (.iconst 1, 1) := by decide +kernel
theorem dX6_bitsOf_14 : decode cX6_bitsOf 14 = .ok (.isub, 1) := by decide +kernel
theorem dX6_bitsOf_15 : decode cX6_bitsOf 15 = .ok (.iand, 1) := by decide +kernel
theorem dX6_bitsOf_16 : decode cX6_bitsOf 16 = .ok (.istore_n 2, 1) := by decide +kernel
theorem dX6_bitsOf_17 : decode cX6_bitsOf 17 = .ok (.goto (-13), 3) := by decide +kernel
theorem dX6_bitsOf_20 : decode cX6_bitsOf 20 = .ok (.iload_n 1, 1) := by decide +kernel
theorem dX6_bitsOf_21 : decode cX6_bitsOf 21 = .ok (.ireturn, 1) := by decide +kernel
theorem dX6_spell_0 : decode cX6_spell 0 = .ok (.aload_n 0, 1) := by decide +kernel
theorem dX6_spell_1 : decode cX6_spell 1 = .ok (.getfield 13, 3) := by decide +kernel
theorem dX6_spell_4 : decode cX6_spell 4 = .ok (.iload_n 1, 1) := by decide +kernel
theorem dX6_spell_5 : decode cX6_spell 5 = .ok (.iload_n 2, 1) := by decide +kernel
theorem dX6_spell_6 : decode cX6_spell 6 = .ok (.iastore, 1) := by decide +kernel
theorem dX6_spell_7 : decode cX6_spell 7 = .ok (.aload_n 0, 1) := by decide +kernel
theorem dX6_spell_8 : decode cX6_spell 8 = .ok (.getfield 13, 3) := by decide +kernel
theorem dX6_spell_11 : decode cX6_spell 11 = .ok (.iload_n 1, 1) := by decide +kernel
theorem dX6_spell_12 : decode cX6_spell 12 = .ok (.iconst 1, 1) := by decide +kernel
theorem dX6_spell_13 : decode cX6_spell 13 = .ok (.iadd, 1) := by decide +kernel
theorem dX6_spell_14 : decode cX6_spell 14 = .ok (.iload_n 3, 1) := by decide +kernel
theorem dX6_spell_15 : decode cX6_spell 15 = .ok (.iastore, 1) := by decide +kernel
theorem dX6_spell_16 : decode cX6_spell 16 = .ok (.aload_n 0, 1) := by decide +kernel
theorem dX6_spell_17 : decode cX6_spell 17 = .ok (.getfield 13, 3) := by decide +kernel
theorem dX6_spell_20 : decode cX6_spell 20 = .ok (.iload_n 1, 1) := by decide +kernel
theorem dX6_spell_21 : decode cX6_spell 21 = .ok (.iconst 2, 1) := by decide +kernel
theorem dX6_spell_22 : decode cX6_spell 22 = .ok (.iadd, 1) := by decide +kernel
theorem dX6_spell_23 : decode cX6_spell 23 = .ok (.iload 4, 2) := by decide +kernel
theorem dX6_spell_25 : decode cX6_spell 25 = .ok (.iastore, 1) := by decide +kernel
theorem dX6_spell_26 : decode cX6_spell 26 = .ok (.aload_n 0, 1) := by decide +kernel
theorem dX6_spell_27 : decode cX6_spell 27 = .ok (.getfield 13, 3) := by decide +kernel
theorem dX6_spell_30 : decode cX6_spell 30 = .ok (.iload_n 1, 1) := by decide +kernel
theorem dX6_spell_31 : decode cX6_spell 31 = .ok (.iconst 3, 1) := by decide +kernel
theorem dX6_spell_32 : decode cX6_spell 32 = .ok (.iadd, 1) := by decide +kernel
theorem dX6_spell_33 : decode cX6_spell 33 = .ok (.iload 5, 2) := by decide +kernel
theorem dX6_spell_35 : decode cX6_spell 35 = .ok (.iastore, 1) := by decide +kernel
theorem dX6_spell_36 : decode cX6_spell 36 = .ok (.aload_n 0, 1) := by decide +kernel
theorem dX6_spell_37 : decode cX6_spell 37 = .ok (.getfield 13, 3) := by decide +kernel
theorem dX6_spell_40 : decode cX6_spell 40 = .ok (.iload_n 1, 1) := by decide +kernel
theorem dX6_spell_41 : decode cX6_spell 41 = .ok (.iconst 4, 1) := by decide +kernel
theorem dX6_spell_42 : decode cX6_spell 42 = .ok (.iadd, 1) := by decide +kernel
theorem dX6_spell_43 : decode cX6_spell 43 = .ok (.iload 6, 2) := by decide +kernel
theorem dX6_spell_45 : decode cX6_spell 45 = .ok (.iastore, 1) := by decide +kernel
theorem dX6_spell_46 : decode cX6_spell 46 = .ok (.aload_n 0, 1) := by decide +kernel
theorem dX6_spell_47 : decode cX6_spell 47 = .ok (.getfield 13, 3) := by decide +kernel
theorem dX6_spell_50 : decode cX6_spell 50 = .ok (.iload_n 1, 1) := by decide +kernel
theorem dX6_spell_51 : decode cX6_spell 51 = .ok (.iconst 5, 1) := by decide +kernel
theorem dX6_spell_52 : decode cX6_spell 52 = .ok (.iadd, 1) := by decide +kernel
theorem dX6_spell_53 : decode cX6_spell 53 = .ok (.iload 7, 2) := by decide +kernel
theorem dX6_spell_55 : decode cX6_spell 55 = .ok (.iastore, 1) := by decide +kernel
theorem dX6_spell_56 : decode cX6_spell 56 = .ok (.aload_n 0, 1) := by decide +kernel
theorem dX6_spell_57 : decode cX6_spell 57 = .ok (.getfield 13, 3) := by decide +kernel
theorem dX6_spell_60 : decode cX6_spell 60 = .ok (.iload_n 1, 1) := by decide +kernel
theorem dX6_spell_61 : decode cX6_spell 61 = .ok (.bipush 6, 2) := by decide +kernel
theorem dX6_spell_63 : decode cX6_spell 63 = .ok (.iadd, 1) := by decide +kernel
theorem dX6_spell_64 : decode cX6_spell 64 = .ok (.iload 8, 2) := by decide +kernel
theorem dX6_spell_66 : decode cX6_spell 66 = .ok (.iastore, 1) := by decide +kernel
theorem dX6_spell_67 : decode cX6_spell 67 = .ok (.aload_n 0, 1) := by decide +kernel
theorem dX6_spell_68 : decode cX6_spell 68 = .ok (.getfield 13, 3) := by decide +kernel
theorem dX6_spell_71 : decode cX6_spell 71 = .ok (.iload_n 1, 1) := by decide +kernel
theorem dX6_spell_72 : decode cX6_spell 72 = .ok (.bipush 7, 2) := by decide +kernel
theorem dX6_spell_74 : decode cX6_spell 74 = .ok (.iadd, 1) := by decide +kernel
theorem dX6_spell_75 : decode cX6_spell 75 = .ok (.iload 9, 2) := by decide +kernel
theorem dX6_spell_77 : decode cX6_spell 77 = .ok (.iastore, 1) := by decide +kernel
theorem dX6_spell_78 : decode cX6_spell 78 = .ok (.return_, 1) := by decide +kernel
theorem dX6_isOne_0 : decode cX6_isOne 0 = .ok (.iload_n 1, 1) := by decide +kernel
theorem dX6_isOne_1 : decode cX6_isOne 1 = .ok (.i2l, 1) := by decide +kernel
theorem dX6_isOne_2 : decode cX6_isOne 2 = .ok (.lconst 0, 1) := by decide +kernel
theorem dX6_isOne_3 : decode cX6_isOne 3 = .ok (.aload_n 0, 1) := by decide +kernel
theorem dX6_isOne_4 : decode cX6_isOne 4 = .ok (.getfield 94, 3) := by decide +kernel
theorem dX6_isOne_7 : decode cX6_isOne 7 = .ok (.iconst 1, 1) := by decide +kernel
theorem dX6_isOne_8 : decode cX6_isOne 8 = .ok (.isub, 1) := by decide +kernel
theorem dX6_isOne_9 : decode cX6_isOne 9 = .ok (.i2l, 1) := by decide +kernel
theorem dX6_isOne_10 : decode cX6_isOne 10 = .ok (.invokestatic 97, 3) := by decide +kernel
theorem dX6_isOne_13 : decode cX6_isOne 13 = .ok (.ireturn, 1) := by decide +kernel
theorem dX6_isIn_0 : decode cX6_isIn 0 = .ok (.aload_n 0, 1) := by decide +kernel
theorem dX6_isIn_1 : decode cX6_isIn 1 = .ok (.iload_n 1, 1) := by decide +kernel
theorem dX6_isIn_2 : decode cX6_isIn 2 = .ok (.invokevirtual 101, 3) := by decide +kernel
theorem dX6_isIn_5 : decode cX6_isIn 5 = .ok (.ifCond .eq 19, 3) := by decide +kernel
theorem dX6_isIn_8 : decode cX6_isIn 8 = .ok (.aload_n 0, 1) := by decide +kernel
theorem dX6_isIn_9 : decode cX6_isIn 9 = .ok (.getfield 105, 3) := by decide +kernel
theorem dX6_isIn_12 : decode cX6_isIn 12 = .ok (.iload_n 1, 1) := by decide +kernel
theorem dX6_isIn_13 : decode cX6_isIn 13 = .ok (.ishr, 1) := by decide +kernel
theorem dX6_isIn_14 : decode cX6_isIn 14 = .ok (.iconst 1, 1) := by decide +kernel
theorem dX6_isIn_15 : decode cX6_isIn 15 = .ok (.iand, 1) := by decide +kernel
theorem dX6_isIn_16 : decode cX6_isIn 16 = .ok (.iconst 1, 1) := by decide +kernel
theorem dX6_isIn_17 : decode cX6_isIn 17 = .ok (.if_icmp .ne 7, 3) := by decide +kernel
theorem dX6_isIn_20 : decode cX6_isIn 20 = .ok (.iconst 1, 1) := by decide +kernel
theorem dX6_isIn_21 : decode cX6_isIn 21 = .ok (.goto 4, 3) := by decide +kernel
theorem dX6_isIn_24 : decode cX6_isIn 24 = .ok (.iconst 0, 1) := by decide +kernel
theorem dX6_isIn_25 : decode cX6_isIn 25 = .ok (.ireturn, 1) := by decide +kernel
theorem dX6_inmate_0 : decode cX6_inmate 0 = .ok (.iload_n 1, 1) := by decide +kernel
theorem dX6_inmate_1 : decode cX6_inmate 1 = .ok (.i2l, 1) := by decide +kernel
theorem dX6_inmate_2 : decode cX6_inmate 2 = .ok (.lconst 0, 1) := by decide +kernel
theorem dX6_inmate_3 : decode cX6_inmate 3 = .ok (.ldc2_w 108, 3) := by decide +kernel
theorem dX6_inmate_6 : decode cX6_inmate 6 = .ok (.invokestatic 97, 3) := by decide +kernel
theorem dX6_inmate_9 : decode cX6_inmate 9 = .ok (.ifCond .eq 15, 3) := by decide +kernel
theorem dX6_inmate_12 : decode cX6_inmate 12 = .ok (.iload_n 2, 1) := by decide +kernel
theorem dX6_inmate_13 : decode cX6_inmate 13 = .ok (.i2l, 1) := by decide +kernel
theorem dX6_inmate_14 : decode cX6_inmate 14 = .ok (.lconst 0, 1) := by decide +kernel
theorem dX6_inmate_15 : decode cX6_inmate 15 = .ok (.ldc2_w 110, 3) := by decide +kernel
theorem dX6_inmate_18 : decode cX6_inmate 18 = .ok (.invokestatic 97, 3) := by decide +kernel
theorem dX6_inmate_21 : decode cX6_inmate 21 = .ok (.ifCond .ne 6, 3) := by decide +kernel
theorem dX6_inmate_24 : decode cX6_inmate 24 = .ok (.bipush (-2), 2) := by decide +kernel
theorem dX6_inmate_26 : decode cX6_inmate 26 = .ok (.ireturn, 1) := by decide +kernel
theorem dX6_inmate_27 : decode cX6_inmate 27 = .ok (.aload_n 0, 1) := by decide +kernel
theorem dX6_inmate_28 : decode cX6_inmate 28 = .ok (.getfield 94, 3) := by decide +kernel
theorem dX6_inmate_31 : decode cX6_inmate 31 = .ok (.bipush 7, 2) := by decide +kernel
theorem dX6_inmate_33 : decode cX6_inmate 33 = .ok (.if_icmp .ne 6, 3) := by decide +kernel
theorem dX6_inmate_36 : decode cX6_inmate 36 = .ok (.bipush (-4), 2) := by decide +kernel
theorem dX6_inmate_38 : decode cX6_inmate 38 = .ok (.ireturn, 1) := by decide +kernel
theorem dX6_inmate_39 : decode cX6_inmate 39 = .ok (.aload_n 0, 1) := by decide +kernel
theorem dX6_inmate_40 : decode cX6_inmate 40 = .ok (.getfield 23, 3) := by decide +kernel
theorem dX6_inmate_43 : decode cX6_inmate 43 = .ok (.aload_n 0, 1) := by decide +kernel
theorem dX6_inmate_44 : decode cX6_inmate 44 = .ok (.getfield 94, 3) := by decide +kernel
theorem dX6_inmate_47 : decode cX6_inmate 47 = .ok (.iload_n 1, 1) := by decide +kernel
theorem dX6_inmate_48 : decode cX6_inmate 48 = .ok (.iastore, 1) := by decide +kernel
theorem dX6_inmate_49 : decode cX6_inmate 49 = .ok (.aload_n 0, 1) := by decide +kernel
theorem dX6_inmate_50 : decode cX6_inmate 50 = .ok (.getfield 26, 3) := by decide +kernel
theorem dX6_inmate_53 : decode cX6_inmate 53 = .ok (.aload_n 0, 1) := by decide +kernel
theorem dX6_inmate_54 : decode cX6_inmate 54 = .ok (.getfield 94, 3) := by decide +kernel
theorem dX6_inmate_57 : decode cX6_inmate 57 = .ok (.iload_n 2, 1) := by decide +kernel
theorem dX6_inmate_58 : decode cX6_inmate 58 = .ok (.iastore, 1) := by decide +kernel
theorem dX6_inmate_59 : decode cX6_inmate 59 = .ok (.aload_n 0, 1) := by decide +kernel
theorem dX6_inmate_60 : decode cX6_inmate 60 = .ok (.getfield 32, 3) := by decide +kernel
theorem dX6_inmate_63 : decode cX6_inmate 63 = .ok (.aload_n 0, 1) := by decide +kernel
theorem dX6_inmate_64 : decode cX6_inmate 64 = .ok (.getfield 94, 3) := by decide +kernel
theorem dX6_inmate_67 : decode cX6_inmate 67 = .ok (.iconst 0, 1) := by decide +kernel
theorem dX6_inmate_68 : decode cX6_inmate 68 = .ok (.iastore, 1) := by decide +kernel
theorem dX6_inmate_69 : decode cX6_inmate 69 = .ok (.iconst 0, 1) := by decide +kernel
theorem dX6_inmate_70 : decode cX6_inmate 70 = .ok (.istore_n 3, 1) := by decide +kernel
theorem dX6_inmate_71 : decode cX6_inmate 71 = .ok (.iload_n 3, 1) := by decide +kernel
theorem dX6_inmate_72 : decode cX6_inmate 72 = .ok (.bipush 7, 2) := by decide +kernel
theorem dX6_inmate_74 : decode cX6_inmate 74 = .ok (.if_icmp .ge 56, 3) := by decide +kernel
theorem dX6_inmate_77 : decode cX6_inmate 77 = .ok (.aload_n 0, 1) := by decide +kernel
theorem dX6_inmate_78 : decode cX6_inmate 78 = .ok (.getfield 29, 3) := by decide +kernel
theorem dX6_inmate_81 : decode cX6_inmate 81 = .ok (.bipush 7, 2) := by decide +kernel
theorem dX6_inmate_83 : decode cX6_inmate 83 = .ok (.aload_n 0, 1) := by decide +kernel
theorem dX6_inmate_84 : decode cX6_inmate 84 = .ok (.getfield 94, 3) := by decide +kernel
theorem dX6_inmate_87 : decode cX6_inmate 87 = .ok (.imul, 1) := by decide +kernel
theorem dX6_inmate_88 : decode cX6_inmate 88 = .ok (.iload_n 3, 1) := by decide +kernel
theorem dX6_inmate_89 : decode cX6_inmate 89 = .ok (.iadd, 1) := by decide +kernel
theorem dX6_inmate_90 : decode cX6_inmate 90 = .ok (.iconst 5, 1) := by decide +kernel
theorem dX6_inmate_91 : decode cX6_inmate 91 = .ok (.iastore, 1) := by decide +kernel
theorem dX6_inmate_92 : decode cX6_inmate 92 = .ok (.aload_n 0, 1) := by decide +kernel
theorem dX6_inmate_93 : decode cX6_inmate 93 = .ok (.getfield 29, 3) := by decide +kernel
theorem dX6_inmate_96 : decode cX6_inmate 96 = .ok (.bipush 7, 2) := by decide +kernel
theorem dX6_inmate_98 : decode cX6_inmate 98 = .ok (.iload_n 3, 1) := by decide +kernel
theorem dX6_inmate_99 : decode cX6_inmate 99 = .ok (.imul, 1) := by decide +kernel
theorem dX6_inmate_100 : decode cX6_inmate 100 = .ok (.aload_n 0, 1) := by decide +kernel
theorem dX6_inmate_101 : decode cX6_inmate 101 = .ok (.getfield 94, 3) := by decide +kernel
theorem dX6_inmate_104 : decode cX6_inmate 104 = .ok (.iadd, 1) := by decide +kernel
theorem dX6_inmate_105 : decode cX6_inmate 105 = .ok (.iconst 5, 1) := by decide +kernel
theorem dX6_inmate_106 : decode cX6_inmate 106 = .ok (.iastore, 1) := by decide +kernel
theorem dX6_inmate_107 : decode cX6_inmate 107 = .ok (.aload_n 0, 1) := by decide +kernel
theorem dX6_inmate_108 : decode cX6_inmate 108 = .ok (.getfield 32, 3) := by decide +kernel
theorem dX6_inmate_111 : decode cX6_inmate 111 = .ok (.iload_n 3, 1) := by decide +kernel
theorem dX6_inmate_112 : decode cX6_inmate 112 = .ok (.dup2, 1) := by decide +kernel
theorem dX6_inmate_113 : decode cX6_inmate 113 = .ok (.iaload, 1) := by decide +kernel
theorem dX6_inmate_114 : decode cX6_inmate 114 = .ok (.iconst 1, 1) := by decide +kernel
theorem dX6_inmate_115 : decode cX6_inmate 115 = .ok (.aload_n 0, 1) := by decide +kernel
theorem dX6_inmate_116 : decode cX6_inmate 116 = .ok (.getfield 94, 3) := by decide +kernel
theorem dX6_inmate_119 : decode cX6_inmate 119 = .ok (.ishl, 1) := by decide +kernel
theorem dX6_inmate_120 : decode cX6_inmate 120 = .ok (.iconst (-1), 1) := by decide +kernel
theorem dX6_inmate_121 : decode cX6_inmate 121 = .ok (.ixor, 1) := by decide +kernel
theorem dX6_inmate_122 : decode cX6_inmate 122 = .ok (.iand, 1) := by decide +kernel
theorem dX6_inmate_123 : decode cX6_inmate 123 = .ok (.iastore, 1) := by decide +kernel
theorem dX6_inmate_124 : decode cX6_inmate 124 = .ok (.iinc 3 1, 3) := by decide +kernel
theorem dX6_inmate_127 : decode cX6_inmate 127 = .ok (.goto (-56), 3) := by decide +kernel
theorem dX6_inmate_130 : decode cX6_inmate 130 = .ok (.aload_n 0, 1) := by decide +kernel
theorem dX6_inmate_131 : decode cX6_inmate 131 = .ok (.dup, 1) := by decide +kernel
theorem dX6_inmate_132 : decode cX6_inmate 132 = .ok (.getfield 105, 3) := by decide +kernel
theorem dX6_inmate_135 : decode cX6_inmate 135 = .ok (.iconst 1, 1) := by decide +kernel
theorem dX6_inmate_136 : decode cX6_inmate 136 = .ok (.aload_n 0, 1) := by decide +kernel
theorem dX6_inmate_137 : decode cX6_inmate 137 = .ok (.getfield 94, 3) := by decide +kernel
theorem dX6_inmate_140 : decode cX6_inmate 140 = .ok (.ishl, 1) := by decide +kernel
theorem dX6_inmate_141 : decode cX6_inmate 141 = .ok (.ior, 1) := by decide +kernel
theorem dX6_inmate_142 : decode cX6_inmate 142 = .ok (.putfield 105, 3) := by decide +kernel
theorem dX6_inmate_145 : decode cX6_inmate 145 = .ok (.aload_n 0, 1) := by decide +kernel
theorem dX6_inmate_146 : decode cX6_inmate 146 = .ok (.dup, 1) := by decide +kernel
theorem dX6_inmate_147 : decode cX6_inmate 147 = .ok (.getfield 94, 3) := by decide +kernel
theorem dX6_inmate_150 : decode cX6_inmate 150 = .ok (.iconst 1, 1) := by decide +kernel
theorem dX6_inmate_151 : decode cX6_inmate 151 = .ok (.iadd, 1) := by decide +kernel
theorem dX6_inmate_152 : decode cX6_inmate 152 = .ok (.putfield 94, 3) := by decide +kernel
theorem dX6_inmate_155 : decode cX6_inmate 155 = .ok (.aload_n 0, 1) := by decide +kernel
theorem dX6_inmate_156 : decode cX6_inmate 156 = .ok (.getfield 94, 3) := by decide +kernel
theorem dX6_inmate_159 : decode cX6_inmate 159 = .ok (.iconst 1, 1) := by decide +kernel
theorem dX6_inmate_160 : decode cX6_inmate 160 = .ok (.isub, 1) := by decide +kernel
theorem dX6_inmate_161 : decode cX6_inmate 161 = .ok (.ireturn, 1) := by decide +kernel
theorem dX6_like_0 : decode cX6_like 0 = .ok (.aload_n 0, 1) := by decide +kernel
theorem dX6_like_1 : decode cX6_like 1 = .ok (.iload_n 1, 1) := by decide +kernel
theorem dX6_like_2 : decode cX6_like 2 = .ok (.invokevirtual 101, 3) := by decide +kernel
theorem dX6_like_5 : decode cX6_like 5 = .ok (.ifCond .eq 28, 3) := by decide +kernel
theorem dX6_like_8 : decode cX6_like 8 = .ok (.aload_n 0, 1) := by decide +kernel
theorem dX6_like_9 : decode cX6_like 9 = .ok (.iload_n 2, 1) := by decide +kernel
theorem dX6_like_10 : decode cX6_like 10 = .ok (.invokevirtual 101, 3) := by decide +kernel
theorem dX6_like_13 : decode cX6_like 13 = .ok (.ifCond .eq 20, 3) := by decide +kernel
theorem dX6_like_16 : decode cX6_like 16 = .ok (.iload_n 1, 1) := by decide +kernel
theorem dX6_like_17 : decode cX6_like 17 = .ok (.iload_n 2, 1) := by decide +kernel
theorem dX6_like_18 : decode cX6_like 18 = .ok (.if_icmp .eq 15, 3) := by decide +kernel
theorem dX6_like_21 : decode cX6_like 21 = .ok (.iload_n 3, 1) := by decide +kernel
theorem dX6_like_22 : decode cX6_like 22 = .ok (.i2l, 1) := by decide +kernel
theorem dX6_like_23 : decode cX6_like 23 = .ok (.lconst 0, 1) := by decide +kernel
theorem dX6_like_24 : decode cX6_like 24 = .ok (.ldc2_w 110, 3) := by decide +kernel
theorem dX6_like_27 : decode cX6_like 27 = .ok (.invokestatic 97, 3) := by decide +kernel
theorem dX6_like_30 : decode cX6_like 30 = .ok (.ifCond .ne 6, 3) := by decide +kernel
theorem dX6_like_33 : decode cX6_like 33 = .ok (.bipush (-2), 2) := by decide +kernel
theorem dX6_like_35 : decode cX6_like 35 = .ok (.ireturn, 1) := by decide +kernel
theorem dX6_like_36 : decode cX6_like 36 = .ok (.aload_n 0, 1) := by decide +kernel
theorem dX6_like_37 : decode cX6_like 37 = .ok (.getfield 29, 3) := by decide +kernel
theorem dX6_like_40 : decode cX6_like 40 = .ok (.bipush 7, 2) := by decide +kernel
theorem dX6_like_42 : decode cX6_like 42 = .ok (.iload_n 1, 1) := by decide +kernel
theorem dX6_like_43 : decode cX6_like 43 = .ok (.imul, 1) := by decide +kernel
theorem dX6_like_44 : decode cX6_like 44 = .ok (.iload_n 2, 1) := by decide +kernel
theorem dX6_like_45 : decode cX6_like 45 = .ok (.iadd, 1) := by decide +kernel
theorem dX6_like_46 : decode cX6_like 46 = .ok (.iaload, 1) := by decide +kernel
theorem dX6_like_47 : decode cX6_like 47 = .ok (.istore 4, 2) := by decide +kernel
theorem dX6_like_49 : decode cX6_like 49 = .ok (.aload_n 0, 1) := by decide +kernel
theorem dX6_like_50 : decode cX6_like 50 = .ok (.getfield 29, 3) := by decide +kernel
theorem dX6_like_53 : decode cX6_like 53 = .ok (.bipush 7, 2) := by decide +kernel
theorem dX6_like_55 : decode cX6_like 55 = .ok (.iload_n 1, 1) := by decide +kernel
theorem dX6_like_56 : decode cX6_like 56 = .ok (.imul, 1) := by decide +kernel
theorem dX6_like_57 : decode cX6_like 57 = .ok (.iload_n 2, 1) := by decide +kernel
theorem dX6_like_58 : decode cX6_like 58 = .ok (.iadd, 1) := by decide +kernel
theorem dX6_like_59 : decode cX6_like 59 = .ok (.iload_n 3, 1) := by decide +kernel
theorem dX6_like_60 : decode cX6_like 60 = .ok (.iastore, 1) := by decide +kernel
theorem dX6_like_61 : decode cX6_like 61 = .ok (.iload 4, 2) := by decide +kernel
theorem dX6_like_63 : decode cX6_like 63 = .ok (.ireturn, 1) := by decide +kernel
theorem dX6_areSworn_0 : decode cX6_areSworn 0 = .ok (.aload_n 0, 1) := by decide +kernel
theorem dX6_areSworn_1 : decode cX6_areSworn 1 = .ok (.getfield 32, 3) := by decide +kernel
theorem dX6_areSworn_4 : decode cX6_areSworn 4 = .ok (.iload_n 1, 1) := by decide +kernel
theorem dX6_areSworn_5 : decode cX6_areSworn 5 = .ok (.iaload, 1) := by decide +kernel
theorem dX6_areSworn_6 : decode cX6_areSworn 6 = .ok (.iload_n 2, 1) := by decide +kernel
theorem dX6_areSworn_7 : decode cX6_areSworn 7 = .ok (.ishr, 1) := by decide +kernel
theorem dX6_areSworn_8 : decode cX6_areSworn 8 = .ok (.iconst 1, 1) := by decide +kernel
theorem dX6_areSworn_9 : decode cX6_areSworn 9 = .ok (.iand, 1) := by decide +kernel
theorem dX6_areSworn_10 : decode cX6_areSworn 10 = .ok (.iconst 1, 1) := by decide +kernel
theorem dX6_areSworn_11 : decode cX6_areSworn 11 = .ok (.if_icmp .ne 7, 3) := by decide +kernel
theorem dX6_areSworn_14 : decode cX6_areSworn 14 = .ok (.iconst 1, 1) := by decide +kernel
theorem dX6_areSworn_15 : decode cX6_areSworn 15 = .ok (.goto 4, 3) := by decide +kernel
theorem dX6_areSworn_18 : decode cX6_areSworn 18 = .ok (.iconst 0, 1) := by decide +kernel
theorem dX6_areSworn_19 : decode cX6_areSworn 19 = .ok (.ireturn, 1) := by decide +kernel
theorem dX6_swears_0 : decode cX6_swears 0 = .ok (.aload_n 0, 1) := by decide +kernel
theorem dX6_swears_1 : decode cX6_swears 1 = .ok (.getfield 32, 3) := by decide +kernel
theorem dX6_swears_4 : decode cX6_swears 4 = .ok (.iload_n 1, 1) := by decide +kernel
theorem dX6_swears_5 : decode cX6_swears 5 = .ok (.aload_n 0, 1) := by decide +kernel
theorem dX6_swears_6 : decode cX6_swears 6 = .ok (.getfield 32, 3) := by decide +kernel
theorem dX6_swears_9 : decode cX6_swears 9 = .ok (.iload_n 1, 1) := by decide +kernel
theorem dX6_swears_10 : decode cX6_swears 10 = .ok (.iaload, 1) := by decide +kernel
theorem dX6_swears_11 : decode cX6_swears 11 = .ok (.iconst 1, 1) := by decide +kernel
theorem dX6_swears_12 : decode cX6_swears 12 = .ok (.iload_n 2, 1) := by decide +kernel
theorem dX6_swears_13 : decode cX6_swears 13 = .ok (.ishl, 1) := by decide +kernel
theorem dX6_swears_14 : decode cX6_swears 14 = .ok (.iconst (-1), 1) := by decide +kernel
theorem dX6_swears_15 : decode cX6_swears 15 = .ok (.ixor, 1) := by decide +kernel
theorem dX6_swears_16 : decode cX6_swears 16 = .ok (.iand, 1) := by decide +kernel
theorem dX6_swears_17 : decode cX6_swears 17 = .ok (.iload_n 3, 1) := by decide +kernel
theorem dX6_swears_18 : decode cX6_swears 18 = .ok (.iload_n 2, 1) := by decide +kernel
theorem dX6_swears_19 : decode cX6_swears 19 = .ok (.ishl, 1) := by decide +kernel
theorem dX6_swears_20 : decode cX6_swears 20 = .ok (.ior, 1) := by decide +kernel
theorem dX6_swears_21 : decode cX6_swears 21 = .ok (.iastore, 1) := by decide +kernel
theorem dX6_swears_22 : decode cX6_swears 22 = .ok (.aload_n 0, 1) := by decide +kernel
theorem dX6_swears_23 : decode cX6_swears 23 = .ok (.getfield 32, 3) := by decide +kernel
theorem dX6_swears_26 : decode cX6_swears 26 = .ok (.iload_n 2, 1) := by decide +kernel
theorem dX6_swears_27 : decode cX6_swears 27 = .ok (.aload_n 0, 1) := by decide +kernel
theorem dX6_swears_28 : decode cX6_swears 28 = .ok (.getfield 32, 3) := by decide +kernel
theorem dX6_swears_31 : decode cX6_swears 31 = .ok (.iload_n 2, 1) := by decide +kernel
theorem dX6_swears_32 : decode cX6_swears 32 = .ok (.iaload, 1) := by decide +kernel
theorem dX6_swears_33 : decode cX6_swears 33 = .ok (.iconst 1, 1) := by decide +kernel
theorem dX6_swears_34 : decode cX6_swears 34 = .ok (.iload_n 1, 1) := by decide +kernel
theorem dX6_swears_35 : decode cX6_swears 35 = .ok (.ishl, 1) := by decide +kernel
theorem dX6_swears_36 : decode cX6_swears 36 = .ok (.iconst (-1), 1) := by decide +kernel
theorem dX6_swears_37 : decode cX6_swears 37 = .ok (.ixor, 1) := by decide +kernel
theorem dX6_swears_38 : decode cX6_swears 38 = .ok (.iand, 1) := by decide +kernel
theorem dX6_swears_39 : decode cX6_swears 39 = .ok (.iload_n 3, 1) := by decide +kernel
theorem dX6_swears_40 : decode cX6_swears 40 = .ok (.iload_n 1, 1) := by decide +kernel
theorem dX6_swears_41 : decode cX6_swears 41 = .ok (.ishl, 1) := by decide +kernel
theorem dX6_swears_42 : decode cX6_swears 42 = .ok (.ior, 1) := by decide +kernel
theorem dX6_swears_43 : decode cX6_swears 43 = .ok (.iastore, 1) := by decide +kernel
theorem dX6_swears_44 : decode cX6_swears 44 = .ok (.return_, 1) := by decide +kernel
theorem dX6_swear_0 : decode cX6_swear 0 = .ok (.aload_n 0, 1) := by decide +kernel
theorem dX6_swear_1 : decode cX6_swear 1 = .ok (.iload_n 1, 1) := by decide +kernel
theorem dX6_swear_2 : decode cX6_swear 2 = .ok (.invokevirtual 101, 3) := by decide +kernel
theorem dX6_swear_5 : decode cX6_swear 5 = .ok (.ifCond .eq 26, 3) := by decide +kernel
theorem dX6_swear_8 : decode cX6_swear 8 = .ok (.aload_n 0, 1) := by decide +kernel
theorem dX6_swear_9 : decode cX6_swear 9 = .ok (.iload_n 2, 1) := by decide +kernel
theorem dX6_swear_10 : decode cX6_swear 10 = .ok (.invokevirtual 101, 3) := by decide +kernel
theorem dX6_swear_13 : decode cX6_swear 13 = .ok (.ifCond .eq 18, 3) := by decide +kernel
theorem dX6_swear_16 : decode cX6_swear 16 = .ok (.iload_n 1, 1) := by decide +kernel
theorem dX6_swear_17 : decode cX6_swear 17 = .ok (.iload_n 2, 1) := by decide +kernel
theorem dX6_swear_18 : decode cX6_swear 18 = .ok (.if_icmp .eq 13, 3) := by decide +kernel
theorem dX6_swear_21 : decode cX6_swear 21 = .ok (.iload_n 3, 1) := by decide +kernel
theorem dX6_swear_22 : decode cX6_swear 22 = .ok (.i2l, 1) := by decide +kernel
theorem dX6_swear_23 : decode cX6_swear 23 = .ok (.lconst 0, 1) := by decide +kernel
theorem dX6_swear_24 : decode cX6_swear 24 = .ok (.lconst 1, 1) := by decide +kernel
theorem dX6_swear_25 : decode cX6_swear 25 = .ok (.invokestatic 97, 3) := by decide +kernel
theorem dX6_swear_28 : decode cX6_swear 28 = .ok (.ifCond .ne 6, 3) := by decide +kernel
theorem dX6_swear_31 : decode cX6_swear 31 = .ok (.bipush (-2), 2) := by decide +kernel
theorem dX6_swear_33 : decode cX6_swear 33 = .ok (.ireturn, 1) := by decide +kernel
theorem dX6_swear_34 : decode cX6_swear 34 = .ok (.aload_n 0, 1) := by decide +kernel
theorem dX6_swear_35 : decode cX6_swear 35 = .ok (.iload_n 1, 1) := by decide +kernel
theorem dX6_swear_36 : decode cX6_swear 36 = .ok (.iload_n 2, 1) := by decide +kernel
theorem dX6_swear_37 : decode cX6_swear 37 = .ok (.invokevirtual 112, 3) := by decide +kernel
theorem dX6_swear_40 : decode cX6_swear 40 = .ok (.ifCond .eq 7, 3) := by decide +kernel
theorem dX6_swear_43 : decode cX6_swear 43 = .ok (.iconst 1, 1) := by decide +kernel
theorem dX6_swear_44 : decode cX6_swear 44 = .ok (.goto 4, 3) := by decide +kernel
theorem dX6_swear_47 : decode cX6_swear 47 = .ok (.iconst 0, 1) := by decide +kernel
theorem dX6_swear_48 : decode cX6_swear 48 = .ok (.istore 4, 2) := by decide +kernel
theorem dX6_swear_50 : decode cX6_swear 50 = .ok (.aload_n 0, 1) := by decide +kernel
theorem dX6_swear_51 : decode cX6_swear 51 = .ok (.iload_n 1, 1) := by decide +kernel
theorem dX6_swear_52 : decode cX6_swear 52 = .ok (.iload_n 2, 1) := by decide +kernel
theorem dX6_swear_53 : decode cX6_swear 53 = .ok (.iload_n 3, 1) := by decide +kernel
theorem dX6_swear_54 : decode cX6_swear 54 = .ok (.invokevirtual 116, 3) := by decide +kernel
theorem dX6_swear_57 : decode cX6_swear 57 = .ok (.iload 4, 2) := by decide +kernel
theorem dX6_swear_59 : decode cX6_swear 59 = .ok (.ireturn, 1) := by decide +kernel
theorem dX6_set_0 : decode cX6_set 0 = .ok (.iload_n 1, 1) := by decide +kernel
theorem dX6_set_1 : decode cX6_set 1 = .ok (.i2l, 1) := by decide +kernel
theorem dX6_set_2 : decode cX6_set 2 = .ok (.lconst 0, 1) := by decide +kernel
theorem dX6_set_3 : decode cX6_set 3 = .ok (.ldc2_w 120, 3) := by decide +kernel
theorem dX6_set_6 : decode cX6_set 6 = .ok (.invokestatic 97, 3) := by decide +kernel
theorem dX6_set_9 : decode cX6_set 9 = .ok (.ifCond .eq 80, 3) := by decide +kernel
theorem dX6_set_12 : decode cX6_set 12 = .ok (.iload_n 1, 1) := by decide +kernel
theorem dX6_set_13 : decode cX6_set 13 = .ok (.iconst 2, 1) := by decide +kernel
theorem dX6_set_14 : decode cX6_set 14 = .ok (.if_icmp .le 11, 3) := by decide +kernel
theorem dX6_set_17 : decode cX6_set 17 = .ok (.aload_n 0, 1) := by decide +kernel
theorem dX6_set_18 : decode cX6_set 18 = .ok (.iload_n 2, 1) := by decide +kernel
theorem dX6_set_19 : decode cX6_set 19 = .ok (.invokevirtual 101, 3) := by decide +kernel
theorem dX6_set_22 : decode cX6_set 22 = .ok (.ifCond .eq 67, 3) := by decide +kernel
theorem dX6_set_25 : decode cX6_set 25 = .ok (.iload_n 3, 1) := by decide +kernel
theorem dX6_set_26 : decode cX6_set 26 = .ok (.i2l, 1) := by decide +kernel
theorem dX6_set_27 : decode cX6_set 27 = .ok (.iload_n 1, 1) := by decide +kernel
theorem dX6_set_28 : decode cX6_set 28 = .ok (.iconst 1, 1) := by decide +kernel
theorem dX6_set_29 : decode cX6_set 29 = .ok (.if_icmp .ne 9, 3) := by decide +kernel
theorem dX6_set_32 : decode cX6_set 32 = .ok (.ldc2_w 122, 3) := by decide +kernel
theorem dX6_set_35 : decode cX6_set 35 = .ok (.goto 4, 3) := by decide +kernel
theorem dX6_set_38 : decode cX6_set 38 = .ok (.lconst 0, 1) := by decide +kernel
theorem dX6_set_39 : decode cX6_set 39 = .ok (.iload_n 1, 1) := by decide +kernel
theorem dX6_set_40 : decode cX6_set 40 = .ok (.ifCond .ne 9, 3) := by decide +kernel
theorem dX6_set_43 : decode cX6_set 43 = .ok (.ldc2_w 124, 3) := by decide +kernel
theorem dX6_set_46 : decode cX6_set 46 = .ok (.goto 37, 3) := by decide +kernel
theorem dX6_set_49 : decode cX6_set 49 = .ok (.iload_n 1, 1) := by decide +kernel
theorem dX6_set_50 : decode cX6_set 50 = .ok (.iconst 1, 1) := by decide +kernel
theorem dX6_set_51 : decode cX6_set 51 = .ok (.if_icmp .ne 9, 3) := by decide +kernel
theorem dX6_set_54 : decode cX6_set 54 = .ok (.ldc2_w 108, 3) := by decide +kernel
theorem dX6_set_57 : decode cX6_set 57 = .ok (.goto 26, 3) := by decide +kernel
theorem dX6_set_60 : decode cX6_set 60 = .ok (.iload_n 1, 1) := by decide +kernel
theorem dX6_set_61 : decode cX6_set 61 = .ok (.iconst 2, 1) := by decide +kernel
theorem dX6_set_62 : decode cX6_set 62 = .ok (.if_icmp .ne 9, 3) := by decide +kernel
theorem dX6_set_65 : decode cX6_set 65 = .ok (.ldc2_w 126, 3) := by decide +kernel
theorem dX6_set_68 : decode cX6_set 68 = .ok (.goto 15, 3) := by decide +kernel
theorem dX6_set_71 : decode cX6_set 71 = .ok (.iload_n 1, 1) := by decide +kernel
theorem dX6_set_72 : decode cX6_set 72 = .ok (.iconst 3, 1) := by decide +kernel
theorem dX6_set_73 : decode cX6_set 73 = .ok (.if_icmp .ne 9, 3) := by decide +kernel
theorem dX6_set_76 : decode cX6_set 76 = .ok (.ldc2_w 110, 3) := by decide +kernel
theorem dX6_set_79 : decode cX6_set 79 = .ok (.goto 4, 3) := by decide +kernel
theorem dX6_set_82 : decode cX6_set 82 = .ok (.lconst 1, 1) := by decide +kernel
theorem dX6_set_83 : decode cX6_set 83 = .ok (.invokestatic 97, 3) := by decide +kernel
theorem dX6_set_86 : decode cX6_set 86 = .ok (.ifCond .ne 6, 3) := by decide +kernel
theorem dX6_set_89 : decode cX6_set 89 = .ok (.bipush (-2), 2) := by decide +kernel
theorem dX6_set_91 : decode cX6_set 91 = .ok (.ireturn, 1) := by decide +kernel
theorem dX6_set_92 : decode cX6_set 92 = .ok (.iload_n 1, 1) := by decide +kernel
theorem dX6_set_93 : decode cX6_set 93 = .ok (.ifCond .ne 10, 3) := by decide +kernel
theorem dX6_set_96 : decode cX6_set 96 = .ok (.aload_n 0, 1) := by decide +kernel
theorem dX6_set_97 : decode cX6_set 97 = .ok (.getfield 35, 3) := by decide +kernel
theorem dX6_set_100 : decode cX6_set 100 = .ok (.goto 49, 3) := by decide +kernel
theorem dX6_set_103 : decode cX6_set 103 = .ok (.iload_n 1, 1) := by decide +kernel
theorem dX6_set_104 : decode cX6_set 104 = .ok (.iconst 1, 1) := by decide +kernel
theorem dX6_set_105 : decode cX6_set 105 = .ok (.if_icmp .ne 10, 3) := by decide +kernel
theorem dX6_set_108 : decode cX6_set 108 = .ok (.aload_n 0, 1) := by decide +kernel
theorem dX6_set_109 : decode cX6_set 109 = .ok (.getfield 38, 3) := by decide +kernel
theorem dX6_set_112 : decode cX6_set 112 = .ok (.goto 37, 3) := by decide +kernel
theorem dX6_set_115 : decode cX6_set 115 = .ok (.iload_n 1, 1) := by decide +kernel
theorem dX6_set_116 : decode cX6_set 116 = .ok (.iconst 2, 1) := by decide +kernel
theorem dX6_set_117 : decode cX6_set 117 = .ok (.if_icmp .ne 10, 3) := by decide +kernel
theorem dX6_set_120 : decode cX6_set 120 = .ok (.aload_n 0, 1) := by decide +kernel
theorem dX6_set_121 : decode cX6_set 121 = .ok (.getfield 128, 3) := by decide +kernel
theorem dX6_set_124 : decode cX6_set 124 = .ok (.goto 25, 3) := by decide +kernel
theorem dX6_set_127 : decode cX6_set 127 = .ok (.iload_n 1, 1) := by decide +kernel
theorem dX6_set_128 : decode cX6_set 128 = .ok (.iconst 3, 1) := by decide +kernel
theorem dX6_set_129 : decode cX6_set 129 = .ok (.if_icmp .ne 12, 3) := by decide +kernel
theorem dX6_set_132 : decode cX6_set 132 = .ok (.aload_n 0, 1) := by decide +kernel
theorem dX6_set_133 : decode cX6_set 133 = .ok (.getfield 26, 3) := by decide +kernel
theorem dX6_set_136 : decode cX6_set 136 = .ok (.iload_n 2, 1) := by decide +kernel
theorem dX6_set_137 : decode cX6_set 137 = .ok (.iaload, 1) := by decide +kernel
theorem dX6_set_138 : decode cX6_set 138 = .ok (.goto 11, 3) := by decide +kernel
theorem dX6_set_141 : decode cX6_set 141 = .ok (.aload_n 0, 1) := by decide +kernel
theorem dX6_set_142 : decode cX6_set 142 = .ok (.getfield 105, 3) := by decide +kernel
theorem dX6_set_145 : decode cX6_set 145 = .ok (.iload_n 2, 1) := by decide +kernel
theorem dX6_set_146 : decode cX6_set 146 = .ok (.ishr, 1) := by decide +kernel
theorem dX6_set_147 : decode cX6_set 147 = .ok (.iconst 1, 1) := by decide +kernel
theorem dX6_set_148 : decode cX6_set 148 = .ok (.iand, 1) := by decide +kernel
theorem dX6_set_149 : decode cX6_set 149 = .ok (.istore 4, 2) := by decide +kernel
theorem dX6_set_151 : decode cX6_set 151 = .ok (.iload_n 1, 1) := by decide +kernel
theorem dX6_set_152 : decode cX6_set 152 = .ok (.ifCond .ne 11, 3) := by decide +kernel
theorem dX6_set_155 : decode cX6_set 155 = .ok (.aload_n 0, 1) := by decide +kernel
theorem dX6_set_156 : decode cX6_set 156 = .ok (.iload_n 3, 1) := by decide +kernel
theorem dX6_set_157 : decode cX6_set 157 = .ok (.putfield 35, 3) := by decide +kernel
theorem dX6_set_160 : decode cX6_set 160 = .ok (.goto 62, 3) := by decide +kernel
theorem dX6_set_163 : decode cX6_set 163 = .ok (.iload_n 1, 1) := by decide +kernel
theorem dX6_set_164 : decode cX6_set 164 = .ok (.iconst 1, 1) := by decide +kernel
theorem dX6_set_165 : decode cX6_set 165 = .ok (.if_icmp .ne 11, 3) := by decide +kernel
theorem dX6_set_168 : decode cX6_set 168 = .ok (.aload_n 0, 1) := by decide +kernel
theorem dX6_set_169 : decode cX6_set 169 = .ok (.iload_n 3, 1) := by decide +kernel
theorem dX6_set_170 : decode cX6_set 170 = .ok (.putfield 38, 3) := by decide +kernel
theorem dX6_set_173 : decode cX6_set 173 = .ok (.goto 49, 3) := by decide +kernel
theorem dX6_set_176 : decode cX6_set 176 = .ok (.iload_n 1, 1) := by decide +kernel
theorem dX6_set_177 : decode cX6_set 177 = .ok (.iconst 2, 1) := by decide +kernel
theorem dX6_set_178 : decode cX6_set 178 = .ok (.if_icmp .ne 11, 3) := by decide +kernel
theorem dX6_set_181 : decode cX6_set 181 = .ok (.aload_n 0, 1) := by decide +kernel
theorem dX6_set_182 : decode cX6_set 182 = .ok (.iload_n 3, 1) := by decide +kernel
theorem dX6_set_183 : decode cX6_set 183 = .ok (.putfield 128, 3) := by decide +kernel
theorem dX6_set_186 : decode cX6_set 186 = .ok (.goto 36, 3) := by decide +kernel
theorem dX6_set_189 : decode cX6_set 189 = .ok (.iload_n 1, 1) := by decide +kernel
theorem dX6_set_190 : decode cX6_set 190 = .ok (.iconst 3, 1) := by decide +kernel
theorem dX6_set_191 : decode cX6_set 191 = .ok (.if_icmp .ne 13, 3) := by decide +kernel
theorem dX6_set_194 : decode cX6_set 194 = .ok (.aload_n 0, 1) := by decide +kernel
theorem dX6_set_195 : decode cX6_set 195 = .ok (.getfield 26, 3) := by decide +kernel
theorem dX6_set_198 : decode cX6_set 198 = .ok (.iload_n 2, 1) := by decide +kernel
theorem dX6_set_199 : decode cX6_set 199 = .ok (.iload_n 3, 1) := by decide +kernel
theorem dX6_set_200 : decode cX6_set 200 = .ok (.iastore, 1) := by decide +kernel
theorem dX6_set_201 : decode cX6_set 201 = .ok (.goto 21, 3) := by decide +kernel
theorem dX6_set_204 : decode cX6_set 204 = .ok (.aload_n 0, 1) := by decide +kernel
theorem dX6_set_205 : decode cX6_set 205 = .ok (.aload_n 0, 1) := by decide +kernel
theorem dX6_set_206 : decode cX6_set 206 = .ok (.getfield 105, 3) := by decide +kernel
theorem dX6_set_209 : decode cX6_set 209 = .ok (.iconst 1, 1) := by decide +kernel
theorem dX6_set_210 : decode cX6_set 210 = .ok (.iload_n 2, 1) := by decide +kernel
theorem dX6_set_211 : decode cX6_set 211 = .ok (.ishl, 1) := by decide +kernel
theorem dX6_set_212 : decode cX6_set 212 = .ok (.iconst (-1), 1) := by decide +kernel
theorem dX6_set_213 : decode cX6_set 213 = .ok (.ixor, 1) := by decide +kernel
theorem dX6_set_214 : decode cX6_set 214 = .ok (.iand, 1) := by decide +kernel
theorem dX6_set_215 : decode cX6_set 215 = .ok (.iload_n 3, 1) := by decide +kernel
theorem dX6_set_216 : decode cX6_set 216 = .ok (.iload_n 2, 1) := by decide +kernel
theorem dX6_set_217 : decode cX6_set 217 = .ok (.ishl, 1) := by decide +kernel
theorem dX6_set_218 : decode cX6_set 218 = .ok (.ior, 1) := by decide +kernel
theorem dX6_set_219 : decode cX6_set 219 = .ok (.putfield 105, 3) := by decide +kernel
theorem dX6_set_222 : decode cX6_set 222 = .ok (.iload 4, 2) := by decide +kernel
theorem dX6_set_224 : decode cX6_set 224 = .ok (.ireturn, 1) := by decide +kernel
theorem dX6_brings_0 : decode cX6_brings 0 = .ok (.aload_n 0, 1) := by decide +kernel
theorem dX6_brings_1 : decode cX6_brings 1 = .ok (.getfield 23, 3) := by decide +kernel
theorem dX6_brings_4 : decode cX6_brings 4 = .ok (.iload_n 1, 1) := by decide +kernel
theorem dX6_brings_5 : decode cX6_brings 5 = .ok (.iaload, 1) := by decide +kernel
theorem dX6_brings_6 : decode cX6_brings 6 = .ok (.istore_n 3, 1) := by decide +kernel
theorem dX6_brings_7 : decode cX6_brings 7 = .ok (.aload_n 0, 1) := by decide +kernel
theorem dX6_brings_8 : decode cX6_brings 8 = .ok (.getfield 26, 3) := by decide +kernel
theorem dX6_brings_11 : decode cX6_brings 11 = .ok (.iload_n 1, 1) := by decide +kernel
theorem dX6_brings_12 : decode cX6_brings 12 = .ok (.iaload, 1) := by decide +kernel
theorem dX6_brings_13 : decode cX6_brings 13 = .ok (.iload_n 2, 1) := by decide +kernel
theorem dX6_brings_14 : decode cX6_brings 14 = .ok (.iadd, 1) := by decide +kernel
theorem dX6_brings_15 : decode cX6_brings 15 = .ok (.istore 4, 2) := by decide +kernel
theorem dX6_brings_17 : decode cX6_brings 17 = .ok (.iload_n 2, 1) := by decide +kernel
theorem dX6_brings_18 : decode cX6_brings 18 = .ok (.iconst 4, 1) := by decide +kernel
theorem dX6_brings_19 : decode cX6_brings 19 = .ok (.if_icmp .ge 12, 3) := by decide +kernel
theorem dX6_brings_22 : decode cX6_brings 22 = .ok (.aload_n 0, 1) := by decide +kernel
theorem dX6_brings_23 : decode cX6_brings 23 = .ok (.getfield 26, 3) := by decide +kernel
theorem dX6_brings_26 : decode cX6_brings 26 = .ok (.iload_n 1, 1) := by decide +kernel
theorem dX6_brings_27 : decode cX6_brings 27 = .ok (.iaload, 1) := by decide +kernel
theorem dX6_brings_28 : decode cX6_brings 28 = .ok (.goto 4, 3) := by decide +kernel
theorem dX6_brings_31 : decode cX6_brings 31 = .ok (.iconst 0, 1) := by decide +kernel
theorem dX6_brings_32 : decode cX6_brings 32 = .ok (.istore 5, 2) := by decide +kernel
theorem dX6_brings_34 : decode cX6_brings 34 = .ok (.iload_n 3, 1) := by decide +kernel
theorem dX6_brings_35 : decode cX6_brings 35 = .ok (.iconst 1, 1) := by decide +kernel
theorem dX6_brings_36 : decode cX6_brings 36 = .ok (.if_icmp .eq 13, 3) := by decide +kernel
theorem dX6_brings_39 : decode cX6_brings 39 = .ok (.iload_n 3, 1) := by decide +kernel
theorem dX6_brings_40 : decode cX6_brings 40 = .ok (.iconst 3, 1) := by decide +kernel
theorem dX6_brings_41 : decode cX6_brings 41 = .ok (.if_icmp .eq 8, 3) := by decide +kernel
theorem dX6_brings_44 : decode cX6_brings 44 = .ok (.iload_n 3, 1) := by decide +kernel
theorem dX6_brings_45 : decode cX6_brings 45 = .ok (.iconst 5, 1) := by decide +kernel
theorem dX6_brings_46 : decode cX6_brings 46 = .ok (.if_icmp .ne 31, 3) := by decide +kernel
theorem dX6_brings_49 : decode cX6_brings 49 = .ok (.iload_n 3, 1) := by decide +kernel
theorem dX6_brings_50 : decode cX6_brings 50 = .ok (.iconst 3, 1) := by decide +kernel
theorem dX6_brings_51 : decode cX6_brings 51 = .ok (.if_icmp .ne 10, 3) := by decide +kernel
theorem dX6_brings_54 : decode cX6_brings 54 = .ok (.iconst 2, 1) := by decide +kernel
theorem dX6_brings_55 : decode cX6_brings 55 = .ok (.iload 4, 2) := by decide +kernel
theorem dX6_brings_57 : decode cX6_brings 57 = .ok (.imul, 1) := by decide +kernel
theorem dX6_brings_58 : decode cX6_brings 58 = .ok (.goto 18, 3) := by decide +kernel
theorem dX6_brings_61 : decode cX6_brings 61 = .ok (.iload_n 3, 1) := by decide +kernel
theorem dX6_brings_62 : decode cX6_brings 62 = .ok (.iconst 5, 1) := by decide +kernel
theorem dX6_brings_63 : decode cX6_brings 63 = .ok (.if_icmp .ne 11, 3) := by decide +kernel
theorem dX6_brings_66 : decode cX6_brings 66 = .ok (.iload 4, 2) := by decide +kernel
theorem dX6_brings_68 : decode cX6_brings 68 = .ok (.bipush 12, 2) := by decide +kernel
theorem dX6_brings_70 : decode cX6_brings 70 = .ok (.isub, 1) := by decide +kernel
theorem dX6_brings_71 : decode cX6_brings 71 = .ok (.goto 5, 3) := by decide +kernel
theorem dX6_brings_74 : decode cX6_brings 74 = .ok (.iload 4, 2) := by decide +kernel
theorem dX6_brings_76 : decode cX6_brings 76 = .ok (.ireturn, 1) := by decide +kernel
theorem dX6_brings_77 : decode cX6_brings 77 = .ok (.iload_n 3, 1) := by decide +kernel
theorem dX6_brings_78 : decode cX6_brings 78 = .ok (.iconst 2, 1) := by decide +kernel
theorem dX6_brings_79 : decode cX6_brings 79 = .ok (.if_icmp .ne 8, 3) := by decide +kernel
theorem dX6_brings_82 : decode cX6_brings 82 = .ok (.iload 5, 2) := by decide +kernel
theorem dX6_brings_84 : decode cX6_brings 84 = .ok (.goto 16, 3) := by decide +kernel
theorem dX6_brings_87 : decode cX6_brings 87 = .ok (.iload_n 3, 1) := by decide +kernel
theorem dX6_brings_88 : decode cX6_brings 88 = .ok (.iconst 4, 1) := by decide +kernel
theorem dX6_brings_89 : decode cX6_brings 89 = .ok (.if_icmp .ne 10, 3) := by decide +kernel
theorem dX6_brings_92 : decode cX6_brings 92 = .ok (.iload 5, 2) := by decide +kernel
theorem dX6_brings_94 : decode cX6_brings 94 = .ok (.iconst 3, 1) := by decide +kernel
theorem dX6_brings_95 : decode cX6_brings 95 = .ok (.isub, 1) := by decide +kernel
theorem dX6_brings_96 : decode cX6_brings 96 = .ok (.goto 4, 3) := by decide +kernel
theorem dX6_brings_99 : decode cX6_brings 99 = .ok (.iconst 0, 1) := by decide +kernel
theorem dX6_brings_100 : decode cX6_brings 100 = .ok (.ireturn, 1) := by decide +kernel
theorem dX6_wants_0 : decode cX6_wants 0 = .ok (.aload_n 0, 1) := by decide +kernel
theorem dX6_wants_1 : decode cX6_wants 1 = .ok (.getfield 23, 3) := by decide +kernel
theorem dX6_wants_4 : decode cX6_wants 4 = .ok (.iload_n 1, 1) := by decide +kernel
theorem dX6_wants_5 : decode cX6_wants 5 = .ok (.iaload, 1) := by decide +kernel
theorem dX6_wants_6 : decode cX6_wants 6 = .ok (.istore 4, 2) := by decide +kernel
theorem dX6_wants_8 : decode cX6_wants 8 = .ok (.iconst 1, 1) := by decide +kernel
theorem dX6_wants_9 : decode cX6_wants 9 = .ok (.istore 5, 2) := by decide +kernel
theorem dX6_wants_11 : decode cX6_wants 11 = .ok (.iload 4, 2) := by decide +kernel
theorem dX6_wants_13 : decode cX6_wants 13 = .ok (.iconst 1, 1) := by decide +kernel
theorem dX6_wants_14 : decode cX6_wants 14 = .ok (.if_icmp .ne 8, 3) := by decide +kernel
theorem dX6_wants_17 : decode cX6_wants 17 = .ok (.iconst 1, 1) := by decide +kernel
theorem dX6_wants_18 : decode cX6_wants 18 = .ok (.iload_n 2, 1) := by decide +kernel
theorem dX6_wants_19 : decode cX6_wants 19 = .ok (.iadd, 1) := by decide +kernel
theorem dX6_wants_20 : decode cX6_wants 20 = .ok (.istore 5, 2) := by decide +kernel
theorem dX6_wants_22 : decode cX6_wants 22 = .ok (.iload 4, 2) := by decide +kernel
theorem dX6_wants_24 : decode cX6_wants 24 = .ok (.iconst 2, 1) := by decide +kernel
theorem dX6_wants_25 : decode cX6_wants 25 = .ok (.if_icmp .ne 13, 3) := by decide +kernel
theorem dX6_wants_28 : decode cX6_wants 28 = .ok (.iconst 1, 1) := by decide +kernel
theorem dX6_wants_29 : decode cX6_wants 29 = .ok (.aload_n 0, 1) := by decide +kernel
theorem dX6_wants_30 : decode cX6_wants 30 = .ok (.getfield 26, 3) := by decide +kernel
theorem dX6_wants_33 : decode cX6_wants 33 = .ok (.iload_n 1, 1) := by decide +kernel
theorem dX6_wants_34 : decode cX6_wants 34 = .ok (.iaload, 1) := by decide +kernel
theorem dX6_wants_35 : decode cX6_wants 35 = .ok (.iadd, 1) := by decide +kernel
theorem dX6_wants_36 : decode cX6_wants 36 = .ok (.istore 5, 2) := by decide +kernel
theorem dX6_wants_38 : decode cX6_wants 38 = .ok (.iload 4, 2) := by decide +kernel
theorem dX6_wants_40 : decode cX6_wants 40 = .ok (.iconst 3, 1) := by decide +kernel
theorem dX6_wants_41 : decode cX6_wants 41 = .ok (.if_icmp .ne 16, 3) := by decide +kernel
theorem dX6_wants_44 : decode cX6_wants 44 = .ok (.iload_n 3, 1) := by decide +kernel
theorem dX6_wants_45 : decode cX6_wants 45 = .ok (.ifCond .eq 9, 3) := by decide +kernel
theorem dX6_wants_48 : decode cX6_wants 48 = .ok (.iconst 1, 1) := by decide +kernel
theorem dX6_wants_49 : decode cX6_wants 49 = .ok (.iload_n 2, 1) := by decide +kernel
theorem dX6_wants_50 : decode cX6_wants 50 = .ok (.iadd, 1) := by decide +kernel
theorem dX6_wants_51 : decode cX6_wants 51 = .ok (.goto 4, 3) := by decide +kernel
theorem dX6_wants_54 : decode cX6_wants 54 = .ok (.iconst 0, 1) := by decide +kernel
theorem dX6_wants_55 : decode cX6_wants 55 = .ok (.istore 5, 2) := by decide +kernel
theorem dX6_wants_57 : decode cX6_wants 57 = .ok (.iload 4, 2) := by decide +kernel
theorem dX6_wants_59 : decode cX6_wants 59 = .ok (.iconst 4, 1) := by decide +kernel
theorem dX6_wants_60 : decode cX6_wants 60 = .ok (.if_icmp .ne 23, 3) := by decide +kernel
theorem dX6_wants_63 : decode cX6_wants 63 = .ok (.iload_n 3, 1) := by decide +kernel
theorem dX6_wants_64 : decode cX6_wants 64 = .ok (.ifCond .eq 7, 3) := by decide +kernel
theorem dX6_wants_67 : decode cX6_wants 67 = .ok (.iconst 2, 1) := by decide +kernel
theorem dX6_wants_68 : decode cX6_wants 68 = .ok (.goto 4, 3) := by decide +kernel
theorem dX6_wants_71 : decode cX6_wants 71 = .ok (.iconst 1, 1) := by decide +kernel
theorem dX6_wants_72 : decode cX6_wants 72 = .ok (.iconst 1, 1) := by decide +kernel
theorem dX6_wants_73 : decode cX6_wants 73 = .ok (.aload_n 0, 1) := by decide +kernel
theorem dX6_wants_74 : decode cX6_wants 74 = .ok (.getfield 26, 3) := by decide +kernel
theorem dX6_wants_77 : decode cX6_wants 77 = .ok (.iload_n 1, 1) := by decide +kernel
theorem dX6_wants_78 : decode cX6_wants 78 = .ok (.iaload, 1) := by decide +kernel
theorem dX6_wants_79 : decode cX6_wants 79 = .ok (.iadd, 1) := by decide +kernel
theorem dX6_wants_80 : decode cX6_wants 80 = .ok (.imul, 1) := by decide +kernel
theorem dX6_wants_81 : decode cX6_wants 81 = .ok (.istore 5, 2) := by decide +kernel
theorem dX6_wants_83 : decode cX6_wants 83 = .ok (.iload 4, 2) := by decide +kernel
theorem dX6_wants_85 : decode cX6_wants 85 = .ok (.iconst 5, 1) := by decide +kernel
theorem dX6_wants_86 : decode cX6_wants 86 = .ok (.if_icmp .ne 8, 3) := by decide +kernel
theorem dX6_wants_89 : decode cX6_wants 89 = .ok (.iload_n 2, 1) := by decide +kernel
theorem dX6_wants_90 : decode cX6_wants 90 = .ok (.iconst 4, 1) := by decide +kernel
theorem dX6_wants_91 : decode cX6_wants 91 = .ok (.isub, 1) := by decide +kernel
theorem dX6_wants_92 : decode cX6_wants 92 = .ok (.istore 5, 2) := by decide +kernel
theorem dX6_wants_94 : decode cX6_wants 94 = .ok (.iload 5, 2) := by decide +kernel
theorem dX6_wants_96 : decode cX6_wants 96 = .ok (.ifCond .ge 7, 3) := by decide +kernel
theorem dX6_wants_99 : decode cX6_wants 99 = .ok (.iconst 0, 1) := by decide +kernel
theorem dX6_wants_100 : decode cX6_wants 100 = .ok (.goto 5, 3) := by decide +kernel
theorem dX6_wants_103 : decode cX6_wants 103 = .ok (.iload 5, 2) := by decide +kernel
theorem dX6_wants_105 : decode cX6_wants 105 = .ok (.ireturn, 1) := by decide +kernel
theorem dX6_feed_0 : decode cX6_feed 0 = .ok (.iload_n 1, 1) := by decide +kernel
theorem dX6_feed_1 : decode cX6_feed 1 = .ok (.i2l, 1) := by decide +kernel
theorem dX6_feed_2 : decode cX6_feed 2 = .ok (.lconst 0, 1) := by decide +kernel
theorem dX6_feed_3 : decode cX6_feed 3 = .ok (.ldc2_w 131, 3) := by decide +kernel
theorem dX6_feed_6 : decode cX6_feed 6 = .ok (.invokestatic 97, 3) := by decide +kernel
theorem dX6_feed_9 : decode cX6_feed 9 = .ok (.ifCond .ne 6, 3) := by decide +kernel
theorem dX6_feed_12 : decode cX6_feed 12 = .ok (.bipush (-2), 2) := by decide +kernel
theorem dX6_feed_14 : decode cX6_feed 14 = .ok (.ireturn, 1) := by decide +kernel
theorem dX6_feed_15 : decode cX6_feed 15 = .ok (.aload_n 0, 1) := by decide +kernel
theorem dX6_feed_16 : decode cX6_feed 16 = .ok (.getfield 133, 3) := by decide +kernel
theorem dX6_feed_19 : decode cX6_feed 19 = .ok (.sipush 160, 3) := by decide +kernel
theorem dX6_feed_22 : decode cX6_feed 22 = .ok (.if_icmp .ne 6, 3) := by decide +kernel
theorem dX6_feed_25 : decode cX6_feed 25 = .ok (.bipush (-4), 2) := by decide +kernel
theorem dX6_feed_27 : decode cX6_feed 27 = .ok (.ireturn, 1) := by decide +kernel
theorem dX6_feed_28 : decode cX6_feed 28 = .ok (.aload_n 0, 1) := by decide +kernel
theorem dX6_feed_29 : decode cX6_feed 29 = .ok (.getfield 20, 3) := by decide +kernel
theorem dX6_feed_32 : decode cX6_feed 32 = .ok (.aload_n 0, 1) := by decide +kernel
theorem dX6_feed_33 : decode cX6_feed 33 = .ok (.getfield 133, 3) := by decide +kernel
theorem dX6_feed_36 : decode cX6_feed 36 = .ok (.iload_n 1, 1) := by decide +kernel
theorem dX6_feed_37 : decode cX6_feed 37 = .ok (.iastore, 1) := by decide +kernel
theorem dX6_feed_38 : decode cX6_feed 38 = .ok (.aload_n 0, 1) := by decide +kernel
theorem dX6_feed_39 : decode cX6_feed 39 = .ok (.dup, 1) := by decide +kernel
theorem dX6_feed_40 : decode cX6_feed 40 = .ok (.getfield 133, 3) := by decide +kernel
theorem dX6_feed_43 : decode cX6_feed 43 = .ok (.iconst 1, 1) := by decide +kernel
theorem dX6_feed_44 : decode cX6_feed 44 = .ok (.iadd, 1) := by decide +kernel
theorem dX6_feed_45 : decode cX6_feed 45 = .ok (.putfield 133, 3) := by decide +kernel
theorem dX6_feed_48 : decode cX6_feed 48 = .ok (.aload_n 0, 1) := by decide +kernel
theorem dX6_feed_49 : decode cX6_feed 49 = .ok (.getfield 133, 3) := by decide +kernel
theorem dX6_feed_52 : decode cX6_feed 52 = .ok (.ireturn, 1) := by decide +kernel
theorem dX6_byteAt_0 : decode cX6_byteAt 0 = .ok (.iload_n 1, 1) := by decide +kernel
theorem dX6_byteAt_1 : decode cX6_byteAt 1 = .ok (.aload_n 0, 1) := by decide +kernel
theorem dX6_byteAt_2 : decode cX6_byteAt 2 = .ok (.getfield 136, 3) := by decide +kernel
theorem dX6_byteAt_5 : decode cX6_byteAt 5 = .ok (.if_icmp .ge 17, 3) := by decide +kernel
theorem dX6_byteAt_8 : decode cX6_byteAt 8 = .ok (.aload_n 0, 1) := by decide +kernel
theorem dX6_byteAt_9 : decode cX6_byteAt 9 = .ok (.getfield 13, 3) := by decide +kernel
theorem dX6_byteAt_12 : decode cX6_byteAt 12 = .ok (.aload_n 0, 1) := by decide +kernel
theorem dX6_byteAt_13 : decode cX6_byteAt 13 = .ok (.getfield 139, 3) := by decide +kernel
theorem dX6_byteAt_16 : decode cX6_byteAt 16 = .ok (.iload_n 1, 1) := by decide +kernel
theorem dX6_byteAt_17 : decode cX6_byteAt 17 = .ok (.iadd, 1) := by decide +kernel
theorem dX6_byteAt_18 : decode cX6_byteAt 18 = .ok (.iaload, 1) := by decide +kernel
theorem dX6_byteAt_19 : decode cX6_byteAt 19 = .ok (.goto 4, 3) := by decide +kernel
theorem dX6_byteAt_22 : decode cX6_byteAt 22 = .ok (.iconst (-1), 1) := by decide +kernel
theorem dX6_byteAt_23 : decode cX6_byteAt 23 = .ok (.ireturn, 1) := by decide +kernel
theorem dX6_next_0 : decode cX6_next 0 = .ok (.aload_n 0, 1) := by decide +kernel
theorem dX6_next_1 : decode cX6_next 1 = .ok (.aload_n 0, 1) := by decide +kernel
theorem dX6_next_2 : decode cX6_next 2 = .ok (.getfield 142, 3) := by decide +kernel
theorem dX6_next_5 : decode cX6_next 5 = .ok (.invokevirtual 145, 3) := by decide +kernel
theorem dX6_next_8 : decode cX6_next 8 = .ok (.bipush 32, 2) := by decide +kernel
theorem dX6_next_10 : decode cX6_next 10 = .ok (.if_icmp .eq 16, 3) := by decide +kernel
theorem dX6_next_13 : decode cX6_next 13 = .ok (.aload_n 0, 1) := by decide +kernel
theorem dX6_next_14 : decode cX6_next 14 = .ok (.aload_n 0, 1) := by decide +kernel
theorem dX6_next_15 : decode cX6_next 15 = .ok (.getfield 142, 3) := by decide +kernel
theorem dX6_next_18 : decode cX6_next 18 = .ok (.invokevirtual 145, 3) := by decide +kernel
theorem dX6_next_21 : decode cX6_next 21 = .ok (.bipush 10, 2) := by decide +kernel
theorem dX6_next_23 : decode cX6_next 23 = .ok (.if_icmp .ne 16, 3) := by decide +kernel
theorem dX6_next_26 : decode cX6_next 26 = .ok (.aload_n 0, 1) := by decide +kernel
theorem dX6_next_27 : decode cX6_next 27 = .ok (.dup, 1) := by decide +kernel
theorem dX6_next_28 : decode cX6_next 28 = .ok (.getfield 142, 3) := by decide +kernel
theorem dX6_next_31 : decode cX6_next 31 = .ok (.iconst 1, 1) := by decide +kernel
theorem dX6_next_32 : decode cX6_next 32 = .ok (.iadd, 1) := by decide +kernel
theorem dX6_next_33 : decode cX6_next 33 = .ok (.putfield 142, 3) := by decide +kernel
theorem dX6_next_36 : decode cX6_next 36 = .ok (.goto (-36), 3) := by decide +kernel
theorem dX6_next_39 : decode cX6_next 39 = .ok (.aload_n 0, 1) := by decide +kernel
theorem dX6_next_40 : decode cX6_next 40 = .ok (.aload_n 0, 1) := by decide +kernel
theorem dX6_next_41 : decode cX6_next 41 = .ok (.getfield 142, 3) := by decide +kernel
theorem dX6_next_44 : decode cX6_next 44 = .ok (.putfield 149, 3) := by decide +kernel
theorem dX6_next_47 : decode cX6_next 47 = .ok (.aload_n 0, 1) := by decide +kernel
theorem dX6_next_48 : decode cX6_next 48 = .ok (.aload_n 0, 1) := by decide +kernel
theorem dX6_next_49 : decode cX6_next 49 = .ok (.getfield 142, 3) := by decide +kernel
theorem dX6_next_52 : decode cX6_next 52 = .ok (.invokevirtual 145, 3) := by decide +kernel
theorem dX6_next_55 : decode cX6_next 55 = .ok (.istore_n 1, 1) := by decide +kernel
theorem dX6_next_56 : decode cX6_next 56 = .ok (.aload_n 0, 1) := by decide +kernel
theorem dX6_next_57 : decode cX6_next 57 = .ok (.iconst 4, 1) := by decide +kernel
theorem dX6_next_58 : decode cX6_next 58 = .ok (.putfield 152, 3) := by decide +kernel
theorem dX6_next_61 : decode cX6_next 61 = .ok (.iload_n 1, 1) := by decide +kernel
theorem dX6_next_62 : decode cX6_next 62 = .ok (.ifCond .ge 19, 3) := by decide +kernel
theorem dX6_next_65 : decode cX6_next 65 = .ok (.aload_n 0, 1) := by decide +kernel
theorem dX6_next_66 : decode cX6_next 66 = .ok (.iconst 0, 1) := by decide +kernel
theorem dX6_next_67 : decode cX6_next 67 = .ok (.putfield 152, 3) := by decide +kernel
theorem dX6_next_70 : decode cX6_next 70 = .ok (.aload_n 0, 1) := by decide +kernel
theorem dX6_next_71 : decode cX6_next 71 = .ok (.aload_n 0, 1) := by decide +kernel
theorem dX6_next_72 : decode cX6_next 72 = .ok (.getfield 136, 3) := by decide +kernel
theorem dX6_next_75 : decode cX6_next 75 = .ok (.putfield 149, 3) := by decide +kernel
theorem dX6_next_78 : decode cX6_next 78 = .ok (.goto 243, 3) := by decide +kernel
theorem dX6_next_81 : decode cX6_next 81 = .ok (.iload_n 1, 1) := by decide +kernel
theorem dX6_next_82 : decode cX6_next 82 = .ok (.i2l, 1) := by decide +kernel
theorem dX6_next_83 : decode cX6_next 83 = .ok (.ldc2_w 155, 3) := by decide +kernel
theorem dX6_next_86 : decode cX6_next 86 = .ok (.ldc2_w 157, 3) := by decide +kernel
theorem dX6_next_89 : decode cX6_next 89 = .ok (.invokestatic 97, 3) := by decide +kernel
theorem dX6_next_92 : decode cX6_next 92 = .ok (.ifCond .eq 42, 3) := by decide +kernel
theorem dX6_next_95 : decode cX6_next 95 = .ok (.aload_n 0, 1) := by decide +kernel
theorem dX6_next_96 : decode cX6_next 96 = .ok (.iconst 1, 1) := by decide +kernel
theorem dX6_next_97 : decode cX6_next 97 = .ok (.putfield 152, 3) := by decide +kernel
theorem dX6_next_100 : decode cX6_next 100 = .ok (.aload_n 0, 1) := by decide +kernel
theorem dX6_next_101 : decode cX6_next 101 = .ok (.aload_n 0, 1) := by decide +kernel
theorem dX6_next_102 : decode cX6_next 102 = .ok (.getfield 142, 3) := by decide +kernel
theorem dX6_next_105 : decode cX6_next 105 = .ok (.invokevirtual 145, 3) := by decide +kernel
theorem dX6_next_108 : decode cX6_next 108 = .ok (.i2l, 1) := by decide +kernel
theorem dX6_next_109 : decode cX6_next 109 = .ok (.ldc2_w 155, 3) := by decide +kernel
theorem dX6_next_112 : decode cX6_next 112 = .ok (.ldc2_w 157, 3) := by decide +kernel
theorem dX6_next_115 : decode cX6_next 115 = .ok (.invokestatic 97, 3) := by decide +kernel
theorem dX6_next_118 : decode cX6_next 118 = .ok (.ifCond .eq 203, 3) := by decide +kernel
theorem dX6_next_121 : decode cX6_next 121 = .ok (.aload_n 0, 1) := by decide +kernel
theorem dX6_next_122 : decode cX6_next 122 = .ok (.dup, 1) := by decide +kernel
theorem dX6_next_123 : decode cX6_next 123 = .ok (.getfield 142, 3) := by decide +kernel
theorem dX6_next_126 : decode cX6_next 126 = .ok (.iconst 1, 1) := by decide +kernel
theorem dX6_next_127 : decode cX6_next 127 = .ok (.iadd, 1) := by decide +kernel
theorem dX6_next_128 : decode cX6_next 128 = .ok (.putfield 142, 3) := by decide +kernel
theorem dX6_next_131 : decode cX6_next 131 = .ok (.goto (-31), 3) := by decide +kernel
theorem dX6_next_134 : decode cX6_next 134 = .ok (.iload_n 1, 1) := by decide +kernel
theorem dX6_next_135 : decode cX6_next 135 = .ok (.i2l, 1) := by decide +kernel
theorem dX6_next_136 : decode cX6_next 136 = .ok (.ldc2_w 159, 3) := by decide +kernel
theorem dX6_next_139 : decode cX6_next 139 = .ok (.ldc2_w 161, 3) := by decide +kernel
theorem dX6_next_142 : decode cX6_next 142 = .ok (.invokestatic 97, 3) := by decide +kernel
theorem dX6_next_145 : decode cX6_next 145 = .ok (.ifCond .eq 107, 3) := by decide +kernel
theorem dX6_next_148 : decode cX6_next 148 = .ok (.aload_n 0, 1) := by decide +kernel
theorem dX6_next_149 : decode cX6_next 149 = .ok (.iconst 2, 1) := by decide +kernel
theorem dX6_next_150 : decode cX6_next 150 = .ok (.putfield 152, 3) := by decide +kernel
theorem dX6_next_153 : decode cX6_next 153 = .ok (.aload_n 0, 1) := by decide +kernel
theorem dX6_next_154 : decode cX6_next 154 = .ok (.lconst 0, 1) := by decide +kernel
theorem dX6_next_155 : decode cX6_next 155 = .ok (.putfield 163, 3) := by decide +kernel
theorem dX6_next_158 : decode cX6_next 158 = .ok (.iconst 0, 1) := by decide +kernel
theorem dX6_next_159 : decode cX6_next 159 = .ok (.istore_n 2, 1) := by decide +kernel
theorem dX6_next_160 : decode cX6_next 160 = .ok (.aload_n 0, 1) := by decide +kernel
theorem dX6_next_161 : decode cX6_next 161 = .ok (.aload_n 0, 1) := by decide +kernel
theorem dX6_next_162 : decode cX6_next 162 = .ok (.getfield 142, 3) := by decide +kernel
theorem dX6_next_165 : decode cX6_next 165 = .ok (.invokevirtual 145, 3) := by decide +kernel
theorem dX6_next_168 : decode cX6_next 168 = .ok (.i2l, 1) := by decide +kernel
theorem dX6_next_169 : decode cX6_next 169 = .ok (.ldc2_w 159, 3) := by decide +kernel
theorem dX6_next_172 : decode cX6_next 172 = .ok (.ldc2_w 161, 3) := by decide +kernel
theorem dX6_next_175 : decode cX6_next 175 = .ok (.invokestatic 97, 3) := by decide +kernel
theorem dX6_next_178 : decode cX6_next 178 = .ok (.ifCond .eq 57, 3) := by decide +kernel
theorem dX6_next_181 : decode cX6_next 181 = .ok (.aload_n 0, 1) := by decide +kernel
theorem dX6_next_182 : decode cX6_next 182 = .ok (.iload_n 2, 1) := by decide +kernel
theorem dX6_next_183 : decode cX6_next 183 = .ok (.iconst 4, 1) := by decide +kernel
theorem dX6_next_184 : decode cX6_next 184 = .ok (.if_icmp .ge 28, 3) := by decide +kernel
theorem dX6_next_187 : decode cX6_next 187 = .ok (.ldc2_w 167, 3) := by decide +kernel
theorem dX6_next_190 : decode cX6_next 190 = .ok (.aload_n 0, 1) := by decide +kernel
theorem dX6_next_191 : decode cX6_next 191 = .ok (.getfield 163, 3) := by decide +kernel
theorem dX6_next_194 : decode cX6_next 194 = .ok (.lmul, 1) := by decide +kernel
theorem dX6_next_195 : decode cX6_next 195 = .ok (.aload_n 0, 1) := by decide +kernel
theorem dX6_next_196 : decode cX6_next 196 = .ok (.aload_n 0, 1) := by decide +kernel
theorem dX6_next_197 : decode cX6_next 197 = .ok (.getfield 142, 3) := by decide +kernel
theorem dX6_next_200 : decode cX6_next 200 = .ok (.invokevirtual 145, 3) := by decide +kernel
theorem dX6_next_203 : decode cX6_next 203 = .ok (.i2l, 1) := by decide +kernel
theorem dX6_next_204 : decode cX6_next 204 = .ok (.ladd, 1) := by decide +kernel
theorem dX6_next_205 : decode cX6_next 205 = .ok (.ldc2_w 159, 3) := by decide +kernel
theorem dX6_next_208 : decode cX6_next 208 = .ok (.lsub, 1) := by decide +kernel
theorem dX6_next_209 : decode cX6_next 209 = .ok (.goto 7, 3) := by decide +kernel
theorem dX6_next_212 : decode cX6_next 212 = .ok (.aload_n 0, 1) := by decide +kernel
theorem dX6_next_213 : decode cX6_next 213 = .ok (.getfield 163, 3) := by decide +kernel
theorem dX6_next_216 : decode cX6_next 216 = .ok (.putfield 163, 3) := by decide +kernel
theorem dX6_next_219 : decode cX6_next 219 = .ok (.iinc 2 1, 3) := by decide +kernel
theorem dX6_next_222 : decode cX6_next 222 = .ok (.aload_n 0, 1) := by decide +kernel
theorem dX6_next_223 : decode cX6_next 223 = .ok (.dup, 1) := by decide +kernel
theorem dX6_next_224 : decode cX6_next 224 = .ok (.getfield 142, 3) := by decide +kernel
theorem dX6_next_227 : decode cX6_next 227 = .ok (.iconst 1, 1) := by decide +kernel
theorem dX6_next_228 : decode cX6_next 228 = .ok (.iadd, 1) := by decide +kernel
theorem dX6_next_229 : decode cX6_next 229 = .ok (.putfield 142, 3) := by decide +kernel
theorem dX6_next_232 : decode cX6_next 232 = .ok (.goto (-72), 3) := by decide +kernel
theorem dX6_next_235 : decode cX6_next 235 = .ok (.aload_n 0, 1) := by decide +kernel
theorem dX6_next_236 : decode cX6_next 236 = .ok (.iload_n 2, 1) := by decide +kernel
theorem dX6_next_237 : decode cX6_next 237 = .ok (.iconst 4, 1) := by decide +kernel
theorem dX6_next_238 : decode cX6_next 238 = .ok (.if_icmp .le 7, 3) := by decide +kernel
theorem dX6_next_241 : decode cX6_next 241 = .ok (.iconst 4, 1) := by decide +kernel
theorem dX6_next_242 : decode cX6_next 242 = .ok (.goto 4, 3) := by decide +kernel
theorem dX6_next_245 : decode cX6_next 245 = .ok (.iconst 2, 1) := by decide +kernel
theorem dX6_next_246 : decode cX6_next 246 = .ok (.putfield 152, 3) := by decide +kernel
theorem dX6_next_249 : decode cX6_next 249 = .ok (.goto 72, 3) := by decide +kernel
theorem dX6_next_252 : decode cX6_next 252 = .ok (.iload_n 1, 1) := by decide +kernel
theorem dX6_next_253 : decode cX6_next 253 = .ok (.bipush 40, 2) := by decide +kernel
theorem dX6_next_255 : decode cX6_next 255 = .ok (.if_icmp .eq 45, 3) := by decide +kernel
theorem dX6_next_258 : decode cX6_next 258 = .ok (.iload_n 1, 1) := by decide +kernel
theorem dX6_next_259 : decode cX6_next 259 = .ok (.bipush 41, 2) := by decide +kernel
theorem dX6_next_261 : decode cX6_next 261 = .ok (.if_icmp .eq 39, 3) := by decide +kernel
theorem dX6_next_264 : decode cX6_next 264 = .ok (.iload_n 1, 1) := by decide +kernel
theorem dX6_next_265 : decode cX6_next 265 = .ok (.bipush 59, 2) := by decide +kernel
theorem dX6_next_267 : decode cX6_next 267 = .ok (.if_icmp .eq 33, 3) := by decide +kernel
theorem dX6_next_270 : decode cX6_next 270 = .ok (.iload_n 1, 1) := by decide +kernel
theorem dX6_next_271 : decode cX6_next 271 = .ok (.bipush 43, 2) := by decide +kernel
theorem dX6_next_273 : decode cX6_next 273 = .ok (.if_icmp .eq 27, 3) := by decide +kernel
theorem dX6_next_276 : decode cX6_next 276 = .ok (.iload_n 1, 1) := by decide +kernel
theorem dX6_next_277 : decode cX6_next 277 = .ok (.bipush 45, 2) := by decide +kernel
theorem dX6_next_279 : decode cX6_next 279 = .ok (.if_icmp .eq 21, 3) := by decide +kernel
theorem dX6_next_282 : decode cX6_next 282 = .ok (.iload_n 1, 1) := by decide +kernel
theorem dX6_next_283 : decode cX6_next 283 = .ok (.bipush 42, 2) := by decide +kernel
theorem dX6_next_285 : decode cX6_next 285 = .ok (.if_icmp .eq 15, 3) := by decide +kernel
theorem dX6_next_288 : decode cX6_next 288 = .ok (.iload_n 1, 1) := by decide +kernel
theorem dX6_next_289 : decode cX6_next 289 = .ok (.bipush 60, 2) := by decide +kernel
theorem dX6_next_291 : decode cX6_next 291 = .ok (.if_icmp .eq 9, 3) := by decide +kernel
theorem dX6_next_294 : decode cX6_next 294 = .ok (.iload_n 1, 1) := by decide +kernel
theorem dX6_next_295 : decode cX6_next 295 = .ok (.bipush 61, 2) := by decide +kernel
theorem dX6_next_297 : decode cX6_next 297 = .ok (.if_icmp .ne 24, 3) := by decide +kernel
theorem dX6_next_300 : decode cX6_next 300 = .ok (.aload_n 0, 1) := by decide +kernel
theorem dX6_next_301 : decode cX6_next 301 = .ok (.iconst 3, 1) := by decide +kernel
theorem dX6_next_302 : decode cX6_next 302 = .ok (.putfield 152, 3) := by decide +kernel
theorem dX6_next_305 : decode cX6_next 305 = .ok (.aload_n 0, 1) := by decide +kernel
theorem dX6_next_306 : decode cX6_next 306 = .ok (.iload_n 1, 1) := by decide +kernel
theorem dX6_next_307 : decode cX6_next 307 = .ok (.i2l, 1) := by decide +kernel
theorem dX6_next_308 : decode cX6_next 308 = .ok (.putfield 163, 3) := by decide +kernel
theorem dX6_next_311 : decode cX6_next 311 = .ok (.aload_n 0, 1) := by decide +kernel
theorem dX6_next_312 : decode cX6_next 312 = .ok (.dup, 1) := by decide +kernel
theorem dX6_next_313 : decode cX6_next 313 = .ok (.getfield 142, 3) := by decide +kernel
theorem dX6_next_316 : decode cX6_next 316 = .ok (.iconst 1, 1) := by decide +kernel
theorem dX6_next_317 : decode cX6_next 317 = .ok (.iadd, 1) := by decide +kernel
theorem dX6_next_318 : decode cX6_next 318 = .ok (.putfield 142, 3) := by decide +kernel
theorem dX6_next_321 : decode cX6_next 321 = .ok (.return_, 1) := by decide +kernel
theorem dX6_fail_0 : decode cX6_fail 0 = .ok (.aload_n 0, 1) := by decide +kernel
theorem dX6_fail_1 : decode cX6_fail 1 = .ok (.getfield 169, 3) := by decide +kernel
theorem dX6_fail_4 : decode cX6_fail 4 = .ok (.ifCond .ne 16, 3) := by decide +kernel
theorem dX6_fail_7 : decode cX6_fail 7 = .ok (.aload_n 0, 1) := by decide +kernel
theorem dX6_fail_8 : decode cX6_fail 8 = .ok (.iconst 1, 1) := by decide +kernel
theorem dX6_fail_9 : decode cX6_fail 9 = .ok (.putfield 169, 3) := by decide +kernel
theorem dX6_fail_12 : decode cX6_fail 12 = .ok (.aload_n 0, 1) := by decide +kernel
theorem dX6_fail_13 : decode cX6_fail 13 = .ok (.aload_n 0, 1) := by decide +kernel
theorem dX6_fail_14 : decode cX6_fail 14 = .ok (.getfield 149, 3) := by decide +kernel
theorem dX6_fail_17 : decode cX6_fail 17 = .ok (.putfield 173, 3) := by decide +kernel
theorem dX6_fail_20 : decode cX6_fail 20 = .ok (.return_, 1) := by decide +kernel
theorem dX6_isLetter_0 : decode cX6_isLetter 0 = .ok (.aload_n 0, 1) := by decide +kernel
theorem dX6_isLetter_1 : decode cX6_isLetter 1 = .ok (.getfield 149, 3) := by decide +kernel
theorem dX6_isLetter_4 : decode cX6_isLetter 4 = .ok (.iload_n 1, 1) := by decide +kernel
theorem dX6_isLetter_5 : decode cX6_isLetter 5 = .ok (.iadd, 1) := by decide +kernel
theorem dX6_isLetter_6 : decode cX6_isLetter 6 = .ok (.aload_n 0, 1) := by decide +kernel
theorem dX6_isLetter_7 : decode cX6_isLetter 7 = .ok (.getfield 142, 3) := by decide +kernel
theorem dX6_isLetter_10 : decode cX6_isLetter 10 = .ok (.if_icmp .ge 25, 3) := by decide +kernel
theorem dX6_isLetter_13 : decode cX6_isLetter 13 = .ok (.aload_n 0, 1) := by decide +kernel
theorem dX6_isLetter_14 : decode cX6_isLetter 14 = .ok (.aload_n 0, 1) := by decide +kernel
theorem dX6_isLetter_15 : decode cX6_isLetter 15 = .ok (.getfield 149, 3) := by decide +kernel
theorem dX6_isLetter_18 : decode cX6_isLetter 18 = .ok (.iload_n 1, 1) := by decide +kernel
theorem dX6_isLetter_19 : decode cX6_isLetter 19 = .ok (.iadd, 1) := by decide +kernel
theorem dX6_isLetter_20 : decode cX6_isLetter 20 = .ok (.invokevirtual 145, 3) := by decide +kernel
theorem dX6_isLetter_23 : decode cX6_isLetter 23 = .ok (.iload_n 2, 1) := by decide +kernel
theorem dX6_isLetter_24 : decode cX6_isLetter 24 = .ok (.if_icmp .ne 7, 3) := by decide +kernel
theorem dX6_isLetter_27 : decode cX6_isLetter 27 = .ok (.iconst 1, 1) := by decide +kernel
theorem dX6_isLetter_28 : decode cX6_isLetter 28 = .ok (.goto 16, 3) := by decide +kernel
theorem dX6_isLetter_31 : decode cX6_isLetter 31 = .ok (.iconst 0, 1) := by decide +kernel
theorem dX6_isLetter_32 : decode cX6_isLetter 32 = .ok (.goto 12, 3) := by decide +kernel
theorem dX6_isLetter_35 : decode cX6_isLetter 35 = .ok (.iload_n 2, 1) := by decide +kernel
theorem dX6_isLetter_36 : decode cX6_isLetter 36 = .ok (.ifCond .ne 7, 3) := by decide +kernel
theorem dX6_isLetter_39 : decode cX6_isLetter 39 = .ok (.iconst 1, 1) := by decide +kernel
theorem dX6_isLetter_40 : decode cX6_isLetter 40 = .ok (.goto 4, 3) := by decide +kernel
theorem dX6_isLetter_43 : decode cX6_isLetter 43 = .ok (.iconst 0, 1) := by decide +kernel
theorem dX6_isLetter_44 : decode cX6_isLetter 44 = .ok (.ireturn, 1) := by decide +kernel
theorem dX6_isWord_0 : decode cX6_isWord 0 = .ok (.aload_n 0, 1) := by decide +kernel
theorem dX6_isWord_1 : decode cX6_isWord 1 = .ok (.getfield 169, 3) := by decide +kernel
theorem dX6_isWord_4 : decode cX6_isWord 4 = .ok (.ifCond .ne 108, 3) := by decide +kernel
theorem dX6_isWord_7 : decode cX6_isWord 7 = .ok (.aload_n 0, 1) := by decide +kernel
theorem dX6_isWord_8 : decode cX6_isWord 8 = .ok (.getfield 152, 3) := by decide +kernel
theorem dX6_isWord_11 : decode cX6_isWord 11 = .ok (.iconst 1, 1) := by decide +kernel
theorem dX6_isWord_12 : decode cX6_isWord 12 = .ok (.if_icmp .ne 100, 3) := by decide +kernel
theorem dX6_isWord_15 : decode cX6_isWord 15 = .ok (.aload_n 0, 1) := by decide +kernel
theorem dX6_isWord_16 : decode cX6_isWord 16 = .ok (.getfield 142, 3) := by decide +kernel
theorem dX6_isWord_19 : decode cX6_isWord 19 = .ok (.aload_n 0, 1) := by decide +kernel
theorem dX6_isWord_20 : decode cX6_isWord 20 = .ok (.getfield 149, 3) := by decide +kernel
theorem dX6_isWord_23 : decode cX6_isWord 23 = .ok (.bipush 8, 2) := by decide +kernel
theorem dX6_isWord_25 : decode cX6_isWord 25 = .ok (.iadd, 1) := by decide +kernel
theorem dX6_isWord_26 : decode cX6_isWord 26 = .ok (.if_icmp .gt 86, 3) := by decide +kernel
theorem dX6_isWord_29 : decode cX6_isWord 29 = .ok (.aload_n 0, 1) := by decide +kernel
theorem dX6_isWord_30 : decode cX6_isWord 30 = .ok (.iconst 0, 1) := by decide +kernel
theorem dX6_isWord_31 : decode cX6_isWord 31 = .ok (.iload_n 1, 1) := by decide +kernel
theorem dX6_isWord_32 : decode cX6_isWord 32 = .ok (.invokevirtual 176, 3) := by decide +kernel
theorem dX6_isWord_35 : decode cX6_isWord 35 = .ok (.ifCond .eq 77, 3) := by decide +kernel
theorem dX6_isWord_38 : decode cX6_isWord 38 = .ok (.aload_n 0, 1) := by decide +kernel
theorem dX6_isWord_39 : decode cX6_isWord 39 = .ok (.iconst 1, 1) := by decide +kernel
theorem dX6_isWord_40 : decode cX6_isWord 40 = .ok (.iload_n 2, 1) := by decide +kernel
theorem dX6_isWord_41 : decode cX6_isWord 41 = .ok (.invokevirtual 176, 3) := by decide +kernel
theorem dX6_isWord_44 : decode cX6_isWord 44 = .ok (.ifCond .eq 68, 3) := by decide +kernel
theorem dX6_isWord_47 : decode cX6_isWord 47 = .ok (.aload_n 0, 1) := by decide +kernel
theorem dX6_isWord_48 : decode cX6_isWord 48 = .ok (.iconst 2, 1) := by decide +kernel
theorem dX6_isWord_49 : decode cX6_isWord 49 = .ok (.iload_n 3, 1) := by decide +kernel
theorem dX6_isWord_50 : decode cX6_isWord 50 = .ok (.invokevirtual 176, 3) := by decide +kernel
theorem dX6_isWord_53 : decode cX6_isWord 53 = .ok (.ifCond .eq 59, 3) := by decide +kernel
theorem dX6_isWord_56 : decode cX6_isWord 56 = .ok (.aload_n 0, 1) := by decide +kernel
theorem dX6_isWord_57 : decode cX6_isWord 57 = .ok (.iconst 3, 1) := by decide +kernel
theorem dX6_isWord_58 : decode cX6_isWord 58 = .ok (.iload 4, 2) := by decide +kernel
theorem dX6_isWord_60 : decode cX6_isWord 60 = .ok (.invokevirtual 176, 3) := by decide +kernel
theorem dX6_isWord_63 : decode cX6_isWord 63 = .ok (.ifCond .eq 49, 3) := by decide +kernel
theorem dX6_isWord_66 : decode cX6_isWord 66 = .ok (.aload_n 0, 1) := by decide +kernel
theorem dX6_isWord_67 : decode cX6_isWord 67 = .ok (.iconst 4, 1) := by decide +kernel
theorem dX6_isWord_68 : decode cX6_isWord 68 = .ok (.iload 5, 2) := by decide +kernel
theorem dX6_isWord_70 : decode cX6_isWord 70 = .ok (.invokevirtual 176, 3) := by decide +kernel
theorem dX6_isWord_73 : decode cX6_isWord 73 = .ok (.ifCond .eq 39, 3) := by decide +kernel
theorem dX6_isWord_76 : decode cX6_isWord 76 = .ok (.aload_n 0, 1) := by decide +kernel
theorem dX6_isWord_77 : decode cX6_isWord 77 = .ok (.iconst 5, 1) := by decide +kernel
theorem dX6_isWord_78 : decode cX6_isWord 78 = .ok (.iload 6, 2) := by decide +kernel
theorem dX6_isWord_80 : decode cX6_isWord 80 = .ok (.invokevirtual 176, 3) := by decide +kernel
theorem dX6_isWord_83 : decode cX6_isWord 83 = .ok (.ifCond .eq 29, 3) := by decide +kernel
theorem dX6_isWord_86 : decode cX6_isWord 86 = .ok (.aload_n 0, 1) := by decide +kernel
theorem dX6_isWord_87 : decode cX6_isWord 87 = .ok (.bipush 6, 2) := by decide +kernel
theorem dX6_isWord_89 : decode cX6_isWord 89 = .ok (.iload 7, 2) := by decide +kernel
theorem dX6_isWord_91 : decode cX6_isWord 91 = .ok (.invokevirtual 176, 3) := by decide +kernel
theorem dX6_isWord_94 : decode cX6_isWord 94 = .ok (.ifCond .eq 18, 3) := by decide +kernel
theorem dX6_isWord_97 : decode cX6_isWord 97 = .ok (.aload_n 0, 1) := by decide +kernel
theorem dX6_isWord_98 : decode cX6_isWord 98 = .ok (.bipush 7, 2) := by decide +kernel
theorem dX6_isWord_100 : decode cX6_isWord 100 = .ok (.iload 8, 2) := by decide +kernel
theorem dX6_isWord_102 : decode cX6_isWord 102 = .ok (.invokevirtual 176, 3) := by decide +kernel
theorem dX6_isWord_105 : decode cX6_isWord 105 = .ok (.ifCond .eq 7, 3) := by decide +kernel
theorem dX6_isWord_108 : decode cX6_isWord 108 = .ok (.iconst 1, 1) := by decide +kernel
theorem dX6_isWord_109 : decode cX6_isWord 109 = .ok (.goto 4, 3) := by decide +kernel
theorem dX6_isWord_112 : decode cX6_isWord 112 = .ok (.iconst 0, 1) := by decide +kernel
theorem dX6_isWord_113 : decode cX6_isWord 113 = .ok (.ireturn, 1) := by decide +kernel
theorem dX6_isSign_0 : decode cX6_isSign 0 = .ok (.aload_n 0, 1) := by decide +kernel
theorem dX6_isSign_1 : decode cX6_isSign 1 = .ok (.getfield 169, 3) := by decide +kernel
theorem dX6_isSign_4 : decode cX6_isSign 4 = .ok (.ifCond .ne 25, 3) := by decide +kernel
theorem dX6_isSign_7 : decode cX6_isSign 7 = .ok (.aload_n 0, 1) := by decide +kernel
theorem dX6_isSign_8 : decode cX6_isSign 8 = .ok (.getfield 152, 3) := by decide +kernel
theorem dX6_isSign_11 : decode cX6_isSign 11 = .ok (.iconst 3, 1) := by decide +kernel
theorem dX6_isSign_12 : decode cX6_isSign 12 = .ok (.if_icmp .ne 17, 3) := by decide +kernel
theorem dX6_isSign_15 : decode cX6_isSign 15 = .ok (.aload_n 0, 1) := by decide +kernel
theorem dX6_isSign_16 : decode cX6_isSign 16 = .ok (.getfield 163, 3) := by decide +kernel
theorem dX6_isSign_19 : decode cX6_isSign 19 = .ok (.iload_n 1, 1) := by decide +kernel
theorem dX6_isSign_20 : decode cX6_isSign 20 = .ok (.i2l, 1) := by decide +kernel
theorem dX6_isSign_21 : decode cX6_isSign 21 = .ok (.lcmp, 1) := by decide +kernel
theorem dX6_isSign_22 : decode cX6_isSign 22 = .ok (.ifCond .ne 7, 3) := by decide +kernel
theorem dX6_isSign_25 : decode cX6_isSign 25 = .ok (.iconst 1, 1) := by decide +kernel
theorem dX6_isSign_26 : decode cX6_isSign 26 = .ok (.goto 4, 3) := by decide +kernel
theorem dX6_isSign_29 : decode cX6_isSign 29 = .ok (.iconst 0, 1) := by decide +kernel
theorem dX6_isSign_30 : decode cX6_isSign 30 = .ok (.ireturn, 1) := by decide +kernel
theorem dX6_isSheet_0 : decode cX6_isSheet 0 = .ok (.iload_n 0, 1) := by decide +kernel
theorem dX6_isSheet_1 : decode cX6_isSheet 1 = .ok (.i2l, 1) := by decide +kernel
theorem dX6_isSheet_2 : decode cX6_isSheet 2 = .ok (.lconst 0, 1) := by decide +kernel
theorem dX6_isSheet_3 : decode cX6_isSheet 3 = .ok (.ldc2_w 473, 3) := by decide +kernel
theorem dX6_isSheet_6 : decode cX6_isSheet 6 = .ok (.invokestatic 97, 3) := by decide +kernel
theorem dX6_isSheet_9 : decode cX6_isSheet 9 = .ok (.ireturn, 1) := by decide +kernel
theorem dX6_over_0 : decode cX6_over 0 = .ok (.iload_n 0, 1) := by decide +kernel
theorem dX6_over_1 : decode cX6_over 1 = .ok (.ifCond .ne 7, 3) := by decide +kernel
theorem dX6_over_4 : decode cX6_over 4 = .ok (.iconst (-1), 1) := by decide +kernel
theorem dX6_over_5 : decode cX6_over 5 = .ok (.goto 27, 3) := by decide +kernel
theorem dX6_over_8 : decode cX6_over 8 = .ok (.iload_n 0, 1) := by decide +kernel
theorem dX6_over_9 : decode cX6_over 9 = .ok (.iconst 3, 1) := by decide +kernel
theorem dX6_over_10 : decode cX6_over 10 = .ok (.if_icmp .eq 8, 3) := by decide +kernel
theorem dX6_over_13 : decode cX6_over 13 = .ok (.iload_n 0, 1) := by decide +kernel
theorem dX6_over_14 : decode cX6_over 14 = .ok (.iconst 5, 1) := by decide +kernel
theorem dX6_over_15 : decode cX6_over 15 = .ok (.if_icmp .ne 7, 3) := by decide +kernel
theorem dX6_over_18 : decode cX6_over 18 = .ok (.iconst 1, 1) := by decide +kernel
theorem dX6_over_19 : decode cX6_over 19 = .ok (.goto 13, 3) := by decide +kernel
theorem dX6_over_22 : decode cX6_over 22 = .ok (.iload_n 0, 1) := by decide +kernel
theorem dX6_over_23 : decode cX6_over 23 = .ok (.iconst 4, 1) := by decide +kernel
theorem dX6_over_24 : decode cX6_over 24 = .ok (.if_icmp .ne 7, 3) := by decide +kernel
theorem dX6_over_27 : decode cX6_over 27 = .ok (.iconst 2, 1) := by decide +kernel
theorem dX6_over_28 : decode cX6_over 28 = .ok (.goto 4, 3) := by decide +kernel
theorem dX6_over_31 : decode cX6_over 31 = .ok (.iconst 0, 1) := by decide +kernel
theorem dX6_over_32 : decode cX6_over 32 = .ok (.ireturn, 1) := by decide +kernel
