theorem dX0_init_0 : decode cX0_init 0 = .ok (.aload_n 0, 1) := by decide +kernel
theorem dX0_init_1 : decode cX0_init 1 = .ok (.invokespecial 3, 3) := by decide +kernel
theorem dX0_init_4 : decode cX0_init 4 = .ok (.aload_n 0, 1) := by decide +kernel
theorem dX0_init_5 : decode cX0_init 5 = .ok (.bipush 7, 2) := by decide +kernel
theorem dX0_init_7 : decode cX0_init 7 = .ok (.newarray .int, 2) := by decide +kernel
theorem dX0_init_9 : decode cX0_init 9 = .ok (.putfield 9, 3) := by decide +kernel
theorem dX0_init_12 : decode cX0_init 12 = .ok (.aload_n 0, 1) := by decide +kernel
theorem dX0_init_13 : decode cX0_init 13 = .ok (.bipush 7, 2) := by decide +kernel
theorem dX0_init_15 : decode cX0_init 15 = .ok (.newarray .int, 2) := by decide +kernel
theorem dX0_init_17 : decode cX0_init 17 = .ok (.putfield 15, 3) := by decide +kernel
theorem dX0_init_20 : decode cX0_init 20 = .ok (.aload_n 0, 1) := by decide +kernel
theorem dX0_init_21 : decode cX0_init 21 = .ok (.bipush 49, 2) := by decide +kernel
theorem dX0_init_23 : decode cX0_init 23 = .ok (.newarray .int, 2) := by decide +kernel
theorem dX0_init_25 : decode cX0_init 25 = .ok (.putfield 18, 3) := by decide +kernel
theorem dX0_init_28 : decode cX0_init 28 = .ok (.aload_n 0, 1) := by decide +kernel
theorem dX0_init_29 : decode cX0_init 29 = .ok (.bipush 7, 2) := by decide +kernel
theorem dX0_init_31 : decode cX0_init 31 = .ok (.newarray .int, 2) := by decide +kernel
theorem dX0_init_33 : decode cX0_init 33 = .ok (.putfield 21, 3) := by decide +kernel
theorem dX0_init_36 : decode cX0_init 36 = .ok (.aload_n 0, 1) := by decide +kernel
theorem dX0_init_37 : decode cX0_init 37 = .ok (.bipush 100, 2) := by decide +kernel
theorem dX0_init_39 : decode cX0_init 39 = .ok (.putfield 24, 3) := by decide +kernel
theorem dX0_init_42 : decode cX0_init 42 = .ok (.aload_n 0, 1) := by decide +kernel
theorem dX0_init_43 : decode cX0_init 43 = .ok (.iconst 3, 1) := by decide +kernel
theorem dX0_init_44 : decode cX0_init 44 = .ok (.putfield 28, 3) := by decide +kernel
theorem dX0_init_47 : decode cX0_init 47 = .ok (.aload_n 0, 1) := by decide +kernel
theorem dX0_init_48 : decode cX0_init 48 = .ok (.getfield 18, 3) := by decide +kernel
theorem dX0_init_51 : decode cX0_init 51 = .ok (.iconst 5, 1) := by decide +kernel
theorem dX0_init_52 : decode cX0_init 52 = .ok (.invokestatic 31, 3) := by decide +kernel
theorem dX0_init_55 : decode cX0_init 55 = .ok (.return_, 1) := by decide +kernel
theorem dX0_become_0 : decode cX0_become 0 = .ok (.aload_n 1, 1) := by decide +kernel
theorem dX0_become_1 : decode cX0_become 1 = .ok (.getfield 9, 3) := by decide +kernel
theorem dX0_become_4 : decode cX0_become 4 = .ok (.iconst 0, 1) := by decide +kernel
theorem dX0_become_5 : decode cX0_become 5 = .ok (.aload_n 0, 1) := by decide +kernel
theorem dX0_become_6 : decode cX0_become 6 = .ok (.getfield 9, 3) := by decide +kernel
theorem dX0_become_9 : decode cX0_become 9 = .ok (.iconst 0, 1) := by decide +kernel
theorem dX0_become_10 : decode cX0_become 10 = .ok (.bipush 7, 2) := by decide +kernel
theorem dX0_become_12 : decode cX0_become 12 = .ok (.invokestatic 37, 3) := by decide +kernel
theorem dX0_become_15 : decode cX0_become 15 = .ok (.aload_n 1, 1) := by decide +kernel
theorem dX0_become_16 : decode cX0_become 16 = .ok (.getfield 15, 3) := by decide +kernel
theorem dX0_become_19 : decode cX0_become 19 = .ok (.iconst 0, 1) := by decide +kernel
theorem dX0_become_20 : decode cX0_become 20 = .ok (.aload_n 0, 1) := by decide +kernel
theorem dX0_become_21 : decode cX0_become 21 = .ok (.getfield 15, 3) := by decide +kernel
theorem dX0_become_24 : decode cX0_become 24 = .ok (.iconst 0, 1) := by decide +kernel
theorem dX0_become_25 : decode cX0_become 25 = .ok (.bipush 7, 2) := by decide +kernel
theorem dX0_become_27 : decode cX0_become 27 = .ok (.invokestatic 37, 3) := by decide +kernel
theorem dX0_become_30 : decode cX0_become 30 = .ok (.aload_n 1, 1) := by decide +kernel
theorem dX0_become_31 : decode cX0_become 31 = .ok (.getfield 18, 3) := by decide +kernel
theorem dX0_become_34 : decode cX0_become 34 = .ok (.iconst 0, 1) := by decide +kernel
theorem dX0_become_35 : decode cX0_become 35 = .ok (.aload_n 0, 1) := by decide +kernel
theorem dX0_become_36 : decode cX0_become 36 = .ok (.getfield 18, 3) := by decide +kernel
theorem dX0_become_39 : decode cX0_become 39 = .ok (.iconst 0, 1) := by decide +kernel
theorem dX0_become_40 : decode cX0_become 40 = .ok (.bipush 49, 2) := by decide +kernel
theorem dX0_become_42 : decode cX0_become 42 = .ok (.invokestatic 37, 3) := by decide +kernel
theorem dX0_become_45 : decode cX0_become 45 = .ok (.aload_n 1, 1) := by decide +kernel
theorem dX0_become_46 : decode cX0_become 46 = .ok (.getfield 21, 3) := by decide +kernel
theorem dX0_become_49 : decode cX0_become 49 = .ok (.iconst 0, 1) := by decide +kernel
theorem dX0_become_50 : decode cX0_become 50 = .ok (.aload_n 0, 1) := by decide +kernel
theorem dX0_become_51 : decode cX0_become 51 = .ok (.getfield 21, 3) := by decide +kernel
theorem dX0_become_54 : decode cX0_become 54 = .ok (.iconst 0, 1) := by decide +kernel
theorem dX0_become_55 : decode cX0_become 55 = .ok (.bipush 7, 2) := by decide +kernel
theorem dX0_become_57 : decode cX0_become 57 = .ok (.invokestatic 37, 3) := by decide +kernel
theorem dX0_become_60 : decode cX0_become 60 = .ok (.aload_n 0, 1) := by decide +kernel
theorem dX0_become_61 : decode cX0_become 61 = .ok (.aload_n 1, 1) := by decide +kernel
theorem dX0_become_62 : decode cX0_become 62 = .ok (.getfield 43, 3) := by decide +kernel
theorem dX0_become_65 : decode cX0_become 65 = .ok (.putfield 43, 3) := by decide +kernel
theorem dX0_become_68 : decode cX0_become 68 = .ok (.aload_n 0, 1) := by decide +kernel
theorem dX0_become_69 : decode cX0_become 69 = .ok (.aload_n 1, 1) := by decide +kernel
theorem dX0_become_70 : decode cX0_become 70 = .ok (.getfield 46, 3) := by decide +kernel
theorem dX0_become_73 : decode cX0_become 73 = .ok (.putfield 46, 3) := by decide +kernel
theorem dX0_become_76 : decode cX0_become 76 = .ok (.aload_n 0, 1) := by decide +kernel
theorem dX0_become_77 : decode cX0_become 77 = .ok (.aload_n 1, 1) := by decide +kernel
theorem dX0_become_78 : decode cX0_become 78 = .ok (.getfield 24, 3) := by decide +kernel
theorem dX0_become_81 : decode cX0_become 81 = .ok (.putfield 24, 3) := by decide +kernel
theorem dX0_become_84 : decode cX0_become 84 = .ok (.aload_n 0, 1) := by decide +kernel
theorem dX0_become_85 : decode cX0_become 85 = .ok (.aload_n 1, 1) := by decide +kernel
theorem dX0_become_86 : decode cX0_become 86 = .ok (.getfield 28, 3) := by decide +kernel
theorem dX0_become_89 : decode cX0_become 89 = .ok (.putfield 28, 3) := by decide +kernel
theorem dX0_become_92 : decode cX0_become 92 = .ok (.aload_n 0, 1) := by decide +kernel
theorem dX0_become_93 : decode cX0_become 93 = .ok (.aload_n 1, 1) := by decide +kernel
theorem dX0_become_94 : decode cX0_become 94 = .ok (.getfield 49, 3) := by decide +kernel
theorem dX0_become_97 : decode cX0_become 97 = .ok (.putfield 49, 3) := by decide +kernel
theorem dX0_become_100 : decode cX0_become 100 = .ok (.aload_n 0, 1) := by decide +kernel
theorem dX0_become_101 : decode cX0_become 101 = .ok (.aload_n 1, 1) := by decide +kernel
theorem dX0_become_102 : decode cX0_become 102 = .ok (.getfield 52, 3) := by decide +kernel
theorem dX0_become_105 : decode cX0_become 105 = .ok (.putfield 52, 3) := by decide +kernel
theorem dX0_become_108 : decode cX0_become 108 = .ok (.return_, 1) := by decide +kernel
theorem dX0_welcome_0 : decode cX0_welcome 0 = .ok (.aload_n 0, 1) := by decide +kernel
theorem dX0_welcome_1 : decode cX0_welcome 1 = .ok (.getfield 43, 3) := by decide +kernel
theorem dX0_welcome_4 : decode cX0_welcome 4 = .ok (.istore_n 3, 1) := by decide +kernel
theorem dX0_welcome_5 : decode cX0_welcome 5 = .ok (.aload_n 0, 1) := by decide +kernel
theorem dX0_welcome_6 : decode cX0_welcome 6 = .ok (.dup, 1) := by decide +kernel
theorem dX0_welcome_7 : decode cX0_welcome 7 = .ok (.getfield 43, 3) := by decide +kernel
theorem dX0_welcome_10 : decode cX0_welcome 10 = .ok (.iconst 1, 1) := by decide +kernel
theorem dX0_welcome_11 : decode cX0_welcome 11 = .ok (.iadd, 1) := by decide +kernel
theorem dX0_welcome_12 : decode cX0_welcome 12 = .ok (.putfield 43, 3) := by decide +kernel
theorem dX0_welcome_15 : decode cX0_welcome 15 = .ok (.aload_n 0, 1) := by decide +kernel
theorem dX0_welcome_16 : decode cX0_welcome 16 = .ok (.getfield 9, 3) := by decide +kernel
theorem dX0_welcome_19 : decode cX0_welcome 19 = .ok (.iload_n 3, 1) := by decide +kernel
theorem dX0_welcome_20 : decode cX0_welcome 20 = .ok (.iload_n 1, 1) := by decide +kernel
theorem dX0_welcome_21 : decode cX0_welcome 21 = .ok (.iastore, 1) := by decide +kernel
theorem dX0_welcome_22 : decode cX0_welcome 22 = .ok (.aload_n 0, 1) := by decide +kernel
theorem dX0_welcome_23 : decode cX0_welcome 23 = .ok (.getfield 15, 3) := by decide +kernel
theorem dX0_welcome_26 : decode cX0_welcome 26 = .ok (.iload_n 3, 1) := by decide +kernel
theorem dX0_welcome_27 : decode cX0_welcome 27 = .ok (.iload_n 2, 1) := by decide +kernel
theorem dX0_welcome_28 : decode cX0_welcome 28 = .ok (.iastore, 1) := by decide +kernel
theorem dX0_welcome_29 : decode cX0_welcome 29 = .ok (.aload_n 0, 1) := by decide +kernel
theorem dX0_welcome_30 : decode cX0_welcome 30 = .ok (.dup, 1) := by decide +kernel
theorem dX0_welcome_31 : decode cX0_welcome 31 = .ok (.getfield 46, 3) := by decide +kernel
theorem dX0_welcome_34 : decode cX0_welcome 34 = .ok (.iload_n 3, 1) := by decide +kernel
theorem dX0_welcome_35 : decode cX0_welcome 35 = .ok (.invokestatic 55, 3) := by decide +kernel
theorem dX0_welcome_38 : decode cX0_welcome 38 = .ok (.ior, 1) := by decide +kernel
theorem dX0_welcome_39 : decode cX0_welcome 39 = .ok (.putfield 46, 3) := by decide +kernel
theorem dX0_welcome_42 : decode cX0_welcome 42 = .ok (.iload_n 3, 1) := by decide +kernel
theorem dX0_welcome_43 : decode cX0_welcome 43 = .ok (.ireturn, 1) := by decide +kernel
theorem dX0_knows_0 : decode cX0_knows 0 = .ok (.iload_n 1, 1) := by decide +kernel
theorem dX0_knows_1 : decode cX0_knows 1 = .ok (.ifCond .lt 15, 3) := by decide +kernel
theorem dX0_knows_4 : decode cX0_knows 4 = .ok (.iload_n 1, 1) := by decide +kernel
theorem dX0_knows_5 : decode cX0_knows 5 = .ok (.aload_n 0, 1) := by decide +kernel
theorem dX0_knows_6 : decode cX0_knows 6 = .ok (.getfield 43, 3) := by decide +kernel
theorem dX0_knows_9 : decode cX0_knows 9 = .ok (.if_icmp .ge 7, 3) := by decide +kernel
theorem dX0_knows_12 : decode cX0_knows 12 = .ok (.iconst 1, 1) := by decide +kernel
theorem dX0_knows_13 : decode cX0_knows 13 = .ok (.goto 4, 3) := by decide +kernel
theorem dX0_knows_16 : decode cX0_knows 16 = .ok (.iconst 0, 1) := by decide +kernel
theorem dX0_knows_17 : decode cX0_knows 17 = .ok (.ireturn, 1) := by decide +kernel
theorem dX0_knowsPair_0 : decode cX0_knowsPair 0 = .ok (.aload_n 0, 1) := by decide +kernel
theorem dX0_knowsPair_1 : decode cX0_knowsPair 1 = .ok (.iload_n 1, 1) := by decide +kernel
theorem dX0_knowsPair_2 : decode cX0_knowsPair 2 = .ok (.invokevirtual 59, 3) := by decide +kernel
theorem dX0_knowsPair_5 : decode cX0_knowsPair 5 = .ok (.ifCond .eq 20, 3) := by decide +kernel
theorem dX0_knowsPair_8 : decode cX0_knowsPair 8 = .ok (.aload_n 0, 1) := by decide +kernel
theorem dX0_knowsPair_9 : decode cX0_knowsPair 9 = .ok (.iload_n 2, 1) := by decide +kernel
theorem dX0_knowsPair_10 : decode cX0_knowsPair 10 = .ok (.invokevirtual 59, 3) := by decide +kernel
theorem dX0_knowsPair_13 : decode cX0_knowsPair 13 = .ok (.ifCond .eq 12, 3) := by decide +kernel
theorem dX0_knowsPair_16 : decode cX0_knowsPair 16 = .ok (.iload_n 1, 1) := by decide +kernel
theorem dX0_knowsPair_17 : decode cX0_knowsPair 17 = .ok (.iload_n 2, 1) := by decide +kernel
theorem dX0_knowsPair_18 : decode cX0_knowsPair 18 = .ok (.if_icmp .eq 7, 3) := by decide +kernel
theorem dX0_knowsPair_21 : decode cX0_knowsPair 21 = .ok (.iconst 1, 1) := by decide +kernel
theorem dX0_knowsPair_22 : decode cX0_knowsPair 22 = .ok (.goto 4, 3) := by decide +kernel
theorem dX0_knowsPair_25 : decode cX0_knowsPair 25 = .ok (.iconst 0, 1) := by decide +kernel
theorem dX0_knowsPair_26 : decode cX0_knowsPair 26 = .ok (.ireturn, 1) := by decide +kernel
theorem dX0_isIn_0 : decode cX0_isIn 0 = .ok (.aload_n 0, 1) := by decide +kernel
theorem dX0_isIn_1 : decode cX0_isIn 1 = .ok (.iload_n 1, 1) := by decide +kernel
theorem dX0_isIn_2 : decode cX0_isIn 2 = .ok (.invokevirtual 59, 3) := by decide +kernel
theorem dX0_isIn_5 : decode cX0_isIn 5 = .ok (.ifCond .eq 18, 3) := by decide +kernel
theorem dX0_isIn_8 : decode cX0_isIn 8 = .ok (.aload_n 0, 1) := by decide +kernel
theorem dX0_isIn_9 : decode cX0_isIn 9 = .ok (.getfield 46, 3) := by decide +kernel
theorem dX0_isIn_12 : decode cX0_isIn 12 = .ok (.iload_n 1, 1) := by decide +kernel
theorem dX0_isIn_13 : decode cX0_isIn 13 = .ok (.invokestatic 63, 3) := by decide +kernel
theorem dX0_isIn_16 : decode cX0_isIn 16 = .ok (.ifCond .eq 7, 3) := by decide +kernel
theorem dX0_isIn_19 : decode cX0_isIn 19 = .ok (.iconst 1, 1) := by decide +kernel
theorem dX0_isIn_20 : decode cX0_isIn 20 = .ok (.goto 4, 3) := by decide +kernel
theorem dX0_isIn_23 : decode cX0_isIn 23 = .ok (.iconst 0, 1) := by decide +kernel
theorem dX0_isIn_24 : decode cX0_isIn 24 = .ok (.ireturn, 1) := by decide +kernel
theorem dX0_everyone_0 : decode cX0_everyone 0 = .ok (.aload_n 0, 1) := by decide +kernel
theorem dX0_everyone_1 : decode cX0_everyone 1 = .ok (.getfield 43, 3) := by decide +kernel
theorem dX0_everyone_4 : decode cX0_everyone 4 = .ok (.invokestatic 55, 3) := by decide +kernel
theorem dX0_everyone_7 : decode cX0_everyone 7 = .ok (.iconst 1, 1) := by decide +kernel
theorem dX0_everyone_8 : decode cX0_everyone 8 = .ok (.isub, 1) := by decide +kernel
theorem dX0_everyone_9 : decode cX0_everyone 9 = .ok (.ireturn, 1) := by decide +kernel
theorem dX0_changeLike_0 : decode cX0_changeLike 0 = .ok (.aload_n 0, 1) := by decide +kernel
theorem dX0_changeLike_1 : decode cX0_changeLike 1 = .ok (.getfield 18, 3) := by decide +kernel
theorem dX0_changeLike_4 : decode cX0_changeLike 4 = .ok (.iload_n 1, 1) := by decide +kernel
theorem dX0_changeLike_5 : decode cX0_changeLike 5 = .ok (.bipush 7, 2) := by decide +kernel
theorem dX0_changeLike_7 : decode cX0_changeLike 7 = .ok (.imul, 1) := by decide +kernel
theorem dX0_changeLike_8 : decode cX0_changeLike 8 = .ok (.iload_n 2, 1) := by decide +kernel
theorem dX0_changeLike_9 : decode cX0_changeLike 9 = .ok (.iadd, 1) := by decide +kernel
theorem dX0_changeLike_10 : decode cX0_changeLike 10 = .ok (.iaload, 1) := by decide +kernel
theorem dX0_changeLike_11 : decode cX0_changeLike 11 = .ok (.istore 4, 2) := by decide +kernel
theorem dX0_changeLike_13 : decode cX0_changeLike 13 = .ok (.aload_n 0, 1) := by decide +kernel
theorem dX0_changeLike_14 : decode cX0_changeLike 14 = .ok (.getfield 18, 3) := by decide +kernel
theorem dX0_changeLike_17 : decode cX0_changeLike 17 = .ok (.iload_n 1, 1) := by decide +kernel
theorem dX0_changeLike_18 : decode cX0_changeLike 18 = .ok (.bipush 7, 2) := by decide +kernel
theorem dX0_changeLike_20 : decode cX0_changeLike 20 = .ok (.imul, 1) := by decide +kernel
theorem dX0_changeLike_21 : decode cX0_changeLike 21 = .ok (.iload_n 2, 1) := by decide +kernel
theorem dX0_changeLike_22 : decode cX0_changeLike 22 = .ok (.iadd, 1) := by decide +kernel
theorem dX0_changeLike_23 : decode cX0_changeLike 23 = .ok (.iload_n 3, 1) := by decide +kernel
theorem dX0_changeLike_24 : decode cX0_changeLike 24 = .ok (.iastore, 1) := by decide +kernel
theorem dX0_changeLike_25 : decode cX0_changeLike 25 = .ok (.iload 4, 2) := by decide +kernel
theorem dX0_changeLike_27 : decode cX0_changeLike 27 = .ok (.ireturn, 1) := by decide +kernel
theorem dX0_bind_0 : decode cX0_bind 0 = .ok (.aload_n 0, 1) := by decide +kernel
theorem dX0_bind_1 : decode cX0_bind 1 = .ok (.getfield 21, 3) := by decide +kernel
theorem dX0_bind_4 : decode cX0_bind 4 = .ok (.iload_n 1, 1) := by decide +kernel
theorem dX0_bind_5 : decode cX0_bind 5 = .ok (.iload_n 3, 1) := by decide +kernel
theorem dX0_bind_6 : decode cX0_bind 6 = .ok (.ifCond .eq 17, 3) := by decide +kernel
theorem dX0_bind_9 : decode cX0_bind 9 = .ok (.aload_n 0, 1) := by decide +kernel
theorem dX0_bind_10 : decode cX0_bind 10 = .ok (.getfield 21, 3) := by decide +kernel
theorem dX0_bind_13 : decode cX0_bind 13 = .ok (.iload_n 1, 1) := by decide +kernel
theorem dX0_bind_14 : decode cX0_bind 14 = .ok (.iaload, 1) := by decide +kernel
theorem dX0_bind_15 : decode cX0_bind 15 = .ok (.iload_n 2, 1) := by decide +kernel
theorem dX0_bind_16 : decode cX0_bind 16 = .ok (.invokestatic 55, 3) := by decide +kernel
theorem dX0_bind_19 : decode cX0_bind 19 = .ok (.ior, 1) := by decide +kernel
theorem dX0_bind_20 : decode cX0_bind 20 = .ok (.goto 16, 3) := by decide +kernel
theorem dX0_bind_23 : decode cX0_bind 23 = .ok (.aload_n 0, 1) := by decide +kernel
theorem dX0_bind_24 : decode cX0_bind 24 = .ok (.getfield 21, 3) := by decide +kernel
theorem dX0_bind_27 : decode cX0_bind 27 = .ok (.iload_n 1, 1) := by decide +kernel
theorem dX0_bind_28 : decode cX0_bind 28 = .ok (.iaload, 1) := by decide +kernel
theorem dX0_bind_29 : decode cX0_bind 29 = .ok (.iload_n 2, 1) := by decide +kernel
theorem dX0_bind_30 : decode cX0_bind 30 = .ok (.invokestatic 55, 3) := by decide +kernel
theorem dX0_bind_33 : decode cX0_bind 33 = .ok (.iconst (-1), 1) := by decide +kernel
theorem dX0_bind_34 : decode cX0_bind 34 = .ok (.ixor, 1) := by decide +kernel
theorem dX0_bind_35 : decode cX0_bind 35 = .ok (.iand, 1) := by decide +kernel
theorem dX0_bind_36 : decode cX0_bind 36 = .ok (.iastore, 1) := by decide +kernel
theorem dX0_bind_37 : decode cX0_bind 37 = .ok (.aload_n 0, 1) := by decide +kernel
theorem dX0_bind_38 : decode cX0_bind 38 = .ok (.getfield 21, 3) := by decide +kernel
theorem dX0_bind_41 : decode cX0_bind 41 = .ok (.iload_n 2, 1) := by decide +kernel
theorem dX0_bind_42 : decode cX0_bind 42 = .ok (.iload_n 3, 1) := by decide +kernel
theorem dX0_bind_43 : decode cX0_bind 43 = .ok (.ifCond .eq 17, 3) := by decide +kernel
theorem dX0_bind_46 : decode cX0_bind 46 = .ok (.aload_n 0, 1) := by decide +kernel
theorem dX0_bind_47 : decode cX0_bind 47 = .ok (.getfield 21, 3) := by decide +kernel
theorem dX0_bind_50 : decode cX0_bind 50 = .ok (.iload_n 2, 1) := by decide +kernel
theorem dX0_bind_51 : decode cX0_bind 51 = .ok (.iaload, 1) := by decide +kernel
theorem dX0_bind_52 : decode cX0_bind 52 = .ok (.iload_n 1, 1) := by decide +kernel
theorem dX0_bind_53 : decode cX0_bind 53 = .ok (.invokestatic 55, 3) := by decide +kernel
theorem dX0_bind_56 : decode cX0_bind 56 = .ok (.ior, 1) := by decide +kernel
theorem dX0_bind_57 : decode cX0_bind 57 = .ok (.goto 16, 3) := by decide +kernel
theorem dX0_bind_60 : decode cX0_bind 60 = .ok (.aload_n 0, 1) := by decide +kernel
theorem dX0_bind_61 : decode cX0_bind 61 = .ok (.getfield 21, 3) := by decide +kernel
theorem dX0_bind_64 : decode cX0_bind 64 = .ok (.iload_n 2, 1) := by decide +kernel
theorem dX0_bind_65 : decode cX0_bind 65 = .ok (.iaload, 1) := by decide +kernel
theorem dX0_bind_66 : decode cX0_bind 66 = .ok (.iload_n 1, 1) := by decide +kernel
theorem dX0_bind_67 : decode cX0_bind 67 = .ok (.invokestatic 55, 3) := by decide +kernel
theorem dX0_bind_70 : decode cX0_bind 70 = .ok (.iconst (-1), 1) := by decide +kernel
theorem dX0_bind_71 : decode cX0_bind 71 = .ok (.ixor, 1) := by decide +kernel
theorem dX0_bind_72 : decode cX0_bind 72 = .ok (.iand, 1) := by decide +kernel
theorem dX0_bind_73 : decode cX0_bind 73 = .ok (.iastore, 1) := by decide +kernel
theorem dX0_bind_74 : decode cX0_bind 74 = .ok (.return_, 1) := by decide +kernel
theorem dX0_oathPairs_0 : decode cX0_oathPairs 0 = .ok (.iconst 0, 1) := by decide +kernel
theorem dX0_oathPairs_1 : decode cX0_oathPairs 1 = .ok (.istore_n 1, 1) := by decide +kernel
theorem dX0_oathPairs_2 : decode cX0_oathPairs 2 = .ok (.iconst 0, 1) := by decide +kernel
theorem dX0_oathPairs_3 : decode cX0_oathPairs 3 = .ok (.istore_n 2, 1) := by decide +kernel
theorem dX0_oathPairs_4 : decode cX0_oathPairs 4 = .ok (.iload_n 2, 1) := by decide +kernel
theorem dX0_oathPairs_5 : decode cX0_oathPairs 5 = .ok (.aload_n 0, 1) := by decide +kernel
theorem dX0_oathPairs_6 : decode cX0_oathPairs 6 = .ok (.getfield 43, 3) := by decide +kernel
theorem dX0_oathPairs_9 : decode cX0_oathPairs 9 = .ok (.if_icmp .ge 21, 3) := by decide +kernel
theorem dX0_oathPairs_12 : decode cX0_oathPairs 12 = .ok (.iload_n 1, 1) := by decide +kernel
theorem dX0_oathPairs_13 : decode cX0_oathPairs 13 = .ok (.aload_n 0, 1) := by decide +kernel
theorem dX0_oathPairs_14 : decode cX0_oathPairs 14 = .ok (.getfield 21, 3) := by decide +kernel
theorem dX0_oathPairs_17 : decode cX0_oathPairs 17 = .ok (.iload_n 2, 1) := by decide +kernel
theorem dX0_oathPairs_18 : decode cX0_oathPairs 18 = .ok (.iaload, 1) := by decide +kernel
theorem dX0_oathPairs_19 : decode cX0_oathPairs 19 = .ok (.invokestatic 67, 3) := by decide +kernel
theorem dX0_oathPairs_22 : decode cX0_oathPairs 22 = .ok (.iadd, 1) := by decide +kernel
theorem dX0_oathPairs_23 : decode cX0_oathPairs 23 = .ok (.istore_n 1, 1) := by decide +kernel
theorem dX0_oathPairs_24 : decode cX0_oathPairs 24 = .ok (.iinc 2 1, 3) := by decide +kernel
theorem dX0_oathPairs_27 : decode cX0_oathPairs 27 = .ok (.goto (-23), 3) := by decide +kernel
theorem dX0_oathPairs_30 : decode cX0_oathPairs 30 = .ok (.iload_n 1, 1) := by decide +kernel
theorem dX0_oathPairs_31 : decode cX0_oathPairs 31 = .ok (.iconst 2, 1) := by decide +kernel
theorem dX0_oathPairs_32 : decode cX0_oathPairs 32 = .ok (.idiv, 1) := by decide +kernel
theorem dX0_oathPairs_33 : decode cX0_oathPairs 33 = .ok (.ireturn, 1) := by decide +kernel
theorem dX0_leave_0 : decode cX0_leave 0 = .ok (.aload_n 0, 1) := by decide +kernel
theorem dX0_leave_1 : decode cX0_leave 1 = .ok (.dup, 1) := by decide +kernel
theorem dX0_leave_2 : decode cX0_leave 2 = .ok (.getfield 46, 3) := by decide +kernel
theorem dX0_leave_5 : decode cX0_leave 5 = .ok (.iload_n 1, 1) := by decide +kernel
theorem dX0_leave_6 : decode cX0_leave 6 = .ok (.invokestatic 55, 3) := by decide +kernel
theorem dX0_leave_9 : decode cX0_leave 9 = .ok (.iconst (-1), 1) := by decide +kernel
theorem dX0_leave_10 : decode cX0_leave 10 = .ok (.ixor, 1) := by decide +kernel
theorem dX0_leave_11 : decode cX0_leave 11 = .ok (.iand, 1) := by decide +kernel
theorem dX0_leave_12 : decode cX0_leave 12 = .ok (.putfield 46, 3) := by decide +kernel
theorem dX0_leave_15 : decode cX0_leave 15 = .ok (.return_, 1) := by decide +kernel
theorem dX0_passDay_0 : decode cX0_passDay 0 = .ok (.aload_n 0, 1) := by decide +kernel
theorem dX0_passDay_1 : decode cX0_passDay 1 = .ok (.aload_n 0, 1) := by decide +kernel
theorem dX0_passDay_2 : decode cX0_passDay 2 = .ok (.getfield 49, 3) := by decide +kernel
theorem dX0_passDay_5 : decode cX0_passDay 5 = .ok (.iconst 1, 1) := by decide +kernel
theorem dX0_passDay_6 : decode cX0_passDay 6 = .ok (.iadd, 1) := by decide +kernel
theorem dX0_passDay_7 : decode cX0_passDay 7 = .ok (.sipush 999, 3) := by decide +kernel
theorem dX0_passDay_10 : decode cX0_passDay 10 = .ok (.invokestatic 72, 3) := by decide +kernel
theorem dX0_passDay_13 : decode cX0_passDay 13 = .ok (.putfield 49, 3) := by decide +kernel
theorem dX0_passDay_16 : decode cX0_passDay 16 = .ok (.return_, 1) := by decide +kernel
theorem dX0_share_0 : decode cX0_share 0 = .ok (.iload_n 1, 1) := by decide +kernel
theorem dX0_share_1 : decode cX0_share 1 = .ok (.ifCond .le 12, 3) := by decide +kernel
theorem dX0_share_4 : decode cX0_share 4 = .ok (.aload_n 0, 1) := by decide +kernel
theorem dX0_share_5 : decode cX0_share 5 = .ok (.getfield 24, 3) := by decide +kernel
theorem dX0_share_8 : decode cX0_share 8 = .ok (.iload_n 1, 1) := by decide +kernel
theorem dX0_share_9 : decode cX0_share 9 = .ok (.idiv, 1) := by decide +kernel
theorem dX0_share_10 : decode cX0_share 10 = .ok (.goto 4, 3) := by decide +kernel
theorem dX0_share_13 : decode cX0_share 13 = .ok (.iconst 0, 1) := by decide +kernel
theorem dX0_share_14 : decode cX0_share 14 = .ok (.ireturn, 1) := by decide +kernel
theorem dX0_bringsOf_0 : decode cX0_bringsOf 0 = .ok (.aload_n 0, 1) := by decide +kernel
theorem dX0_bringsOf_1 : decode cX0_bringsOf 1 = .ok (.getfield 9, 3) := by decide +kernel
theorem dX0_bringsOf_4 : decode cX0_bringsOf 4 = .ok (.iload_n 1, 1) := by decide +kernel
theorem dX0_bringsOf_5 : decode cX0_bringsOf 5 = .ok (.iaload, 1) := by decide +kernel
theorem dX0_bringsOf_6 : decode cX0_bringsOf 6 = .ok (.aload_n 0, 1) := by decide +kernel
theorem dX0_bringsOf_7 : decode cX0_bringsOf 7 = .ok (.getfield 15, 3) := by decide +kernel
theorem dX0_bringsOf_10 : decode cX0_bringsOf 10 = .ok (.iload_n 1, 1) := by decide +kernel
theorem dX0_bringsOf_11 : decode cX0_bringsOf 11 = .ok (.iaload, 1) := by decide +kernel
theorem dX0_bringsOf_12 : decode cX0_bringsOf 12 = .ok (.iload_n 2, 1) := by decide +kernel
theorem dX0_bringsOf_13 : decode cX0_bringsOf 13 = .ok (.invokestatic 78, 3) := by decide +kernel
theorem dX0_bringsOf_16 : decode cX0_bringsOf 16 = .ok (.ireturn, 1) := by decide +kernel
theorem dX0_wantsOf_0 : decode cX0_wantsOf 0 = .ok (.iconst 0, 1) := by decide +kernel
theorem dX0_wantsOf_1 : decode cX0_wantsOf 1 = .ok (.aload_n 0, 1) := by decide +kernel
theorem dX0_wantsOf_2 : decode cX0_wantsOf 2 = .ok (.getfield 9, 3) := by decide +kernel
theorem dX0_wantsOf_5 : decode cX0_wantsOf 5 = .ok (.iload_n 1, 1) := by decide +kernel
theorem dX0_wantsOf_6 : decode cX0_wantsOf 6 = .ok (.iaload, 1) := by decide +kernel
theorem dX0_wantsOf_7 : decode cX0_wantsOf 7 = .ok (.aload_n 0, 1) := by decide +kernel
theorem dX0_wantsOf_8 : decode cX0_wantsOf 8 = .ok (.getfield 15, 3) := by decide +kernel
theorem dX0_wantsOf_11 : decode cX0_wantsOf 11 = .ok (.iload_n 1, 1) := by decide +kernel
theorem dX0_wantsOf_12 : decode cX0_wantsOf 12 = .ok (.iaload, 1) := by decide +kernel
theorem dX0_wantsOf_13 : decode cX0_wantsOf 13 = .ok (.iload_n 2, 1) := by decide +kernel
theorem dX0_wantsOf_14 : decode cX0_wantsOf 14 = .ok (.iload_n 3, 1) := by decide +kernel
theorem dX0_wantsOf_15 : decode cX0_wantsOf 15 = .ok (.invokestatic 82, 3) := by decide +kernel
theorem dX0_wantsOf_18 : decode cX0_wantsOf 18 = .ok (.invokestatic 86, 3) := by decide +kernel
theorem dX0_wantsOf_21 : decode cX0_wantsOf 21 = .ok (.ireturn, 1) := by decide +kernel
theorem dX1_init_0 : decode cX1_init 0 = .ok (.aload_n 0, 1) := by decide +kernel
theorem dX1_init_1 : decode cX1_init 1 = .ok (.invokespecial 3, 3) := by decide +kernel
theorem dX1_init_4 : decode cX1_init 4 = .ok (.aload_n 0, 1) := by decide +kernel
theorem dX1_init_5 : decode cX1_init 5 = .ok (.new 9, 3) := by decide +kernel
theorem dX1_init_8 : decode cX1_init 8 = .ok (.dup, 1) := by decide +kernel
theorem dX1_init_9 : decode cX1_init 9 = .ok (.invokespecial 11, 3) := by decide +kernel
theorem dX1_init_12 : decode cX1_init 12 = .ok (.putfield 12, 3) := by decide +kernel
theorem dX1_init_15 : decode cX1_init 15 = .ok (.aload_n 0, 1) := by decide +kernel
theorem dX1_init_16 : decode cX1_init 16 = .ok (.new 18, 3) := by decide +kernel
theorem dX1_init_19 : decode cX1_init 19 = .ok (.dup, 1) := by decide +kernel
theorem dX1_init_20 : decode cX1_init 20 = .ok (.iconst 0, 1) := by decide +kernel
theorem dX1_init_21 : decode cX1_init 21 = .ok (.newarray .int, 2) := by decide +kernel
theorem dX1_init_23 : decode cX1_init 23 = .ok (.iconst 0, 1) := by decide +kernel
theorem dX1_init_24 : decode cX1_init 24 = .ok (.iconst 0, 1) := by decide +kernel
theorem dX1_init_25 : decode cX1_init 25 = .ok (.invokespecial 20, 3) := by decide +kernel
theorem dX1_init_28 : decode cX1_init 28 = .ok (.putfield 23, 3) := by decide +kernel
theorem dX1_init_31 : decode cX1_init 31 = .ok (.aload_n 0, 1) := by decide +kernel
theorem dX1_init_32 : decode cX1_init 32 = .ok (.bipush 6, 2) := by decide +kernel
theorem dX1_init_34 : decode cX1_init 34 = .ok (.newarray .int, 2) := by decide +kernel
theorem dX1_init_36 : decode cX1_init 36 = .ok (.putfield 27, 3) := by decide +kernel
theorem dX1_init_39 : decode cX1_init 39 = .ok (.aload_n 0, 1) := by decide +kernel
theorem dX1_init_40 : decode cX1_init 40 = .ok (.sipush 160, 3) := by decide +kernel
theorem dX1_init_43 : decode cX1_init 43 = .ok (.newarray .int, 2) := by decide +kernel
theorem dX1_init_45 : decode cX1_init 45 = .ok (.putfield 31, 3) := by decide +kernel
theorem dX1_init_48 : decode cX1_init 48 = .ok (.aload_n 0, 1) := by decide +kernel
theorem dX1_init_49 : decode cX1_init 49 = .ok (.bipush 49, 2) := by decide +kernel
theorem dX1_init_51 : decode cX1_init 51 = .ok (.newarray .int, 2) := by decide +kernel
theorem dX1_init_53 : decode cX1_init 53 = .ok (.putfield 34, 3) := by decide +kernel
theorem dX1_init_56 : decode cX1_init 56 = .ok (.aload_n 0, 1) := by decide +kernel
theorem dX1_init_57 : decode cX1_init 57 = .ok (.bipush 7, 2) := by decide +kernel
theorem dX1_init_59 : decode cX1_init 59 = .ok (.newarray .int, 2) := by decide +kernel
theorem dX1_init_61 : decode cX1_init 61 = .ok (.putfield 37, 3) := by decide +kernel
theorem dX1_init_64 : decode cX1_init 64 = .ok (.aload_n 0, 1) := by decide +kernel
theorem dX1_init_65 : decode cX1_init 65 = .ok (.bipush 7, 2) := by decide +kernel
theorem dX1_init_67 : decode cX1_init 67 = .ok (.newarray .int, 2) := by decide +kernel
theorem dX1_init_69 : decode cX1_init 69 = .ok (.putfield 40, 3) := by decide +kernel
theorem dX1_init_72 : decode cX1_init 72 = .ok (.aload_n 0, 1) := by decide +kernel
theorem dX1_init_73 : decode cX1_init 73 = .ok (.sipush 896, 3) := by decide +kernel
theorem dX1_init_76 : decode cX1_init 76 = .ok (.newarray .int, 2) := by decide +kernel
theorem dX1_init_78 : decode cX1_init 78 = .ok (.putfield 43, 3) := by decide +kernel
theorem dX1_init_81 : decode cX1_init 81 = .ok (.aload_n 0, 1) := by decide +kernel
theorem dX1_init_82 : decode cX1_init 82 = .ok (.sipush 128, 3) := by decide +kernel
theorem dX1_init_85 : decode cX1_init 85 = .ok (.newarray .int, 2) := by decide +kernel
theorem dX1_init_87 : decode cX1_init 87 = .ok (.putfield 46, 3) := by decide +kernel
theorem dX1_init_90 : decode cX1_init 90 = .ok (.aload_n 0, 1) := by decide +kernel
theorem dX1_init_91 : decode cX1_init 91 = .ok (.sipush 128, 3) := by decide +kernel
theorem dX1_init_94 : decode cX1_init 94 = .ok (.newarray .int, 2) := by decide +kernel
theorem dX1_init_96 : decode cX1_init 96 = .ok (.putfield 49, 3) := by decide +kernel
theorem dX1_init_99 : decode cX1_init 99 = .ok (.aload_n 0, 1) := by decide +kernel
theorem dX1_init_100 : decode cX1_init 100 = .ok (.bipush 35, 2) := by decide +kernel
theorem dX1_init_102 : decode cX1_init 102 = .ok (.newarray .int, 2) := by decide +kernel
theorem dX1_init_104 : decode cX1_init 104 = .ok (.putfield 52, 3) := by decide +kernel
theorem dX1_init_107 : decode cX1_init 107 = .ok (.aload_n 0, 1) := by decide +kernel
theorem dX1_init_108 : decode cX1_init 108 = .ok (.bipush 7, 2) := by decide +kernel
theorem dX1_init_110 : decode cX1_init 110 = .ok (.newarray .int, 2) := by decide +kernel
theorem dX1_init_112 : decode cX1_init 112 = .ok (.putfield 55, 3) := by decide +kernel
theorem dX1_init_115 : decode cX1_init 115 = .ok (.aload_n 0, 1) := by decide +kernel
theorem dX1_init_116 : decode cX1_init 116 = .ok (.iconst 3, 1) := by decide +kernel
theorem dX1_init_117 : decode cX1_init 117 = .ok (.newarray .int, 2) := by decide +kernel
theorem dX1_init_119 : decode cX1_init 119 = .ok (.putfield 58, 3) := by decide +kernel
theorem dX1_init_122 : decode cX1_init 122 = .ok (.aload_n 0, 1) := by decide +kernel
theorem dX1_init_123 : decode cX1_init 123 = .ok (.iconst 3, 1) := by decide +kernel
theorem dX1_init_124 : decode cX1_init 124 = .ok (.newarray .int, 2) := by decide +kernel
theorem dX1_init_126 : decode cX1_init 126 = .ok (.putfield 61, 3) := by decide +kernel
theorem dX1_init_129 : decode cX1_init 129 = .ok (.return_, 1) := by decide +kernel
theorem dX1_factsOf_0 : decode cX1_factsOf 0 = .ok (.aload_n 0, 1) := by decide +kernel
theorem dX1_factsOf_1 : decode cX1_factsOf 1 = .ok (.getfield 27, 3) := by decide +kernel
theorem dX1_factsOf_4 : decode cX1_factsOf 4 = .ok (.iconst 0, 1) := by decide +kernel
theorem dX1_factsOf_5 : decode cX1_factsOf 5 = .ok (.aload_n 0, 1) := by decide +kernel
theorem dX1_factsOf_6 : decode cX1_factsOf 6 = .ok (.getfield 12, 3) := by decide +kernel
theorem dX1_factsOf_9 : decode cX1_factsOf 9 = .ok (.getfield 64, 3) := by decide +kernel
theorem dX1_factsOf_12 : decode cX1_factsOf 12 = .ok (.iload_n 1, 1) := by decide +kernel
theorem dX1_factsOf_13 : decode cX1_factsOf 13 = .ok (.bipush 7, 2) := by decide +kernel
theorem dX1_factsOf_15 : decode cX1_factsOf 15 = .ok (.imul, 1) := by decide +kernel
theorem dX1_factsOf_16 : decode cX1_factsOf 16 = .ok (.iload_n 2, 1) := by decide +kernel
theorem dX1_factsOf_17 : decode cX1_factsOf 17 = .ok (.iadd, 1) := by decide +kernel
theorem dX1_factsOf_18 : decode cX1_factsOf 18 = .ok (.iaload, 1) := by decide +kernel
theorem dX1_factsOf_19 : decode cX1_factsOf 19 = .ok (.iastore, 1) := by decide +kernel
theorem dX1_factsOf_20 : decode cX1_factsOf 20 = .ok (.aload_n 0, 1) := by decide +kernel
theorem dX1_factsOf_21 : decode cX1_factsOf 21 = .ok (.getfield 27, 3) := by decide +kernel
theorem dX1_factsOf_24 : decode cX1_factsOf 24 = .ok (.iconst 1, 1) := by decide +kernel
theorem dX1_factsOf_25 : decode cX1_factsOf 25 = .ok (.iload_n 3, 1) := by decide +kernel
theorem dX1_factsOf_26 : decode cX1_factsOf 26 = .ok (.iastore, 1) := by decide +kernel
theorem dX1_factsOf_27 : decode cX1_factsOf 27 = .ok (.aload_n 0, 1) := by decide +kernel
theorem dX1_factsOf_28 : decode cX1_factsOf 28 = .ok (.getfield 27, 3) := by decide +kernel
theorem dX1_factsOf_31 : decode cX1_factsOf 31 = .ok (.iconst 2, 1) := by decide +kernel
theorem dX1_factsOf_32 : decode cX1_factsOf 32 = .ok (.aload_n 0, 1) := by decide +kernel
theorem dX1_factsOf_33 : decode cX1_factsOf 33 = .ok (.getfield 12, 3) := by decide +kernel
theorem dX1_factsOf_36 : decode cX1_factsOf 36 = .ok (.iload_n 3, 1) := by decide +kernel
theorem dX1_factsOf_37 : decode cX1_factsOf 37 = .ok (.invokevirtual 67, 3) := by decide +kernel
theorem dX1_factsOf_40 : decode cX1_factsOf 40 = .ok (.iastore, 1) := by decide +kernel
theorem dX1_factsOf_41 : decode cX1_factsOf 41 = .ok (.aload_n 0, 1) := by decide +kernel
theorem dX1_factsOf_42 : decode cX1_factsOf 42 = .ok (.getfield 27, 3) := by decide +kernel
theorem dX1_factsOf_45 : decode cX1_factsOf 45 = .ok (.iconst 3, 1) := by decide +kernel
theorem dX1_factsOf_46 : decode cX1_factsOf 46 = .ok (.aload_n 0, 1) := by decide +kernel
theorem dX1_factsOf_47 : decode cX1_factsOf 47 = .ok (.getfield 12, 3) := by decide +kernel
theorem dX1_factsOf_50 : decode cX1_factsOf 50 = .ok (.getfield 71, 3) := by decide +kernel
theorem dX1_factsOf_53 : decode cX1_factsOf 53 = .ok (.iastore, 1) := by decide +kernel
theorem dX1_factsOf_54 : decode cX1_factsOf 54 = .ok (.aload_n 0, 1) := by decide +kernel
theorem dX1_factsOf_55 : decode cX1_factsOf 55 = .ok (.getfield 27, 3) := by decide +kernel
theorem dX1_factsOf_58 : decode cX1_factsOf 58 = .ok (.iconst 4, 1) := by decide +kernel
theorem dX1_factsOf_59 : decode cX1_factsOf 59 = .ok (.iload_n 1, 1) := by decide +kernel
theorem dX1_factsOf_60 : decode cX1_factsOf 60 = .ok (.iastore, 1) := by decide +kernel
theorem dX1_factsOf_61 : decode cX1_factsOf 61 = .ok (.aload_n 0, 1) := by decide +kernel
theorem dX1_factsOf_62 : decode cX1_factsOf 62 = .ok (.getfield 27, 3) := by decide +kernel
theorem dX1_factsOf_65 : decode cX1_factsOf 65 = .ok (.iconst 5, 1) := by decide +kernel
theorem dX1_factsOf_66 : decode cX1_factsOf 66 = .ok (.iload_n 2, 1) := by decide +kernel
theorem dX1_factsOf_67 : decode cX1_factsOf 67 = .ok (.iastore, 1) := by decide +kernel
theorem dX1_factsOf_68 : decode cX1_factsOf 68 = .ok (.aload_n 0, 1) := by decide +kernel
theorem dX1_factsOf_69 : decode cX1_factsOf 69 = .ok (.getfield 27, 3) := by decide +kernel
theorem dX1_factsOf_72 : decode cX1_factsOf 72 = .ok (.areturn, 1) := by decide +kernel
theorem dX1_worthOf_0 : decode cX1_worthOf 0 = .ok (.aload_n 0, 1) := by decide +kernel
theorem dX1_worthOf_1 : decode cX1_worthOf 1 = .ok (.getfield 23, 3) := by decide +kernel
theorem dX1_worthOf_4 : decode cX1_worthOf 4 = .ok (.bipush (-19), 2) := by decide +kernel
theorem dX1_worthOf_6 : decode cX1_worthOf 6 = .ok (.aload_n 0, 1) := by decide +kernel
theorem dX1_worthOf_7 : decode cX1_worthOf 7 = .ok (.iload_n 1, 1) := by decide +kernel
theorem dX1_worthOf_8 : decode cX1_worthOf 8 = .ok (.iload_n 2, 1) := by decide +kernel
theorem dX1_worthOf_9 : decode cX1_worthOf 9 = .ok (.iload_n 3, 1) := by decide +kernel
theorem dX1_worthOf_10 : decode cX1_worthOf 10 = .ok (.invokevirtual 75, 3) := by decide +kernel
theorem dX1_worthOf_13 : decode cX1_worthOf 13 = .ok (.aload_n 0, 1) := by decide +kernel
theorem dX1_worthOf_14 : decode cX1_worthOf 14 = .ok (.getfield 31, 3) := by decide +kernel
theorem dX1_worthOf_17 : decode cX1_worthOf 17 = .ok (.invokevirtual 79, 3) := by decide +kernel
theorem dX1_worthOf_20 : decode cX1_worthOf 20 = .ok (.istore 4, 2) := by decide +kernel
theorem dX1_worthOf_22 : decode cX1_worthOf 22 = .ok (.iload 4, 2) := by decide +kernel
theorem dX1_worthOf_24 : decode cX1_worthOf 24 = .ok (.bipush (-99), 2) := by decide +kernel
theorem dX1_worthOf_26 : decode cX1_worthOf 26 = .ok (.bipush 99, 2) := by decide +kernel
theorem dX1_worthOf_28 : decode cX1_worthOf 28 = .ok (.invokestatic 83, 3) := by decide +kernel
theorem dX1_worthOf_31 : decode cX1_worthOf 31 = .ok (.aload_n 0, 1) := by decide +kernel
theorem dX1_worthOf_32 : decode cX1_worthOf 32 = .ok (.getfield 12, 3) := by decide +kernel
theorem dX1_worthOf_35 : decode cX1_worthOf 35 = .ok (.iload_n 2, 1) := by decide +kernel
theorem dX1_worthOf_36 : decode cX1_worthOf 36 = .ok (.iload_n 3, 1) := by decide +kernel
theorem dX1_worthOf_37 : decode cX1_worthOf 37 = .ok (.invokevirtual 87, 3) := by decide +kernel
theorem dX1_worthOf_40 : decode cX1_worthOf 40 = .ok (.iadd, 1) := by decide +kernel
theorem dX1_worthOf_41 : decode cX1_worthOf 41 = .ok (.ireturn, 1) := by decide +kernel
theorem dX1_goodOf_0 : decode cX1_goodOf 0 = .ok (.aload_n 0, 1) := by decide +kernel
theorem dX1_goodOf_1 : decode cX1_goodOf 1 = .ok (.getfield 12, 3) := by decide +kernel
theorem dX1_goodOf_4 : decode cX1_goodOf 4 = .ok (.iload_n 3, 1) := by decide +kernel
theorem dX1_goodOf_5 : decode cX1_goodOf 5 = .ok (.invokevirtual 67, 3) := by decide +kernel
theorem dX1_goodOf_8 : decode cX1_goodOf 8 = .ok (.istore 4, 2) := by decide +kernel
theorem dX1_goodOf_10 : decode cX1_goodOf 10 = .ok (.iconst 0, 1) := by decide +kernel
theorem dX1_goodOf_11 : decode cX1_goodOf 11 = .ok (.istore 5, 2) := by decide +kernel
theorem dX1_goodOf_13 : decode cX1_goodOf 13 = .ok (.iload 5, 2) := by decide +kernel
theorem dX1_goodOf_15 : decode cX1_goodOf 15 = .ok (.bipush 7, 2) := by decide +kernel
theorem dX1_goodOf_17 : decode cX1_goodOf 17 = .ok (.if_icmp .ge 37, 3) := by decide +kernel
theorem dX1_goodOf_20 : decode cX1_goodOf 20 = .ok (.iload_n 2, 1) := by decide +kernel
theorem dX1_goodOf_21 : decode cX1_goodOf 21 = .ok (.iload 5, 2) := by decide +kernel
theorem dX1_goodOf_23 : decode cX1_goodOf 23 = .ok (.invokestatic 91, 3) := by decide +kernel
theorem dX1_goodOf_26 : decode cX1_goodOf 26 = .ok (.ifCond .eq 22, 3) := by decide +kernel
theorem dX1_goodOf_29 : decode cX1_goodOf 29 = .ok (.iload 5, 2) := by decide +kernel
theorem dX1_goodOf_31 : decode cX1_goodOf 31 = .ok (.iload_n 1, 1) := by decide +kernel
theorem dX1_goodOf_32 : decode cX1_goodOf 32 = .ok (.if_icmp .eq 16, 3) := by decide +kernel
theorem dX1_goodOf_35 : decode cX1_goodOf 35 = .ok (.iload 4, 2) := by decide +kernel
theorem dX1_goodOf_37 : decode cX1_goodOf 37 = .ok (.aload_n 0, 1) := by decide +kernel
theorem dX1_goodOf_38 : decode cX1_goodOf 38 = .ok (.iload_n 1, 1) := by decide +kernel
theorem dX1_goodOf_39 : decode cX1_goodOf 39 = .ok (.iload 5, 2) := by decide +kernel
theorem dX1_goodOf_41 : decode cX1_goodOf 41 = .ok (.iload_n 3, 1) := by decide +kernel
theorem dX1_goodOf_42 : decode cX1_goodOf 42 = .ok (.invokevirtual 95, 3) := by decide +kernel
theorem dX1_goodOf_45 : decode cX1_goodOf 45 = .ok (.iadd, 1) := by decide +kernel
theorem dX1_goodOf_46 : decode cX1_goodOf 46 = .ok (.istore 4, 2) := by decide +kernel
theorem dX1_goodOf_48 : decode cX1_goodOf 48 = .ok (.iinc 5 1, 3) := by decide +kernel
theorem dX1_goodOf_51 : decode cX1_goodOf 51 = .ok (.goto (-38), 3) := by decide +kernel
theorem dX1_goodOf_54 : decode cX1_goodOf 54 = .ok (.iload 4, 2) := by decide +kernel
theorem dX1_goodOf_56 : decode cX1_goodOf 56 = .ok (.ireturn, 1) := by decide +kernel
theorem dX1_moves_0 : decode cX1_moves 0 = .ok (.aload_n 0, 1) := by decide +kernel
theorem dX1_moves_1 : decode cX1_moves 1 = .ok (.getfield 12, 3) := by decide +kernel
theorem dX1_moves_4 : decode cX1_moves 4 = .ok (.iload_n 2, 1) := by decide +kernel
theorem dX1_moves_5 : decode cX1_moves 5 = .ok (.iload 4, 2) := by decide +kernel
theorem dX1_moves_7 : decode cX1_moves 7 = .ok (.iload 5, 2) := by decide +kernel
theorem dX1_moves_9 : decode cX1_moves 9 = .ok (.invokevirtual 98, 3) := by decide +kernel
theorem dX1_moves_12 : decode cX1_moves 12 = .ok (.istore 6, 2) := by decide +kernel
theorem dX1_moves_14 : decode cX1_moves 14 = .ok (.iload_n 1, 1) := by decide +kernel
theorem dX1_moves_15 : decode cX1_moves 15 = .ok (.iload 6, 2) := by decide +kernel
theorem dX1_moves_17 : decode cX1_moves 17 = .ok (.if_icmp .ge 5, 3) := by decide +kernel
theorem dX1_moves_20 : decode cX1_moves 20 = .ok (.iconst 0, 1) := by decide +kernel
theorem dX1_moves_21 : decode cX1_moves 21 = .ok (.ireturn, 1) := by decide +kernel
theorem dX1_moves_22 : decode cX1_moves 22 = .ok (.aload_n 0, 1) := by decide +kernel
theorem dX1_moves_23 : decode cX1_moves 23 = .ok (.iload_n 2, 1) := by decide +kernel
theorem dX1_moves_24 : decode cX1_moves 24 = .ok (.iload_n 3, 1) := by decide +kernel
theorem dX1_moves_25 : decode cX1_moves 25 = .ok (.iload 4, 2) := by decide +kernel
theorem dX1_moves_27 : decode cX1_moves 27 = .ok (.invokevirtual 75, 3) := by decide +kernel
theorem dX1_moves_30 : decode cX1_moves 30 = .ok (.pop, 1) := by decide +kernel
theorem dX1_moves_31 : decode cX1_moves 31 = .ok (.iload 5, 2) := by decide +kernel
theorem dX1_moves_33 : decode cX1_moves 33 = .ok (.ifCond .eq 35, 3) := by decide +kernel
theorem dX1_moves_36 : decode cX1_moves 36 = .ok (.iload_n 1, 1) := by decide +kernel
theorem dX1_moves_37 : decode cX1_moves 37 = .ok (.iload 6, 2) := by decide +kernel
theorem dX1_moves_39 : decode cX1_moves 39 = .ok (.aload_n 0, 1) := by decide +kernel
theorem dX1_moves_40 : decode cX1_moves 40 = .ok (.getfield 23, 3) := by decide +kernel
theorem dX1_moves_43 : decode cX1_moves 43 = .ok (.bipush (-20), 2) := by decide +kernel
theorem dX1_moves_45 : decode cX1_moves 45 = .ok (.aload_n 0, 1) := by decide +kernel
theorem dX1_moves_46 : decode cX1_moves 46 = .ok (.getfield 27, 3) := by decide +kernel
theorem dX1_moves_49 : decode cX1_moves 49 = .ok (.aload_n 0, 1) := by decide +kernel
theorem dX1_moves_50 : decode cX1_moves 50 = .ok (.getfield 31, 3) := by decide +kernel
theorem dX1_moves_53 : decode cX1_moves 53 = .ok (.invokevirtual 79, 3) := by decide +kernel
theorem dX1_moves_56 : decode cX1_moves 56 = .ok (.iconst 0, 1) := by decide +kernel
theorem dX1_moves_57 : decode cX1_moves 57 = .ok (.bipush 99, 2) := by decide +kernel
theorem dX1_moves_59 : decode cX1_moves 59 = .ok (.invokestatic 83, 3) := by decide +kernel
theorem dX1_moves_62 : decode cX1_moves 62 = .ok (.iadd, 1) := by decide +kernel
theorem dX1_moves_63 : decode cX1_moves 63 = .ok (.if_icmp .ge 5, 3) := by decide +kernel
theorem dX1_moves_66 : decode cX1_moves 66 = .ok (.iconst 0, 1) := by decide +kernel
theorem dX1_moves_67 : decode cX1_moves 67 = .ok (.ireturn, 1) := by decide +kernel
theorem dX1_moves_68 : decode cX1_moves 68 = .ok (.aload_n 0, 1) := by decide +kernel
theorem dX1_moves_69 : decode cX1_moves 69 = .ok (.getfield 23, 3) := by decide +kernel
theorem dX1_moves_72 : decode cX1_moves 72 = .ok (.bipush (-21), 2) := by decide +kernel
theorem dX1_moves_74 : decode cX1_moves 74 = .ok (.aload_n 0, 1) := by decide +kernel
theorem dX1_moves_75 : decode cX1_moves 75 = .ok (.getfield 27, 3) := by decide +kernel
theorem dX1_moves_78 : decode cX1_moves 78 = .ok (.aload_n 0, 1) := by decide +kernel
theorem dX1_moves_79 : decode cX1_moves 79 = .ok (.getfield 31, 3) := by decide +kernel
theorem dX1_moves_82 : decode cX1_moves 82 = .ok (.invokevirtual 79, 3) := by decide +kernel
theorem dX1_moves_85 : decode cX1_moves 85 = .ok (.ifCond .eq 7, 3) := by decide +kernel
theorem dX1_moves_88 : decode cX1_moves 88 = .ok (.iconst 1, 1) := by decide +kernel
theorem dX1_moves_89 : decode cX1_moves 89 = .ok (.goto 4, 3) := by decide +kernel
theorem dX1_moves_92 : decode cX1_moves 92 = .ok (.iconst 0, 1) := by decide +kernel
theorem dX1_moves_93 : decode cX1_moves 93 = .ok (.ireturn, 1) := by decide +kernel
theorem dX1_lookAt_0 : decode cX1_lookAt 0 = .ok (.aload_n 0, 1) := by decide +kernel
theorem dX1_lookAt_1 : decode cX1_lookAt 1 = .ok (.iload_n 1, 1) := by decide +kernel
theorem dX1_lookAt_2 : decode cX1_lookAt 2 = .ok (.putfield 102, 3) := by decide +kernel
theorem dX1_lookAt_5 : decode cX1_lookAt 5 = .ok (.aload_n 0, 1) := by decide +kernel
theorem dX1_lookAt_6 : decode cX1_lookAt 6 = .ok (.invokevirtual 105, 3) := by decide +kernel
theorem dX1_lookAt_9 : decode cX1_lookAt 9 = .ok (.aload_n 0, 1) := by decide +kernel
theorem dX1_lookAt_10 : decode cX1_lookAt 10 = .ok (.invokevirtual 108, 3) := by decide +kernel
theorem dX1_lookAt_13 : decode cX1_lookAt 13 = .ok (.return_, 1) := by decide +kernel
theorem dX1_compare_0 : decode cX1_compare 0 = .ok (.aload_n 0, 1) := by decide +kernel
theorem dX1_compare_1 : decode cX1_compare 1 = .ok (.getfield 102, 3) := by decide +kernel
theorem dX1_compare_4 : decode cX1_compare 4 = .ok (.invokestatic 111, 3) := by decide +kernel
theorem dX1_compare_7 : decode cX1_compare 7 = .ok (.istore_n 1, 1) := by decide +kernel
theorem dX1_compare_8 : decode cX1_compare 8 = .ok (.iconst 0, 1) := by decide +kernel
theorem dX1_compare_9 : decode cX1_compare 9 = .ok (.istore_n 2, 1) := by decide +kernel
theorem dX1_compare_10 : decode cX1_compare 10 = .ok (.iload_n 2, 1) := by decide +kernel
theorem dX1_compare_11 : decode cX1_compare 11 = .ok (.bipush 7, 2) := by decide +kernel
theorem dX1_compare_13 : decode cX1_compare 13 = .ok (.if_icmp .ge 110, 3) := by decide +kernel
theorem dX1_compare_16 : decode cX1_compare 16 = .ok (.iconst 0, 1) := by decide +kernel
theorem dX1_compare_17 : decode cX1_compare 17 = .ok (.istore_n 3, 1) := by decide +kernel
theorem dX1_compare_18 : decode cX1_compare 18 = .ok (.iconst 0, 1) := by decide +kernel
theorem dX1_compare_19 : decode cX1_compare 19 = .ok (.istore 4, 2) := by decide +kernel
theorem dX1_compare_21 : decode cX1_compare 21 = .ok (.iload 4, 2) := by decide +kernel
theorem dX1_compare_23 : decode cX1_compare 23 = .ok (.bipush 7, 2) := by decide +kernel
theorem dX1_compare_25 : decode cX1_compare 25 = .ok (.if_icmp .ge 60, 3) := by decide +kernel
theorem dX1_compare_28 : decode cX1_compare 28 = .ok (.aload_n 0, 1) := by decide +kernel
theorem dX1_compare_29 : decode cX1_compare 29 = .ok (.iload_n 2, 1) := by decide +kernel
theorem dX1_compare_30 : decode cX1_compare 30 = .ok (.iload 4, 2) := by decide +kernel
theorem dX1_compare_32 : decode cX1_compare 32 = .ok (.invokevirtual 116, 3) := by decide +kernel
theorem dX1_compare_35 : decode cX1_compare 35 = .ok (.ifCond .eq 44, 3) := by decide +kernel
theorem dX1_compare_38 : decode cX1_compare 38 = .ok (.aload_n 0, 1) := by decide +kernel
theorem dX1_compare_39 : decode cX1_compare 39 = .ok (.iload_n 2, 1) := by decide +kernel
theorem dX1_compare_40 : decode cX1_compare 40 = .ok (.iload 4, 2) := by decide +kernel
theorem dX1_compare_42 : decode cX1_compare 42 = .ok (.iload_n 1, 1) := by decide +kernel
theorem dX1_compare_43 : decode cX1_compare 43 = .ok (.iconst 1, 1) := by decide +kernel
theorem dX1_compare_44 : decode cX1_compare 44 = .ok (.isub, 1) := by decide +kernel
theorem dX1_compare_45 : decode cX1_compare 45 = .ok (.invokevirtual 95, 3) := by decide +kernel
theorem dX1_compare_48 : decode cX1_compare 48 = .ok (.istore 5, 2) := by decide +kernel
theorem dX1_compare_50 : decode cX1_compare 50 = .ok (.iload_n 3, 1) := by decide +kernel
theorem dX1_compare_51 : decode cX1_compare 51 = .ok (.iload 5, 2) := by decide +kernel
theorem dX1_compare_53 : decode cX1_compare 53 = .ok (.aload_n 0, 1) := by decide +kernel
theorem dX1_compare_54 : decode cX1_compare 54 = .ok (.iload_n 2, 1) := by decide +kernel
theorem dX1_compare_55 : decode cX1_compare 55 = .ok (.iload 4, 2) := by decide +kernel
theorem dX1_compare_57 : decode cX1_compare 57 = .ok (.iload_n 1, 1) := by decide +kernel
theorem dX1_compare_58 : decode cX1_compare 58 = .ok (.invokevirtual 95, 3) := by decide +kernel
theorem dX1_compare_61 : decode cX1_compare 61 = .ok (.isub, 1) := by decide +kernel
theorem dX1_compare_62 : decode cX1_compare 62 = .ok (.iadd, 1) := by decide +kernel
theorem dX1_compare_63 : decode cX1_compare 63 = .ok (.istore_n 3, 1) := by decide +kernel
theorem dX1_compare_64 : decode cX1_compare 64 = .ok (.aload_n 0, 1) := by decide +kernel
theorem dX1_compare_65 : decode cX1_compare 65 = .ok (.getfield 34, 3) := by decide +kernel
theorem dX1_compare_68 : decode cX1_compare 68 = .ok (.iload_n 2, 1) := by decide +kernel
theorem dX1_compare_69 : decode cX1_compare 69 = .ok (.bipush 7, 2) := by decide +kernel
theorem dX1_compare_71 : decode cX1_compare 71 = .ok (.imul, 1) := by decide +kernel
theorem dX1_compare_72 : decode cX1_compare 72 = .ok (.iload 4, 2) := by decide +kernel
theorem dX1_compare_74 : decode cX1_compare 74 = .ok (.iadd, 1) := by decide +kernel
theorem dX1_compare_75 : decode cX1_compare 75 = .ok (.iload 5, 2) := by decide +kernel
theorem dX1_compare_77 : decode cX1_compare 77 = .ok (.ineg, 1) := by decide +kernel
theorem dX1_compare_78 : decode cX1_compare 78 = .ok (.iastore, 1) := by decide +kernel
theorem dX1_compare_79 : decode cX1_compare 79 = .ok (.iinc 4 1, 3) := by decide +kernel
theorem dX1_compare_82 : decode cX1_compare 82 = .ok (.goto (-61), 3) := by decide +kernel
theorem dX1_compare_85 : decode cX1_compare 85 = .ok (.iconst 0, 1) := by decide +kernel
theorem dX1_compare_86 : decode cX1_compare 86 = .ok (.istore 4, 2) := by decide +kernel
theorem dX1_compare_88 : decode cX1_compare 88 = .ok (.iload 4, 2) := by decide +kernel
theorem dX1_compare_90 : decode cX1_compare 90 = .ok (.bipush 7, 2) := by decide +kernel
theorem dX1_compare_92 : decode cX1_compare 92 = .ok (.if_icmp .ge 25, 3) := by decide +kernel
theorem dX1_compare_95 : decode cX1_compare 95 = .ok (.aload_n 0, 1) := by decide +kernel
theorem dX1_compare_96 : decode cX1_compare 96 = .ok (.getfield 34, 3) := by decide +kernel
theorem dX1_compare_99 : decode cX1_compare 99 = .ok (.iload_n 2, 1) := by decide +kernel
theorem dX1_compare_100 : decode cX1_compare 100 = .ok (.bipush 7, 2) := by decide +kernel
theorem dX1_compare_102 : decode cX1_compare 102 = .ok (.imul, 1) := by decide +kernel
theorem dX1_compare_103 : decode cX1_compare 103 = .ok (.iload 4, 2) := by decide +kernel
theorem dX1_compare_105 : decode cX1_compare 105 = .ok (.iadd, 1) := by decide +kernel
theorem dX1_compare_106 : decode cX1_compare 106 = .ok (.dup2, 1) := by decide +kernel
theorem dX1_compare_107 : decode cX1_compare 107 = .ok (.iaload, 1) := by decide +kernel
theorem dX1_compare_108 : decode cX1_compare 108 = .ok (.iload_n 3, 1) := by decide +kernel
theorem dX1_compare_109 : decode cX1_compare 109 = .ok (.iadd, 1) := by decide +kernel
theorem dX1_compare_110 : decode cX1_compare 110 = .ok (.iastore, 1) := by decide +kernel
theorem dX1_compare_111 : decode cX1_compare 111 = .ok (.iinc 4 1, 3) := by decide +kernel
theorem dX1_compare_114 : decode cX1_compare 114 = .ok (.goto (-26), 3) := by decide +kernel
theorem dX1_compare_117 : decode cX1_compare 117 = .ok (.iinc 2 1, 3) := by decide +kernel
theorem dX1_compare_120 : decode cX1_compare 120 = .ok (.goto (-110), 3) := by decide +kernel
theorem dX1_compare_123 : decode cX1_compare 123 = .ok (.return_, 1) := by decide +kernel
theorem dX1_weigh_0 : decode cX1_weigh 0 = .ok (.aload_n 0, 1) := by decide +kernel
theorem dX1_weigh_1 : decode cX1_weigh 1 = .ok (.getfield 37, 3) := by decide +kernel
theorem dX1_weigh_4 : decode cX1_weigh 4 = .ok (.iconst 0, 1) := by decide +kernel
theorem dX1_weigh_5 : decode cX1_weigh 5 = .ok (.invokestatic 119, 3) := by decide +kernel
theorem dX1_weigh_8 : decode cX1_weigh 8 = .ok (.aload_n 0, 1) := by decide +kernel
theorem dX1_weigh_9 : decode cX1_weigh 9 = .ok (.getfield 40, 3) := by decide +kernel
theorem dX1_weigh_12 : decode cX1_weigh 12 = .ok (.iconst 0, 1) := by decide +kernel
theorem dX1_weigh_13 : decode cX1_weigh 13 = .ok (.invokestatic 119, 3) := by decide +kernel
theorem dX1_weigh_16 : decode cX1_weigh 16 = .ok (.aload_n 0, 1) := by decide +kernel
theorem dX1_weigh_17 : decode cX1_weigh 17 = .ok (.getfield 102, 3) := by decide +kernel
theorem dX1_weigh_20 : decode cX1_weigh 20 = .ok (.invokestatic 111, 3) := by decide +kernel
theorem dX1_weigh_23 : decode cX1_weigh 23 = .ok (.istore_n 1, 1) := by decide +kernel
theorem dX1_weigh_24 : decode cX1_weigh 24 = .ok (.aload_n 0, 1) := by decide +kernel
theorem dX1_weigh_25 : decode cX1_weigh 25 = .ok (.getfield 12, 3) := by decide +kernel
theorem dX1_weigh_28 : decode cX1_weigh 28 = .ok (.iload_n 1, 1) := by decide +kernel
theorem dX1_weigh_29 : decode cX1_weigh 29 = .ok (.iconst 1, 1) := by decide +kernel
theorem dX1_weigh_30 : decode cX1_weigh 30 = .ok (.isub, 1) := by decide +kernel
theorem dX1_weigh_31 : decode cX1_weigh 31 = .ok (.invokevirtual 67, 3) := by decide +kernel
theorem dX1_weigh_34 : decode cX1_weigh 34 = .ok (.aload_n 0, 1) := by decide +kernel
theorem dX1_weigh_35 : decode cX1_weigh 35 = .ok (.getfield 12, 3) := by decide +kernel
theorem dX1_weigh_38 : decode cX1_weigh 38 = .ok (.iload_n 1, 1) := by decide +kernel
theorem dX1_weigh_39 : decode cX1_weigh 39 = .ok (.invokevirtual 67, 3) := by decide +kernel
theorem dX1_weigh_42 : decode cX1_weigh 42 = .ok (.isub, 1) := by decide +kernel
theorem dX1_weigh_43 : decode cX1_weigh 43 = .ok (.istore_n 2, 1) := by decide +kernel
theorem dX1_weigh_44 : decode cX1_weigh 44 = .ok (.iconst 0, 1) := by decide +kernel
theorem dX1_weigh_45 : decode cX1_weigh 45 = .ok (.istore_n 3, 1) := by decide +kernel
theorem dX1_weigh_46 : decode cX1_weigh 46 = .ok (.iload_n 3, 1) := by decide +kernel
theorem dX1_weigh_47 : decode cX1_weigh 47 = .ok (.bipush 7, 2) := by decide +kernel
theorem dX1_weigh_49 : decode cX1_weigh 49 = .ok (.if_icmp .ge 115, 3) := by decide +kernel
theorem dX1_weigh_52 : decode cX1_weigh 52 = .ok (.iconst 0, 1) := by decide +kernel
theorem dX1_weigh_53 : decode cX1_weigh 53 = .ok (.istore 4, 2) := by decide +kernel
theorem dX1_weigh_55 : decode cX1_weigh 55 = .ok (.iload 4, 2) := by decide +kernel
theorem dX1_weigh_57 : decode cX1_weigh 57 = .ok (.bipush 7, 2) := by decide +kernel
theorem dX1_weigh_59 : decode cX1_weigh 59 = .ok (.if_icmp .ge 99, 3) := by decide +kernel
theorem dX1_weigh_62 : decode cX1_weigh 62 = .ok (.aload_n 0, 1) := by decide +kernel
theorem dX1_weigh_63 : decode cX1_weigh 63 = .ok (.iload_n 3, 1) := by decide +kernel
theorem dX1_weigh_64 : decode cX1_weigh 64 = .ok (.iload 4, 2) := by decide +kernel
theorem dX1_weigh_66 : decode cX1_weigh 66 = .ok (.invokevirtual 116, 3) := by decide +kernel
theorem dX1_weigh_69 : decode cX1_weigh 69 = .ok (.ifCond .eq 83, 3) := by decide +kernel
theorem dX1_weigh_72 : decode cX1_weigh 72 = .ok (.aload_n 0, 1) := by decide +kernel
theorem dX1_weigh_73 : decode cX1_weigh 73 = .ok (.getfield 34, 3) := by decide +kernel
theorem dX1_weigh_76 : decode cX1_weigh 76 = .ok (.iload_n 3, 1) := by decide +kernel
theorem dX1_weigh_77 : decode cX1_weigh 77 = .ok (.bipush 7, 2) := by decide +kernel
theorem dX1_weigh_79 : decode cX1_weigh 79 = .ok (.imul, 1) := by decide +kernel
theorem dX1_weigh_80 : decode cX1_weigh 80 = .ok (.iload 4, 2) := by decide +kernel
theorem dX1_weigh_82 : decode cX1_weigh 82 = .ok (.iadd, 1) := by decide +kernel
theorem dX1_weigh_83 : decode cX1_weigh 83 = .ok (.iaload, 1) := by decide +kernel
theorem dX1_weigh_84 : decode cX1_weigh 84 = .ok (.iload_n 2, 1) := by decide +kernel
theorem dX1_weigh_85 : decode cX1_weigh 85 = .ok (.iadd, 1) := by decide +kernel
theorem dX1_weigh_86 : decode cX1_weigh 86 = .ok (.istore 5, 2) := by decide +kernel
theorem dX1_weigh_88 : decode cX1_weigh 88 = .ok (.aload_n 0, 1) := by decide +kernel
theorem dX1_weigh_89 : decode cX1_weigh 89 = .ok (.getfield 37, 3) := by decide +kernel
theorem dX1_weigh_92 : decode cX1_weigh 92 = .ok (.iload 4, 2) := by decide +kernel
theorem dX1_weigh_94 : decode cX1_weigh 94 = .ok (.dup2, 1) := by decide +kernel
theorem dX1_weigh_95 : decode cX1_weigh 95 = .ok (.iaload, 1) := by decide +kernel
theorem dX1_weigh_96 : decode cX1_weigh 96 = .ok (.aload_n 0, 1) := by decide +kernel
theorem dX1_weigh_97 : decode cX1_weigh 97 = .ok (.iload 5, 2) := by decide +kernel
theorem dX1_weigh_99 : decode cX1_weigh 99 = .ok (.iload_n 3, 1) := by decide +kernel
theorem dX1_weigh_100 : decode cX1_weigh 100 = .ok (.iload 4, 2) := by decide +kernel
theorem dX1_weigh_102 : decode cX1_weigh 102 = .ok (.iload_n 1, 1) := by decide +kernel
theorem dX1_weigh_103 : decode cX1_weigh 103 = .ok (.iconst 0, 1) := by decide +kernel
theorem dX1_weigh_104 : decode cX1_weigh 104 = .ok (.invokevirtual 125, 3) := by decide +kernel
theorem dX1_weigh_107 : decode cX1_weigh 107 = .ok (.ifCond .eq 10, 3) := by decide +kernel
theorem dX1_weigh_110 : decode cX1_weigh 110 = .ok (.iload_n 3, 1) := by decide +kernel
theorem dX1_weigh_111 : decode cX1_weigh 111 = .ok (.invokestatic 129, 3) := by decide +kernel
theorem dX1_weigh_114 : decode cX1_weigh 114 = .ok (.goto 4, 3) := by decide +kernel
theorem dX1_weigh_117 : decode cX1_weigh 117 = .ok (.iconst 0, 1) := by decide +kernel
theorem dX1_weigh_118 : decode cX1_weigh 118 = .ok (.ior, 1) := by decide +kernel
theorem dX1_weigh_119 : decode cX1_weigh 119 = .ok (.iastore, 1) := by decide +kernel
theorem dX1_weigh_120 : decode cX1_weigh 120 = .ok (.aload_n 0, 1) := by decide +kernel
theorem dX1_weigh_121 : decode cX1_weigh 121 = .ok (.getfield 40, 3) := by decide +kernel
theorem dX1_weigh_124 : decode cX1_weigh 124 = .ok (.iload 4, 2) := by decide +kernel
theorem dX1_weigh_126 : decode cX1_weigh 126 = .ok (.dup2, 1) := by decide +kernel
theorem dX1_weigh_127 : decode cX1_weigh 127 = .ok (.iaload, 1) := by decide +kernel
theorem dX1_weigh_128 : decode cX1_weigh 128 = .ok (.aload_n 0, 1) := by decide +kernel
theorem dX1_weigh_129 : decode cX1_weigh 129 = .ok (.iload 5, 2) := by decide +kernel
theorem dX1_weigh_131 : decode cX1_weigh 131 = .ok (.iload_n 3, 1) := by decide +kernel
theorem dX1_weigh_132 : decode cX1_weigh 132 = .ok (.iload 4, 2) := by decide +kernel
theorem dX1_weigh_134 : decode cX1_weigh 134 = .ok (.iload_n 1, 1) := by decide +kernel
theorem dX1_weigh_135 : decode cX1_weigh 135 = .ok (.iconst 1, 1) := by decide +kernel
theorem dX1_weigh_136 : decode cX1_weigh 136 = .ok (.invokevirtual 125, 3) := by decide +kernel
theorem dX1_weigh_139 : decode cX1_weigh 139 = .ok (.ifCond .eq 10, 3) := by decide +kernel
theorem dX1_weigh_142 : decode cX1_weigh 142 = .ok (.iload_n 3, 1) := by decide +kernel
theorem dX1_weigh_143 : decode cX1_weigh 143 = .ok (.invokestatic 129, 3) := by decide +kernel
theorem dX1_weigh_146 : decode cX1_weigh 146 = .ok (.goto 4, 3) := by decide +kernel
theorem dX1_weigh_149 : decode cX1_weigh 149 = .ok (.iconst 0, 1) := by decide +kernel
theorem dX1_weigh_150 : decode cX1_weigh 150 = .ok (.ior, 1) := by decide +kernel
theorem dX1_weigh_151 : decode cX1_weigh 151 = .ok (.iastore, 1) := by decide +kernel
theorem dX1_weigh_152 : decode cX1_weigh 152 = .ok (.iinc 4 1, 3) := by decide +kernel
theorem dX1_weigh_155 : decode cX1_weigh 155 = .ok (.goto (-100), 3) := by decide +kernel
theorem dX1_weigh_158 : decode cX1_weigh 158 = .ok (.iinc 3 1, 3) := by decide +kernel
theorem dX1_weigh_161 : decode cX1_weigh 161 = .ok (.goto (-115), 3) := by decide +kernel
theorem dX1_weigh_164 : decode cX1_weigh 164 = .ok (.return_, 1) := by decide +kernel
theorem dX1_isLookedPair_0 : decode cX1_isLookedPair 0 = .ok (.iload_n 1, 1) := by decide +kernel
theorem dX1_isLookedPair_1 : decode cX1_isLookedPair 1 = .ok (.iload_n 2, 1) := by decide +kernel
theorem dX1_isLookedPair_2 : decode cX1_isLookedPair 2 = .ok (.if_icmp .eq 29, 3) := by decide +kernel
theorem dX1_isLookedPair_5 : decode cX1_isLookedPair 5 = .ok (.aload_n 0, 1) := by decide +kernel
theorem dX1_isLookedPair_6 : decode cX1_isLookedPair 6 = .ok (.getfield 102, 3) := by decide +kernel
theorem dX1_isLookedPair_9 : decode cX1_isLookedPair 9 = .ok (.iload_n 1, 1) := by decide +kernel
theorem dX1_isLookedPair_10 : decode cX1_isLookedPair 10 = .ok (.invokestatic 91, 3) := by decide +kernel
theorem dX1_isLookedPair_13 : decode cX1_isLookedPair 13 = .ok (.ifCond .eq 18, 3) := by decide +kernel
theorem dX1_isLookedPair_16 : decode cX1_isLookedPair 16 = .ok (.aload_n 0, 1) := by decide +kernel
theorem dX1_isLookedPair_17 : decode cX1_isLookedPair 17 = .ok (.getfield 102, 3) := by decide +kernel
theorem dX1_isLookedPair_20 : decode cX1_isLookedPair 20 = .ok (.iload_n 2, 1) := by decide +kernel
theorem dX1_isLookedPair_21 : decode cX1_isLookedPair 21 = .ok (.invokestatic 91, 3) := by decide +kernel
theorem dX1_isLookedPair_24 : decode cX1_isLookedPair 24 = .ok (.ifCond .eq 7, 3) := by decide +kernel
theorem dX1_isLookedPair_27 : decode cX1_isLookedPair 27 = .ok (.iconst 1, 1) := by decide +kernel
theorem dX1_isLookedPair_28 : decode cX1_isLookedPair 28 = .ok (.goto 4, 3) := by decide +kernel
theorem dX1_isLookedPair_31 : decode cX1_isLookedPair 31 = .ok (.iconst 0, 1) := by decide +kernel
theorem dX1_isLookedPair_32 : decode cX1_isLookedPair 32 = .ok (.ireturn, 1) := by decide +kernel
theorem dX1_against_0 : decode cX1_against 0 = .ok (.aload_n 0, 1) := by decide +kernel
theorem dX1_against_1 : decode cX1_against 1 = .ok (.getfield 37, 3) := by decide +kernel
theorem dX1_against_4 : decode cX1_against 4 = .ok (.iload_n 1, 1) := by decide +kernel
theorem dX1_against_5 : decode cX1_against 5 = .ok (.iaload, 1) := by decide +kernel
theorem dX1_against_6 : decode cX1_against 6 = .ok (.iload_n 2, 1) := by decide +kernel
theorem dX1_against_7 : decode cX1_against 7 = .ok (.iconst (-1), 1) := by decide +kernel
theorem dX1_against_8 : decode cX1_against 8 = .ok (.ixor, 1) := by decide +kernel
theorem dX1_against_9 : decode cX1_against 9 = .ok (.iand, 1) := by decide +kernel
theorem dX1_against_10 : decode cX1_against 10 = .ok (.aload_n 0, 1) := by decide +kernel
theorem dX1_against_11 : decode cX1_against 11 = .ok (.getfield 40, 3) := by decide +kernel
theorem dX1_against_14 : decode cX1_against 14 = .ok (.iload_n 1, 1) := by decide +kernel
theorem dX1_against_15 : decode cX1_against 15 = .ok (.iaload, 1) := by decide +kernel
theorem dX1_against_16 : decode cX1_against 16 = .ok (.iload_n 2, 1) := by decide +kernel
theorem dX1_against_17 : decode cX1_against 17 = .ok (.iand, 1) := by decide +kernel
theorem dX1_against_18 : decode cX1_against 18 = .ok (.ior, 1) := by decide +kernel
theorem dX1_against_19 : decode cX1_against 19 = .ok (.ireturn, 1) := by decide +kernel
theorem dX1_against__0 : decode cX1_against_ 0 = .ok (.aload_n 0, 1) := by decide +kernel
theorem dX1_against__1 : decode cX1_against_ 1 = .ok (.iload_n 1, 1) := by decide +kernel
theorem dX1_against__2 : decode cX1_against_ 2 = .ok (.aload_n 0, 1) := by decide +kernel
theorem dX1_against__3 : decode cX1_against_ 3 = .ok (.getfield 12, 3) := by decide +kernel
theorem dX1_against__6 : decode cX1_against_ 6 = .ok (.getfield 132, 3) := by decide +kernel
theorem dX1_against__9 : decode cX1_against_ 9 = .ok (.iload_n 1, 1) := by decide +kernel
theorem dX1_against__10 : decode cX1_against_ 10 = .ok (.iaload, 1) := by decide +kernel
theorem dX1_against__11 : decode cX1_against_ 11 = .ok (.invokevirtual 135, 3) := by decide +kernel
theorem dX1_against__14 : decode cX1_against_ 14 = .ok (.ireturn, 1) := by decide +kernel
theorem dX1_wouldTurnOut_0 : decode cX1_wouldTurnOut 0 = .ok (.iload_n 1, 1) := by decide +kernel
theorem dX1_wouldTurnOut_1 : decode cX1_wouldTurnOut 1 = .ok (.aload_n 0, 1) := by decide +kernel
theorem dX1_wouldTurnOut_2 : decode cX1_wouldTurnOut 2 = .ok (.iload_n 2, 1) := by decide +kernel
theorem dX1_wouldTurnOut_3 : decode cX1_wouldTurnOut 3 = .ok (.invokevirtual 138, 3) := by decide +kernel
theorem dX1_wouldTurnOut_6 : decode cX1_wouldTurnOut 6 = .ok (.iconst (-1), 1) := by decide +kernel
theorem dX1_wouldTurnOut_7 : decode cX1_wouldTurnOut 7 = .ok (.ixor, 1) := by decide +kernel
theorem dX1_wouldTurnOut_8 : decode cX1_wouldTurnOut 8 = .ok (.iand, 1) := by decide +kernel
theorem dX1_wouldTurnOut_9 : decode cX1_wouldTurnOut 9 = .ok (.ifCond .ne 7, 3) := by decide +kernel
theorem dX1_wouldTurnOut_12 : decode cX1_wouldTurnOut 12 = .ok (.iconst 1, 1) := by decide +kernel
theorem dX1_wouldTurnOut_13 : decode cX1_wouldTurnOut 13 = .ok (.goto 4, 3) := by decide +kernel
theorem dX1_wouldTurnOut_16 : decode cX1_wouldTurnOut 16 = .ok (.iconst 0, 1) := by decide +kernel
theorem dX1_wouldTurnOut_17 : decode cX1_wouldTurnOut 17 = .ok (.ireturn, 1) := by decide +kernel
theorem dX1_firstBand_0 : decode cX1_firstBand 0 = .ok (.aload_n 0, 1) := by decide +kernel
theorem dX1_firstBand_1 : decode cX1_firstBand 1 = .ok (.iload_n 1, 1) := by decide +kernel
theorem dX1_firstBand_2 : decode cX1_firstBand 2 = .ok (.invokevirtual 138, 3) := by decide +kernel
theorem dX1_firstBand_5 : decode cX1_firstBand 5 = .ok (.aload_n 0, 1) := by decide +kernel
theorem dX1_firstBand_6 : decode cX1_firstBand 6 = .ok (.getfield 12, 3) := by decide +kernel
theorem dX1_firstBand_9 : decode cX1_firstBand 9 = .ok (.getfield 140, 3) := by decide +kernel
theorem dX1_firstBand_12 : decode cX1_firstBand 12 = .ok (.invokestatic 143, 3) := by decide +kernel
theorem dX1_firstBand_15 : decode cX1_firstBand 15 = .ok (.ireturn, 1) := by decide +kernel
theorem dX1_bandsAgainst_0 : decode cX1_bandsAgainst 0 = .ok (.aload_n 0, 1) := by decide +kernel
theorem dX1_bandsAgainst_1 : decode cX1_bandsAgainst 1 = .ok (.iload_n 1, 1) := by decide +kernel
theorem dX1_bandsAgainst_2 : decode cX1_bandsAgainst 2 = .ok (.invokevirtual 138, 3) := by decide +kernel
theorem dX1_bandsAgainst_5 : decode cX1_bandsAgainst 5 = .ok (.invokestatic 111, 3) := by decide +kernel
theorem dX1_bandsAgainst_8 : decode cX1_bandsAgainst 8 = .ok (.aload_n 0, 1) := by decide +kernel
theorem dX1_bandsAgainst_9 : decode cX1_bandsAgainst 9 = .ok (.getfield 12, 3) := by decide +kernel
theorem dX1_bandsAgainst_12 : decode cX1_bandsAgainst 12 = .ok (.getfield 140, 3) := by decide +kernel
theorem dX1_bandsAgainst_15 : decode cX1_bandsAgainst 15 = .ok (.invokestatic 146, 3) := by decide +kernel
theorem dX1_bandsAgainst_18 : decode cX1_bandsAgainst 18 = .ok (.ireturn, 1) := by decide +kernel
theorem dX1_allBands_0 : decode cX1_allBands 0 = .ok (.iconst 0, 1) := by decide +kernel
theorem dX1_allBands_1 : decode cX1_allBands 1 = .ok (.istore_n 1, 1) := by decide +kernel
theorem dX1_allBands_2 : decode cX1_allBands 2 = .ok (.iconst 0, 1) := by decide +kernel
theorem dX1_allBands_3 : decode cX1_allBands 3 = .ok (.istore_n 2, 1) := by decide +kernel
theorem dX1_allBands_4 : decode cX1_allBands 4 = .ok (.iload_n 2, 1) := by decide +kernel
theorem dX1_allBands_5 : decode cX1_allBands 5 = .ok (.bipush 7, 2) := by decide +kernel
theorem dX1_allBands_7 : decode cX1_allBands 7 = .ok (.if_icmp .ge 17, 3) := by decide +kernel
theorem dX1_allBands_10 : decode cX1_allBands 10 = .ok (.iload_n 1, 1) := by decide +kernel
theorem dX1_allBands_11 : decode cX1_allBands 11 = .ok (.aload_n 0, 1) := by decide +kernel
theorem dX1_allBands_12 : decode cX1_allBands 12 = .ok (.iload_n 2, 1) := by decide +kernel
theorem dX1_allBands_13 : decode cX1_allBands 13 = .ok (.invokevirtual 149, 3) := by decide +kernel
theorem dX1_allBands_16 : decode cX1_allBands 16 = .ok (.iadd, 1) := by decide +kernel
theorem dX1_allBands_17 : decode cX1_allBands 17 = .ok (.istore_n 1, 1) := by decide +kernel
theorem dX1_allBands_18 : decode cX1_allBands 18 = .ok (.iinc 2 1, 3) := by decide +kernel
theorem dX1_allBands_21 : decode cX1_allBands 21 = .ok (.goto (-17), 3) := by decide +kernel
theorem dX1_allBands_24 : decode cX1_allBands 24 = .ok (.iload_n 1, 1) := by decide +kernel
theorem dX1_allBands_25 : decode cX1_allBands 25 = .ok (.ireturn, 1) := by decide +kernel
theorem dX1_firstOther_0 : decode cX1_firstOther 0 = .ok (.iconst (-1), 1) := by decide +kernel
theorem dX1_firstOther_1 : decode cX1_firstOther 1 = .ok (.istore_n 1, 1) := by decide +kernel
theorem dX1_firstOther_2 : decode cX1_firstOther 2 = .ok (.iconst 0, 1) := by decide +kernel
theorem dX1_firstOther_3 : decode cX1_firstOther 3 = .ok (.istore_n 2, 1) := by decide +kernel
theorem dX1_firstOther_4 : decode cX1_firstOther 4 = .ok (.iload_n 2, 1) := by decide +kernel
theorem dX1_firstOther_5 : decode cX1_firstOther 5 = .ok (.bipush 7, 2) := by decide +kernel
theorem dX1_firstOther_7 : decode cX1_firstOther 7 = .ok (.if_icmp .ge 36, 3) := by decide +kernel
theorem dX1_firstOther_10 : decode cX1_firstOther 10 = .ok (.aload_n 0, 1) := by decide +kernel
theorem dX1_firstOther_11 : decode cX1_firstOther 11 = .ok (.iload_n 2, 1) := by decide +kernel
theorem dX1_firstOther_12 : decode cX1_firstOther 12 = .ok (.invokevirtual 152, 3) := by decide +kernel
theorem dX1_firstOther_15 : decode cX1_firstOther 15 = .ok (.istore_n 3, 1) := by decide +kernel
theorem dX1_firstOther_16 : decode cX1_firstOther 16 = .ok (.iload_n 3, 1) := by decide +kernel
theorem dX1_firstOther_17 : decode cX1_firstOther 17 = .ok (.iconst (-1), 1) := by decide +kernel
theorem dX1_firstOther_18 : decode cX1_firstOther 18 = .ok (.if_icmp .eq 19, 3) := by decide +kernel
theorem dX1_firstOther_21 : decode cX1_firstOther 21 = .ok (.iload_n 1, 1) := by decide +kernel
theorem dX1_firstOther_22 : decode cX1_firstOther 22 = .ok (.iconst (-1), 1) := by decide +kernel
theorem dX1_firstOther_23 : decode cX1_firstOther 23 = .ok (.if_icmp .eq 12, 3) := by decide +kernel
theorem dX1_firstOther_26 : decode cX1_firstOther 26 = .ok (.iload_n 3, 1) := by decide +kernel
theorem dX1_firstOther_27 : decode cX1_firstOther 27 = .ok (.aload_n 0, 1) := by decide +kernel
theorem dX1_firstOther_28 : decode cX1_firstOther 28 = .ok (.iload_n 1, 1) := by decide +kernel
theorem dX1_firstOther_29 : decode cX1_firstOther 29 = .ok (.invokevirtual 152, 3) := by decide +kernel
theorem dX1_firstOther_32 : decode cX1_firstOther 32 = .ok (.if_icmp .ge 5, 3) := by decide +kernel
theorem dX1_firstOther_35 : decode cX1_firstOther 35 = .ok (.iload_n 2, 1) := by decide +kernel
theorem dX1_firstOther_36 : decode cX1_firstOther 36 = .ok (.istore_n 1, 1) := by decide +kernel
theorem dX1_firstOther_37 : decode cX1_firstOther 37 = .ok (.iinc 2 1, 3) := by decide +kernel
theorem dX1_firstOther_40 : decode cX1_firstOther 40 = .ok (.goto (-36), 3) := by decide +kernel
theorem dX1_firstOther_43 : decode cX1_firstOther 43 = .ok (.iload_n 1, 1) := by decide +kernel
theorem dX1_firstOther_44 : decode cX1_firstOther 44 = .ok (.ireturn, 1) := by decide +kernel
theorem dX1_atRest_0 : decode cX1_atRest 0 = .ok (.iconst 0, 1) := by decide +kernel
theorem dX1_atRest_1 : decode cX1_atRest 1 = .ok (.istore_n 1, 1) := by decide +kernel
theorem dX1_atRest_2 : decode cX1_atRest 2 = .ok (.iload_n 1, 1) := by decide +kernel
theorem dX1_atRest_3 : decode cX1_atRest 3 = .ok (.bipush 7, 2) := by decide +kernel
theorem dX1_atRest_5 : decode cX1_atRest 5 = .ok (.if_icmp .ge 19, 3) := by decide +kernel
theorem dX1_atRest_8 : decode cX1_atRest 8 = .ok (.aload_n 0, 1) := by decide +kernel
theorem dX1_atRest_9 : decode cX1_atRest 9 = .ok (.iload_n 1, 1) := by decide +kernel
theorem dX1_atRest_10 : decode cX1_atRest 10 = .ok (.invokevirtual 155, 3) := by decide +kernel
theorem dX1_atRest_13 : decode cX1_atRest 13 = .ok (.ifCond .ne 5, 3) := by decide +kernel
theorem dX1_atRest_16 : decode cX1_atRest 16 = .ok (.iconst 0, 1) := by decide +kernel
theorem dX1_atRest_17 : decode cX1_atRest 17 = .ok (.ireturn, 1) := by decide +kernel
theorem dX1_atRest_18 : decode cX1_atRest 18 = .ok (.iinc 1 1, 3) := by decide +kernel
theorem dX1_atRest_21 : decode cX1_atRest 21 = .ok (.goto (-19), 3) := by decide +kernel
theorem dX1_atRest_24 : decode cX1_atRest 24 = .ok (.iconst 1, 1) := by decide +kernel
theorem dX1_atRest_25 : decode cX1_atRest 25 = .ok (.ireturn, 1) := by decide +kernel
theorem dX1_isSafe_0 : decode cX1_isSafe 0 = .ok (.aload_n 0, 1) := by decide +kernel
theorem dX1_isSafe_1 : decode cX1_isSafe 1 = .ok (.iload_n 1, 1) := by decide +kernel
theorem dX1_isSafe_2 : decode cX1_isSafe 2 = .ok (.invokevirtual 138, 3) := by decide +kernel
theorem dX1_isSafe_5 : decode cX1_isSafe 5 = .ok (.invokestatic 111, 3) := by decide +kernel
theorem dX1_isSafe_8 : decode cX1_isSafe 8 = .ok (.aload_n 0, 1) := by decide +kernel
theorem dX1_isSafe_9 : decode cX1_isSafe 9 = .ok (.getfield 12, 3) := by decide +kernel
theorem dX1_isSafe_12 : decode cX1_isSafe 12 = .ok (.getfield 140, 3) := by decide +kernel
theorem dX1_isSafe_15 : decode cX1_isSafe 15 = .ok (.if_icmp .ge 7, 3) := by decide +kernel
theorem dX1_isSafe_18 : decode cX1_isSafe 18 = .ok (.iconst 1, 1) := by decide +kernel
theorem dX1_isSafe_19 : decode cX1_isSafe 19 = .ok (.goto 4, 3) := by decide +kernel
theorem dX1_isSafe_22 : decode cX1_isSafe 22 = .ok (.iconst 0, 1) := by decide +kernel
theorem dX1_isSafe_23 : decode cX1_isSafe 23 = .ok (.ireturn, 1) := by decide +kernel
theorem dX1_runOn_0 : decode cX1_runOn 0 = .ok (.iconst 0, 1) := by decide +kernel
theorem dX1_runOn_1 : decode cX1_runOn 1 = .ok (.istore_n 1, 1) := by decide +kernel
theorem dX1_runOn_2 : decode cX1_runOn 2 = .ok (.iconst 0, 1) := by decide +kernel
theorem dX1_runOn_3 : decode cX1_runOn 3 = .ok (.istore_n 2, 1) := by decide +kernel
theorem dX1_runOn_4 : decode cX1_runOn 4 = .ok (.iload_n 2, 1) := by decide +kernel
theorem dX1_runOn_5 : decode cX1_runOn 5 = .ok (.bipush 7, 2) := by decide +kernel
theorem dX1_runOn_7 : decode cX1_runOn 7 = .ok (.if_icmp .ge 57, 3) := by decide +kernel
theorem dX1_runOn_10 : decode cX1_runOn 10 = .ok (.aload_n 0, 1) := by decide +kernel
theorem dX1_runOn_11 : decode cX1_runOn 11 = .ok (.aload_n 0, 1) := by decide +kernel
theorem dX1_runOn_12 : decode cX1_runOn 12 = .ok (.getfield 12, 3) := by decide +kernel
theorem dX1_runOn_15 : decode cX1_runOn 15 = .ok (.getfield 159, 3) := by decide +kernel
theorem dX1_runOn_18 : decode cX1_runOn 18 = .ok (.invokevirtual 162, 3) := by decide +kernel
theorem dX1_runOn_21 : decode cX1_runOn 21 = .ok (.aload_n 0, 1) := by decide +kernel
theorem dX1_runOn_22 : decode cX1_runOn 22 = .ok (.invokevirtual 166, 3) := by decide +kernel
theorem dX1_runOn_25 : decode cX1_runOn 25 = .ok (.istore_n 3, 1) := by decide +kernel
theorem dX1_runOn_26 : decode cX1_runOn 26 = .ok (.iload_n 3, 1) := by decide +kernel
theorem dX1_runOn_27 : decode cX1_runOn 27 = .ok (.iconst (-1), 1) := by decide +kernel
theorem dX1_runOn_28 : decode cX1_runOn 28 = .ok (.if_icmp .ne 5, 3) := by decide +kernel
theorem dX1_runOn_31 : decode cX1_runOn 31 = .ok (.iload_n 1, 1) := by decide +kernel
theorem dX1_runOn_32 : decode cX1_runOn 32 = .ok (.ireturn, 1) := by decide +kernel
theorem dX1_runOn_33 : decode cX1_runOn 33 = .ok (.aload_n 0, 1) := by decide +kernel
theorem dX1_runOn_34 : decode cX1_runOn 34 = .ok (.getfield 55, 3) := by decide +kernel
theorem dX1_runOn_37 : decode cX1_runOn 37 = .ok (.iload_n 1, 1) := by decide +kernel
theorem dX1_runOn_38 : decode cX1_runOn 38 = .ok (.iload_n 3, 1) := by decide +kernel
theorem dX1_runOn_39 : decode cX1_runOn 39 = .ok (.iastore, 1) := by decide +kernel
theorem dX1_runOn_40 : decode cX1_runOn 40 = .ok (.iinc 1 1, 3) := by decide +kernel
theorem dX1_runOn_43 : decode cX1_runOn 43 = .ok (.aload_n 0, 1) := by decide +kernel
theorem dX1_runOn_44 : decode cX1_runOn 44 = .ok (.getfield 12, 3) := by decide +kernel
theorem dX1_runOn_47 : decode cX1_runOn 47 = .ok (.iload_n 3, 1) := by decide +kernel
theorem dX1_runOn_48 : decode cX1_runOn 48 = .ok (.invokevirtual 170, 3) := by decide +kernel
theorem dX1_runOn_51 : decode cX1_runOn 51 = .ok (.aload_n 0, 1) := by decide +kernel
theorem dX1_runOn_52 : decode cX1_runOn 52 = .ok (.getfield 12, 3) := by decide +kernel
theorem dX1_runOn_55 : decode cX1_runOn 55 = .ok (.invokevirtual 173, 3) := by decide +kernel
theorem dX1_runOn_58 : decode cX1_runOn 58 = .ok (.iinc 2 1, 3) := by decide +kernel
theorem dX1_runOn_61 : decode cX1_runOn 61 = .ok (.goto (-57), 3) := by decide +kernel
theorem dX1_runOn_64 : decode cX1_runOn 64 = .ok (.iload_n 1, 1) := by decide +kernel
theorem dX1_runOn_65 : decode cX1_runOn 65 = .ok (.ireturn, 1) := by decide +kernel
theorem dX1_foresee_0 : decode cX1_foresee 0 = .ok (.iconst 0, 1) := by decide +kernel
theorem dX1_foresee_1 : decode cX1_foresee 1 = .ok (.istore_n 2, 1) := by decide +kernel
theorem dX1_foresee_2 : decode cX1_foresee 2 = .ok (.iload_n 2, 1) := by decide +kernel
theorem dX1_foresee_3 : decode cX1_foresee 3 = .ok (.iload_n 1, 1) := by decide +kernel
theorem dX1_foresee_4 : decode cX1_foresee 4 = .ok (.if_icmp .gt 33, 3) := by decide +kernel
theorem dX1_foresee_7 : decode cX1_foresee 7 = .ok (.iload_n 2, 1) := by decide +kernel
theorem dX1_foresee_8 : decode cX1_foresee 8 = .ok (.sipush 128, 3) := by decide +kernel
theorem dX1_foresee_11 : decode cX1_foresee 11 = .ok (.if_icmp .ge 26, 3) := by decide +kernel
theorem dX1_foresee_14 : decode cX1_foresee 14 = .ok (.iload_n 2, 1) := by decide +kernel
theorem dX1_foresee_15 : decode cX1_foresee 15 = .ok (.iload_n 1, 1) := by decide +kernel
theorem dX1_foresee_16 : decode cX1_foresee 16 = .ok (.iconst (-1), 1) := by decide +kernel
theorem dX1_foresee_17 : decode cX1_foresee 17 = .ok (.ixor, 1) := by decide +kernel
theorem dX1_foresee_18 : decode cX1_foresee 18 = .ok (.iand, 1) := by decide +kernel
theorem dX1_foresee_19 : decode cX1_foresee 19 = .ok (.ifCond .ne 12, 3) := by decide +kernel
theorem dX1_foresee_22 : decode cX1_foresee 22 = .ok (.aload_n 0, 1) := by decide +kernel
theorem dX1_foresee_23 : decode cX1_foresee 23 = .ok (.iload_n 2, 1) := by decide +kernel
theorem dX1_foresee_24 : decode cX1_foresee 24 = .ok (.iload_n 2, 1) := by decide +kernel
theorem dX1_foresee_25 : decode cX1_foresee 25 = .ok (.invokestatic 111, 3) := by decide +kernel
theorem dX1_foresee_28 : decode cX1_foresee 28 = .ok (.invokevirtual 176, 3) := by decide +kernel
theorem dX1_foresee_31 : decode cX1_foresee 31 = .ok (.iinc 2 1, 3) := by decide +kernel
theorem dX1_foresee_34 : decode cX1_foresee 34 = .ok (.goto (-32), 3) := by decide +kernel
theorem dX1_foresee_37 : decode cX1_foresee 37 = .ok (.return_, 1) := by decide +kernel
theorem dX1_foreseeSet_0 : decode cX1_foreseeSet 0 = .ok (.iconst (-1), 1) := by decide +kernel
theorem dX1_foreseeSet_1 : decode cX1_foreseeSet 1 = .ok (.istore_n 3, 1) := by decide +kernel
theorem dX1_foreseeSet_2 : decode cX1_foreseeSet 2 = .ok (.iconst (-1), 1) := by decide +kernel
theorem dX1_foreseeSet_3 : decode cX1_foreseeSet 3 = .ok (.istore 4, 2) := by decide +kernel
theorem dX1_foreseeSet_5 : decode cX1_foreseeSet 5 = .ok (.iconst 0, 1) := by decide +kernel
theorem dX1_foreseeSet_6 : decode cX1_foreseeSet 6 = .ok (.istore 5, 2) := by decide +kernel
theorem dX1_foreseeSet_8 : decode cX1_foreseeSet 8 = .ok (.iload 5, 2) := by decide +kernel
theorem dX1_foreseeSet_10 : decode cX1_foreseeSet 10 = .ok (.bipush 7, 2) := by decide +kernel
theorem dX1_foreseeSet_12 : decode cX1_foreseeSet 12 = .ok (.if_icmp .ge 38, 3) := by decide +kernel
theorem dX1_foreseeSet_15 : decode cX1_foreseeSet 15 = .ok (.iload_n 1, 1) := by decide +kernel
theorem dX1_foreseeSet_16 : decode cX1_foreseeSet 16 = .ok (.iload 5, 2) := by decide +kernel
theorem dX1_foreseeSet_18 : decode cX1_foreseeSet 18 = .ok (.invokestatic 91, 3) := by decide +kernel
theorem dX1_foreseeSet_21 : decode cX1_foreseeSet 21 = .ok (.ifCond .eq 23, 3) := by decide +kernel
theorem dX1_foreseeSet_24 : decode cX1_foreseeSet 24 = .ok (.aload_n 0, 1) := by decide +kernel
theorem dX1_foreseeSet_25 : decode cX1_foreseeSet 25 = .ok (.getfield 43, 3) := by decide +kernel
theorem dX1_foreseeSet_28 : decode cX1_foreseeSet 28 = .ok (.iload_n 1, 1) := by decide +kernel
theorem dX1_foreseeSet_29 : decode cX1_foreseeSet 29 = .ok (.bipush 7, 2) := by decide +kernel
theorem dX1_foreseeSet_31 : decode cX1_foreseeSet 31 = .ok (.imul, 1) := by decide +kernel
theorem dX1_foreseeSet_32 : decode cX1_foreseeSet 32 = .ok (.iload 5, 2) := by decide +kernel
theorem dX1_foreseeSet_34 : decode cX1_foreseeSet 34 = .ok (.iadd, 1) := by decide +kernel
theorem dX1_foreseeSet_35 : decode cX1_foreseeSet 35 = .ok (.aload_n 0, 1) := by decide +kernel
theorem dX1_foreseeSet_36 : decode cX1_foreseeSet 36 = .ok (.iload 5, 2) := by decide +kernel
theorem dX1_foreseeSet_38 : decode cX1_foreseeSet 38 = .ok (.iload_n 1, 1) := by decide +kernel
theorem dX1_foreseeSet_39 : decode cX1_foreseeSet 39 = .ok (.iload_n 2, 1) := by decide +kernel
theorem dX1_foreseeSet_40 : decode cX1_foreseeSet 40 = .ok (.invokevirtual 180, 3) := by decide +kernel
theorem dX1_foreseeSet_43 : decode cX1_foreseeSet 43 = .ok (.iastore, 1) := by decide +kernel
theorem dX1_foreseeSet_44 : decode cX1_foreseeSet 44 = .ok (.iinc 5 1, 3) := by decide +kernel
theorem dX1_foreseeSet_47 : decode cX1_foreseeSet 47 = .ok (.goto (-39), 3) := by decide +kernel
theorem dX1_foreseeSet_50 : decode cX1_foreseeSet 50 = .ok (.iconst 0, 1) := by decide +kernel
theorem dX1_foreseeSet_51 : decode cX1_foreseeSet 51 = .ok (.istore 5, 2) := by decide +kernel
theorem dX1_foreseeSet_53 : decode cX1_foreseeSet 53 = .ok (.iload 5, 2) := by decide +kernel
theorem dX1_foreseeSet_55 : decode cX1_foreseeSet 55 = .ok (.bipush 7, 2) := by decide +kernel
theorem dX1_foreseeSet_57 : decode cX1_foreseeSet 57 = .ok (.if_icmp .ge 67, 3) := by decide +kernel
theorem dX1_foreseeSet_60 : decode cX1_foreseeSet 60 = .ok (.iload_n 1, 1) := by decide +kernel
theorem dX1_foreseeSet_61 : decode cX1_foreseeSet 61 = .ok (.iload 5, 2) := by decide +kernel
theorem dX1_foreseeSet_63 : decode cX1_foreseeSet 63 = .ok (.invokestatic 91, 3) := by decide +kernel
theorem dX1_foreseeSet_66 : decode cX1_foreseeSet 66 = .ok (.ifCond .eq 24, 3) := by decide +kernel
theorem dX1_foreseeSet_69 : decode cX1_foreseeSet 69 = .ok (.aload_n 0, 1) := by decide +kernel
theorem dX1_foreseeSet_70 : decode cX1_foreseeSet 70 = .ok (.iload_n 1, 1) := by decide +kernel
theorem dX1_foreseeSet_71 : decode cX1_foreseeSet 71 = .ok (.iload_n 2, 1) := by decide +kernel
theorem dX1_foreseeSet_72 : decode cX1_foreseeSet 72 = .ok (.iload 5, 2) := by decide +kernel
theorem dX1_foreseeSet_74 : decode cX1_foreseeSet 74 = .ok (.invokevirtual 183, 3) := by decide +kernel
theorem dX1_foreseeSet_77 : decode cX1_foreseeSet 77 = .ok (.aload_n 0, 1) := by decide +kernel
theorem dX1_foreseeSet_78 : decode cX1_foreseeSet 78 = .ok (.getfield 12, 3) := by decide +kernel
theorem dX1_foreseeSet_81 : decode cX1_foreseeSet 81 = .ok (.getfield 140, 3) := by decide +kernel
theorem dX1_foreseeSet_84 : decode cX1_foreseeSet 84 = .ok (.invokestatic 143, 3) := by decide +kernel
theorem dX1_foreseeSet_87 : decode cX1_foreseeSet 87 = .ok (.goto 4, 3) := by decide +kernel
theorem dX1_foreseeSet_90 : decode cX1_foreseeSet 90 = .ok (.iconst (-1), 1) := by decide +kernel
theorem dX1_foreseeSet_91 : decode cX1_foreseeSet 91 = .ok (.istore 6, 2) := by decide +kernel
theorem dX1_foreseeSet_93 : decode cX1_foreseeSet 93 = .ok (.iload 6, 2) := by decide +kernel
theorem dX1_foreseeSet_95 : decode cX1_foreseeSet 95 = .ok (.iconst (-1), 1) := by decide +kernel
theorem dX1_foreseeSet_96 : decode cX1_foreseeSet 96 = .ok (.if_icmp .eq 22, 3) := by decide +kernel
theorem dX1_foreseeSet_99 : decode cX1_foreseeSet 99 = .ok (.iload 4, 2) := by decide +kernel
theorem dX1_foreseeSet_101 : decode cX1_foreseeSet 101 = .ok (.iconst (-1), 1) := by decide +kernel
theorem dX1_foreseeSet_102 : decode cX1_foreseeSet 102 = .ok (.if_icmp .eq 9, 3) := by decide +kernel
theorem dX1_foreseeSet_105 : decode cX1_foreseeSet 105 = .ok (.iload 6, 2) := by decide +kernel
theorem dX1_foreseeSet_107 : decode cX1_foreseeSet 107 = .ok (.iload_n 3, 1) := by decide +kernel
theorem dX1_foreseeSet_108 : decode cX1_foreseeSet 108 = .ok (.if_icmp .ge 10, 3) := by decide +kernel
theorem dX1_foreseeSet_111 : decode cX1_foreseeSet 111 = .ok (.iload 6, 2) := by decide +kernel
theorem dX1_foreseeSet_113 : decode cX1_foreseeSet 113 = .ok (.istore_n 3, 1) := by decide +kernel
theorem dX1_foreseeSet_114 : decode cX1_foreseeSet 114 = .ok (.iload 5, 2) := by decide +kernel
theorem dX1_foreseeSet_116 : decode cX1_foreseeSet 116 = .ok (.istore 4, 2) := by decide +kernel
theorem dX1_foreseeSet_118 : decode cX1_foreseeSet 118 = .ok (.iinc 5 1, 3) := by decide +kernel
theorem dX1_foreseeSet_121 : decode cX1_foreseeSet 121 = .ok (.goto (-68), 3) := by decide +kernel
theorem dX1_foreseeSet_124 : decode cX1_foreseeSet 124 = .ok (.aload_n 0, 1) := by decide +kernel
theorem dX1_foreseeSet_125 : decode cX1_foreseeSet 125 = .ok (.getfield 46, 3) := by decide +kernel
theorem dX1_foreseeSet_128 : decode cX1_foreseeSet 128 = .ok (.iload_n 1, 1) := by decide +kernel
theorem dX1_foreseeSet_129 : decode cX1_foreseeSet 129 = .ok (.iload 4, 2) := by decide +kernel
theorem dX1_foreseeSet_131 : decode cX1_foreseeSet 131 = .ok (.iconst (-1), 1) := by decide +kernel
theorem dX1_foreseeSet_132 : decode cX1_foreseeSet 132 = .ok (.if_icmp .ne 7, 3) := by decide +kernel
theorem dX1_foreseeSet_135 : decode cX1_foreseeSet 135 = .ok (.iload_n 1, 1) := by decide +kernel
theorem dX1_foreseeSet_136 : decode cX1_foreseeSet 136 = .ok (.goto 17, 3) := by decide +kernel
theorem dX1_foreseeSet_139 : decode cX1_foreseeSet 139 = .ok (.aload_n 0, 1) := by decide +kernel
theorem dX1_foreseeSet_140 : decode cX1_foreseeSet 140 = .ok (.getfield 46, 3) := by decide +kernel
theorem dX1_foreseeSet_143 : decode cX1_foreseeSet 143 = .ok (.iload_n 1, 1) := by decide +kernel
theorem dX1_foreseeSet_144 : decode cX1_foreseeSet 144 = .ok (.iload 4, 2) := by decide +kernel
theorem dX1_foreseeSet_146 : decode cX1_foreseeSet 146 = .ok (.invokestatic 129, 3) := by decide +kernel
theorem dX1_foreseeSet_149 : decode cX1_foreseeSet 149 = .ok (.iconst (-1), 1) := by decide +kernel
theorem dX1_foreseeSet_150 : decode cX1_foreseeSet 150 = .ok (.ixor, 1) := by decide +kernel
theorem dX1_foreseeSet_151 : decode cX1_foreseeSet 151 = .ok (.iand, 1) := by decide +kernel
theorem dX1_foreseeSet_152 : decode cX1_foreseeSet 152 = .ok (.iaload, 1) := by decide +kernel
theorem dX1_foreseeSet_153 : decode cX1_foreseeSet 153 = .ok (.iastore, 1) := by decide +kernel
theorem dX1_foreseeSet_154 : decode cX1_foreseeSet 154 = .ok (.aload_n 0, 1) := by decide +kernel
theorem dX1_foreseeSet_155 : decode cX1_foreseeSet 155 = .ok (.getfield 49, 3) := by decide +kernel
theorem dX1_foreseeSet_158 : decode cX1_foreseeSet 158 = .ok (.iload_n 1, 1) := by decide +kernel
theorem dX1_foreseeSet_159 : decode cX1_foreseeSet 159 = .ok (.iload 4, 2) := by decide +kernel
theorem dX1_foreseeSet_161 : decode cX1_foreseeSet 161 = .ok (.iastore, 1) := by decide +kernel
theorem dX1_foreseeSet_162 : decode cX1_foreseeSet 162 = .ok (.return_, 1) := by decide +kernel
theorem dX1_foreseers_0 : decode cX1_foreseers 0 = .ok (.aload_n 0, 1) := by decide +kernel
theorem dX1_foreseers_1 : decode cX1_foreseers 1 = .ok (.getfield 46, 3) := by decide +kernel
theorem dX1_foreseers_4 : decode cX1_foreseers 4 = .ok (.iload_n 1, 1) := by decide +kernel
theorem dX1_foreseers_5 : decode cX1_foreseers 5 = .ok (.iload_n 3, 1) := by decide +kernel
theorem dX1_foreseers_6 : decode cX1_foreseers 6 = .ok (.invokestatic 129, 3) := by decide +kernel
theorem dX1_foreseers_9 : decode cX1_foreseers 9 = .ok (.iconst (-1), 1) := by decide +kernel
theorem dX1_foreseers_10 : decode cX1_foreseers 10 = .ok (.ixor, 1) := by decide +kernel
theorem dX1_foreseers_11 : decode cX1_foreseers 11 = .ok (.iand, 1) := by decide +kernel
theorem dX1_foreseers_12 : decode cX1_foreseers 12 = .ok (.iaload, 1) := by decide +kernel
theorem dX1_foreseers_13 : decode cX1_foreseers 13 = .ok (.istore 4, 2) := by decide +kernel
theorem dX1_foreseers_15 : decode cX1_foreseers 15 = .ok (.iconst 0, 1) := by decide +kernel
theorem dX1_foreseers_16 : decode cX1_foreseers 16 = .ok (.istore 5, 2) := by decide +kernel
theorem dX1_foreseers_18 : decode cX1_foreseers 18 = .ok (.iconst 0, 1) := by decide +kernel
theorem dX1_foreseers_19 : decode cX1_foreseers 19 = .ok (.istore 6, 2) := by decide +kernel
theorem dX1_foreseers_21 : decode cX1_foreseers 21 = .ok (.iload 6, 2) := by decide +kernel
theorem dX1_foreseers_23 : decode cX1_foreseers 23 = .ok (.bipush 7, 2) := by decide +kernel
theorem dX1_foreseers_25 : decode cX1_foreseers 25 = .ok (.if_icmp .ge 84, 3) := by decide +kernel
theorem dX1_foreseers_28 : decode cX1_foreseers 28 = .ok (.iload 4, 2) := by decide +kernel
theorem dX1_foreseers_30 : decode cX1_foreseers 30 = .ok (.iload 6, 2) := by decide +kernel
theorem dX1_foreseers_32 : decode cX1_foreseers 32 = .ok (.invokestatic 91, 3) := by decide +kernel
theorem dX1_foreseers_35 : decode cX1_foreseers 35 = .ok (.ifCond .eq 68, 3) := by decide +kernel
theorem dX1_foreseers_38 : decode cX1_foreseers 38 = .ok (.aload_n 0, 1) := by decide +kernel
theorem dX1_foreseers_39 : decode cX1_foreseers 39 = .ok (.getfield 43, 3) := by decide +kernel
theorem dX1_foreseers_42 : decode cX1_foreseers 42 = .ok (.iload 4, 2) := by decide +kernel
theorem dX1_foreseers_44 : decode cX1_foreseers 44 = .ok (.bipush 7, 2) := by decide +kernel
theorem dX1_foreseers_46 : decode cX1_foreseers 46 = .ok (.imul, 1) := by decide +kernel
theorem dX1_foreseers_47 : decode cX1_foreseers 47 = .ok (.iload 6, 2) := by decide +kernel
theorem dX1_foreseers_49 : decode cX1_foreseers 49 = .ok (.iadd, 1) := by decide +kernel
theorem dX1_foreseers_50 : decode cX1_foreseers 50 = .ok (.iaload, 1) := by decide +kernel
theorem dX1_foreseers_51 : decode cX1_foreseers 51 = .ok (.aload_n 0, 1) := by decide +kernel
theorem dX1_foreseers_52 : decode cX1_foreseers 52 = .ok (.getfield 43, 3) := by decide +kernel
theorem dX1_foreseers_55 : decode cX1_foreseers 55 = .ok (.iload_n 1, 1) := by decide +kernel
theorem dX1_foreseers_56 : decode cX1_foreseers 56 = .ok (.bipush 7, 2) := by decide +kernel
theorem dX1_foreseers_58 : decode cX1_foreseers 58 = .ok (.imul, 1) := by decide +kernel
theorem dX1_foreseers_59 : decode cX1_foreseers 59 = .ok (.iload 6, 2) := by decide +kernel
theorem dX1_foreseers_61 : decode cX1_foreseers 61 = .ok (.iadd, 1) := by decide +kernel
theorem dX1_foreseers_62 : decode cX1_foreseers 62 = .ok (.iaload, 1) := by decide +kernel
theorem dX1_foreseers_63 : decode cX1_foreseers 63 = .ok (.isub, 1) := by decide +kernel
theorem dX1_foreseers_64 : decode cX1_foreseers 64 = .ok (.istore 7, 2) := by decide +kernel
theorem dX1_foreseers_66 : decode cX1_foreseers 66 = .ok (.aload_n 0, 1) := by decide +kernel
theorem dX1_foreseers_67 : decode cX1_foreseers 67 = .ok (.iload 7, 2) := by decide +kernel
theorem dX1_foreseers_69 : decode cX1_foreseers 69 = .ok (.iload 6, 2) := by decide +kernel
theorem dX1_foreseers_71 : decode cX1_foreseers 71 = .ok (.iload_n 3, 1) := by decide +kernel
theorem dX1_foreseers_72 : decode cX1_foreseers 72 = .ok (.iload_n 2, 1) := by decide +kernel
theorem dX1_foreseers_73 : decode cX1_foreseers 73 = .ok (.aload_n 0, 1) := by decide +kernel
theorem dX1_foreseers_74 : decode cX1_foreseers 74 = .ok (.getfield 12, 3) := by decide +kernel
theorem dX1_foreseers_77 : decode cX1_foreseers 77 = .ok (.getfield 132, 3) := by decide +kernel
theorem dX1_foreseers_80 : decode cX1_foreseers 80 = .ok (.iload_n 3, 1) := by decide +kernel
theorem dX1_foreseers_81 : decode cX1_foreseers 81 = .ok (.iaload, 1) := by decide +kernel
theorem dX1_foreseers_82 : decode cX1_foreseers 82 = .ok (.iload 6, 2) := by decide +kernel
theorem dX1_foreseers_84 : decode cX1_foreseers 84 = .ok (.invokestatic 91, 3) := by decide +kernel
theorem dX1_foreseers_87 : decode cX1_foreseers 87 = .ok (.invokevirtual 125, 3) := by decide +kernel
theorem dX1_foreseers_90 : decode cX1_foreseers 90 = .ok (.ifCond .eq 13, 3) := by decide +kernel
theorem dX1_foreseers_93 : decode cX1_foreseers 93 = .ok (.iload 5, 2) := by decide +kernel
theorem dX1_foreseers_95 : decode cX1_foreseers 95 = .ok (.iload 6, 2) := by decide +kernel
theorem dX1_foreseers_97 : decode cX1_foreseers 97 = .ok (.invokestatic 129, 3) := by decide +kernel
theorem dX1_foreseers_100 : decode cX1_foreseers 100 = .ok (.ior, 1) := by decide +kernel
theorem dX1_foreseers_101 : decode cX1_foreseers 101 = .ok (.istore 5, 2) := by decide +kernel
theorem dX1_foreseers_103 : decode cX1_foreseers 103 = .ok (.iinc 6 1, 3) := by decide +kernel
theorem dX1_foreseers_106 : decode cX1_foreseers 106 = .ok (.goto (-85), 3) := by decide +kernel
theorem dX1_foreseers_109 : decode cX1_foreseers 109 = .ok (.iload 5, 2) := by decide +kernel
theorem dX1_foreseers_111 : decode cX1_foreseers 111 = .ok (.ireturn, 1) := by decide +kernel
theorem dX1_savingOath_0 : decode cX1_savingOath 0 = .ok (.aload_n 0, 1) := by decide +kernel
theorem dX1_savingOath_1 : decode cX1_savingOath 1 = .ok (.getfield 12, 3) := by decide +kernel
theorem dX1_savingOath_4 : decode cX1_savingOath 4 = .ok (.getfield 132, 3) := by decide +kernel
theorem dX1_savingOath_7 : decode cX1_savingOath 7 = .ok (.iload_n 1, 1) := by decide +kernel
theorem dX1_savingOath_8 : decode cX1_savingOath 8 = .ok (.iaload, 1) := by decide +kernel
theorem dX1_savingOath_9 : decode cX1_savingOath 9 = .ok (.istore_n 2, 1) := by decide +kernel
theorem dX1_savingOath_10 : decode cX1_savingOath 10 = .ok (.iconst 0, 1) := by decide +kernel
theorem dX1_savingOath_11 : decode cX1_savingOath 11 = .ok (.istore_n 3, 1) := by decide +kernel
theorem dX1_savingOath_12 : decode cX1_savingOath 12 = .ok (.iload_n 3, 1) := by decide +kernel
theorem dX1_savingOath_13 : decode cX1_savingOath 13 = .ok (.bipush 7, 2) := by decide +kernel
theorem dX1_savingOath_15 : decode cX1_savingOath 15 = .ok (.if_icmp .ge 52, 3) := by decide +kernel
theorem dX1_savingOath_18 : decode cX1_savingOath 18 = .ok (.aload_n 0, 1) := by decide +kernel
theorem dX1_savingOath_19 : decode cX1_savingOath 19 = .ok (.iload_n 1, 1) := by decide +kernel
theorem dX1_savingOath_20 : decode cX1_savingOath 20 = .ok (.iload_n 3, 1) := by decide +kernel
theorem dX1_savingOath_21 : decode cX1_savingOath 21 = .ok (.invokevirtual 116, 3) := by decide +kernel
theorem dX1_savingOath_24 : decode cX1_savingOath 24 = .ok (.ifCond .eq 37, 3) := by decide +kernel
theorem dX1_savingOath_27 : decode cX1_savingOath 27 = .ok (.iload_n 2, 1) := by decide +kernel
theorem dX1_savingOath_28 : decode cX1_savingOath 28 = .ok (.iload_n 3, 1) := by decide +kernel
theorem dX1_savingOath_29 : decode cX1_savingOath 29 = .ok (.invokestatic 91, 3) := by decide +kernel
theorem dX1_savingOath_32 : decode cX1_savingOath 32 = .ok (.ifCond .ne 29, 3) := by decide +kernel
theorem dX1_savingOath_35 : decode cX1_savingOath 35 = .ok (.aload_n 0, 1) := by decide +kernel
theorem dX1_savingOath_36 : decode cX1_savingOath 36 = .ok (.iload_n 1, 1) := by decide +kernel
theorem dX1_savingOath_37 : decode cX1_savingOath 37 = .ok (.iload_n 2, 1) := by decide +kernel
theorem dX1_savingOath_38 : decode cX1_savingOath 38 = .ok (.iload_n 3, 1) := by decide +kernel
theorem dX1_savingOath_39 : decode cX1_savingOath 39 = .ok (.invokestatic 129, 3) := by decide +kernel
theorem dX1_savingOath_42 : decode cX1_savingOath 42 = .ok (.ior, 1) := by decide +kernel
theorem dX1_savingOath_43 : decode cX1_savingOath 43 = .ok (.invokevirtual 135, 3) := by decide +kernel
theorem dX1_savingOath_46 : decode cX1_savingOath 46 = .ok (.invokestatic 111, 3) := by decide +kernel
theorem dX1_savingOath_49 : decode cX1_savingOath 49 = .ok (.aload_n 0, 1) := by decide +kernel
theorem dX1_savingOath_50 : decode cX1_savingOath 50 = .ok (.getfield 12, 3) := by decide +kernel
theorem dX1_savingOath_53 : decode cX1_savingOath 53 = .ok (.getfield 140, 3) := by decide +kernel
theorem dX1_savingOath_56 : decode cX1_savingOath 56 = .ok (.if_icmp .ge 5, 3) := by decide +kernel
theorem dX1_savingOath_59 : decode cX1_savingOath 59 = .ok (.iload_n 3, 1) := by decide +kernel
theorem dX1_savingOath_60 : decode cX1_savingOath 60 = .ok (.ireturn, 1) := by decide +kernel
theorem dX1_savingOath_61 : decode cX1_savingOath 61 = .ok (.iinc 3 1, 3) := by decide +kernel
theorem dX1_savingOath_64 : decode cX1_savingOath 64 = .ok (.goto (-52), 3) := by decide +kernel
theorem dX1_savingOath_67 : decode cX1_savingOath 67 = .ok (.iconst (-1), 1) := by decide +kernel
theorem dX1_savingOath_68 : decode cX1_savingOath 68 = .ok (.ireturn, 1) := by decide +kernel
theorem dX1_findOaths_0 : decode cX1_findOaths 0 = .ok (.aload_n 0, 1) := by decide +kernel
theorem dX1_findOaths_1 : decode cX1_findOaths 1 = .ok (.getfield 58, 3) := by decide +kernel
theorem dX1_findOaths_4 : decode cX1_findOaths 4 = .ok (.iconst 0, 1) := by decide +kernel
theorem dX1_findOaths_5 : decode cX1_findOaths 5 = .ok (.iconst (-1), 1) := by decide +kernel
theorem dX1_findOaths_6 : decode cX1_findOaths 6 = .ok (.iastore, 1) := by decide +kernel
theorem dX1_findOaths_7 : decode cX1_findOaths 7 = .ok (.aload_n 0, 1) := by decide +kernel
theorem dX1_findOaths_8 : decode cX1_findOaths 8 = .ok (.getfield 58, 3) := by decide +kernel
theorem dX1_findOaths_11 : decode cX1_findOaths 11 = .ok (.iconst 1, 1) := by decide +kernel
theorem dX1_findOaths_12 : decode cX1_findOaths 12 = .ok (.iconst (-1), 1) := by decide +kernel
theorem dX1_findOaths_13 : decode cX1_findOaths 13 = .ok (.iastore, 1) := by decide +kernel
theorem dX1_findOaths_14 : decode cX1_findOaths 14 = .ok (.aload_n 0, 1) := by decide +kernel
theorem dX1_findOaths_15 : decode cX1_findOaths 15 = .ok (.getfield 58, 3) := by decide +kernel
theorem dX1_findOaths_18 : decode cX1_findOaths 18 = .ok (.iconst 2, 1) := by decide +kernel
theorem dX1_findOaths_19 : decode cX1_findOaths 19 = .ok (.iconst (-1), 1) := by decide +kernel
theorem dX1_findOaths_20 : decode cX1_findOaths 20 = .ok (.iastore, 1) := by decide +kernel
theorem dX1_findOaths_21 : decode cX1_findOaths 21 = .ok (.aload_n 0, 1) := by decide +kernel
theorem dX1_findOaths_22 : decode cX1_findOaths 22 = .ok (.invokevirtual 186, 3) := by decide +kernel
theorem dX1_findOaths_25 : decode cX1_findOaths 25 = .ok (.ifCond .eq 11, 3) := by decide +kernel
theorem dX1_findOaths_28 : decode cX1_findOaths 28 = .ok (.aload_n 0, 1) := by decide +kernel
theorem dX1_findOaths_29 : decode cX1_findOaths 29 = .ok (.getfield 58, 3) := by decide +kernel
theorem dX1_findOaths_32 : decode cX1_findOaths 32 = .ok (.iconst 0, 1) := by decide +kernel
theorem dX1_findOaths_33 : decode cX1_findOaths 33 = .ok (.iconst 0, 1) := by decide +kernel
theorem dX1_findOaths_34 : decode cX1_findOaths 34 = .ok (.iastore, 1) := by decide +kernel
theorem dX1_findOaths_35 : decode cX1_findOaths 35 = .ok (.return_, 1) := by decide +kernel
theorem dX1_findOaths_36 : decode cX1_findOaths 36 = .ok (.aload_n 0, 1) := by decide +kernel
theorem dX1_findOaths_37 : decode cX1_findOaths 37 = .ok (.iconst 1, 1) := by decide +kernel
theorem dX1_findOaths_38 : decode cX1_findOaths 38 = .ok (.iconst 0, 1) := by decide +kernel
theorem dX1_findOaths_39 : decode cX1_findOaths 39 = .ok (.invokevirtual 190, 3) := by decide +kernel
theorem dX1_findOaths_42 : decode cX1_findOaths 42 = .ok (.ifCond .ne 7, 3) := by decide +kernel
theorem dX1_findOaths_45 : decode cX1_findOaths 45 = .ok (.aload_n 0, 1) := by decide +kernel
theorem dX1_findOaths_46 : decode cX1_findOaths 46 = .ok (.invokevirtual 193, 3) := by decide +kernel
theorem dX1_findOaths_49 : decode cX1_findOaths 49 = .ok (.return_, 1) := by decide +kernel
theorem dX1_findTwoOaths_0 : decode cX1_findTwoOaths 0 = .ok (.iconst 0, 1) := by decide +kernel
theorem dX1_findTwoOaths_1 : decode cX1_findTwoOaths 1 = .ok (.istore_n 1, 1) := by decide +kernel
theorem dX1_findTwoOaths_2 : decode cX1_findTwoOaths 2 = .ok (.iload_n 1, 1) := by decide +kernel
theorem dX1_findTwoOaths_3 : decode cX1_findTwoOaths 3 = .ok (.bipush 49, 2) := by decide +kernel
theorem dX1_findTwoOaths_5 : decode cX1_findTwoOaths 5 = .ok (.if_icmp .ge 53, 3) := by decide +kernel
theorem dX1_findTwoOaths_8 : decode cX1_findTwoOaths 8 = .ok (.aload_n 0, 1) := by decide +kernel
theorem dX1_findTwoOaths_9 : decode cX1_findTwoOaths 9 = .ok (.iload_n 1, 1) := by decide +kernel
theorem dX1_findTwoOaths_10 : decode cX1_findTwoOaths 10 = .ok (.invokevirtual 196, 3) := by decide +kernel
theorem dX1_findTwoOaths_13 : decode cX1_findTwoOaths 13 = .ok (.ifCond .eq 39, 3) := by decide +kernel
theorem dX1_findTwoOaths_16 : decode cX1_findTwoOaths 16 = .ok (.aload_n 0, 1) := by decide +kernel
theorem dX1_findTwoOaths_17 : decode cX1_findTwoOaths 17 = .ok (.iload_n 1, 1) := by decide +kernel
theorem dX1_findTwoOaths_18 : decode cX1_findTwoOaths 18 = .ok (.iconst 1, 1) := by decide +kernel
theorem dX1_findTwoOaths_19 : decode cX1_findTwoOaths 19 = .ok (.invokevirtual 199, 3) := by decide +kernel
theorem dX1_findTwoOaths_22 : decode cX1_findTwoOaths 22 = .ok (.aload_n 0, 1) := by decide +kernel
theorem dX1_findTwoOaths_23 : decode cX1_findTwoOaths 23 = .ok (.iconst 2, 1) := by decide +kernel
theorem dX1_findTwoOaths_24 : decode cX1_findTwoOaths 24 = .ok (.iload_n 1, 1) := by decide +kernel
theorem dX1_findTwoOaths_25 : decode cX1_findTwoOaths 25 = .ok (.iconst 1, 1) := by decide +kernel
theorem dX1_findTwoOaths_26 : decode cX1_findTwoOaths 26 = .ok (.iadd, 1) := by decide +kernel
theorem dX1_findTwoOaths_27 : decode cX1_findTwoOaths 27 = .ok (.invokevirtual 190, 3) := by decide +kernel
theorem dX1_findTwoOaths_30 : decode cX1_findTwoOaths 30 = .ok (.istore_n 2, 1) := by decide +kernel
theorem dX1_findTwoOaths_31 : decode cX1_findTwoOaths 31 = .ok (.aload_n 0, 1) := by decide +kernel
theorem dX1_findTwoOaths_32 : decode cX1_findTwoOaths 32 = .ok (.iload_n 1, 1) := by decide +kernel
theorem dX1_findTwoOaths_33 : decode cX1_findTwoOaths 33 = .ok (.iconst 0, 1) := by decide +kernel
theorem dX1_findTwoOaths_34 : decode cX1_findTwoOaths 34 = .ok (.invokevirtual 199, 3) := by decide +kernel
theorem dX1_findTwoOaths_37 : decode cX1_findTwoOaths 37 = .ok (.iload_n 2, 1) := by decide +kernel
theorem dX1_findTwoOaths_38 : decode cX1_findTwoOaths 38 = .ok (.ifCond .eq 14, 3) := by decide +kernel
theorem dX1_findTwoOaths_41 : decode cX1_findTwoOaths 41 = .ok (.aload_n 0, 1) := by decide +kernel
theorem dX1_findTwoOaths_42 : decode cX1_findTwoOaths 42 = .ok (.getfield 58, 3) := by decide +kernel
theorem dX1_findTwoOaths_45 : decode cX1_findTwoOaths 45 = .ok (.iconst 1, 1) := by decide +kernel
theorem dX1_findTwoOaths_46 : decode cX1_findTwoOaths 46 = .ok (.iload_n 1, 1) := by decide +kernel
theorem dX1_findTwoOaths_47 : decode cX1_findTwoOaths 47 = .ok (.invokestatic 203, 3) := by decide +kernel
theorem dX1_findTwoOaths_50 : decode cX1_findTwoOaths 50 = .ok (.iastore, 1) := by decide +kernel
theorem dX1_findTwoOaths_51 : decode cX1_findTwoOaths 51 = .ok (.return_, 1) := by decide +kernel
theorem dX1_findTwoOaths_52 : decode cX1_findTwoOaths 52 = .ok (.iinc 1 1, 3) := by decide +kernel
theorem dX1_findTwoOaths_55 : decode cX1_findTwoOaths 55 = .ok (.goto (-53), 3) := by decide +kernel
theorem dX1_findTwoOaths_58 : decode cX1_findTwoOaths 58 = .ok (.return_, 1) := by decide +kernel
theorem dX1_findOath_0 : decode cX1_findOath 0 = .ok (.iload_n 2, 1) := by decide +kernel
theorem dX1_findOath_1 : decode cX1_findOath 1 = .ok (.istore_n 3, 1) := by decide +kernel
theorem dX1_findOath_2 : decode cX1_findOath 2 = .ok (.iload_n 3, 1) := by decide +kernel
theorem dX1_findOath_3 : decode cX1_findOath 3 = .ok (.bipush 49, 2) := by decide +kernel
theorem dX1_findOath_5 : decode cX1_findOath 5 = .ok (.if_icmp .ge 59, 3) := by decide +kernel
theorem dX1_findOath_8 : decode cX1_findOath 8 = .ok (.aload_n 0, 1) := by decide +kernel
theorem dX1_findOath_9 : decode cX1_findOath 9 = .ok (.iload_n 3, 1) := by decide +kernel
theorem dX1_findOath_10 : decode cX1_findOath 10 = .ok (.invokevirtual 196, 3) := by decide +kernel
theorem dX1_findOath_13 : decode cX1_findOath 13 = .ok (.ifCond .eq 45, 3) := by decide +kernel
theorem dX1_findOath_16 : decode cX1_findOath 16 = .ok (.aload_n 0, 1) := by decide +kernel
theorem dX1_findOath_17 : decode cX1_findOath 17 = .ok (.iload_n 3, 1) := by decide +kernel
theorem dX1_findOath_18 : decode cX1_findOath 18 = .ok (.iconst 1, 1) := by decide +kernel
theorem dX1_findOath_19 : decode cX1_findOath 19 = .ok (.invokevirtual 199, 3) := by decide +kernel
theorem dX1_findOath_22 : decode cX1_findOath 22 = .ok (.aload_n 0, 1) := by decide +kernel
theorem dX1_findOath_23 : decode cX1_findOath 23 = .ok (.invokevirtual 186, 3) := by decide +kernel
theorem dX1_findOath_26 : decode cX1_findOath 26 = .ok (.istore 4, 2) := by decide +kernel
theorem dX1_findOath_28 : decode cX1_findOath 28 = .ok (.aload_n 0, 1) := by decide +kernel
theorem dX1_findOath_29 : decode cX1_findOath 29 = .ok (.iload_n 3, 1) := by decide +kernel
theorem dX1_findOath_30 : decode cX1_findOath 30 = .ok (.iconst 0, 1) := by decide +kernel
theorem dX1_findOath_31 : decode cX1_findOath 31 = .ok (.invokevirtual 199, 3) := by decide +kernel
theorem dX1_findOath_34 : decode cX1_findOath 34 = .ok (.iload 4, 2) := by decide +kernel
theorem dX1_findOath_36 : decode cX1_findOath 36 = .ok (.ifCond .eq 22, 3) := by decide +kernel
theorem dX1_findOath_39 : decode cX1_findOath 39 = .ok (.aload_n 0, 1) := by decide +kernel
theorem dX1_findOath_40 : decode cX1_findOath 40 = .ok (.getfield 58, 3) := by decide +kernel
theorem dX1_findOath_43 : decode cX1_findOath 43 = .ok (.iconst 0, 1) := by decide +kernel
theorem dX1_findOath_44 : decode cX1_findOath 44 = .ok (.iload_n 1, 1) := by decide +kernel
theorem dX1_findOath_45 : decode cX1_findOath 45 = .ok (.iastore, 1) := by decide +kernel
theorem dX1_findOath_46 : decode cX1_findOath 46 = .ok (.aload_n 0, 1) := by decide +kernel
theorem dX1_findOath_47 : decode cX1_findOath 47 = .ok (.getfield 58, 3) := by decide +kernel
theorem dX1_findOath_50 : decode cX1_findOath 50 = .ok (.iload_n 1, 1) := by decide +kernel
theorem dX1_findOath_51 : decode cX1_findOath 51 = .ok (.iload_n 3, 1) := by decide +kernel
theorem dX1_findOath_52 : decode cX1_findOath 52 = .ok (.invokestatic 203, 3) := by decide +kernel
theorem dX1_findOath_55 : decode cX1_findOath 55 = .ok (.iastore, 1) := by decide +kernel
theorem dX1_findOath_56 : decode cX1_findOath 56 = .ok (.iconst 1, 1) := by decide +kernel
theorem dX1_findOath_57 : decode cX1_findOath 57 = .ok (.ireturn, 1) := by decide +kernel
theorem dX1_findOath_58 : decode cX1_findOath 58 = .ok (.iinc 3 1, 3) := by decide +kernel
theorem dX1_findOath_61 : decode cX1_findOath 61 = .ok (.goto (-59), 3) := by decide +kernel
theorem dX1_findOath_64 : decode cX1_findOath 64 = .ok (.iconst 0, 1) := by decide +kernel
theorem dX1_findOath_65 : decode cX1_findOath 65 = .ok (.ireturn, 1) := by decide +kernel
theorem dX1_isFreePair_0 : decode cX1_isFreePair 0 = .ok (.iload_n 1, 1) := by decide +kernel
theorem dX1_isFreePair_1 : decode cX1_isFreePair 1 = .ok (.bipush 7, 2) := by decide +kernel
theorem dX1_isFreePair_3 : decode cX1_isFreePair 3 = .ok (.idiv, 1) := by decide +kernel
theorem dX1_isFreePair_4 : decode cX1_isFreePair 4 = .ok (.istore_n 2, 1) := by decide +kernel
theorem dX1_isFreePair_5 : decode cX1_isFreePair 5 = .ok (.iload_n 1, 1) := by decide +kernel
theorem dX1_isFreePair_6 : decode cX1_isFreePair 6 = .ok (.bipush 7, 2) := by decide +kernel
theorem dX1_isFreePair_8 : decode cX1_isFreePair 8 = .ok (.irem, 1) := by decide +kernel
theorem dX1_isFreePair_9 : decode cX1_isFreePair 9 = .ok (.istore_n 3, 1) := by decide +kernel
theorem dX1_isFreePair_10 : decode cX1_isFreePair 10 = .ok (.iload_n 2, 1) := by decide +kernel
theorem dX1_isFreePair_11 : decode cX1_isFreePair 11 = .ok (.iload_n 3, 1) := by decide +kernel
theorem dX1_isFreePair_12 : decode cX1_isFreePair 12 = .ok (.if_icmp .ge 32, 3) := by decide +kernel
theorem dX1_isFreePair_15 : decode cX1_isFreePair 15 = .ok (.aload_n 0, 1) := by decide +kernel
theorem dX1_isFreePair_16 : decode cX1_isFreePair 16 = .ok (.iload_n 2, 1) := by decide +kernel
theorem dX1_isFreePair_17 : decode cX1_isFreePair 17 = .ok (.iload_n 3, 1) := by decide +kernel
theorem dX1_isFreePair_18 : decode cX1_isFreePair 18 = .ok (.invokevirtual 116, 3) := by decide +kernel
theorem dX1_isFreePair_21 : decode cX1_isFreePair 21 = .ok (.ifCond .eq 23, 3) := by decide +kernel
theorem dX1_isFreePair_24 : decode cX1_isFreePair 24 = .ok (.aload_n 0, 1) := by decide +kernel
theorem dX1_isFreePair_25 : decode cX1_isFreePair 25 = .ok (.getfield 12, 3) := by decide +kernel
theorem dX1_isFreePair_28 : decode cX1_isFreePair 28 = .ok (.getfield 132, 3) := by decide +kernel
theorem dX1_isFreePair_31 : decode cX1_isFreePair 31 = .ok (.iload_n 2, 1) := by decide +kernel
theorem dX1_isFreePair_32 : decode cX1_isFreePair 32 = .ok (.iaload, 1) := by decide +kernel
theorem dX1_isFreePair_33 : decode cX1_isFreePair 33 = .ok (.iload_n 3, 1) := by decide +kernel
theorem dX1_isFreePair_34 : decode cX1_isFreePair 34 = .ok (.invokestatic 91, 3) := by decide +kernel
theorem dX1_isFreePair_37 : decode cX1_isFreePair 37 = .ok (.ifCond .ne 7, 3) := by decide +kernel
theorem dX1_isFreePair_40 : decode cX1_isFreePair 40 = .ok (.iconst 1, 1) := by decide +kernel
theorem dX1_isFreePair_41 : decode cX1_isFreePair 41 = .ok (.goto 4, 3) := by decide +kernel
theorem dX1_isFreePair_44 : decode cX1_isFreePair 44 = .ok (.iconst 0, 1) := by decide +kernel
theorem dX1_isFreePair_45 : decode cX1_isFreePair 45 = .ok (.ireturn, 1) := by decide +kernel
theorem dX1_bindPair_0 : decode cX1_bindPair 0 = .ok (.aload_n 0, 1) := by decide +kernel
theorem dX1_bindPair_1 : decode cX1_bindPair 1 = .ok (.getfield 12, 3) := by decide +kernel
theorem dX1_bindPair_4 : decode cX1_bindPair 4 = .ok (.iload_n 1, 1) := by decide +kernel
theorem dX1_bindPair_5 : decode cX1_bindPair 5 = .ok (.bipush 7, 2) := by decide +kernel
theorem dX1_bindPair_7 : decode cX1_bindPair 7 = .ok (.idiv, 1) := by decide +kernel
theorem dX1_bindPair_8 : decode cX1_bindPair 8 = .ok (.iload_n 1, 1) := by decide +kernel
theorem dX1_bindPair_9 : decode cX1_bindPair 9 = .ok (.bipush 7, 2) := by decide +kernel
theorem dX1_bindPair_11 : decode cX1_bindPair 11 = .ok (.irem, 1) := by decide +kernel
theorem dX1_bindPair_12 : decode cX1_bindPair 12 = .ok (.iload_n 2, 1) := by decide +kernel
theorem dX1_bindPair_13 : decode cX1_bindPair 13 = .ok (.invokevirtual 206, 3) := by decide +kernel
theorem dX1_bindPair_16 : decode cX1_bindPair 16 = .ok (.return_, 1) := by decide +kernel
theorem dX1_pairName_0 : decode cX1_pairName 0 = .ok (.bipush 10, 2) := by decide +kernel
theorem dX1_pairName_2 : decode cX1_pairName 2 = .ok (.iload_n 0, 1) := by decide +kernel
theorem dX1_pairName_3 : decode cX1_pairName 3 = .ok (.bipush 7, 2) := by decide +kernel
theorem dX1_pairName_5 : decode cX1_pairName 5 = .ok (.idiv, 1) := by decide +kernel
theorem dX1_pairName_6 : decode cX1_pairName 6 = .ok (.imul, 1) := by decide +kernel
theorem dX1_pairName_7 : decode cX1_pairName 7 = .ok (.iload_n 0, 1) := by decide +kernel
theorem dX1_pairName_8 : decode cX1_pairName 8 = .ok (.bipush 7, 2) := by decide +kernel
theorem dX1_pairName_10 : decode cX1_pairName 10 = .ok (.irem, 1) := by decide +kernel
theorem dX1_pairName_11 : decode cX1_pairName 11 = .ok (.iadd, 1) := by decide +kernel
theorem dX1_pairName_12 : decode cX1_pairName 12 = .ok (.ireturn, 1) := by decide +kernel
theorem dX1_leastNeeded_0 : decode cX1_leastNeeded 0 = .ok (.iconst 2, 1) := by decide +kernel
theorem dX1_leastNeeded_1 : decode cX1_leastNeeded 1 = .ok (.istore_n 1, 1) := by decide +kernel
theorem dX1_leastNeeded_2 : decode cX1_leastNeeded 2 = .ok (.iload_n 1, 1) := by decide +kernel
theorem dX1_leastNeeded_3 : decode cX1_leastNeeded 3 = .ok (.iconst 5, 1) := by decide +kernel
theorem dX1_leastNeeded_4 : decode cX1_leastNeeded 4 = .ok (.if_icmp .gt 26, 3) := by decide +kernel
theorem dX1_leastNeeded_7 : decode cX1_leastNeeded 7 = .ok (.aload_n 0, 1) := by decide +kernel
theorem dX1_leastNeeded_8 : decode cX1_leastNeeded 8 = .ok (.getfield 12, 3) := by decide +kernel
theorem dX1_leastNeeded_11 : decode cX1_leastNeeded 11 = .ok (.iload_n 1, 1) := by decide +kernel
theorem dX1_leastNeeded_12 : decode cX1_leastNeeded 12 = .ok (.putfield 140, 3) := by decide +kernel
theorem dX1_leastNeeded_15 : decode cX1_leastNeeded 15 = .ok (.aload_n 0, 1) := by decide +kernel
theorem dX1_leastNeeded_16 : decode cX1_leastNeeded 16 = .ok (.invokevirtual 186, 3) := by decide +kernel
theorem dX1_leastNeeded_19 : decode cX1_leastNeeded 19 = .ok (.ifCond .eq 5, 3) := by decide +kernel
theorem dX1_leastNeeded_22 : decode cX1_leastNeeded 22 = .ok (.iload_n 1, 1) := by decide +kernel
theorem dX1_leastNeeded_23 : decode cX1_leastNeeded 23 = .ok (.ireturn, 1) := by decide +kernel
theorem dX1_leastNeeded_24 : decode cX1_leastNeeded 24 = .ok (.iinc 1 1, 3) := by decide +kernel
theorem dX1_leastNeeded_27 : decode cX1_leastNeeded 27 = .ok (.goto (-25), 3) := by decide +kernel
theorem dX1_leastNeeded_30 : decode cX1_leastNeeded 30 = .ok (.iconst (-1), 1) := by decide +kernel
theorem dX1_leastNeeded_31 : decode cX1_leastNeeded 31 = .ok (.ireturn, 1) := by decide +kernel
theorem dX1_leastRent_0 : decode cX1_leastRent 0 = .ok (.aload_n 0, 1) := by decide +kernel
theorem dX1_leastRent_1 : decode cX1_leastRent 1 = .ok (.getfield 23, 3) := by decide +kernel
theorem dX1_leastRent_4 : decode cX1_leastRent 4 = .ok (.bipush (-3), 2) := by decide +kernel
theorem dX1_leastRent_6 : decode cX1_leastRent 6 = .ok (.invokevirtual 210, 3) := by decide +kernel
theorem dX1_leastRent_9 : decode cX1_leastRent 9 = .ok (.istore_n 1, 1) := by decide +kernel
theorem dX1_leastRent_10 : decode cX1_leastRent 10 = .ok (.iconst 0, 1) := by decide +kernel
theorem dX1_leastRent_11 : decode cX1_leastRent 11 = .ok (.istore_n 2, 1) := by decide +kernel
theorem dX1_leastRent_12 : decode cX1_leastRent 12 = .ok (.iload_n 2, 1) := by decide +kernel
theorem dX1_leastRent_13 : decode cX1_leastRent 13 = .ok (.sipush 1000, 3) := by decide +kernel
theorem dX1_leastRent_16 : decode cX1_leastRent 16 = .ok (.if_icmp .ge 38, 3) := by decide +kernel
theorem dX1_leastRent_19 : decode cX1_leastRent 19 = .ok (.aload_n 0, 1) := by decide +kernel
theorem dX1_leastRent_20 : decode cX1_leastRent 20 = .ok (.getfield 12, 3) := by decide +kernel
theorem dX1_leastRent_23 : decode cX1_leastRent 23 = .ok (.iload_n 2, 1) := by decide +kernel
theorem dX1_leastRent_24 : decode cX1_leastRent 24 = .ok (.putfield 213, 3) := by decide +kernel
theorem dX1_leastRent_27 : decode cX1_leastRent 27 = .ok (.iload_n 1, 1) := by decide +kernel
theorem dX1_leastRent_28 : decode cX1_leastRent 28 = .ok (.ifCond .eq 7, 3) := by decide +kernel
theorem dX1_leastRent_31 : decode cX1_leastRent 31 = .ok (.aload_n 0, 1) := by decide +kernel
theorem dX1_leastRent_32 : decode cX1_leastRent 32 = .ok (.invokevirtual 105, 3) := by decide +kernel
theorem dX1_leastRent_35 : decode cX1_leastRent 35 = .ok (.aload_n 0, 1) := by decide +kernel
theorem dX1_leastRent_36 : decode cX1_leastRent 36 = .ok (.invokevirtual 108, 3) := by decide +kernel
theorem dX1_leastRent_39 : decode cX1_leastRent 39 = .ok (.aload_n 0, 1) := by decide +kernel
theorem dX1_leastRent_40 : decode cX1_leastRent 40 = .ok (.invokevirtual 186, 3) := by decide +kernel
theorem dX1_leastRent_43 : decode cX1_leastRent 43 = .ok (.ifCond .ne 5, 3) := by decide +kernel
theorem dX1_leastRent_46 : decode cX1_leastRent 46 = .ok (.iload_n 2, 1) := by decide +kernel
theorem dX1_leastRent_47 : decode cX1_leastRent 47 = .ok (.ireturn, 1) := by decide +kernel
theorem dX1_leastRent_48 : decode cX1_leastRent 48 = .ok (.iinc 2 10, 3) := by decide +kernel
theorem dX1_leastRent_51 : decode cX1_leastRent 51 = .ok (.goto (-39), 3) := by decide +kernel
theorem dX1_leastRent_54 : decode cX1_leastRent 54 = .ok (.iconst (-1), 1) := by decide +kernel
theorem dX1_leastRent_55 : decode cX1_leastRent 55 = .ok (.ireturn, 1) := by decide +kernel
theorem dX1_follow_0 : decode cX1_follow 0 = .ok (.aload_n 0, 1) := by decide +kernel
theorem dX1_follow_1 : decode cX1_follow 1 = .ok (.getfield 61, 3) := by decide +kernel
theorem dX1_follow_4 : decode cX1_follow 4 = .ok (.iconst 2, 1) := by decide +kernel
theorem dX1_follow_5 : decode cX1_follow 5 = .ok (.iconst (-1), 1) := by decide +kernel
theorem dX1_follow_6 : decode cX1_follow 6 = .ok (.iastore, 1) := by decide +kernel
theorem dX1_follow_7 : decode cX1_follow 7 = .ok (.iconst 0, 1) := by decide +kernel
theorem dX1_follow_8 : decode cX1_follow 8 = .ok (.istore_n 2, 1) := by decide +kernel
theorem dX1_follow_9 : decode cX1_follow 9 = .ok (.iload_n 2, 1) := by decide +kernel
theorem dX1_follow_10 : decode cX1_follow 10 = .ok (.aload_n 1, 1) := by decide +kernel
theorem dX1_follow_11 : decode cX1_follow 11 = .ok (.getfield 216, 3) := by decide +kernel
theorem dX1_follow_14 : decode cX1_follow 14 = .ok (.if_icmp .ge 103, 3) := by decide +kernel
theorem dX1_follow_17 : decode cX1_follow 17 = .ok (.aload_n 1, 1) := by decide +kernel
theorem dX1_follow_18 : decode cX1_follow 18 = .ok (.getfield 221, 3) := by decide +kernel
theorem dX1_follow_21 : decode cX1_follow 21 = .ok (.iload_n 2, 1) := by decide +kernel
theorem dX1_follow_22 : decode cX1_follow 22 = .ok (.iaload, 1) := by decide +kernel
theorem dX1_follow_23 : decode cX1_follow 23 = .ok (.istore_n 3, 1) := by decide +kernel
theorem dX1_follow_24 : decode cX1_follow 24 = .ok (.aload_n 0, 1) := by decide +kernel
theorem dX1_follow_25 : decode cX1_follow 25 = .ok (.getfield 12, 3) := by decide +kernel
theorem dX1_follow_28 : decode cX1_follow 28 = .ok (.iload_n 3, 1) := by decide +kernel
theorem dX1_follow_29 : decode cX1_follow 29 = .ok (.invokevirtual 224, 3) := by decide +kernel
theorem dX1_follow_32 : decode cX1_follow 32 = .ok (.ifCond .ne 5, 3) := by decide +kernel
theorem dX1_follow_35 : decode cX1_follow 35 = .ok (.iconst 0, 1) := by decide +kernel
theorem dX1_follow_36 : decode cX1_follow 36 = .ok (.ireturn, 1) := by decide +kernel
theorem dX1_follow_37 : decode cX1_follow 37 = .ok (.aload_n 0, 1) := by decide +kernel
theorem dX1_follow_38 : decode cX1_follow 38 = .ok (.aload_n 0, 1) := by decide +kernel
theorem dX1_follow_39 : decode cX1_follow 39 = .ok (.getfield 12, 3) := by decide +kernel
theorem dX1_follow_42 : decode cX1_follow 42 = .ok (.getfield 159, 3) := by decide +kernel
theorem dX1_follow_45 : decode cX1_follow 45 = .ok (.invokevirtual 162, 3) := by decide +kernel
theorem dX1_follow_48 : decode cX1_follow 48 = .ok (.aload_n 0, 1) := by decide +kernel
theorem dX1_follow_49 : decode cX1_follow 49 = .ok (.getfield 61, 3) := by decide +kernel
theorem dX1_follow_52 : decode cX1_follow 52 = .ok (.iconst 0, 1) := by decide +kernel
theorem dX1_follow_53 : decode cX1_follow 53 = .ok (.aload_n 0, 1) := by decide +kernel
theorem dX1_follow_54 : decode cX1_follow 54 = .ok (.iload_n 3, 1) := by decide +kernel
theorem dX1_follow_55 : decode cX1_follow 55 = .ok (.invokevirtual 149, 3) := by decide +kernel
theorem dX1_follow_58 : decode cX1_follow 58 = .ok (.iastore, 1) := by decide +kernel
theorem dX1_follow_59 : decode cX1_follow 59 = .ok (.aload_n 0, 1) := by decide +kernel
theorem dX1_follow_60 : decode cX1_follow 60 = .ok (.getfield 61, 3) := by decide +kernel
theorem dX1_follow_63 : decode cX1_follow 63 = .ok (.iconst 1, 1) := by decide +kernel
theorem dX1_follow_64 : decode cX1_follow 64 = .ok (.aload_n 0, 1) := by decide +kernel
theorem dX1_follow_65 : decode cX1_follow 65 = .ok (.iload_n 3, 1) := by decide +kernel
theorem dX1_follow_66 : decode cX1_follow 66 = .ok (.invokevirtual 152, 3) := by decide +kernel
theorem dX1_follow_69 : decode cX1_follow 69 = .ok (.iastore, 1) := by decide +kernel
theorem dX1_follow_70 : decode cX1_follow 70 = .ok (.aload_n 0, 1) := by decide +kernel
theorem dX1_follow_71 : decode cX1_follow 71 = .ok (.getfield 61, 3) := by decide +kernel
theorem dX1_follow_74 : decode cX1_follow 74 = .ok (.iconst 0, 1) := by decide +kernel
theorem dX1_follow_75 : decode cX1_follow 75 = .ok (.iaload, 1) := by decide +kernel
theorem dX1_follow_76 : decode cX1_follow 76 = .ok (.ifCond .ne 20, 3) := by decide +kernel
theorem dX1_follow_79 : decode cX1_follow 79 = .ok (.aload_n 0, 1) := by decide +kernel
theorem dX1_follow_80 : decode cX1_follow 80 = .ok (.getfield 61, 3) := by decide +kernel
theorem dX1_follow_83 : decode cX1_follow 83 = .ok (.iconst 2, 1) := by decide +kernel
theorem dX1_follow_84 : decode cX1_follow 84 = .ok (.iaload, 1) := by decide +kernel
theorem dX1_follow_85 : decode cX1_follow 85 = .ok (.iconst (-1), 1) := by decide +kernel
theorem dX1_follow_86 : decode cX1_follow 86 = .ok (.if_icmp .ne 10, 3) := by decide +kernel
theorem dX1_follow_89 : decode cX1_follow 89 = .ok (.aload_n 0, 1) := by decide +kernel
theorem dX1_follow_90 : decode cX1_follow 90 = .ok (.getfield 61, 3) := by decide +kernel
theorem dX1_follow_93 : decode cX1_follow 93 = .ok (.iconst 2, 1) := by decide +kernel
theorem dX1_follow_94 : decode cX1_follow 94 = .ok (.iload_n 2, 1) := by decide +kernel
theorem dX1_follow_95 : decode cX1_follow 95 = .ok (.iastore, 1) := by decide +kernel
theorem dX1_follow_96 : decode cX1_follow 96 = .ok (.aload_n 0, 1) := by decide +kernel
theorem dX1_follow_97 : decode cX1_follow 97 = .ok (.getfield 12, 3) := by decide +kernel
theorem dX1_follow_100 : decode cX1_follow 100 = .ok (.iload_n 3, 1) := by decide +kernel
theorem dX1_follow_101 : decode cX1_follow 101 = .ok (.invokevirtual 170, 3) := by decide +kernel
theorem dX1_follow_104 : decode cX1_follow 104 = .ok (.aload_n 0, 1) := by decide +kernel
theorem dX1_follow_105 : decode cX1_follow 105 = .ok (.getfield 12, 3) := by decide +kernel
theorem dX1_follow_108 : decode cX1_follow 108 = .ok (.invokevirtual 173, 3) := by decide +kernel
theorem dX1_follow_111 : decode cX1_follow 111 = .ok (.iinc 2 1, 3) := by decide +kernel
theorem dX1_follow_114 : decode cX1_follow 114 = .ok (.goto (-105), 3) := by decide +kernel
theorem dX1_follow_117 : decode cX1_follow 117 = .ok (.aload_n 1, 1) := by decide +kernel
theorem dX1_follow_118 : decode cX1_follow 118 = .ok (.getfield 216, 3) := by decide +kernel
theorem dX1_follow_121 : decode cX1_follow 121 = .ok (.ifCond .le 7, 3) := by decide +kernel
theorem dX1_follow_124 : decode cX1_follow 124 = .ok (.iconst 1, 1) := by decide +kernel
theorem dX1_follow_125 : decode cX1_follow 125 = .ok (.goto 4, 3) := by decide +kernel
theorem dX1_follow_128 : decode cX1_follow 128 = .ok (.iconst 0, 1) := by decide +kernel
theorem dX1_follow_129 : decode cX1_follow 129 = .ok (.ireturn, 1) := by decide +kernel
theorem dX1_draw_0 : decode cX1_draw 0 = .ok (.aload_n 0, 1) := by decide +kernel
theorem dX1_draw_1 : decode cX1_draw 1 = .ok (.getfield 23, 3) := by decide +kernel
theorem dX1_draw_4 : decode cX1_draw 4 = .ok (.bipush (-4), 2) := by decide +kernel
theorem dX1_draw_6 : decode cX1_draw 6 = .ok (.invokevirtual 210, 3) := by decide +kernel
theorem dX1_draw_9 : decode cX1_draw 9 = .ok (.istore_n 3, 1) := by decide +kernel
theorem dX1_draw_10 : decode cX1_draw 10 = .ok (.iload_n 1, 1) := by decide +kernel
theorem dX1_draw_11 : decode cX1_draw 11 = .ok (.istore 4, 2) := by decide +kernel
theorem dX1_draw_13 : decode cX1_draw 13 = .ok (.aload_n 0, 1) := by decide +kernel
theorem dX1_draw_14 : decode cX1_draw 14 = .ok (.invokevirtual 227, 3) := by decide +kernel
theorem dX1_draw_17 : decode cX1_draw 17 = .ok (.aload_n 0, 1) := by decide +kernel
theorem dX1_draw_18 : decode cX1_draw 18 = .ok (.aload_n 0, 1) := by decide +kernel
theorem dX1_draw_19 : decode cX1_draw 19 = .ok (.getfield 12, 3) := by decide +kernel
theorem dX1_draw_22 : decode cX1_draw 22 = .ok (.getfield 159, 3) := by decide +kernel
theorem dX1_draw_25 : decode cX1_draw 25 = .ok (.invokevirtual 162, 3) := by decide +kernel
theorem dX1_draw_28 : decode cX1_draw 28 = .ok (.iconst 0, 1) := by decide +kernel
theorem dX1_draw_29 : decode cX1_draw 29 = .ok (.istore 5, 2) := by decide +kernel
theorem dX1_draw_31 : decode cX1_draw 31 = .ok (.iload 5, 2) := by decide +kernel
theorem dX1_draw_33 : decode cX1_draw 33 = .ok (.iload_n 2, 1) := by decide +kernel
theorem dX1_draw_34 : decode cX1_draw 34 = .ok (.if_icmp .ge 95, 3) := by decide +kernel
theorem dX1_draw_37 : decode cX1_draw 37 = .ok (.aload_n 0, 1) := by decide +kernel
theorem dX1_draw_38 : decode cX1_draw 38 = .ok (.getfield 230, 3) := by decide +kernel
theorem dX1_draw_41 : decode cX1_draw 41 = .ok (.ifCond .le 88, 3) := by decide +kernel
theorem dX1_draw_44 : decode cX1_draw 44 = .ok (.iload 4, 2) := by decide +kernel
theorem dX1_draw_46 : decode cX1_draw 46 = .ok (.ldc 233, 2) := by decide +kernel
theorem dX1_draw_48 : decode cX1_draw 48 = .ok (.imul, 1) := by decide +kernel
theorem dX1_draw_49 : decode cX1_draw 49 = .ok (.sipush 12345, 3) := by decide +kernel
theorem dX1_draw_52 : decode cX1_draw 52 = .ok (.iadd, 1) := by decide +kernel
theorem dX1_draw_53 : decode cX1_draw 53 = .ok (.istore 4, 2) := by decide +kernel
theorem dX1_draw_55 : decode cX1_draw 55 = .ok (.aload_n 0, 1) := by decide +kernel
theorem dX1_draw_56 : decode cX1_draw 56 = .ok (.aload_n 0, 1) := by decide +kernel
theorem dX1_draw_57 : decode cX1_draw 57 = .ok (.getfield 52, 3) := by decide +kernel
theorem dX1_draw_60 : decode cX1_draw 60 = .ok (.iload 4, 2) := by decide +kernel
theorem dX1_draw_62 : decode cX1_draw 62 = .ok (.bipush 9, 2) := by decide +kernel
theorem dX1_draw_64 : decode cX1_draw 64 = .ok (.iushr, 1) := by decide +kernel
theorem dX1_draw_65 : decode cX1_draw 65 = .ok (.aload_n 0, 1) := by decide +kernel
theorem dX1_draw_66 : decode cX1_draw 66 = .ok (.getfield 230, 3) := by decide +kernel
theorem dX1_draw_69 : decode cX1_draw 69 = .ok (.irem, 1) := by decide +kernel
theorem dX1_draw_70 : decode cX1_draw 70 = .ok (.iaload, 1) := by decide +kernel
theorem dX1_draw_71 : decode cX1_draw 71 = .ok (.invokevirtual 234, 3) := by decide +kernel
theorem dX1_draw_74 : decode cX1_draw 74 = .ok (.istore 6, 2) := by decide +kernel
theorem dX1_draw_76 : decode cX1_draw 76 = .ok (.aload_n 0, 1) := by decide +kernel
theorem dX1_draw_77 : decode cX1_draw 77 = .ok (.getfield 12, 3) := by decide +kernel
theorem dX1_draw_80 : decode cX1_draw 80 = .ok (.invokevirtual 173, 3) := by decide +kernel
theorem dX1_draw_83 : decode cX1_draw 83 = .ok (.iload 6, 2) := by decide +kernel
theorem dX1_draw_85 : decode cX1_draw 85 = .ok (.iconst (-1), 1) := by decide +kernel
theorem dX1_draw_86 : decode cX1_draw 86 = .ok (.if_icmp .eq 16, 3) := by decide +kernel
theorem dX1_draw_89 : decode cX1_draw 89 = .ok (.aload_n 0, 1) := by decide +kernel
theorem dX1_draw_90 : decode cX1_draw 90 = .ok (.getfield 12, 3) := by decide +kernel
theorem dX1_draw_93 : decode cX1_draw 93 = .ok (.iload 6, 2) := by decide +kernel
theorem dX1_draw_95 : decode cX1_draw 95 = .ok (.invokevirtual 170, 3) := by decide +kernel
theorem dX1_draw_98 : decode cX1_draw 98 = .ok (.aload_n 0, 1) := by decide +kernel
theorem dX1_draw_99 : decode cX1_draw 99 = .ok (.invokevirtual 227, 3) := by decide +kernel
theorem dX1_draw_102 : decode cX1_draw 102 = .ok (.iload 6, 2) := by decide +kernel
theorem dX1_draw_104 : decode cX1_draw 104 = .ok (.iconst (-1), 1) := by decide +kernel
theorem dX1_draw_105 : decode cX1_draw 105 = .ok (.if_icmp .ne 7, 3) := by decide +kernel
theorem dX1_draw_108 : decode cX1_draw 108 = .ok (.iload_n 3, 1) := by decide +kernel
theorem dX1_draw_109 : decode cX1_draw 109 = .ok (.ifCond .eq 14, 3) := by decide +kernel
theorem dX1_draw_112 : decode cX1_draw 112 = .ok (.aload_n 0, 1) := by decide +kernel
theorem dX1_draw_113 : decode cX1_draw 113 = .ok (.aload_n 0, 1) := by decide +kernel
theorem dX1_draw_114 : decode cX1_draw 114 = .ok (.getfield 12, 3) := by decide +kernel
theorem dX1_draw_117 : decode cX1_draw 117 = .ok (.getfield 159, 3) := by decide +kernel
theorem dX1_draw_120 : decode cX1_draw 120 = .ok (.invokevirtual 162, 3) := by decide +kernel
theorem dX1_draw_123 : decode cX1_draw 123 = .ok (.iinc 5 1, 3) := by decide +kernel
theorem dX1_draw_126 : decode cX1_draw 126 = .ok (.goto (-95), 3) := by decide +kernel
theorem dX1_draw_129 : decode cX1_draw 129 = .ok (.aload_n 0, 1) := by decide +kernel
theorem dX1_draw_130 : decode cX1_draw 130 = .ok (.getfield 12, 3) := by decide +kernel
theorem dX1_draw_133 : decode cX1_draw 133 = .ok (.getfield 159, 3) := by decide +kernel
theorem dX1_draw_136 : decode cX1_draw 136 = .ok (.ireturn, 1) := by decide +kernel
theorem dX1_listMeetings_0 : decode cX1_listMeetings 0 = .ok (.aload_n 0, 1) := by decide +kernel
theorem dX1_listMeetings_1 : decode cX1_listMeetings 1 = .ok (.iconst 0, 1) := by decide +kernel
theorem dX1_listMeetings_2 : decode cX1_listMeetings 2 = .ok (.putfield 230, 3) := by decide +kernel
theorem dX1_listMeetings_5 : decode cX1_listMeetings 5 = .ok (.iconst 0, 1) := by decide +kernel
theorem dX1_listMeetings_6 : decode cX1_listMeetings 6 = .ok (.istore_n 1, 1) := by decide +kernel
theorem dX1_listMeetings_7 : decode cX1_listMeetings 7 = .ok (.iload_n 1, 1) := by decide +kernel
theorem dX1_listMeetings_8 : decode cX1_listMeetings 8 = .ok (.sipush 128, 3) := by decide +kernel
theorem dX1_listMeetings_11 : decode cX1_listMeetings 11 = .ok (.if_icmp .ge 68, 3) := by decide +kernel
theorem dX1_listMeetings_14 : decode cX1_listMeetings 14 = .ok (.iload_n 1, 1) := by decide +kernel
theorem dX1_listMeetings_15 : decode cX1_listMeetings 15 = .ok (.aload_n 0, 1) := by decide +kernel
theorem dX1_listMeetings_16 : decode cX1_listMeetings 16 = .ok (.getfield 12, 3) := by decide +kernel
theorem dX1_listMeetings_19 : decode cX1_listMeetings 19 = .ok (.getfield 159, 3) := by decide +kernel
theorem dX1_listMeetings_22 : decode cX1_listMeetings 22 = .ok (.iconst (-1), 1) := by decide +kernel
theorem dX1_listMeetings_23 : decode cX1_listMeetings 23 = .ok (.ixor, 1) := by decide +kernel
theorem dX1_listMeetings_24 : decode cX1_listMeetings 24 = .ok (.iand, 1) := by decide +kernel
theorem dX1_listMeetings_25 : decode cX1_listMeetings 25 = .ok (.ifCond .ne 48, 3) := by decide +kernel
theorem dX1_listMeetings_28 : decode cX1_listMeetings 28 = .ok (.iload_n 1, 1) := by decide +kernel
theorem dX1_listMeetings_29 : decode cX1_listMeetings 29 = .ok (.invokestatic 111, 3) := by decide +kernel
theorem dX1_listMeetings_32 : decode cX1_listMeetings 32 = .ok (.aload_n 0, 1) := by decide +kernel
theorem dX1_listMeetings_33 : decode cX1_listMeetings 33 = .ok (.getfield 12, 3) := by decide +kernel
theorem dX1_listMeetings_36 : decode cX1_listMeetings 36 = .ok (.getfield 140, 3) := by decide +kernel
theorem dX1_listMeetings_39 : decode cX1_listMeetings 39 = .ok (.iconst 1, 1) := by decide +kernel
theorem dX1_listMeetings_40 : decode cX1_listMeetings 40 = .ok (.iadd, 1) := by decide +kernel
theorem dX1_listMeetings_41 : decode cX1_listMeetings 41 = .ok (.if_icmp .ne 32, 3) := by decide +kernel
theorem dX1_listMeetings_44 : decode cX1_listMeetings 44 = .ok (.aload_n 0, 1) := by decide +kernel
theorem dX1_listMeetings_45 : decode cX1_listMeetings 45 = .ok (.getfield 230, 3) := by decide +kernel
theorem dX1_listMeetings_48 : decode cX1_listMeetings 48 = .ok (.bipush 35, 2) := by decide +kernel
theorem dX1_listMeetings_50 : decode cX1_listMeetings 50 = .ok (.if_icmp .ge 23, 3) := by decide +kernel
theorem dX1_listMeetings_53 : decode cX1_listMeetings 53 = .ok (.aload_n 0, 1) := by decide +kernel
theorem dX1_listMeetings_54 : decode cX1_listMeetings 54 = .ok (.getfield 52, 3) := by decide +kernel
theorem dX1_listMeetings_57 : decode cX1_listMeetings 57 = .ok (.aload_n 0, 1) := by decide +kernel
theorem dX1_listMeetings_58 : decode cX1_listMeetings 58 = .ok (.getfield 230, 3) := by decide +kernel
theorem dX1_listMeetings_61 : decode cX1_listMeetings 61 = .ok (.iload_n 1, 1) := by decide +kernel
theorem dX1_listMeetings_62 : decode cX1_listMeetings 62 = .ok (.iastore, 1) := by decide +kernel
theorem dX1_listMeetings_63 : decode cX1_listMeetings 63 = .ok (.aload_n 0, 1) := by decide +kernel
theorem dX1_listMeetings_64 : decode cX1_listMeetings 64 = .ok (.dup, 1) := by decide +kernel
theorem dX1_listMeetings_65 : decode cX1_listMeetings 65 = .ok (.getfield 230, 3) := by decide +kernel
theorem dX1_listMeetings_68 : decode cX1_listMeetings 68 = .ok (.iconst 1, 1) := by decide +kernel
theorem dX1_listMeetings_69 : decode cX1_listMeetings 69 = .ok (.iadd, 1) := by decide +kernel
theorem dX1_listMeetings_70 : decode cX1_listMeetings 70 = .ok (.putfield 230, 3) := by decide +kernel
theorem dX1_listMeetings_73 : decode cX1_listMeetings 73 = .ok (.iinc 1 1, 3) := by decide +kernel
theorem dX1_listMeetings_76 : decode cX1_listMeetings 76 = .ok (.goto (-69), 3) := by decide +kernel
theorem dX1_listMeetings_79 : decode cX1_listMeetings 79 = .ok (.return_, 1) := by decide +kernel
theorem dX1_loserOf_0 : decode cX1_loserOf 0 = .ok (.bipush 6, 2) := by decide +kernel
theorem dX1_loserOf_2 : decode cX1_loserOf 2 = .ok (.istore_n 2, 1) := by decide +kernel
theorem dX1_loserOf_3 : decode cX1_loserOf 3 = .ok (.iload_n 2, 1) := by decide +kernel
theorem dX1_loserOf_4 : decode cX1_loserOf 4 = .ok (.ifCond .lt 35, 3) := by decide +kernel
theorem dX1_loserOf_7 : decode cX1_loserOf 7 = .ok (.iload_n 1, 1) := by decide +kernel
theorem dX1_loserOf_8 : decode cX1_loserOf 8 = .ok (.iload_n 2, 1) := by decide +kernel
theorem dX1_loserOf_9 : decode cX1_loserOf 9 = .ok (.invokestatic 91, 3) := by decide +kernel
theorem dX1_loserOf_12 : decode cX1_loserOf 12 = .ok (.ifCond .eq 21, 3) := by decide +kernel
theorem dX1_loserOf_15 : decode cX1_loserOf 15 = .ok (.aload_n 0, 1) := by decide +kernel
theorem dX1_loserOf_16 : decode cX1_loserOf 16 = .ok (.iload_n 1, 1) := by decide +kernel
theorem dX1_loserOf_17 : decode cX1_loserOf 17 = .ok (.iload_n 2, 1) := by decide +kernel
theorem dX1_loserOf_18 : decode cX1_loserOf 18 = .ok (.invokestatic 129, 3) := by decide +kernel
theorem dX1_loserOf_21 : decode cX1_loserOf 21 = .ok (.iconst (-1), 1) := by decide +kernel
theorem dX1_loserOf_22 : decode cX1_loserOf 22 = .ok (.ixor, 1) := by decide +kernel
theorem dX1_loserOf_23 : decode cX1_loserOf 23 = .ok (.iand, 1) := by decide +kernel
theorem dX1_loserOf_24 : decode cX1_loserOf 24 = .ok (.iload_n 2, 1) := by decide +kernel
theorem dX1_loserOf_25 : decode cX1_loserOf 25 = .ok (.invokevirtual 237, 3) := by decide +kernel
theorem dX1_loserOf_28 : decode cX1_loserOf 28 = .ok (.ifCond .eq 5, 3) := by decide +kernel
theorem dX1_loserOf_31 : decode cX1_loserOf 31 = .ok (.iload_n 2, 1) := by decide +kernel
theorem dX1_loserOf_32 : decode cX1_loserOf 32 = .ok (.ireturn, 1) := by decide +kernel
theorem dX1_loserOf_33 : decode cX1_loserOf 33 = .ok (.iinc 2 (-1), 3) := by decide +kernel
theorem dX1_loserOf_36 : decode cX1_loserOf 36 = .ok (.goto (-33), 3) := by decide +kernel
theorem dX1_loserOf_39 : decode cX1_loserOf 39 = .ok (.iconst (-1), 1) := by decide +kernel
theorem dX1_loserOf_40 : decode cX1_loserOf 40 = .ok (.ireturn, 1) := by decide +kernel
theorem dX2_init_0 : decode cX2_init 0 = .ok (.aload_n 0, 1) := by decide +kernel
theorem dX2_init_1 : decode cX2_init 1 = .ok (.invokespecial 3, 3) := by decide +kernel
theorem dX2_init_4 : decode cX2_init 4 = .ok (.aload_n 0, 1) := by decide +kernel
theorem dX2_init_5 : decode cX2_init 5 = .ok (.sipush 160, 3) := by decide +kernel
theorem dX2_init_8 : decode cX2_init 8 = .ok (.newarray .int, 2) := by decide +kernel
theorem dX2_init_10 : decode cX2_init 10 = .ok (.putfield 9, 3) := by decide +kernel
theorem dX2_init_13 : decode cX2_init 13 = .ok (.aload_n 0, 1) := by decide +kernel
theorem dX2_init_14 : decode cX2_init 14 = .ok (.sipush 160, 3) := by decide +kernel
theorem dX2_init_17 : decode cX2_init 17 = .ok (.newarray .int, 2) := by decide +kernel
theorem dX2_init_19 : decode cX2_init 19 = .ok (.putfield 15, 3) := by decide +kernel
theorem dX2_init_22 : decode cX2_init 22 = .ok (.aload_n 0, 1) := by decide +kernel
theorem dX2_init_23 : decode cX2_init 23 = .ok (.sipush 160, 3) := by decide +kernel
theorem dX2_init_26 : decode cX2_init 26 = .ok (.newarray .int, 2) := by decide +kernel
theorem dX2_init_28 : decode cX2_init 28 = .ok (.putfield 18, 3) := by decide +kernel
theorem dX2_init_31 : decode cX2_init 31 = .ok (.aload_n 0, 1) := by decide +kernel
theorem dX2_init_32 : decode cX2_init 32 = .ok (.sipush 160, 3) := by decide +kernel
theorem dX2_init_35 : decode cX2_init 35 = .ok (.newarray .int, 2) := by decide +kernel
theorem dX2_init_37 : decode cX2_init 37 = .ok (.putfield 21, 3) := by decide +kernel
theorem dX2_init_40 : decode cX2_init 40 = .ok (.return_, 1) := by decide +kernel
theorem dX2_put_0 : decode cX2_put 0 = .ok (.aload_n 0, 1) := by decide +kernel
theorem dX2_put_1 : decode cX2_put 1 = .ok (.getfield 24, 3) := by decide +kernel
theorem dX2_put_4 : decode cX2_put 4 = .ok (.sipush 160, 3) := by decide +kernel
theorem dX2_put_7 : decode cX2_put 7 = .ok (.if_icmp .ge 23, 3) := by decide +kernel
theorem dX2_put_10 : decode cX2_put 10 = .ok (.aload_n 0, 1) := by decide +kernel
theorem dX2_put_11 : decode cX2_put 11 = .ok (.getfield 9, 3) := by decide +kernel
theorem dX2_put_14 : decode cX2_put 14 = .ok (.aload_n 0, 1) := by decide +kernel
theorem dX2_put_15 : decode cX2_put 15 = .ok (.getfield 24, 3) := by decide +kernel
theorem dX2_put_18 : decode cX2_put 18 = .ok (.iload_n 1, 1) := by decide +kernel
theorem dX2_put_19 : decode cX2_put 19 = .ok (.iastore, 1) := by decide +kernel
theorem dX2_put_20 : decode cX2_put 20 = .ok (.aload_n 0, 1) := by decide +kernel
theorem dX2_put_21 : decode cX2_put 21 = .ok (.dup, 1) := by decide +kernel
theorem dX2_put_22 : decode cX2_put 22 = .ok (.getfield 24, 3) := by decide +kernel
theorem dX2_put_25 : decode cX2_put 25 = .ok (.iconst 1, 1) := by decide +kernel
theorem dX2_put_26 : decode cX2_put 26 = .ok (.iadd, 1) := by decide +kernel
theorem dX2_put_27 : decode cX2_put 27 = .ok (.putfield 24, 3) := by decide +kernel
theorem dX2_put_30 : decode cX2_put 30 = .ok (.return_, 1) := by decide +kernel
theorem dX2_clear_0 : decode cX2_clear 0 = .ok (.aload_n 0, 1) := by decide +kernel
theorem dX2_clear_1 : decode cX2_clear 1 = .ok (.iconst 0, 1) := by decide +kernel
theorem dX2_clear_2 : decode cX2_clear 2 = .ok (.putfield 24, 3) := by decide +kernel
theorem dX2_clear_5 : decode cX2_clear 5 = .ok (.return_, 1) := by decide +kernel
theorem dX2_place_0 : decode cX2_place 0 = .ok (.aload_n 0, 1) := by decide +kernel
theorem dX2_place_1 : decode cX2_place 1 = .ok (.getfield 28, 3) := by decide +kernel
theorem dX2_place_4 : decode cX2_place 4 = .ok (.aload_n 0, 1) := by decide +kernel
theorem dX2_place_5 : decode cX2_place 5 = .ok (.getfield 31, 3) := by decide +kernel
theorem dX2_place_8 : decode cX2_place 8 = .ok (.if_icmp .ge 15, 3) := by decide +kernel
theorem dX2_place_11 : decode cX2_place 11 = .ok (.aload_n 0, 1) := by decide +kernel
theorem dX2_place_12 : decode cX2_place 12 = .ok (.getfield 18, 3) := by decide +kernel
theorem dX2_place_15 : decode cX2_place 15 = .ok (.aload_n 0, 1) := by decide +kernel
theorem dX2_place_16 : decode cX2_place 16 = .ok (.getfield 28, 3) := by decide +kernel
theorem dX2_place_19 : decode cX2_place 19 = .ok (.iaload, 1) := by decide +kernel
theorem dX2_place_20 : decode cX2_place 20 = .ok (.goto 7, 3) := by decide +kernel
theorem dX2_place_23 : decode cX2_place 23 = .ok (.aload_n 0, 1) := by decide +kernel
theorem dX2_place_24 : decode cX2_place 24 = .ok (.getfield 24, 3) := by decide +kernel
theorem dX2_place_27 : decode cX2_place 27 = .ok (.ireturn, 1) := by decide +kernel
theorem dX2_compile_0 : decode cX2_compile 0 = .ok (.aload_n 0, 1) := by decide +kernel
theorem dX2_compile_1 : decode cX2_compile 1 = .ok (.invokevirtual 34, 3) := by decide +kernel
theorem dX2_compile_4 : decode cX2_compile 4 = .ok (.aload_n 0, 1) := by decide +kernel
theorem dX2_compile_5 : decode cX2_compile 5 = .ok (.iconst 0, 1) := by decide +kernel
theorem dX2_compile_6 : decode cX2_compile 6 = .ok (.putfield 28, 3) := by decide +kernel
theorem dX2_compile_9 : decode cX2_compile 9 = .ok (.aload_n 0, 1) := by decide +kernel
theorem dX2_compile_10 : decode cX2_compile 10 = .ok (.iconst 0, 1) := by decide +kernel
theorem dX2_compile_11 : decode cX2_compile 11 = .ok (.putfield 37, 3) := by decide +kernel
theorem dX2_compile_14 : decode cX2_compile 14 = .ok (.aload_n 0, 1) := by decide +kernel
theorem dX2_compile_15 : decode cX2_compile 15 = .ok (.bipush (-19), 2) := by decide +kernel
theorem dX2_compile_17 : decode cX2_compile 17 = .ok (.invokevirtual 40, 3) := by decide +kernel
theorem dX2_compile_20 : decode cX2_compile 20 = .ok (.ifCond .ne 5, 3) := by decide +kernel
theorem dX2_compile_23 : decode cX2_compile 23 = .ok (.aconst_null, 1) := by decide +kernel
theorem dX2_compile_24 : decode cX2_compile 24 = .ok (.areturn, 1) := by decide +kernel
theorem dX2_compile_25 : decode cX2_compile 25 = .ok (.aload_n 0, 1) := by decide +kernel
theorem dX2_compile_26 : decode cX2_compile 26 = .ok (.getfield 37, 3) := by decide +kernel
theorem dX2_compile_29 : decode cX2_compile 29 = .ok (.istore_n 1, 1) := by decide +kernel
theorem dX2_compile_30 : decode cX2_compile 30 = .ok (.aload_n 0, 1) := by decide +kernel
theorem dX2_compile_31 : decode cX2_compile 31 = .ok (.bipush (-20), 2) := by decide +kernel
theorem dX2_compile_33 : decode cX2_compile 33 = .ok (.invokevirtual 40, 3) := by decide +kernel
theorem dX2_compile_36 : decode cX2_compile 36 = .ok (.ifCond .ne 5, 3) := by decide +kernel
theorem dX2_compile_39 : decode cX2_compile 39 = .ok (.aconst_null, 1) := by decide +kernel
theorem dX2_compile_40 : decode cX2_compile 40 = .ok (.areturn, 1) := by decide +kernel
theorem dX2_compile_41 : decode cX2_compile 41 = .ok (.aload_n 0, 1) := by decide +kernel
theorem dX2_compile_42 : decode cX2_compile 42 = .ok (.getfield 37, 3) := by decide +kernel
theorem dX2_compile_45 : decode cX2_compile 45 = .ok (.istore_n 2, 1) := by decide +kernel
theorem dX2_compile_46 : decode cX2_compile 46 = .ok (.aload_n 0, 1) := by decide +kernel
theorem dX2_compile_47 : decode cX2_compile 47 = .ok (.bipush (-21), 2) := by decide +kernel
theorem dX2_compile_49 : decode cX2_compile 49 = .ok (.invokevirtual 40, 3) := by decide +kernel
theorem dX2_compile_52 : decode cX2_compile 52 = .ok (.ifCond .eq 12, 3) := by decide +kernel
theorem dX2_compile_55 : decode cX2_compile 55 = .ok (.aload_n 0, 1) := by decide +kernel
theorem dX2_compile_56 : decode cX2_compile 56 = .ok (.invokevirtual 44, 3) := by decide +kernel
theorem dX2_compile_59 : decode cX2_compile 59 = .ok (.bipush (-22), 2) := by decide +kernel
theorem dX2_compile_61 : decode cX2_compile 61 = .ok (.if_icmp .eq 5, 3) := by decide +kernel
theorem dX2_compile_64 : decode cX2_compile 64 = .ok (.aconst_null, 1) := by decide +kernel
theorem dX2_compile_65 : decode cX2_compile 65 = .ok (.areturn, 1) := by decide +kernel
theorem dX2_compile_66 : decode cX2_compile 66 = .ok (.new 48, 3) := by decide +kernel
theorem dX2_compile_69 : decode cX2_compile 69 = .ok (.dup, 1) := by decide +kernel
theorem dX2_compile_70 : decode cX2_compile 70 = .ok (.aload_n 0, 1) := by decide +kernel
theorem dX2_compile_71 : decode cX2_compile 71 = .ok (.getfield 21, 3) := by decide +kernel
theorem dX2_compile_74 : decode cX2_compile 74 = .ok (.aload_n 0, 1) := by decide +kernel
theorem dX2_compile_75 : decode cX2_compile 75 = .ok (.getfield 37, 3) := by decide +kernel
theorem dX2_compile_78 : decode cX2_compile 78 = .ok (.invokestatic 50, 3) := by decide +kernel
theorem dX2_compile_81 : decode cX2_compile 81 = .ok (.iload_n 1, 1) := by decide +kernel
theorem dX2_compile_82 : decode cX2_compile 82 = .ok (.iload_n 2, 1) := by decide +kernel
theorem dX2_compile_83 : decode cX2_compile 83 = .ok (.invokespecial 56, 3) := by decide +kernel
theorem dX2_compile_86 : decode cX2_compile 86 = .ok (.areturn, 1) := by decide +kernel
theorem dX2_split_0 : decode cX2_split 0 = .ok (.aload_n 0, 1) := by decide +kernel
theorem dX2_split_1 : decode cX2_split 1 = .ok (.iconst 0, 1) := by decide +kernel
theorem dX2_split_2 : decode cX2_split 2 = .ok (.putfield 31, 3) := by decide +kernel
theorem dX2_split_5 : decode cX2_split 5 = .ok (.iconst 0, 1) := by decide +kernel
theorem dX2_split_6 : decode cX2_split 6 = .ok (.istore_n 1, 1) := by decide +kernel
theorem dX2_split_7 : decode cX2_split 7 = .ok (.iload_n 1, 1) := by decide +kernel
theorem dX2_split_8 : decode cX2_split 8 = .ok (.aload_n 0, 1) := by decide +kernel
theorem dX2_split_9 : decode cX2_split 9 = .ok (.getfield 24, 3) := by decide +kernel
theorem dX2_split_12 : decode cX2_split 12 = .ok (.if_icmp .ge 76, 3) := by decide +kernel
theorem dX2_split_15 : decode cX2_split 15 = .ok (.aload_n 0, 1) := by decide +kernel
theorem dX2_split_16 : decode cX2_split 16 = .ok (.getfield 9, 3) := by decide +kernel
theorem dX2_split_19 : decode cX2_split 19 = .ok (.iload_n 1, 1) := by decide +kernel
theorem dX2_split_20 : decode cX2_split 20 = .ok (.iaload, 1) := by decide +kernel
theorem dX2_split_21 : decode cX2_split 21 = .ok (.bipush 32, 2) := by decide +kernel
theorem dX2_split_23 : decode cX2_split 23 = .ok (.if_icmp .eq 59, 3) := by decide +kernel
theorem dX2_split_26 : decode cX2_split 26 = .ok (.aload_n 0, 1) := by decide +kernel
theorem dX2_split_27 : decode cX2_split 27 = .ok (.getfield 9, 3) := by decide +kernel
theorem dX2_split_30 : decode cX2_split 30 = .ok (.iload_n 1, 1) := by decide +kernel
theorem dX2_split_31 : decode cX2_split 31 = .ok (.iaload, 1) := by decide +kernel
theorem dX2_split_32 : decode cX2_split 32 = .ok (.bipush 10, 2) := by decide +kernel
theorem dX2_split_34 : decode cX2_split 34 = .ok (.if_icmp .eq 48, 3) := by decide +kernel
theorem dX2_split_37 : decode cX2_split 37 = .ok (.aload_n 0, 1) := by decide +kernel
theorem dX2_split_38 : decode cX2_split 38 = .ok (.iload_n 1, 1) := by decide +kernel
theorem dX2_split_39 : decode cX2_split 39 = .ok (.invokevirtual 59, 3) := by decide +kernel
theorem dX2_split_42 : decode cX2_split 42 = .ok (.istore_n 2, 1) := by decide +kernel
theorem dX2_split_43 : decode cX2_split 43 = .ok (.aload_n 0, 1) := by decide +kernel
theorem dX2_split_44 : decode cX2_split 44 = .ok (.getfield 15, 3) := by decide +kernel
theorem dX2_split_47 : decode cX2_split 47 = .ok (.aload_n 0, 1) := by decide +kernel
theorem dX2_split_48 : decode cX2_split 48 = .ok (.getfield 31, 3) := by decide +kernel
theorem dX2_split_51 : decode cX2_split 51 = .ok (.aload_n 0, 1) := by decide +kernel
theorem dX2_split_52 : decode cX2_split 52 = .ok (.iload_n 1, 1) := by decide +kernel
theorem dX2_split_53 : decode cX2_split 53 = .ok (.iload_n 2, 1) := by decide +kernel
theorem dX2_split_54 : decode cX2_split 54 = .ok (.invokevirtual 63, 3) := by decide +kernel
theorem dX2_split_57 : decode cX2_split 57 = .ok (.iastore, 1) := by decide +kernel
theorem dX2_split_58 : decode cX2_split 58 = .ok (.aload_n 0, 1) := by decide +kernel
theorem dX2_split_59 : decode cX2_split 59 = .ok (.getfield 18, 3) := by decide +kernel
theorem dX2_split_62 : decode cX2_split 62 = .ok (.aload_n 0, 1) := by decide +kernel
theorem dX2_split_63 : decode cX2_split 63 = .ok (.getfield 31, 3) := by decide +kernel
theorem dX2_split_66 : decode cX2_split 66 = .ok (.iload_n 1, 1) := by decide +kernel
theorem dX2_split_67 : decode cX2_split 67 = .ok (.iastore, 1) := by decide +kernel
theorem dX2_split_68 : decode cX2_split 68 = .ok (.aload_n 0, 1) := by decide +kernel
theorem dX2_split_69 : decode cX2_split 69 = .ok (.dup, 1) := by decide +kernel
theorem dX2_split_70 : decode cX2_split 70 = .ok (.getfield 31, 3) := by decide +kernel
theorem dX2_split_73 : decode cX2_split 73 = .ok (.iconst 1, 1) := by decide +kernel
theorem dX2_split_74 : decode cX2_split 74 = .ok (.iadd, 1) := by decide +kernel
theorem dX2_split_75 : decode cX2_split 75 = .ok (.putfield 31, 3) := by decide +kernel
theorem dX2_split_78 : decode cX2_split 78 = .ok (.iload_n 2, 1) := by decide +kernel
theorem dX2_split_79 : decode cX2_split 79 = .ok (.iconst 1, 1) := by decide +kernel
theorem dX2_split_80 : decode cX2_split 80 = .ok (.isub, 1) := by decide +kernel
theorem dX2_split_81 : decode cX2_split 81 = .ok (.istore_n 1, 1) := by decide +kernel
theorem dX2_split_82 : decode cX2_split 82 = .ok (.iinc 1 1, 3) := by decide +kernel
theorem dX2_split_85 : decode cX2_split 85 = .ok (.goto (-78), 3) := by decide +kernel
theorem dX2_split_88 : decode cX2_split 88 = .ok (.return_, 1) := by decide +kernel
theorem dX2_behind_0 : decode cX2_behind 0 = .ok (.iload_n 1, 1) := by decide +kernel
theorem dX2_behind_1 : decode cX2_behind 1 = .ok (.iconst 1, 1) := by decide +kernel
theorem dX2_behind_2 : decode cX2_behind 2 = .ok (.iadd, 1) := by decide +kernel
theorem dX2_behind_3 : decode cX2_behind 3 = .ok (.istore_n 2, 1) := by decide +kernel
theorem dX2_behind_4 : decode cX2_behind 4 = .ok (.aload_n 0, 1) := by decide +kernel
theorem dX2_behind_5 : decode cX2_behind 5 = .ok (.getfield 9, 3) := by decide +kernel
theorem dX2_behind_8 : decode cX2_behind 8 = .ok (.iload_n 1, 1) := by decide +kernel
theorem dX2_behind_9 : decode cX2_behind 9 = .ok (.iaload, 1) := by decide +kernel
theorem dX2_behind_10 : decode cX2_behind 10 = .ok (.invokestatic 67, 3) := by decide +kernel
theorem dX2_behind_13 : decode cX2_behind 13 = .ok (.ifCond .eq 29, 3) := by decide +kernel
theorem dX2_behind_16 : decode cX2_behind 16 = .ok (.iload_n 2, 1) := by decide +kernel
theorem dX2_behind_17 : decode cX2_behind 17 = .ok (.aload_n 0, 1) := by decide +kernel
theorem dX2_behind_18 : decode cX2_behind 18 = .ok (.getfield 24, 3) := by decide +kernel
theorem dX2_behind_21 : decode cX2_behind 21 = .ok (.if_icmp .ge 59, 3) := by decide +kernel
theorem dX2_behind_24 : decode cX2_behind 24 = .ok (.aload_n 0, 1) := by decide +kernel
theorem dX2_behind_25 : decode cX2_behind 25 = .ok (.getfield 9, 3) := by decide +kernel
theorem dX2_behind_28 : decode cX2_behind 28 = .ok (.iload_n 2, 1) := by decide +kernel
theorem dX2_behind_29 : decode cX2_behind 29 = .ok (.iaload, 1) := by decide +kernel
theorem dX2_behind_30 : decode cX2_behind 30 = .ok (.invokestatic 67, 3) := by decide +kernel
theorem dX2_behind_33 : decode cX2_behind 33 = .ok (.ifCond .eq 47, 3) := by decide +kernel
theorem dX2_behind_36 : decode cX2_behind 36 = .ok (.iinc 2 1, 3) := by decide +kernel
theorem dX2_behind_39 : decode cX2_behind 39 = .ok (.goto (-23), 3) := by decide +kernel
theorem dX2_behind_42 : decode cX2_behind 42 = .ok (.aload_n 0, 1) := by decide +kernel
theorem dX2_behind_43 : decode cX2_behind 43 = .ok (.getfield 9, 3) := by decide +kernel
theorem dX2_behind_46 : decode cX2_behind 46 = .ok (.iload_n 1, 1) := by decide +kernel
theorem dX2_behind_47 : decode cX2_behind 47 = .ok (.iaload, 1) := by decide +kernel
theorem dX2_behind_48 : decode cX2_behind 48 = .ok (.invokestatic 70, 3) := by decide +kernel
theorem dX2_behind_51 : decode cX2_behind 51 = .ok (.ifCond .eq 29, 3) := by decide +kernel
theorem dX2_behind_54 : decode cX2_behind 54 = .ok (.iload_n 2, 1) := by decide +kernel
theorem dX2_behind_55 : decode cX2_behind 55 = .ok (.aload_n 0, 1) := by decide +kernel
theorem dX2_behind_56 : decode cX2_behind 56 = .ok (.getfield 24, 3) := by decide +kernel
theorem dX2_behind_59 : decode cX2_behind 59 = .ok (.if_icmp .ge 21, 3) := by decide +kernel
theorem dX2_behind_62 : decode cX2_behind 62 = .ok (.aload_n 0, 1) := by decide +kernel
theorem dX2_behind_63 : decode cX2_behind 63 = .ok (.getfield 9, 3) := by decide +kernel
theorem dX2_behind_66 : decode cX2_behind 66 = .ok (.iload_n 2, 1) := by decide +kernel
theorem dX2_behind_67 : decode cX2_behind 67 = .ok (.iaload, 1) := by decide +kernel
theorem dX2_behind_68 : decode cX2_behind 68 = .ok (.invokestatic 70, 3) := by decide +kernel
theorem dX2_behind_71 : decode cX2_behind 71 = .ok (.ifCond .eq 9, 3) := by decide +kernel
theorem dX2_behind_74 : decode cX2_behind 74 = .ok (.iinc 2 1, 3) := by decide +kernel
theorem dX2_behind_77 : decode cX2_behind 77 = .ok (.goto (-23), 3) := by decide +kernel
theorem dX2_behind_80 : decode cX2_behind 80 = .ok (.iload_n 2, 1) := by decide +kernel
theorem dX2_behind_81 : decode cX2_behind 81 = .ok (.ireturn, 1) := by decide +kernel
theorem dX2_tokenOf_0 : decode cX2_tokenOf 0 = .ok (.aload_n 0, 1) := by decide +kernel
theorem dX2_tokenOf_1 : decode cX2_tokenOf 1 = .ok (.getfield 9, 3) := by decide +kernel
theorem dX2_tokenOf_4 : decode cX2_tokenOf 4 = .ok (.iload_n 1, 1) := by decide +kernel
theorem dX2_tokenOf_5 : decode cX2_tokenOf 5 = .ok (.iaload, 1) := by decide +kernel
theorem dX2_tokenOf_6 : decode cX2_tokenOf 6 = .ok (.invokestatic 67, 3) := by decide +kernel
theorem dX2_tokenOf_9 : decode cX2_tokenOf 9 = .ok (.ifCond .eq 10, 3) := by decide +kernel
theorem dX2_tokenOf_12 : decode cX2_tokenOf 12 = .ok (.aload_n 0, 1) := by decide +kernel
theorem dX2_tokenOf_13 : decode cX2_tokenOf 13 = .ok (.iload_n 1, 1) := by decide +kernel
theorem dX2_tokenOf_14 : decode cX2_tokenOf 14 = .ok (.iload_n 2, 1) := by decide +kernel
theorem dX2_tokenOf_15 : decode cX2_tokenOf 15 = .ok (.invokevirtual 73, 3) := by decide +kernel
theorem dX2_tokenOf_18 : decode cX2_tokenOf 18 = .ok (.ireturn, 1) := by decide +kernel
theorem dX2_tokenOf_19 : decode cX2_tokenOf 19 = .ok (.aload_n 0, 1) := by decide +kernel
theorem dX2_tokenOf_20 : decode cX2_tokenOf 20 = .ok (.getfield 9, 3) := by decide +kernel
theorem dX2_tokenOf_23 : decode cX2_tokenOf 23 = .ok (.iload_n 1, 1) := by decide +kernel
theorem dX2_tokenOf_24 : decode cX2_tokenOf 24 = .ok (.iaload, 1) := by decide +kernel
theorem dX2_tokenOf_25 : decode cX2_tokenOf 25 = .ok (.invokestatic 70, 3) := by decide +kernel
theorem dX2_tokenOf_28 : decode cX2_tokenOf 28 = .ok (.ifCond .eq 12, 3) := by decide +kernel
theorem dX2_tokenOf_31 : decode cX2_tokenOf 31 = .ok (.aload_n 0, 1) := by decide +kernel
theorem dX2_tokenOf_32 : decode cX2_tokenOf 32 = .ok (.iload_n 1, 1) := by decide +kernel
theorem dX2_tokenOf_33 : decode cX2_tokenOf 33 = .ok (.iload_n 2, 1) := by decide +kernel
theorem dX2_tokenOf_34 : decode cX2_tokenOf 34 = .ok (.invokevirtual 76, 3) := by decide +kernel
theorem dX2_tokenOf_37 : decode cX2_tokenOf 37 = .ok (.goto 12, 3) := by decide +kernel
theorem dX2_tokenOf_40 : decode cX2_tokenOf 40 = .ok (.aload_n 0, 1) := by decide +kernel
theorem dX2_tokenOf_41 : decode cX2_tokenOf 41 = .ok (.getfield 9, 3) := by decide +kernel
theorem dX2_tokenOf_44 : decode cX2_tokenOf 44 = .ok (.iload_n 1, 1) := by decide +kernel
theorem dX2_tokenOf_45 : decode cX2_tokenOf 45 = .ok (.iaload, 1) := by decide +kernel
theorem dX2_tokenOf_46 : decode cX2_tokenOf 46 = .ok (.invokestatic 79, 3) := by decide +kernel
theorem dX2_tokenOf_49 : decode cX2_tokenOf 49 = .ok (.ireturn, 1) := by decide +kernel
theorem dX2_numberOf_0 : decode cX2_numberOf 0 = .ok (.iload_n 2, 1) := by decide +kernel
theorem dX2_numberOf_1 : decode cX2_numberOf 1 = .ok (.iload_n 1, 1) := by decide +kernel
theorem dX2_numberOf_2 : decode cX2_numberOf 2 = .ok (.isub, 1) := by decide +kernel
theorem dX2_numberOf_3 : decode cX2_numberOf 3 = .ok (.iconst 4, 1) := by decide +kernel
theorem dX2_numberOf_4 : decode cX2_numberOf 4 = .ok (.if_icmp .le 6, 3) := by decide +kernel
theorem dX2_numberOf_7 : decode cX2_numberOf 7 = .ok (.bipush (-23), 2) := by decide +kernel
theorem dX2_numberOf_9 : decode cX2_numberOf 9 = .ok (.ireturn, 1) := by decide +kernel
theorem dX2_numberOf_10 : decode cX2_numberOf 10 = .ok (.iconst 0, 1) := by decide +kernel
theorem dX2_numberOf_11 : decode cX2_numberOf 11 = .ok (.istore_n 3, 1) := by decide +kernel
theorem dX2_numberOf_12 : decode cX2_numberOf 12 = .ok (.iload_n 1, 1) := by decide +kernel
theorem dX2_numberOf_13 : decode cX2_numberOf 13 = .ok (.istore 4, 2) := by decide +kernel
theorem dX2_numberOf_15 : decode cX2_numberOf 15 = .ok (.iload 4, 2) := by decide +kernel
theorem dX2_numberOf_17 : decode cX2_numberOf 17 = .ok (.iload_n 2, 1) := by decide +kernel
theorem dX2_numberOf_18 : decode cX2_numberOf 18 = .ok (.if_icmp .ge 25, 3) := by decide +kernel
theorem dX2_numberOf_21 : decode cX2_numberOf 21 = .ok (.iload_n 3, 1) := by decide +kernel
theorem dX2_numberOf_22 : decode cX2_numberOf 22 = .ok (.bipush 10, 2) := by decide +kernel
theorem dX2_numberOf_24 : decode cX2_numberOf 24 = .ok (.imul, 1) := by decide +kernel
theorem dX2_numberOf_25 : decode cX2_numberOf 25 = .ok (.aload_n 0, 1) := by decide +kernel
theorem dX2_numberOf_26 : decode cX2_numberOf 26 = .ok (.getfield 9, 3) := by decide +kernel
theorem dX2_numberOf_29 : decode cX2_numberOf 29 = .ok (.iload 4, 2) := by decide +kernel
theorem dX2_numberOf_31 : decode cX2_numberOf 31 = .ok (.iaload, 1) := by decide +kernel
theorem dX2_numberOf_32 : decode cX2_numberOf 32 = .ok (.iadd, 1) := by decide +kernel
theorem dX2_numberOf_33 : decode cX2_numberOf 33 = .ok (.bipush 48, 2) := by decide +kernel
theorem dX2_numberOf_35 : decode cX2_numberOf 35 = .ok (.isub, 1) := by decide +kernel
theorem dX2_numberOf_36 : decode cX2_numberOf 36 = .ok (.istore_n 3, 1) := by decide +kernel
theorem dX2_numberOf_37 : decode cX2_numberOf 37 = .ok (.iinc 4 1, 3) := by decide +kernel
theorem dX2_numberOf_40 : decode cX2_numberOf 40 = .ok (.goto (-25), 3) := by decide +kernel
theorem dX2_numberOf_43 : decode cX2_numberOf 43 = .ok (.iload_n 3, 1) := by decide +kernel
theorem dX2_numberOf_44 : decode cX2_numberOf 44 = .ok (.ireturn, 1) := by decide +kernel
theorem dX2_wordOf_0 : decode cX2_wordOf 0 = .ok (.aload_n 0, 1) := by decide +kernel
theorem dX2_wordOf_1 : decode cX2_wordOf 1 = .ok (.ldc 82, 2) := by decide +kernel
theorem dX2_wordOf_3 : decode cX2_wordOf 3 = .ok (.iload_n 1, 1) := by decide +kernel
theorem dX2_wordOf_4 : decode cX2_wordOf 4 = .ok (.iload_n 2, 1) := by decide +kernel
theorem dX2_wordOf_5 : decode cX2_wordOf 5 = .ok (.invokevirtual 84, 3) := by decide +kernel
theorem dX2_wordOf_8 : decode cX2_wordOf 8 = .ok (.ifCond .eq 7, 3) := by decide +kernel
theorem dX2_wordOf_11 : decode cX2_wordOf 11 = .ok (.iconst (-1), 1) := by decide +kernel
theorem dX2_wordOf_12 : decode cX2_wordOf 12 = .ok (.goto 181, 3) := by decide +kernel
theorem dX2_wordOf_15 : decode cX2_wordOf 15 = .ok (.aload_n 0, 1) := by decide +kernel
theorem dX2_wordOf_16 : decode cX2_wordOf 16 = .ok (.ldc 88, 2) := by decide +kernel
theorem dX2_wordOf_18 : decode cX2_wordOf 18 = .ok (.iload_n 1, 1) := by decide +kernel
theorem dX2_wordOf_19 : decode cX2_wordOf 19 = .ok (.iload_n 2, 1) := by decide +kernel
theorem dX2_wordOf_20 : decode cX2_wordOf 20 = .ok (.invokevirtual 84, 3) := by decide +kernel
theorem dX2_wordOf_23 : decode cX2_wordOf 23 = .ok (.ifCond .eq 8, 3) := by decide +kernel
theorem dX2_wordOf_26 : decode cX2_wordOf 26 = .ok (.bipush (-2), 2) := by decide +kernel
theorem dX2_wordOf_28 : decode cX2_wordOf 28 = .ok (.goto 165, 3) := by decide +kernel
theorem dX2_wordOf_31 : decode cX2_wordOf 31 = .ok (.aload_n 0, 1) := by decide +kernel
theorem dX2_wordOf_32 : decode cX2_wordOf 32 = .ok (.ldc 90, 2) := by decide +kernel
theorem dX2_wordOf_34 : decode cX2_wordOf 34 = .ok (.iload_n 1, 1) := by decide +kernel
theorem dX2_wordOf_35 : decode cX2_wordOf 35 = .ok (.iload_n 2, 1) := by decide +kernel
theorem dX2_wordOf_36 : decode cX2_wordOf 36 = .ok (.invokevirtual 84, 3) := by decide +kernel
theorem dX2_wordOf_39 : decode cX2_wordOf 39 = .ok (.ifCond .eq 8, 3) := by decide +kernel
theorem dX2_wordOf_42 : decode cX2_wordOf 42 = .ok (.bipush (-3), 2) := by decide +kernel
theorem dX2_wordOf_44 : decode cX2_wordOf 44 = .ok (.goto 149, 3) := by decide +kernel
theorem dX2_wordOf_47 : decode cX2_wordOf 47 = .ok (.aload_n 0, 1) := by decide +kernel
theorem dX2_wordOf_48 : decode cX2_wordOf 48 = .ok (.ldc 92, 2) := by decide +kernel
theorem dX2_wordOf_50 : decode cX2_wordOf 50 = .ok (.iload_n 1, 1) := by decide +kernel
theorem dX2_wordOf_51 : decode cX2_wordOf 51 = .ok (.iload_n 2, 1) := by decide +kernel
theorem dX2_wordOf_52 : decode cX2_wordOf 52 = .ok (.invokevirtual 84, 3) := by decide +kernel
theorem dX2_wordOf_55 : decode cX2_wordOf 55 = .ok (.ifCond .eq 8, 3) := by decide +kernel
theorem dX2_wordOf_58 : decode cX2_wordOf 58 = .ok (.bipush (-4), 2) := by decide +kernel
theorem dX2_wordOf_60 : decode cX2_wordOf 60 = .ok (.goto 133, 3) := by decide +kernel
theorem dX2_wordOf_63 : decode cX2_wordOf 63 = .ok (.aload_n 0, 1) := by decide +kernel
theorem dX2_wordOf_64 : decode cX2_wordOf 64 = .ok (.ldc 94, 2) := by decide +kernel
theorem dX2_wordOf_66 : decode cX2_wordOf 66 = .ok (.iload_n 1, 1) := by decide +kernel
theorem dX2_wordOf_67 : decode cX2_wordOf 67 = .ok (.iload_n 2, 1) := by decide +kernel
theorem dX2_wordOf_68 : decode cX2_wordOf 68 = .ok (.invokevirtual 84, 3) := by decide +kernel
theorem dX2_wordOf_71 : decode cX2_wordOf 71 = .ok (.ifCond .eq 8, 3) := by decide +kernel
theorem dX2_wordOf_74 : decode cX2_wordOf 74 = .ok (.bipush (-5), 2) := by decide +kernel
theorem dX2_wordOf_76 : decode cX2_wordOf 76 = .ok (.goto 117, 3) := by decide +kernel
theorem dX2_wordOf_79 : decode cX2_wordOf 79 = .ok (.aload_n 0, 1) := by decide +kernel
theorem dX2_wordOf_80 : decode cX2_wordOf 80 = .ok (.ldc 96, 2) := by decide +kernel
theorem dX2_wordOf_82 : decode cX2_wordOf 82 = .ok (.iload_n 1, 1) := by decide +kernel
theorem dX2_wordOf_83 : decode cX2_wordOf 83 = .ok (.iload_n 2, 1) := by decide +kernel
theorem dX2_wordOf_84 : decode cX2_wordOf 84 = .ok (.invokevirtual 84, 3) := by decide +kernel
theorem dX2_wordOf_87 : decode cX2_wordOf 87 = .ok (.ifCond .eq 8, 3) := by decide +kernel
theorem dX2_wordOf_90 : decode cX2_wordOf 90 = .ok (.bipush (-6), 2) := by decide +kernel
theorem dX2_wordOf_92 : decode cX2_wordOf 92 = .ok (.goto 101, 3) := by decide +kernel
theorem dX2_wordOf_95 : decode cX2_wordOf 95 = .ok (.aload_n 0, 1) := by decide +kernel
theorem dX2_wordOf_96 : decode cX2_wordOf 96 = .ok (.ldc 98, 2) := by decide +kernel
theorem dX2_wordOf_98 : decode cX2_wordOf 98 = .ok (.iload_n 1, 1) := by decide +kernel
theorem dX2_wordOf_99 : decode cX2_wordOf 99 = .ok (.iload_n 2, 1) := by decide +kernel
theorem dX2_wordOf_100 : decode cX2_wordOf 100 = .ok (.invokevirtual 84, 3) := by decide +kernel
theorem dX2_wordOf_103 : decode cX2_wordOf 103 = .ok (.ifCond .eq 8, 3) := by decide +kernel
theorem dX2_wordOf_106 : decode cX2_wordOf 106 = .ok (.bipush (-7), 2) := by decide +kernel
theorem dX2_wordOf_108 : decode cX2_wordOf 108 = .ok (.goto 85, 3) := by decide +kernel
theorem dX2_wordOf_111 : decode cX2_wordOf 111 = .ok (.aload_n 0, 1) := by decide +kernel
theorem dX2_wordOf_112 : decode cX2_wordOf 112 = .ok (.ldc 100, 2) := by decide +kernel
theorem dX2_wordOf_114 : decode cX2_wordOf 114 = .ok (.iload_n 1, 1) := by decide +kernel
theorem dX2_wordOf_115 : decode cX2_wordOf 115 = .ok (.iload_n 2, 1) := by decide +kernel
theorem dX2_wordOf_116 : decode cX2_wordOf 116 = .ok (.invokevirtual 84, 3) := by decide +kernel
theorem dX2_wordOf_119 : decode cX2_wordOf 119 = .ok (.ifCond .eq 8, 3) := by decide +kernel
theorem dX2_wordOf_122 : decode cX2_wordOf 122 = .ok (.bipush (-8), 2) := by decide +kernel
theorem dX2_wordOf_124 : decode cX2_wordOf 124 = .ok (.goto 69, 3) := by decide +kernel
theorem dX2_wordOf_127 : decode cX2_wordOf 127 = .ok (.aload_n 0, 1) := by decide +kernel
theorem dX2_wordOf_128 : decode cX2_wordOf 128 = .ok (.ldc 102, 2) := by decide +kernel
theorem dX2_wordOf_130 : decode cX2_wordOf 130 = .ok (.iload_n 1, 1) := by decide +kernel
theorem dX2_wordOf_131 : decode cX2_wordOf 131 = .ok (.iload_n 2, 1) := by decide +kernel
theorem dX2_wordOf_132 : decode cX2_wordOf 132 = .ok (.invokevirtual 84, 3) := by decide +kernel
theorem dX2_wordOf_135 : decode cX2_wordOf 135 = .ok (.ifCond .eq 8, 3) := by decide +kernel
theorem dX2_wordOf_138 : decode cX2_wordOf 138 = .ok (.bipush (-9), 2) := by decide +kernel
theorem dX2_wordOf_140 : decode cX2_wordOf 140 = .ok (.goto 53, 3) := by decide +kernel
theorem dX2_wordOf_143 : decode cX2_wordOf 143 = .ok (.aload_n 0, 1) := by decide +kernel
theorem dX2_wordOf_144 : decode cX2_wordOf 144 = .ok (.ldc 104, 2) := by decide +kernel
theorem dX2_wordOf_146 : decode cX2_wordOf 146 = .ok (.iload_n 1, 1) := by decide +kernel
theorem dX2_wordOf_147 : decode cX2_wordOf 147 = .ok (.iload_n 2, 1) := by decide +kernel
theorem dX2_wordOf_148 : decode cX2_wordOf 148 = .ok (.invokevirtual 84, 3) := by decide +kernel
theorem dX2_wordOf_151 : decode cX2_wordOf 151 = .ok (.ifCond .eq 8, 3) := by decide +kernel
theorem dX2_wordOf_154 : decode cX2_wordOf 154 = .ok (.bipush (-19), 2) := by decide +kernel
theorem dX2_wordOf_156 : decode cX2_wordOf 156 = .ok (.goto 37, 3) := by decide +kernel
theorem dX2_wordOf_159 : decode cX2_wordOf 159 = .ok (.aload_n 0, 1) := by decide +kernel
theorem dX2_wordOf_160 : decode cX2_wordOf 160 = .ok (.ldc 106, 2) := by decide +kernel
theorem dX2_wordOf_162 : decode cX2_wordOf 162 = .ok (.iload_n 1, 1) := by decide +kernel
theorem dX2_wordOf_163 : decode cX2_wordOf 163 = .ok (.iload_n 2, 1) := by decide +kernel
theorem dX2_wordOf_164 : decode cX2_wordOf 164 = .ok (.invokevirtual 84, 3) := by decide +kernel
theorem dX2_wordOf_167 : decode cX2_wordOf 167 = .ok (.ifCond .eq 8, 3) := by decide +kernel
theorem dX2_wordOf_170 : decode cX2_wordOf 170 = .ok (.bipush (-20), 2) := by decide +kernel
theorem dX2_wordOf_172 : decode cX2_wordOf 172 = .ok (.goto 21, 3) := by decide +kernel
theorem dX2_wordOf_175 : decode cX2_wordOf 175 = .ok (.aload_n 0, 1) := by decide +kernel
theorem dX2_wordOf_176 : decode cX2_wordOf 176 = .ok (.ldc 108, 2) := by decide +kernel
theorem dX2_wordOf_178 : decode cX2_wordOf 178 = .ok (.iload_n 1, 1) := by decide +kernel
theorem dX2_wordOf_179 : decode cX2_wordOf 179 = .ok (.iload_n 2, 1) := by decide +kernel
theorem dX2_wordOf_180 : decode cX2_wordOf 180 = .ok (.invokevirtual 84, 3) := by decide +kernel
theorem dX2_wordOf_183 : decode cX2_wordOf 183 = .ok (.ifCond .eq 8, 3) := by decide +kernel
theorem dX2_wordOf_186 : decode cX2_wordOf 186 = .ok (.bipush (-21), 2) := by decide +kernel
theorem dX2_wordOf_188 : decode cX2_wordOf 188 = .ok (.goto 5, 3) := by decide +kernel
theorem dX2_wordOf_191 : decode cX2_wordOf 191 = .ok (.bipush (-23), 2) := by decide +kernel
theorem dX2_wordOf_193 : decode cX2_wordOf 193 = .ok (.ireturn, 1) := by decide +kernel
theorem dX2_spells_0 : decode cX2_spells 0 = .ok (.aload_n 1, 1) := by decide +kernel
theorem dX2_spells_1 : decode cX2_spells 1 = .ok (.invokevirtual 110, 3) := by decide +kernel
theorem dX2_spells_4 : decode cX2_spells 4 = .ok (.iload_n 3, 1) := by decide +kernel
theorem dX2_spells_5 : decode cX2_spells 5 = .ok (.iload_n 2, 1) := by decide +kernel
theorem dX2_spells_6 : decode cX2_spells 6 = .ok (.isub, 1) := by decide +kernel
theorem dX2_spells_7 : decode cX2_spells 7 = .ok (.if_icmp .eq 5, 3) := by decide +kernel
theorem dX2_spells_10 : decode cX2_spells 10 = .ok (.iconst 0, 1) := by decide +kernel
theorem dX2_spells_11 : decode cX2_spells 11 = .ok (.ireturn, 1) := by decide +kernel
theorem dX2_spells_12 : decode cX2_spells 12 = .ok (.iconst 0, 1) := by decide +kernel
theorem dX2_spells_13 : decode cX2_spells 13 = .ok (.istore 4, 2) := by decide +kernel
theorem dX2_spells_15 : decode cX2_spells 15 = .ok (.iload 4, 2) := by decide +kernel
theorem dX2_spells_17 : decode cX2_spells 17 = .ok (.aload_n 1, 1) := by decide +kernel
theorem dX2_spells_18 : decode cX2_spells 18 = .ok (.invokevirtual 110, 3) := by decide +kernel
theorem dX2_spells_21 : decode cX2_spells 21 = .ok (.if_icmp .ge 29, 3) := by decide +kernel
theorem dX2_spells_24 : decode cX2_spells 24 = .ok (.aload_n 1, 1) := by decide +kernel
theorem dX2_spells_25 : decode cX2_spells 25 = .ok (.iload 4, 2) := by decide +kernel
theorem dX2_spells_27 : decode cX2_spells 27 = .ok (.invokevirtual 114, 3) := by decide +kernel
theorem dX2_spells_30 : decode cX2_spells 30 = .ok (.aload_n 0, 1) := by decide +kernel
theorem dX2_spells_31 : decode cX2_spells 31 = .ok (.getfield 9, 3) := by decide +kernel
theorem dX2_spells_34 : decode cX2_spells 34 = .ok (.iload_n 2, 1) := by decide +kernel
theorem dX2_spells_35 : decode cX2_spells 35 = .ok (.iload 4, 2) := by decide +kernel
theorem dX2_spells_37 : decode cX2_spells 37 = .ok (.iadd, 1) := by decide +kernel
theorem dX2_spells_38 : decode cX2_spells 38 = .ok (.iaload, 1) := by decide +kernel
theorem dX2_spells_39 : decode cX2_spells 39 = .ok (.if_icmp .eq 5, 3) := by decide +kernel
theorem dX2_spells_42 : decode cX2_spells 42 = .ok (.iconst 0, 1) := by decide +kernel
theorem dX2_spells_43 : decode cX2_spells 43 = .ok (.ireturn, 1) := by decide +kernel
theorem dX2_spells_44 : decode cX2_spells 44 = .ok (.iinc 4 1, 3) := by decide +kernel
theorem dX2_spells_47 : decode cX2_spells 47 = .ok (.goto (-32), 3) := by decide +kernel
theorem dX2_spells_50 : decode cX2_spells 50 = .ok (.iconst 1, 1) := by decide +kernel
theorem dX2_spells_51 : decode cX2_spells 51 = .ok (.ireturn, 1) := by decide +kernel
theorem dX2_signOf_0 : decode cX2_signOf 0 = .ok (.iload_n 0, 1) := by decide +kernel
theorem dX2_signOf_1 : decode cX2_signOf 1 = .ok (.tableswitch 127 40 61 #[103, 106, 118, 112, 127, 115, 127, 127, 127, 127, 127, 127, 127, 127, 127, 127, 127, 127, 127, 109, 121, 124], 103) := by decide +kernel
theorem dX2_signOf_104 : decode cX2_signOf 104 = .ok (.bipush (-16), 2) := by decide +kernel
theorem dX2_signOf_106 : decode cX2_signOf 106 = .ok (.ireturn, 1) := by decide +kernel
theorem dX2_signOf_107 : decode cX2_signOf 107 = .ok (.bipush (-17), 2) := by decide +kernel
theorem dX2_signOf_109 : decode cX2_signOf 109 = .ok (.ireturn, 1) := by decide +kernel
theorem dX2_signOf_110 : decode cX2_signOf 110 = .ok (.bipush (-18), 2) := by decide +kernel
theorem dX2_signOf_112 : decode cX2_signOf 112 = .ok (.ireturn, 1) := by decide +kernel
theorem dX2_signOf_113 : decode cX2_signOf 113 = .ok (.bipush (-12), 2) := by decide +kernel
theorem dX2_signOf_115 : decode cX2_signOf 115 = .ok (.ireturn, 1) := by decide +kernel
theorem dX2_signOf_116 : decode cX2_signOf 116 = .ok (.bipush (-13), 2) := by decide +kernel
theorem dX2_signOf_118 : decode cX2_signOf 118 = .ok (.ireturn, 1) := by decide +kernel
theorem dX2_signOf_119 : decode cX2_signOf 119 = .ok (.bipush (-14), 2) := by decide +kernel
theorem dX2_signOf_121 : decode cX2_signOf 121 = .ok (.ireturn, 1) := by decide +kernel
theorem dX2_signOf_122 : decode cX2_signOf 122 = .ok (.bipush (-10), 2) := by decide +kernel
theorem dX2_signOf_124 : decode cX2_signOf 124 = .ok (.ireturn, 1) := by decide +kernel
theorem dX2_signOf_125 : decode cX2_signOf 125 = .ok (.bipush (-11), 2) := by decide +kernel
theorem dX2_signOf_127 : decode cX2_signOf 127 = .ok (.ireturn, 1) := by decide +kernel
theorem dX2_signOf_128 : decode cX2_signOf 128 = .ok (.bipush (-23), 2) := by decide +kernel
theorem dX2_signOf_130 : decode cX2_signOf 130 = .ok (.ireturn, 1) := by decide +kernel
theorem dX2_isLetter_0 : decode cX2_isLetter 0 = .ok (.iload_n 0, 1) := by decide +kernel
theorem dX2_isLetter_1 : decode cX2_isLetter 1 = .ok (.bipush 97, 2) := by decide +kernel
theorem dX2_isLetter_3 : decode cX2_isLetter 3 = .ok (.if_icmp .lt 13, 3) := by decide +kernel
theorem dX2_isLetter_6 : decode cX2_isLetter 6 = .ok (.iload_n 0, 1) := by decide +kernel
theorem dX2_isLetter_7 : decode cX2_isLetter 7 = .ok (.bipush 122, 2) := by decide +kernel
theorem dX2_isLetter_9 : decode cX2_isLetter 9 = .ok (.if_icmp .gt 7, 3) := by decide +kernel
theorem dX2_isLetter_12 : decode cX2_isLetter 12 = .ok (.iconst 1, 1) := by decide +kernel
theorem dX2_isLetter_13 : decode cX2_isLetter 13 = .ok (.goto 4, 3) := by decide +kernel
theorem dX2_isLetter_16 : decode cX2_isLetter 16 = .ok (.iconst 0, 1) := by decide +kernel
theorem dX2_isLetter_17 : decode cX2_isLetter 17 = .ok (.ireturn, 1) := by decide +kernel
theorem dX2_isDigit_0 : decode cX2_isDigit 0 = .ok (.iload_n 0, 1) := by decide +kernel
theorem dX2_isDigit_1 : decode cX2_isDigit 1 = .ok (.bipush 48, 2) := by decide +kernel
theorem dX2_isDigit_3 : decode cX2_isDigit 3 = .ok (.if_icmp .lt 13, 3) := by decide +kernel
theorem dX2_isDigit_6 : decode cX2_isDigit 6 = .ok (.iload_n 0, 1) := by decide +kernel
theorem dX2_isDigit_7 : decode cX2_isDigit 7 = .ok (.bipush 57, 2) := by decide +kernel
theorem dX2_isDigit_9 : decode cX2_isDigit 9 = .ok (.if_icmp .gt 7, 3) := by decide +kernel
theorem dX2_isDigit_12 : decode cX2_isDigit 12 = .ok (.iconst 1, 1) := by decide +kernel
theorem dX2_isDigit_13 : decode cX2_isDigit 13 = .ok (.goto 4, 3) := by decide +kernel
theorem dX2_isDigit_16 : decode cX2_isDigit 16 = .ok (.iconst 0, 1) := by decide +kernel
theorem dX2_isDigit_17 : decode cX2_isDigit 17 = .ok (.ireturn, 1) := by decide +kernel
theorem dX2_current_0 : decode cX2_current 0 = .ok (.aload_n 0, 1) := by decide +kernel
theorem dX2_current_1 : decode cX2_current 1 = .ok (.getfield 28, 3) := by decide +kernel
theorem dX2_current_4 : decode cX2_current 4 = .ok (.aload_n 0, 1) := by decide +kernel
theorem dX2_current_5 : decode cX2_current 5 = .ok (.getfield 31, 3) := by decide +kernel
theorem dX2_current_8 : decode cX2_current 8 = .ok (.if_icmp .ge 15, 3) := by decide +kernel
theorem dX2_current_11 : decode cX2_current 11 = .ok (.aload_n 0, 1) := by decide +kernel
theorem dX2_current_12 : decode cX2_current 12 = .ok (.getfield 15, 3) := by decide +kernel
theorem dX2_current_15 : decode cX2_current 15 = .ok (.aload_n 0, 1) := by decide +kernel
theorem dX2_current_16 : decode cX2_current 16 = .ok (.getfield 28, 3) := by decide +kernel
theorem dX2_current_19 : decode cX2_current 19 = .ok (.iaload, 1) := by decide +kernel
theorem dX2_current_20 : decode cX2_current 20 = .ok (.goto 5, 3) := by decide +kernel
theorem dX2_current_23 : decode cX2_current 23 = .ok (.bipush (-22), 2) := by decide +kernel
theorem dX2_current_25 : decode cX2_current 25 = .ok (.ireturn, 1) := by decide +kernel
theorem dX2_pass_0 : decode cX2_pass 0 = .ok (.aload_n 0, 1) := by decide +kernel
theorem dX2_pass_1 : decode cX2_pass 1 = .ok (.invokevirtual 44, 3) := by decide +kernel
theorem dX2_pass_4 : decode cX2_pass 4 = .ok (.iload_n 1, 1) := by decide +kernel
theorem dX2_pass_5 : decode cX2_pass 5 = .ok (.if_icmp .ne 7, 3) := by decide +kernel
theorem dX2_pass_8 : decode cX2_pass 8 = .ok (.iconst 1, 1) := by decide +kernel
theorem dX2_pass_9 : decode cX2_pass 9 = .ok (.goto 4, 3) := by decide +kernel
theorem dX2_pass_12 : decode cX2_pass 12 = .ok (.iconst 0, 1) := by decide +kernel
theorem dX2_pass_13 : decode cX2_pass 13 = .ok (.istore_n 2, 1) := by decide +kernel
theorem dX2_pass_14 : decode cX2_pass 14 = .ok (.aload_n 0, 1) := by decide +kernel
theorem dX2_pass_15 : decode cX2_pass 15 = .ok (.dup, 1) := by decide +kernel
theorem dX2_pass_16 : decode cX2_pass 16 = .ok (.getfield 28, 3) := by decide +kernel
theorem dX2_pass_19 : decode cX2_pass 19 = .ok (.iload_n 2, 1) := by decide +kernel
theorem dX2_pass_20 : decode cX2_pass 20 = .ok (.ifCond .eq 7, 3) := by decide +kernel
theorem dX2_pass_23 : decode cX2_pass 23 = .ok (.iconst 1, 1) := by decide +kernel
theorem dX2_pass_24 : decode cX2_pass 24 = .ok (.goto 4, 3) := by decide +kernel
theorem dX2_pass_27 : decode cX2_pass 27 = .ok (.iconst 0, 1) := by decide +kernel
theorem dX2_pass_28 : decode cX2_pass 28 = .ok (.iadd, 1) := by decide +kernel
theorem dX2_pass_29 : decode cX2_pass 29 = .ok (.putfield 28, 3) := by decide +kernel
theorem dX2_pass_32 : decode cX2_pass 32 = .ok (.iload_n 2, 1) := by decide +kernel
theorem dX2_pass_33 : decode cX2_pass 33 = .ok (.ireturn, 1) := by decide +kernel
theorem dX2_emit_0 : decode cX2_emit 0 = .ok (.aload_n 0, 1) := by decide +kernel
theorem dX2_emit_1 : decode cX2_emit 1 = .ok (.getfield 37, 3) := by decide +kernel
theorem dX2_emit_4 : decode cX2_emit 4 = .ok (.sipush 160, 3) := by decide +kernel
theorem dX2_emit_7 : decode cX2_emit 7 = .ok (.if_icmp .ge 23, 3) := by decide +kernel
theorem dX2_emit_10 : decode cX2_emit 10 = .ok (.aload_n 0, 1) := by decide +kernel
theorem dX2_emit_11 : decode cX2_emit 11 = .ok (.getfield 21, 3) := by decide +kernel
theorem dX2_emit_14 : decode cX2_emit 14 = .ok (.aload_n 0, 1) := by decide +kernel
theorem dX2_emit_15 : decode cX2_emit 15 = .ok (.getfield 37, 3) := by decide +kernel
theorem dX2_emit_18 : decode cX2_emit 18 = .ok (.iload_n 1, 1) := by decide +kernel
theorem dX2_emit_19 : decode cX2_emit 19 = .ok (.iastore, 1) := by decide +kernel
theorem dX2_emit_20 : decode cX2_emit 20 = .ok (.aload_n 0, 1) := by decide +kernel
theorem dX2_emit_21 : decode cX2_emit 21 = .ok (.dup, 1) := by decide +kernel
theorem dX2_emit_22 : decode cX2_emit 22 = .ok (.getfield 37, 3) := by decide +kernel
theorem dX2_emit_25 : decode cX2_emit 25 = .ok (.iconst 1, 1) := by decide +kernel
theorem dX2_emit_26 : decode cX2_emit 26 = .ok (.iadd, 1) := by decide +kernel
theorem dX2_emit_27 : decode cX2_emit 27 = .ok (.putfield 37, 3) := by decide +kernel
theorem dX2_emit_30 : decode cX2_emit 30 = .ok (.return_, 1) := by decide +kernel
theorem dX2_readPart_0 : decode cX2_readPart 0 = .ok (.aload_n 0, 1) := by decide +kernel
theorem dX2_readPart_1 : decode cX2_readPart 1 = .ok (.iload_n 1, 1) := by decide +kernel
theorem dX2_readPart_2 : decode cX2_readPart 2 = .ok (.invokevirtual 118, 3) := by decide +kernel
theorem dX2_readPart_5 : decode cX2_readPart 5 = .ok (.ifCond .eq 25, 3) := by decide +kernel
theorem dX2_readPart_8 : decode cX2_readPart 8 = .ok (.aload_n 0, 1) := by decide +kernel
theorem dX2_readPart_9 : decode cX2_readPart 9 = .ok (.iconst 0, 1) := by decide +kernel
theorem dX2_readPart_10 : decode cX2_readPart 10 = .ok (.iconst 0, 1) := by decide +kernel
theorem dX2_readPart_11 : decode cX2_readPart 11 = .ok (.invokevirtual 121, 3) := by decide +kernel
theorem dX2_readPart_14 : decode cX2_readPart 14 = .ok (.ifCond .eq 16, 3) := by decide +kernel
theorem dX2_readPart_17 : decode cX2_readPart 17 = .ok (.aload_n 0, 1) := by decide +kernel
theorem dX2_readPart_18 : decode cX2_readPart 18 = .ok (.bipush (-18), 2) := by decide +kernel
theorem dX2_readPart_20 : decode cX2_readPart 20 = .ok (.invokevirtual 118, 3) := by decide +kernel
theorem dX2_readPart_23 : decode cX2_readPart 23 = .ok (.ifCond .eq 7, 3) := by decide +kernel
theorem dX2_readPart_26 : decode cX2_readPart 26 = .ok (.iconst 1, 1) := by decide +kernel
theorem dX2_readPart_27 : decode cX2_readPart 27 = .ok (.goto 4, 3) := by decide +kernel
theorem dX2_readPart_30 : decode cX2_readPart 30 = .ok (.iconst 0, 1) := by decide +kernel
theorem dX2_readPart_31 : decode cX2_readPart 31 = .ok (.ireturn, 1) := by decide +kernel
theorem dX2_readLevel_0 : decode cX2_readLevel 0 = .ok (.iload_n 1, 1) := by decide +kernel
theorem dX2_readLevel_1 : decode cX2_readLevel 1 = .ok (.iconst 5, 1) := by decide +kernel
theorem dX2_readLevel_2 : decode cX2_readLevel 2 = .ok (.if_icmp .lt 9, 3) := by decide +kernel
theorem dX2_readLevel_5 : decode cX2_readLevel 5 = .ok (.aload_n 0, 1) := by decide +kernel
theorem dX2_readLevel_6 : decode cX2_readLevel 6 = .ok (.iload_n 2, 1) := by decide +kernel
theorem dX2_readLevel_7 : decode cX2_readLevel 7 = .ok (.invokevirtual 125, 3) := by decide +kernel
theorem dX2_readLevel_10 : decode cX2_readLevel 10 = .ok (.ireturn, 1) := by decide +kernel
theorem dX2_readLevel_11 : decode cX2_readLevel 11 = .ok (.iload_n 1, 1) := by decide +kernel
theorem dX2_readLevel_12 : decode cX2_readLevel 12 = .ok (.iconst 2, 1) := by decide +kernel
theorem dX2_readLevel_13 : decode cX2_readLevel 13 = .ok (.if_icmp .ne 21, 3) := by decide +kernel
theorem dX2_readLevel_16 : decode cX2_readLevel 16 = .ok (.aload_n 0, 1) := by decide +kernel
theorem dX2_readLevel_17 : decode cX2_readLevel 17 = .ok (.invokevirtual 44, 3) := by decide +kernel
theorem dX2_readLevel_20 : decode cX2_readLevel 20 = .ok (.bipush (-9), 2) := by decide +kernel
theorem dX2_readLevel_22 : decode cX2_readLevel 22 = .ok (.if_icmp .ne 12, 3) := by decide +kernel
theorem dX2_readLevel_25 : decode cX2_readLevel 25 = .ok (.aload_n 0, 1) := by decide +kernel
theorem dX2_readLevel_26 : decode cX2_readLevel 26 = .ok (.bipush (-9), 2) := by decide +kernel
theorem dX2_readLevel_28 : decode cX2_readLevel 28 = .ok (.iload_n 1, 1) := by decide +kernel
theorem dX2_readLevel_29 : decode cX2_readLevel 29 = .ok (.iload_n 2, 1) := by decide +kernel
theorem dX2_readLevel_30 : decode cX2_readLevel 30 = .ok (.invokevirtual 128, 3) := by decide +kernel
theorem dX2_readLevel_33 : decode cX2_readLevel 33 = .ok (.ireturn, 1) := by decide +kernel
theorem dX2_readLevel_34 : decode cX2_readLevel 34 = .ok (.aload_n 0, 1) := by decide +kernel
theorem dX2_readLevel_35 : decode cX2_readLevel 35 = .ok (.iload_n 1, 1) := by decide +kernel
theorem dX2_readLevel_36 : decode cX2_readLevel 36 = .ok (.iconst 1, 1) := by decide +kernel
theorem dX2_readLevel_37 : decode cX2_readLevel 37 = .ok (.iadd, 1) := by decide +kernel
theorem dX2_readLevel_38 : decode cX2_readLevel 38 = .ok (.iload_n 2, 1) := by decide +kernel
theorem dX2_readLevel_39 : decode cX2_readLevel 39 = .ok (.invokevirtual 121, 3) := by decide +kernel
theorem dX2_readLevel_42 : decode cX2_readLevel 42 = .ok (.ifCond .ne 5, 3) := by decide +kernel
theorem dX2_readLevel_45 : decode cX2_readLevel 45 = .ok (.iconst 0, 1) := by decide +kernel
theorem dX2_readLevel_46 : decode cX2_readLevel 46 = .ok (.ireturn, 1) := by decide +kernel
theorem dX2_readLevel_47 : decode cX2_readLevel 47 = .ok (.iload_n 1, 1) := by decide +kernel
theorem dX2_readLevel_48 : decode cX2_readLevel 48 = .ok (.iconst 2, 1) := by decide +kernel
theorem dX2_readLevel_49 : decode cX2_readLevel 49 = .ok (.if_icmp .ne 7, 3) := by decide +kernel
theorem dX2_readLevel_52 : decode cX2_readLevel 52 = .ok (.iconst 1, 1) := by decide +kernel
theorem dX2_readLevel_53 : decode cX2_readLevel 53 = .ok (.goto 6, 3) := by decide +kernel
theorem dX2_readLevel_56 : decode cX2_readLevel 56 = .ok (.sipush 160, 3) := by decide +kernel
theorem dX2_readLevel_59 : decode cX2_readLevel 59 = .ok (.istore_n 3, 1) := by decide +kernel
theorem dX2_readLevel_60 : decode cX2_readLevel 60 = .ok (.iconst 0, 1) := by decide +kernel
theorem dX2_readLevel_61 : decode cX2_readLevel 61 = .ok (.istore 4, 2) := by decide +kernel
theorem dX2_readLevel_63 : decode cX2_readLevel 63 = .ok (.iload 4, 2) := by decide +kernel
theorem dX2_readLevel_65 : decode cX2_readLevel 65 = .ok (.iload_n 3, 1) := by decide +kernel
theorem dX2_readLevel_66 : decode cX2_readLevel 66 = .ok (.if_icmp .ge 55, 3) := by decide +kernel
theorem dX2_readLevel_69 : decode cX2_readLevel 69 = .ok (.aload_n 0, 1) := by decide +kernel
theorem dX2_readLevel_70 : decode cX2_readLevel 70 = .ok (.invokevirtual 44, 3) := by decide +kernel
theorem dX2_readLevel_73 : decode cX2_readLevel 73 = .ok (.invokestatic 132, 3) := by decide +kernel
theorem dX2_readLevel_76 : decode cX2_readLevel 76 = .ok (.iload_n 1, 1) := by decide +kernel
theorem dX2_readLevel_77 : decode cX2_readLevel 77 = .ok (.if_icmp .ne 44, 3) := by decide +kernel
theorem dX2_readLevel_80 : decode cX2_readLevel 80 = .ok (.aload_n 0, 1) := by decide +kernel
theorem dX2_readLevel_81 : decode cX2_readLevel 81 = .ok (.invokevirtual 44, 3) := by decide +kernel
theorem dX2_readLevel_84 : decode cX2_readLevel 84 = .ok (.istore 5, 2) := by decide +kernel
theorem dX2_readLevel_86 : decode cX2_readLevel 86 = .ok (.aload_n 0, 1) := by decide +kernel
theorem dX2_readLevel_87 : decode cX2_readLevel 87 = .ok (.dup, 1) := by decide +kernel
theorem dX2_readLevel_88 : decode cX2_readLevel 88 = .ok (.getfield 28, 3) := by decide +kernel
theorem dX2_readLevel_91 : decode cX2_readLevel 91 = .ok (.iconst 1, 1) := by decide +kernel
theorem dX2_readLevel_92 : decode cX2_readLevel 92 = .ok (.iadd, 1) := by decide +kernel
theorem dX2_readLevel_93 : decode cX2_readLevel 93 = .ok (.putfield 28, 3) := by decide +kernel
theorem dX2_readLevel_96 : decode cX2_readLevel 96 = .ok (.aload_n 0, 1) := by decide +kernel
theorem dX2_readLevel_97 : decode cX2_readLevel 97 = .ok (.iload_n 1, 1) := by decide +kernel
theorem dX2_readLevel_98 : decode cX2_readLevel 98 = .ok (.iconst 1, 1) := by decide +kernel
theorem dX2_readLevel_99 : decode cX2_readLevel 99 = .ok (.iadd, 1) := by decide +kernel
theorem dX2_readLevel_100 : decode cX2_readLevel 100 = .ok (.iload_n 2, 1) := by decide +kernel
theorem dX2_readLevel_101 : decode cX2_readLevel 101 = .ok (.invokevirtual 121, 3) := by decide +kernel
theorem dX2_readLevel_104 : decode cX2_readLevel 104 = .ok (.ifCond .ne 5, 3) := by decide +kernel
theorem dX2_readLevel_107 : decode cX2_readLevel 107 = .ok (.iconst 0, 1) := by decide +kernel
theorem dX2_readLevel_108 : decode cX2_readLevel 108 = .ok (.ireturn, 1) := by decide +kernel
theorem dX2_readLevel_109 : decode cX2_readLevel 109 = .ok (.aload_n 0, 1) := by decide +kernel
theorem dX2_readLevel_110 : decode cX2_readLevel 110 = .ok (.iload 5, 2) := by decide +kernel
theorem dX2_readLevel_112 : decode cX2_readLevel 112 = .ok (.invokevirtual 135, 3) := by decide +kernel
theorem dX2_readLevel_115 : decode cX2_readLevel 115 = .ok (.iinc 4 1, 3) := by decide +kernel
theorem dX2_readLevel_118 : decode cX2_readLevel 118 = .ok (.goto (-55), 3) := by decide +kernel
theorem dX2_readLevel_121 : decode cX2_readLevel 121 = .ok (.iconst 1, 1) := by decide +kernel
theorem dX2_readLevel_122 : decode cX2_readLevel 122 = .ok (.ireturn, 1) := by decide +kernel
theorem dX2_readOne_0 : decode cX2_readOne 0 = .ok (.aload_n 0, 1) := by decide +kernel
theorem dX2_readOne_1 : decode cX2_readOne 1 = .ok (.invokevirtual 44, 3) := by decide +kernel
theorem dX2_readOne_4 : decode cX2_readOne 4 = .ok (.istore_n 2, 1) := by decide +kernel
theorem dX2_readOne_5 : decode cX2_readOne 5 = .ok (.iload_n 2, 1) := by decide +kernel
theorem dX2_readOne_6 : decode cX2_readOne 6 = .ok (.bipush (-6), 2) := by decide +kernel
theorem dX2_readOne_8 : decode cX2_readOne 8 = .ok (.if_icmp .lt 20, 3) := by decide +kernel
theorem dX2_readOne_11 : decode cX2_readOne 11 = .ok (.aload_n 0, 1) := by decide +kernel
theorem dX2_readOne_12 : decode cX2_readOne 12 = .ok (.dup, 1) := by decide +kernel
theorem dX2_readOne_13 : decode cX2_readOne 13 = .ok (.getfield 28, 3) := by decide +kernel
theorem dX2_readOne_16 : decode cX2_readOne 16 = .ok (.iconst 1, 1) := by decide +kernel
theorem dX2_readOne_17 : decode cX2_readOne 17 = .ok (.iadd, 1) := by decide +kernel
theorem dX2_readOne_18 : decode cX2_readOne 18 = .ok (.putfield 28, 3) := by decide +kernel
theorem dX2_readOne_21 : decode cX2_readOne 21 = .ok (.aload_n 0, 1) := by decide +kernel
theorem dX2_readOne_22 : decode cX2_readOne 22 = .ok (.iload_n 2, 1) := by decide +kernel
theorem dX2_readOne_23 : decode cX2_readOne 23 = .ok (.invokevirtual 135, 3) := by decide +kernel
theorem dX2_readOne_26 : decode cX2_readOne 26 = .ok (.iconst 1, 1) := by decide +kernel
theorem dX2_readOne_27 : decode cX2_readOne 27 = .ok (.ireturn, 1) := by decide +kernel
theorem dX2_readOne_28 : decode cX2_readOne 28 = .ok (.iload_n 2, 1) := by decide +kernel
theorem dX2_readOne_29 : decode cX2_readOne 29 = .ok (.bipush (-13), 2) := by decide +kernel
theorem dX2_readOne_31 : decode cX2_readOne 31 = .ok (.if_icmp .ne 12, 3) := by decide +kernel
theorem dX2_readOne_34 : decode cX2_readOne 34 = .ok (.aload_n 0, 1) := by decide +kernel
theorem dX2_readOne_35 : decode cX2_readOne 35 = .ok (.bipush (-15), 2) := by decide +kernel
theorem dX2_readOne_37 : decode cX2_readOne 37 = .ok (.iconst 5, 1) := by decide +kernel
theorem dX2_readOne_38 : decode cX2_readOne 38 = .ok (.iload_n 1, 1) := by decide +kernel
theorem dX2_readOne_39 : decode cX2_readOne 39 = .ok (.invokevirtual 128, 3) := by decide +kernel
theorem dX2_readOne_42 : decode cX2_readOne 42 = .ok (.ireturn, 1) := by decide +kernel
theorem dX2_readOne_43 : decode cX2_readOne 43 = .ok (.iload_n 2, 1) := by decide +kernel
theorem dX2_readOne_44 : decode cX2_readOne 44 = .ok (.bipush (-16), 2) := by decide +kernel
theorem dX2_readOne_46 : decode cX2_readOne 46 = .ok (.if_icmp .ne 27, 3) := by decide +kernel
theorem dX2_readOne_49 : decode cX2_readOne 49 = .ok (.aload_n 0, 1) := by decide +kernel
theorem dX2_readOne_50 : decode cX2_readOne 50 = .ok (.bipush (-16), 2) := by decide +kernel
theorem dX2_readOne_52 : decode cX2_readOne 52 = .ok (.iconst 0, 1) := by decide +kernel
theorem dX2_readOne_53 : decode cX2_readOne 53 = .ok (.iload_n 1, 1) := by decide +kernel
theorem dX2_readOne_54 : decode cX2_readOne 54 = .ok (.invokevirtual 128, 3) := by decide +kernel
theorem dX2_readOne_57 : decode cX2_readOne 57 = .ok (.ifCond .eq 16, 3) := by decide +kernel
theorem dX2_readOne_60 : decode cX2_readOne 60 = .ok (.aload_n 0, 1) := by decide +kernel
theorem dX2_readOne_61 : decode cX2_readOne 61 = .ok (.bipush (-17), 2) := by decide +kernel
theorem dX2_readOne_63 : decode cX2_readOne 63 = .ok (.invokevirtual 118, 3) := by decide +kernel
theorem dX2_readOne_66 : decode cX2_readOne 66 = .ok (.ifCond .eq 7, 3) := by decide +kernel
theorem dX2_readOne_69 : decode cX2_readOne 69 = .ok (.iconst 1, 1) := by decide +kernel
theorem dX2_readOne_70 : decode cX2_readOne 70 = .ok (.goto 4, 3) := by decide +kernel
theorem dX2_readOne_73 : decode cX2_readOne 73 = .ok (.iconst 0, 1) := by decide +kernel
theorem dX2_readOne_74 : decode cX2_readOne 74 = .ok (.ireturn, 1) := by decide +kernel
theorem dX2_readOpened_0 : decode cX2_readOpened 0 = .ok (.iload_n 3, 1) := by decide +kernel
theorem dX2_readOpened_1 : decode cX2_readOpened 1 = .ok (.iconst 5, 1) := by decide +kernel
theorem dX2_readOpened_2 : decode cX2_readOpened 2 = .ok (.if_icmp .lt 5, 3) := by decide +kernel
theorem dX2_readOpened_5 : decode cX2_readOpened 5 = .ok (.iconst 0, 1) := by decide +kernel
theorem dX2_readOpened_6 : decode cX2_readOpened 6 = .ok (.ireturn, 1) := by decide +kernel
theorem dX2_readOpened_7 : decode cX2_readOpened 7 = .ok (.aload_n 0, 1) := by decide +kernel
theorem dX2_readOpened_8 : decode cX2_readOpened 8 = .ok (.dup, 1) := by decide +kernel
theorem dX2_readOpened_9 : decode cX2_readOpened 9 = .ok (.getfield 28, 3) := by decide +kernel
theorem dX2_readOpened_12 : decode cX2_readOpened 12 = .ok (.iconst 1, 1) := by decide +kernel
theorem dX2_readOpened_13 : decode cX2_readOpened 13 = .ok (.iadd, 1) := by decide +kernel
theorem dX2_readOpened_14 : decode cX2_readOpened 14 = .ok (.putfield 28, 3) := by decide +kernel
theorem dX2_readOpened_17 : decode cX2_readOpened 17 = .ok (.aload_n 0, 1) := by decide +kernel
theorem dX2_readOpened_18 : decode cX2_readOpened 18 = .ok (.iload_n 2, 1) := by decide +kernel
theorem dX2_readOpened_19 : decode cX2_readOpened 19 = .ok (.iload_n 3, 1) := by decide +kernel
theorem dX2_readOpened_20 : decode cX2_readOpened 20 = .ok (.iconst 1, 1) := by decide +kernel
theorem dX2_readOpened_21 : decode cX2_readOpened 21 = .ok (.iadd, 1) := by decide +kernel
theorem dX2_readOpened_22 : decode cX2_readOpened 22 = .ok (.invokevirtual 121, 3) := by decide +kernel
theorem dX2_readOpened_25 : decode cX2_readOpened 25 = .ok (.ifCond .ne 5, 3) := by decide +kernel
theorem dX2_readOpened_28 : decode cX2_readOpened 28 = .ok (.iconst 0, 1) := by decide +kernel
theorem dX2_readOpened_29 : decode cX2_readOpened 29 = .ok (.ireturn, 1) := by decide +kernel
theorem dX2_readOpened_30 : decode cX2_readOpened 30 = .ok (.iload_n 1, 1) := by decide +kernel
theorem dX2_readOpened_31 : decode cX2_readOpened 31 = .ok (.bipush (-16), 2) := by decide +kernel
theorem dX2_readOpened_33 : decode cX2_readOpened 33 = .ok (.if_icmp .eq 8, 3) := by decide +kernel
theorem dX2_readOpened_36 : decode cX2_readOpened 36 = .ok (.aload_n 0, 1) := by decide +kernel
theorem dX2_readOpened_37 : decode cX2_readOpened 37 = .ok (.iload_n 1, 1) := by decide +kernel
theorem dX2_readOpened_38 : decode cX2_readOpened 38 = .ok (.invokevirtual 135, 3) := by decide +kernel
theorem dX2_readOpened_41 : decode cX2_readOpened 41 = .ok (.iconst 1, 1) := by decide +kernel
theorem dX2_readOpened_42 : decode cX2_readOpened 42 = .ok (.ireturn, 1) := by decide +kernel
theorem dX2_levelOf_0 : decode cX2_levelOf 0 = .ok (.iload_n 0, 1) := by decide +kernel
theorem dX2_levelOf_1 : decode cX2_levelOf 1 = .ok (.tableswitch 57 (-14) (-7) #[55, 53, 53, 51, 51, 57, 49, 47], 47) := by decide +kernel
theorem dX2_levelOf_48 : decode cX2_levelOf 48 = .ok (.iconst 0, 1) := by decide +kernel
theorem dX2_levelOf_49 : decode cX2_levelOf 49 = .ok (.ireturn, 1) := by decide +kernel
theorem dX2_levelOf_50 : decode cX2_levelOf 50 = .ok (.iconst 1, 1) := by decide +kernel
theorem dX2_levelOf_51 : decode cX2_levelOf 51 = .ok (.ireturn, 1) := by decide +kernel
theorem dX2_levelOf_52 : decode cX2_levelOf 52 = .ok (.iconst 2, 1) := by decide +kernel
theorem dX2_levelOf_53 : decode cX2_levelOf 53 = .ok (.ireturn, 1) := by decide +kernel
theorem dX2_levelOf_54 : decode cX2_levelOf 54 = .ok (.iconst 3, 1) := by decide +kernel
theorem dX2_levelOf_55 : decode cX2_levelOf 55 = .ok (.ireturn, 1) := by decide +kernel
theorem dX2_levelOf_56 : decode cX2_levelOf 56 = .ok (.iconst 4, 1) := by decide +kernel
theorem dX2_levelOf_57 : decode cX2_levelOf 57 = .ok (.ireturn, 1) := by decide +kernel
theorem dX2_levelOf_58 : decode cX2_levelOf 58 = .ok (.iconst (-1), 1) := by decide +kernel
theorem dX2_levelOf_59 : decode cX2_levelOf 59 = .ok (.ireturn, 1) := by decide +kernel
theorem dX3_init_0 : decode cX3_init 0 = .ok (.aload_n 0, 1) := by decide +kernel
theorem dX3_init_1 : decode cX3_init 1 = .ok (.invokespecial 3, 3) := by decide +kernel
theorem dX3_init_4 : decode cX3_init 4 = .ok (.aload_n 0, 1) := by decide +kernel
theorem dX3_init_5 : decode cX3_init 5 = .ok (.bipush 40, 2) := by decide +kernel
theorem dX3_init_7 : decode cX3_init 7 = .ok (.newarray .int, 2) := by decide +kernel
theorem dX3_init_9 : decode cX3_init 9 = .ok (.putfield 9, 3) := by decide +kernel
theorem dX3_init_12 : decode cX3_init 12 = .ok (.aload_n 0, 1) := by decide +kernel
theorem dX3_init_13 : decode cX3_init 13 = .ok (.iconst (-1), 1) := by decide +kernel
theorem dX3_init_14 : decode cX3_init 14 = .ok (.putfield 15, 3) := by decide +kernel
theorem dX3_init_17 : decode cX3_init 17 = .ok (.return_, 1) := by decide +kernel
theorem dX3_begin_0 : decode cX3_begin 0 = .ok (.aload_n 0, 1) := by decide +kernel
theorem dX3_begin_1 : decode cX3_begin 1 = .ok (.iload_n 1, 1) := by decide +kernel
theorem dX3_begin_2 : decode cX3_begin 2 = .ok (.putfield 15, 3) := by decide +kernel
theorem dX3_begin_5 : decode cX3_begin 5 = .ok (.aload_n 0, 1) := by decide +kernel
theorem dX3_begin_6 : decode cX3_begin 6 = .ok (.iload_n 2, 1) := by decide +kernel
theorem dX3_begin_7 : decode cX3_begin 7 = .ok (.putfield 19, 3) := by decide +kernel
theorem dX3_begin_10 : decode cX3_begin 10 = .ok (.aload_n 0, 1) := by decide +kernel
theorem dX3_begin_11 : decode cX3_begin 11 = .ok (.getfield 9, 3) := by decide +kernel
theorem dX3_begin_14 : decode cX3_begin 14 = .ok (.iconst 0, 1) := by decide +kernel
theorem dX3_begin_15 : decode cX3_begin 15 = .ok (.invokestatic 22, 3) := by decide +kernel
theorem dX3_begin_18 : decode cX3_begin 18 = .ok (.return_, 1) := by decide +kernel
theorem dX3_isMissing_0 : decode cX3_isMissing 0 = .ok (.aload_n 0, 1) := by decide +kernel
theorem dX3_isMissing_1 : decode cX3_isMissing 1 = .ok (.getfield 15, 3) := by decide +kernel
theorem dX3_isMissing_4 : decode cX3_isMissing 4 = .ok (.iconst (-1), 1) := by decide +kernel
theorem dX3_isMissing_5 : decode cX3_isMissing 5 = .ok (.if_icmp .ne 7, 3) := by decide +kernel
theorem dX3_isMissing_8 : decode cX3_isMissing 8 = .ok (.iconst 1, 1) := by decide +kernel
theorem dX3_isMissing_9 : decode cX3_isMissing 9 = .ok (.goto 4, 3) := by decide +kernel
theorem dX3_isMissing_12 : decode cX3_isMissing 12 = .ok (.iconst 0, 1) := by decide +kernel
theorem dX3_isMissing_13 : decode cX3_isMissing 13 = .ok (.ireturn, 1) := by decide +kernel
theorem dX3_reaches_0 : decode cX3_reaches 0 = .ok (.iload_n 1, 1) := by decide +kernel
theorem dX3_reaches_1 : decode cX3_reaches 1 = .ok (.ifCond .lt 29, 3) := by decide +kernel
theorem dX3_reaches_4 : decode cX3_reaches 4 = .ok (.iload_n 2, 1) := by decide +kernel
theorem dX3_reaches_5 : decode cX3_reaches 5 = .ok (.ifCond .lt 25, 3) := by decide +kernel
theorem dX3_reaches_8 : decode cX3_reaches 8 = .ok (.iload_n 2, 1) := by decide +kernel
theorem dX3_reaches_9 : decode cX3_reaches 9 = .ok (.aload_n 0, 1) := by decide +kernel
theorem dX3_reaches_10 : decode cX3_reaches 10 = .ok (.getfield 19, 3) := by decide +kernel
theorem dX3_reaches_13 : decode cX3_reaches 13 = .ok (.if_icmp .gt 17, 3) := by decide +kernel
theorem dX3_reaches_16 : decode cX3_reaches 16 = .ok (.iload_n 1, 1) := by decide +kernel
theorem dX3_reaches_17 : decode cX3_reaches 17 = .ok (.aload_n 0, 1) := by decide +kernel
theorem dX3_reaches_18 : decode cX3_reaches 18 = .ok (.getfield 19, 3) := by decide +kernel
theorem dX3_reaches_21 : decode cX3_reaches 21 = .ok (.iload_n 2, 1) := by decide +kernel
theorem dX3_reaches_22 : decode cX3_reaches 22 = .ok (.isub, 1) := by decide +kernel
theorem dX3_reaches_23 : decode cX3_reaches 23 = .ok (.if_icmp .gt 7, 3) := by decide +kernel
theorem dX3_reaches_26 : decode cX3_reaches 26 = .ok (.iconst 1, 1) := by decide +kernel
theorem dX3_reaches_27 : decode cX3_reaches 27 = .ok (.goto 4, 3) := by decide +kernel
theorem dX3_reaches_30 : decode cX3_reaches 30 = .ok (.iconst 0, 1) := by decide +kernel
theorem dX3_reaches_31 : decode cX3_reaches 31 = .ok (.ireturn, 1) := by decide +kernel
theorem dX3_write_0 : decode cX3_write 0 = .ok (.aload_n 0, 1) := by decide +kernel
theorem dX3_write_1 : decode cX3_write 1 = .ok (.getfield 9, 3) := by decide +kernel
theorem dX3_write_4 : decode cX3_write 4 = .ok (.iload_n 1, 1) := by decide +kernel
theorem dX3_write_5 : decode cX3_write 5 = .ok (.aload_n 0, 1) := by decide +kernel
theorem dX3_write_6 : decode cX3_write 6 = .ok (.getfield 15, 3) := by decide +kernel
theorem dX3_write_9 : decode cX3_write 9 = .ok (.ifCond .ne 8, 3) := by decide +kernel
theorem dX3_write_12 : decode cX3_write 12 = .ok (.iload_n 2, 1) := by decide +kernel
theorem dX3_write_13 : decode cX3_write 13 = .ok (.i2b, 1) := by decide +kernel
theorem dX3_write_14 : decode cX3_write 14 = .ok (.goto 17, 3) := by decide +kernel
theorem dX3_write_17 : decode cX3_write 17 = .ok (.aload_n 0, 1) := by decide +kernel
theorem dX3_write_18 : decode cX3_write 18 = .ok (.getfield 15, 3) := by decide +kernel
theorem dX3_write_21 : decode cX3_write 21 = .ok (.iconst 1, 1) := by decide +kernel
theorem dX3_write_22 : decode cX3_write 22 = .ok (.if_icmp .ne 8, 3) := by decide +kernel
theorem dX3_write_25 : decode cX3_write 25 = .ok (.iload_n 2, 1) := by decide +kernel
theorem dX3_write_26 : decode cX3_write 26 = .ok (.i2s, 1) := by decide +kernel
theorem dX3_write_27 : decode cX3_write 27 = .ok (.goto 4, 3) := by decide +kernel
theorem dX3_write_30 : decode cX3_write 30 = .ok (.iload_n 2, 1) := by decide +kernel
theorem dX3_write_31 : decode cX3_write 31 = .ok (.iastore, 1) := by decide +kernel
theorem dX3_write_32 : decode cX3_write 32 = .ok (.return_, 1) := by decide +kernel
theorem dX4_init_0 : decode cX4_init 0 = .ok (.aload_n 0, 1) := by decide +kernel
theorem dX4_init_1 : decode cX4_init 1 = .ok (.invokespecial 3, 3) := by decide +kernel
theorem dX4_init_4 : decode cX4_init 4 = .ok (.aload_n 0, 1) := by decide +kernel
theorem dX4_init_5 : decode cX4_init 5 = .ok (.aload_n 1, 1) := by decide +kernel
theorem dX4_init_6 : decode cX4_init 6 = .ok (.putfield 9, 3) := by decide +kernel
theorem dX4_init_9 : decode cX4_init 9 = .ok (.aload_n 0, 1) := by decide +kernel
theorem dX4_init_10 : decode cX4_init 10 = .ok (.iload_n 2, 1) := by decide +kernel
theorem dX4_init_11 : decode cX4_init 11 = .ok (.putfield 15, 3) := by decide +kernel
theorem dX4_init_14 : decode cX4_init 14 = .ok (.aload_n 0, 1) := by decide +kernel
theorem dX4_init_15 : decode cX4_init 15 = .ok (.iload_n 3, 1) := by decide +kernel
theorem dX4_init_16 : decode cX4_init 16 = .ok (.putfield 19, 3) := by decide +kernel
theorem dX4_init_19 : decode cX4_init 19 = .ok (.return_, 1) := by decide +kernel
theorem dX4_names_0 : decode cX4_names 0 = .ok (.aload_n 0, 1) := by decide +kernel
theorem dX4_names_1 : decode cX4_names 1 = .ok (.getfield 9, 3) := by decide +kernel
theorem dX4_names_4 : decode cX4_names 4 = .ok (.astore_n 2, 1) := by decide +kernel
theorem dX4_names_5 : decode cX4_names 5 = .ok (.aload_n 2, 1) := by decide +kernel
theorem dX4_names_6 : decode cX4_names 6 = .ok (.arraylength, 1) := by decide +kernel
theorem dX4_names_7 : decode cX4_names 7 = .ok (.istore_n 3, 1) := by decide +kernel
theorem dX4_names_8 : decode cX4_names 8 = .ok (.iconst 0, 1) := by decide +kernel
theorem dX4_names_9 : decode cX4_names 9 = .ok (.istore 4, 2) := by decide +kernel
theorem dX4_names_11 : decode cX4_names 11 = .ok (.iload 4, 2) := by decide +kernel
theorem dX4_names_13 : decode cX4_names 13 = .ok (.iload_n 3, 1) := by decide +kernel
theorem dX4_names_14 : decode cX4_names 14 = .ok (.if_icmp .ge 23, 3) := by decide +kernel
theorem dX4_names_17 : decode cX4_names 17 = .ok (.aload_n 2, 1) := by decide +kernel
theorem dX4_names_18 : decode cX4_names 18 = .ok (.iload 4, 2) := by decide +kernel
theorem dX4_names_20 : decode cX4_names 20 = .ok (.iaload, 1) := by decide +kernel
theorem dX4_names_21 : decode cX4_names 21 = .ok (.istore 5, 2) := by decide +kernel
theorem dX4_names_23 : decode cX4_names 23 = .ok (.iload 5, 2) := by decide +kernel
theorem dX4_names_25 : decode cX4_names 25 = .ok (.iload_n 1, 1) := by decide +kernel
theorem dX4_names_26 : decode cX4_names 26 = .ok (.if_icmp .ne 5, 3) := by decide +kernel
theorem dX4_names_29 : decode cX4_names 29 = .ok (.iconst 1, 1) := by decide +kernel
theorem dX4_names_30 : decode cX4_names 30 = .ok (.ireturn, 1) := by decide +kernel
theorem dX4_names_31 : decode cX4_names 31 = .ok (.iinc 4 1, 3) := by decide +kernel
theorem dX4_names_34 : decode cX4_names 34 = .ok (.goto (-23), 3) := by decide +kernel
theorem dX4_names_37 : decode cX4_names 37 = .ok (.iconst 0, 1) := by decide +kernel
theorem dX4_names_38 : decode cX4_names 38 = .ok (.ireturn, 1) := by decide +kernel
theorem dX4_value_0 : decode cX4_value 0 = .ok (.iload_n 1, 1) := by decide +kernel
theorem dX4_value_1 : decode cX4_value 1 = .ok (.bipush (-19), 2) := by decide +kernel
theorem dX4_value_3 : decode cX4_value 3 = .ok (.if_icmp .ne 7, 3) := by decide +kernel
theorem dX4_value_6 : decode cX4_value 6 = .ok (.iconst 0, 1) := by decide +kernel
theorem dX4_value_7 : decode cX4_value 7 = .ok (.goto 20, 3) := by decide +kernel
theorem dX4_value_10 : decode cX4_value 10 = .ok (.iload_n 1, 1) := by decide +kernel
theorem dX4_value_11 : decode cX4_value 11 = .ok (.bipush (-20), 2) := by decide +kernel
theorem dX4_value_13 : decode cX4_value 13 = .ok (.if_icmp .ne 10, 3) := by decide +kernel
theorem dX4_value_16 : decode cX4_value 16 = .ok (.aload_n 0, 1) := by decide +kernel
theorem dX4_value_17 : decode cX4_value 17 = .ok (.getfield 15, 3) := by decide +kernel
theorem dX4_value_20 : decode cX4_value 20 = .ok (.goto 7, 3) := by decide +kernel
theorem dX4_value_23 : decode cX4_value 23 = .ok (.aload_n 0, 1) := by decide +kernel
theorem dX4_value_24 : decode cX4_value 24 = .ok (.getfield 19, 3) := by decide +kernel
theorem dX4_value_27 : decode cX4_value 27 = .ok (.istore 4, 2) := by decide +kernel
theorem dX4_value_29 : decode cX4_value 29 = .ok (.iload_n 1, 1) := by decide +kernel
theorem dX4_value_30 : decode cX4_value 30 = .ok (.bipush (-19), 2) := by decide +kernel
theorem dX4_value_32 : decode cX4_value 32 = .ok (.if_icmp .ne 10, 3) := by decide +kernel
theorem dX4_value_35 : decode cX4_value 35 = .ok (.aload_n 0, 1) := by decide +kernel
theorem dX4_value_36 : decode cX4_value 36 = .ok (.getfield 15, 3) := by decide +kernel
theorem dX4_value_39 : decode cX4_value 39 = .ok (.goto 21, 3) := by decide +kernel
theorem dX4_value_42 : decode cX4_value 42 = .ok (.iload_n 1, 1) := by decide +kernel
theorem dX4_value_43 : decode cX4_value 43 = .ok (.bipush (-20), 2) := by decide +kernel
theorem dX4_value_45 : decode cX4_value 45 = .ok (.if_icmp .ne 10, 3) := by decide +kernel
theorem dX4_value_48 : decode cX4_value 48 = .ok (.aload_n 0, 1) := by decide +kernel
theorem dX4_value_49 : decode cX4_value 49 = .ok (.getfield 19, 3) := by decide +kernel
theorem dX4_value_52 : decode cX4_value 52 = .ok (.goto 8, 3) := by decide +kernel
theorem dX4_value_55 : decode cX4_value 55 = .ok (.aload_n 0, 1) := by decide +kernel
theorem dX4_value_56 : decode cX4_value 56 = .ok (.getfield 9, 3) := by decide +kernel
theorem dX4_value_59 : decode cX4_value 59 = .ok (.arraylength, 1) := by decide +kernel
theorem dX4_value_60 : decode cX4_value 60 = .ok (.istore 5, 2) := by decide +kernel
theorem dX4_value_62 : decode cX4_value 62 = .ok (.iconst 0, 1) := by decide +kernel
theorem dX4_value_63 : decode cX4_value 63 = .ok (.istore 6, 2) := by decide +kernel
theorem dX4_value_65 : decode cX4_value 65 = .ok (.iload 4, 2) := by decide +kernel
theorem dX4_value_67 : decode cX4_value 67 = .ok (.istore 7, 2) := by decide +kernel
theorem dX4_value_69 : decode cX4_value 69 = .ok (.iload 7, 2) := by decide +kernel
theorem dX4_value_71 : decode cX4_value 71 = .ok (.iload 5, 2) := by decide +kernel
theorem dX4_value_73 : decode cX4_value 73 = .ok (.if_icmp .ge 148, 3) := by decide +kernel
theorem dX4_value_76 : decode cX4_value 76 = .ok (.aload_n 0, 1) := by decide +kernel
theorem dX4_value_77 : decode cX4_value 77 = .ok (.getfield 9, 3) := by decide +kernel
theorem dX4_value_80 : decode cX4_value 80 = .ok (.iload 7, 2) := by decide +kernel
theorem dX4_value_82 : decode cX4_value 82 = .ok (.iaload, 1) := by decide +kernel
theorem dX4_value_83 : decode cX4_value 83 = .ok (.istore 8, 2) := by decide +kernel
theorem dX4_value_85 : decode cX4_value 85 = .ok (.iload 8, 2) := by decide +kernel
theorem dX4_value_87 : decode cX4_value 87 = .ok (.bipush (-6), 2) := by decide +kernel
theorem dX4_value_89 : decode cX4_value 89 = .ok (.if_icmp .lt 36, 3) := by decide +kernel
theorem dX4_value_92 : decode cX4_value 92 = .ok (.iload 6, 2) := by decide +kernel
theorem dX4_value_94 : decode cX4_value 94 = .ok (.aload_n 3, 1) := by decide +kernel
theorem dX4_value_95 : decode cX4_value 95 = .ok (.arraylength, 1) := by decide +kernel
theorem dX4_value_96 : decode cX4_value 96 = .ok (.if_icmp .ge 29, 3) := by decide +kernel
theorem dX4_value_99 : decode cX4_value 99 = .ok (.aload_n 3, 1) := by decide +kernel
theorem dX4_value_100 : decode cX4_value 100 = .ok (.iload 6, 2) := by decide +kernel
theorem dX4_value_102 : decode cX4_value 102 = .ok (.iload 8, 2) := by decide +kernel
theorem dX4_value_104 : decode cX4_value 104 = .ok (.ifCond .lt 8, 3) := by decide +kernel
theorem dX4_value_107 : decode cX4_value 107 = .ok (.iload 8, 2) := by decide +kernel
theorem dX4_value_109 : decode cX4_value 109 = .ok (.goto 9, 3) := by decide +kernel
theorem dX4_value_112 : decode cX4_value 112 = .ok (.aload_n 2, 1) := by decide +kernel
theorem dX4_value_113 : decode cX4_value 113 = .ok (.iconst (-1), 1) := by decide +kernel
theorem dX4_value_114 : decode cX4_value 114 = .ok (.iload 8, 2) := by decide +kernel
theorem dX4_value_116 : decode cX4_value 116 = .ok (.isub, 1) := by decide +kernel
theorem dX4_value_117 : decode cX4_value 117 = .ok (.iaload, 1) := by decide +kernel
theorem dX4_value_118 : decode cX4_value 118 = .ok (.iastore, 1) := by decide +kernel
theorem dX4_value_119 : decode cX4_value 119 = .ok (.iinc 6 1, 3) := by decide +kernel
theorem dX4_value_122 : decode cX4_value 122 = .ok (.goto 93, 3) := by decide +kernel
theorem dX4_value_125 : decode cX4_value 125 = .ok (.iload 8, 2) := by decide +kernel
theorem dX4_value_127 : decode cX4_value 127 = .ok (.bipush (-9), 2) := by decide +kernel
theorem dX4_value_129 : decode cX4_value 129 = .ok (.if_icmp .eq 10, 3) := by decide +kernel
theorem dX4_value_132 : decode cX4_value 132 = .ok (.iload 8, 2) := by decide +kernel
theorem dX4_value_134 : decode cX4_value 134 = .ok (.bipush (-15), 2) := by decide +kernel
theorem dX4_value_136 : decode cX4_value 136 = .ok (.if_icmp .ne 49, 3) := by decide +kernel
theorem dX4_value_139 : decode cX4_value 139 = .ok (.iload 6, 2) := by decide +kernel
theorem dX4_value_141 : decode cX4_value 141 = .ok (.iconst 1, 1) := by decide +kernel
theorem dX4_value_142 : decode cX4_value 142 = .ok (.if_icmp .lt 43, 3) := by decide +kernel
theorem dX4_value_145 : decode cX4_value 145 = .ok (.aload_n 3, 1) := by decide +kernel
theorem dX4_value_146 : decode cX4_value 146 = .ok (.iload 6, 2) := by decide +kernel
theorem dX4_value_148 : decode cX4_value 148 = .ok (.iconst 1, 1) := by decide +kernel
theorem dX4_value_149 : decode cX4_value 149 = .ok (.isub, 1) := by decide +kernel
theorem dX4_value_150 : decode cX4_value 150 = .ok (.iaload, 1) := by decide +kernel
theorem dX4_value_151 : decode cX4_value 151 = .ok (.istore 9, 2) := by decide +kernel
theorem dX4_value_153 : decode cX4_value 153 = .ok (.aload_n 3, 1) := by decide +kernel
theorem dX4_value_154 : decode cX4_value 154 = .ok (.iload 6, 2) := by decide +kernel
theorem dX4_value_156 : decode cX4_value 156 = .ok (.iconst 1, 1) := by decide +kernel
theorem dX4_value_157 : decode cX4_value 157 = .ok (.isub, 1) := by decide +kernel
theorem dX4_value_158 : decode cX4_value 158 = .ok (.iload 8, 2) := by decide +kernel
theorem dX4_value_160 : decode cX4_value 160 = .ok (.bipush (-15), 2) := by decide +kernel
theorem dX4_value_162 : decode cX4_value 162 = .ok (.if_icmp .ne 9, 3) := by decide +kernel
theorem dX4_value_165 : decode cX4_value 165 = .ok (.iload 9, 2) := by decide +kernel
theorem dX4_value_167 : decode cX4_value 167 = .ok (.ineg, 1) := by decide +kernel
theorem dX4_value_168 : decode cX4_value 168 = .ok (.goto 13, 3) := by decide +kernel
theorem dX4_value_171 : decode cX4_value 171 = .ok (.iload 9, 2) := by decide +kernel
theorem dX4_value_173 : decode cX4_value 173 = .ok (.ifCond .ne 7, 3) := by decide +kernel
theorem dX4_value_176 : decode cX4_value 176 = .ok (.iconst 1, 1) := by decide +kernel
theorem dX4_value_177 : decode cX4_value 177 = .ok (.goto 4, 3) := by decide +kernel
theorem dX4_value_180 : decode cX4_value 180 = .ok (.iconst 0, 1) := by decide +kernel
theorem dX4_value_181 : decode cX4_value 181 = .ok (.iastore, 1) := by decide +kernel
theorem dX4_value_182 : decode cX4_value 182 = .ok (.goto 33, 3) := by decide +kernel
theorem dX4_value_185 : decode cX4_value 185 = .ok (.iload 6, 2) := by decide +kernel
theorem dX4_value_187 : decode cX4_value 187 = .ok (.iconst 2, 1) := by decide +kernel
theorem dX4_value_188 : decode cX4_value 188 = .ok (.if_icmp .lt 27, 3) := by decide +kernel
theorem dX4_value_191 : decode cX4_value 191 = .ok (.iinc 6 (-1), 3) := by decide +kernel
theorem dX4_value_194 : decode cX4_value 194 = .ok (.aload_n 3, 1) := by decide +kernel
theorem dX4_value_195 : decode cX4_value 195 = .ok (.iload 6, 2) := by decide +kernel
theorem dX4_value_197 : decode cX4_value 197 = .ok (.iconst 1, 1) := by decide +kernel
theorem dX4_value_198 : decode cX4_value 198 = .ok (.isub, 1) := by decide +kernel
theorem dX4_value_199 : decode cX4_value 199 = .ok (.iload 8, 2) := by decide +kernel
theorem dX4_value_201 : decode cX4_value 201 = .ok (.aload_n 3, 1) := by decide +kernel
theorem dX4_value_202 : decode cX4_value 202 = .ok (.iload 6, 2) := by decide +kernel
theorem dX4_value_204 : decode cX4_value 204 = .ok (.iconst 1, 1) := by decide +kernel
theorem dX4_value_205 : decode cX4_value 205 = .ok (.isub, 1) := by decide +kernel
theorem dX4_value_206 : decode cX4_value 206 = .ok (.iaload, 1) := by decide +kernel
theorem dX4_value_207 : decode cX4_value 207 = .ok (.aload_n 3, 1) := by decide +kernel
theorem dX4_value_208 : decode cX4_value 208 = .ok (.iload 6, 2) := by decide +kernel
theorem dX4_value_210 : decode cX4_value 210 = .ok (.iaload, 1) := by decide +kernel
theorem dX4_value_211 : decode cX4_value 211 = .ok (.invokestatic 22, 3) := by decide +kernel
theorem dX4_value_214 : decode cX4_value 214 = .ok (.iastore, 1) := by decide +kernel
theorem dX4_value_215 : decode cX4_value 215 = .ok (.iinc 7 1, 3) := by decide +kernel
theorem dX4_value_218 : decode cX4_value 218 = .ok (.goto (-149), 3) := by decide +kernel
theorem dX4_value_221 : decode cX4_value 221 = .ok (.iload 6, 2) := by decide +kernel
theorem dX4_value_223 : decode cX4_value 223 = .ok (.iconst 1, 1) := by decide +kernel
theorem dX4_value_224 : decode cX4_value 224 = .ok (.if_icmp .lt 9, 3) := by decide +kernel
theorem dX4_value_227 : decode cX4_value 227 = .ok (.aload_n 3, 1) := by decide +kernel
theorem dX4_value_228 : decode cX4_value 228 = .ok (.iconst 0, 1) := by decide +kernel
theorem dX4_value_229 : decode cX4_value 229 = .ok (.iaload, 1) := by decide +kernel
theorem dX4_value_230 : decode cX4_value 230 = .ok (.goto 4, 3) := by decide +kernel
theorem dX4_value_233 : decode cX4_value 233 = .ok (.iconst 0, 1) := by decide +kernel
theorem dX4_value_234 : decode cX4_value 234 = .ok (.ireturn, 1) := by decide +kernel
theorem dX4_join_0 : decode cX4_join 0 = .ok (.iload_n 0, 1) := by decide +kernel
theorem dX4_join_1 : decode cX4_join 1 = .ok (.tableswitch 101 (-13) (-7) #[97, 93, 82, 71, 101, 57, 43], 43) := by decide +kernel
theorem dX4_join_44 : decode cX4_join 44 = .ok (.iload_n 1, 1) := by decide +kernel
theorem dX4_join_45 : decode cX4_join 45 = .ok (.ifCond .ne 7, 3) := by decide +kernel
theorem dX4_join_48 : decode cX4_join 48 = .ok (.iload_n 2, 1) := by decide +kernel
theorem dX4_join_49 : decode cX4_join 49 = .ok (.ifCond .eq 7, 3) := by decide +kernel
theorem dX4_join_52 : decode cX4_join 52 = .ok (.iconst 1, 1) := by decide +kernel
theorem dX4_join_53 : decode cX4_join 53 = .ok (.goto 4, 3) := by decide +kernel
theorem dX4_join_56 : decode cX4_join 56 = .ok (.iconst 0, 1) := by decide +kernel
theorem dX4_join_57 : decode cX4_join 57 = .ok (.ireturn, 1) := by decide +kernel
theorem dX4_join_58 : decode cX4_join 58 = .ok (.iload_n 1, 1) := by decide +kernel
theorem dX4_join_59 : decode cX4_join 59 = .ok (.ifCond .eq 11, 3) := by decide +kernel
theorem dX4_join_62 : decode cX4_join 62 = .ok (.iload_n 2, 1) := by decide +kernel
theorem dX4_join_63 : decode cX4_join 63 = .ok (.ifCond .eq 7, 3) := by decide +kernel
theorem dX4_join_66 : decode cX4_join 66 = .ok (.iconst 1, 1) := by decide +kernel
theorem dX4_join_67 : decode cX4_join 67 = .ok (.goto 4, 3) := by decide +kernel
theorem dX4_join_70 : decode cX4_join 70 = .ok (.iconst 0, 1) := by decide +kernel
theorem dX4_join_71 : decode cX4_join 71 = .ok (.ireturn, 1) := by decide +kernel
theorem dX4_join_72 : decode cX4_join 72 = .ok (.iload_n 1, 1) := by decide +kernel
theorem dX4_join_73 : decode cX4_join 73 = .ok (.iload_n 2, 1) := by decide +kernel
theorem dX4_join_74 : decode cX4_join 74 = .ok (.if_icmp .ge 7, 3) := by decide +kernel
theorem dX4_join_77 : decode cX4_join 77 = .ok (.iconst 1, 1) := by decide +kernel
theorem dX4_join_78 : decode cX4_join 78 = .ok (.goto 4, 3) := by decide +kernel
theorem dX4_join_81 : decode cX4_join 81 = .ok (.iconst 0, 1) := by decide +kernel
theorem dX4_join_82 : decode cX4_join 82 = .ok (.ireturn, 1) := by decide +kernel
theorem dX4_join_83 : decode cX4_join 83 = .ok (.iload_n 1, 1) := by decide +kernel
theorem dX4_join_84 : decode cX4_join 84 = .ok (.iload_n 2, 1) := by decide +kernel
theorem dX4_join_85 : decode cX4_join 85 = .ok (.if_icmp .ne 7, 3) := by decide +kernel
theorem dX4_join_88 : decode cX4_join 88 = .ok (.iconst 1, 1) := by decide +kernel
theorem dX4_join_89 : decode cX4_join 89 = .ok (.goto 4, 3) := by decide +kernel
theorem dX4_join_92 : decode cX4_join 92 = .ok (.iconst 0, 1) := by decide +kernel
theorem dX4_join_93 : decode cX4_join 93 = .ok (.ireturn, 1) := by decide +kernel
theorem dX4_join_94 : decode cX4_join 94 = .ok (.iload_n 1, 1) := by decide +kernel
theorem dX4_join_95 : decode cX4_join 95 = .ok (.iload_n 2, 1) := by decide +kernel
theorem dX4_join_96 : decode cX4_join 96 = .ok (.iadd, 1) := by decide +kernel
theorem dX4_join_97 : decode cX4_join 97 = .ok (.ireturn, 1) := by decide +kernel
theorem dX4_join_98 : decode cX4_join 98 = .ok (.iload_n 1, 1) := by decide +kernel
theorem dX4_join_99 : decode cX4_join 99 = .ok (.iload_n 2, 1) := by decide +kernel
theorem dX4_join_100 : decode cX4_join 100 = .ok (.isub, 1) := by decide +kernel
theorem dX4_join_101 : decode cX4_join 101 = .ok (.ireturn, 1) := by decide +kernel
theorem dX4_join_102 : decode cX4_join 102 = .ok (.iload_n 1, 1) := by decide +kernel
theorem dX4_join_103 : decode cX4_join 103 = .ok (.iload_n 2, 1) := by decide +kernel
theorem dX4_join_104 : decode cX4_join 104 = .ok (.imul, 1) := by decide +kernel
theorem dX4_join_105 : decode cX4_join 105 = .ok (.ireturn, 1) := by decide +kernel
theorem dX5_init_0 : decode cX5_init 0 = .ok (.aload_n 0, 1) := by decide +kernel
theorem dX5_init_1 : decode cX5_init 1 = .ok (.invokespecial 3, 3) := by decide +kernel
theorem dX5_init_4 : decode cX5_init 4 = .ok (.aload_n 0, 1) := by decide +kernel
theorem dX5_init_5 : decode cX5_init 5 = .ok (.new 9, 3) := by decide +kernel
theorem dX5_init_8 : decode cX5_init 8 = .ok (.dup, 1) := by decide +kernel
theorem dX5_init_9 : decode cX5_init 9 = .ok (.invokespecial 11, 3) := by decide +kernel
theorem dX5_init_12 : decode cX5_init 12 = .ok (.putfield 12, 3) := by decide +kernel
theorem dX5_init_15 : decode cX5_init 15 = .ok (.aload_n 0, 1) := by decide +kernel
theorem dX5_init_16 : decode cX5_init 16 = .ok (.new 9, 3) := by decide +kernel
theorem dX5_init_19 : decode cX5_init 19 = .ok (.dup, 1) := by decide +kernel
theorem dX5_init_20 : decode cX5_init 20 = .ok (.invokespecial 11, 3) := by decide +kernel
theorem dX5_init_23 : decode cX5_init 23 = .ok (.putfield 16, 3) := by decide +kernel
theorem dX5_init_26 : decode cX5_init 26 = .ok (.aload_n 0, 1) := by decide +kernel
theorem dX5_init_27 : decode cX5_init 27 = .ok (.new 19, 3) := by decide +kernel
theorem dX5_init_30 : decode cX5_init 30 = .ok (.dup, 1) := by decide +kernel
theorem dX5_init_31 : decode cX5_init 31 = .ok (.invokespecial 21, 3) := by decide +kernel
theorem dX5_init_34 : decode cX5_init 34 = .ok (.putfield 22, 3) := by decide +kernel
theorem dX5_init_37 : decode cX5_init 37 = .ok (.aload_n 0, 1) := by decide +kernel
theorem dX5_init_38 : decode cX5_init 38 = .ok (.new 26, 3) := by decide +kernel
theorem dX5_init_41 : decode cX5_init 41 = .ok (.dup, 1) := by decide +kernel
theorem dX5_init_42 : decode cX5_init 42 = .ok (.invokespecial 28, 3) := by decide +kernel
theorem dX5_init_45 : decode cX5_init 45 = .ok (.putfield 29, 3) := by decide +kernel
theorem dX5_init_48 : decode cX5_init 48 = .ok (.aload_n 0, 1) := by decide +kernel
theorem dX5_init_49 : decode cX5_init 49 = .ok (.bipush 6, 2) := by decide +kernel
theorem dX5_init_51 : decode cX5_init 51 = .ok (.anewarray 33, 3) := by decide +kernel
theorem dX5_init_54 : decode cX5_init 54 = .ok (.putfield 35, 3) := by decide +kernel
theorem dX5_init_57 : decode cX5_init 57 = .ok (.aload_n 0, 1) := by decide +kernel
theorem dX5_init_58 : decode cX5_init 58 = .ok (.iconst 4, 1) := by decide +kernel
theorem dX5_init_59 : decode cX5_init 59 = .ok (.anewarray 39, 3) := by decide +kernel
theorem dX5_init_62 : decode cX5_init 62 = .ok (.putfield 41, 3) := by decide +kernel
theorem dX5_init_65 : decode cX5_init 65 = .ok (.iconst 0, 1) := by decide +kernel
theorem dX5_init_66 : decode cX5_init 66 = .ok (.istore_n 1, 1) := by decide +kernel
theorem dX5_init_67 : decode cX5_init 67 = .ok (.iload_n 1, 1) := by decide +kernel
theorem dX5_init_68 : decode cX5_init 68 = .ok (.iconst 4, 1) := by decide +kernel
theorem dX5_init_69 : decode cX5_init 69 = .ok (.if_icmp .ge 22, 3) := by decide +kernel
theorem dX5_init_72 : decode cX5_init 72 = .ok (.aload_n 0, 1) := by decide +kernel
theorem dX5_init_73 : decode cX5_init 73 = .ok (.getfield 41, 3) := by decide +kernel
theorem dX5_init_76 : decode cX5_init 76 = .ok (.iload_n 1, 1) := by decide +kernel
theorem dX5_init_77 : decode cX5_init 77 = .ok (.new 39, 3) := by decide +kernel
theorem dX5_init_80 : decode cX5_init 80 = .ok (.dup, 1) := by decide +kernel
theorem dX5_init_81 : decode cX5_init 81 = .ok (.invokespecial 45, 3) := by decide +kernel
theorem dX5_init_84 : decode cX5_init 84 = .ok (.aastore, 1) := by decide +kernel
theorem dX5_init_85 : decode cX5_init 85 = .ok (.iinc 1 1, 3) := by decide +kernel
theorem dX5_init_88 : decode cX5_init 88 = .ok (.goto (-21), 3) := by decide +kernel
theorem dX5_init_91 : decode cX5_init 91 = .ok (.iconst 0, 1) := by decide +kernel
theorem dX5_init_92 : decode cX5_init 92 = .ok (.istore_n 1, 1) := by decide +kernel
theorem dX5_init_93 : decode cX5_init 93 = .ok (.iload_n 1, 1) := by decide +kernel
theorem dX5_init_94 : decode cX5_init 94 = .ok (.ldc 46, 2) := by decide +kernel
theorem dX5_init_96 : decode cX5_init 96 = .ok (.invokevirtual 48, 3) := by decide +kernel
theorem dX5_init_99 : decode cX5_init 99 = .ok (.if_icmp .ge 22, 3) := by decide +kernel
theorem dX5_init_102 : decode cX5_init 102 = .ok (.aload_n 0, 1) := by decide +kernel
theorem dX5_init_103 : decode cX5_init 103 = .ok (.getfield 29, 3) := by decide +kernel
theorem dX5_init_106 : decode cX5_init 106 = .ok (.ldc 46, 2) := by decide +kernel
theorem dX5_init_108 : decode cX5_init 108 = .ok (.iload_n 1, 1) := by decide +kernel
theorem dX5_init_109 : decode cX5_init 109 = .ok (.invokevirtual 54, 3) := by decide +kernel
theorem dX5_init_112 : decode cX5_init 112 = .ok (.invokevirtual 58, 3) := by decide +kernel
theorem dX5_init_115 : decode cX5_init 115 = .ok (.iinc 1 1, 3) := by decide +kernel
theorem dX5_init_118 : decode cX5_init 118 = .ok (.goto (-25), 3) := by decide +kernel
theorem dX5_init_121 : decode cX5_init 121 = .ok (.aload_n 0, 1) := by decide +kernel
theorem dX5_init_122 : decode cX5_init 122 = .ok (.getfield 35, 3) := by decide +kernel
theorem dX5_init_125 : decode cX5_init 125 = .ok (.iconst 0, 1) := by decide +kernel
theorem dX5_init_126 : decode cX5_init 126 = .ok (.aload_n 0, 1) := by decide +kernel
theorem dX5_init_127 : decode cX5_init 127 = .ok (.getfield 29, 3) := by decide +kernel
theorem dX5_init_130 : decode cX5_init 130 = .ok (.invokevirtual 62, 3) := by decide +kernel
theorem dX5_init_133 : decode cX5_init 133 = .ok (.aastore, 1) := by decide +kernel
theorem dX5_init_134 : decode cX5_init 134 = .ok (.aload_n 0, 1) := by decide +kernel
theorem dX5_init_135 : decode cX5_init 135 = .ok (.iconst 1, 1) := by decide +kernel
theorem dX5_init_136 : decode cX5_init 136 = .ok (.putfield 66, 3) := by decide +kernel
theorem dX5_init_139 : decode cX5_init 139 = .ok (.aload_n 0, 1) := by decide +kernel
theorem dX5_init_140 : decode cX5_init 140 = .ok (.getfield 29, 3) := by decide +kernel
theorem dX5_init_143 : decode cX5_init 143 = .ok (.invokevirtual 70, 3) := by decide +kernel
theorem dX5_init_146 : decode cX5_init 146 = .ok (.return_, 1) := by decide +kernel
theorem dX5_inmate_0 : decode cX5_inmate 0 = .ok (.iload_n 1, 1) := by decide +kernel
theorem dX5_inmate_1 : decode cX5_inmate 1 = .ok (.ifCond .lt 19, 3) := by decide +kernel
theorem dX5_inmate_4 : decode cX5_inmate 4 = .ok (.iload_n 1, 1) := by decide +kernel
theorem dX5_inmate_5 : decode cX5_inmate 5 = .ok (.bipush 6, 2) := by decide +kernel
theorem dX5_inmate_7 : decode cX5_inmate 7 = .ok (.if_icmp .ge 13, 3) := by decide +kernel
theorem dX5_inmate_10 : decode cX5_inmate 10 = .ok (.iload_n 2, 1) := by decide +kernel
theorem dX5_inmate_11 : decode cX5_inmate 11 = .ok (.ifCond .lt 9, 3) := by decide +kernel
theorem dX5_inmate_14 : decode cX5_inmate 14 = .ok (.iload_n 2, 1) := by decide +kernel
theorem dX5_inmate_15 : decode cX5_inmate 15 = .ok (.bipush 9, 2) := by decide +kernel
theorem dX5_inmate_17 : decode cX5_inmate 17 = .ok (.if_icmp .le 6, 3) := by decide +kernel
theorem dX5_inmate_20 : decode cX5_inmate 20 = .ok (.bipush (-2), 2) := by decide +kernel
theorem dX5_inmate_22 : decode cX5_inmate 22 = .ok (.ireturn, 1) := by decide +kernel
theorem dX5_inmate_23 : decode cX5_inmate 23 = .ok (.aload_n 0, 1) := by decide +kernel
theorem dX5_inmate_24 : decode cX5_inmate 24 = .ok (.getfield 12, 3) := by decide +kernel
theorem dX5_inmate_27 : decode cX5_inmate 27 = .ok (.getfield 73, 3) := by decide +kernel
theorem dX5_inmate_30 : decode cX5_inmate 30 = .ok (.bipush 7, 2) := by decide +kernel
theorem dX5_inmate_32 : decode cX5_inmate 32 = .ok (.if_icmp .lt 6, 3) := by decide +kernel
theorem dX5_inmate_35 : decode cX5_inmate 35 = .ok (.bipush (-4), 2) := by decide +kernel
theorem dX5_inmate_37 : decode cX5_inmate 37 = .ok (.ireturn, 1) := by decide +kernel
theorem dX5_inmate_38 : decode cX5_inmate 38 = .ok (.aload_n 0, 1) := by decide +kernel
theorem dX5_inmate_39 : decode cX5_inmate 39 = .ok (.getfield 12, 3) := by decide +kernel
theorem dX5_inmate_42 : decode cX5_inmate 42 = .ok (.iload_n 1, 1) := by decide +kernel
theorem dX5_inmate_43 : decode cX5_inmate 43 = .ok (.iload_n 2, 1) := by decide +kernel
theorem dX5_inmate_44 : decode cX5_inmate 44 = .ok (.invokevirtual 76, 3) := by decide +kernel
theorem dX5_inmate_47 : decode cX5_inmate 47 = .ok (.ireturn, 1) := by decide +kernel
theorem dX5_like_0 : decode cX5_like 0 = .ok (.aload_n 0, 1) := by decide +kernel
theorem dX5_like_1 : decode cX5_like 1 = .ok (.getfield 12, 3) := by decide +kernel
theorem dX5_like_4 : decode cX5_like 4 = .ok (.iload_n 1, 1) := by decide +kernel
theorem dX5_like_5 : decode cX5_like 5 = .ok (.iload_n 2, 1) := by decide +kernel
theorem dX5_like_6 : decode cX5_like 6 = .ok (.invokevirtual 80, 3) := by decide +kernel
theorem dX5_like_9 : decode cX5_like 9 = .ok (.ifCond .eq 13, 3) := by decide +kernel
theorem dX5_like_12 : decode cX5_like 12 = .ok (.iload_n 3, 1) := by decide +kernel
theorem dX5_like_13 : decode cX5_like 13 = .ok (.ifCond .lt 9, 3) := by decide +kernel
theorem dX5_like_16 : decode cX5_like 16 = .ok (.iload_n 3, 1) := by decide +kernel
theorem dX5_like_17 : decode cX5_like 17 = .ok (.bipush 9, 2) := by decide +kernel
theorem dX5_like_19 : decode cX5_like 19 = .ok (.if_icmp .le 6, 3) := by decide +kernel
theorem dX5_like_22 : decode cX5_like 22 = .ok (.bipush (-2), 2) := by decide +kernel
theorem dX5_like_24 : decode cX5_like 24 = .ok (.ireturn, 1) := by decide +kernel
theorem dX5_like_25 : decode cX5_like 25 = .ok (.aload_n 0, 1) := by decide +kernel
theorem dX5_like_26 : decode cX5_like 26 = .ok (.getfield 12, 3) := by decide +kernel
theorem dX5_like_29 : decode cX5_like 29 = .ok (.iload_n 1, 1) := by decide +kernel
theorem dX5_like_30 : decode cX5_like 30 = .ok (.iload_n 2, 1) := by decide +kernel
theorem dX5_like_31 : decode cX5_like 31 = .ok (.iload_n 3, 1) := by decide +kernel
theorem dX5_like_32 : decode cX5_like 32 = .ok (.invokevirtual 84, 3) := by decide +kernel
theorem dX5_like_35 : decode cX5_like 35 = .ok (.ireturn, 1) := by decide +kernel
theorem dX5_swear_0 : decode cX5_swear 0 = .ok (.aload_n 0, 1) := by decide +kernel
theorem dX5_swear_1 : decode cX5_swear 1 = .ok (.getfield 12, 3) := by decide +kernel
theorem dX5_swear_4 : decode cX5_swear 4 = .ok (.iload_n 1, 1) := by decide +kernel
theorem dX5_swear_5 : decode cX5_swear 5 = .ok (.iload_n 2, 1) := by decide +kernel
theorem dX5_swear_6 : decode cX5_swear 6 = .ok (.invokevirtual 80, 3) := by decide +kernel
theorem dX5_swear_9 : decode cX5_swear 9 = .ok (.ifCond .eq 12, 3) := by decide +kernel
theorem dX5_swear_12 : decode cX5_swear 12 = .ok (.iload_n 3, 1) := by decide +kernel
theorem dX5_swear_13 : decode cX5_swear 13 = .ok (.ifCond .lt 8, 3) := by decide +kernel
theorem dX5_swear_16 : decode cX5_swear 16 = .ok (.iload_n 3, 1) := by decide +kernel
theorem dX5_swear_17 : decode cX5_swear 17 = .ok (.iconst 1, 1) := by decide +kernel
theorem dX5_swear_18 : decode cX5_swear 18 = .ok (.if_icmp .le 6, 3) := by decide +kernel
theorem dX5_swear_21 : decode cX5_swear 21 = .ok (.bipush (-2), 2) := by decide +kernel
theorem dX5_swear_23 : decode cX5_swear 23 = .ok (.ireturn, 1) := by decide +kernel
theorem dX5_swear_24 : decode cX5_swear 24 = .ok (.aload_n 0, 1) := by decide +kernel
theorem dX5_swear_25 : decode cX5_swear 25 = .ok (.getfield 12, 3) := by decide +kernel
theorem dX5_swear_28 : decode cX5_swear 28 = .ok (.getfield 88, 3) := by decide +kernel
theorem dX5_swear_31 : decode cX5_swear 31 = .ok (.iload_n 1, 1) := by decide +kernel
theorem dX5_swear_32 : decode cX5_swear 32 = .ok (.iaload, 1) := by decide +kernel
theorem dX5_swear_33 : decode cX5_swear 33 = .ok (.iload_n 2, 1) := by decide +kernel
theorem dX5_swear_34 : decode cX5_swear 34 = .ok (.invokestatic 92, 3) := by decide +kernel
theorem dX5_swear_37 : decode cX5_swear 37 = .ok (.ifCond .eq 7, 3) := by decide +kernel
theorem dX5_swear_40 : decode cX5_swear 40 = .ok (.iconst 1, 1) := by decide +kernel
theorem dX5_swear_41 : decode cX5_swear 41 = .ok (.goto 4, 3) := by decide +kernel
theorem dX5_swear_44 : decode cX5_swear 44 = .ok (.iconst 0, 1) := by decide +kernel
theorem dX5_swear_45 : decode cX5_swear 45 = .ok (.istore 4, 2) := by decide +kernel
theorem dX5_swear_47 : decode cX5_swear 47 = .ok (.aload_n 0, 1) := by decide +kernel
theorem dX5_swear_48 : decode cX5_swear 48 = .ok (.getfield 12, 3) := by decide +kernel
theorem dX5_swear_51 : decode cX5_swear 51 = .ok (.iload_n 1, 1) := by decide +kernel
theorem dX5_swear_52 : decode cX5_swear 52 = .ok (.iload_n 2, 1) := by decide +kernel
theorem dX5_swear_53 : decode cX5_swear 53 = .ok (.iload_n 3, 1) := by decide +kernel
theorem dX5_swear_54 : decode cX5_swear 54 = .ok (.iconst 1, 1) := by decide +kernel
theorem dX5_swear_55 : decode cX5_swear 55 = .ok (.if_icmp .ne 7, 3) := by decide +kernel
theorem dX5_swear_58 : decode cX5_swear 58 = .ok (.iconst 1, 1) := by decide +kernel
theorem dX5_swear_59 : decode cX5_swear 59 = .ok (.goto 4, 3) := by decide +kernel
theorem dX5_swear_62 : decode cX5_swear 62 = .ok (.iconst 0, 1) := by decide +kernel
theorem dX5_swear_63 : decode cX5_swear 63 = .ok (.invokevirtual 95, 3) := by decide +kernel
theorem dX5_swear_66 : decode cX5_swear 66 = .ok (.iload 4, 2) := by decide +kernel
theorem dX5_swear_68 : decode cX5_swear 68 = .ok (.ireturn, 1) := by decide +kernel
theorem dX5_set_0 : decode cX5_set 0 = .ok (.iload_n 1, 1) := by decide +kernel
theorem dX5_set_1 : decode cX5_set 1 = .ok (.tableswitch 67 0 4 #[35, 41, 47, 53, 60], 35) := by decide +kernel
theorem dX5_set_36 : decode cX5_set 36 = .ok (.aload_n 0, 1) := by decide +kernel
theorem dX5_set_37 : decode cX5_set 37 = .ok (.iload_n 3, 1) := by decide +kernel
theorem dX5_set_38 : decode cX5_set 38 = .ok (.invokevirtual 99, 3) := by decide +kernel
theorem dX5_set_41 : decode cX5_set 41 = .ok (.ireturn, 1) := by decide +kernel
theorem dX5_set_42 : decode cX5_set 42 = .ok (.aload_n 0, 1) := by decide +kernel
theorem dX5_set_43 : decode cX5_set 43 = .ok (.iload_n 3, 1) := by decide +kernel
theorem dX5_set_44 : decode cX5_set 44 = .ok (.invokevirtual 103, 3) := by decide +kernel
theorem dX5_set_47 : decode cX5_set 47 = .ok (.ireturn, 1) := by decide +kernel
theorem dX5_set_48 : decode cX5_set 48 = .ok (.aload_n 0, 1) := by decide +kernel
theorem dX5_set_49 : decode cX5_set 49 = .ok (.iload_n 3, 1) := by decide +kernel
theorem dX5_set_50 : decode cX5_set 50 = .ok (.invokevirtual 106, 3) := by decide +kernel
theorem dX5_set_53 : decode cX5_set 53 = .ok (.ireturn, 1) := by decide +kernel
theorem dX5_set_54 : decode cX5_set 54 = .ok (.aload_n 0, 1) := by decide +kernel
theorem dX5_set_55 : decode cX5_set 55 = .ok (.iload_n 2, 1) := by decide +kernel
theorem dX5_set_56 : decode cX5_set 56 = .ok (.iload_n 3, 1) := by decide +kernel
theorem dX5_set_57 : decode cX5_set 57 = .ok (.invokevirtual 109, 3) := by decide +kernel
theorem dX5_set_60 : decode cX5_set 60 = .ok (.ireturn, 1) := by decide +kernel
theorem dX5_set_61 : decode cX5_set 61 = .ok (.aload_n 0, 1) := by decide +kernel
theorem dX5_set_62 : decode cX5_set 62 = .ok (.iload_n 2, 1) := by decide +kernel
theorem dX5_set_63 : decode cX5_set 63 = .ok (.iload_n 3, 1) := by decide +kernel
theorem dX5_set_64 : decode cX5_set 64 = .ok (.invokevirtual 112, 3) := by decide +kernel
theorem dX5_set_67 : decode cX5_set 67 = .ok (.ireturn, 1) := by decide +kernel
theorem dX5_set_68 : decode cX5_set 68 = .ok (.bipush (-2), 2) := by decide +kernel
theorem dX5_set_70 : decode cX5_set 70 = .ok (.ireturn, 1) := by decide +kernel
theorem dX5_setRent_0 : decode cX5_setRent 0 = .ok (.iload_n 1, 1) := by decide +kernel
theorem dX5_setRent_1 : decode cX5_setRent 1 = .ok (.ifCond .lt 10, 3) := by decide +kernel
theorem dX5_setRent_4 : decode cX5_setRent 4 = .ok (.iload_n 1, 1) := by decide +kernel
theorem dX5_setRent_5 : decode cX5_setRent 5 = .ok (.sipush 9999, 3) := by decide +kernel
theorem dX5_setRent_8 : decode cX5_setRent 8 = .ok (.if_icmp .le 6, 3) := by decide +kernel
theorem dX5_setRent_11 : decode cX5_setRent 11 = .ok (.bipush (-2), 2) := by decide +kernel
theorem dX5_setRent_13 : decode cX5_setRent 13 = .ok (.ireturn, 1) := by decide +kernel
theorem dX5_setRent_14 : decode cX5_setRent 14 = .ok (.aload_n 0, 1) := by decide +kernel
theorem dX5_setRent_15 : decode cX5_setRent 15 = .ok (.getfield 12, 3) := by decide +kernel
theorem dX5_setRent_18 : decode cX5_setRent 18 = .ok (.getfield 115, 3) := by decide +kernel
theorem dX5_setRent_21 : decode cX5_setRent 21 = .ok (.istore_n 2, 1) := by decide +kernel
theorem dX5_setRent_22 : decode cX5_setRent 22 = .ok (.aload_n 0, 1) := by decide +kernel
theorem dX5_setRent_23 : decode cX5_setRent 23 = .ok (.getfield 12, 3) := by decide +kernel
theorem dX5_setRent_26 : decode cX5_setRent 26 = .ok (.iload_n 1, 1) := by decide +kernel
theorem dX5_setRent_27 : decode cX5_setRent 27 = .ok (.putfield 115, 3) := by decide +kernel
theorem dX5_setRent_30 : decode cX5_setRent 30 = .ok (.iload_n 2, 1) := by decide +kernel
theorem dX5_setRent_31 : decode cX5_setRent 31 = .ok (.ireturn, 1) := by decide +kernel
theorem dX5_setNeeded_0 : decode cX5_setNeeded 0 = .ok (.iload_n 1, 1) := by decide +kernel
theorem dX5_setNeeded_1 : decode cX5_setNeeded 1 = .ok (.iconst 2, 1) := by decide +kernel
theorem dX5_setNeeded_2 : decode cX5_setNeeded 2 = .ok (.if_icmp .lt 8, 3) := by decide +kernel
theorem dX5_setNeeded_5 : decode cX5_setNeeded 5 = .ok (.iload_n 1, 1) := by decide +kernel
theorem dX5_setNeeded_6 : decode cX5_setNeeded 6 = .ok (.iconst 5, 1) := by decide +kernel
theorem dX5_setNeeded_7 : decode cX5_setNeeded 7 = .ok (.if_icmp .le 6, 3) := by decide +kernel
theorem dX5_setNeeded_10 : decode cX5_setNeeded 10 = .ok (.bipush (-2), 2) := by decide +kernel
theorem dX5_setNeeded_12 : decode cX5_setNeeded 12 = .ok (.ireturn, 1) := by decide +kernel
theorem dX5_setNeeded_13 : decode cX5_setNeeded 13 = .ok (.aload_n 0, 1) := by decide +kernel
theorem dX5_setNeeded_14 : decode cX5_setNeeded 14 = .ok (.getfield 12, 3) := by decide +kernel
theorem dX5_setNeeded_17 : decode cX5_setNeeded 17 = .ok (.getfield 118, 3) := by decide +kernel
theorem dX5_setNeeded_20 : decode cX5_setNeeded 20 = .ok (.istore_n 2, 1) := by decide +kernel
theorem dX5_setNeeded_21 : decode cX5_setNeeded 21 = .ok (.aload_n 0, 1) := by decide +kernel
theorem dX5_setNeeded_22 : decode cX5_setNeeded 22 = .ok (.getfield 12, 3) := by decide +kernel
theorem dX5_setNeeded_25 : decode cX5_setNeeded 25 = .ok (.iload_n 1, 1) := by decide +kernel
theorem dX5_setNeeded_26 : decode cX5_setNeeded 26 = .ok (.putfield 118, 3) := by decide +kernel
theorem dX5_setNeeded_29 : decode cX5_setNeeded 29 = .ok (.iload_n 2, 1) := by decide +kernel
theorem dX5_setNeeded_30 : decode cX5_setNeeded 30 = .ok (.ireturn, 1) := by decide +kernel
theorem dX5_setDay_0 : decode cX5_setDay 0 = .ok (.iload_n 1, 1) := by decide +kernel
theorem dX5_setDay_1 : decode cX5_setDay 1 = .ok (.ifCond .lt 10, 3) := by decide +kernel
theorem dX5_setDay_4 : decode cX5_setDay 4 = .ok (.iload_n 1, 1) := by decide +kernel
theorem dX5_setDay_5 : decode cX5_setDay 5 = .ok (.sipush 999, 3) := by decide +kernel
theorem dX5_setDay_8 : decode cX5_setDay 8 = .ok (.if_icmp .le 6, 3) := by decide +kernel
theorem dX5_setDay_11 : decode cX5_setDay 11 = .ok (.bipush (-2), 2) := by decide +kernel
theorem dX5_setDay_13 : decode cX5_setDay 13 = .ok (.ireturn, 1) := by decide +kernel
theorem dX5_setDay_14 : decode cX5_setDay 14 = .ok (.aload_n 0, 1) := by decide +kernel
theorem dX5_setDay_15 : decode cX5_setDay 15 = .ok (.getfield 12, 3) := by decide +kernel
theorem dX5_setDay_18 : decode cX5_setDay 18 = .ok (.getfield 121, 3) := by decide +kernel
theorem dX5_setDay_21 : decode cX5_setDay 21 = .ok (.istore_n 2, 1) := by decide +kernel
theorem dX5_setDay_22 : decode cX5_setDay 22 = .ok (.aload_n 0, 1) := by decide +kernel
theorem dX5_setDay_23 : decode cX5_setDay 23 = .ok (.getfield 12, 3) := by decide +kernel
theorem dX5_setDay_26 : decode cX5_setDay 26 = .ok (.iload_n 1, 1) := by decide +kernel
theorem dX5_setDay_27 : decode cX5_setDay 27 = .ok (.putfield 121, 3) := by decide +kernel
theorem dX5_setDay_30 : decode cX5_setDay 30 = .ok (.iload_n 2, 1) := by decide +kernel
theorem dX5_setDay_31 : decode cX5_setDay 31 = .ok (.ireturn, 1) := by decide +kernel
theorem dX5_setNumber_0 : decode cX5_setNumber 0 = .ok (.aload_n 0, 1) := by decide +kernel
theorem dX5_setNumber_1 : decode cX5_setNumber 1 = .ok (.getfield 12, 3) := by decide +kernel
theorem dX5_setNumber_4 : decode cX5_setNumber 4 = .ok (.iload_n 1, 1) := by decide +kernel
theorem dX5_setNumber_5 : decode cX5_setNumber 5 = .ok (.invokevirtual 124, 3) := by decide +kernel
theorem dX5_setNumber_8 : decode cX5_setNumber 8 = .ok (.ifCond .eq 13, 3) := by decide +kernel
theorem dX5_setNumber_11 : decode cX5_setNumber 11 = .ok (.iload_n 2, 1) := by decide +kernel
theorem dX5_setNumber_12 : decode cX5_setNumber 12 = .ok (.ifCond .lt 9, 3) := by decide +kernel
theorem dX5_setNumber_15 : decode cX5_setNumber 15 = .ok (.iload_n 2, 1) := by decide +kernel
theorem dX5_setNumber_16 : decode cX5_setNumber 16 = .ok (.bipush 9, 2) := by decide +kernel
theorem dX5_setNumber_18 : decode cX5_setNumber 18 = .ok (.if_icmp .le 6, 3) := by decide +kernel
theorem dX5_setNumber_21 : decode cX5_setNumber 21 = .ok (.bipush (-2), 2) := by decide +kernel
theorem dX5_setNumber_23 : decode cX5_setNumber 23 = .ok (.ireturn, 1) := by decide +kernel
theorem dX5_setNumber_24 : decode cX5_setNumber 24 = .ok (.aload_n 0, 1) := by decide +kernel
theorem dX5_setNumber_25 : decode cX5_setNumber 25 = .ok (.getfield 12, 3) := by decide +kernel
theorem dX5_setNumber_28 : decode cX5_setNumber 28 = .ok (.getfield 128, 3) := by decide +kernel
theorem dX5_setNumber_31 : decode cX5_setNumber 31 = .ok (.iload_n 1, 1) := by decide +kernel
theorem dX5_setNumber_32 : decode cX5_setNumber 32 = .ok (.iaload, 1) := by decide +kernel
theorem dX5_setNumber_33 : decode cX5_setNumber 33 = .ok (.istore_n 3, 1) := by decide +kernel
theorem dX5_setNumber_34 : decode cX5_setNumber 34 = .ok (.aload_n 0, 1) := by decide +kernel
theorem dX5_setNumber_35 : decode cX5_setNumber 35 = .ok (.getfield 12, 3) := by decide +kernel
theorem dX5_setNumber_38 : decode cX5_setNumber 38 = .ok (.getfield 128, 3) := by decide +kernel
theorem dX5_setNumber_41 : decode cX5_setNumber 41 = .ok (.iload_n 1, 1) := by decide +kernel
theorem dX5_setNumber_42 : decode cX5_setNumber 42 = .ok (.iload_n 2, 1) := by decide +kernel
theorem dX5_setNumber_43 : decode cX5_setNumber 43 = .ok (.iastore, 1) := by decide +kernel
theorem dX5_setNumber_44 : decode cX5_setNumber 44 = .ok (.iload_n 3, 1) := by decide +kernel
theorem dX5_setNumber_45 : decode cX5_setNumber 45 = .ok (.ireturn, 1) := by decide +kernel
theorem dX5_setIn_0 : decode cX5_setIn 0 = .ok (.aload_n 0, 1) := by decide +kernel
theorem dX5_setIn_1 : decode cX5_setIn 1 = .ok (.getfield 12, 3) := by decide +kernel
theorem dX5_setIn_4 : decode cX5_setIn 4 = .ok (.iload_n 1, 1) := by decide +kernel
theorem dX5_setIn_5 : decode cX5_setIn 5 = .ok (.invokevirtual 124, 3) := by decide +kernel
theorem dX5_setIn_8 : decode cX5_setIn 8 = .ok (.ifCond .eq 12, 3) := by decide +kernel
theorem dX5_setIn_11 : decode cX5_setIn 11 = .ok (.iload_n 2, 1) := by decide +kernel
theorem dX5_setIn_12 : decode cX5_setIn 12 = .ok (.ifCond .lt 8, 3) := by decide +kernel
theorem dX5_setIn_15 : decode cX5_setIn 15 = .ok (.iload_n 2, 1) := by decide +kernel
theorem dX5_setIn_16 : decode cX5_setIn 16 = .ok (.iconst 1, 1) := by decide +kernel
theorem dX5_setIn_17 : decode cX5_setIn 17 = .ok (.if_icmp .le 6, 3) := by decide +kernel
theorem dX5_setIn_20 : decode cX5_setIn 20 = .ok (.bipush (-2), 2) := by decide +kernel
theorem dX5_setIn_22 : decode cX5_setIn 22 = .ok (.ireturn, 1) := by decide +kernel
theorem dX5_setIn_23 : decode cX5_setIn 23 = .ok (.aload_n 0, 1) := by decide +kernel
theorem dX5_setIn_24 : decode cX5_setIn 24 = .ok (.getfield 12, 3) := by decide +kernel
theorem dX5_setIn_27 : decode cX5_setIn 27 = .ok (.iload_n 1, 1) := by decide +kernel
theorem dX5_setIn_28 : decode cX5_setIn 28 = .ok (.invokevirtual 131, 3) := by decide +kernel
theorem dX5_setIn_31 : decode cX5_setIn 31 = .ok (.ifCond .eq 7, 3) := by decide +kernel
theorem dX5_setIn_34 : decode cX5_setIn 34 = .ok (.iconst 1, 1) := by decide +kernel
theorem dX5_setIn_35 : decode cX5_setIn 35 = .ok (.goto 4, 3) := by decide +kernel
theorem dX5_setIn_38 : decode cX5_setIn 38 = .ok (.iconst 0, 1) := by decide +kernel
theorem dX5_setIn_39 : decode cX5_setIn 39 = .ok (.istore_n 3, 1) := by decide +kernel
theorem dX5_setIn_40 : decode cX5_setIn 40 = .ok (.aload_n 0, 1) := by decide +kernel
theorem dX5_setIn_41 : decode cX5_setIn 41 = .ok (.getfield 12, 3) := by decide +kernel
theorem dX5_setIn_44 : decode cX5_setIn 44 = .ok (.iload_n 2, 1) := by decide +kernel
theorem dX5_setIn_45 : decode cX5_setIn 45 = .ok (.iconst 1, 1) := by decide +kernel
theorem dX5_setIn_46 : decode cX5_setIn 46 = .ok (.if_icmp .ne 18, 3) := by decide +kernel
theorem dX5_setIn_49 : decode cX5_setIn 49 = .ok (.aload_n 0, 1) := by decide +kernel
theorem dX5_setIn_50 : decode cX5_setIn 50 = .ok (.getfield 12, 3) := by decide +kernel
theorem dX5_setIn_53 : decode cX5_setIn 53 = .ok (.getfield 134, 3) := by decide +kernel
theorem dX5_setIn_56 : decode cX5_setIn 56 = .ok (.iload_n 1, 1) := by decide +kernel
theorem dX5_setIn_57 : decode cX5_setIn 57 = .ok (.invokestatic 137, 3) := by decide +kernel
theorem dX5_setIn_60 : decode cX5_setIn 60 = .ok (.ior, 1) := by decide +kernel
theorem dX5_setIn_61 : decode cX5_setIn 61 = .ok (.goto 17, 3) := by decide +kernel
theorem dX5_setIn_64 : decode cX5_setIn 64 = .ok (.aload_n 0, 1) := by decide +kernel
theorem dX5_setIn_65 : decode cX5_setIn 65 = .ok (.getfield 12, 3) := by decide +kernel
theorem dX5_setIn_68 : decode cX5_setIn 68 = .ok (.getfield 134, 3) := by decide +kernel
theorem dX5_setIn_71 : decode cX5_setIn 71 = .ok (.iload_n 1, 1) := by decide +kernel
theorem dX5_setIn_72 : decode cX5_setIn 72 = .ok (.invokestatic 137, 3) := by decide +kernel
theorem dX5_setIn_75 : decode cX5_setIn 75 = .ok (.iconst (-1), 1) := by decide +kernel
theorem dX5_setIn_76 : decode cX5_setIn 76 = .ok (.ixor, 1) := by decide +kernel
theorem dX5_setIn_77 : decode cX5_setIn 77 = .ok (.iand, 1) := by decide +kernel
theorem dX5_setIn_78 : decode cX5_setIn 78 = .ok (.putfield 134, 3) := by decide +kernel
theorem dX5_setIn_81 : decode cX5_setIn 81 = .ok (.iload_n 3, 1) := by decide +kernel
theorem dX5_setIn_82 : decode cX5_setIn 82 = .ok (.ireturn, 1) := by decide +kernel
theorem dX5_told_0 : decode cX5_told 0 = .ok (.aload_n 0, 1) := by decide +kernel
theorem dX5_told_1 : decode cX5_told 1 = .ok (.getfield 12, 3) := by decide +kernel
theorem dX5_told_4 : decode cX5_told 4 = .ok (.iload_n 1, 1) := by decide +kernel
theorem dX5_told_5 : decode cX5_told 5 = .ok (.invokevirtual 124, 3) := by decide +kernel
theorem dX5_told_8 : decode cX5_told 8 = .ok (.ifCond .ne 6, 3) := by decide +kernel
theorem dX5_told_11 : decode cX5_told 11 = .ok (.ldc 140, 2) := by decide +kernel
theorem dX5_told_13 : decode cX5_told 13 = .ok (.ireturn, 1) := by decide +kernel
theorem dX5_told_14 : decode cX5_told 14 = .ok (.aload_n 0, 1) := by decide +kernel
theorem dX5_told_15 : decode cX5_told 15 = .ok (.getfield 12, 3) := by decide +kernel
theorem dX5_told_18 : decode cX5_told 18 = .ok (.getfield 134, 3) := by decide +kernel
theorem dX5_told_21 : decode cX5_told 21 = .ok (.invokestatic 141, 3) := by decide +kernel
theorem dX5_told_24 : decode cX5_told 24 = .ok (.istore_n 3, 1) := by decide +kernel
theorem dX5_told_25 : decode cX5_told 25 = .ok (.iload_n 2, 1) := by decide +kernel
theorem dX5_told_26 : decode cX5_told 26 = .ok (.tableswitch 157 0 7 #[46, 56, 66, 83, 93, 104, 115, 147], 46) := by decide +kernel
theorem dX5_told_72 : decode cX5_told 72 = .ok (.aload_n 0, 1) := by decide +kernel
theorem dX5_told_73 : decode cX5_told 73 = .ok (.getfield 12, 3) := by decide +kernel
theorem dX5_told_76 : decode cX5_told 76 = .ok (.getfield 146, 3) := by decide +kernel
theorem dX5_told_79 : decode cX5_told 79 = .ok (.iload_n 1, 1) := by decide +kernel
theorem dX5_told_80 : decode cX5_told 80 = .ok (.iaload, 1) := by decide +kernel
theorem dX5_told_81 : decode cX5_told 81 = .ok (.ireturn, 1) := by decide +kernel
theorem dX5_told_82 : decode cX5_told 82 = .ok (.aload_n 0, 1) := by decide +kernel
theorem dX5_told_83 : decode cX5_told 83 = .ok (.getfield 12, 3) := by decide +kernel
theorem dX5_told_86 : decode cX5_told 86 = .ok (.getfield 128, 3) := by decide +kernel
theorem dX5_told_89 : decode cX5_told 89 = .ok (.iload_n 1, 1) := by decide +kernel
theorem dX5_told_90 : decode cX5_told 90 = .ok (.iaload, 1) := by decide +kernel
theorem dX5_told_91 : decode cX5_told 91 = .ok (.ireturn, 1) := by decide +kernel
theorem dX5_told_92 : decode cX5_told 92 = .ok (.aload_n 0, 1) := by decide +kernel
theorem dX5_told_93 : decode cX5_told 93 = .ok (.getfield 12, 3) := by decide +kernel
theorem dX5_told_96 : decode cX5_told 96 = .ok (.iload_n 1, 1) := by decide +kernel
theorem dX5_told_97 : decode cX5_told 97 = .ok (.invokevirtual 131, 3) := by decide +kernel
theorem dX5_told_100 : decode cX5_told 100 = .ok (.ifCond .eq 7, 3) := by decide +kernel
theorem dX5_told_103 : decode cX5_told 103 = .ok (.iconst 1, 1) := by decide +kernel
theorem dX5_told_104 : decode cX5_told 104 = .ok (.goto 4, 3) := by decide +kernel
theorem dX5_told_107 : decode cX5_told 107 = .ok (.iconst 0, 1) := by decide +kernel
theorem dX5_told_108 : decode cX5_told 108 = .ok (.ireturn, 1) := by decide +kernel
theorem dX5_told_109 : decode cX5_told 109 = .ok (.aload_n 0, 1) := by decide +kernel
theorem dX5_told_110 : decode cX5_told 110 = .ok (.getfield 12, 3) := by decide +kernel
theorem dX5_told_113 : decode cX5_told 113 = .ok (.iload_n 1, 1) := by decide +kernel
theorem dX5_told_114 : decode cX5_told 114 = .ok (.iload_n 3, 1) := by decide +kernel
theorem dX5_told_115 : decode cX5_told 115 = .ok (.invokevirtual 149, 3) := by decide +kernel
theorem dX5_told_118 : decode cX5_told 118 = .ok (.ireturn, 1) := by decide +kernel
theorem dX5_told_119 : decode cX5_told 119 = .ok (.aload_n 0, 1) := by decide +kernel
theorem dX5_told_120 : decode cX5_told 120 = .ok (.getfield 12, 3) := by decide +kernel
theorem dX5_told_123 : decode cX5_told 123 = .ok (.iload_n 1, 1) := by decide +kernel
theorem dX5_told_124 : decode cX5_told 124 = .ok (.iload_n 3, 1) := by decide +kernel
theorem dX5_told_125 : decode cX5_told 125 = .ok (.iconst 0, 1) := by decide +kernel
theorem dX5_told_126 : decode cX5_told 126 = .ok (.invokevirtual 152, 3) := by decide +kernel
theorem dX5_told_129 : decode cX5_told 129 = .ok (.ireturn, 1) := by decide +kernel
theorem dX5_told_130 : decode cX5_told 130 = .ok (.aload_n 0, 1) := by decide +kernel
theorem dX5_told_131 : decode cX5_told 131 = .ok (.getfield 12, 3) := by decide +kernel
theorem dX5_told_134 : decode cX5_told 134 = .ok (.iload_n 1, 1) := by decide +kernel
theorem dX5_told_135 : decode cX5_told 135 = .ok (.iload_n 3, 1) := by decide +kernel
theorem dX5_told_136 : decode cX5_told 136 = .ok (.iconst 1, 1) := by decide +kernel
theorem dX5_told_137 : decode cX5_told 137 = .ok (.invokevirtual 152, 3) := by decide +kernel
theorem dX5_told_140 : decode cX5_told 140 = .ok (.ireturn, 1) := by decide +kernel
theorem dX5_told_141 : decode cX5_told 141 = .ok (.aload_n 0, 1) := by decide +kernel
theorem dX5_told_142 : decode cX5_told 142 = .ok (.getfield 12, 3) := by decide +kernel
theorem dX5_told_145 : decode cX5_told 145 = .ok (.iload_n 1, 1) := by decide +kernel
theorem dX5_told_146 : decode cX5_told 146 = .ok (.invokevirtual 131, 3) := by decide +kernel
theorem dX5_told_149 : decode cX5_told 149 = .ok (.ifCond .eq 22, 3) := by decide +kernel
theorem dX5_told_152 : decode cX5_told 152 = .ok (.aload_n 0, 1) := by decide +kernel
theorem dX5_told_153 : decode cX5_told 153 = .ok (.invokevirtual 156, 3) := by decide +kernel
theorem dX5_told_156 : decode cX5_told 156 = .ok (.iload_n 1, 1) := by decide +kernel
theorem dX5_told_157 : decode cX5_told 157 = .ok (.aload_n 0, 1) := by decide +kernel
theorem dX5_told_158 : decode cX5_told 158 = .ok (.getfield 12, 3) := by decide +kernel
theorem dX5_told_161 : decode cX5_told 161 = .ok (.getfield 134, 3) := by decide +kernel
theorem dX5_told_164 : decode cX5_told 164 = .ok (.iload_n 3, 1) := by decide +kernel
theorem dX5_told_165 : decode cX5_told 165 = .ok (.invokevirtual 160, 3) := by decide +kernel
theorem dX5_told_168 : decode cX5_told 168 = .ok (.goto 4, 3) := by decide +kernel
theorem dX5_told_171 : decode cX5_told 171 = .ok (.iconst 0, 1) := by decide +kernel
theorem dX5_told_172 : decode cX5_told 172 = .ok (.ireturn, 1) := by decide +kernel
theorem dX5_told_173 : decode cX5_told 173 = .ok (.aload_n 0, 1) := by decide +kernel
theorem dX5_told_174 : decode cX5_told 174 = .ok (.getfield 12, 3) := by decide +kernel
theorem dX5_told_177 : decode cX5_told 177 = .ok (.getfield 88, 3) := by decide +kernel
theorem dX5_told_180 : decode cX5_told 180 = .ok (.iload_n 1, 1) := by decide +kernel
theorem dX5_told_181 : decode cX5_told 181 = .ok (.iaload, 1) := by decide +kernel
theorem dX5_told_182 : decode cX5_told 182 = .ok (.ireturn, 1) := by decide +kernel
theorem dX5_told_183 : decode cX5_told 183 = .ok (.ldc 140, 2) := by decide +kernel
theorem dX5_told_185 : decode cX5_told 185 = .ok (.ireturn, 1) := by decide +kernel
theorem dX5_feed_0 : decode cX5_feed 0 = .ok (.iload_n 1, 1) := by decide +kernel
theorem dX5_feed_1 : decode cX5_feed 1 = .ok (.ifCond .lt 10, 3) := by decide +kernel
theorem dX5_feed_4 : decode cX5_feed 4 = .ok (.iload_n 1, 1) := by decide +kernel
theorem dX5_feed_5 : decode cX5_feed 5 = .ok (.sipush 255, 3) := by decide +kernel
theorem dX5_feed_8 : decode cX5_feed 8 = .ok (.if_icmp .le 6, 3) := by decide +kernel
theorem dX5_feed_11 : decode cX5_feed 11 = .ok (.bipush (-2), 2) := by decide +kernel
theorem dX5_feed_13 : decode cX5_feed 13 = .ok (.ireturn, 1) := by decide +kernel
theorem dX5_feed_14 : decode cX5_feed 14 = .ok (.aload_n 0, 1) := by decide +kernel
theorem dX5_feed_15 : decode cX5_feed 15 = .ok (.getfield 29, 3) := by decide +kernel
theorem dX5_feed_18 : decode cX5_feed 18 = .ok (.getfield 163, 3) := by decide +kernel
theorem dX5_feed_21 : decode cX5_feed 21 = .ok (.sipush 160, 3) := by decide +kernel
theorem dX5_feed_24 : decode cX5_feed 24 = .ok (.if_icmp .lt 6, 3) := by decide +kernel
theorem dX5_feed_27 : decode cX5_feed 27 = .ok (.bipush (-4), 2) := by decide +kernel
theorem dX5_feed_29 : decode cX5_feed 29 = .ok (.ireturn, 1) := by decide +kernel
theorem dX5_feed_30 : decode cX5_feed 30 = .ok (.aload_n 0, 1) := by decide +kernel
theorem dX5_feed_31 : decode cX5_feed 31 = .ok (.getfield 29, 3) := by decide +kernel
theorem dX5_feed_34 : decode cX5_feed 34 = .ok (.iload_n 1, 1) := by decide +kernel
theorem dX5_feed_35 : decode cX5_feed 35 = .ok (.invokevirtual 58, 3) := by decide +kernel
theorem dX5_feed_38 : decode cX5_feed 38 = .ok (.aload_n 0, 1) := by decide +kernel
theorem dX5_feed_39 : decode cX5_feed 39 = .ok (.getfield 29, 3) := by decide +kernel
theorem dX5_feed_42 : decode cX5_feed 42 = .ok (.getfield 163, 3) := by decide +kernel
theorem dX5_feed_45 : decode cX5_feed 45 = .ok (.ireturn, 1) := by decide +kernel
theorem dX5_text_0 : decode cX5_text 0 = .ok (.aload_n 0, 1) := by decide +kernel
theorem dX5_text_1 : decode cX5_text 1 = .ok (.getfield 66, 3) := by decide +kernel
theorem dX5_text_4 : decode cX5_text 4 = .ok (.bipush 6, 2) := by decide +kernel
theorem dX5_text_6 : decode cX5_text 6 = .ok (.if_icmp .lt 6, 3) := by decide +kernel
theorem dX5_text_9 : decode cX5_text 9 = .ok (.bipush (-4), 2) := by decide +kernel
theorem dX5_text_11 : decode cX5_text 11 = .ok (.ireturn, 1) := by decide +kernel
theorem dX5_text_12 : decode cX5_text 12 = .ok (.aload_n 0, 1) := by decide +kernel
theorem dX5_text_13 : decode cX5_text 13 = .ok (.getfield 29, 3) := by decide +kernel
theorem dX5_text_16 : decode cX5_text 16 = .ok (.invokevirtual 62, 3) := by decide +kernel
theorem dX5_text_19 : decode cX5_text 19 = .ok (.astore_n 1, 1) := by decide +kernel
theorem dX5_text_20 : decode cX5_text 20 = .ok (.aload_n 0, 1) := by decide +kernel
theorem dX5_text_21 : decode cX5_text 21 = .ok (.getfield 29, 3) := by decide +kernel
theorem dX5_text_24 : decode cX5_text 24 = .ok (.invokevirtual 166, 3) := by decide +kernel
theorem dX5_text_27 : decode cX5_text 27 = .ok (.istore_n 2, 1) := by decide +kernel
theorem dX5_text_28 : decode cX5_text 28 = .ok (.aload_n 0, 1) := by decide +kernel
theorem dX5_text_29 : decode cX5_text 29 = .ok (.getfield 29, 3) := by decide +kernel
theorem dX5_text_32 : decode cX5_text 32 = .ok (.invokevirtual 70, 3) := by decide +kernel
theorem dX5_text_35 : decode cX5_text 35 = .ok (.aload_n 1, 1) := by decide +kernel
theorem dX5_text_36 : decode cX5_text 36 = .ok (.ifnonnull 8, 3) := by decide +kernel
theorem dX5_text_39 : decode cX5_text 39 = .ok (.bipush (-100), 2) := by decide +kernel
theorem dX5_text_41 : decode cX5_text 41 = .ok (.iload_n 2, 1) := by decide +kernel
theorem dX5_text_42 : decode cX5_text 42 = .ok (.isub, 1) := by decide +kernel
theorem dX5_text_43 : decode cX5_text 43 = .ok (.ireturn, 1) := by decide +kernel
theorem dX5_text_44 : decode cX5_text 44 = .ok (.aload_n 0, 1) := by decide +kernel
theorem dX5_text_45 : decode cX5_text 45 = .ok (.getfield 35, 3) := by decide +kernel
theorem dX5_text_48 : decode cX5_text 48 = .ok (.aload_n 0, 1) := by decide +kernel
theorem dX5_text_49 : decode cX5_text 49 = .ok (.getfield 66, 3) := by decide +kernel
theorem dX5_text_52 : decode cX5_text 52 = .ok (.aload_n 1, 1) := by decide +kernel
theorem dX5_text_53 : decode cX5_text 53 = .ok (.aastore, 1) := by decide +kernel
theorem dX5_text_54 : decode cX5_text 54 = .ok (.aload_n 0, 1) := by decide +kernel
theorem dX5_text_55 : decode cX5_text 55 = .ok (.dup, 1) := by decide +kernel
theorem dX5_text_56 : decode cX5_text 56 = .ok (.getfield 66, 3) := by decide +kernel
theorem dX5_text_59 : decode cX5_text 59 = .ok (.iconst 1, 1) := by decide +kernel
theorem dX5_text_60 : decode cX5_text 60 = .ok (.iadd, 1) := by decide +kernel
theorem dX5_text_61 : decode cX5_text 61 = .ok (.putfield 66, 3) := by decide +kernel
theorem dX5_text_64 : decode cX5_text 64 = .ok (.aload_n 0, 1) := by decide +kernel
theorem dX5_text_65 : decode cX5_text 65 = .ok (.getfield 66, 3) := by decide +kernel
theorem dX5_text_68 : decode cX5_text 68 = .ok (.iconst 1, 1) := by decide +kernel
theorem dX5_text_69 : decode cX5_text 69 = .ok (.isub, 1) := by decide +kernel
theorem dX5_text_70 : decode cX5_text 70 = .ok (.ireturn, 1) := by decide +kernel
theorem dX5_force_0 : decode cX5_force 0 = .ok (.iload_n 1, 1) := by decide +kernel
theorem dX5_force_1 : decode cX5_force 1 = .ok (.ifCond .lt 11, 3) := by decide +kernel
theorem dX5_force_4 : decode cX5_force 4 = .ok (.iload_n 1, 1) := by decide +kernel
theorem dX5_force_5 : decode cX5_force 5 = .ok (.aload_n 0, 1) := by decide +kernel
theorem dX5_force_6 : decode cX5_force 6 = .ok (.getfield 66, 3) := by decide +kernel
theorem dX5_force_9 : decode cX5_force 9 = .ok (.if_icmp .lt 6, 3) := by decide +kernel
theorem dX5_force_12 : decode cX5_force 12 = .ok (.bipush (-2), 2) := by decide +kernel
theorem dX5_force_14 : decode cX5_force 14 = .ok (.ireturn, 1) := by decide +kernel
theorem dX5_force_15 : decode cX5_force 15 = .ok (.aload_n 0, 1) := by decide +kernel
theorem dX5_force_16 : decode cX5_force 16 = .ok (.getfield 12, 3) := by decide +kernel
theorem dX5_force_19 : decode cX5_force 19 = .ok (.getfield 169, 3) := by decide +kernel
theorem dX5_force_22 : decode cX5_force 22 = .ok (.istore_n 2, 1) := by decide +kernel
theorem dX5_force_23 : decode cX5_force 23 = .ok (.aload_n 0, 1) := by decide +kernel
theorem dX5_force_24 : decode cX5_force 24 = .ok (.getfield 12, 3) := by decide +kernel
theorem dX5_force_27 : decode cX5_force 27 = .ok (.iload_n 1, 1) := by decide +kernel
theorem dX5_force_28 : decode cX5_force 28 = .ok (.putfield 169, 3) := by decide +kernel
theorem dX5_force_31 : decode cX5_force 31 = .ok (.iload_n 2, 1) := by decide +kernel
theorem dX5_force_32 : decode cX5_force 32 = .ok (.ireturn, 1) := by decide +kernel
theorem dX5_would_0 : decode cX5_would 0 = .ok (.aload_n 0, 1) := by decide +kernel
theorem dX5_would_1 : decode cX5_would 1 = .ok (.iload_n 1, 1) := by decide +kernel
theorem dX5_would_2 : decode cX5_would 2 = .ok (.iload_n 2, 1) := by decide +kernel
theorem dX5_would_3 : decode cX5_would 3 = .ok (.invokevirtual 172, 3) := by decide +kernel
theorem dX5_would_6 : decode cX5_would 6 = .ok (.ifCond .ne 6, 3) := by decide +kernel
theorem dX5_would_9 : decode cX5_would 9 = .ok (.bipush (-2), 2) := by decide +kernel
theorem dX5_would_11 : decode cX5_would 11 = .ok (.ireturn, 1) := by decide +kernel
theorem dX5_would_12 : decode cX5_would 12 = .ok (.aload_n 0, 1) := by decide +kernel
theorem dX5_would_13 : decode cX5_would 13 = .ok (.invokevirtual 175, 3) := by decide +kernel
theorem dX5_would_16 : decode cX5_would 16 = .ok (.iload_n 1, 1) := by decide +kernel
theorem dX5_would_17 : decode cX5_would 17 = .ok (.iload_n 2, 1) := by decide +kernel
theorem dX5_would_18 : decode cX5_would 18 = .ok (.invokevirtual 178, 3) := by decide +kernel
theorem dX5_would_21 : decode cX5_would 21 = .ok (.ifCond .eq 7, 3) := by decide +kernel
theorem dX5_would_24 : decode cX5_would 24 = .ok (.iconst 1, 1) := by decide +kernel
theorem dX5_would_25 : decode cX5_would 25 = .ok (.goto 4, 3) := by decide +kernel
theorem dX5_would_28 : decode cX5_would 28 = .ok (.iconst 0, 1) := by decide +kernel
theorem dX5_would_29 : decode cX5_would 29 = .ok (.ireturn, 1) := by decide +kernel
theorem dX5_now_0 : decode cX5_now 0 = .ok (.iload_n 1, 1) := by decide +kernel
theorem dX5_now_1 : decode cX5_now 1 = .ok (.ifCond .lt 8, 3) := by decide +kernel
theorem dX5_now_4 : decode cX5_now 4 = .ok (.iload_n 1, 1) := by decide +kernel
theorem dX5_now_5 : decode cX5_now 5 = .ok (.iconst 2, 1) := by decide +kernel
theorem dX5_now_6 : decode cX5_now 6 = .ok (.if_icmp .le 6, 3) := by decide +kernel
theorem dX5_now_9 : decode cX5_now 9 = .ok (.bipush (-2), 2) := by decide +kernel
theorem dX5_now_11 : decode cX5_now 11 = .ok (.ireturn, 1) := by decide +kernel
theorem dX5_now_12 : decode cX5_now 12 = .ok (.aload_n 0, 1) := by decide +kernel
theorem dX5_now_13 : decode cX5_now 13 = .ok (.invokevirtual 175, 3) := by decide +kernel
theorem dX5_now_16 : decode cX5_now 16 = .ok (.pop, 1) := by decide +kernel
theorem dX5_now_17 : decode cX5_now 17 = .ok (.aload_n 0, 1) := by decide +kernel
theorem dX5_now_18 : decode cX5_now 18 = .ok (.getfield 22, 3) := by decide +kernel
theorem dX5_now_21 : decode cX5_now 21 = .ok (.invokevirtual 181, 3) := by decide +kernel
theorem dX5_now_24 : decode cX5_now 24 = .ok (.istore_n 2, 1) := by decide +kernel
theorem dX5_now_25 : decode cX5_now 25 = .ok (.iload_n 1, 1) := by decide +kernel
theorem dX5_now_26 : decode cX5_now 26 = .ok (.ifCond .ne 21, 3) := by decide +kernel
theorem dX5_now_29 : decode cX5_now 29 = .ok (.iload_n 2, 1) := by decide +kernel
theorem dX5_now_30 : decode cX5_now 30 = .ok (.iconst (-1), 1) := by decide +kernel
theorem dX5_now_31 : decode cX5_now 31 = .ok (.if_icmp .ne 7, 3) := by decide +kernel
theorem dX5_now_34 : decode cX5_now 34 = .ok (.iconst (-1), 1) := by decide +kernel
theorem dX5_now_35 : decode cX5_now 35 = .ok (.goto 11, 3) := by decide +kernel
theorem dX5_now_38 : decode cX5_now 38 = .ok (.aload_n 0, 1) := by decide +kernel
theorem dX5_now_39 : decode cX5_now 39 = .ok (.getfield 22, 3) := by decide +kernel
theorem dX5_now_42 : decode cX5_now 42 = .ok (.iload_n 2, 1) := by decide +kernel
theorem dX5_now_43 : decode cX5_now 43 = .ok (.invokevirtual 184, 3) := by decide +kernel
theorem dX5_now_46 : decode cX5_now 46 = .ok (.ireturn, 1) := by decide +kernel
theorem dX5_now_47 : decode cX5_now 47 = .ok (.iload_n 1, 1) := by decide +kernel
theorem dX5_now_48 : decode cX5_now 48 = .ok (.iconst 1, 1) := by decide +kernel
theorem dX5_now_49 : decode cX5_now 49 = .ok (.if_icmp .ne 7, 3) := by decide +kernel
theorem dX5_now_52 : decode cX5_now 52 = .ok (.iload_n 2, 1) := by decide +kernel
theorem dX5_now_53 : decode cX5_now 53 = .ok (.goto 10, 3) := by decide +kernel
theorem dX5_now_56 : decode cX5_now 56 = .ok (.aload_n 0, 1) := by decide +kernel
theorem dX5_now_57 : decode cX5_now 57 = .ok (.getfield 22, 3) := by decide +kernel
theorem dX5_now_60 : decode cX5_now 60 = .ok (.invokevirtual 187, 3) := by decide +kernel
theorem dX5_now_63 : decode cX5_now 63 = .ok (.ireturn, 1) := by decide +kernel
theorem dX5_turnOut_0 : decode cX5_turnOut 0 = .ok (.aload_n 0, 1) := by decide +kernel
theorem dX5_turnOut_1 : decode cX5_turnOut 1 = .ok (.iload_n 1, 1) := by decide +kernel
theorem dX5_turnOut_2 : decode cX5_turnOut 2 = .ok (.iload_n 2, 1) := by decide +kernel
theorem dX5_turnOut_3 : decode cX5_turnOut 3 = .ok (.invokevirtual 172, 3) := by decide +kernel
theorem dX5_turnOut_6 : decode cX5_turnOut 6 = .ok (.ifCond .ne 6, 3) := by decide +kernel
theorem dX5_turnOut_9 : decode cX5_turnOut 9 = .ok (.bipush (-2), 2) := by decide +kernel
theorem dX5_turnOut_11 : decode cX5_turnOut 11 = .ok (.ireturn, 1) := by decide +kernel
theorem dX5_turnOut_12 : decode cX5_turnOut 12 = .ok (.aload_n 0, 1) := by decide +kernel
theorem dX5_turnOut_13 : decode cX5_turnOut 13 = .ok (.invokevirtual 175, 3) := by decide +kernel
theorem dX5_turnOut_16 : decode cX5_turnOut 16 = .ok (.iload_n 1, 1) := by decide +kernel
theorem dX5_turnOut_17 : decode cX5_turnOut 17 = .ok (.iload_n 2, 1) := by decide +kernel
theorem dX5_turnOut_18 : decode cX5_turnOut 18 = .ok (.invokevirtual 178, 3) := by decide +kernel
theorem dX5_turnOut_21 : decode cX5_turnOut 21 = .ok (.ifCond .ne 6, 3) := by decide +kernel
theorem dX5_turnOut_24 : decode cX5_turnOut 24 = .ok (.bipush (-3), 2) := by decide +kernel
theorem dX5_turnOut_26 : decode cX5_turnOut 26 = .ok (.ireturn, 1) := by decide +kernel
theorem dX5_turnOut_27 : decode cX5_turnOut 27 = .ok (.aload_n 0, 1) := by decide +kernel
theorem dX5_turnOut_28 : decode cX5_turnOut 28 = .ok (.getfield 12, 3) := by decide +kernel
theorem dX5_turnOut_31 : decode cX5_turnOut 31 = .ok (.iload_n 2, 1) := by decide +kernel
theorem dX5_turnOut_32 : decode cX5_turnOut 32 = .ok (.invokevirtual 190, 3) := by decide +kernel
theorem dX5_turnOut_35 : decode cX5_turnOut 35 = .ok (.aload_n 0, 1) := by decide +kernel
theorem dX5_turnOut_36 : decode cX5_turnOut 36 = .ok (.getfield 12, 3) := by decide +kernel
theorem dX5_turnOut_39 : decode cX5_turnOut 39 = .ok (.invokevirtual 193, 3) := by decide +kernel
theorem dX5_turnOut_42 : decode cX5_turnOut 42 = .ok (.aload_n 0, 1) := by decide +kernel
theorem dX5_turnOut_43 : decode cX5_turnOut 43 = .ok (.getfield 12, 3) := by decide +kernel
theorem dX5_turnOut_46 : decode cX5_turnOut 46 = .ok (.getfield 134, 3) := by decide +kernel
theorem dX5_turnOut_49 : decode cX5_turnOut 49 = .ok (.invokestatic 141, 3) := by decide +kernel
theorem dX5_turnOut_52 : decode cX5_turnOut 52 = .ok (.ireturn, 1) := by decide +kernel
theorem dX5_goOn_0 : decode cX5_goOn 0 = .ok (.iload_n 1, 1) := by decide +kernel
theorem dX5_goOn_1 : decode cX5_goOn 1 = .ok (.ifCond .lt 9, 3) := by decide +kernel
theorem dX5_goOn_4 : decode cX5_goOn 4 = .ok (.iload_n 1, 1) := by decide +kernel
theorem dX5_goOn_5 : decode cX5_goOn 5 = .ok (.bipush 6, 2) := by decide +kernel
theorem dX5_goOn_7 : decode cX5_goOn 7 = .ok (.if_icmp .le 6, 3) := by decide +kernel
theorem dX5_goOn_10 : decode cX5_goOn 10 = .ok (.bipush (-2), 2) := by decide +kernel
theorem dX5_goOn_12 : decode cX5_goOn 12 = .ok (.ireturn, 1) := by decide +kernel
theorem dX5_goOn_13 : decode cX5_goOn 13 = .ok (.aload_n 0, 1) := by decide +kernel
theorem dX5_goOn_14 : decode cX5_goOn 14 = .ok (.invokevirtual 156, 3) := by decide +kernel
theorem dX5_goOn_17 : decode cX5_goOn 17 = .ok (.invokevirtual 196, 3) := by decide +kernel
theorem dX5_goOn_20 : decode cX5_goOn 20 = .ok (.istore_n 2, 1) := by decide +kernel
theorem dX5_goOn_21 : decode cX5_goOn 21 = .ok (.iload_n 1, 1) := by decide +kernel
theorem dX5_goOn_22 : decode cX5_goOn 22 = .ok (.ifCond .ne 14, 3) := by decide +kernel
theorem dX5_goOn_25 : decode cX5_goOn 25 = .ok (.aload_n 0, 1) := by decide +kernel
theorem dX5_goOn_26 : decode cX5_goOn 26 = .ok (.getfield 22, 3) := by decide +kernel
theorem dX5_goOn_29 : decode cX5_goOn 29 = .ok (.getfield 199, 3) := by decide +kernel
theorem dX5_goOn_32 : decode cX5_goOn 32 = .ok (.getfield 134, 3) := by decide +kernel
theorem dX5_goOn_35 : decode cX5_goOn 35 = .ok (.ireturn, 1) := by decide +kernel
theorem dX5_goOn_36 : decode cX5_goOn 36 = .ok (.iload_n 1, 1) := by decide +kernel
theorem dX5_goOn_37 : decode cX5_goOn 37 = .ok (.iconst 1, 1) := by decide +kernel
theorem dX5_goOn_38 : decode cX5_goOn 38 = .ok (.if_icmp .ne 5, 3) := by decide +kernel
theorem dX5_goOn_41 : decode cX5_goOn 41 = .ok (.iload_n 2, 1) := by decide +kernel
theorem dX5_goOn_42 : decode cX5_goOn 42 = .ok (.ireturn, 1) := by decide +kernel
theorem dX5_goOn_43 : decode cX5_goOn 43 = .ok (.iload_n 1, 1) := by decide +kernel
theorem dX5_goOn_44 : decode cX5_goOn 44 = .ok (.iconst 2, 1) := by decide +kernel
theorem dX5_goOn_45 : decode cX5_goOn 45 = .ok (.isub, 1) := by decide +kernel
theorem dX5_goOn_46 : decode cX5_goOn 46 = .ok (.iload_n 2, 1) := by decide +kernel
theorem dX5_goOn_47 : decode cX5_goOn 47 = .ok (.if_icmp .ge 17, 3) := by decide +kernel
theorem dX5_goOn_50 : decode cX5_goOn 50 = .ok (.aload_n 0, 1) := by decide +kernel
theorem dX5_goOn_51 : decode cX5_goOn 51 = .ok (.getfield 22, 3) := by decide +kernel
theorem dX5_goOn_54 : decode cX5_goOn 54 = .ok (.getfield 200, 3) := by decide +kernel
theorem dX5_goOn_57 : decode cX5_goOn 57 = .ok (.iload_n 1, 1) := by decide +kernel
theorem dX5_goOn_58 : decode cX5_goOn 58 = .ok (.iconst 2, 1) := by decide +kernel
theorem dX5_goOn_59 : decode cX5_goOn 59 = .ok (.isub, 1) := by decide +kernel
theorem dX5_goOn_60 : decode cX5_goOn 60 = .ok (.iaload, 1) := by decide +kernel
theorem dX5_goOn_61 : decode cX5_goOn 61 = .ok (.goto 4, 3) := by decide +kernel
theorem dX5_goOn_64 : decode cX5_goOn 64 = .ok (.iconst (-1), 1) := by decide +kernel
theorem dX5_goOn_65 : decode cX5_goOn 65 = .ok (.ireturn, 1) := by decide +kernel
theorem dX5_end_0 : decode cX5_end 0 = .ok (.iload_n 1, 1) := by decide +kernel
theorem dX5_end_1 : decode cX5_end 1 = .ok (.ifCond .lt 26, 3) := by decide +kernel
theorem dX5_end_4 : decode cX5_end 4 = .ok (.iload_n 1, 1) := by decide +kernel
theorem dX5_end_5 : decode cX5_end 5 = .ok (.aload_n 0, 1) := by decide +kernel
theorem dX5_end_6 : decode cX5_end 6 = .ok (.getfield 12, 3) := by decide +kernel
theorem dX5_end_9 : decode cX5_end 9 = .ok (.invokevirtual 203, 3) := by decide +kernel
theorem dX5_end_12 : decode cX5_end 12 = .ok (.iconst (-1), 1) := by decide +kernel
theorem dX5_end_13 : decode cX5_end 13 = .ok (.ixor, 1) := by decide +kernel
theorem dX5_end_14 : decode cX5_end 14 = .ok (.iand, 1) := by decide +kernel
theorem dX5_end_15 : decode cX5_end 15 = .ok (.ifCond .ne 12, 3) := by decide +kernel
theorem dX5_end_18 : decode cX5_end 18 = .ok (.iload_n 2, 1) := by decide +kernel
theorem dX5_end_19 : decode cX5_end 19 = .ok (.ifCond .lt 8, 3) := by decide +kernel
theorem dX5_end_22 : decode cX5_end 22 = .ok (.iload_n 2, 1) := by decide +kernel
theorem dX5_end_23 : decode cX5_end 23 = .ok (.iconst 1, 1) := by decide +kernel
theorem dX5_end_24 : decode cX5_end 24 = .ok (.if_icmp .le 6, 3) := by decide +kernel
theorem dX5_end_27 : decode cX5_end 27 = .ok (.bipush (-2), 2) := by decide +kernel
theorem dX5_end_29 : decode cX5_end 29 = .ok (.ireturn, 1) := by decide +kernel
