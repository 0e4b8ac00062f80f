theorem dX5_end_30 : decode cX5_end 30 = .ok (.aload_n 0, 1) := by decide +kernel
theorem dX5_end_31 : decode cX5_end 31 = .ok (.invokevirtual 156, 3) := by decide +kernel
theorem dX5_end_34 : decode cX5_end 34 = .ok (.iload_n 1, 1) := by decide +kernel
theorem dX5_end_35 : decode cX5_end 35 = .ok (.invokevirtual 206, 3) := by decide +kernel
theorem dX5_end_38 : decode cX5_end 38 = .ok (.iload_n 2, 1) := by decide +kernel
theorem dX5_end_39 : decode cX5_end 39 = .ok (.ifCond .ne 15, 3) := by decide +kernel
theorem dX5_end_42 : decode cX5_end 42 = .ok (.aload_n 0, 1) := by decide +kernel
theorem dX5_end_43 : decode cX5_end 43 = .ok (.getfield 22, 3) := by decide +kernel
theorem dX5_end_46 : decode cX5_end 46 = .ok (.getfield 209, 3) := by decide +kernel
theorem dX5_end_49 : decode cX5_end 49 = .ok (.iload_n 1, 1) := by decide +kernel
theorem dX5_end_50 : decode cX5_end 50 = .ok (.iaload, 1) := by decide +kernel
theorem dX5_end_51 : decode cX5_end 51 = .ok (.goto 12, 3) := by decide +kernel
theorem dX5_end_54 : decode cX5_end 54 = .ok (.aload_n 0, 1) := by decide +kernel
theorem dX5_end_55 : decode cX5_end 55 = .ok (.getfield 22, 3) := by decide +kernel
theorem dX5_end_58 : decode cX5_end 58 = .ok (.getfield 212, 3) := by decide +kernel
theorem dX5_end_61 : decode cX5_end 61 = .ok (.iload_n 1, 1) := by decide +kernel
theorem dX5_end_62 : decode cX5_end 62 = .ok (.iaload, 1) := by decide +kernel
theorem dX5_end_63 : decode cX5_end 63 = .ok (.ireturn, 1) := by decide +kernel
theorem dX5_mayMeet_0 : decode cX5_mayMeet 0 = .ok (.iload_n 1, 1) := by decide +kernel
theorem dX5_mayMeet_1 : decode cX5_mayMeet 1 = .ok (.aload_n 0, 1) := by decide +kernel
theorem dX5_mayMeet_2 : decode cX5_mayMeet 2 = .ok (.getfield 12, 3) := by decide +kernel
theorem dX5_mayMeet_5 : decode cX5_mayMeet 5 = .ok (.getfield 134, 3) := by decide +kernel
theorem dX5_mayMeet_8 : decode cX5_mayMeet 8 = .ok (.iconst (-1), 1) := by decide +kernel
theorem dX5_mayMeet_9 : decode cX5_mayMeet 9 = .ok (.ixor, 1) := by decide +kernel
theorem dX5_mayMeet_10 : decode cX5_mayMeet 10 = .ok (.iand, 1) := by decide +kernel
theorem dX5_mayMeet_11 : decode cX5_mayMeet 11 = .ok (.ifCond .ne 40, 3) := by decide +kernel
theorem dX5_mayMeet_14 : decode cX5_mayMeet 14 = .ok (.iload_n 1, 1) := by decide +kernel
theorem dX5_mayMeet_15 : decode cX5_mayMeet 15 = .ok (.invokestatic 141, 3) := by decide +kernel
theorem dX5_mayMeet_18 : decode cX5_mayMeet 18 = .ok (.aload_n 0, 1) := by decide +kernel
theorem dX5_mayMeet_19 : decode cX5_mayMeet 19 = .ok (.getfield 12, 3) := by decide +kernel
theorem dX5_mayMeet_22 : decode cX5_mayMeet 22 = .ok (.getfield 118, 3) := by decide +kernel
theorem dX5_mayMeet_25 : decode cX5_mayMeet 25 = .ok (.if_icmp .ne 26, 3) := by decide +kernel
theorem dX5_mayMeet_28 : decode cX5_mayMeet 28 = .ok (.aload_n 0, 1) := by decide +kernel
theorem dX5_mayMeet_29 : decode cX5_mayMeet 29 = .ok (.getfield 12, 3) := by decide +kernel
theorem dX5_mayMeet_32 : decode cX5_mayMeet 32 = .ok (.iload_n 2, 1) := by decide +kernel
theorem dX5_mayMeet_33 : decode cX5_mayMeet 33 = .ok (.invokevirtual 131, 3) := by decide +kernel
theorem dX5_mayMeet_36 : decode cX5_mayMeet 36 = .ok (.ifCond .eq 15, 3) := by decide +kernel
theorem dX5_mayMeet_39 : decode cX5_mayMeet 39 = .ok (.iload_n 1, 1) := by decide +kernel
theorem dX5_mayMeet_40 : decode cX5_mayMeet 40 = .ok (.iload_n 2, 1) := by decide +kernel
theorem dX5_mayMeet_41 : decode cX5_mayMeet 41 = .ok (.invokestatic 92, 3) := by decide +kernel
theorem dX5_mayMeet_44 : decode cX5_mayMeet 44 = .ok (.ifCond .ne 7, 3) := by decide +kernel
theorem dX5_mayMeet_47 : decode cX5_mayMeet 47 = .ok (.iconst 1, 1) := by decide +kernel
theorem dX5_mayMeet_48 : decode cX5_mayMeet 48 = .ok (.goto 4, 3) := by decide +kernel
theorem dX5_mayMeet_51 : decode cX5_mayMeet 51 = .ok (.iconst 0, 1) := by decide +kernel
theorem dX5_mayMeet_52 : decode cX5_mayMeet 52 = .ok (.ireturn, 1) := by decide +kernel
theorem dX5_safe_0 : decode cX5_safe 0 = .ok (.aload_n 0, 1) := by decide +kernel
theorem dX5_safe_1 : decode cX5_safe 1 = .ok (.invokevirtual 175, 3) := by decide +kernel
theorem dX5_safe_4 : decode cX5_safe 4 = .ok (.pop, 1) := by decide +kernel
theorem dX5_safe_5 : decode cX5_safe 5 = .ok (.iconst 0, 1) := by decide +kernel
theorem dX5_safe_6 : decode cX5_safe 6 = .ok (.istore_n 1, 1) := by decide +kernel
theorem dX5_safe_7 : decode cX5_safe 7 = .ok (.iconst 0, 1) := by decide +kernel
theorem dX5_safe_8 : decode cX5_safe 8 = .ok (.istore_n 2, 1) := by decide +kernel
theorem dX5_safe_9 : decode cX5_safe 9 = .ok (.iload_n 2, 1) := by decide +kernel
theorem dX5_safe_10 : decode cX5_safe 10 = .ok (.bipush 7, 2) := by decide +kernel
theorem dX5_safe_12 : decode cX5_safe 12 = .ok (.if_icmp .ge 38, 3) := by decide +kernel
theorem dX5_safe_15 : decode cX5_safe 15 = .ok (.aload_n 0, 1) := by decide +kernel
theorem dX5_safe_16 : decode cX5_safe 16 = .ok (.getfield 12, 3) := by decide +kernel
theorem dX5_safe_19 : decode cX5_safe 19 = .ok (.iload_n 2, 1) := by decide +kernel
theorem dX5_safe_20 : decode cX5_safe 20 = .ok (.invokevirtual 131, 3) := by decide +kernel
theorem dX5_safe_23 : decode cX5_safe 23 = .ok (.ifCond .eq 21, 3) := by decide +kernel
theorem dX5_safe_26 : decode cX5_safe 26 = .ok (.aload_n 0, 1) := by decide +kernel
theorem dX5_safe_27 : decode cX5_safe 27 = .ok (.getfield 22, 3) := by decide +kernel
theorem dX5_safe_30 : decode cX5_safe 30 = .ok (.iload_n 2, 1) := by decide +kernel
theorem dX5_safe_31 : decode cX5_safe 31 = .ok (.invokevirtual 215, 3) := by decide +kernel
theorem dX5_safe_34 : decode cX5_safe 34 = .ok (.ifCond .eq 10, 3) := by decide +kernel
theorem dX5_safe_37 : decode cX5_safe 37 = .ok (.iload_n 1, 1) := by decide +kernel
theorem dX5_safe_38 : decode cX5_safe 38 = .ok (.iload_n 2, 1) := by decide +kernel
theorem dX5_safe_39 : decode cX5_safe 39 = .ok (.invokestatic 137, 3) := by decide +kernel
theorem dX5_safe_42 : decode cX5_safe 42 = .ok (.ior, 1) := by decide +kernel
theorem dX5_safe_43 : decode cX5_safe 43 = .ok (.istore_n 1, 1) := by decide +kernel
theorem dX5_safe_44 : decode cX5_safe 44 = .ok (.iinc 2 1, 3) := by decide +kernel
theorem dX5_safe_47 : decode cX5_safe 47 = .ok (.goto (-38), 3) := by decide +kernel
theorem dX5_safe_50 : decode cX5_safe 50 = .ok (.iload_n 1, 1) := by decide +kernel
theorem dX5_safe_51 : decode cX5_safe 51 = .ok (.ireturn, 1) := by decide +kernel
theorem dX5_sworn_0 : decode cX5_sworn 0 = .ok (.aload_n 0, 1) := by decide +kernel
theorem dX5_sworn_1 : decode cX5_sworn 1 = .ok (.getfield 12, 3) := by decide +kernel
theorem dX5_sworn_4 : decode cX5_sworn 4 = .ok (.iload_n 1, 1) := by decide +kernel
theorem dX5_sworn_5 : decode cX5_sworn 5 = .ok (.invokevirtual 131, 3) := by decide +kernel
theorem dX5_sworn_8 : decode cX5_sworn 8 = .ok (.ifCond .eq 14, 3) := by decide +kernel
theorem dX5_sworn_11 : decode cX5_sworn 11 = .ok (.aload_n 0, 1) := by decide +kernel
theorem dX5_sworn_12 : decode cX5_sworn 12 = .ok (.invokevirtual 175, 3) := by decide +kernel
theorem dX5_sworn_15 : decode cX5_sworn 15 = .ok (.iload_n 1, 1) := by decide +kernel
theorem dX5_sworn_16 : decode cX5_sworn 16 = .ok (.invokevirtual 215, 3) := by decide +kernel
theorem dX5_sworn_19 : decode cX5_sworn 19 = .ok (.ifCond .eq 6, 3) := by decide +kernel
theorem dX5_sworn_22 : decode cX5_sworn 22 = .ok (.bipush (-2), 2) := by decide +kernel
theorem dX5_sworn_24 : decode cX5_sworn 24 = .ok (.ireturn, 1) := by decide +kernel
theorem dX5_sworn_25 : decode cX5_sworn 25 = .ok (.aload_n 0, 1) := by decide +kernel
theorem dX5_sworn_26 : decode cX5_sworn 26 = .ok (.getfield 22, 3) := by decide +kernel
theorem dX5_sworn_29 : decode cX5_sworn 29 = .ok (.iload_n 1, 1) := by decide +kernel
theorem dX5_sworn_30 : decode cX5_sworn 30 = .ok (.invokevirtual 218, 3) := by decide +kernel
theorem dX5_sworn_33 : decode cX5_sworn 33 = .ok (.ireturn, 1) := by decide +kernel
theorem dX5_oaths_0 : decode cX5_oaths 0 = .ok (.iload_n 1, 1) := by decide +kernel
theorem dX5_oaths_1 : decode cX5_oaths 1 = .ok (.ifCond .lt 8, 3) := by decide +kernel
theorem dX5_oaths_4 : decode cX5_oaths 4 = .ok (.iload_n 1, 1) := by decide +kernel
theorem dX5_oaths_5 : decode cX5_oaths 5 = .ok (.iconst 2, 1) := by decide +kernel
theorem dX5_oaths_6 : decode cX5_oaths 6 = .ok (.if_icmp .le 6, 3) := by decide +kernel
theorem dX5_oaths_9 : decode cX5_oaths 9 = .ok (.bipush (-2), 2) := by decide +kernel
theorem dX5_oaths_11 : decode cX5_oaths 11 = .ok (.ireturn, 1) := by decide +kernel
theorem dX5_oaths_12 : decode cX5_oaths 12 = .ok (.aload_n 0, 1) := by decide +kernel
theorem dX5_oaths_13 : decode cX5_oaths 13 = .ok (.invokevirtual 175, 3) := by decide +kernel
theorem dX5_oaths_16 : decode cX5_oaths 16 = .ok (.invokevirtual 221, 3) := by decide +kernel
theorem dX5_oaths_19 : decode cX5_oaths 19 = .ok (.aload_n 0, 1) := by decide +kernel
theorem dX5_oaths_20 : decode cX5_oaths 20 = .ok (.getfield 22, 3) := by decide +kernel
theorem dX5_oaths_23 : decode cX5_oaths 23 = .ok (.getfield 224, 3) := by decide +kernel
theorem dX5_oaths_26 : decode cX5_oaths 26 = .ok (.iload_n 1, 1) := by decide +kernel
theorem dX5_oaths_27 : decode cX5_oaths 27 = .ok (.iaload, 1) := by decide +kernel
theorem dX5_oaths_28 : decode cX5_oaths 28 = .ok (.ireturn, 1) := by decide +kernel
theorem dX5_shield_0 : decode cX5_shield 0 = .ok (.aload_n 0, 1) := by decide +kernel
theorem dX5_shield_1 : decode cX5_shield 1 = .ok (.getfield 12, 3) := by decide +kernel
theorem dX5_shield_4 : decode cX5_shield 4 = .ok (.iload_n 1, 1) := by decide +kernel
theorem dX5_shield_5 : decode cX5_shield 5 = .ok (.invokevirtual 131, 3) := by decide +kernel
theorem dX5_shield_8 : decode cX5_shield 8 = .ok (.ifCond .eq 25, 3) := by decide +kernel
theorem dX5_shield_11 : decode cX5_shield 11 = .ok (.aload_n 0, 1) := by decide +kernel
theorem dX5_shield_12 : decode cX5_shield 12 = .ok (.getfield 12, 3) := by decide +kernel
theorem dX5_shield_15 : decode cX5_shield 15 = .ok (.iload_n 2, 1) := by decide +kernel
theorem dX5_shield_16 : decode cX5_shield 16 = .ok (.invokevirtual 124, 3) := by decide +kernel
theorem dX5_shield_19 : decode cX5_shield 19 = .ok (.ifCond .eq 14, 3) := by decide +kernel
theorem dX5_shield_22 : decode cX5_shield 22 = .ok (.aload_n 0, 1) := by decide +kernel
theorem dX5_shield_23 : decode cX5_shield 23 = .ok (.getfield 12, 3) := by decide +kernel
theorem dX5_shield_26 : decode cX5_shield 26 = .ok (.iload_n 2, 1) := by decide +kernel
theorem dX5_shield_27 : decode cX5_shield 27 = .ok (.invokevirtual 131, 3) := by decide +kernel
theorem dX5_shield_30 : decode cX5_shield 30 = .ok (.ifCond .eq 6, 3) := by decide +kernel
theorem dX5_shield_33 : decode cX5_shield 33 = .ok (.bipush (-2), 2) := by decide +kernel
theorem dX5_shield_35 : decode cX5_shield 35 = .ok (.ireturn, 1) := by decide +kernel
theorem dX5_shield_36 : decode cX5_shield 36 = .ok (.aload_n 0, 1) := by decide +kernel
theorem dX5_shield_37 : decode cX5_shield 37 = .ok (.invokevirtual 156, 3) := by decide +kernel
theorem dX5_shield_40 : decode cX5_shield 40 = .ok (.aload_n 0, 1) := by decide +kernel
theorem dX5_shield_41 : decode cX5_shield 41 = .ok (.getfield 12, 3) := by decide +kernel
theorem dX5_shield_44 : decode cX5_shield 44 = .ok (.getfield 134, 3) := by decide +kernel
theorem dX5_shield_47 : decode cX5_shield 47 = .ok (.iload_n 2, 1) := by decide +kernel
theorem dX5_shield_48 : decode cX5_shield 48 = .ok (.invokestatic 137, 3) := by decide +kernel
theorem dX5_shield_51 : decode cX5_shield 51 = .ok (.ior, 1) := by decide +kernel
theorem dX5_shield_52 : decode cX5_shield 52 = .ok (.invokevirtual 227, 3) := by decide +kernel
theorem dX5_shield_55 : decode cX5_shield 55 = .ok (.aload_n 0, 1) := by decide +kernel
theorem dX5_shield_56 : decode cX5_shield 56 = .ok (.getfield 22, 3) := by decide +kernel
theorem dX5_shield_59 : decode cX5_shield 59 = .ok (.iload_n 1, 1) := by decide +kernel
theorem dX5_shield_60 : decode cX5_shield 60 = .ok (.invokevirtual 215, 3) := by decide +kernel
theorem dX5_shield_63 : decode cX5_shield 63 = .ok (.ifCond .eq 7, 3) := by decide +kernel
theorem dX5_shield_66 : decode cX5_shield 66 = .ok (.iconst 1, 1) := by decide +kernel
theorem dX5_shield_67 : decode cX5_shield 67 = .ok (.goto 4, 3) := by decide +kernel
theorem dX5_shield_70 : decode cX5_shield 70 = .ok (.iconst 0, 1) := by decide +kernel
theorem dX5_shield_71 : decode cX5_shield 71 = .ok (.ireturn, 1) := by decide +kernel
theorem dX5_holds_0 : decode cX5_holds 0 = .ok (.iload_n 1, 1) := by decide +kernel
theorem dX5_holds_1 : decode cX5_holds 1 = .ok (.ifCond .lt 8, 3) := by decide +kernel
theorem dX5_holds_4 : decode cX5_holds 4 = .ok (.iload_n 1, 1) := by decide +kernel
theorem dX5_holds_5 : decode cX5_holds 5 = .ok (.iconst 1, 1) := by decide +kernel
theorem dX5_holds_6 : decode cX5_holds 6 = .ok (.if_icmp .le 6, 3) := by decide +kernel
theorem dX5_holds_9 : decode cX5_holds 9 = .ok (.bipush (-2), 2) := by decide +kernel
theorem dX5_holds_11 : decode cX5_holds 11 = .ok (.ireturn, 1) := by decide +kernel
theorem dX5_holds_12 : decode cX5_holds 12 = .ok (.aload_n 0, 1) := by decide +kernel
theorem dX5_holds_13 : decode cX5_holds 13 = .ok (.invokevirtual 175, 3) := by decide +kernel
theorem dX5_holds_16 : decode cX5_holds 16 = .ok (.pop, 1) := by decide +kernel
theorem dX5_holds_17 : decode cX5_holds 17 = .ok (.iload_n 1, 1) := by decide +kernel
theorem dX5_holds_18 : decode cX5_holds 18 = .ok (.ifCond .ne 13, 3) := by decide +kernel
theorem dX5_holds_21 : decode cX5_holds 21 = .ok (.aload_n 0, 1) := by decide +kernel
theorem dX5_holds_22 : decode cX5_holds 22 = .ok (.getfield 22, 3) := by decide +kernel
theorem dX5_holds_25 : decode cX5_holds 25 = .ok (.invokevirtual 230, 3) := by decide +kernel
theorem dX5_holds_28 : decode cX5_holds 28 = .ok (.goto 10, 3) := by decide +kernel
theorem dX5_holds_31 : decode cX5_holds 31 = .ok (.aload_n 0, 1) := by decide +kernel
theorem dX5_holds_32 : decode cX5_holds 32 = .ok (.getfield 22, 3) := by decide +kernel
theorem dX5_holds_35 : decode cX5_holds 35 = .ok (.invokevirtual 233, 3) := by decide +kernel
theorem dX5_holds_38 : decode cX5_holds 38 = .ok (.ireturn, 1) := by decide +kernel
theorem dX5_who_0 : decode cX5_who 0 = .ok (.iload_n 1, 1) := by decide +kernel
theorem dX5_who_1 : decode cX5_who 1 = .ok (.invokestatic 236, 3) := by decide +kernel
theorem dX5_who_4 : decode cX5_who 4 = .ok (.ifCond .eq 12, 3) := by decide +kernel
theorem dX5_who_7 : decode cX5_who 7 = .ok (.iload_n 2, 1) := by decide +kernel
theorem dX5_who_8 : decode cX5_who 8 = .ok (.ifCond .lt 8, 3) := by decide +kernel
theorem dX5_who_11 : decode cX5_who 11 = .ok (.iload_n 2, 1) := by decide +kernel
theorem dX5_who_12 : decode cX5_who 12 = .ok (.iconst 2, 1) := by decide +kernel
theorem dX5_who_13 : decode cX5_who 13 = .ok (.if_icmp .le 6, 3) := by decide +kernel
theorem dX5_who_16 : decode cX5_who 16 = .ok (.bipush (-2), 2) := by decide +kernel
theorem dX5_who_18 : decode cX5_who 18 = .ok (.ireturn, 1) := by decide +kernel
theorem dX5_who_19 : decode cX5_who 19 = .ok (.aload_n 0, 1) := by decide +kernel
theorem dX5_who_20 : decode cX5_who 20 = .ok (.getfield 41, 3) := by decide +kernel
theorem dX5_who_23 : decode cX5_who 23 = .ok (.iload_n 1, 1) := by decide +kernel
theorem dX5_who_24 : decode cX5_who 24 = .ok (.aaload, 1) := by decide +kernel
theorem dX5_who_25 : decode cX5_who 25 = .ok (.astore_n 3, 1) := by decide +kernel
theorem dX5_who_26 : decode cX5_who 26 = .ok (.aload_n 3, 1) := by decide +kernel
theorem dX5_who_27 : decode cX5_who 27 = .ok (.invokevirtual 239, 3) := by decide +kernel
theorem dX5_who_30 : decode cX5_who 30 = .ok (.ifCond .eq 6, 3) := by decide +kernel
theorem dX5_who_33 : decode cX5_who 33 = .ok (.bipush (-11), 2) := by decide +kernel
theorem dX5_who_35 : decode cX5_who 35 = .ok (.ireturn, 1) := by decide +kernel
theorem dX5_who_36 : decode cX5_who 36 = .ok (.aload_n 0, 1) := by decide +kernel
theorem dX5_who_37 : decode cX5_who 37 = .ok (.invokevirtual 156, 3) := by decide +kernel
theorem dX5_who_40 : decode cX5_who 40 = .ok (.aload_n 3, 1) := by decide +kernel
theorem dX5_who_41 : decode cX5_who 41 = .ok (.invokevirtual 243, 3) := by decide +kernel
theorem dX5_who_44 : decode cX5_who 44 = .ok (.ifCond .eq 15, 3) := by decide +kernel
theorem dX5_who_47 : decode cX5_who 47 = .ok (.aload_n 0, 1) := by decide +kernel
theorem dX5_who_48 : decode cX5_who 48 = .ok (.getfield 22, 3) := by decide +kernel
theorem dX5_who_51 : decode cX5_who 51 = .ok (.getfield 247, 3) := by decide +kernel
theorem dX5_who_54 : decode cX5_who 54 = .ok (.iload_n 2, 1) := by decide +kernel
theorem dX5_who_55 : decode cX5_who 55 = .ok (.iaload, 1) := by decide +kernel
theorem dX5_who_56 : decode cX5_who 56 = .ok (.goto 5, 3) := by decide +kernel
theorem dX5_who_59 : decode cX5_who 59 = .ok (.bipush (-2), 2) := by decide +kernel
theorem dX5_who_61 : decode cX5_who 61 = .ok (.ireturn, 1) := by decide +kernel
theorem dX5_drawn_0 : decode cX5_drawn 0 = .ok (.iload_n 2, 1) := by decide +kernel
theorem dX5_drawn_1 : decode cX5_drawn 1 = .ok (.ifCond .lt 9, 3) := by decide +kernel
theorem dX5_drawn_4 : decode cX5_drawn 4 = .ok (.iload_n 2, 1) := by decide +kernel
theorem dX5_drawn_5 : decode cX5_drawn 5 = .ok (.bipush 30, 2) := by decide +kernel
theorem dX5_drawn_7 : decode cX5_drawn 7 = .ok (.if_icmp .le 6, 3) := by decide +kernel
theorem dX5_drawn_10 : decode cX5_drawn 10 = .ok (.bipush (-2), 2) := by decide +kernel
theorem dX5_drawn_12 : decode cX5_drawn 12 = .ok (.ireturn, 1) := by decide +kernel
theorem dX5_drawn_13 : decode cX5_drawn 13 = .ok (.aload_n 0, 1) := by decide +kernel
theorem dX5_drawn_14 : decode cX5_drawn 14 = .ok (.invokevirtual 156, 3) := by decide +kernel
theorem dX5_drawn_17 : decode cX5_drawn 17 = .ok (.iload_n 1, 1) := by decide +kernel
theorem dX5_drawn_18 : decode cX5_drawn 18 = .ok (.iload_n 2, 1) := by decide +kernel
theorem dX5_drawn_19 : decode cX5_drawn 19 = .ok (.invokevirtual 250, 3) := by decide +kernel
theorem dX5_drawn_22 : decode cX5_drawn 22 = .ok (.ireturn, 1) := by decide +kernel
theorem dX5_chance_0 : decode cX5_chance 0 = .ok (.iload_n 2, 1) := by decide +kernel
theorem dX5_chance_1 : decode cX5_chance 1 = .ok (.iconst 1, 1) := by decide +kernel
theorem dX5_chance_2 : decode cX5_chance 2 = .ok (.if_icmp .lt 42, 3) := by decide +kernel
theorem dX5_chance_5 : decode cX5_chance 5 = .ok (.iload_n 2, 1) := by decide +kernel
theorem dX5_chance_6 : decode cX5_chance 6 = .ok (.bipush 10, 2) := by decide +kernel
theorem dX5_chance_8 : decode cX5_chance 8 = .ok (.if_icmp .gt 36, 3) := by decide +kernel
theorem dX5_chance_11 : decode cX5_chance 11 = .ok (.iload_n 3, 1) := by decide +kernel
theorem dX5_chance_12 : decode cX5_chance 12 = .ok (.ifCond .lt 32, 3) := by decide +kernel
theorem dX5_chance_15 : decode cX5_chance 15 = .ok (.iload_n 3, 1) := by decide +kernel
theorem dX5_chance_16 : decode cX5_chance 16 = .ok (.bipush 30, 2) := by decide +kernel
theorem dX5_chance_18 : decode cX5_chance 18 = .ok (.if_icmp .gt 26, 3) := by decide +kernel
theorem dX5_chance_21 : decode cX5_chance 21 = .ok (.aload_n 0, 1) := by decide +kernel
theorem dX5_chance_22 : decode cX5_chance 22 = .ok (.getfield 12, 3) := by decide +kernel
theorem dX5_chance_25 : decode cX5_chance 25 = .ok (.iload 4, 2) := by decide +kernel
theorem dX5_chance_27 : decode cX5_chance 27 = .ok (.invokevirtual 124, 3) := by decide +kernel
theorem dX5_chance_30 : decode cX5_chance 30 = .ok (.ifCond .eq 14, 3) := by decide +kernel
theorem dX5_chance_33 : decode cX5_chance 33 = .ok (.iload 5, 2) := by decide +kernel
theorem dX5_chance_35 : decode cX5_chance 35 = .ok (.ifCond .lt 9, 3) := by decide +kernel
theorem dX5_chance_38 : decode cX5_chance 38 = .ok (.iload 5, 2) := by decide +kernel
theorem dX5_chance_40 : decode cX5_chance 40 = .ok (.iconst 1, 1) := by decide +kernel
theorem dX5_chance_41 : decode cX5_chance 41 = .ok (.if_icmp .le 7, 3) := by decide +kernel
theorem dX5_chance_44 : decode cX5_chance 44 = .ok (.ldc2_w 253, 3) := by decide +kernel
theorem dX5_chance_47 : decode cX5_chance 47 = .ok (.lreturn, 1) := by decide +kernel
theorem dX5_chance_48 : decode cX5_chance 48 = .ok (.iconst 0, 1) := by decide +kernel
theorem dX5_chance_49 : decode cX5_chance 49 = .ok (.istore 6, 2) := by decide +kernel
theorem dX5_chance_51 : decode cX5_chance 51 = .ok (.iconst 0, 1) := by decide +kernel
theorem dX5_chance_52 : decode cX5_chance 52 = .ok (.istore 7, 2) := by decide +kernel
theorem dX5_chance_54 : decode cX5_chance 54 = .ok (.iload 7, 2) := by decide +kernel
theorem dX5_chance_56 : decode cX5_chance 56 = .ok (.iload_n 2, 1) := by decide +kernel
theorem dX5_chance_57 : decode cX5_chance 57 = .ok (.if_icmp .ge 32, 3) := by decide +kernel
theorem dX5_chance_60 : decode cX5_chance 60 = .ok (.aload_n 0, 1) := by decide +kernel
theorem dX5_chance_61 : decode cX5_chance 61 = .ok (.invokevirtual 156, 3) := by decide +kernel
theorem dX5_chance_64 : decode cX5_chance 64 = .ok (.iload_n 1, 1) := by decide +kernel
theorem dX5_chance_65 : decode cX5_chance 65 = .ok (.iload 7, 2) := by decide +kernel
theorem dX5_chance_67 : decode cX5_chance 67 = .ok (.iadd, 1) := by decide +kernel
theorem dX5_chance_68 : decode cX5_chance 68 = .ok (.iload_n 3, 1) := by decide +kernel
theorem dX5_chance_69 : decode cX5_chance 69 = .ok (.invokevirtual 250, 3) := by decide +kernel
theorem dX5_chance_72 : decode cX5_chance 72 = .ok (.iload 4, 2) := by decide +kernel
theorem dX5_chance_74 : decode cX5_chance 74 = .ok (.invokestatic 92, 3) := by decide +kernel
theorem dX5_chance_77 : decode cX5_chance 77 = .ok (.ifCond .eq 6, 3) := by decide +kernel
theorem dX5_chance_80 : decode cX5_chance 80 = .ok (.iinc 6 1, 3) := by decide +kernel
theorem dX5_chance_83 : decode cX5_chance 83 = .ok (.iinc 7 1, 3) := by decide +kernel
theorem dX5_chance_86 : decode cX5_chance 86 = .ok (.goto (-32), 3) := by decide +kernel
theorem dX5_chance_89 : decode cX5_chance 89 = .ok (.iload 6, 2) := by decide +kernel
theorem dX5_chance_91 : decode cX5_chance 91 = .ok (.iload_n 2, 1) := by decide +kernel
theorem dX5_chance_92 : decode cX5_chance 92 = .ok (.invokestatic 255, 3) := by decide +kernel
theorem dX5_chance_95 : decode cX5_chance 95 = .ok (.istore 7, 2) := by decide +kernel
theorem dX5_chance_97 : decode cX5_chance 97 = .ok (.iload 5, 2) := by decide +kernel
theorem dX5_chance_99 : decode cX5_chance 99 = .ok (.ifCond .ne 12, 3) := by decide +kernel
theorem dX5_chance_102 : decode cX5_chance 102 = .ok (.iload 6, 2) := by decide +kernel
theorem dX5_chance_104 : decode cX5_chance 104 = .ok (.iload 7, 2) := by decide +kernel
theorem dX5_chance_106 : decode cX5_chance 106 = .ok (.idiv, 1) := by decide +kernel
theorem dX5_chance_107 : decode cX5_chance 107 = .ok (.i2l, 1) := by decide +kernel
theorem dX5_chance_108 : decode cX5_chance 108 = .ok (.goto 8, 3) := by decide +kernel
theorem dX5_chance_111 : decode cX5_chance 111 = .ok (.iload_n 2, 1) := by decide +kernel
theorem dX5_chance_112 : decode cX5_chance 112 = .ok (.iload 7, 2) := by decide +kernel
theorem dX5_chance_114 : decode cX5_chance 114 = .ok (.idiv, 1) := by decide +kernel
theorem dX5_chance_115 : decode cX5_chance 115 = .ok (.i2l, 1) := by decide +kernel
theorem dX5_chance_116 : decode cX5_chance 116 = .ok (.lreturn, 1) := by decide +kernel
theorem dX5_image_0 : decode cX5_image 0 = .ok (.aload_n 0, 1) := by decide +kernel
theorem dX5_image_1 : decode cX5_image 1 = .ok (.getfield 16, 3) := by decide +kernel
theorem dX5_image_4 : decode cX5_image 4 = .ok (.aload_n 0, 1) := by decide +kernel
theorem dX5_image_5 : decode cX5_image 5 = .ok (.getfield 12, 3) := by decide +kernel
theorem dX5_image_8 : decode cX5_image 8 = .ok (.invokevirtual 258, 3) := by decide +kernel
theorem dX5_image_11 : decode cX5_image 11 = .ok (.aload_n 0, 1) := by decide +kernel
theorem dX5_image_12 : decode cX5_image 12 = .ok (.iconst 1, 1) := by decide +kernel
theorem dX5_image_13 : decode cX5_image 13 = .ok (.putfield 262, 3) := by decide +kernel
theorem dX5_image_16 : decode cX5_image 16 = .ok (.aload_n 0, 1) := by decide +kernel
theorem dX5_image_17 : decode cX5_image 17 = .ok (.getfield 12, 3) := by decide +kernel
theorem dX5_image_20 : decode cX5_image 20 = .ok (.getfield 73, 3) := by decide +kernel
theorem dX5_image_23 : decode cX5_image 23 = .ok (.ireturn, 1) := by decide +kernel
theorem dX5_back_0 : decode cX5_back 0 = .ok (.aload_n 0, 1) := by decide +kernel
theorem dX5_back_1 : decode cX5_back 1 = .ok (.getfield 262, 3) := by decide +kernel
theorem dX5_back_4 : decode cX5_back 4 = .ok (.ifCond .ne 6, 3) := by decide +kernel
theorem dX5_back_7 : decode cX5_back 7 = .ok (.bipush (-3), 2) := by decide +kernel
theorem dX5_back_9 : decode cX5_back 9 = .ok (.ireturn, 1) := by decide +kernel
theorem dX5_back_10 : decode cX5_back 10 = .ok (.aload_n 0, 1) := by decide +kernel
theorem dX5_back_11 : decode cX5_back 11 = .ok (.getfield 12, 3) := by decide +kernel
theorem dX5_back_14 : decode cX5_back 14 = .ok (.aload_n 0, 1) := by decide +kernel
theorem dX5_back_15 : decode cX5_back 15 = .ok (.getfield 16, 3) := by decide +kernel
theorem dX5_back_18 : decode cX5_back 18 = .ok (.invokevirtual 258, 3) := by decide +kernel
theorem dX5_back_21 : decode cX5_back 21 = .ok (.aload_n 0, 1) := by decide +kernel
theorem dX5_back_22 : decode cX5_back 22 = .ok (.getfield 12, 3) := by decide +kernel
theorem dX5_back_25 : decode cX5_back 25 = .ok (.getfield 73, 3) := by decide +kernel
theorem dX5_back_28 : decode cX5_back 28 = .ok (.ireturn, 1) := by decide +kernel
theorem dX5_count_0 : decode cX5_count 0 = .ok (.iload_n 1, 1) := by decide +kernel
theorem dX5_count_1 : decode cX5_count 1 = .ok (.tableswitch 123 0 8 #[51, 59, 70, 78, 86, 94, 102, 107, 115], 51) := by decide +kernel
theorem dX5_count_52 : decode cX5_count 52 = .ok (.aload_n 0, 1) := by decide +kernel
theorem dX5_count_53 : decode cX5_count 53 = .ok (.getfield 12, 3) := by decide +kernel
theorem dX5_count_56 : decode cX5_count 56 = .ok (.getfield 73, 3) := by decide +kernel
theorem dX5_count_59 : decode cX5_count 59 = .ok (.ireturn, 1) := by decide +kernel
theorem dX5_count_60 : decode cX5_count 60 = .ok (.aload_n 0, 1) := by decide +kernel
theorem dX5_count_61 : decode cX5_count 61 = .ok (.getfield 12, 3) := by decide +kernel
theorem dX5_count_64 : decode cX5_count 64 = .ok (.getfield 134, 3) := by decide +kernel
theorem dX5_count_67 : decode cX5_count 67 = .ok (.invokestatic 141, 3) := by decide +kernel
theorem dX5_count_70 : decode cX5_count 70 = .ok (.ireturn, 1) := by decide +kernel
theorem dX5_count_71 : decode cX5_count 71 = .ok (.aload_n 0, 1) := by decide +kernel
theorem dX5_count_72 : decode cX5_count 72 = .ok (.getfield 12, 3) := by decide +kernel
theorem dX5_count_75 : decode cX5_count 75 = .ok (.invokevirtual 266, 3) := by decide +kernel
theorem dX5_count_78 : decode cX5_count 78 = .ok (.ireturn, 1) := by decide +kernel
theorem dX5_count_79 : decode cX5_count 79 = .ok (.aload_n 0, 1) := by decide +kernel
theorem dX5_count_80 : decode cX5_count 80 = .ok (.getfield 12, 3) := by decide +kernel
theorem dX5_count_83 : decode cX5_count 83 = .ok (.getfield 115, 3) := by decide +kernel
theorem dX5_count_86 : decode cX5_count 86 = .ok (.ireturn, 1) := by decide +kernel
theorem dX5_count_87 : decode cX5_count 87 = .ok (.aload_n 0, 1) := by decide +kernel
theorem dX5_count_88 : decode cX5_count 88 = .ok (.getfield 12, 3) := by decide +kernel
theorem dX5_count_91 : decode cX5_count 91 = .ok (.getfield 118, 3) := by decide +kernel
theorem dX5_count_94 : decode cX5_count 94 = .ok (.ireturn, 1) := by decide +kernel
theorem dX5_count_95 : decode cX5_count 95 = .ok (.aload_n 0, 1) := by decide +kernel
theorem dX5_count_96 : decode cX5_count 96 = .ok (.getfield 12, 3) := by decide +kernel
theorem dX5_count_99 : decode cX5_count 99 = .ok (.getfield 121, 3) := by decide +kernel
theorem dX5_count_102 : decode cX5_count 102 = .ok (.ireturn, 1) := by decide +kernel
theorem dX5_count_103 : decode cX5_count 103 = .ok (.aload_n 0, 1) := by decide +kernel
theorem dX5_count_104 : decode cX5_count 104 = .ok (.getfield 66, 3) := by decide +kernel
theorem dX5_count_107 : decode cX5_count 107 = .ok (.ireturn, 1) := by decide +kernel
theorem dX5_count_108 : decode cX5_count 108 = .ok (.aload_n 0, 1) := by decide +kernel
theorem dX5_count_109 : decode cX5_count 109 = .ok (.getfield 29, 3) := by decide +kernel
theorem dX5_count_112 : decode cX5_count 112 = .ok (.getfield 163, 3) := by decide +kernel
theorem dX5_count_115 : decode cX5_count 115 = .ok (.ireturn, 1) := by decide +kernel
theorem dX5_count_116 : decode cX5_count 116 = .ok (.aload_n 0, 1) := by decide +kernel
theorem dX5_count_117 : decode cX5_count 117 = .ok (.getfield 12, 3) := by decide +kernel
theorem dX5_count_120 : decode cX5_count 120 = .ok (.getfield 169, 3) := by decide +kernel
theorem dX5_count_123 : decode cX5_count 123 = .ok (.ireturn, 1) := by decide +kernel
theorem dX5_count_124 : decode cX5_count 124 = .ok (.bipush (-2), 2) := by decide +kernel
theorem dX5_count_126 : decode cX5_count 126 = .ok (.ireturn, 1) := by decide +kernel
theorem dX5_sheet_0 : decode cX5_sheet 0 = .ok (.iload_n 1, 1) := by decide +kernel
theorem dX5_sheet_1 : decode cX5_sheet 1 = .ok (.invokestatic 236, 3) := by decide +kernel
theorem dX5_sheet_4 : decode cX5_sheet 4 = .ok (.ifCond .eq 13, 3) := by decide +kernel
theorem dX5_sheet_7 : decode cX5_sheet 7 = .ok (.iload_n 2, 1) := by decide +kernel
theorem dX5_sheet_8 : decode cX5_sheet 8 = .ok (.iconst (-1), 1) := by decide +kernel
theorem dX5_sheet_9 : decode cX5_sheet 9 = .ok (.if_icmp .lt 8, 3) := by decide +kernel
theorem dX5_sheet_12 : decode cX5_sheet 12 = .ok (.iload_n 2, 1) := by decide +kernel
theorem dX5_sheet_13 : decode cX5_sheet 13 = .ok (.iconst 3, 1) := by decide +kernel
theorem dX5_sheet_14 : decode cX5_sheet 14 = .ok (.if_icmp .lt 6, 3) := by decide +kernel
theorem dX5_sheet_17 : decode cX5_sheet 17 = .ok (.bipush (-2), 2) := by decide +kernel
theorem dX5_sheet_19 : decode cX5_sheet 19 = .ok (.ireturn, 1) := by decide +kernel
theorem dX5_sheet_20 : decode cX5_sheet 20 = .ok (.iload_n 2, 1) := by decide +kernel
theorem dX5_sheet_21 : decode cX5_sheet 21 = .ok (.iconst (-1), 1) := by decide +kernel
theorem dX5_sheet_22 : decode cX5_sheet 22 = .ok (.if_icmp .ne 16, 3) := by decide +kernel
theorem dX5_sheet_25 : decode cX5_sheet 25 = .ok (.aload_n 0, 1) := by decide +kernel
theorem dX5_sheet_26 : decode cX5_sheet 26 = .ok (.getfield 41, 3) := by decide +kernel
theorem dX5_sheet_29 : decode cX5_sheet 29 = .ok (.iload_n 1, 1) := by decide +kernel
theorem dX5_sheet_30 : decode cX5_sheet 30 = .ok (.aaload, 1) := by decide +kernel
theorem dX5_sheet_31 : decode cX5_sheet 31 = .ok (.iload_n 2, 1) := by decide +kernel
theorem dX5_sheet_32 : decode cX5_sheet 32 = .ok (.iconst 0, 1) := by decide +kernel
theorem dX5_sheet_33 : decode cX5_sheet 33 = .ok (.invokevirtual 269, 3) := by decide +kernel
theorem dX5_sheet_36 : decode cX5_sheet 36 = .ok (.iconst 1, 1) := by decide +kernel
theorem dX5_sheet_37 : decode cX5_sheet 37 = .ok (.ireturn, 1) := by decide +kernel
theorem dX5_sheet_38 : decode cX5_sheet 38 = .ok (.iload_n 3, 1) := by decide +kernel
theorem dX5_sheet_39 : decode cX5_sheet 39 = .ok (.bipush 40, 2) := by decide +kernel
theorem dX5_sheet_41 : decode cX5_sheet 41 = .ok (.if_icmp .le 6, 3) := by decide +kernel
theorem dX5_sheet_44 : decode cX5_sheet 44 = .ok (.bipush (-2), 2) := by decide +kernel
theorem dX5_sheet_46 : decode cX5_sheet 46 = .ok (.ireturn, 1) := by decide +kernel
theorem dX5_sheet_47 : decode cX5_sheet 47 = .ok (.iload_n 3, 1) := by decide +kernel
theorem dX5_sheet_48 : decode cX5_sheet 48 = .ok (.ifCond .ge 6, 3) := by decide +kernel
theorem dX5_sheet_51 : decode cX5_sheet 51 = .ok (.bipush (-14), 2) := by decide +kernel
theorem dX5_sheet_53 : decode cX5_sheet 53 = .ok (.ireturn, 1) := by decide +kernel
theorem dX5_sheet_54 : decode cX5_sheet 54 = .ok (.aload_n 0, 1) := by decide +kernel
theorem dX5_sheet_55 : decode cX5_sheet 55 = .ok (.getfield 41, 3) := by decide +kernel
theorem dX5_sheet_58 : decode cX5_sheet 58 = .ok (.iload_n 1, 1) := by decide +kernel
theorem dX5_sheet_59 : decode cX5_sheet 59 = .ok (.aaload, 1) := by decide +kernel
theorem dX5_sheet_60 : decode cX5_sheet 60 = .ok (.iload_n 2, 1) := by decide +kernel
theorem dX5_sheet_61 : decode cX5_sheet 61 = .ok (.iload_n 3, 1) := by decide +kernel
theorem dX5_sheet_62 : decode cX5_sheet 62 = .ok (.invokevirtual 269, 3) := by decide +kernel
theorem dX5_sheet_65 : decode cX5_sheet 65 = .ok (.iconst 1, 1) := by decide +kernel
theorem dX5_sheet_66 : decode cX5_sheet 66 = .ok (.ireturn, 1) := by decide +kernel
theorem dX5_cell_0 : decode cX5_cell 0 = .ok (.iload_n 1, 1) := by decide +kernel
theorem dX5_cell_1 : decode cX5_cell 1 = .ok (.invokestatic 236, 3) := by decide +kernel
theorem dX5_cell_4 : decode cX5_cell 4 = .ok (.ifCond .ne 6, 3) := by decide +kernel
theorem dX5_cell_7 : decode cX5_cell 7 = .ok (.bipush (-2), 2) := by decide +kernel
theorem dX5_cell_9 : decode cX5_cell 9 = .ok (.ireturn, 1) := by decide +kernel
theorem dX5_cell_10 : decode cX5_cell 10 = .ok (.aload_n 0, 1) := by decide +kernel
theorem dX5_cell_11 : decode cX5_cell 11 = .ok (.getfield 41, 3) := by decide +kernel
theorem dX5_cell_14 : decode cX5_cell 14 = .ok (.iload_n 1, 1) := by decide +kernel
theorem dX5_cell_15 : decode cX5_cell 15 = .ok (.aaload, 1) := by decide +kernel
theorem dX5_cell_16 : decode cX5_cell 16 = .ok (.astore 4, 2) := by decide +kernel
theorem dX5_cell_18 : decode cX5_cell 18 = .ok (.aload 4, 2) := by decide +kernel
theorem dX5_cell_20 : decode cX5_cell 20 = .ok (.invokevirtual 239, 3) := by decide +kernel
theorem dX5_cell_23 : decode cX5_cell 23 = .ok (.ifCond .eq 6, 3) := by decide +kernel
theorem dX5_cell_26 : decode cX5_cell 26 = .ok (.bipush (-11), 2) := by decide +kernel
theorem dX5_cell_28 : decode cX5_cell 28 = .ok (.ireturn, 1) := by decide +kernel
theorem dX5_cell_29 : decode cX5_cell 29 = .ok (.aload 4, 2) := by decide +kernel
theorem dX5_cell_31 : decode cX5_cell 31 = .ok (.iload_n 2, 1) := by decide +kernel
theorem dX5_cell_32 : decode cX5_cell 32 = .ok (.iconst 1, 1) := by decide +kernel
theorem dX5_cell_33 : decode cX5_cell 33 = .ok (.invokevirtual 273, 3) := by decide +kernel
theorem dX5_cell_36 : decode cX5_cell 36 = .ok (.ifCond .ne 6, 3) := by decide +kernel
theorem dX5_cell_39 : decode cX5_cell 39 = .ok (.bipush (-12), 2) := by decide +kernel
theorem dX5_cell_41 : decode cX5_cell 41 = .ok (.ireturn, 1) := by decide +kernel
theorem dX5_cell_42 : decode cX5_cell 42 = .ok (.aload 4, 2) := by decide +kernel
theorem dX5_cell_44 : decode cX5_cell 44 = .ok (.iload_n 2, 1) := by decide +kernel
theorem dX5_cell_45 : decode cX5_cell 45 = .ok (.iload_n 3, 1) := by decide +kernel
theorem dX5_cell_46 : decode cX5_cell 46 = .ok (.invokevirtual 276, 3) := by decide +kernel
theorem dX5_cell_49 : decode cX5_cell 49 = .ok (.iconst 1, 1) := by decide +kernel
theorem dX5_cell_50 : decode cX5_cell 50 = .ok (.ireturn, 1) := by decide +kernel
theorem dX5_copy_0 : decode cX5_copy 0 = .ok (.iload_n 1, 1) := by decide +kernel
theorem dX5_copy_1 : decode cX5_copy 1 = .ok (.invokestatic 236, 3) := by decide +kernel
theorem dX5_copy_4 : decode cX5_copy 4 = .ok (.ifCond .eq 10, 3) := by decide +kernel
theorem dX5_copy_7 : decode cX5_copy 7 = .ok (.iload_n 3, 1) := by decide +kernel
theorem dX5_copy_8 : decode cX5_copy 8 = .ok (.invokestatic 236, 3) := by decide +kernel
theorem dX5_copy_11 : decode cX5_copy 11 = .ok (.ifCond .ne 6, 3) := by decide +kernel
theorem dX5_copy_14 : decode cX5_copy 14 = .ok (.bipush (-2), 2) := by decide +kernel
theorem dX5_copy_16 : decode cX5_copy 16 = .ok (.ireturn, 1) := by decide +kernel
theorem dX5_copy_17 : decode cX5_copy 17 = .ok (.aload_n 0, 1) := by decide +kernel
theorem dX5_copy_18 : decode cX5_copy 18 = .ok (.getfield 41, 3) := by decide +kernel
theorem dX5_copy_21 : decode cX5_copy 21 = .ok (.iload_n 1, 1) := by decide +kernel
theorem dX5_copy_22 : decode cX5_copy 22 = .ok (.aaload, 1) := by decide +kernel
theorem dX5_copy_23 : decode cX5_copy 23 = .ok (.astore 6, 2) := by decide +kernel
theorem dX5_copy_25 : decode cX5_copy 25 = .ok (.aload_n 0, 1) := by decide +kernel
theorem dX5_copy_26 : decode cX5_copy 26 = .ok (.getfield 41, 3) := by decide +kernel
theorem dX5_copy_29 : decode cX5_copy 29 = .ok (.iload_n 3, 1) := by decide +kernel
theorem dX5_copy_30 : decode cX5_copy 30 = .ok (.aaload, 1) := by decide +kernel
theorem dX5_copy_31 : decode cX5_copy 31 = .ok (.astore 7, 2) := by decide +kernel
theorem dX5_copy_33 : decode cX5_copy 33 = .ok (.aload 6, 2) := by decide +kernel
theorem dX5_copy_35 : decode cX5_copy 35 = .ok (.invokevirtual 239, 3) := by decide +kernel
theorem dX5_copy_38 : decode cX5_copy 38 = .ok (.ifCond .ne 11, 3) := by decide +kernel
theorem dX5_copy_41 : decode cX5_copy 41 = .ok (.aload 7, 2) := by decide +kernel
theorem dX5_copy_43 : decode cX5_copy 43 = .ok (.invokevirtual 239, 3) := by decide +kernel
theorem dX5_copy_46 : decode cX5_copy 46 = .ok (.ifCond .eq 6, 3) := by decide +kernel
theorem dX5_copy_49 : decode cX5_copy 49 = .ok (.bipush (-11), 2) := by decide +kernel
theorem dX5_copy_51 : decode cX5_copy 51 = .ok (.ireturn, 1) := by decide +kernel
theorem dX5_copy_52 : decode cX5_copy 52 = .ok (.aload 6, 2) := by decide +kernel
theorem dX5_copy_54 : decode cX5_copy 54 = .ok (.getfield 279, 3) := by decide +kernel
theorem dX5_copy_57 : decode cX5_copy 57 = .ok (.aload 7, 2) := by decide +kernel
theorem dX5_copy_59 : decode cX5_copy 59 = .ok (.getfield 279, 3) := by decide +kernel
theorem dX5_copy_62 : decode cX5_copy 62 = .ok (.if_icmp .eq 6, 3) := by decide +kernel
theorem dX5_copy_65 : decode cX5_copy 65 = .ok (.bipush (-13), 2) := by decide +kernel
theorem dX5_copy_67 : decode cX5_copy 67 = .ok (.ireturn, 1) := by decide +kernel
theorem dX5_copy_68 : decode cX5_copy 68 = .ok (.aload 6, 2) := by decide +kernel
theorem dX5_copy_70 : decode cX5_copy 70 = .ok (.iload_n 2, 1) := by decide +kernel
theorem dX5_copy_71 : decode cX5_copy 71 = .ok (.iload 5, 2) := by decide +kernel
theorem dX5_copy_73 : decode cX5_copy 73 = .ok (.invokevirtual 273, 3) := by decide +kernel
theorem dX5_copy_76 : decode cX5_copy 76 = .ok (.ifCond .eq 15, 3) := by decide +kernel
theorem dX5_copy_79 : decode cX5_copy 79 = .ok (.aload 7, 2) := by decide +kernel
theorem dX5_copy_81 : decode cX5_copy 81 = .ok (.iload 4, 2) := by decide +kernel
theorem dX5_copy_83 : decode cX5_copy 83 = .ok (.iload 5, 2) := by decide +kernel
theorem dX5_copy_85 : decode cX5_copy 85 = .ok (.invokevirtual 273, 3) := by decide +kernel
theorem dX5_copy_88 : decode cX5_copy 88 = .ok (.ifCond .ne 6, 3) := by decide +kernel
theorem dX5_copy_91 : decode cX5_copy 91 = .ok (.bipush (-12), 2) := by decide +kernel
theorem dX5_copy_93 : decode cX5_copy 93 = .ok (.ireturn, 1) := by decide +kernel
theorem dX5_copy_94 : decode cX5_copy 94 = .ok (.aload 6, 2) := by decide +kernel
theorem dX5_copy_96 : decode cX5_copy 96 = .ok (.getfield 282, 3) := by decide +kernel
theorem dX5_copy_99 : decode cX5_copy 99 = .ok (.iload_n 2, 1) := by decide +kernel
theorem dX5_copy_100 : decode cX5_copy 100 = .ok (.aload 7, 2) := by decide +kernel
theorem dX5_copy_102 : decode cX5_copy 102 = .ok (.getfield 282, 3) := by decide +kernel
theorem dX5_copy_105 : decode cX5_copy 105 = .ok (.iload 4, 2) := by decide +kernel
theorem dX5_copy_107 : decode cX5_copy 107 = .ok (.iload 5, 2) := by decide +kernel
theorem dX5_copy_109 : decode cX5_copy 109 = .ok (.invokestatic 285, 3) := by decide +kernel
theorem dX5_copy_112 : decode cX5_copy 112 = .ok (.iload 5, 2) := by decide +kernel
theorem dX5_copy_114 : decode cX5_copy 114 = .ok (.ireturn, 1) := by decide +kernel
theorem dX5_likes_0 : decode cX5_likes 0 = .ok (.iload_n 1, 1) := by decide +kernel
theorem dX5_likes_1 : decode cX5_likes 1 = .ok (.invokestatic 236, 3) := by decide +kernel
theorem dX5_likes_4 : decode cX5_likes 4 = .ok (.ifCond .eq 24, 3) := by decide +kernel
theorem dX5_likes_7 : decode cX5_likes 7 = .ok (.iload_n 2, 1) := by decide +kernel
theorem dX5_likes_8 : decode cX5_likes 8 = .ok (.ifCond .lt 20, 3) := by decide +kernel
theorem dX5_likes_11 : decode cX5_likes 11 = .ok (.iload_n 2, 1) := by decide +kernel
theorem dX5_likes_12 : decode cX5_likes 12 = .ok (.iconst 3, 1) := by decide +kernel
theorem dX5_likes_13 : decode cX5_likes 13 = .ok (.if_icmp .ge 15, 3) := by decide +kernel
theorem dX5_likes_16 : decode cX5_likes 16 = .ok (.iload 4, 2) := by decide +kernel
theorem dX5_likes_18 : decode cX5_likes 18 = .ok (.ifCond .lt 10, 3) := by decide +kernel
theorem dX5_likes_21 : decode cX5_likes 21 = .ok (.iload 4, 2) := by decide +kernel
theorem dX5_likes_23 : decode cX5_likes 23 = .ok (.bipush 13, 2) := by decide +kernel
theorem dX5_likes_25 : decode cX5_likes 25 = .ok (.if_icmp .le 6, 3) := by decide +kernel
theorem dX5_likes_28 : decode cX5_likes 28 = .ok (.bipush (-2), 2) := by decide +kernel
theorem dX5_likes_30 : decode cX5_likes 30 = .ok (.ireturn, 1) := by decide +kernel
theorem dX5_likes_31 : decode cX5_likes 31 = .ok (.aload_n 0, 1) := by decide +kernel
theorem dX5_likes_32 : decode cX5_likes 32 = .ok (.getfield 41, 3) := by decide +kernel
theorem dX5_likes_35 : decode cX5_likes 35 = .ok (.iload_n 1, 1) := by decide +kernel
theorem dX5_likes_36 : decode cX5_likes 36 = .ok (.aaload, 1) := by decide +kernel
theorem dX5_likes_37 : decode cX5_likes 37 = .ok (.astore 5, 2) := by decide +kernel
theorem dX5_likes_39 : decode cX5_likes 39 = .ok (.aload 5, 2) := by decide +kernel
theorem dX5_likes_41 : decode cX5_likes 41 = .ok (.invokevirtual 239, 3) := by decide +kernel
theorem dX5_likes_44 : decode cX5_likes 44 = .ok (.ifCond .ne 15, 3) := by decide +kernel
theorem dX5_likes_47 : decode cX5_likes 47 = .ok (.aload 5, 2) := by decide +kernel
theorem dX5_likes_49 : decode cX5_likes 49 = .ok (.getfield 279, 3) := by decide +kernel
theorem dX5_likes_52 : decode cX5_likes 52 = .ok (.iload_n 2, 1) := by decide +kernel
theorem dX5_likes_53 : decode cX5_likes 53 = .ok (.if_icmp .eq 6, 3) := by decide +kernel
theorem dX5_likes_56 : decode cX5_likes 56 = .ok (.bipush (-13), 2) := by decide +kernel
theorem dX5_likes_58 : decode cX5_likes 58 = .ok (.ireturn, 1) := by decide +kernel
theorem dX5_likes_59 : decode cX5_likes 59 = .ok (.aload 5, 2) := by decide +kernel
theorem dX5_likes_61 : decode cX5_likes 61 = .ok (.invokevirtual 239, 3) := by decide +kernel
theorem dX5_likes_64 : decode cX5_likes 64 = .ok (.ifCond .eq 6, 3) := by decide +kernel
theorem dX5_likes_67 : decode cX5_likes 67 = .ok (.bipush (-11), 2) := by decide +kernel
theorem dX5_likes_69 : decode cX5_likes 69 = .ok (.ireturn, 1) := by decide +kernel
theorem dX5_likes_70 : decode cX5_likes 70 = .ok (.aload_n 0, 1) := by decide +kernel
theorem dX5_likes_71 : decode cX5_likes 71 = .ok (.aload 5, 2) := by decide +kernel
theorem dX5_likes_73 : decode cX5_likes 73 = .ok (.iload_n 3, 1) := by decide +kernel
theorem dX5_likes_74 : decode cX5_likes 74 = .ok (.iload 4, 2) := by decide +kernel
theorem dX5_likes_76 : decode cX5_likes 76 = .ok (.invokevirtual 291, 3) := by decide +kernel
theorem dX5_likes_79 : decode cX5_likes 79 = .ok (.ireturn, 1) := by decide +kernel
theorem dX5_likeByTriples_0 : decode cX5_likeByTriples 0 = .ok (.iconst 0, 1) := by decide +kernel
theorem dX5_likeByTriples_1 : decode cX5_likeByTriples 1 = .ok (.istore 4, 2) := by decide +kernel
theorem dX5_likeByTriples_3 : decode cX5_likeByTriples 3 = .ok (.iconst 0, 1) := by decide +kernel
theorem dX5_likeByTriples_4 : decode cX5_likeByTriples 4 = .ok (.istore 5, 2) := by decide +kernel
theorem dX5_likeByTriples_6 : decode cX5_likeByTriples 6 = .ok (.iload 5, 2) := by decide +kernel
theorem dX5_likeByTriples_8 : decode cX5_likeByTriples 8 = .ok (.iload_n 3, 1) := by decide +kernel
theorem dX5_likeByTriples_9 : decode cX5_likeByTriples 9 = .ok (.if_icmp .ge 67, 3) := by decide +kernel
theorem dX5_likeByTriples_12 : decode cX5_likeByTriples 12 = .ok (.iload_n 2, 1) := by decide +kernel
theorem dX5_likeByTriples_13 : decode cX5_likeByTriples 13 = .ok (.iconst 3, 1) := by decide +kernel
theorem dX5_likeByTriples_14 : decode cX5_likeByTriples 14 = .ok (.iload 5, 2) := by decide +kernel
theorem dX5_likeByTriples_16 : decode cX5_likeByTriples 16 = .ok (.imul, 1) := by decide +kernel
theorem dX5_likeByTriples_17 : decode cX5_likeByTriples 17 = .ok (.iadd, 1) := by decide +kernel
theorem dX5_likeByTriples_18 : decode cX5_likeByTriples 18 = .ok (.istore 6, 2) := by decide +kernel
theorem dX5_likeByTriples_20 : decode cX5_likeByTriples 20 = .ok (.aload_n 1, 1) := by decide +kernel
theorem dX5_likeByTriples_21 : decode cX5_likeByTriples 21 = .ok (.iload 6, 2) := by decide +kernel
theorem dX5_likeByTriples_23 : decode cX5_likeByTriples 23 = .ok (.iconst 3, 1) := by decide +kernel
theorem dX5_likeByTriples_24 : decode cX5_likeByTriples 24 = .ok (.invokevirtual 273, 3) := by decide +kernel
theorem dX5_likeByTriples_27 : decode cX5_likeByTriples 27 = .ok (.ifCond .ne 6, 3) := by decide +kernel
theorem dX5_likeByTriples_30 : decode cX5_likeByTriples 30 = .ok (.bipush (-12), 2) := by decide +kernel
theorem dX5_likeByTriples_32 : decode cX5_likeByTriples 32 = .ok (.ireturn, 1) := by decide +kernel
theorem dX5_likeByTriples_33 : decode cX5_likeByTriples 33 = .ok (.aload_n 0, 1) := by decide +kernel
theorem dX5_likeByTriples_34 : decode cX5_likeByTriples 34 = .ok (.aload_n 1, 1) := by decide +kernel
theorem dX5_likeByTriples_35 : decode cX5_likeByTriples 35 = .ok (.getfield 282, 3) := by decide +kernel
theorem dX5_likeByTriples_38 : decode cX5_likeByTriples 38 = .ok (.iload 6, 2) := by decide +kernel
theorem dX5_likeByTriples_40 : decode cX5_likeByTriples 40 = .ok (.iaload, 1) := by decide +kernel
theorem dX5_likeByTriples_41 : decode cX5_likeByTriples 41 = .ok (.aload_n 1, 1) := by decide +kernel
theorem dX5_likeByTriples_42 : decode cX5_likeByTriples 42 = .ok (.getfield 282, 3) := by decide +kernel
theorem dX5_likeByTriples_45 : decode cX5_likeByTriples 45 = .ok (.iload 6, 2) := by decide +kernel
theorem dX5_likeByTriples_47 : decode cX5_likeByTriples 47 = .ok (.iconst 1, 1) := by decide +kernel
theorem dX5_likeByTriples_48 : decode cX5_likeByTriples 48 = .ok (.iadd, 1) := by decide +kernel
theorem dX5_likeByTriples_49 : decode cX5_likeByTriples 49 = .ok (.iaload, 1) := by decide +kernel
theorem dX5_likeByTriples_50 : decode cX5_likeByTriples 50 = .ok (.aload_n 1, 1) := by decide +kernel
theorem dX5_likeByTriples_51 : decode cX5_likeByTriples 51 = .ok (.getfield 282, 3) := by decide +kernel
theorem dX5_likeByTriples_54 : decode cX5_likeByTriples 54 = .ok (.iload 6, 2) := by decide +kernel
theorem dX5_likeByTriples_56 : decode cX5_likeByTriples 56 = .ok (.iconst 2, 1) := by decide +kernel
theorem dX5_likeByTriples_57 : decode cX5_likeByTriples 57 = .ok (.iadd, 1) := by decide +kernel
theorem dX5_likeByTriples_58 : decode cX5_likeByTriples 58 = .ok (.iaload, 1) := by decide +kernel
theorem dX5_likeByTriples_59 : decode cX5_likeByTriples 59 = .ok (.invokevirtual 295, 3) := by decide +kernel
theorem dX5_likeByTriples_62 : decode cX5_likeByTriples 62 = .ok (.bipush (-2), 2) := by decide +kernel
theorem dX5_likeByTriples_64 : decode cX5_likeByTriples 64 = .ok (.if_icmp .eq 6, 3) := by decide +kernel
theorem dX5_likeByTriples_67 : decode cX5_likeByTriples 67 = .ok (.iinc 4 1, 3) := by decide +kernel
theorem dX5_likeByTriples_70 : decode cX5_likeByTriples 70 = .ok (.iinc 5 1, 3) := by decide +kernel
theorem dX5_likeByTriples_73 : decode cX5_likeByTriples 73 = .ok (.goto (-67), 3) := by decide +kernel
theorem dX5_likeByTriples_76 : decode cX5_likeByTriples 76 = .ok (.iload 4, 2) := by decide +kernel
theorem dX5_likeByTriples_78 : decode cX5_likeByTriples 78 = .ok (.ireturn, 1) := by decide +kernel
theorem dX5_taken_0 : decode cX5_taken 0 = .ok (.iload_n 2, 1) := by decide +kernel
theorem dX5_taken_1 : decode cX5_taken 1 = .ok (.ifCond .lt 9, 3) := by decide +kernel
theorem dX5_taken_4 : decode cX5_taken 4 = .ok (.iload_n 2, 1) := by decide +kernel
theorem dX5_taken_5 : decode cX5_taken 5 = .ok (.bipush 6, 2) := by decide +kernel
theorem dX5_taken_7 : decode cX5_taken 7 = .ok (.if_icmp .lt 6, 3) := by decide +kernel
theorem dX5_taken_10 : decode cX5_taken 10 = .ok (.bipush (-2), 2) := by decide +kernel
theorem dX5_taken_12 : decode cX5_taken 12 = .ok (.ireturn, 1) := by decide +kernel
theorem dX5_taken_13 : decode cX5_taken 13 = .ok (.aload_n 0, 1) := by decide +kernel
theorem dX5_taken_14 : decode cX5_taken 14 = .ok (.getfield 12, 3) := by decide +kernel
theorem dX5_taken_17 : decode cX5_taken 17 = .ok (.iload_n 1, 1) := by decide +kernel
theorem dX5_taken_18 : decode cX5_taken 18 = .ok (.invokevirtual 124, 3) := by decide +kernel
theorem dX5_taken_21 : decode cX5_taken 21 = .ok (.ifCond .ne 6, 3) := by decide +kernel
theorem dX5_taken_24 : decode cX5_taken 24 = .ok (.bipush (-11), 2) := by decide +kernel
theorem dX5_taken_26 : decode cX5_taken 26 = .ok (.ireturn, 1) := by decide +kernel
theorem dX5_taken_27 : decode cX5_taken 27 = .ok (.aload_n 0, 1) := by decide +kernel
theorem dX5_taken_28 : decode cX5_taken 28 = .ok (.getfield 12, 3) := by decide +kernel
theorem dX5_taken_31 : decode cX5_taken 31 = .ok (.getfield 146, 3) := by decide +kernel
theorem dX5_taken_34 : decode cX5_taken 34 = .ok (.iload_n 1, 1) := by decide +kernel
theorem dX5_taken_35 : decode cX5_taken 35 = .ok (.iaload, 1) := by decide +kernel
theorem dX5_taken_36 : decode cX5_taken 36 = .ok (.iload_n 2, 1) := by decide +kernel
theorem dX5_taken_37 : decode cX5_taken 37 = .ok (.invokestatic 298, 3) := by decide +kernel
theorem dX5_taken_40 : decode cX5_taken 40 = .ok (.ifCond .eq 15, 3) := by decide +kernel
theorem dX5_taken_43 : decode cX5_taken 43 = .ok (.aload_n 0, 1) := by decide +kernel
theorem dX5_taken_44 : decode cX5_taken 44 = .ok (.getfield 12, 3) := by decide +kernel
theorem dX5_taken_47 : decode cX5_taken 47 = .ok (.getfield 128, 3) := by decide +kernel
theorem dX5_taken_50 : decode cX5_taken 50 = .ok (.iload_n 1, 1) := by decide +kernel
theorem dX5_taken_51 : decode cX5_taken 51 = .ok (.iaload, 1) := by decide +kernel
theorem dX5_taken_52 : decode cX5_taken 52 = .ok (.goto 5, 3) := by decide +kernel
theorem dX5_taken_55 : decode cX5_taken 55 = .ok (.bipush (-13), 2) := by decide +kernel
theorem dX5_taken_57 : decode cX5_taken 57 = .ok (.ireturn, 1) := by decide +kernel
theorem dX5_thinking_0 : decode cX5_thinking 0 = .ok (.aload_n 0, 1) := by decide +kernel
theorem dX5_thinking_1 : decode cX5_thinking 1 = .ok (.getfield 22, 3) := by decide +kernel
theorem dX5_thinking_4 : decode cX5_thinking 4 = .ok (.getfield 199, 3) := by decide +kernel
theorem dX5_thinking_7 : decode cX5_thinking 7 = .ok (.aload_n 0, 1) := by decide +kernel
theorem dX5_thinking_8 : decode cX5_thinking 8 = .ok (.getfield 12, 3) := by decide +kernel
theorem dX5_thinking_11 : decode cX5_thinking 11 = .ok (.invokevirtual 258, 3) := by decide +kernel
theorem dX5_thinking_14 : decode cX5_thinking 14 = .ok (.aload_n 0, 1) := by decide +kernel
theorem dX5_thinking_15 : decode cX5_thinking 15 = .ok (.getfield 35, 3) := by decide +kernel
theorem dX5_thinking_18 : decode cX5_thinking 18 = .ok (.aload_n 0, 1) := by decide +kernel
theorem dX5_thinking_19 : decode cX5_thinking 19 = .ok (.getfield 12, 3) := by decide +kernel
theorem dX5_thinking_22 : decode cX5_thinking 22 = .ok (.getfield 169, 3) := by decide +kernel
theorem dX5_thinking_25 : decode cX5_thinking 25 = .ok (.aaload, 1) := by decide +kernel
theorem dX5_thinking_26 : decode cX5_thinking 26 = .ok (.astore_n 1, 1) := by decide +kernel
theorem dX5_thinking_27 : decode cX5_thinking 27 = .ok (.aload_n 1, 1) := by decide +kernel
theorem dX5_thinking_28 : decode cX5_thinking 28 = .ok (.ifnull 11, 3) := by decide +kernel
theorem dX5_thinking_31 : decode cX5_thinking 31 = .ok (.aload_n 0, 1) := by decide +kernel
theorem dX5_thinking_32 : decode cX5_thinking 32 = .ok (.getfield 22, 3) := by decide +kernel
theorem dX5_thinking_35 : decode cX5_thinking 35 = .ok (.aload_n 1, 1) := by decide +kernel
theorem dX5_thinking_36 : decode cX5_thinking 36 = .ok (.putfield 301, 3) := by decide +kernel
theorem dX5_thinking_39 : decode cX5_thinking 39 = .ok (.aload_n 0, 1) := by decide +kernel
theorem dX5_thinking_40 : decode cX5_thinking 40 = .ok (.getfield 22, 3) := by decide +kernel
theorem dX5_thinking_43 : decode cX5_thinking 43 = .ok (.areturn, 1) := by decide +kernel
theorem dX5_thinkingOfHouse_0 : decode cX5_thinkingOfHouse 0 = .ok (.aload_n 0, 1) := by decide +kernel
theorem dX5_thinkingOfHouse_1 : decode cX5_thinkingOfHouse 1 = .ok (.invokevirtual 156, 3) := by decide +kernel
theorem dX5_thinkingOfHouse_4 : decode cX5_thinkingOfHouse 4 = .ok (.aload_n 0, 1) := by decide +kernel
theorem dX5_thinkingOfHouse_5 : decode cX5_thinkingOfHouse 5 = .ok (.getfield 12, 3) := by decide +kernel
theorem dX5_thinkingOfHouse_8 : decode cX5_thinkingOfHouse 8 = .ok (.getfield 134, 3) := by decide +kernel
theorem dX5_thinkingOfHouse_11 : decode cX5_thinkingOfHouse 11 = .ok (.invokevirtual 227, 3) := by decide +kernel
theorem dX5_thinkingOfHouse_14 : decode cX5_thinkingOfHouse 14 = .ok (.aload_n 0, 1) := by decide +kernel
theorem dX5_thinkingOfHouse_15 : decode cX5_thinkingOfHouse 15 = .ok (.getfield 22, 3) := by decide +kernel
theorem dX5_thinkingOfHouse_18 : decode cX5_thinkingOfHouse 18 = .ok (.areturn, 1) := by decide +kernel
theorem dX5_isSheet_0 : decode cX5_isSheet 0 = .ok (.iload_n 0, 1) := by decide +kernel
theorem dX5_isSheet_1 : decode cX5_isSheet 1 = .ok (.ifCond .lt 12, 3) := by decide +kernel
theorem dX5_isSheet_4 : decode cX5_isSheet 4 = .ok (.iload_n 0, 1) := by decide +kernel
theorem dX5_isSheet_5 : decode cX5_isSheet 5 = .ok (.iconst 4, 1) := by decide +kernel
theorem dX5_isSheet_6 : decode cX5_isSheet 6 = .ok (.if_icmp .ge 7, 3) := by decide +kernel
theorem dX5_isSheet_9 : decode cX5_isSheet 9 = .ok (.iconst 1, 1) := by decide +kernel
theorem dX5_isSheet_10 : decode cX5_isSheet 10 = .ok (.goto 4, 3) := by decide +kernel
theorem dX5_isSheet_13 : decode cX5_isSheet 13 = .ok (.iconst 0, 1) := by decide +kernel
theorem dX5_isSheet_14 : decode cX5_isSheet 14 = .ok (.ireturn, 1) := by decide +kernel
theorem dX5_bit_0 : decode cX5_bit 0 = .ok (.iconst 1, 1) := by decide +kernel
theorem dX5_bit_1 : decode cX5_bit 1 = .ok (.iload_n 0, 1) := by decide +kernel
theorem dX5_bit_2 : decode cX5_bit 2 = .ok (.ishl, 1) := by decide +kernel
theorem dX5_bit_3 : decode cX5_bit 3 = .ok (.ireturn, 1) := by decide +kernel
theorem dX5_has_0 : decode cX5_has 0 = .ok (.iload_n 0, 1) := by decide +kernel
theorem dX5_has_1 : decode cX5_has 1 = .ok (.iload_n 1, 1) := by decide +kernel
theorem dX5_has_2 : decode cX5_has 2 = .ok (.iushr, 1) := by decide +kernel
theorem dX5_has_3 : decode cX5_has 3 = .ok (.iconst 1, 1) := by decide +kernel
theorem dX5_has_4 : decode cX5_has 4 = .ok (.iand, 1) := by decide +kernel
theorem dX5_has_5 : decode cX5_has 5 = .ok (.iconst 1, 1) := by decide +kernel
theorem dX5_has_6 : decode cX5_has 6 = .ok (.if_icmp .ne 7, 3) := by decide +kernel
theorem dX5_has_9 : decode cX5_has 9 = .ok (.iconst 1, 1) := by decide +kernel
theorem dX5_has_10 : decode cX5_has 10 = .ok (.goto 4, 3) := by decide +kernel
theorem dX5_has_13 : decode cX5_has 13 = .ok (.iconst 0, 1) := by decide +kernel
theorem dX5_has_14 : decode cX5_has 14 = .ok (.ireturn, 1) := by decide +kernel
theorem dX5_clamp_0 : decode cX5_clamp 0 = .ok (.iload_n 1, 1) := by decide +kernel
theorem dX5_clamp_1 : decode cX5_clamp 1 = .ok (.iload_n 2, 1) := by decide +kernel
theorem dX5_clamp_2 : decode cX5_clamp 2 = .ok (.iload_n 0, 1) := by decide +kernel
theorem dX5_clamp_3 : decode cX5_clamp 3 = .ok (.invokestatic 304, 3) := by decide +kernel
theorem dX5_clamp_6 : decode cX5_clamp 6 = .ok (.invokestatic 309, 3) := by decide +kernel
theorem dX5_clamp_9 : decode cX5_clamp 9 = .ok (.ireturn, 1) := by decide +kernel
theorem dX5_lowest_0 : decode cX5_lowest 0 = .ok (.iload_n 0, 1) := by decide +kernel
theorem dX5_lowest_1 : decode cX5_lowest 1 = .ok (.istore_n 2, 1) := by decide +kernel
theorem dX5_lowest_2 : decode cX5_lowest 2 = .ok (.iconst 0, 1) := by decide +kernel
theorem dX5_lowest_3 : decode cX5_lowest 3 = .ok (.istore_n 3, 1) := by decide +kernel
theorem dX5_lowest_4 : decode cX5_lowest 4 = .ok (.iload_n 3, 1) := by decide +kernel
theorem dX5_lowest_5 : decode cX5_lowest 5 = .ok (.iload_n 1, 1) := by decide +kernel
theorem dX5_lowest_6 : decode cX5_lowest 6 = .ok (.if_icmp .ge 21, 3) := by decide +kernel
theorem dX5_lowest_9 : decode cX5_lowest 9 = .ok (.iload_n 2, 1) := by decide +kernel
theorem dX5_lowest_10 : decode cX5_lowest 10 = .ok (.ifCond .ne 5, 3) := by decide +kernel
theorem dX5_lowest_13 : decode cX5_lowest 13 = .ok (.iconst (-1), 1) := by decide +kernel
theorem dX5_lowest_14 : decode cX5_lowest 14 = .ok (.ireturn, 1) := by decide +kernel
theorem dX5_lowest_15 : decode cX5_lowest 15 = .ok (.iload_n 2, 1) := by decide +kernel
theorem dX5_lowest_16 : decode cX5_lowest 16 = .ok (.iload_n 2, 1) := by decide +kernel
theorem dX5_lowest_17 : decode cX5_lowest 17 = .ok (.iconst 1, 1) := by decide +kernel
theorem dX5_lowest_18 : decode cX5_lowest 18 = .ok (.isub, 1) := by decide +kernel
theorem dX5_lowest_19 : decode cX5_lowest 19 = .ok (.iand, 1) := by decide +kernel
theorem dX5_lowest_20 : decode cX5_lowest 20 = .ok (.istore_n 2, 1) := by decide +kernel
theorem dX5_lowest_21 : decode cX5_lowest 21 = .ok (.iinc 3 1, 3) := by decide +kernel
theorem dX5_lowest_24 : decode cX5_lowest 24 = .ok (.goto (-20), 3) := by decide +kernel
theorem dX5_lowest_27 : decode cX5_lowest 27 = .ok (.iload_n 0, 1) := by decide +kernel
theorem dX5_lowest_28 : decode cX5_lowest 28 = .ok (.iload_n 2, 1) := by decide +kernel
theorem dX5_lowest_29 : decode cX5_lowest 29 = .ok (.ixor, 1) := by decide +kernel
theorem dX5_lowest_30 : decode cX5_lowest 30 = .ok (.ireturn, 1) := by decide +kernel
theorem dX5_choose_0 : decode cX5_choose 0 = .ok (.iconst 1, 1) := by decide +kernel
theorem dX5_choose_1 : decode cX5_choose 1 = .ok (.istore_n 2, 1) := by decide +kernel
theorem dX5_choose_2 : decode cX5_choose 2 = .ok (.iconst 0, 1) := by decide +kernel
theorem dX5_choose_3 : decode cX5_choose 3 = .ok (.istore_n 3, 1) := by decide +kernel
theorem dX5_choose_4 : decode cX5_choose 4 = .ok (.iload_n 3, 1) := by decide +kernel
theorem dX5_choose_5 : decode cX5_choose 5 = .ok (.iload_n 1, 1) := by decide +kernel
theorem dX5_choose_6 : decode cX5_choose 6 = .ok (.if_icmp .ge 19, 3) := by decide +kernel
theorem dX5_choose_9 : decode cX5_choose 9 = .ok (.iload_n 2, 1) := by decide +kernel
theorem dX5_choose_10 : decode cX5_choose 10 = .ok (.iload_n 0, 1) := by decide +kernel
theorem dX5_choose_11 : decode cX5_choose 11 = .ok (.iload_n 3, 1) := by decide +kernel
theorem dX5_choose_12 : decode cX5_choose 12 = .ok (.isub, 1) := by decide +kernel
theorem dX5_choose_13 : decode cX5_choose 13 = .ok (.imul, 1) := by decide +kernel
theorem dX5_choose_14 : decode cX5_choose 14 = .ok (.iload_n 3, 1) := by decide +kernel
theorem dX5_choose_15 : decode cX5_choose 15 = .ok (.iconst 1, 1) := by decide +kernel
theorem dX5_choose_16 : decode cX5_choose 16 = .ok (.iadd, 1) := by decide +kernel
theorem dX5_choose_17 : decode cX5_choose 17 = .ok (.idiv, 1) := by decide +kernel
theorem dX5_choose_18 : decode cX5_choose 18 = .ok (.istore_n 2, 1) := by decide +kernel
theorem dX5_choose_19 : decode cX5_choose 19 = .ok (.iinc 3 1, 3) := by decide +kernel
theorem dX5_choose_22 : decode cX5_choose 22 = .ok (.goto (-18), 3) := by decide +kernel
theorem dX5_choose_25 : decode cX5_choose 25 = .ok (.iload_n 2, 1) := by decide +kernel
theorem dX5_choose_26 : decode cX5_choose 26 = .ok (.ireturn, 1) := by decide +kernel
theorem dX5_commonDivisor_0 : decode cX5_commonDivisor 0 = .ok (.iload_n 1, 1) := by decide +kernel
theorem dX5_commonDivisor_1 : decode cX5_commonDivisor 1 = .ok (.istore_n 2, 1) := by decide +kernel
theorem dX5_commonDivisor_2 : decode cX5_commonDivisor 2 = .ok (.iload_n 2, 1) := by decide +kernel
theorem dX5_commonDivisor_3 : decode cX5_commonDivisor 3 = .ok (.iconst 1, 1) := by decide +kernel
theorem dX5_commonDivisor_4 : decode cX5_commonDivisor 4 = .ok (.if_icmp .le 23, 3) := by decide +kernel
theorem dX5_commonDivisor_7 : decode cX5_commonDivisor 7 = .ok (.iload_n 0, 1) := by decide +kernel
theorem dX5_commonDivisor_8 : decode cX5_commonDivisor 8 = .ok (.iload_n 2, 1) := by decide +kernel
theorem dX5_commonDivisor_9 : decode cX5_commonDivisor 9 = .ok (.irem, 1) := by decide +kernel
theorem dX5_commonDivisor_10 : decode cX5_commonDivisor 10 = .ok (.ifCond .ne 11, 3) := by decide +kernel
theorem dX5_commonDivisor_13 : decode cX5_commonDivisor 13 = .ok (.iload_n 1, 1) := by decide +kernel
theorem dX5_commonDivisor_14 : decode cX5_commonDivisor 14 = .ok (.iload_n 2, 1) := by decide +kernel
theorem dX5_commonDivisor_15 : decode cX5_commonDivisor 15 = .ok (.irem, 1) := by decide +kernel
theorem dX5_commonDivisor_16 : decode cX5_commonDivisor 16 = .ok (.ifCond .ne 5, 3) := by decide +kernel
theorem dX5_commonDivisor_19 : decode cX5_commonDivisor 19 = .ok (.iload_n 2, 1) := by decide +kernel
theorem dX5_commonDivisor_20 : decode cX5_commonDivisor 20 = .ok (.ireturn, 1) := by decide +kernel
theorem dX5_commonDivisor_21 : decode cX5_commonDivisor 21 = .ok (.iinc 2 (-1), 3) := by decide +kernel
theorem dX5_commonDivisor_24 : decode cX5_commonDivisor 24 = .ok (.goto (-22), 3) := by decide +kernel
theorem dX5_commonDivisor_27 : decode cX5_commonDivisor 27 = .ok (.iconst 1, 1) := by decide +kernel
theorem dX5_commonDivisor_28 : decode cX5_commonDivisor 28 = .ok (.ireturn, 1) := by decide +kernel
theorem dX5_isUnder_0 : decode cX5_isUnder 0 = .ok (.iload_n 0, 1) := by decide +kernel
theorem dX5_isUnder_1 : decode cX5_isUnder 1 = .ok (.istore_n 2, 1) := by decide +kernel
theorem dX5_isUnder_2 : decode cX5_isUnder 2 = .ok (.iconst 0, 1) := by decide +kernel
theorem dX5_isUnder_3 : decode cX5_isUnder 3 = .ok (.istore_n 3, 1) := by decide +kernel
theorem dX5_isUnder_4 : decode cX5_isUnder 4 = .ok (.iload_n 3, 1) := by decide +kernel
theorem dX5_isUnder_5 : decode cX5_isUnder 5 = .ok (.bipush 6, 2) := by decide +kernel
theorem dX5_isUnder_7 : decode cX5_isUnder 7 = .ok (.if_icmp .ge 32, 3) := by decide +kernel
theorem dX5_isUnder_10 : decode cX5_isUnder 10 = .ok (.iload_n 2, 1) := by decide +kernel
theorem dX5_isUnder_11 : decode cX5_isUnder 11 = .ok (.ifCond .lt 28, 3) := by decide +kernel
theorem dX5_isUnder_14 : decode cX5_isUnder 14 = .ok (.iload_n 2, 1) := by decide +kernel
theorem dX5_isUnder_15 : decode cX5_isUnder 15 = .ok (.bipush 6, 2) := by decide +kernel
theorem dX5_isUnder_17 : decode cX5_isUnder 17 = .ok (.if_icmp .ge 22, 3) := by decide +kernel
theorem dX5_isUnder_20 : decode cX5_isUnder 20 = .ok (.iload_n 2, 1) := by decide +kernel
theorem dX5_isUnder_21 : decode cX5_isUnder 21 = .ok (.iload_n 1, 1) := by decide +kernel
theorem dX5_isUnder_22 : decode cX5_isUnder 22 = .ok (.if_icmp .ne 5, 3) := by decide +kernel
theorem dX5_isUnder_25 : decode cX5_isUnder 25 = .ok (.iconst 1, 1) := by decide +kernel
theorem dX5_isUnder_26 : decode cX5_isUnder 26 = .ok (.ireturn, 1) := by decide +kernel
theorem dX5_isUnder_27 : decode cX5_isUnder 27 = .ok (.getstatic 312, 3) := by decide +kernel
theorem dX5_isUnder_30 : decode cX5_isUnder 30 = .ok (.iload_n 2, 1) := by decide +kernel
theorem dX5_isUnder_31 : decode cX5_isUnder 31 = .ok (.iaload, 1) := by decide +kernel
theorem dX5_isUnder_32 : decode cX5_isUnder 32 = .ok (.istore_n 2, 1) := by decide +kernel
theorem dX5_isUnder_33 : decode cX5_isUnder 33 = .ok (.iinc 3 1, 3) := by decide +kernel
theorem dX5_isUnder_36 : decode cX5_isUnder 36 = .ok (.goto (-32), 3) := by decide +kernel
theorem dX5_isUnder_39 : decode cX5_isUnder 39 = .ok (.iconst 0, 1) := by decide +kernel
theorem dX5_isUnder_40 : decode cX5_isUnder 40 = .ok (.ireturn, 1) := by decide +kernel
theorem dX5_bringsAs_0 : decode cX5_bringsAs 0 = .ok (.iload_n 0, 1) := by decide +kernel
theorem dX5_bringsAs_1 : decode cX5_bringsAs 1 = .ok (.tableswitch 83 1 5 #[35, 39, 55, 64, 73], 35) := by decide +kernel
theorem dX5_bringsAs_36 : decode cX5_bringsAs 36 = .ok (.iload_n 1, 1) := by decide +kernel
theorem dX5_bringsAs_37 : decode cX5_bringsAs 37 = .ok (.iload_n 2, 1) := by decide +kernel
theorem dX5_bringsAs_38 : decode cX5_bringsAs 38 = .ok (.iadd, 1) := by decide +kernel
theorem dX5_bringsAs_39 : decode cX5_bringsAs 39 = .ok (.ireturn, 1) := by decide +kernel
theorem dX5_bringsAs_40 : decode cX5_bringsAs 40 = .ok (.iload_n 2, 1) := by decide +kernel
theorem dX5_bringsAs_41 : decode cX5_bringsAs 41 = .ok (.iconst 4, 1) := by decide +kernel
theorem dX5_bringsAs_42 : decode cX5_bringsAs 42 = .ok (.if_icmp .ge 7, 3) := by decide +kernel
theorem dX5_bringsAs_45 : decode cX5_bringsAs 45 = .ok (.iload_n 1, 1) := by decide +kernel
theorem dX5_bringsAs_46 : decode cX5_bringsAs 46 = .ok (.goto 9, 3) := by decide +kernel
theorem dX5_bringsAs_49 : decode cX5_bringsAs 49 = .ok (.iconst 0, 1) := by decide +kernel
theorem dX5_bringsAs_50 : decode cX5_bringsAs 50 = .ok (.iload_n 1, 1) := by decide +kernel
theorem dX5_bringsAs_51 : decode cX5_bringsAs 51 = .ok (.iload_n 2, 1) := by decide +kernel
theorem dX5_bringsAs_52 : decode cX5_bringsAs 52 = .ok (.invokestatic 315, 3) := by decide +kernel
theorem dX5_bringsAs_55 : decode cX5_bringsAs 55 = .ok (.ireturn, 1) := by decide +kernel
theorem dX5_bringsAs_56 : decode cX5_bringsAs 56 = .ok (.iconst 2, 1) := by decide +kernel
theorem dX5_bringsAs_57 : decode cX5_bringsAs 57 = .ok (.iconst 1, 1) := by decide +kernel
theorem dX5_bringsAs_58 : decode cX5_bringsAs 58 = .ok (.iload_n 1, 1) := by decide +kernel
theorem dX5_bringsAs_59 : decode cX5_bringsAs 59 = .ok (.iload_n 2, 1) := by decide +kernel
theorem dX5_bringsAs_60 : decode cX5_bringsAs 60 = .ok (.invokestatic 315, 3) := by decide +kernel
theorem dX5_bringsAs_63 : decode cX5_bringsAs 63 = .ok (.imul, 1) := by decide +kernel
theorem dX5_bringsAs_64 : decode cX5_bringsAs 64 = .ok (.ireturn, 1) := by decide +kernel
theorem dX5_bringsAs_65 : decode cX5_bringsAs 65 = .ok (.iconst 2, 1) := by decide +kernel
theorem dX5_bringsAs_66 : decode cX5_bringsAs 66 = .ok (.iload_n 1, 1) := by decide +kernel
theorem dX5_bringsAs_67 : decode cX5_bringsAs 67 = .ok (.iload_n 2, 1) := by decide +kernel
theorem dX5_bringsAs_68 : decode cX5_bringsAs 68 = .ok (.invokestatic 315, 3) := by decide +kernel
theorem dX5_bringsAs_71 : decode cX5_bringsAs 71 = .ok (.iconst 3, 1) := by decide +kernel
theorem dX5_bringsAs_72 : decode cX5_bringsAs 72 = .ok (.isub, 1) := by decide +kernel
theorem dX5_bringsAs_73 : decode cX5_bringsAs 73 = .ok (.ireturn, 1) := by decide +kernel
theorem dX5_bringsAs_74 : decode cX5_bringsAs 74 = .ok (.iconst 1, 1) := by decide +kernel
theorem dX5_bringsAs_75 : decode cX5_bringsAs 75 = .ok (.iload_n 1, 1) := by decide +kernel
theorem dX5_bringsAs_76 : decode cX5_bringsAs 76 = .ok (.iload_n 2, 1) := by decide +kernel
theorem dX5_bringsAs_77 : decode cX5_bringsAs 77 = .ok (.invokestatic 315, 3) := by decide +kernel
theorem dX5_bringsAs_80 : decode cX5_bringsAs 80 = .ok (.bipush 12, 2) := by decide +kernel
theorem dX5_bringsAs_82 : decode cX5_bringsAs 82 = .ok (.isub, 1) := by decide +kernel
theorem dX5_bringsAs_83 : decode cX5_bringsAs 83 = .ok (.ireturn, 1) := by decide +kernel
theorem dX5_bringsAs_84 : decode cX5_bringsAs 84 = .ok (.iconst 0, 1) := by decide +kernel
theorem dX5_bringsAs_85 : decode cX5_bringsAs 85 = .ok (.ireturn, 1) := by decide +kernel
theorem dX5_wantsAs_0 : decode cX5_wantsAs 0 = .ok (.iload_n 0, 1) := by decide +kernel
theorem dX5_wantsAs_1 : decode cX5_wantsAs 1 = .ok (.tableswitch 99 1 5 #[35, 45, 55, 71, 89], 35) := by decide +kernel
theorem dX5_wantsAs_36 : decode cX5_wantsAs 36 = .ok (.iconst 0, 1) := by decide +kernel
theorem dX5_wantsAs_37 : decode cX5_wantsAs 37 = .ok (.iload_n 1, 1) := by decide +kernel
theorem dX5_wantsAs_38 : decode cX5_wantsAs 38 = .ok (.iload_n 2, 1) := by decide +kernel
theorem dX5_wantsAs_39 : decode cX5_wantsAs 39 = .ok (.iload_n 3, 1) := by decide +kernel
theorem dX5_wantsAs_40 : decode cX5_wantsAs 40 = .ok (.invokestatic 318, 3) := by decide +kernel
theorem dX5_wantsAs_43 : decode cX5_wantsAs 43 = .ok (.iload_n 2, 1) := by decide +kernel
theorem dX5_wantsAs_44 : decode cX5_wantsAs 44 = .ok (.iadd, 1) := by decide +kernel
theorem dX5_wantsAs_45 : decode cX5_wantsAs 45 = .ok (.ireturn, 1) := by decide +kernel
theorem dX5_wantsAs_46 : decode cX5_wantsAs 46 = .ok (.iconst 0, 1) := by decide +kernel
theorem dX5_wantsAs_47 : decode cX5_wantsAs 47 = .ok (.iload_n 1, 1) := by decide +kernel
theorem dX5_wantsAs_48 : decode cX5_wantsAs 48 = .ok (.iload_n 2, 1) := by decide +kernel
theorem dX5_wantsAs_49 : decode cX5_wantsAs 49 = .ok (.iload_n 3, 1) := by decide +kernel
theorem dX5_wantsAs_50 : decode cX5_wantsAs 50 = .ok (.invokestatic 318, 3) := by decide +kernel
theorem dX5_wantsAs_53 : decode cX5_wantsAs 53 = .ok (.iload_n 1, 1) := by decide +kernel
theorem dX5_wantsAs_54 : decode cX5_wantsAs 54 = .ok (.iadd, 1) := by decide +kernel
theorem dX5_wantsAs_55 : decode cX5_wantsAs 55 = .ok (.ireturn, 1) := by decide +kernel
theorem dX5_wantsAs_56 : decode cX5_wantsAs 56 = .ok (.iload_n 3, 1) := by decide +kernel
theorem dX5_wantsAs_57 : decode cX5_wantsAs 57 = .ok (.ifCond .eq 13, 3) := by decide +kernel
theorem dX5_wantsAs_60 : decode cX5_wantsAs 60 = .ok (.iconst 1, 1) := by decide +kernel
theorem dX5_wantsAs_61 : decode cX5_wantsAs 61 = .ok (.iload_n 1, 1) := by decide +kernel
theorem dX5_wantsAs_62 : decode cX5_wantsAs 62 = .ok (.iload_n 2, 1) := by decide +kernel
theorem dX5_wantsAs_63 : decode cX5_wantsAs 63 = .ok (.iconst 1, 1) := by decide +kernel
theorem dX5_wantsAs_64 : decode cX5_wantsAs 64 = .ok (.invokestatic 318, 3) := by decide +kernel
theorem dX5_wantsAs_67 : decode cX5_wantsAs 67 = .ok (.goto 4, 3) := by decide +kernel
theorem dX5_wantsAs_70 : decode cX5_wantsAs 70 = .ok (.iconst 0, 1) := by decide +kernel
theorem dX5_wantsAs_71 : decode cX5_wantsAs 71 = .ok (.ireturn, 1) := by decide +kernel
theorem dX5_wantsAs_72 : decode cX5_wantsAs 72 = .ok (.iload_n 3, 1) := by decide +kernel
theorem dX5_wantsAs_73 : decode cX5_wantsAs 73 = .ok (.ifCond .eq 7, 3) := by decide +kernel
theorem dX5_wantsAs_76 : decode cX5_wantsAs 76 = .ok (.iconst 2, 1) := by decide +kernel
theorem dX5_wantsAs_77 : decode cX5_wantsAs 77 = .ok (.goto 4, 3) := by decide +kernel
theorem dX5_wantsAs_80 : decode cX5_wantsAs 80 = .ok (.iconst 1, 1) := by decide +kernel
theorem dX5_wantsAs_81 : decode cX5_wantsAs 81 = .ok (.iconst 2, 1) := by decide +kernel
theorem dX5_wantsAs_82 : decode cX5_wantsAs 82 = .ok (.iload_n 1, 1) := by decide +kernel
theorem dX5_wantsAs_83 : decode cX5_wantsAs 83 = .ok (.iload_n 2, 1) := by decide +kernel
theorem dX5_wantsAs_84 : decode cX5_wantsAs 84 = .ok (.iload_n 3, 1) := by decide +kernel
theorem dX5_wantsAs_85 : decode cX5_wantsAs 85 = .ok (.invokestatic 318, 3) := by decide +kernel
theorem dX5_wantsAs_88 : decode cX5_wantsAs 88 = .ok (.imul, 1) := by decide +kernel
theorem dX5_wantsAs_89 : decode cX5_wantsAs 89 = .ok (.ireturn, 1) := by decide +kernel
theorem dX5_wantsAs_90 : decode cX5_wantsAs 90 = .ok (.iconst 1, 1) := by decide +kernel
theorem dX5_wantsAs_91 : decode cX5_wantsAs 91 = .ok (.iload_n 1, 1) := by decide +kernel
theorem dX5_wantsAs_92 : decode cX5_wantsAs 92 = .ok (.iload_n 2, 1) := by decide +kernel
theorem dX5_wantsAs_93 : decode cX5_wantsAs 93 = .ok (.iload_n 3, 1) := by decide +kernel
theorem dX5_wantsAs_94 : decode cX5_wantsAs 94 = .ok (.invokestatic 318, 3) := by decide +kernel
theorem dX5_wantsAs_97 : decode cX5_wantsAs 97 = .ok (.iconst 5, 1) := by decide +kernel
theorem dX5_wantsAs_98 : decode cX5_wantsAs 98 = .ok (.isub, 1) := by decide +kernel
theorem dX5_wantsAs_99 : decode cX5_wantsAs 99 = .ok (.ireturn, 1) := by decide +kernel
theorem dX5_wantsAs_100 : decode cX5_wantsAs 100 = .ok (.iconst 1, 1) := by decide +kernel
theorem dX5_wantsAs_101 : decode cX5_wantsAs 101 = .ok (.ireturn, 1) := by decide +kernel
theorem dJ6_bitCount_0f7a4_0 : decode cJ6_bitCount_0f7a4 0 = .ok (.iload_n 0, 1) := by decide +kernel
theorem dJ6_bitCount_0f7a4_1 : decode cJ6_bitCount_0f7a4 1 = .ok (.iload_n 0, 1) := by decide +kernel
theorem dJ6_bitCount_0f7a4_2 : decode cJ6_bitCount_0f7a4 2 = .ok (.iconst 1, 1) := by decide +kernel
theorem dJ6_bitCount_0f7a4_3 : decode cJ6_bitCount_0f7a4 3 = .ok (.iushr, 1) := by decide +kernel
theorem dJ6_bitCount_0f7a4_4 : decode cJ6_bitCount_0f7a4 4 = .ok (.ldc_w 265, 3) := by decide +kernel
theorem dJ6_bitCount_0f7a4_7 : decode cJ6_bitCount_0f7a4 7 = .ok (.iand, 1) := by decide +kernel
theorem dJ6_bitCount_0f7a4_8 : decode cJ6_bitCount_0f7a4 8 = .ok (.isub, 1) := by decide +kernel
theorem dJ6_bitCount_0f7a4_9 : decode cJ6_bitCount_0f7a4 9 = .ok (.istore_n 0, 1) := by decide +kernel
theorem dJ6_bitCount_0f7a4_10 : decode cJ6_bitCount_0f7a4 10 = .ok (.iload_n 0, 1) := by decide +kernel
theorem dJ6_bitCount_0f7a4_11 : decode cJ6_bitCount_0f7a4 11 = .ok (.ldc_w 266, 3) := by decide +kernel
theorem dJ6_bitCount_0f7a4_14 : decode cJ6_bitCount_0f7a4 14 = .ok (.iand, 1) := by decide +kernel
theorem dJ6_bitCount_0f7a4_15 : decode cJ6_bitCount_0f7a4 15 = .ok (.iload_n 0, 1) := by decide +kernel
theorem dJ6_bitCount_0f7a4_16 : decode cJ6_bitCount_0f7a4 16 = .ok (.iconst 2, 1) := by decide +kernel
theorem dJ6_bitCount_0f7a4_17 : decode cJ6_bitCount_0f7a4 17 = .ok (.iushr, 1) := by decide +kernel
theorem dJ6_bitCount_0f7a4_18 : decode cJ6_bitCount_0f7a4 18 = .ok (.ldc_w 266, 3) := by decide +kernel
theorem dJ6_bitCount_0f7a4_21 : decode cJ6_bitCount_0f7a4 21 = .ok (.iand, 1) := by decide +kernel
theorem dJ6_bitCount_0f7a4_22 : decode cJ6_bitCount_0f7a4 22 = .ok (.iadd, 1) := by decide +kernel
theorem dJ6_bitCount_0f7a4_23 : decode cJ6_bitCount_0f7a4 23 = .ok (.istore_n 0, 1) := by decide +kernel
theorem dJ6_bitCount_0f7a4_24 : decode cJ6_bitCount_0f7a4 24 = .ok (.iload_n 0, 1) := by decide +kernel
theorem dJ6_bitCount_0f7a4_25 : decode cJ6_bitCount_0f7a4 25 = .ok (.iload_n 0, 1) := by decide +kernel
theorem dJ6_bitCount_0f7a4_26 : decode cJ6_bitCount_0f7a4 26 = .ok (.iconst 4, 1) := by decide +kernel
theorem dJ6_bitCount_0f7a4_27 : decode cJ6_bitCount_0f7a4 27 = .ok (.iushr, 1) := by decide +kernel
theorem dJ6_bitCount_0f7a4_28 : decode cJ6_bitCount_0f7a4 28 = .ok (.iadd, 1) := by decide +kernel
theorem dJ6_bitCount_0f7a4_29 : decode cJ6_bitCount_0f7a4 29 = .ok (.ldc_w 267, 3) := by decide +kernel
theorem dJ6_bitCount_0f7a4_32 : decode cJ6_bitCount_0f7a4 32 = .ok (.iand, 1) := by decide +kernel
theorem dJ6_bitCount_0f7a4_33 : decode cJ6_bitCount_0f7a4 33 = .ok (.istore_n 0, 1) := by decide +kernel
theorem dJ6_bitCount_0f7a4_34 : decode cJ6_bitCount_0f7a4 34 = .ok (.iload_n 0, 1) := by decide +kernel
theorem dJ6_bitCount_0f7a4_35 : decode cJ6_bitCount_0f7a4 35 = .ok (.iload_n 0, 1) := by decide +kernel
theorem dJ6_bitCount_0f7a4_36 : decode cJ6_bitCount_0f7a4 36 = .ok (.bipush 8, 2) := by decide +kernel
theorem dJ6_bitCount_0f7a4_38 : decode cJ6_bitCount_0f7a4 38 = .ok (.iushr, 1) := by decide +kernel
theorem dJ6_bitCount_0f7a4_39 : decode cJ6_bitCount_0f7a4 39 = .ok (.iadd, 1) := by decide +kernel
theorem dJ6_bitCount_0f7a4_40 : decode cJ6_bitCount_0f7a4 40 = .ok (.istore_n 0, 1) := by decide +kernel
theorem dJ6_bitCount_0f7a4_41 : decode cJ6_bitCount_0f7a4 41 = .ok (.iload_n 0, 1) := by decide +kernel
theorem dJ6_bitCount_0f7a4_42 : decode cJ6_bitCount_0f7a4 42 = .ok (.iload_n 0, 1) := by decide +kernel
theorem dJ6_bitCount_0f7a4_43 : decode cJ6_bitCount_0f7a4 43 = .ok (.bipush 16, 2) := by decide +kernel
theorem dJ6_bitCount_0f7a4_45 : decode cJ6_bitCount_0f7a4 45 = .ok (.iushr, 1) := by decide +kernel
theorem dJ6_bitCount_0f7a4_46 : decode cJ6_bitCount_0f7a4 46 = .ok (.iadd, 1) := by decide +kernel
theorem dJ6_bitCount_0f7a4_47 : decode cJ6_bitCount_0f7a4 47 = .ok (.istore_n 0, 1) := by decide +kernel
theorem dJ6_bitCount_0f7a4_48 : decode cJ6_bitCount_0f7a4 48 = .ok (.iload_n 0, 1) := by decide +kernel
theorem dJ6_bitCount_0f7a4_49 : decode cJ6_bitCount_0f7a4 49 = .ok (.bipush 63, 2) := by decide +kernel
theorem dJ6_bitCount_0f7a4_51 : decode cJ6_bitCount_0f7a4 51 = .ok (.iand, 1) := by decide +kernel
theorem dJ6_bitCount_0f7a4_52 : decode cJ6_bitCount_0f7a4 52 = .ok (.ireturn, 1) := by decide +kernel
theorem dJ9_max_7cf53_0 : decode cJ9_max_7cf53 0 = .ok (.iload_n 0, 1) := by decide +kernel
theorem dJ9_max_7cf53_1 : decode cJ9_max_7cf53 1 = .ok (.iload_n 1, 1) := by decide +kernel
theorem dJ9_max_7cf53_2 : decode cJ9_max_7cf53 2 = .ok (.if_icmp .lt 7, 3) := by decide +kernel
theorem dJ9_max_7cf53_5 : decode cJ9_max_7cf53 5 = .ok (.iload_n 0, 1) := by decide +kernel
theorem dJ9_max_7cf53_6 : decode cJ9_max_7cf53 6 = .ok (.goto 4, 3) := by decide +kernel
theorem dJ9_max_7cf53_9 : decode cJ9_max_7cf53 9 = .ok (.iload_n 1, 1) := by decide +kernel
theorem dJ9_max_7cf53_10 : decode cJ9_max_7cf53 10 = .ok (.ireturn, 1) := by decide +kernel
theorem dJ9_min_7cf53_0 : decode cJ9_min_7cf53 0 = .ok (.iload_n 0, 1) := by decide +kernel
theorem dJ9_min_7cf53_1 : decode cJ9_min_7cf53 1 = .ok (.iload_n 1, 1) := by decide +kernel
theorem dJ9_min_7cf53_2 : decode cJ9_min_7cf53 2 = .ok (.if_icmp .gt 7, 3) := by decide +kernel
theorem dJ9_min_7cf53_5 : decode cJ9_min_7cf53 5 = .ok (.iload_n 0, 1) := by decide +kernel
theorem dJ9_min_7cf53_6 : decode cJ9_min_7cf53 6 = .ok (.goto 4, 3) := by decide +kernel
theorem dJ9_min_7cf53_9 : decode cJ9_min_7cf53 9 = .ok (.iload_n 1, 1) := by decide +kernel
theorem dJ9_min_7cf53_10 : decode cJ9_min_7cf53 10 = .ok (.ireturn, 1) := by decide +kernel
theorem dJ0_length_8abf5_0 : decode cJ0_length_8abf5 0 = .ok (.aload_n 0, 1) := by decide +kernel
theorem dJ0_length_8abf5_1 : decode cJ0_length_8abf5 1 = .ok (.getfield 9, 3) := by decide +kernel
theorem dJ0_length_8abf5_4 : decode cJ0_length_8abf5 4 = .ok (.arraylength, 1) := by decide +kernel
theorem dJ0_length_8abf5_5 : decode cJ0_length_8abf5 5 = .ok (.aload_n 0, 1) := by decide +kernel
theorem dJ0_length_8abf5_6 : decode cJ0_length_8abf5 6 = .ok (.invokevirtual 335, 3) := by decide +kernel
theorem dJ0_length_8abf5_9 : decode cJ0_length_8abf5 9 = .ok (.ishr, 1) := by decide +kernel
theorem dJ0_length_8abf5_10 : decode cJ0_length_8abf5 10 = .ok (.ireturn, 1) := by decide +kernel
theorem dJ0_charAt_5068e_0 : decode cJ0_charAt_5068e 0 = .ok (.aload_n 0, 1) := by decide +kernel
theorem dJ0_charAt_5068e_1 : decode cJ0_charAt_5068e 1 = .ok (.invokevirtual 492, 3) := by decide +kernel
theorem dJ0_charAt_5068e_4 : decode cJ0_charAt_5068e 4 = .ok (.ifCond .eq 12, 3) := by decide +kernel
theorem dJ0_charAt_5068e_7 : decode cJ0_charAt_5068e 7 = .ok (.aload_n 0, 1) := by decide +kernel
theorem dJ0_charAt_5068e_8 : decode cJ0_charAt_5068e 8 = .ok (.getfield 9, 3) := by decide +kernel
theorem dJ0_charAt_5068e_11 : decode cJ0_charAt_5068e 11 = .ok (.iload_n 1, 1) := by decide +kernel
theorem dJ0_charAt_5068e_12 : decode cJ0_charAt_5068e 12 = .ok (.invokestatic 495, 3) := by decide +kernel
theorem dJ0_charAt_5068e_15 : decode cJ0_charAt_5068e 15 = .ok (.ireturn, 1) := by decide +kernel
theorem dJ0_charAt_5068e_16 : decode cJ0_charAt_5068e 16 = .ok (.aload_n 0, 1) := by decide +kernel
theorem dJ0_charAt_5068e_17 : decode cJ0_charAt_5068e 17 = .ok (.getfield 9, 3) := by decide +kernel
theorem dJ0_charAt_5068e_20 : decode cJ0_charAt_5068e 20 = .ok (.iload_n 1, 1) := by decide +kernel
theorem dJ0_charAt_5068e_21 : decode cJ0_charAt_5068e 21 = .ok (.invokestatic 498, 3) := by decide +kernel
theorem dJ0_charAt_5068e_24 : decode cJ0_charAt_5068e 24 = .ok (.ireturn, 1) := by decide +kernel
theorem dJ0_coder_7d493_0 : decode cJ0_coder_7d493 0 = .ok (.getstatic 38, 3) := by decide +kernel
theorem dJ0_coder_7d493_3 : decode cJ0_coder_7d493 3 = .ok (.ifCond .eq 10, 3) := by decide +kernel
theorem dJ0_coder_7d493_6 : decode cJ0_coder_7d493 6 = .ok (.aload_n 0, 1) := by decide +kernel
theorem dJ0_coder_7d493_7 : decode cJ0_coder_7d493 7 = .ok (.getfield 15, 3) := by decide +kernel
theorem dJ0_coder_7d493_10 : decode cJ0_coder_7d493 10 = .ok (.goto 4, 3) := by decide +kernel
theorem dJ0_coder_7d493_13 : decode cJ0_coder_7d493 13 = .ok (.iconst 1, 1) := by decide +kernel
theorem dJ0_coder_7d493_14 : decode cJ0_coder_7d493 14 = .ok (.ireturn, 1) := by decide +kernel
theorem dJ0_isLatin1_aae02_0 : decode cJ0_isLatin1_aae02 0 = .ok (.getstatic 38, 3) := by decide +kernel
theorem dJ0_isLatin1_aae02_3 : decode cJ0_isLatin1_aae02 3 = .ok (.ifCond .eq 14, 3) := by decide +kernel
theorem dJ0_isLatin1_aae02_6 : decode cJ0_isLatin1_aae02 6 = .ok (.aload_n 0, 1) := by decide +kernel
theorem dJ0_isLatin1_aae02_7 : decode cJ0_isLatin1_aae02 7 = .ok (.getfield 15, 3) := by decide +kernel
theorem dJ0_isLatin1_aae02_10 : decode cJ0_isLatin1_aae02 10 = .ok (.ifCond .ne 7, 3) := by decide +kernel
theorem dJ0_isLatin1_aae02_13 : decode cJ0_isLatin1_aae02 13 = .ok (.iconst 1, 1) := by decide +kernel
theorem dJ0_isLatin1_aae02_14 : decode cJ0_isLatin1_aae02 14 = .ok (.goto 4, 3) := by decide +kernel
theorem dJ0_isLatin1_aae02_17 : decode cJ0_isLatin1_aae02 17 = .ok (.iconst 0, 1) := by decide +kernel
theorem dJ0_isLatin1_aae02_18 : decode cJ0_isLatin1_aae02 18 = .ok (.ireturn, 1) := by decide +kernel
theorem dJ0_checkIndex_df160_0 : decode cJ0_checkIndex_df160 0 = .ok (.iload_n 0, 1) := by decide +kernel
theorem dJ0_checkIndex_df160_1 : decode cJ0_checkIndex_df160 1 = .ok (.iload_n 1, 1) := by decide +kernel
theorem dJ0_checkIndex_df160_2 : decode cJ0_checkIndex_df160 2 = .ok (.getstatic 1053, 3) := by decide +kernel
theorem dJ0_checkIndex_df160_5 : decode cJ0_checkIndex_df160 5 = .ok (.invokestatic 1059, 3) := by decide +kernel
theorem dJ0_checkIndex_df160_8 : decode cJ0_checkIndex_df160 8 = .ok (.pop, 1) := by decide +kernel
theorem dJ0_checkIndex_df160_9 : decode cJ0_checkIndex_df160 9 = .ok (.return_, 1) := by decide +kernel
theorem dJ1_charAt_3b067_0 : decode cJ1_charAt_3b067 0 = .ok (.iload_n 1, 1) := by decide +kernel
theorem dJ1_charAt_3b067_1 : decode cJ1_charAt_3b067 1 = .ok (.aload_n 0, 1) := by decide +kernel
theorem dJ1_charAt_3b067_2 : decode cJ1_charAt_3b067 2 = .ok (.arraylength, 1) := by decide +kernel
theorem dJ1_charAt_3b067_3 : decode cJ1_charAt_3b067 3 = .ok (.invokestatic 9, 3) := by decide +kernel
theorem dJ1_charAt_3b067_6 : decode cJ1_charAt_3b067 6 = .ok (.aload_n 0, 1) := by decide +kernel
theorem dJ1_charAt_3b067_7 : decode cJ1_charAt_3b067 7 = .ok (.iload_n 1, 1) := by decide +kernel
theorem dJ1_charAt_3b067_8 : decode cJ1_charAt_3b067 8 = .ok (.baload, 1) := by decide +kernel
theorem dJ1_charAt_3b067_9 : decode cJ1_charAt_3b067 9 = .ok (.sipush 255, 3) := by decide +kernel
theorem dJ1_charAt_3b067_12 : decode cJ1_charAt_3b067 12 = .ok (.iand, 1) := by decide +kernel
theorem dJ1_charAt_3b067_13 : decode cJ1_charAt_3b067 13 = .ok (.i2c, 1) := by decide +kernel
theorem dJ1_charAt_3b067_14 : decode cJ1_charAt_3b067 14 = .ok (.ireturn, 1) := by decide +kernel
theorem dJ7_fill_53178_0 : decode cJ7_fill_53178 0 = .ok (.iconst 0, 1) := by decide +kernel
theorem dJ7_fill_53178_1 : decode cJ7_fill_53178 1 = .ok (.istore_n 2, 1) := by decide +kernel
theorem dJ7_fill_53178_2 : decode cJ7_fill_53178 2 = .ok (.aload_n 0, 1) := by decide +kernel
theorem dJ7_fill_53178_3 : decode cJ7_fill_53178 3 = .ok (.arraylength, 1) := by decide +kernel
theorem dJ7_fill_53178_4 : decode cJ7_fill_53178 4 = .ok (.istore_n 3, 1) := by decide +kernel
theorem dJ7_fill_53178_5 : decode cJ7_fill_53178 5 = .ok (.iload_n 2, 1) := by decide +kernel
theorem dJ7_fill_53178_6 : decode cJ7_fill_53178 6 = .ok (.iload_n 3, 1) := by decide +kernel
theorem dJ7_fill_53178_7 : decode cJ7_fill_53178 7 = .ok (.if_icmp .ge 13, 3) := by decide +kernel
theorem dJ7_fill_53178_10 : decode cJ7_fill_53178 10 = .ok (.aload_n 0, 1) := by decide +kernel
theorem dJ7_fill_53178_11 : decode cJ7_fill_53178 11 = .ok (.iload_n 2, 1) := by decide +kernel
theorem dJ7_fill_53178_12 : decode cJ7_fill_53178 12 = .ok (.iload_n 1, 1) := by decide +kernel
theorem dJ7_fill_53178_13 : decode cJ7_fill_53178 13 = .ok (.iastore, 1) := by decide +kernel
theorem dJ7_fill_53178_14 : decode cJ7_fill_53178 14 = .ok (.iinc 2 1, 3) := by decide +kernel
theorem dJ7_fill_53178_17 : decode cJ7_fill_53178 17 = .ok (.goto (-12), 3) := by decide +kernel
theorem dJ7_fill_53178_20 : decode cJ7_fill_53178 20 = .ok (.return_, 1) := by decide +kernel
theorem dJ7_copyOf_59c91_0 : decode cJ7_copyOf_59c91 0 = .ok (.iload_n 1, 1) := by decide +kernel
theorem dJ7_copyOf_59c91_1 : decode cJ7_copyOf_59c91 1 = .ok (.aload_n 0, 1) := by decide +kernel
theorem dJ7_copyOf_59c91_2 : decode cJ7_copyOf_59c91 2 = .ok (.arraylength, 1) := by decide +kernel
theorem dJ7_copyOf_59c91_3 : decode cJ7_copyOf_59c91 3 = .ok (.if_icmp .ne 11, 3) := by decide +kernel
theorem dJ7_copyOf_59c91_6 : decode cJ7_copyOf_59c91 6 = .ok (.aload_n 0, 1) := by decide +kernel
theorem dJ7_copyOf_59c91_7 : decode cJ7_copyOf_59c91 7 = .ok (.invokevirtual 316, 3) := by decide +kernel
theorem dJ7_copyOf_59c91_10 : decode cJ7_copyOf_59c91 10 = .ok (.checkcast 317, 3) := by decide +kernel
theorem dJ7_copyOf_59c91_13 : decode cJ7_copyOf_59c91 13 = .ok (.areturn, 1) := by decide +kernel
theorem dJ7_copyOf_59c91_14 : decode cJ7_copyOf_59c91 14 = .ok (.iload_n 1, 1) := by decide +kernel
theorem dJ7_copyOf_59c91_15 : decode cJ7_copyOf_59c91 15 = .ok (.newarray .int, 2) := by decide +kernel
theorem dJ7_copyOf_59c91_17 : decode cJ7_copyOf_59c91 17 = .ok (.astore_n 2, 1) := by decide +kernel
theorem dJ7_copyOf_59c91_18 : decode cJ7_copyOf_59c91 18 = .ok (.aload_n 0, 1) := by decide +kernel
theorem dJ7_copyOf_59c91_19 : decode cJ7_copyOf_59c91 19 = .ok (.iconst 0, 1) := by decide +kernel
theorem dJ7_copyOf_59c91_20 : decode cJ7_copyOf_59c91 20 = .ok (.aload_n 2, 1) := by decide +kernel
theorem dJ7_copyOf_59c91_21 : decode cJ7_copyOf_59c91 21 = .ok (.iconst 0, 1) := by decide +kernel
theorem dJ7_copyOf_59c91_22 : decode cJ7_copyOf_59c91 22 = .ok (.aload_n 0, 1) := by decide +kernel
theorem dJ7_copyOf_59c91_23 : decode cJ7_copyOf_59c91 23 = .ok (.arraylength, 1) := by decide +kernel
theorem dJ7_copyOf_59c91_24 : decode cJ7_copyOf_59c91 24 = .ok (.iload_n 1, 1) := by decide +kernel
theorem dJ7_copyOf_59c91_25 : decode cJ7_copyOf_59c91 25 = .ok (.invokestatic 304, 3) := by decide +kernel
theorem dJ7_copyOf_59c91_28 : decode cJ7_copyOf_59c91 28 = .ok (.invokestatic 150, 3) := by decide +kernel
theorem dJ7_copyOf_59c91_31 : decode cJ7_copyOf_59c91 31 = .ok (.aload_n 2, 1) := by decide +kernel
theorem dJ7_copyOf_59c91_32 : decode cJ7_copyOf_59c91 32 = .ok (.areturn, 1) := by decide +kernel
theorem dJ3_checkIndex_8e157_0 : decode cJ3_checkIndex_8e157 0 = .ok (.iload_n 0, 1) := by decide +kernel
theorem dJ3_checkIndex_8e157_1 : decode cJ3_checkIndex_8e157 1 = .ok (.ifCond .lt 8, 3) := by decide +kernel
theorem dJ3_checkIndex_8e157_4 : decode cJ3_checkIndex_8e157 4 = .ok (.iload_n 0, 1) := by decide +kernel
theorem dJ3_checkIndex_8e157_5 : decode cJ3_checkIndex_8e157 5 = .ok (.iload_n 1, 1) := by decide +kernel
theorem dJ3_checkIndex_8e157_6 : decode cJ3_checkIndex_8e157 6 = .ok (.if_icmp .lt 10, 3) := by decide +kernel
theorem dJ3_checkIndex_8e157_9 : decode cJ3_checkIndex_8e157 9 = .ok (.aload_n 2, 1) := by decide +kernel
theorem dJ3_checkIndex_8e157_10 : decode cJ3_checkIndex_8e157 10 = .ok (.iload_n 0, 1) := by decide +kernel
theorem dJ3_checkIndex_8e157_11 : decode cJ3_checkIndex_8e157 11 = .ok (.iload_n 1, 1) := by decide +kernel
theorem dJ3_checkIndex_8e157_12 : decode cJ3_checkIndex_8e157 12 = .ok (.invokestatic 95, 3) := by decide +kernel
theorem dJ3_checkIndex_8e157_15 : decode cJ3_checkIndex_8e157 15 = .ok (.athrow, 1) := by decide +kernel
theorem dJ3_checkIndex_8e157_16 : decode cJ3_checkIndex_8e157 16 = .ok (.iload_n 0, 1) := by decide +kernel
theorem dJ3_checkIndex_8e157_17 : decode cJ3_checkIndex_8e157 17 = .ok (.ireturn, 1) := by decide +kernel
theorem dL_law_0 : decode cL_law 0 = .ok (.new 7, 3) := by decide +kernel
theorem dL_law_3 : decode cL_law 3 = .ok (.dup, 1) := by decide +kernel
theorem dL_law_4 : decode cL_law 4 = .ok (.invokespecial 9, 3) := by decide +kernel
theorem dL_law_7 : decode cL_law 7 = .ok (.astore_n 1, 1) := by decide +kernel
theorem dL_law_8 : decode cL_law 8 = .ok (.new 10, 3) := by decide +kernel
theorem dL_law_11 : decode cL_law 11 = .ok (.dup, 1) := by decide +kernel
theorem dL_law_12 : decode cL_law 12 = .ok (.invokespecial 12, 3) := by decide +kernel
theorem dL_law_15 : decode cL_law 15 = .ok (.astore_n 2, 1) := by decide +kernel
theorem dL_law_16 : decode cL_law 16 = .ok (.iconst 0, 1) := by decide +kernel
theorem dL_law_17 : decode cL_law 17 = .ok (.istore_n 3, 1) := by decide +kernel
theorem dL_law_18 : decode cL_law 18 = .ok (.iload_n 3, 1) := by decide +kernel
theorem dL_law_19 : decode cL_law 19 = .ok (.aload_n 0, 1) := by decide +kernel
theorem dL_law_20 : decode cL_law 20 = .ok (.arraylength, 1) := by decide +kernel
theorem dL_law_21 : decode cL_law 21 = .ok (.bipush 6, 2) := by decide +kernel
theorem dL_law_23 : decode cL_law 23 = .ok (.isub, 1) := by decide +kernel
theorem dL_law_24 : decode cL_law 24 = .ok (.if_icmp .gt 1074, 3) := by decide +kernel
theorem dL_law_27 : decode cL_law 27 = .ok (.aload_n 0, 1) := by decide +kernel
theorem dL_law_28 : decode cL_law 28 = .ok (.iload_n 3, 1) := by decide +kernel
theorem dL_law_29 : decode cL_law 29 = .ok (.iaload, 1) := by decide +kernel
theorem dL_law_30 : decode cL_law 30 = .ok (.bipush 31, 2) := by decide +kernel
theorem dL_law_32 : decode cL_law 32 = .ok (.iand, 1) := by decide +kernel
theorem dL_law_33 : decode cL_law 33 = .ok (.tableswitch 1059 0 28 #[131, 164, 207, 250, 293, 326, 349, 362, 385, 418, 441, 474, 497, 530, 543, 566, 589, 622, 645, 678, 711, 775, 788, 801, 824, 867, 910, 973, 1026], 131) := by decide +kernel
theorem dL_law_164 : decode cL_law 164 = .ok (.aload_n 1, 1) := by decide +kernel
theorem dL_law_165 : decode cL_law 165 = .ok (.aload_n 0, 1) := by decide +kernel
theorem dL_law_166 : decode cL_law 166 = .ok (.iload_n 3, 1) := by decide +kernel
theorem dL_law_167 : decode cL_law 167 = .ok (.iconst 1, 1) := by decide +kernel
theorem dL_law_168 : decode cL_law 168 = .ok (.iadd, 1) := by decide +kernel
theorem dL_law_169 : decode cL_law 169 = .ok (.iaload, 1) := by decide +kernel
theorem dL_law_170 : decode cL_law 170 = .ok (.aload_n 0, 1) := by decide +kernel
theorem dL_law_171 : decode cL_law 171 = .ok (.iload_n 3, 1) := by decide +kernel
theorem dL_law_172 : decode cL_law 172 = .ok (.iconst 2, 1) := by decide +kernel
theorem dL_law_173 : decode cL_law 173 = .ok (.iadd, 1) := by decide +kernel
theorem dL_law_174 : decode cL_law 174 = .ok (.iaload, 1) := by decide +kernel
theorem dL_law_175 : decode cL_law 175 = .ok (.invokevirtual 13, 3) := by decide +kernel
theorem dL_law_178 : decode cL_law 178 = .ok (.aload_n 2, 1) := by decide +kernel
theorem dL_law_179 : decode cL_law 179 = .ok (.aload_n 0, 1) := by decide +kernel
theorem dL_law_180 : decode cL_law 180 = .ok (.iload_n 3, 1) := by decide +kernel
theorem dL_law_181 : decode cL_law 181 = .ok (.iconst 1, 1) := by decide +kernel
theorem dL_law_182 : decode cL_law 182 = .ok (.iadd, 1) := by decide +kernel
theorem dL_law_183 : decode cL_law 183 = .ok (.iaload, 1) := by decide +kernel
theorem dL_law_184 : decode cL_law 184 = .ok (.aload_n 0, 1) := by decide +kernel
theorem dL_law_185 : decode cL_law 185 = .ok (.iload_n 3, 1) := by decide +kernel
theorem dL_law_186 : decode cL_law 186 = .ok (.iconst 2, 1) := by decide +kernel
theorem dL_law_187 : decode cL_law 187 = .ok (.iadd, 1) := by decide +kernel
theorem dL_law_188 : decode cL_law 188 = .ok (.iaload, 1) := by decide +kernel
theorem dL_law_189 : decode cL_law 189 = .ok (.invokevirtual 17, 3) := by decide +kernel
theorem dL_law_192 : decode cL_law 192 = .ok (.if_icmp .eq 900, 3) := by decide +kernel
theorem dL_law_195 : decode cL_law 195 = .ok (.iconst 0, 1) := by decide +kernel
theorem dL_law_196 : decode cL_law 196 = .ok (.ireturn, 1) := by decide +kernel
theorem dL_law_197 : decode cL_law 197 = .ok (.aload_n 1, 1) := by decide +kernel
theorem dL_law_198 : decode cL_law 198 = .ok (.aload_n 0, 1) := by decide +kernel
theorem dL_law_199 : decode cL_law 199 = .ok (.iload_n 3, 1) := by decide +kernel
theorem dL_law_200 : decode cL_law 200 = .ok (.iconst 1, 1) := by decide +kernel
theorem dL_law_201 : decode cL_law 201 = .ok (.iadd, 1) := by decide +kernel
theorem dL_law_202 : decode cL_law 202 = .ok (.iaload, 1) := by decide +kernel
theorem dL_law_203 : decode cL_law 203 = .ok (.aload_n 0, 1) := by decide +kernel
theorem dL_law_204 : decode cL_law 204 = .ok (.iload_n 3, 1) := by decide +kernel
theorem dL_law_205 : decode cL_law 205 = .ok (.iconst 2, 1) := by decide +kernel
theorem dL_law_206 : decode cL_law 206 = .ok (.iadd, 1) := by decide +kernel
theorem dL_law_207 : decode cL_law 207 = .ok (.iaload, 1) := by decide +kernel
theorem dL_law_208 : decode cL_law 208 = .ok (.aload_n 0, 1) := by decide +kernel
theorem dL_law_209 : decode cL_law 209 = .ok (.iload_n 3, 1) := by decide +kernel
theorem dL_law_210 : decode cL_law 210 = .ok (.iconst 3, 1) := by decide +kernel
theorem dL_law_211 : decode cL_law 211 = .ok (.iadd, 1) := by decide +kernel
theorem dL_law_212 : decode cL_law 212 = .ok (.iaload, 1) := by decide +kernel
theorem dL_law_213 : decode cL_law 213 = .ok (.invokevirtual 18, 3) := by decide +kernel
theorem dL_law_216 : decode cL_law 216 = .ok (.aload_n 2, 1) := by decide +kernel
theorem dL_law_217 : decode cL_law 217 = .ok (.aload_n 0, 1) := by decide +kernel
theorem dL_law_218 : decode cL_law 218 = .ok (.iload_n 3, 1) := by decide +kernel
theorem dL_law_219 : decode cL_law 219 = .ok (.iconst 1, 1) := by decide +kernel
theorem dL_law_220 : decode cL_law 220 = .ok (.iadd, 1) := by decide +kernel
theorem dL_law_221 : decode cL_law 221 = .ok (.iaload, 1) := by decide +kernel
theorem dL_law_222 : decode cL_law 222 = .ok (.aload_n 0, 1) := by decide +kernel
theorem dL_law_223 : decode cL_law 223 = .ok (.iload_n 3, 1) := by decide +kernel
theorem dL_law_224 : decode cL_law 224 = .ok (.iconst 2, 1) := by decide +kernel
theorem dL_law_225 : decode cL_law 225 = .ok (.iadd, 1) := by decide +kernel
theorem dL_law_226 : decode cL_law 226 = .ok (.iaload, 1) := by decide +kernel
theorem dL_law_227 : decode cL_law 227 = .ok (.aload_n 0, 1) := by decide +kernel
theorem dL_law_228 : decode cL_law 228 = .ok (.iload_n 3, 1) := by decide +kernel
theorem dL_law_229 : decode cL_law 229 = .ok (.iconst 3, 1) := by decide +kernel
theorem dL_law_230 : decode cL_law 230 = .ok (.iadd, 1) := by decide +kernel
theorem dL_law_231 : decode cL_law 231 = .ok (.iaload, 1) := by decide +kernel
theorem dL_law_232 : decode cL_law 232 = .ok (.invokevirtual 22, 3) := by decide +kernel
theorem dL_law_235 : decode cL_law 235 = .ok (.if_icmp .eq 857, 3) := by decide +kernel
theorem dL_law_238 : decode cL_law 238 = .ok (.iconst 0, 1) := by decide +kernel
theorem dL_law_239 : decode cL_law 239 = .ok (.ireturn, 1) := by decide +kernel
theorem dL_law_240 : decode cL_law 240 = .ok (.aload_n 1, 1) := by decide +kernel
theorem dL_law_241 : decode cL_law 241 = .ok (.aload_n 0, 1) := by decide +kernel
theorem dL_law_242 : decode cL_law 242 = .ok (.iload_n 3, 1) := by decide +kernel
theorem dL_law_243 : decode cL_law 243 = .ok (.iconst 1, 1) := by decide +kernel
theorem dL_law_244 : decode cL_law 244 = .ok (.iadd, 1) := by decide +kernel
theorem dL_law_245 : decode cL_law 245 = .ok (.iaload, 1) := by decide +kernel
theorem dL_law_246 : decode cL_law 246 = .ok (.aload_n 0, 1) := by decide +kernel
theorem dL_law_247 : decode cL_law 247 = .ok (.iload_n 3, 1) := by decide +kernel
theorem dL_law_248 : decode cL_law 248 = .ok (.iconst 2, 1) := by decide +kernel
theorem dL_law_249 : decode cL_law 249 = .ok (.iadd, 1) := by decide +kernel
theorem dL_law_250 : decode cL_law 250 = .ok (.iaload, 1) := by decide +kernel
theorem dL_law_251 : decode cL_law 251 = .ok (.aload_n 0, 1) := by decide +kernel
theorem dL_law_252 : decode cL_law 252 = .ok (.iload_n 3, 1) := by decide +kernel
theorem dL_law_253 : decode cL_law 253 = .ok (.iconst 3, 1) := by decide +kernel
theorem dL_law_254 : decode cL_law 254 = .ok (.iadd, 1) := by decide +kernel
theorem dL_law_255 : decode cL_law 255 = .ok (.iaload, 1) := by decide +kernel
theorem dL_law_256 : decode cL_law 256 = .ok (.invokevirtual 23, 3) := by decide +kernel
theorem dL_law_259 : decode cL_law 259 = .ok (.aload_n 2, 1) := by decide +kernel
theorem dL_law_260 : decode cL_law 260 = .ok (.aload_n 0, 1) := by decide +kernel
theorem dL_law_261 : decode cL_law 261 = .ok (.iload_n 3, 1) := by decide +kernel
theorem dL_law_262 : decode cL_law 262 = .ok (.iconst 1, 1) := by decide +kernel
theorem dL_law_263 : decode cL_law 263 = .ok (.iadd, 1) := by decide +kernel
theorem dL_law_264 : decode cL_law 264 = .ok (.iaload, 1) := by decide +kernel
theorem dL_law_265 : decode cL_law 265 = .ok (.aload_n 0, 1) := by decide +kernel
theorem dL_law_266 : decode cL_law 266 = .ok (.iload_n 3, 1) := by decide +kernel
theorem dL_law_267 : decode cL_law 267 = .ok (.iconst 2, 1) := by decide +kernel
theorem dL_law_268 : decode cL_law 268 = .ok (.iadd, 1) := by decide +kernel
theorem dL_law_269 : decode cL_law 269 = .ok (.iaload, 1) := by decide +kernel
theorem dL_law_270 : decode cL_law 270 = .ok (.aload_n 0, 1) := by decide +kernel
theorem dL_law_271 : decode cL_law 271 = .ok (.iload_n 3, 1) := by decide +kernel
theorem dL_law_272 : decode cL_law 272 = .ok (.iconst 3, 1) := by decide +kernel
theorem dL_law_273 : decode cL_law 273 = .ok (.iadd, 1) := by decide +kernel
theorem dL_law_274 : decode cL_law 274 = .ok (.iaload, 1) := by decide +kernel
theorem dL_law_275 : decode cL_law 275 = .ok (.invokevirtual 26, 3) := by decide +kernel
theorem dL_law_278 : decode cL_law 278 = .ok (.if_icmp .eq 814, 3) := by decide +kernel
theorem dL_law_281 : decode cL_law 281 = .ok (.iconst 0, 1) := by decide +kernel
theorem dL_law_282 : decode cL_law 282 = .ok (.ireturn, 1) := by decide +kernel
theorem dL_law_283 : decode cL_law 283 = .ok (.aload_n 1, 1) := by decide +kernel
theorem dL_law_284 : decode cL_law 284 = .ok (.aload_n 0, 1) := by decide +kernel
theorem dL_law_285 : decode cL_law 285 = .ok (.iload_n 3, 1) := by decide +kernel
theorem dL_law_286 : decode cL_law 286 = .ok (.iconst 1, 1) := by decide +kernel
theorem dL_law_287 : decode cL_law 287 = .ok (.iadd, 1) := by decide +kernel
theorem dL_law_288 : decode cL_law 288 = .ok (.iaload, 1) := by decide +kernel
theorem dL_law_289 : decode cL_law 289 = .ok (.aload_n 0, 1) := by decide +kernel
theorem dL_law_290 : decode cL_law 290 = .ok (.iload_n 3, 1) := by decide +kernel
theorem dL_law_291 : decode cL_law 291 = .ok (.iconst 2, 1) := by decide +kernel
theorem dL_law_292 : decode cL_law 292 = .ok (.iadd, 1) := by decide +kernel
theorem dL_law_293 : decode cL_law 293 = .ok (.iaload, 1) := by decide +kernel
theorem dL_law_294 : decode cL_law 294 = .ok (.aload_n 0, 1) := by decide +kernel
theorem dL_law_295 : decode cL_law 295 = .ok (.iload_n 3, 1) := by decide +kernel
theorem dL_law_296 : decode cL_law 296 = .ok (.iconst 3, 1) := by decide +kernel
theorem dL_law_297 : decode cL_law 297 = .ok (.iadd, 1) := by decide +kernel
theorem dL_law_298 : decode cL_law 298 = .ok (.iaload, 1) := by decide +kernel
theorem dL_law_299 : decode cL_law 299 = .ok (.invokevirtual 27, 3) := by decide +kernel
theorem dL_law_302 : decode cL_law 302 = .ok (.aload_n 2, 1) := by decide +kernel
theorem dL_law_303 : decode cL_law 303 = .ok (.aload_n 0, 1) := by decide +kernel
theorem dL_law_304 : decode cL_law 304 = .ok (.iload_n 3, 1) := by decide +kernel
theorem dL_law_305 : decode cL_law 305 = .ok (.iconst 1, 1) := by decide +kernel
theorem dL_law_306 : decode cL_law 306 = .ok (.iadd, 1) := by decide +kernel
theorem dL_law_307 : decode cL_law 307 = .ok (.iaload, 1) := by decide +kernel
theorem dL_law_308 : decode cL_law 308 = .ok (.aload_n 0, 1) := by decide +kernel
theorem dL_law_309 : decode cL_law 309 = .ok (.iload_n 3, 1) := by decide +kernel
theorem dL_law_310 : decode cL_law 310 = .ok (.iconst 2, 1) := by decide +kernel
theorem dL_law_311 : decode cL_law 311 = .ok (.iadd, 1) := by decide +kernel
theorem dL_law_312 : decode cL_law 312 = .ok (.iaload, 1) := by decide +kernel
theorem dL_law_313 : decode cL_law 313 = .ok (.aload_n 0, 1) := by decide +kernel
theorem dL_law_314 : decode cL_law 314 = .ok (.iload_n 3, 1) := by decide +kernel
theorem dL_law_315 : decode cL_law 315 = .ok (.iconst 3, 1) := by decide +kernel
theorem dL_law_316 : decode cL_law 316 = .ok (.iadd, 1) := by decide +kernel
theorem dL_law_317 : decode cL_law 317 = .ok (.iaload, 1) := by decide +kernel
theorem dL_law_318 : decode cL_law 318 = .ok (.invokevirtual 30, 3) := by decide +kernel
theorem dL_law_321 : decode cL_law 321 = .ok (.if_icmp .eq 771, 3) := by decide +kernel
theorem dL_law_324 : decode cL_law 324 = .ok (.iconst 0, 1) := by decide +kernel
theorem dL_law_325 : decode cL_law 325 = .ok (.ireturn, 1) := by decide +kernel
theorem dL_law_326 : decode cL_law 326 = .ok (.aload_n 1, 1) := by decide +kernel
theorem dL_law_327 : decode cL_law 327 = .ok (.aload_n 0, 1) := by decide +kernel
theorem dL_law_328 : decode cL_law 328 = .ok (.iload_n 3, 1) := by decide +kernel
theorem dL_law_329 : decode cL_law 329 = .ok (.iconst 1, 1) := by decide +kernel
theorem dL_law_330 : decode cL_law 330 = .ok (.iadd, 1) := by decide +kernel
theorem dL_law_331 : decode cL_law 331 = .ok (.iaload, 1) := by decide +kernel
theorem dL_law_332 : decode cL_law 332 = .ok (.aload_n 0, 1) := by decide +kernel
theorem dL_law_333 : decode cL_law 333 = .ok (.iload_n 3, 1) := by decide +kernel
theorem dL_law_334 : decode cL_law 334 = .ok (.iconst 2, 1) := by decide +kernel
theorem dL_law_335 : decode cL_law 335 = .ok (.iadd, 1) := by decide +kernel
theorem dL_law_336 : decode cL_law 336 = .ok (.iaload, 1) := by decide +kernel
theorem dL_law_337 : decode cL_law 337 = .ok (.invokevirtual 31, 3) := by decide +kernel
theorem dL_law_340 : decode cL_law 340 = .ok (.aload_n 2, 1) := by decide +kernel
theorem dL_law_341 : decode cL_law 341 = .ok (.aload_n 0, 1) := by decide +kernel
theorem dL_law_342 : decode cL_law 342 = .ok (.iload_n 3, 1) := by decide +kernel
theorem dL_law_343 : decode cL_law 343 = .ok (.iconst 1, 1) := by decide +kernel
theorem dL_law_344 : decode cL_law 344 = .ok (.iadd, 1) := by decide +kernel
theorem dL_law_345 : decode cL_law 345 = .ok (.iaload, 1) := by decide +kernel
theorem dL_law_346 : decode cL_law 346 = .ok (.aload_n 0, 1) := by decide +kernel
theorem dL_law_347 : decode cL_law 347 = .ok (.iload_n 3, 1) := by decide +kernel
theorem dL_law_348 : decode cL_law 348 = .ok (.iconst 2, 1) := by decide +kernel
theorem dL_law_349 : decode cL_law 349 = .ok (.iadd, 1) := by decide +kernel
theorem dL_law_350 : decode cL_law 350 = .ok (.iaload, 1) := by decide +kernel
theorem dL_law_351 : decode cL_law 351 = .ok (.invokevirtual 34, 3) := by decide +kernel
theorem dL_law_354 : decode cL_law 354 = .ok (.if_icmp .eq 738, 3) := by decide +kernel
theorem dL_law_357 : decode cL_law 357 = .ok (.iconst 0, 1) := by decide +kernel
theorem dL_law_358 : decode cL_law 358 = .ok (.ireturn, 1) := by decide +kernel
theorem dL_law_359 : decode cL_law 359 = .ok (.aload_n 1, 1) := by decide +kernel
theorem dL_law_360 : decode cL_law 360 = .ok (.aload_n 0, 1) := by decide +kernel
theorem dL_law_361 : decode cL_law 361 = .ok (.iload_n 3, 1) := by decide +kernel
theorem dL_law_362 : decode cL_law 362 = .ok (.iconst 1, 1) := by decide +kernel
theorem dL_law_363 : decode cL_law 363 = .ok (.iadd, 1) := by decide +kernel
theorem dL_law_364 : decode cL_law 364 = .ok (.iaload, 1) := by decide +kernel
theorem dL_law_365 : decode cL_law 365 = .ok (.invokevirtual 35, 3) := by decide +kernel
theorem dL_law_368 : decode cL_law 368 = .ok (.aload_n 2, 1) := by decide +kernel
theorem dL_law_369 : decode cL_law 369 = .ok (.aload_n 0, 1) := by decide +kernel
theorem dL_law_370 : decode cL_law 370 = .ok (.iload_n 3, 1) := by decide +kernel
theorem dL_law_371 : decode cL_law 371 = .ok (.iconst 1, 1) := by decide +kernel
theorem dL_law_372 : decode cL_law 372 = .ok (.iadd, 1) := by decide +kernel
theorem dL_law_373 : decode cL_law 373 = .ok (.iaload, 1) := by decide +kernel
theorem dL_law_374 : decode cL_law 374 = .ok (.invokevirtual 39, 3) := by decide +kernel
theorem dL_law_377 : decode cL_law 377 = .ok (.if_icmp .eq 715, 3) := by decide +kernel
theorem dL_law_380 : decode cL_law 380 = .ok (.iconst 0, 1) := by decide +kernel
theorem dL_law_381 : decode cL_law 381 = .ok (.ireturn, 1) := by decide +kernel
theorem dL_law_382 : decode cL_law 382 = .ok (.aload_n 1, 1) := by decide +kernel
theorem dL_law_383 : decode cL_law 383 = .ok (.invokevirtual 40, 3) := by decide +kernel
theorem dL_law_386 : decode cL_law 386 = .ok (.aload_n 2, 1) := by decide +kernel
theorem dL_law_387 : decode cL_law 387 = .ok (.invokevirtual 44, 3) := by decide +kernel
theorem dL_law_390 : decode cL_law 390 = .ok (.if_icmp .eq 702, 3) := by decide +kernel
theorem dL_law_393 : decode cL_law 393 = .ok (.iconst 0, 1) := by decide +kernel
theorem dL_law_394 : decode cL_law 394 = .ok (.ireturn, 1) := by decide +kernel
theorem dL_law_395 : decode cL_law 395 = .ok (.aload_n 1, 1) := by decide +kernel
theorem dL_law_396 : decode cL_law 396 = .ok (.aload_n 0, 1) := by decide +kernel
theorem dL_law_397 : decode cL_law 397 = .ok (.iload_n 3, 1) := by decide +kernel
theorem dL_law_398 : decode cL_law 398 = .ok (.iconst 1, 1) := by decide +kernel
theorem dL_law_399 : decode cL_law 399 = .ok (.iadd, 1) := by decide +kernel
theorem dL_law_400 : decode cL_law 400 = .ok (.iaload, 1) := by decide +kernel
theorem dL_law_401 : decode cL_law 401 = .ok (.invokevirtual 45, 3) := by decide +kernel
theorem dL_law_404 : decode cL_law 404 = .ok (.aload_n 2, 1) := by decide +kernel
theorem dL_law_405 : decode cL_law 405 = .ok (.aload_n 0, 1) := by decide +kernel
theorem dL_law_406 : decode cL_law 406 = .ok (.iload_n 3, 1) := by decide +kernel
theorem dL_law_407 : decode cL_law 407 = .ok (.iconst 1, 1) := by decide +kernel
theorem dL_law_408 : decode cL_law 408 = .ok (.iadd, 1) := by decide +kernel
theorem dL_law_409 : decode cL_law 409 = .ok (.iaload, 1) := by decide +kernel
theorem dL_law_410 : decode cL_law 410 = .ok (.invokevirtual 48, 3) := by decide +kernel
theorem dL_law_413 : decode cL_law 413 = .ok (.if_icmp .eq 679, 3) := by decide +kernel
theorem dL_law_416 : decode cL_law 416 = .ok (.iconst 0, 1) := by decide +kernel
theorem dL_law_417 : decode cL_law 417 = .ok (.ireturn, 1) := by decide +kernel
theorem dL_law_418 : decode cL_law 418 = .ok (.aload_n 1, 1) := by decide +kernel
theorem dL_law_419 : decode cL_law 419 = .ok (.aload_n 0, 1) := by decide +kernel
theorem dL_law_420 : decode cL_law 420 = .ok (.iload_n 3, 1) := by decide +kernel
theorem dL_law_421 : decode cL_law 421 = .ok (.iconst 1, 1) := by decide +kernel
theorem dL_law_422 : decode cL_law 422 = .ok (.iadd, 1) := by decide +kernel
theorem dL_law_423 : decode cL_law 423 = .ok (.iaload, 1) := by decide +kernel
theorem dL_law_424 : decode cL_law 424 = .ok (.aload_n 0, 1) := by decide +kernel
theorem dL_law_425 : decode cL_law 425 = .ok (.iload_n 3, 1) := by decide +kernel
theorem dL_law_426 : decode cL_law 426 = .ok (.iconst 2, 1) := by decide +kernel
theorem dL_law_427 : decode cL_law 427 = .ok (.iadd, 1) := by decide +kernel
theorem dL_law_428 : decode cL_law 428 = .ok (.iaload, 1) := by decide +kernel
theorem dL_law_429 : decode cL_law 429 = .ok (.invokevirtual 49, 3) := by decide +kernel
theorem dL_law_432 : decode cL_law 432 = .ok (.aload_n 2, 1) := by decide +kernel
theorem dL_law_433 : decode cL_law 433 = .ok (.aload_n 0, 1) := by decide +kernel
theorem dL_law_434 : decode cL_law 434 = .ok (.iload_n 3, 1) := by decide +kernel
theorem dL_law_435 : decode cL_law 435 = .ok (.iconst 1, 1) := by decide +kernel
theorem dL_law_436 : decode cL_law 436 = .ok (.iadd, 1) := by decide +kernel
theorem dL_law_437 : decode cL_law 437 = .ok (.iaload, 1) := by decide +kernel
theorem dL_law_438 : decode cL_law 438 = .ok (.aload_n 0, 1) := by decide +kernel
theorem dL_law_439 : decode cL_law 439 = .ok (.iload_n 3, 1) := by decide +kernel
theorem dL_law_440 : decode cL_law 440 = .ok (.iconst 2, 1) := by decide +kernel
theorem dL_law_441 : decode cL_law 441 = .ok (.iadd, 1) := by decide +kernel
theorem dL_law_442 : decode cL_law 442 = .ok (.iaload, 1) := by decide +kernel
theorem dL_law_443 : decode cL_law 443 = .ok (.invokevirtual 52, 3) := by decide +kernel
theorem dL_law_446 : decode cL_law 446 = .ok (.if_icmp .eq 646, 3) := by decide +kernel
theorem dL_law_449 : decode cL_law 449 = .ok (.iconst 0, 1) := by decide +kernel
theorem dL_law_450 : decode cL_law 450 = .ok (.ireturn, 1) := by decide +kernel
theorem dL_law_451 : decode cL_law 451 = .ok (.aload_n 1, 1) := by decide +kernel
theorem dL_law_452 : decode cL_law 452 = .ok (.aload_n 0, 1) := by decide +kernel
theorem dL_law_453 : decode cL_law 453 = .ok (.iload_n 3, 1) := by decide +kernel
theorem dL_law_454 : decode cL_law 454 = .ok (.iconst 1, 1) := by decide +kernel
theorem dL_law_455 : decode cL_law 455 = .ok (.iadd, 1) := by decide +kernel
theorem dL_law_456 : decode cL_law 456 = .ok (.iaload, 1) := by decide +kernel
theorem dL_law_457 : decode cL_law 457 = .ok (.invokevirtual 53, 3) := by decide +kernel
theorem dL_law_460 : decode cL_law 460 = .ok (.aload_n 2, 1) := by decide +kernel
theorem dL_law_461 : decode cL_law 461 = .ok (.aload_n 0, 1) := by decide +kernel
theorem dL_law_462 : decode cL_law 462 = .ok (.iload_n 3, 1) := by decide +kernel
theorem dL_law_463 : decode cL_law 463 = .ok (.iconst 1, 1) := by decide +kernel
theorem dL_law_464 : decode cL_law 464 = .ok (.iadd, 1) := by decide +kernel
theorem dL_law_465 : decode cL_law 465 = .ok (.iaload, 1) := by decide +kernel
theorem dL_law_466 : decode cL_law 466 = .ok (.invokevirtual 56, 3) := by decide +kernel
theorem dL_law_469 : decode cL_law 469 = .ok (.if_icmp .eq 623, 3) := by decide +kernel
theorem dL_law_472 : decode cL_law 472 = .ok (.iconst 0, 1) := by decide +kernel
theorem dL_law_473 : decode cL_law 473 = .ok (.ireturn, 1) := by decide +kernel
theorem dL_law_474 : decode cL_law 474 = .ok (.aload_n 1, 1) := by decide +kernel
theorem dL_law_475 : decode cL_law 475 = .ok (.aload_n 0, 1) := by decide +kernel
theorem dL_law_476 : decode cL_law 476 = .ok (.iload_n 3, 1) := by decide +kernel
theorem dL_law_477 : decode cL_law 477 = .ok (.iconst 1, 1) := by decide +kernel
theorem dL_law_478 : decode cL_law 478 = .ok (.iadd, 1) := by decide +kernel
theorem dL_law_479 : decode cL_law 479 = .ok (.iaload, 1) := by decide +kernel
theorem dL_law_480 : decode cL_law 480 = .ok (.aload_n 0, 1) := by decide +kernel
theorem dL_law_481 : decode cL_law 481 = .ok (.iload_n 3, 1) := by decide +kernel
theorem dL_law_482 : decode cL_law 482 = .ok (.iconst 2, 1) := by decide +kernel
theorem dL_law_483 : decode cL_law 483 = .ok (.iadd, 1) := by decide +kernel
theorem dL_law_484 : decode cL_law 484 = .ok (.iaload, 1) := by decide +kernel
theorem dL_law_485 : decode cL_law 485 = .ok (.invokevirtual 57, 3) := by decide +kernel
theorem dL_law_488 : decode cL_law 488 = .ok (.aload_n 2, 1) := by decide +kernel
theorem dL_law_489 : decode cL_law 489 = .ok (.aload_n 0, 1) := by decide +kernel
theorem dL_law_490 : decode cL_law 490 = .ok (.iload_n 3, 1) := by decide +kernel
theorem dL_law_491 : decode cL_law 491 = .ok (.iconst 1, 1) := by decide +kernel
theorem dL_law_492 : decode cL_law 492 = .ok (.iadd, 1) := by decide +kernel
theorem dL_law_493 : decode cL_law 493 = .ok (.iaload, 1) := by decide +kernel
theorem dL_law_494 : decode cL_law 494 = .ok (.aload_n 0, 1) := by decide +kernel
theorem dL_law_495 : decode cL_law 495 = .ok (.iload_n 3, 1) := by decide +kernel
theorem dL_law_496 : decode cL_law 496 = .ok (.iconst 2, 1) := by decide +kernel
theorem dL_law_497 : decode cL_law 497 = .ok (.iadd, 1) := by decide +kernel
theorem dL_law_498 : decode cL_law 498 = .ok (.iaload, 1) := by decide +kernel
theorem dL_law_499 : decode cL_law 499 = .ok (.invokevirtual 60, 3) := by decide +kernel
theorem dL_law_502 : decode cL_law 502 = .ok (.if_icmp .eq 590, 3) := by decide +kernel
theorem dL_law_505 : decode cL_law 505 = .ok (.iconst 0, 1) := by decide +kernel
theorem dL_law_506 : decode cL_law 506 = .ok (.ireturn, 1) := by decide +kernel
theorem dL_law_507 : decode cL_law 507 = .ok (.aload_n 1, 1) := by decide +kernel
theorem dL_law_508 : decode cL_law 508 = .ok (.aload_n 0, 1) := by decide +kernel
theorem dL_law_509 : decode cL_law 509 = .ok (.iload_n 3, 1) := by decide +kernel
theorem dL_law_510 : decode cL_law 510 = .ok (.iconst 1, 1) := by decide +kernel
theorem dL_law_511 : decode cL_law 511 = .ok (.iadd, 1) := by decide +kernel
theorem dL_law_512 : decode cL_law 512 = .ok (.iaload, 1) := by decide +kernel
theorem dL_law_513 : decode cL_law 513 = .ok (.invokevirtual 61, 3) := by decide +kernel
theorem dL_law_516 : decode cL_law 516 = .ok (.aload_n 2, 1) := by decide +kernel
theorem dL_law_517 : decode cL_law 517 = .ok (.aload_n 0, 1) := by decide +kernel
theorem dL_law_518 : decode cL_law 518 = .ok (.iload_n 3, 1) := by decide +kernel
theorem dL_law_519 : decode cL_law 519 = .ok (.iconst 1, 1) := by decide +kernel
theorem dL_law_520 : decode cL_law 520 = .ok (.iadd, 1) := by decide +kernel
theorem dL_law_521 : decode cL_law 521 = .ok (.iaload, 1) := by decide +kernel
theorem dL_law_522 : decode cL_law 522 = .ok (.invokevirtual 64, 3) := by decide +kernel
theorem dL_law_525 : decode cL_law 525 = .ok (.if_icmp .eq 567, 3) := by decide +kernel
theorem dL_law_528 : decode cL_law 528 = .ok (.iconst 0, 1) := by decide +kernel
theorem dL_law_529 : decode cL_law 529 = .ok (.ireturn, 1) := by decide +kernel
theorem dL_law_530 : decode cL_law 530 = .ok (.aload_n 1, 1) := by decide +kernel
theorem dL_law_531 : decode cL_law 531 = .ok (.aload_n 0, 1) := by decide +kernel
theorem dL_law_532 : decode cL_law 532 = .ok (.iload_n 3, 1) := by decide +kernel
theorem dL_law_533 : decode cL_law 533 = .ok (.iconst 1, 1) := by decide +kernel
theorem dL_law_534 : decode cL_law 534 = .ok (.iadd, 1) := by decide +kernel
theorem dL_law_535 : decode cL_law 535 = .ok (.iaload, 1) := by decide +kernel
theorem dL_law_536 : decode cL_law 536 = .ok (.aload_n 0, 1) := by decide +kernel
theorem dL_law_537 : decode cL_law 537 = .ok (.iload_n 3, 1) := by decide +kernel
theorem dL_law_538 : decode cL_law 538 = .ok (.iconst 2, 1) := by decide +kernel
theorem dL_law_539 : decode cL_law 539 = .ok (.iadd, 1) := by decide +kernel
theorem dL_law_540 : decode cL_law 540 = .ok (.iaload, 1) := by decide +kernel
theorem dL_law_541 : decode cL_law 541 = .ok (.invokevirtual 65, 3) := by decide +kernel
theorem dL_law_544 : decode cL_law 544 = .ok (.aload_n 2, 1) := by decide +kernel
theorem dL_law_545 : decode cL_law 545 = .ok (.aload_n 0, 1) := by decide +kernel
theorem dL_law_546 : decode cL_law 546 = .ok (.iload_n 3, 1) := by decide +kernel
theorem dL_law_547 : decode cL_law 547 = .ok (.iconst 1, 1) := by decide +kernel
theorem dL_law_548 : decode cL_law 548 = .ok (.iadd, 1) := by decide +kernel
theorem dL_law_549 : decode cL_law 549 = .ok (.iaload, 1) := by decide +kernel
theorem dL_law_550 : decode cL_law 550 = .ok (.aload_n 0, 1) := by decide +kernel
theorem dL_law_551 : decode cL_law 551 = .ok (.iload_n 3, 1) := by decide +kernel
theorem dL_law_552 : decode cL_law 552 = .ok (.iconst 2, 1) := by decide +kernel
theorem dL_law_553 : decode cL_law 553 = .ok (.iadd, 1) := by decide +kernel
theorem dL_law_554 : decode cL_law 554 = .ok (.iaload, 1) := by decide +kernel
theorem dL_law_555 : decode cL_law 555 = .ok (.invokevirtual 68, 3) := by decide +kernel
theorem dL_law_558 : decode cL_law 558 = .ok (.if_icmp .eq 534, 3) := by decide +kernel
theorem dL_law_561 : decode cL_law 561 = .ok (.iconst 0, 1) := by decide +kernel
theorem dL_law_562 : decode cL_law 562 = .ok (.ireturn, 1) := by decide +kernel
theorem dL_law_563 : decode cL_law 563 = .ok (.aload_n 1, 1) := by decide +kernel
theorem dL_law_564 : decode cL_law 564 = .ok (.invokevirtual 69, 3) := by decide +kernel
theorem dL_law_567 : decode cL_law 567 = .ok (.aload_n 2, 1) := by decide +kernel
theorem dL_law_568 : decode cL_law 568 = .ok (.invokevirtual 72, 3) := by decide +kernel
theorem dL_law_571 : decode cL_law 571 = .ok (.if_icmp .eq 521, 3) := by decide +kernel
theorem dL_law_574 : decode cL_law 574 = .ok (.iconst 0, 1) := by decide +kernel
theorem dL_law_575 : decode cL_law 575 = .ok (.ireturn, 1) := by decide +kernel
theorem dL_law_576 : decode cL_law 576 = .ok (.aload_n 1, 1) := by decide +kernel
theorem dL_law_577 : decode cL_law 577 = .ok (.aload_n 0, 1) := by decide +kernel
theorem dL_law_578 : decode cL_law 578 = .ok (.iload_n 3, 1) := by decide +kernel
theorem dL_law_579 : decode cL_law 579 = .ok (.iconst 1, 1) := by decide +kernel
theorem dL_law_580 : decode cL_law 580 = .ok (.iadd, 1) := by decide +kernel
theorem dL_law_581 : decode cL_law 581 = .ok (.iaload, 1) := by decide +kernel
theorem dL_law_582 : decode cL_law 582 = .ok (.invokevirtual 73, 3) := by decide +kernel
theorem dL_law_585 : decode cL_law 585 = .ok (.aload_n 2, 1) := by decide +kernel
theorem dL_law_586 : decode cL_law 586 = .ok (.aload_n 0, 1) := by decide +kernel
theorem dL_law_587 : decode cL_law 587 = .ok (.iload_n 3, 1) := by decide +kernel
theorem dL_law_588 : decode cL_law 588 = .ok (.iconst 1, 1) := by decide +kernel
theorem dL_law_589 : decode cL_law 589 = .ok (.iadd, 1) := by decide +kernel
theorem dL_law_590 : decode cL_law 590 = .ok (.iaload, 1) := by decide +kernel
theorem dL_law_591 : decode cL_law 591 = .ok (.invokevirtual 76, 3) := by decide +kernel
theorem dL_law_594 : decode cL_law 594 = .ok (.if_icmp .eq 498, 3) := by decide +kernel
theorem dL_law_597 : decode cL_law 597 = .ok (.iconst 0, 1) := by decide +kernel
theorem dL_law_598 : decode cL_law 598 = .ok (.ireturn, 1) := by decide +kernel
theorem dL_law_599 : decode cL_law 599 = .ok (.aload_n 1, 1) := by decide +kernel
theorem dL_law_600 : decode cL_law 600 = .ok (.aload_n 0, 1) := by decide +kernel
theorem dL_law_601 : decode cL_law 601 = .ok (.iload_n 3, 1) := by decide +kernel
theorem dL_law_602 : decode cL_law 602 = .ok (.iconst 1, 1) := by decide +kernel
theorem dL_law_603 : decode cL_law 603 = .ok (.iadd, 1) := by decide +kernel
theorem dL_law_604 : decode cL_law 604 = .ok (.iaload, 1) := by decide +kernel
theorem dL_law_605 : decode cL_law 605 = .ok (.invokevirtual 77, 3) := by decide +kernel
theorem dL_law_608 : decode cL_law 608 = .ok (.aload_n 2, 1) := by decide +kernel
theorem dL_law_609 : decode cL_law 609 = .ok (.aload_n 0, 1) := by decide +kernel
theorem dL_law_610 : decode cL_law 610 = .ok (.iload_n 3, 1) := by decide +kernel
theorem dL_law_611 : decode cL_law 611 = .ok (.iconst 1, 1) := by decide +kernel
theorem dL_law_612 : decode cL_law 612 = .ok (.iadd, 1) := by decide +kernel
theorem dL_law_613 : decode cL_law 613 = .ok (.iaload, 1) := by decide +kernel
theorem dL_law_614 : decode cL_law 614 = .ok (.invokevirtual 80, 3) := by decide +kernel
theorem dL_law_617 : decode cL_law 617 = .ok (.if_icmp .eq 475, 3) := by decide +kernel
theorem dL_law_620 : decode cL_law 620 = .ok (.iconst 0, 1) := by decide +kernel
theorem dL_law_621 : decode cL_law 621 = .ok (.ireturn, 1) := by decide +kernel
theorem dL_law_622 : decode cL_law 622 = .ok (.aload_n 1, 1) := by decide +kernel
theorem dL_law_623 : decode cL_law 623 = .ok (.aload_n 0, 1) := by decide +kernel
theorem dL_law_624 : decode cL_law 624 = .ok (.iload_n 3, 1) := by decide +kernel
theorem dL_law_625 : decode cL_law 625 = .ok (.iconst 1, 1) := by decide +kernel
theorem dL_law_626 : decode cL_law 626 = .ok (.iadd, 1) := by decide +kernel
theorem dL_law_627 : decode cL_law 627 = .ok (.iaload, 1) := by decide +kernel
theorem dL_law_628 : decode cL_law 628 = .ok (.aload_n 0, 1) := by decide +kernel
theorem dL_law_629 : decode cL_law 629 = .ok (.iload_n 3, 1) := by decide +kernel
theorem dL_law_630 : decode cL_law 630 = .ok (.iconst 2, 1) := by decide +kernel
theorem dL_law_631 : decode cL_law 631 = .ok (.iadd, 1) := by decide +kernel
theorem dL_law_632 : decode cL_law 632 = .ok (.iaload, 1) := by decide +kernel
theorem dL_law_633 : decode cL_law 633 = .ok (.invokevirtual 81, 3) := by decide +kernel
theorem dL_law_636 : decode cL_law 636 = .ok (.aload_n 2, 1) := by decide +kernel
theorem dL_law_637 : decode cL_law 637 = .ok (.aload_n 0, 1) := by decide +kernel
theorem dL_law_638 : decode cL_law 638 = .ok (.iload_n 3, 1) := by decide +kernel
theorem dL_law_639 : decode cL_law 639 = .ok (.iconst 1, 1) := by decide +kernel
theorem dL_law_640 : decode cL_law 640 = .ok (.iadd, 1) := by decide +kernel
theorem dL_law_641 : decode cL_law 641 = .ok (.iaload, 1) := by decide +kernel
theorem dL_law_642 : decode cL_law 642 = .ok (.aload_n 0, 1) := by decide +kernel
theorem dL_law_643 : decode cL_law 643 = .ok (.iload_n 3, 1) := by decide +kernel
theorem dL_law_644 : decode cL_law 644 = .ok (.iconst 2, 1) := by decide +kernel
theorem dL_law_645 : decode cL_law 645 = .ok (.iadd, 1) := by decide +kernel
theorem dL_law_646 : decode cL_law 646 = .ok (.iaload, 1) := by decide +kernel
theorem dL_law_647 : decode cL_law 647 = .ok (.invokevirtual 84, 3) := by decide +kernel
theorem dL_law_650 : decode cL_law 650 = .ok (.if_icmp .eq 442, 3) := by decide +kernel
theorem dL_law_653 : decode cL_law 653 = .ok (.iconst 0, 1) := by decide +kernel
theorem dL_law_654 : decode cL_law 654 = .ok (.ireturn, 1) := by decide +kernel
theorem dL_law_655 : decode cL_law 655 = .ok (.aload_n 1, 1) := by decide +kernel
theorem dL_law_656 : decode cL_law 656 = .ok (.aload_n 0, 1) := by decide +kernel
theorem dL_law_657 : decode cL_law 657 = .ok (.iload_n 3, 1) := by decide +kernel
theorem dL_law_658 : decode cL_law 658 = .ok (.iconst 1, 1) := by decide +kernel
theorem dL_law_659 : decode cL_law 659 = .ok (.iadd, 1) := by decide +kernel
theorem dL_law_660 : decode cL_law 660 = .ok (.iaload, 1) := by decide +kernel
theorem dL_law_661 : decode cL_law 661 = .ok (.invokevirtual 85, 3) := by decide +kernel
theorem dL_law_664 : decode cL_law 664 = .ok (.aload_n 2, 1) := by decide +kernel
theorem dL_law_665 : decode cL_law 665 = .ok (.aload_n 0, 1) := by decide +kernel
theorem dL_law_666 : decode cL_law 666 = .ok (.iload_n 3, 1) := by decide +kernel
theorem dL_law_667 : decode cL_law 667 = .ok (.iconst 1, 1) := by decide +kernel
theorem dL_law_668 : decode cL_law 668 = .ok (.iadd, 1) := by decide +kernel
theorem dL_law_669 : decode cL_law 669 = .ok (.iaload, 1) := by decide +kernel
theorem dL_law_670 : decode cL_law 670 = .ok (.invokevirtual 88, 3) := by decide +kernel
theorem dL_law_673 : decode cL_law 673 = .ok (.if_icmp .eq 419, 3) := by decide +kernel
theorem dL_law_676 : decode cL_law 676 = .ok (.iconst 0, 1) := by decide +kernel
theorem dL_law_677 : decode cL_law 677 = .ok (.ireturn, 1) := by decide +kernel
theorem dL_law_678 : decode cL_law 678 = .ok (.aload_n 1, 1) := by decide +kernel
theorem dL_law_679 : decode cL_law 679 = .ok (.aload_n 0, 1) := by decide +kernel
theorem dL_law_680 : decode cL_law 680 = .ok (.iload_n 3, 1) := by decide +kernel
theorem dL_law_681 : decode cL_law 681 = .ok (.iconst 1, 1) := by decide +kernel
theorem dL_law_682 : decode cL_law 682 = .ok (.iadd, 1) := by decide +kernel
theorem dL_law_683 : decode cL_law 683 = .ok (.iaload, 1) := by decide +kernel
theorem dL_law_684 : decode cL_law 684 = .ok (.aload_n 0, 1) := by decide +kernel
theorem dL_law_685 : decode cL_law 685 = .ok (.iload_n 3, 1) := by decide +kernel
theorem dL_law_686 : decode cL_law 686 = .ok (.iconst 2, 1) := by decide +kernel
theorem dL_law_687 : decode cL_law 687 = .ok (.iadd, 1) := by decide +kernel
theorem dL_law_688 : decode cL_law 688 = .ok (.iaload, 1) := by decide +kernel
theorem dL_law_689 : decode cL_law 689 = .ok (.invokevirtual 89, 3) := by decide +kernel
theorem dL_law_692 : decode cL_law 692 = .ok (.aload_n 2, 1) := by decide +kernel
theorem dL_law_693 : decode cL_law 693 = .ok (.aload_n 0, 1) := by decide +kernel
theorem dL_law_694 : decode cL_law 694 = .ok (.iload_n 3, 1) := by decide +kernel
theorem dL_law_695 : decode cL_law 695 = .ok (.iconst 1, 1) := by decide +kernel
theorem dL_law_696 : decode cL_law 696 = .ok (.iadd, 1) := by decide +kernel
theorem dL_law_697 : decode cL_law 697 = .ok (.iaload, 1) := by decide +kernel
theorem dL_law_698 : decode cL_law 698 = .ok (.aload_n 0, 1) := by decide +kernel
theorem dL_law_699 : decode cL_law 699 = .ok (.iload_n 3, 1) := by decide +kernel
theorem dL_law_700 : decode cL_law 700 = .ok (.iconst 2, 1) := by decide +kernel
theorem dL_law_701 : decode cL_law 701 = .ok (.iadd, 1) := by decide +kernel
theorem dL_law_702 : decode cL_law 702 = .ok (.iaload, 1) := by decide +kernel
theorem dL_law_703 : decode cL_law 703 = .ok (.invokevirtual 92, 3) := by decide +kernel
theorem dL_law_706 : decode cL_law 706 = .ok (.if_icmp .eq 386, 3) := by decide +kernel
theorem dL_law_709 : decode cL_law 709 = .ok (.iconst 0, 1) := by decide +kernel
theorem dL_law_710 : decode cL_law 710 = .ok (.ireturn, 1) := by decide +kernel
theorem dL_law_711 : decode cL_law 711 = .ok (.aload_n 1, 1) := by decide +kernel
theorem dL_law_712 : decode cL_law 712 = .ok (.aload_n 0, 1) := by decide +kernel
theorem dL_law_713 : decode cL_law 713 = .ok (.iload_n 3, 1) := by decide +kernel
theorem dL_law_714 : decode cL_law 714 = .ok (.iconst 1, 1) := by decide +kernel
theorem dL_law_715 : decode cL_law 715 = .ok (.iadd, 1) := by decide +kernel
theorem dL_law_716 : decode cL_law 716 = .ok (.iaload, 1) := by decide +kernel
theorem dL_law_717 : decode cL_law 717 = .ok (.aload_n 0, 1) := by decide +kernel
theorem dL_law_718 : decode cL_law 718 = .ok (.iload_n 3, 1) := by decide +kernel
theorem dL_law_719 : decode cL_law 719 = .ok (.iconst 2, 1) := by decide +kernel
theorem dL_law_720 : decode cL_law 720 = .ok (.iadd, 1) := by decide +kernel
theorem dL_law_721 : decode cL_law 721 = .ok (.iaload, 1) := by decide +kernel
theorem dL_law_722 : decode cL_law 722 = .ok (.invokevirtual 93, 3) := by decide +kernel
theorem dL_law_725 : decode cL_law 725 = .ok (.aload_n 2, 1) := by decide +kernel
theorem dL_law_726 : decode cL_law 726 = .ok (.aload_n 0, 1) := by decide +kernel
theorem dL_law_727 : decode cL_law 727 = .ok (.iload_n 3, 1) := by decide +kernel
theorem dL_law_728 : decode cL_law 728 = .ok (.iconst 1, 1) := by decide +kernel
theorem dL_law_729 : decode cL_law 729 = .ok (.iadd, 1) := by decide +kernel
theorem dL_law_730 : decode cL_law 730 = .ok (.iaload, 1) := by decide +kernel
theorem dL_law_731 : decode cL_law 731 = .ok (.aload_n 0, 1) := by decide +kernel
theorem dL_law_732 : decode cL_law 732 = .ok (.iload_n 3, 1) := by decide +kernel
theorem dL_law_733 : decode cL_law 733 = .ok (.iconst 2, 1) := by decide +kernel
theorem dL_law_734 : decode cL_law 734 = .ok (.iadd, 1) := by decide +kernel
theorem dL_law_735 : decode cL_law 735 = .ok (.iaload, 1) := by decide +kernel
theorem dL_law_736 : decode cL_law 736 = .ok (.invokevirtual 96, 3) := by decide +kernel
theorem dL_law_739 : decode cL_law 739 = .ok (.if_icmp .eq 353, 3) := by decide +kernel
theorem dL_law_742 : decode cL_law 742 = .ok (.iconst 0, 1) := by decide +kernel
theorem dL_law_743 : decode cL_law 743 = .ok (.ireturn, 1) := by decide +kernel
theorem dL_law_744 : decode cL_law 744 = .ok (.aload_n 1, 1) := by decide +kernel
theorem dL_law_745 : decode cL_law 745 = .ok (.aload_n 0, 1) := by decide +kernel
theorem dL_law_746 : decode cL_law 746 = .ok (.iload_n 3, 1) := by decide +kernel
theorem dL_law_747 : decode cL_law 747 = .ok (.iconst 1, 1) := by decide +kernel
theorem dL_law_748 : decode cL_law 748 = .ok (.iadd, 1) := by decide +kernel
theorem dL_law_749 : decode cL_law 749 = .ok (.iaload, 1) := by decide +kernel
theorem dL_law_750 : decode cL_law 750 = .ok (.aload_n 0, 1) := by decide +kernel
theorem dL_law_751 : decode cL_law 751 = .ok (.iload_n 3, 1) := by decide +kernel
theorem dL_law_752 : decode cL_law 752 = .ok (.iconst 2, 1) := by decide +kernel
theorem dL_law_753 : decode cL_law 753 = .ok (.iadd, 1) := by decide +kernel
theorem dL_law_754 : decode cL_law 754 = .ok (.iaload, 1) := by decide +kernel
theorem dL_law_755 : decode cL_law 755 = .ok (.aload_n 0, 1) := by decide +kernel
theorem dL_law_756 : decode cL_law 756 = .ok (.iload_n 3, 1) := by decide +kernel
theorem dL_law_757 : decode cL_law 757 = .ok (.iconst 3, 1) := by decide +kernel
theorem dL_law_758 : decode cL_law 758 = .ok (.iadd, 1) := by decide +kernel
theorem dL_law_759 : decode cL_law 759 = .ok (.iaload, 1) := by decide +kernel
theorem dL_law_760 : decode cL_law 760 = .ok (.aload_n 0, 1) := by decide +kernel
theorem dL_law_761 : decode cL_law 761 = .ok (.iload_n 3, 1) := by decide +kernel
theorem dL_law_762 : decode cL_law 762 = .ok (.iconst 4, 1) := by decide +kernel
theorem dL_law_763 : decode cL_law 763 = .ok (.iadd, 1) := by decide +kernel
theorem dL_law_764 : decode cL_law 764 = .ok (.iaload, 1) := by decide +kernel
theorem dL_law_765 : decode cL_law 765 = .ok (.aload_n 0, 1) := by decide +kernel
theorem dL_law_766 : decode cL_law 766 = .ok (.iload_n 3, 1) := by decide +kernel
theorem dL_law_767 : decode cL_law 767 = .ok (.iconst 5, 1) := by decide +kernel
theorem dL_law_768 : decode cL_law 768 = .ok (.iadd, 1) := by decide +kernel
theorem dL_law_769 : decode cL_law 769 = .ok (.iaload, 1) := by decide +kernel
theorem dL_law_770 : decode cL_law 770 = .ok (.invokevirtual 97, 3) := by decide +kernel
theorem dL_law_773 : decode cL_law 773 = .ok (.aload_n 2, 1) := by decide +kernel
theorem dL_law_774 : decode cL_law 774 = .ok (.aload_n 0, 1) := by decide +kernel
theorem dL_law_775 : decode cL_law 775 = .ok (.iload_n 3, 1) := by decide +kernel
theorem dL_law_776 : decode cL_law 776 = .ok (.iconst 1, 1) := by decide +kernel
theorem dL_law_777 : decode cL_law 777 = .ok (.iadd, 1) := by decide +kernel
theorem dL_law_778 : decode cL_law 778 = .ok (.iaload, 1) := by decide +kernel
theorem dL_law_779 : decode cL_law 779 = .ok (.aload_n 0, 1) := by decide +kernel
theorem dL_law_780 : decode cL_law 780 = .ok (.iload_n 3, 1) := by decide +kernel
theorem dL_law_781 : decode cL_law 781 = .ok (.iconst 2, 1) := by decide +kernel
theorem dL_law_782 : decode cL_law 782 = .ok (.iadd, 1) := by decide +kernel
theorem dL_law_783 : decode cL_law 783 = .ok (.iaload, 1) := by decide +kernel
theorem dL_law_784 : decode cL_law 784 = .ok (.aload_n 0, 1) := by decide +kernel
theorem dL_law_785 : decode cL_law 785 = .ok (.iload_n 3, 1) := by decide +kernel
theorem dL_law_786 : decode cL_law 786 = .ok (.iconst 3, 1) := by decide +kernel
theorem dL_law_787 : decode cL_law 787 = .ok (.iadd, 1) := by decide +kernel
theorem dL_law_788 : decode cL_law 788 = .ok (.iaload, 1) := by decide +kernel
theorem dL_law_789 : decode cL_law 789 = .ok (.aload_n 0, 1) := by decide +kernel
theorem dL_law_790 : decode cL_law 790 = .ok (.iload_n 3, 1) := by decide +kernel
theorem dL_law_791 : decode cL_law 791 = .ok (.iconst 4, 1) := by decide +kernel
theorem dL_law_792 : decode cL_law 792 = .ok (.iadd, 1) := by decide +kernel
theorem dL_law_793 : decode cL_law 793 = .ok (.iaload, 1) := by decide +kernel
theorem dL_law_794 : decode cL_law 794 = .ok (.aload_n 0, 1) := by decide +kernel
theorem dL_law_795 : decode cL_law 795 = .ok (.iload_n 3, 1) := by decide +kernel
theorem dL_law_796 : decode cL_law 796 = .ok (.iconst 5, 1) := by decide +kernel
theorem dL_law_797 : decode cL_law 797 = .ok (.iadd, 1) := by decide +kernel
theorem dL_law_798 : decode cL_law 798 = .ok (.iaload, 1) := by decide +kernel
theorem dL_law_799 : decode cL_law 799 = .ok (.invokevirtual 101, 3) := by decide +kernel
theorem dL_law_802 : decode cL_law 802 = .ok (.lcmp, 1) := by decide +kernel
theorem dL_law_803 : decode cL_law 803 = .ok (.ifCond .eq 289, 3) := by decide +kernel
theorem dL_law_806 : decode cL_law 806 = .ok (.iconst 0, 1) := by decide +kernel
theorem dL_law_807 : decode cL_law 807 = .ok (.ireturn, 1) := by decide +kernel
theorem dL_law_808 : decode cL_law 808 = .ok (.aload_n 1, 1) := by decide +kernel
theorem dL_law_809 : decode cL_law 809 = .ok (.invokevirtual 102, 3) := by decide +kernel
theorem dL_law_812 : decode cL_law 812 = .ok (.aload_n 2, 1) := by decide +kernel
theorem dL_law_813 : decode cL_law 813 = .ok (.invokevirtual 105, 3) := by decide +kernel
theorem dL_law_816 : decode cL_law 816 = .ok (.if_icmp .eq 276, 3) := by decide +kernel
theorem dL_law_819 : decode cL_law 819 = .ok (.iconst 0, 1) := by decide +kernel
theorem dL_law_820 : decode cL_law 820 = .ok (.ireturn, 1) := by decide +kernel
theorem dL_law_821 : decode cL_law 821 = .ok (.aload_n 1, 1) := by decide +kernel
theorem dL_law_822 : decode cL_law 822 = .ok (.invokevirtual 106, 3) := by decide +kernel
theorem dL_law_825 : decode cL_law 825 = .ok (.aload_n 2, 1) := by decide +kernel
theorem dL_law_826 : decode cL_law 826 = .ok (.invokevirtual 109, 3) := by decide +kernel
theorem dL_law_829 : decode cL_law 829 = .ok (.if_icmp .eq 263, 3) := by decide +kernel
theorem dL_law_832 : decode cL_law 832 = .ok (.iconst 0, 1) := by decide +kernel
theorem dL_law_833 : decode cL_law 833 = .ok (.ireturn, 1) := by decide +kernel
theorem dL_law_834 : decode cL_law 834 = .ok (.aload_n 1, 1) := by decide +kernel
theorem dL_law_835 : decode cL_law 835 = .ok (.aload_n 0, 1) := by decide +kernel
theorem dL_law_836 : decode cL_law 836 = .ok (.iload_n 3, 1) := by decide +kernel
theorem dL_law_837 : decode cL_law 837 = .ok (.iconst 1, 1) := by decide +kernel
theorem dL_law_838 : decode cL_law 838 = .ok (.iadd, 1) := by decide +kernel
theorem dL_law_839 : decode cL_law 839 = .ok (.iaload, 1) := by decide +kernel
theorem dL_law_840 : decode cL_law 840 = .ok (.invokevirtual 110, 3) := by decide +kernel
theorem dL_law_843 : decode cL_law 843 = .ok (.aload_n 2, 1) := by decide +kernel
theorem dL_law_844 : decode cL_law 844 = .ok (.aload_n 0, 1) := by decide +kernel
theorem dL_law_845 : decode cL_law 845 = .ok (.iload_n 3, 1) := by decide +kernel
theorem dL_law_846 : decode cL_law 846 = .ok (.iconst 1, 1) := by decide +kernel
theorem dL_law_847 : decode cL_law 847 = .ok (.iadd, 1) := by decide +kernel
theorem dL_law_848 : decode cL_law 848 = .ok (.iaload, 1) := by decide +kernel
theorem dL_law_849 : decode cL_law 849 = .ok (.invokevirtual 113, 3) := by decide +kernel
theorem dL_law_852 : decode cL_law 852 = .ok (.if_icmp .eq 240, 3) := by decide +kernel
theorem dL_law_855 : decode cL_law 855 = .ok (.iconst 0, 1) := by decide +kernel
theorem dL_law_856 : decode cL_law 856 = .ok (.ireturn, 1) := by decide +kernel
theorem dL_law_857 : decode cL_law 857 = .ok (.aload_n 1, 1) := by decide +kernel
theorem dL_law_858 : decode cL_law 858 = .ok (.aload_n 0, 1) := by decide +kernel
theorem dL_law_859 : decode cL_law 859 = .ok (.iload_n 3, 1) := by decide +kernel
theorem dL_law_860 : decode cL_law 860 = .ok (.iconst 1, 1) := by decide +kernel
theorem dL_law_861 : decode cL_law 861 = .ok (.iadd, 1) := by decide +kernel
theorem dL_law_862 : decode cL_law 862 = .ok (.iaload, 1) := by decide +kernel
theorem dL_law_863 : decode cL_law 863 = .ok (.aload_n 0, 1) := by decide +kernel
theorem dL_law_864 : decode cL_law 864 = .ok (.iload_n 3, 1) := by decide +kernel
theorem dL_law_865 : decode cL_law 865 = .ok (.iconst 2, 1) := by decide +kernel
theorem dL_law_866 : decode cL_law 866 = .ok (.iadd, 1) := by decide +kernel
theorem dL_law_867 : decode cL_law 867 = .ok (.iaload, 1) := by decide +kernel
theorem dL_law_868 : decode cL_law 868 = .ok (.aload_n 0, 1) := by decide +kernel
theorem dL_law_869 : decode cL_law 869 = .ok (.iload_n 3, 1) := by decide +kernel
theorem dL_law_870 : decode cL_law 870 = .ok (.iconst 3, 1) := by decide +kernel
theorem dL_law_871 : decode cL_law 871 = .ok (.iadd, 1) := by decide +kernel
theorem dL_law_872 : decode cL_law 872 = .ok (.iaload, 1) := by decide +kernel
theorem dL_law_873 : decode cL_law 873 = .ok (.invokevirtual 114, 3) := by decide +kernel
theorem dL_law_876 : decode cL_law 876 = .ok (.aload_n 2, 1) := by decide +kernel
theorem dL_law_877 : decode cL_law 877 = .ok (.aload_n 0, 1) := by decide +kernel
theorem dL_law_878 : decode cL_law 878 = .ok (.iload_n 3, 1) := by decide +kernel
theorem dL_law_879 : decode cL_law 879 = .ok (.iconst 1, 1) := by decide +kernel
theorem dL_law_880 : decode cL_law 880 = .ok (.iadd, 1) := by decide +kernel
theorem dL_law_881 : decode cL_law 881 = .ok (.iaload, 1) := by decide +kernel
theorem dL_law_882 : decode cL_law 882 = .ok (.aload_n 0, 1) := by decide +kernel
theorem dL_law_883 : decode cL_law 883 = .ok (.iload_n 3, 1) := by decide +kernel
theorem dL_law_884 : decode cL_law 884 = .ok (.iconst 2, 1) := by decide +kernel
theorem dL_law_885 : decode cL_law 885 = .ok (.iadd, 1) := by decide +kernel
theorem dL_law_886 : decode cL_law 886 = .ok (.iaload, 1) := by decide +kernel
theorem dL_law_887 : decode cL_law 887 = .ok (.aload_n 0, 1) := by decide +kernel
theorem dL_law_888 : decode cL_law 888 = .ok (.iload_n 3, 1) := by decide +kernel
theorem dL_law_889 : decode cL_law 889 = .ok (.iconst 3, 1) := by decide +kernel
theorem dL_law_890 : decode cL_law 890 = .ok (.iadd, 1) := by decide +kernel
theorem dL_law_891 : decode cL_law 891 = .ok (.iaload, 1) := by decide +kernel
theorem dL_law_892 : decode cL_law 892 = .ok (.invokevirtual 117, 3) := by decide +kernel
theorem dL_law_895 : decode cL_law 895 = .ok (.if_icmp .eq 197, 3) := by decide +kernel
theorem dL_law_898 : decode cL_law 898 = .ok (.iconst 0, 1) := by decide +kernel
theorem dL_law_899 : decode cL_law 899 = .ok (.ireturn, 1) := by decide +kernel
theorem dL_law_900 : decode cL_law 900 = .ok (.aload_n 1, 1) := by decide +kernel
theorem dL_law_901 : decode cL_law 901 = .ok (.aload_n 0, 1) := by decide +kernel
theorem dL_law_902 : decode cL_law 902 = .ok (.iload_n 3, 1) := by decide +kernel
theorem dL_law_903 : decode cL_law 903 = .ok (.iconst 1, 1) := by decide +kernel
theorem dL_law_904 : decode cL_law 904 = .ok (.iadd, 1) := by decide +kernel
theorem dL_law_905 : decode cL_law 905 = .ok (.iaload, 1) := by decide +kernel
theorem dL_law_906 : decode cL_law 906 = .ok (.aload_n 0, 1) := by decide +kernel
theorem dL_law_907 : decode cL_law 907 = .ok (.iload_n 3, 1) := by decide +kernel
theorem dL_law_908 : decode cL_law 908 = .ok (.iconst 2, 1) := by decide +kernel
theorem dL_law_909 : decode cL_law 909 = .ok (.iadd, 1) := by decide +kernel
theorem dL_law_910 : decode cL_law 910 = .ok (.iaload, 1) := by decide +kernel
theorem dL_law_911 : decode cL_law 911 = .ok (.aload_n 0, 1) := by decide +kernel
theorem dL_law_912 : decode cL_law 912 = .ok (.iload_n 3, 1) := by decide +kernel
theorem dL_law_913 : decode cL_law 913 = .ok (.iconst 3, 1) := by decide +kernel
theorem dL_law_914 : decode cL_law 914 = .ok (.iadd, 1) := by decide +kernel
theorem dL_law_915 : decode cL_law 915 = .ok (.iaload, 1) := by decide +kernel
theorem dL_law_916 : decode cL_law 916 = .ok (.invokevirtual 118, 3) := by decide +kernel
theorem dL_law_919 : decode cL_law 919 = .ok (.aload_n 2, 1) := by decide +kernel
theorem dL_law_920 : decode cL_law 920 = .ok (.aload_n 0, 1) := by decide +kernel
theorem dL_law_921 : decode cL_law 921 = .ok (.iload_n 3, 1) := by decide +kernel
theorem dL_law_922 : decode cL_law 922 = .ok (.iconst 1, 1) := by decide +kernel
theorem dL_law_923 : decode cL_law 923 = .ok (.iadd, 1) := by decide +kernel
theorem dL_law_924 : decode cL_law 924 = .ok (.iaload, 1) := by decide +kernel
theorem dL_law_925 : decode cL_law 925 = .ok (.aload_n 0, 1) := by decide +kernel
theorem dL_law_926 : decode cL_law 926 = .ok (.iload_n 3, 1) := by decide +kernel
theorem dL_law_927 : decode cL_law 927 = .ok (.iconst 2, 1) := by decide +kernel
theorem dL_law_928 : decode cL_law 928 = .ok (.iadd, 1) := by decide +kernel
theorem dL_law_929 : decode cL_law 929 = .ok (.iaload, 1) := by decide +kernel
theorem dL_law_930 : decode cL_law 930 = .ok (.aload_n 0, 1) := by decide +kernel
theorem dL_law_931 : decode cL_law 931 = .ok (.iload_n 3, 1) := by decide +kernel
theorem dL_law_932 : decode cL_law 932 = .ok (.iconst 3, 1) := by decide +kernel
theorem dL_law_933 : decode cL_law 933 = .ok (.iadd, 1) := by decide +kernel
theorem dL_law_934 : decode cL_law 934 = .ok (.iaload, 1) := by decide +kernel
theorem dL_law_935 : decode cL_law 935 = .ok (.invokevirtual 121, 3) := by decide +kernel
theorem dL_law_938 : decode cL_law 938 = .ok (.if_icmp .eq 154, 3) := by decide +kernel
theorem dL_law_941 : decode cL_law 941 = .ok (.iconst 0, 1) := by decide +kernel
theorem dL_law_942 : decode cL_law 942 = .ok (.ireturn, 1) := by decide +kernel
theorem dL_law_943 : decode cL_law 943 = .ok (.aload_n 1, 1) := by decide +kernel
theorem dL_law_944 : decode cL_law 944 = .ok (.aload_n 0, 1) := by decide +kernel
theorem dL_law_945 : decode cL_law 945 = .ok (.iload_n 3, 1) := by decide +kernel
theorem dL_law_946 : decode cL_law 946 = .ok (.iconst 1, 1) := by decide +kernel
theorem dL_law_947 : decode cL_law 947 = .ok (.iadd, 1) := by decide +kernel
theorem dL_law_948 : decode cL_law 948 = .ok (.iaload, 1) := by decide +kernel
theorem dL_law_949 : decode cL_law 949 = .ok (.aload_n 0, 1) := by decide +kernel
theorem dL_law_950 : decode cL_law 950 = .ok (.iload_n 3, 1) := by decide +kernel
theorem dL_law_951 : decode cL_law 951 = .ok (.iconst 2, 1) := by decide +kernel
theorem dL_law_952 : decode cL_law 952 = .ok (.iadd, 1) := by decide +kernel
theorem dL_law_953 : decode cL_law 953 = .ok (.iaload, 1) := by decide +kernel
theorem dL_law_954 : decode cL_law 954 = .ok (.aload_n 0, 1) := by decide +kernel
theorem dL_law_955 : decode cL_law 955 = .ok (.iload_n 3, 1) := by decide +kernel
theorem dL_law_956 : decode cL_law 956 = .ok (.iconst 3, 1) := by decide +kernel
theorem dL_law_957 : decode cL_law 957 = .ok (.iadd, 1) := by decide +kernel
theorem dL_law_958 : decode cL_law 958 = .ok (.iaload, 1) := by decide +kernel
theorem dL_law_959 : decode cL_law 959 = .ok (.aload_n 0, 1) := by decide +kernel
theorem dL_law_960 : decode cL_law 960 = .ok (.iload_n 3, 1) := by decide +kernel
theorem dL_law_961 : decode cL_law 961 = .ok (.iconst 4, 1) := by decide +kernel
theorem dL_law_962 : decode cL_law 962 = .ok (.iadd, 1) := by decide +kernel
theorem dL_law_963 : decode cL_law 963 = .ok (.iaload, 1) := by decide +kernel
theorem dL_law_964 : decode cL_law 964 = .ok (.aload_n 0, 1) := by decide +kernel
theorem dL_law_965 : decode cL_law 965 = .ok (.iload_n 3, 1) := by decide +kernel
theorem dL_law_966 : decode cL_law 966 = .ok (.iconst 5, 1) := by decide +kernel
theorem dL_law_967 : decode cL_law 967 = .ok (.iadd, 1) := by decide +kernel
theorem dL_law_968 : decode cL_law 968 = .ok (.iaload, 1) := by decide +kernel
theorem dL_law_969 : decode cL_law 969 = .ok (.invokevirtual 122, 3) := by decide +kernel
theorem dL_law_972 : decode cL_law 972 = .ok (.aload_n 2, 1) := by decide +kernel
theorem dL_law_973 : decode cL_law 973 = .ok (.aload_n 0, 1) := by decide +kernel
theorem dL_law_974 : decode cL_law 974 = .ok (.iload_n 3, 1) := by decide +kernel
theorem dL_law_975 : decode cL_law 975 = .ok (.iconst 1, 1) := by decide +kernel
theorem dL_law_976 : decode cL_law 976 = .ok (.iadd, 1) := by decide +kernel
theorem dL_law_977 : decode cL_law 977 = .ok (.iaload, 1) := by decide +kernel
theorem dL_law_978 : decode cL_law 978 = .ok (.aload_n 0, 1) := by decide +kernel
theorem dL_law_979 : decode cL_law 979 = .ok (.iload_n 3, 1) := by decide +kernel
theorem dL_law_980 : decode cL_law 980 = .ok (.iconst 2, 1) := by decide +kernel
theorem dL_law_981 : decode cL_law 981 = .ok (.iadd, 1) := by decide +kernel
theorem dL_law_982 : decode cL_law 982 = .ok (.iaload, 1) := by decide +kernel
theorem dL_law_983 : decode cL_law 983 = .ok (.aload_n 0, 1) := by decide +kernel
theorem dL_law_984 : decode cL_law 984 = .ok (.iload_n 3, 1) := by decide +kernel
theorem dL_law_985 : decode cL_law 985 = .ok (.iconst 3, 1) := by decide +kernel
theorem dL_law_986 : decode cL_law 986 = .ok (.iadd, 1) := by decide +kernel
theorem dL_law_987 : decode cL_law 987 = .ok (.iaload, 1) := by decide +kernel
theorem dL_law_988 : decode cL_law 988 = .ok (.aload_n 0, 1) := by decide +kernel
theorem dL_law_989 : decode cL_law 989 = .ok (.iload_n 3, 1) := by decide +kernel
theorem dL_law_990 : decode cL_law 990 = .ok (.iconst 4, 1) := by decide +kernel
theorem dL_law_991 : decode cL_law 991 = .ok (.iadd, 1) := by decide +kernel
theorem dL_law_992 : decode cL_law 992 = .ok (.iaload, 1) := by decide +kernel
theorem dL_law_993 : decode cL_law 993 = .ok (.aload_n 0, 1) := by decide +kernel
theorem dL_law_994 : decode cL_law 994 = .ok (.iload_n 3, 1) := by decide +kernel
theorem dL_law_995 : decode cL_law 995 = .ok (.iconst 5, 1) := by decide +kernel
theorem dL_law_996 : decode cL_law 996 = .ok (.iadd, 1) := by decide +kernel
theorem dL_law_997 : decode cL_law 997 = .ok (.iaload, 1) := by decide +kernel
theorem dL_law_998 : decode cL_law 998 = .ok (.invokevirtual 126, 3) := by decide +kernel
theorem dL_law_1001 : decode cL_law 1001 = .ok (.if_icmp .eq 91, 3) := by decide +kernel
theorem dL_law_1004 : decode cL_law 1004 = .ok (.iconst 0, 1) := by decide +kernel
theorem dL_law_1005 : decode cL_law 1005 = .ok (.ireturn, 1) := by decide +kernel
theorem dL_law_1006 : decode cL_law 1006 = .ok (.aload_n 1, 1) := by decide +kernel
theorem dL_law_1007 : decode cL_law 1007 = .ok (.aload_n 0, 1) := by decide +kernel
theorem dL_law_1008 : decode cL_law 1008 = .ok (.iload_n 3, 1) := by decide +kernel
theorem dL_law_1009 : decode cL_law 1009 = .ok (.iconst 1, 1) := by decide +kernel
theorem dL_law_1010 : decode cL_law 1010 = .ok (.iadd, 1) := by decide +kernel
theorem dL_law_1011 : decode cL_law 1011 = .ok (.iaload, 1) := by decide +kernel
theorem dL_law_1012 : decode cL_law 1012 = .ok (.aload_n 0, 1) := by decide +kernel
theorem dL_law_1013 : decode cL_law 1013 = .ok (.iload_n 3, 1) := by decide +kernel
theorem dL_law_1014 : decode cL_law 1014 = .ok (.iconst 2, 1) := by decide +kernel
theorem dL_law_1015 : decode cL_law 1015 = .ok (.iadd, 1) := by decide +kernel
theorem dL_law_1016 : decode cL_law 1016 = .ok (.iaload, 1) := by decide +kernel
theorem dL_law_1017 : decode cL_law 1017 = .ok (.aload_n 0, 1) := by decide +kernel
theorem dL_law_1018 : decode cL_law 1018 = .ok (.iload_n 3, 1) := by decide +kernel
theorem dL_law_1019 : decode cL_law 1019 = .ok (.iconst 3, 1) := by decide +kernel
theorem dL_law_1020 : decode cL_law 1020 = .ok (.iadd, 1) := by decide +kernel
theorem dL_law_1021 : decode cL_law 1021 = .ok (.iaload, 1) := by decide +kernel
theorem dL_law_1022 : decode cL_law 1022 = .ok (.aload_n 0, 1) := by decide +kernel
theorem dL_law_1023 : decode cL_law 1023 = .ok (.iload_n 3, 1) := by decide +kernel
theorem dL_law_1024 : decode cL_law 1024 = .ok (.iconst 4, 1) := by decide +kernel
theorem dL_law_1025 : decode cL_law 1025 = .ok (.iadd, 1) := by decide +kernel
theorem dL_law_1026 : decode cL_law 1026 = .ok (.iaload, 1) := by decide +kernel
theorem dL_law_1027 : decode cL_law 1027 = .ok (.invokevirtual 127, 3) := by decide +kernel
theorem dL_law_1030 : decode cL_law 1030 = .ok (.aload_n 2, 1) := by decide +kernel
theorem dL_law_1031 : decode cL_law 1031 = .ok (.aload_n 0, 1) := by decide +kernel
theorem dL_law_1032 : decode cL_law 1032 = .ok (.iload_n 3, 1) := by decide +kernel
theorem dL_law_1033 : decode cL_law 1033 = .ok (.iconst 1, 1) := by decide +kernel
theorem dL_law_1034 : decode cL_law 1034 = .ok (.iadd, 1) := by decide +kernel
theorem dL_law_1035 : decode cL_law 1035 = .ok (.iaload, 1) := by decide +kernel
theorem dL_law_1036 : decode cL_law 1036 = .ok (.aload_n 0, 1) := by decide +kernel
theorem dL_law_1037 : decode cL_law 1037 = .ok (.iload_n 3, 1) := by decide +kernel
theorem dL_law_1038 : decode cL_law 1038 = .ok (.iconst 2, 1) := by decide +kernel
theorem dL_law_1039 : decode cL_law 1039 = .ok (.iadd, 1) := by decide +kernel
theorem dL_law_1040 : decode cL_law 1040 = .ok (.iaload, 1) := by decide +kernel
theorem dL_law_1041 : decode cL_law 1041 = .ok (.aload_n 0, 1) := by decide +kernel
theorem dL_law_1042 : decode cL_law 1042 = .ok (.iload_n 3, 1) := by decide +kernel
theorem dL_law_1043 : decode cL_law 1043 = .ok (.iconst 3, 1) := by decide +kernel
theorem dL_law_1044 : decode cL_law 1044 = .ok (.iadd, 1) := by decide +kernel
theorem dL_law_1045 : decode cL_law 1045 = .ok (.iaload, 1) := by decide +kernel
theorem dL_law_1046 : decode cL_law 1046 = .ok (.aload_n 0, 1) := by decide +kernel
theorem dL_law_1047 : decode cL_law 1047 = .ok (.iload_n 3, 1) := by decide +kernel
theorem dL_law_1048 : decode cL_law 1048 = .ok (.iconst 4, 1) := by decide +kernel
theorem dL_law_1049 : decode cL_law 1049 = .ok (.iadd, 1) := by decide +kernel
theorem dL_law_1050 : decode cL_law 1050 = .ok (.iaload, 1) := by decide +kernel
theorem dL_law_1051 : decode cL_law 1051 = .ok (.invokevirtual 131, 3) := by decide +kernel
theorem dL_law_1054 : decode cL_law 1054 = .ok (.if_icmp .eq 38, 3) := by decide +kernel
theorem dL_law_1057 : decode cL_law 1057 = .ok (.iconst 0, 1) := by decide +kernel
theorem dL_law_1058 : decode cL_law 1058 = .ok (.ireturn, 1) := by decide +kernel
theorem dL_law_1059 : decode cL_law 1059 = .ok (.aload_n 1, 1) := by decide +kernel
theorem dL_law_1060 : decode cL_law 1060 = .ok (.aload_n 0, 1) := by decide +kernel
theorem dL_law_1061 : decode cL_law 1061 = .ok (.iload_n 3, 1) := by decide +kernel
theorem dL_law_1062 : decode cL_law 1062 = .ok (.iconst 1, 1) := by decide +kernel
theorem dL_law_1063 : decode cL_law 1063 = .ok (.iadd, 1) := by decide +kernel
theorem dL_law_1064 : decode cL_law 1064 = .ok (.iaload, 1) := by decide +kernel
theorem dL_law_1065 : decode cL_law 1065 = .ok (.aload_n 0, 1) := by decide +kernel
theorem dL_law_1066 : decode cL_law 1066 = .ok (.iload_n 3, 1) := by decide +kernel
theorem dL_law_1067 : decode cL_law 1067 = .ok (.iconst 2, 1) := by decide +kernel
theorem dL_law_1068 : decode cL_law 1068 = .ok (.iadd, 1) := by decide +kernel
theorem dL_law_1069 : decode cL_law 1069 = .ok (.iaload, 1) := by decide +kernel
theorem dL_law_1070 : decode cL_law 1070 = .ok (.invokevirtual 132, 3) := by decide +kernel
theorem dL_law_1073 : decode cL_law 1073 = .ok (.aload_n 2, 1) := by decide +kernel
theorem dL_law_1074 : decode cL_law 1074 = .ok (.aload_n 0, 1) := by decide +kernel
theorem dL_law_1075 : decode cL_law 1075 = .ok (.iload_n 3, 1) := by decide +kernel
theorem dL_law_1076 : decode cL_law 1076 = .ok (.iconst 1, 1) := by decide +kernel
theorem dL_law_1077 : decode cL_law 1077 = .ok (.iadd, 1) := by decide +kernel
theorem dL_law_1078 : decode cL_law 1078 = .ok (.iaload, 1) := by decide +kernel
theorem dL_law_1079 : decode cL_law 1079 = .ok (.aload_n 0, 1) := by decide +kernel
theorem dL_law_1080 : decode cL_law 1080 = .ok (.iload_n 3, 1) := by decide +kernel
theorem dL_law_1081 : decode cL_law 1081 = .ok (.iconst 2, 1) := by decide +kernel
theorem dL_law_1082 : decode cL_law 1082 = .ok (.iadd, 1) := by decide +kernel
theorem dL_law_1083 : decode cL_law 1083 = .ok (.iaload, 1) := by decide +kernel
theorem dL_law_1084 : decode cL_law 1084 = .ok (.invokevirtual 135, 3) := by decide +kernel
theorem dL_law_1087 : decode cL_law 1087 = .ok (.if_icmp .eq 5, 3) := by decide +kernel
theorem dL_law_1090 : decode cL_law 1090 = .ok (.iconst 0, 1) := by decide +kernel
theorem dL_law_1091 : decode cL_law 1091 = .ok (.ireturn, 1) := by decide +kernel
theorem dL_law_1092 : decode cL_law 1092 = .ok (.iinc 3 6, 3) := by decide +kernel
theorem dL_law_1095 : decode cL_law 1095 = .ok (.goto (-1077), 3) := by decide +kernel
theorem dL_law_1098 : decode cL_law 1098 = .ok (.iconst 1, 1) := by decide +kernel
theorem dL_law_1099 : decode cL_law 1099 = .ok (.ireturn, 1) := by decide +kernel
