/-! each instruction, decoded -/
theorem dX5_init_0 : decode cX5_init 0 = .ok (.aload_n 0, 1) := by decide +kernel
theorem dX5_init_1 : decode cX5_init 1 = .ok (.invokespecial 1, 3) := by decide +kernel
theorem dX5_init_4 : decode cX5_init 4 = .ok (.aload_n 0, 1) := by decide +kernel
theorem dX5_init_5 : decode cX5_init 5 = .ok (.bipush 56, 2) := by decide +kernel
theorem dX5_init_7 : decode cX5_init 7 = .ok (.newarray .int, 2) := by decide +kernel
theorem dX5_init_9 : decode cX5_init 9 = .ok (.putfield 7, 3) := by decide +kernel
theorem dX5_init_12 : decode cX5_init 12 = .ok (.aload_n 0, 1) := by decide +kernel
theorem dX5_init_13 : decode cX5_init 13 = .ok (.sipush 448, 3) := by decide +kernel
theorem dX5_init_16 : decode cX5_init 16 = .ok (.newarray .int, 2) := by decide +kernel
theorem dX5_init_18 : decode cX5_init 18 = .ok (.putfield 13, 3) := by decide +kernel
theorem dX5_init_21 : decode cX5_init 21 = .ok (.aload_n 0, 1) := by decide +kernel
theorem dX5_init_22 : decode cX5_init 22 = .ok (.bipush 56, 2) := by decide +kernel
theorem dX5_init_24 : decode cX5_init 24 = .ok (.newarray .int, 2) := by decide +kernel
theorem dX5_init_26 : decode cX5_init 26 = .ok (.putfield 16, 3) := by decide +kernel
theorem dX5_init_29 : decode cX5_init 29 = .ok (.aload_n 0, 1) := by decide +kernel
theorem dX5_init_30 : decode cX5_init 30 = .ok (.bipush 56, 2) := by decide +kernel
theorem dX5_init_32 : decode cX5_init 32 = .ok (.newarray .int, 2) := by decide +kernel
theorem dX5_init_34 : decode cX5_init 34 = .ok (.putfield 19, 3) := by decide +kernel
theorem dX5_init_37 : decode cX5_init 37 = .ok (.aload_n 0, 1) := by decide +kernel
theorem dX5_init_38 : decode cX5_init 38 = .ok (.bipush 60, 2) := by decide +kernel
theorem dX5_init_40 : decode cX5_init 40 = .ok (.newarray .int, 2) := by decide +kernel
theorem dX5_init_42 : decode cX5_init 42 = .ok (.putfield 22, 3) := by decide +kernel
theorem dX5_init_45 : decode cX5_init 45 = .ok (.aload_n 0, 1) := by decide +kernel
theorem dX5_init_46 : decode cX5_init 46 = .ok (.iconst (-1), 1) := by decide +kernel
theorem dX5_init_47 : decode cX5_init 47 = .ok (.putfield 25, 3) := by decide +kernel
theorem dX5_init_50 : decode cX5_init 50 = .ok (.aload_n 0, 1) := by decide +kernel
theorem dX5_init_51 : decode cX5_init 51 = .ok (.bipush 40, 2) := by decide +kernel
theorem dX5_init_53 : decode cX5_init 53 = .ok (.newarray .char, 2) := by decide +kernel
theorem dX5_init_55 : decode cX5_init 55 = .ok (.putfield 29, 3) := by decide +kernel
theorem dX5_init_58 : decode cX5_init 58 = .ok (.aload_n 0, 1) := by decide +kernel
theorem dX5_init_59 : decode cX5_init 59 = .ok (.bipush 7, 2) := by decide +kernel
theorem dX5_init_61 : decode cX5_init 61 = .ok (.newarray .int, 2) := by decide +kernel
theorem dX5_init_63 : decode cX5_init 63 = .ok (.putfield 33, 3) := by decide +kernel
theorem dX5_init_66 : decode cX5_init 66 = .ok (.aload_n 0, 1) := by decide +kernel
theorem dX5_init_67 : decode cX5_init 67 = .ok (.sipush 128, 3) := by decide +kernel
theorem dX5_init_70 : decode cX5_init 70 = .ok (.newarray .int, 2) := by decide +kernel
theorem dX5_init_72 : decode cX5_init 72 = .ok (.putfield 36, 3) := by decide +kernel
theorem dX5_init_75 : decode cX5_init 75 = .ok (.aload_n 0, 1) := by decide +kernel
theorem dX5_init_76 : decode cX5_init 76 = .ok (.getfield 7, 3) := by decide +kernel
theorem dX5_init_79 : decode cX5_init 79 = .ok (.bipush 36, 2) := by decide +kernel
theorem dX5_init_81 : decode cX5_init 81 = .ok (.iconst 3, 1) := by decide +kernel
theorem dX5_init_82 : decode cX5_init 82 = .ok (.iastore, 1) := by decide +kernel
theorem dX5_init_83 : decode cX5_init 83 = .ok (.iconst 0, 1) := by decide +kernel
theorem dX5_init_84 : decode cX5_init 84 = .ok (.istore_n 1, 1) := by decide +kernel
theorem dX5_init_85 : decode cX5_init 85 = .ok (.iload_n 1, 1) := by decide +kernel
theorem dX5_init_86 : decode cX5_init 86 = .ok (.iconst 5, 1) := by decide +kernel
theorem dX5_init_87 : decode cX5_init 87 = .ok (.if_icmp .ge 20, 3) := by decide +kernel
theorem dX5_init_90 : decode cX5_init 90 = .ok (.aload_n 0, 1) := by decide +kernel
theorem dX5_init_91 : decode cX5_init 91 = .ok (.getfield 7, 3) := by decide +kernel
theorem dX5_init_94 : decode cX5_init 94 = .ok (.bipush 37, 2) := by decide +kernel
theorem dX5_init_96 : decode cX5_init 96 = .ok (.iload_n 1, 1) := by decide +kernel
theorem dX5_init_97 : decode cX5_init 97 = .ok (.iadd, 1) := by decide +kernel
theorem dX5_init_98 : decode cX5_init 98 = .ok (.bipush 9, 2) := by decide +kernel
theorem dX5_init_100 : decode cX5_init 100 = .ok (.iastore, 1) := by decide +kernel
theorem dX5_init_101 : decode cX5_init 101 = .ok (.iinc 1 1, 3) := by decide +kernel
theorem dX5_init_104 : decode cX5_init 104 = .ok (.goto (-19), 3) := by decide +kernel
theorem dX5_init_107 : decode cX5_init 107 = .ok (.return_, 1) := by decide +kernel
theorem dX5_thrown_0 : decode cX5_thrown 0 = .ok (.aload_n 0, 1) := by decide +kernel
theorem dX5_thrown_1 : decode cX5_thrown 1 = .ok (.getfield 39, 3) := by decide +kernel
theorem dX5_thrown_4 : decode cX5_thrown 4 = .ok (.ireturn, 1) := by decide +kernel
theorem dX5_fails_0 : decode cX5_fails 0 = .ok (.aload_n 0, 1) := by decide +kernel
theorem dX5_fails_1 : decode cX5_fails 1 = .ok (.iload_n 1, 1) := by decide +kernel
theorem dX5_fails_2 : decode cX5_fails 2 = .ok (.putfield 39, 3) := by decide +kernel
theorem dX5_fails_5 : decode cX5_fails 5 = .ok (.iload_n 1, 1) := by decide +kernel
theorem dX5_fails_6 : decode cX5_fails 6 = .ok (.ifCond .le 7, 3) := by decide +kernel
theorem dX5_fails_9 : decode cX5_fails 9 = .ok (.iconst 1, 1) := by decide +kernel
theorem dX5_fails_10 : decode cX5_fails 10 = .ok (.goto 4, 3) := by decide +kernel
theorem dX5_fails_13 : decode cX5_fails 13 = .ok (.iconst 0, 1) := by decide +kernel
theorem dX5_fails_14 : decode cX5_fails 14 = .ok (.ireturn, 1) := by decide +kernel
theorem dX5_refuses_0 : decode cX5_refuses 0 = .ok (.aload_n 0, 1) := by decide +kernel
theorem dX5_refuses_1 : decode cX5_refuses 1 = .ok (.iload_n 1, 1) := by decide +kernel
theorem dX5_refuses_2 : decode cX5_refuses 2 = .ok (.putfield 39, 3) := by decide +kernel
theorem dX5_refuses_5 : decode cX5_refuses 5 = .ok (.aload_n 0, 1) := by decide +kernel
theorem dX5_refuses_6 : decode cX5_refuses 6 = .ok (.iload_n 2, 1) := by decide +kernel
theorem dX5_refuses_7 : decode cX5_refuses 7 = .ok (.putfield 42, 3) := by decide +kernel
theorem dX5_refuses_10 : decode cX5_refuses 10 = .ok (.aload_n 0, 1) := by decide +kernel
theorem dX5_refuses_11 : decode cX5_refuses 11 = .ok (.iload_n 3, 1) := by decide +kernel
theorem dX5_refuses_12 : decode cX5_refuses 12 = .ok (.putfield 45, 3) := by decide +kernel
theorem dX5_refuses_15 : decode cX5_refuses 15 = .ok (.iconst 0, 1) := by decide +kernel
theorem dX5_refuses_16 : decode cX5_refuses 16 = .ok (.ireturn, 1) := by decide +kernel
theorem dX5_in_0 : decode cX5_in 0 = .ok (.iload_n 0, 1) := by decide +kernel
theorem dX5_in_1 : decode cX5_in 1 = .ok (.iload_n 1, 1) := by decide +kernel
theorem dX5_in_2 : decode cX5_in 2 = .ok (.if_icmp .lt 12, 3) := by decide +kernel
theorem dX5_in_5 : decode cX5_in 5 = .ok (.iload_n 0, 1) := by decide +kernel
theorem dX5_in_6 : decode cX5_in 6 = .ok (.iload_n 2, 1) := by decide +kernel
theorem dX5_in_7 : decode cX5_in 7 = .ok (.if_icmp .gt 7, 3) := by decide +kernel
theorem dX5_in_10 : decode cX5_in 10 = .ok (.iconst 1, 1) := by decide +kernel
theorem dX5_in_11 : decode cX5_in 11 = .ok (.goto 4, 3) := by decide +kernel
theorem dX5_in_14 : decode cX5_in 14 = .ok (.iconst 0, 1) := by decide +kernel
theorem dX5_in_15 : decode cX5_in 15 = .ok (.ireturn, 1) := by decide +kernel
theorem dX5_less_0 : decode cX5_less 0 = .ok (.iload_n 0, 1) := by decide +kernel
theorem dX5_less_1 : decode cX5_less 1 = .ok (.iload_n 1, 1) := by decide +kernel
theorem dX5_less_2 : decode cX5_less 2 = .ok (.if_icmp .ge 7, 3) := by decide +kernel
theorem dX5_less_5 : decode cX5_less 5 = .ok (.iload_n 0, 1) := by decide +kernel
theorem dX5_less_6 : decode cX5_less 6 = .ok (.goto 4, 3) := by decide +kernel
theorem dX5_less_9 : decode cX5_less 9 = .ok (.iload_n 1, 1) := by decide +kernel
theorem dX5_less_10 : decode cX5_less 10 = .ok (.ireturn, 1) := by decide +kernel
theorem dX5_more_0 : decode cX5_more 0 = .ok (.iload_n 0, 1) := by decide +kernel
theorem dX5_more_1 : decode cX5_more 1 = .ok (.iload_n 1, 1) := by decide +kernel
theorem dX5_more_2 : decode cX5_more 2 = .ok (.if_icmp .le 7, 3) := by decide +kernel
theorem dX5_more_5 : decode cX5_more 5 = .ok (.iload_n 0, 1) := by decide +kernel
theorem dX5_more_6 : decode cX5_more 6 = .ok (.goto 4, 3) := by decide +kernel
theorem dX5_more_9 : decode cX5_more 9 = .ok (.iload_n 1, 1) := by decide +kernel
theorem dX5_more_10 : decode cX5_more 10 = .ok (.ireturn, 1) := by decide +kernel
theorem dX5_copies_0 : decode cX5_copies 0 = .ok (.iconst 0, 1) := by decide +kernel
theorem dX5_copies_1 : decode cX5_copies 1 = .ok (.istore 4, 2) := by decide +kernel
theorem dX5_copies_3 : decode cX5_copies 3 = .ok (.iload 4, 2) := by decide +kernel
theorem dX5_copies_5 : decode cX5_copies 5 = .ok (.bipush 56, 2) := by decide +kernel
theorem dX5_copies_7 : decode cX5_copies 7 = .ok (.if_icmp .ge 21, 3) := by decide +kernel
theorem dX5_copies_10 : decode cX5_copies 10 = .ok (.aload_n 2, 1) := by decide +kernel
theorem dX5_copies_11 : decode cX5_copies 11 = .ok (.iload_n 3, 1) := by decide +kernel
theorem dX5_copies_12 : decode cX5_copies 12 = .ok (.iload 4, 2) := by decide +kernel
theorem dX5_copies_14 : decode cX5_copies 14 = .ok (.iadd, 1) := by decide +kernel
theorem dX5_copies_15 : decode cX5_copies 15 = .ok (.aload_n 0, 1) := by decide +kernel
theorem dX5_copies_16 : decode cX5_copies 16 = .ok (.iload_n 1, 1) := by decide +kernel
theorem dX5_copies_17 : decode cX5_copies 17 = .ok (.iload 4, 2) := by decide +kernel
theorem dX5_copies_19 : decode cX5_copies 19 = .ok (.iadd, 1) := by decide +kernel
theorem dX5_copies_20 : decode cX5_copies 20 = .ok (.iaload, 1) := by decide +kernel
theorem dX5_copies_21 : decode cX5_copies 21 = .ok (.iastore, 1) := by decide +kernel
theorem dX5_copies_22 : decode cX5_copies 22 = .ok (.iinc 4 1, 3) := by decide +kernel
theorem dX5_copies_25 : decode cX5_copies 25 = .ok (.goto (-22), 3) := by decide +kernel
theorem dX5_copies_28 : decode cX5_copies 28 = .ok (.return_, 1) := by decide +kernel
theorem dX5_keeps_0 : decode cX5_keeps 0 = .ok (.aload_n 0, 1) := by decide +kernel
theorem dX5_keeps_1 : decode cX5_keeps 1 = .ok (.getfield 48, 3) := by decide +kernel
theorem dX5_keeps_4 : decode cX5_keeps 4 = .ok (.ifCond .eq 4, 3) := by decide +kernel
theorem dX5_keeps_7 : decode cX5_keeps 7 = .ok (.return_, 1) := by decide +kernel
theorem dX5_keeps_8 : decode cX5_keeps 8 = .ok (.aload_n 0, 1) := by decide +kernel
theorem dX5_keeps_9 : decode cX5_keeps 9 = .ok (.getfield 52, 3) := by decide +kernel
theorem dX5_keeps_12 : decode cX5_keeps 12 = .ok (.bipush 8, 2) := by decide +kernel
theorem dX5_keeps_14 : decode cX5_keeps 14 = .ok (.if_icmp .ne 43, 3) := by decide +kernel
theorem dX5_keeps_17 : decode cX5_keeps 17 = .ok (.iconst 0, 1) := by decide +kernel
theorem dX5_keeps_18 : decode cX5_keeps 18 = .ok (.istore_n 2, 1) := by decide +kernel
theorem dX5_keeps_19 : decode cX5_keeps 19 = .ok (.iload_n 2, 1) := by decide +kernel
theorem dX5_keeps_20 : decode cX5_keeps 20 = .ok (.sipush 392, 3) := by decide +kernel
theorem dX5_keeps_23 : decode cX5_keeps 23 = .ok (.if_icmp .ge 24, 3) := by decide +kernel
theorem dX5_keeps_26 : decode cX5_keeps 26 = .ok (.aload_n 0, 1) := by decide +kernel
theorem dX5_keeps_27 : decode cX5_keeps 27 = .ok (.getfield 13, 3) := by decide +kernel
theorem dX5_keeps_30 : decode cX5_keeps 30 = .ok (.iload_n 2, 1) := by decide +kernel
theorem dX5_keeps_31 : decode cX5_keeps 31 = .ok (.aload_n 0, 1) := by decide +kernel
theorem dX5_keeps_32 : decode cX5_keeps 32 = .ok (.getfield 13, 3) := by decide +kernel
theorem dX5_keeps_35 : decode cX5_keeps 35 = .ok (.iload_n 2, 1) := by decide +kernel
theorem dX5_keeps_36 : decode cX5_keeps 36 = .ok (.bipush 56, 2) := by decide +kernel
theorem dX5_keeps_38 : decode cX5_keeps 38 = .ok (.iadd, 1) := by decide +kernel
theorem dX5_keeps_39 : decode cX5_keeps 39 = .ok (.iaload, 1) := by decide +kernel
theorem dX5_keeps_40 : decode cX5_keeps 40 = .ok (.iastore, 1) := by decide +kernel
theorem dX5_keeps_41 : decode cX5_keeps 41 = .ok (.iinc 2 1, 3) := by decide +kernel
theorem dX5_keeps_44 : decode cX5_keeps 44 = .ok (.goto (-25), 3) := by decide +kernel
theorem dX5_keeps_47 : decode cX5_keeps 47 = .ok (.aload_n 0, 1) := by decide +kernel
theorem dX5_keeps_48 : decode cX5_keeps 48 = .ok (.dup, 1) := by decide +kernel
theorem dX5_keeps_49 : decode cX5_keeps 49 = .ok (.getfield 52, 3) := by decide +kernel
theorem dX5_keeps_52 : decode cX5_keeps 52 = .ok (.iconst 1, 1) := by decide +kernel
theorem dX5_keeps_53 : decode cX5_keeps 53 = .ok (.isub, 1) := by decide +kernel
theorem dX5_keeps_54 : decode cX5_keeps 54 = .ok (.putfield 52, 3) := by decide +kernel
theorem dX5_keeps_57 : decode cX5_keeps 57 = .ok (.aload_n 1, 1) := by decide +kernel
theorem dX5_keeps_58 : decode cX5_keeps 58 = .ok (.iconst 0, 1) := by decide +kernel
theorem dX5_keeps_59 : decode cX5_keeps 59 = .ok (.aload_n 0, 1) := by decide +kernel
theorem dX5_keeps_60 : decode cX5_keeps 60 = .ok (.getfield 13, 3) := by decide +kernel
theorem dX5_keeps_63 : decode cX5_keeps 63 = .ok (.bipush 56, 2) := by decide +kernel
theorem dX5_keeps_65 : decode cX5_keeps 65 = .ok (.aload_n 0, 1) := by decide +kernel
theorem dX5_keeps_66 : decode cX5_keeps 66 = .ok (.getfield 52, 3) := by decide +kernel
theorem dX5_keeps_69 : decode cX5_keeps 69 = .ok (.imul, 1) := by decide +kernel
theorem dX5_keeps_70 : decode cX5_keeps 70 = .ok (.invokestatic 55, 3) := by decide +kernel
theorem dX5_keeps_73 : decode cX5_keeps 73 = .ok (.aload_n 0, 1) := by decide +kernel
theorem dX5_keeps_74 : decode cX5_keeps 74 = .ok (.dup, 1) := by decide +kernel
theorem dX5_keeps_75 : decode cX5_keeps 75 = .ok (.getfield 52, 3) := by decide +kernel
theorem dX5_keeps_78 : decode cX5_keeps 78 = .ok (.iconst 1, 1) := by decide +kernel
theorem dX5_keeps_79 : decode cX5_keeps 79 = .ok (.iadd, 1) := by decide +kernel
theorem dX5_keeps_80 : decode cX5_keeps 80 = .ok (.putfield 52, 3) := by decide +kernel
theorem dX5_keeps_83 : decode cX5_keeps 83 = .ok (.return_, 1) := by decide +kernel
theorem dX5_isCountry_0 : decode cX5_isCountry 0 = .ok (.iload_n 1, 1) := by decide +kernel
theorem dX5_isCountry_1 : decode cX5_isCountry 1 = .ok (.iconst 0, 1) := by decide +kernel
theorem dX5_isCountry_2 : decode cX5_isCountry 2 = .ok (.aload_n 0, 1) := by decide +kernel
theorem dX5_isCountry_3 : decode cX5_isCountry 3 = .ok (.getfield 7, 3) := by decide +kernel
theorem dX5_isCountry_6 : decode cX5_isCountry 6 = .ok (.iconst 0, 1) := by decide +kernel
theorem dX5_isCountry_7 : decode cX5_isCountry 7 = .ok (.iaload, 1) := by decide +kernel
theorem dX5_isCountry_8 : decode cX5_isCountry 8 = .ok (.iconst 1, 1) := by decide +kernel
theorem dX5_isCountry_9 : decode cX5_isCountry 9 = .ok (.isub, 1) := by decide +kernel
theorem dX5_isCountry_10 : decode cX5_isCountry 10 = .ok (.invokestatic 59, 3) := by decide +kernel
theorem dX5_isCountry_13 : decode cX5_isCountry 13 = .ok (.ireturn, 1) := by decide +kernel
theorem dX5_isHue_0 : decode cX5_isHue 0 = .ok (.iload_n 0, 1) := by decide +kernel
theorem dX5_isHue_1 : decode cX5_isHue 1 = .ok (.iconst 0, 1) := by decide +kernel
theorem dX5_isHue_2 : decode cX5_isHue 2 = .ok (.iconst 4, 1) := by decide +kernel
theorem dX5_isHue_3 : decode cX5_isHue 3 = .ok (.invokestatic 59, 3) := by decide +kernel
theorem dX5_isHue_6 : decode cX5_isHue 6 = .ok (.ireturn, 1) := by decide +kernel
theorem dX5_of_0 : decode cX5_of 0 = .ok (.aload_n 0, 1) := by decide +kernel
theorem dX5_of_1 : decode cX5_of 1 = .ok (.getfield 7, 3) := by decide +kernel
theorem dX5_of_4 : decode cX5_of 4 = .ok (.iconst 1, 1) := by decide +kernel
theorem dX5_of_5 : decode cX5_of 5 = .ok (.iconst 4, 1) := by decide +kernel
theorem dX5_of_6 : decode cX5_of 6 = .ok (.iload_n 1, 1) := by decide +kernel
theorem dX5_of_7 : decode cX5_of 7 = .ok (.imul, 1) := by decide +kernel
theorem dX5_of_8 : decode cX5_of 8 = .ok (.iadd, 1) := by decide +kernel
theorem dX5_of_9 : decode cX5_of 9 = .ok (.iload_n 2, 1) := by decide +kernel
theorem dX5_of_10 : decode cX5_of 10 = .ok (.iadd, 1) := by decide +kernel
theorem dX5_of_11 : decode cX5_of 11 = .ok (.iaload, 1) := by decide +kernel
theorem dX5_of_12 : decode cX5_of 12 = .ok (.ireturn, 1) := by decide +kernel
theorem dX5_lays_0 : decode cX5_lays 0 = .ok (.aload_n 0, 1) := by decide +kernel
theorem dX5_lays_1 : decode cX5_lays 1 = .ok (.getfield 7, 3) := by decide +kernel
theorem dX5_lays_4 : decode cX5_lays 4 = .ok (.iconst 1, 1) := by decide +kernel
theorem dX5_lays_5 : decode cX5_lays 5 = .ok (.iconst 4, 1) := by decide +kernel
theorem dX5_lays_6 : decode cX5_lays 6 = .ok (.iload_n 1, 1) := by decide +kernel
theorem dX5_lays_7 : decode cX5_lays 7 = .ok (.imul, 1) := by decide +kernel
theorem dX5_lays_8 : decode cX5_lays 8 = .ok (.iadd, 1) := by decide +kernel
theorem dX5_lays_9 : decode cX5_lays 9 = .ok (.iload_n 2, 1) := by decide +kernel
theorem dX5_lays_10 : decode cX5_lays 10 = .ok (.iadd, 1) := by decide +kernel
theorem dX5_lays_11 : decode cX5_lays 11 = .ok (.iload_n 3, 1) := by decide +kernel
theorem dX5_lays_12 : decode cX5_lays 12 = .ok (.iastore, 1) := by decide +kernel
theorem dX5_lays_13 : decode cX5_lays 13 = .ok (.return_, 1) := by decide +kernel
theorem dX5_isPainted_0 : decode cX5_isPainted 0 = .ok (.aload_n 0, 1) := by decide +kernel
theorem dX5_isPainted_1 : decode cX5_isPainted 1 = .ok (.iload_n 1, 1) := by decide +kernel
theorem dX5_isPainted_2 : decode cX5_isPainted 2 = .ok (.iconst 1, 1) := by decide +kernel
theorem dX5_isPainted_3 : decode cX5_isPainted 3 = .ok (.invokevirtual 63, 3) := by decide +kernel
theorem dX5_isPainted_6 : decode cX5_isPainted 6 = .ok (.ifCond .lt 7, 3) := by decide +kernel
theorem dX5_isPainted_9 : decode cX5_isPainted 9 = .ok (.iconst 1, 1) := by decide +kernel
theorem dX5_isPainted_10 : decode cX5_isPainted 10 = .ok (.goto 4, 3) := by decide +kernel
theorem dX5_isPainted_13 : decode cX5_isPainted 13 = .ok (.iconst 0, 1) := by decide +kernel
theorem dX5_isPainted_14 : decode cX5_isPainted 14 = .ok (.ireturn, 1) := by decide +kernel
theorem dX5_touches_0 : decode cX5_touches 0 = .ok (.aload_n 0, 1) := by decide +kernel
theorem dX5_touches_1 : decode cX5_touches 1 = .ok (.getfield 7, 3) := by decide +kernel
theorem dX5_touches_4 : decode cX5_touches 4 = .ok (.bipush 29, 2) := by decide +kernel
theorem dX5_touches_6 : decode cX5_touches 6 = .ok (.iload_n 1, 1) := by decide +kernel
theorem dX5_touches_7 : decode cX5_touches 7 = .ok (.iadd, 1) := by decide +kernel
theorem dX5_touches_8 : decode cX5_touches 8 = .ok (.iaload, 1) := by decide +kernel
theorem dX5_touches_9 : decode cX5_touches 9 = .ok (.iload_n 2, 1) := by decide +kernel
theorem dX5_touches_10 : decode cX5_touches 10 = .ok (.ishr, 1) := by decide +kernel
theorem dX5_touches_11 : decode cX5_touches 11 = .ok (.iconst 1, 1) := by decide +kernel
theorem dX5_touches_12 : decode cX5_touches 12 = .ok (.iand, 1) := by decide +kernel
theorem dX5_touches_13 : decode cX5_touches 13 = .ok (.iconst 1, 1) := by decide +kernel
theorem dX5_touches_14 : decode cX5_touches 14 = .ok (.if_icmp .ne 7, 3) := by decide +kernel
theorem dX5_touches_17 : decode cX5_touches 17 = .ok (.iconst 1, 1) := by decide +kernel
theorem dX5_touches_18 : decode cX5_touches 18 = .ok (.goto 4, 3) := by decide +kernel
theorem dX5_touches_21 : decode cX5_touches 21 = .ok (.iconst 0, 1) := by decide +kernel
theorem dX5_touches_22 : decode cX5_touches 22 = .ok (.ireturn, 1) := by decide +kernel
theorem dX5_borders_0 : decode cX5_borders 0 = .ok (.iconst 0, 1) := by decide +kernel
theorem dX5_borders_1 : decode cX5_borders 1 = .ok (.istore_n 1, 1) := by decide +kernel
theorem dX5_borders_2 : decode cX5_borders 2 = .ok (.iconst 0, 1) := by decide +kernel
theorem dX5_borders_3 : decode cX5_borders 3 = .ok (.istore_n 2, 1) := by decide +kernel
theorem dX5_borders_4 : decode cX5_borders 4 = .ok (.iload_n 2, 1) := by decide +kernel
theorem dX5_borders_5 : decode cX5_borders 5 = .ok (.aload_n 0, 1) := by decide +kernel
theorem dX5_borders_6 : decode cX5_borders 6 = .ok (.getfield 7, 3) := by decide +kernel
theorem dX5_borders_9 : decode cX5_borders 9 = .ok (.iconst 0, 1) := by decide +kernel
theorem dX5_borders_10 : decode cX5_borders 10 = .ok (.iaload, 1) := by decide +kernel
theorem dX5_borders_11 : decode cX5_borders 11 = .ok (.if_icmp .ge 39, 3) := by decide +kernel
theorem dX5_borders_14 : decode cX5_borders 14 = .ok (.iconst 0, 1) := by decide +kernel
theorem dX5_borders_15 : decode cX5_borders 15 = .ok (.istore_n 3, 1) := by decide +kernel
theorem dX5_borders_16 : decode cX5_borders 16 = .ok (.iload_n 3, 1) := by decide +kernel
theorem dX5_borders_17 : decode cX5_borders 17 = .ok (.iload_n 2, 1) := by decide +kernel
theorem dX5_borders_18 : decode cX5_borders 18 = .ok (.if_icmp .ge 26, 3) := by decide +kernel
theorem dX5_borders_21 : decode cX5_borders 21 = .ok (.iload_n 1, 1) := by decide +kernel
theorem dX5_borders_22 : decode cX5_borders 22 = .ok (.aload_n 0, 1) := by decide +kernel
theorem dX5_borders_23 : decode cX5_borders 23 = .ok (.iload_n 2, 1) := by decide +kernel
theorem dX5_borders_24 : decode cX5_borders 24 = .ok (.iload_n 3, 1) := by decide +kernel
theorem dX5_borders_25 : decode cX5_borders 25 = .ok (.invokevirtual 67, 3) := by decide +kernel
theorem dX5_borders_28 : decode cX5_borders 28 = .ok (.ifCond .eq 7, 3) := by decide +kernel
theorem dX5_borders_31 : decode cX5_borders 31 = .ok (.iconst 1, 1) := by decide +kernel
theorem dX5_borders_32 : decode cX5_borders 32 = .ok (.goto 4, 3) := by decide +kernel
theorem dX5_borders_35 : decode cX5_borders 35 = .ok (.iconst 0, 1) := by decide +kernel
theorem dX5_borders_36 : decode cX5_borders 36 = .ok (.iadd, 1) := by decide +kernel
theorem dX5_borders_37 : decode cX5_borders 37 = .ok (.istore_n 1, 1) := by decide +kernel
theorem dX5_borders_38 : decode cX5_borders 38 = .ok (.iinc 3 1, 3) := by decide +kernel
theorem dX5_borders_41 : decode cX5_borders 41 = .ok (.goto (-25), 3) := by decide +kernel
theorem dX5_borders_44 : decode cX5_borders 44 = .ok (.iinc 2 1, 3) := by decide +kernel
theorem dX5_borders_47 : decode cX5_borders 47 = .ok (.goto (-43), 3) := by decide +kernel
theorem dX5_borders_50 : decode cX5_borders 50 = .ok (.iload_n 1, 1) := by decide +kernel
theorem dX5_borders_51 : decode cX5_borders 51 = .ok (.ireturn, 1) := by decide +kernel
theorem dX5_country_0 : decode cX5_country 0 = .ok (.aload_n 0, 1) := by decide +kernel
theorem dX5_country_1 : decode cX5_country 1 = .ok (.iload_n 1, 1) := by decide +kernel
theorem dX5_country_2 : decode cX5_country 2 = .ok (.iconst 1, 1) := by decide +kernel
theorem dX5_country_3 : decode cX5_country 3 = .ok (.bipush 9, 2) := by decide +kernel
theorem dX5_country_5 : decode cX5_country 5 = .ok (.invokestatic 59, 3) := by decide +kernel
theorem dX5_country_8 : decode cX5_country 8 = .ok (.ifCond .eq 7, 3) := by decide +kernel
theorem dX5_country_11 : decode cX5_country 11 = .ok (.iconst 0, 1) := by decide +kernel
theorem dX5_country_12 : decode cX5_country 12 = .ok (.goto 4, 3) := by decide +kernel
theorem dX5_country_15 : decode cX5_country 15 = .ok (.iconst 1, 1) := by decide +kernel
theorem dX5_country_16 : decode cX5_country 16 = .ok (.invokevirtual 71, 3) := by decide +kernel
theorem dX5_country_19 : decode cX5_country 19 = .ok (.ifCond .eq 5, 3) := by decide +kernel
theorem dX5_country_22 : decode cX5_country 22 = .ok (.iconst 0, 1) := by decide +kernel
theorem dX5_country_23 : decode cX5_country 23 = .ok (.ireturn, 1) := by decide +kernel
theorem dX5_country_24 : decode cX5_country 24 = .ok (.aload_n 0, 1) := by decide +kernel
theorem dX5_country_25 : decode cX5_country 25 = .ok (.getfield 7, 3) := by decide +kernel
theorem dX5_country_28 : decode cX5_country 28 = .ok (.iconst 0, 1) := by decide +kernel
theorem dX5_country_29 : decode cX5_country 29 = .ok (.iaload, 1) := by decide +kernel
theorem dX5_country_30 : decode cX5_country 30 = .ok (.bipush 7, 2) := by decide +kernel
theorem dX5_country_32 : decode cX5_country 32 = .ok (.if_icmp .ne 12, 3) := by decide +kernel
theorem dX5_country_35 : decode cX5_country 35 = .ok (.aload_n 0, 1) := by decide +kernel
theorem dX5_country_36 : decode cX5_country 36 = .ok (.iconst 2, 1) := by decide +kernel
theorem dX5_country_37 : decode cX5_country 37 = .ok (.iconst 1, 1) := by decide +kernel
theorem dX5_country_38 : decode cX5_country 38 = .ok (.bipush 7, 2) := by decide +kernel
theorem dX5_country_40 : decode cX5_country 40 = .ok (.invokevirtual 75, 3) := by decide +kernel
theorem dX5_country_43 : decode cX5_country 43 = .ok (.ireturn, 1) := by decide +kernel
theorem dX5_country_44 : decode cX5_country 44 = .ok (.aload_n 0, 1) := by decide +kernel
theorem dX5_country_45 : decode cX5_country 45 = .ok (.aload_n 0, 1) := by decide +kernel
theorem dX5_country_46 : decode cX5_country 46 = .ok (.getfield 7, 3) := by decide +kernel
theorem dX5_country_49 : decode cX5_country 49 = .ok (.invokevirtual 79, 3) := by decide +kernel
theorem dX5_country_52 : decode cX5_country 52 = .ok (.aload_n 0, 1) := by decide +kernel
theorem dX5_country_53 : decode cX5_country 53 = .ok (.getfield 7, 3) := by decide +kernel
theorem dX5_country_56 : decode cX5_country 56 = .ok (.iconst 0, 1) := by decide +kernel
theorem dX5_country_57 : decode cX5_country 57 = .ok (.iaload, 1) := by decide +kernel
theorem dX5_country_58 : decode cX5_country 58 = .ok (.istore_n 2, 1) := by decide +kernel
theorem dX5_country_59 : decode cX5_country 59 = .ok (.aload_n 0, 1) := by decide +kernel
theorem dX5_country_60 : decode cX5_country 60 = .ok (.getfield 7, 3) := by decide +kernel
theorem dX5_country_63 : decode cX5_country 63 = .ok (.iconst 0, 1) := by decide +kernel
theorem dX5_country_64 : decode cX5_country 64 = .ok (.dup2, 1) := by decide +kernel
theorem dX5_country_65 : decode cX5_country 65 = .ok (.iaload, 1) := by decide +kernel
theorem dX5_country_66 : decode cX5_country 66 = .ok (.iconst 1, 1) := by decide +kernel
theorem dX5_country_67 : decode cX5_country 67 = .ok (.iadd, 1) := by decide +kernel
theorem dX5_country_68 : decode cX5_country 68 = .ok (.iastore, 1) := by decide +kernel
theorem dX5_country_69 : decode cX5_country 69 = .ok (.aload_n 0, 1) := by decide +kernel
theorem dX5_country_70 : decode cX5_country 70 = .ok (.iload_n 2, 1) := by decide +kernel
theorem dX5_country_71 : decode cX5_country 71 = .ok (.iconst 0, 1) := by decide +kernel
theorem dX5_country_72 : decode cX5_country 72 = .ok (.iload_n 1, 1) := by decide +kernel
theorem dX5_country_73 : decode cX5_country 73 = .ok (.invokevirtual 83, 3) := by decide +kernel
theorem dX5_country_76 : decode cX5_country 76 = .ok (.aload_n 0, 1) := by decide +kernel
theorem dX5_country_77 : decode cX5_country 77 = .ok (.iload_n 2, 1) := by decide +kernel
theorem dX5_country_78 : decode cX5_country 78 = .ok (.iconst 1, 1) := by decide +kernel
theorem dX5_country_79 : decode cX5_country 79 = .ok (.iconst (-1), 1) := by decide +kernel
theorem dX5_country_80 : decode cX5_country 80 = .ok (.invokevirtual 83, 3) := by decide +kernel
theorem dX5_country_83 : decode cX5_country 83 = .ok (.aload_n 0, 1) := by decide +kernel
theorem dX5_country_84 : decode cX5_country 84 = .ok (.iload_n 2, 1) := by decide +kernel
theorem dX5_country_85 : decode cX5_country 85 = .ok (.iconst 2, 1) := by decide +kernel
theorem dX5_country_86 : decode cX5_country 86 = .ok (.iconst (-1), 1) := by decide +kernel
theorem dX5_country_87 : decode cX5_country 87 = .ok (.invokevirtual 83, 3) := by decide +kernel
theorem dX5_country_90 : decode cX5_country 90 = .ok (.aload_n 0, 1) := by decide +kernel
theorem dX5_country_91 : decode cX5_country 91 = .ok (.iload_n 2, 1) := by decide +kernel
theorem dX5_country_92 : decode cX5_country 92 = .ok (.iconst 3, 1) := by decide +kernel
theorem dX5_country_93 : decode cX5_country 93 = .ok (.iconst 0, 1) := by decide +kernel
theorem dX5_country_94 : decode cX5_country 94 = .ok (.invokevirtual 83, 3) := by decide +kernel
theorem dX5_country_97 : decode cX5_country 97 = .ok (.aload_n 0, 1) := by decide +kernel
theorem dX5_country_98 : decode cX5_country 98 = .ok (.getfield 7, 3) := by decide +kernel
theorem dX5_country_101 : decode cX5_country 101 = .ok (.bipush 29, 2) := by decide +kernel
theorem dX5_country_103 : decode cX5_country 103 = .ok (.iload_n 2, 1) := by decide +kernel
theorem dX5_country_104 : decode cX5_country 104 = .ok (.iadd, 1) := by decide +kernel
theorem dX5_country_105 : decode cX5_country 105 = .ok (.iconst 0, 1) := by decide +kernel
theorem dX5_country_106 : decode cX5_country 106 = .ok (.iastore, 1) := by decide +kernel
theorem dX5_country_107 : decode cX5_country 107 = .ok (.iload_n 2, 1) := by decide +kernel
theorem dX5_country_108 : decode cX5_country 108 = .ok (.ireturn, 1) := by decide +kernel
theorem dX5_border_0 : decode cX5_border 0 = .ok (.aload_n 0, 1) := by decide +kernel
theorem dX5_border_1 : decode cX5_border 1 = .ok (.aload_n 0, 1) := by decide +kernel
theorem dX5_border_2 : decode cX5_border 2 = .ok (.iload_n 1, 1) := by decide +kernel
theorem dX5_border_3 : decode cX5_border 3 = .ok (.invokevirtual 87, 3) := by decide +kernel
theorem dX5_border_6 : decode cX5_border 6 = .ok (.ifCond .eq 15, 3) := by decide +kernel
theorem dX5_border_9 : decode cX5_border 9 = .ok (.aload_n 0, 1) := by decide +kernel
theorem dX5_border_10 : decode cX5_border 10 = .ok (.iload_n 2, 1) := by decide +kernel
theorem dX5_border_11 : decode cX5_border 11 = .ok (.invokevirtual 87, 3) := by decide +kernel
theorem dX5_border_14 : decode cX5_border 14 = .ok (.ifCond .eq 7, 3) := by decide +kernel
theorem dX5_border_17 : decode cX5_border 17 = .ok (.iconst 0, 1) := by decide +kernel
theorem dX5_border_18 : decode cX5_border 18 = .ok (.goto 4, 3) := by decide +kernel
theorem dX5_border_21 : decode cX5_border 21 = .ok (.iconst 1, 1) := by decide +kernel
theorem dX5_border_22 : decode cX5_border 22 = .ok (.invokevirtual 71, 3) := by decide +kernel
theorem dX5_border_25 : decode cX5_border 25 = .ok (.ifCond .eq 5, 3) := by decide +kernel
theorem dX5_border_28 : decode cX5_border 28 = .ok (.iconst 0, 1) := by decide +kernel
theorem dX5_border_29 : decode cX5_border 29 = .ok (.ireturn, 1) := by decide +kernel
theorem dX5_border_30 : decode cX5_border 30 = .ok (.iload_n 1, 1) := by decide +kernel
theorem dX5_border_31 : decode cX5_border 31 = .ok (.iload_n 2, 1) := by decide +kernel
theorem dX5_border_32 : decode cX5_border 32 = .ok (.if_icmp .ne 11, 3) := by decide +kernel
theorem dX5_border_35 : decode cX5_border 35 = .ok (.aload_n 0, 1) := by decide +kernel
theorem dX5_border_36 : decode cX5_border 36 = .ok (.iconst 2, 1) := by decide +kernel
theorem dX5_border_37 : decode cX5_border 37 = .ok (.iconst 5, 1) := by decide +kernel
theorem dX5_border_38 : decode cX5_border 38 = .ok (.iload_n 1, 1) := by decide +kernel
theorem dX5_border_39 : decode cX5_border 39 = .ok (.invokevirtual 75, 3) := by decide +kernel
theorem dX5_border_42 : decode cX5_border 42 = .ok (.ireturn, 1) := by decide +kernel
theorem dX5_border_43 : decode cX5_border 43 = .ok (.aload_n 0, 1) := by decide +kernel
theorem dX5_border_44 : decode cX5_border 44 = .ok (.iload_n 1, 1) := by decide +kernel
theorem dX5_border_45 : decode cX5_border 45 = .ok (.iload_n 2, 1) := by decide +kernel
theorem dX5_border_46 : decode cX5_border 46 = .ok (.invokevirtual 67, 3) := by decide +kernel
theorem dX5_border_49 : decode cX5_border 49 = .ok (.ifCond .eq 12, 3) := by decide +kernel
theorem dX5_border_52 : decode cX5_border 52 = .ok (.aload_n 0, 1) := by decide +kernel
theorem dX5_border_53 : decode cX5_border 53 = .ok (.iconst 2, 1) := by decide +kernel
theorem dX5_border_54 : decode cX5_border 54 = .ok (.bipush 6, 2) := by decide +kernel
theorem dX5_border_56 : decode cX5_border 56 = .ok (.iload_n 2, 1) := by decide +kernel
theorem dX5_border_57 : decode cX5_border 57 = .ok (.invokevirtual 75, 3) := by decide +kernel
theorem dX5_border_60 : decode cX5_border 60 = .ok (.ireturn, 1) := by decide +kernel
theorem dX5_border_61 : decode cX5_border 61 = .ok (.aload_n 0, 1) := by decide +kernel
theorem dX5_border_62 : decode cX5_border 62 = .ok (.iload_n 1, 1) := by decide +kernel
theorem dX5_border_63 : decode cX5_border 63 = .ok (.invokevirtual 90, 3) := by decide +kernel
theorem dX5_border_66 : decode cX5_border 66 = .ok (.ifCond .eq 32, 3) := by decide +kernel
theorem dX5_border_69 : decode cX5_border 69 = .ok (.aload_n 0, 1) := by decide +kernel
theorem dX5_border_70 : decode cX5_border 70 = .ok (.iload_n 1, 1) := by decide +kernel
theorem dX5_border_71 : decode cX5_border 71 = .ok (.iconst 1, 1) := by decide +kernel
theorem dX5_border_72 : decode cX5_border 72 = .ok (.invokevirtual 63, 3) := by decide +kernel
theorem dX5_border_75 : decode cX5_border 75 = .ok (.aload_n 0, 1) := by decide +kernel
theorem dX5_border_76 : decode cX5_border 76 = .ok (.iload_n 2, 1) := by decide +kernel
theorem dX5_border_77 : decode cX5_border 77 = .ok (.iconst 1, 1) := by decide +kernel
theorem dX5_border_78 : decode cX5_border 78 = .ok (.invokevirtual 63, 3) := by decide +kernel
theorem dX5_border_81 : decode cX5_border 81 = .ok (.if_icmp .ne 17, 3) := by decide +kernel
theorem dX5_border_84 : decode cX5_border 84 = .ok (.aload_n 0, 1) := by decide +kernel
theorem dX5_border_85 : decode cX5_border 85 = .ok (.iconst 2, 1) := by decide +kernel
theorem dX5_border_86 : decode cX5_border 86 = .ok (.bipush 7, 2) := by decide +kernel
theorem dX5_border_88 : decode cX5_border 88 = .ok (.aload_n 0, 1) := by decide +kernel
theorem dX5_border_89 : decode cX5_border 89 = .ok (.iload_n 1, 1) := by decide +kernel
theorem dX5_border_90 : decode cX5_border 90 = .ok (.iconst 1, 1) := by decide +kernel
theorem dX5_border_91 : decode cX5_border 91 = .ok (.invokevirtual 63, 3) := by decide +kernel
theorem dX5_border_94 : decode cX5_border 94 = .ok (.invokevirtual 75, 3) := by decide +kernel
theorem dX5_border_97 : decode cX5_border 97 = .ok (.ireturn, 1) := by decide +kernel
theorem dX5_border_98 : decode cX5_border 98 = .ok (.aload_n 0, 1) := by decide +kernel
theorem dX5_border_99 : decode cX5_border 99 = .ok (.aload_n 0, 1) := by decide +kernel
theorem dX5_border_100 : decode cX5_border 100 = .ok (.getfield 7, 3) := by decide +kernel
theorem dX5_border_103 : decode cX5_border 103 = .ok (.invokevirtual 79, 3) := by decide +kernel
theorem dX5_border_106 : decode cX5_border 106 = .ok (.aload_n 0, 1) := by decide +kernel
theorem dX5_border_107 : decode cX5_border 107 = .ok (.getfield 7, 3) := by decide +kernel
theorem dX5_border_110 : decode cX5_border 110 = .ok (.bipush 29, 2) := by decide +kernel
theorem dX5_border_112 : decode cX5_border 112 = .ok (.iload_n 1, 1) := by decide +kernel
theorem dX5_border_113 : decode cX5_border 113 = .ok (.iadd, 1) := by decide +kernel
theorem dX5_border_114 : decode cX5_border 114 = .ok (.dup2, 1) := by decide +kernel
theorem dX5_border_115 : decode cX5_border 115 = .ok (.iaload, 1) := by decide +kernel
theorem dX5_border_116 : decode cX5_border 116 = .ok (.iconst 1, 1) := by decide +kernel
theorem dX5_border_117 : decode cX5_border 117 = .ok (.iload_n 2, 1) := by decide +kernel
theorem dX5_border_118 : decode cX5_border 118 = .ok (.ishl, 1) := by decide +kernel
theorem dX5_border_119 : decode cX5_border 119 = .ok (.ior, 1) := by decide +kernel
theorem dX5_border_120 : decode cX5_border 120 = .ok (.iastore, 1) := by decide +kernel
theorem dX5_border_121 : decode cX5_border 121 = .ok (.aload_n 0, 1) := by decide +kernel
theorem dX5_border_122 : decode cX5_border 122 = .ok (.getfield 7, 3) := by decide +kernel
theorem dX5_border_125 : decode cX5_border 125 = .ok (.bipush 29, 2) := by decide +kernel
theorem dX5_border_127 : decode cX5_border 127 = .ok (.iload_n 2, 1) := by decide +kernel
theorem dX5_border_128 : decode cX5_border 128 = .ok (.iadd, 1) := by decide +kernel
theorem dX5_border_129 : decode cX5_border 129 = .ok (.dup2, 1) := by decide +kernel
theorem dX5_border_130 : decode cX5_border 130 = .ok (.iaload, 1) := by decide +kernel
theorem dX5_border_131 : decode cX5_border 131 = .ok (.iconst 1, 1) := by decide +kernel
theorem dX5_border_132 : decode cX5_border 132 = .ok (.iload_n 1, 1) := by decide +kernel
theorem dX5_border_133 : decode cX5_border 133 = .ok (.ishl, 1) := by decide +kernel
theorem dX5_border_134 : decode cX5_border 134 = .ok (.ior, 1) := by decide +kernel
theorem dX5_border_135 : decode cX5_border 135 = .ok (.iastore, 1) := by decide +kernel
theorem dX5_border_136 : decode cX5_border 136 = .ok (.aload_n 0, 1) := by decide +kernel
theorem dX5_border_137 : decode cX5_border 137 = .ok (.invokevirtual 93, 3) := by decide +kernel
theorem dX5_border_140 : decode cX5_border 140 = .ok (.ireturn, 1) := by decide +kernel
theorem dX5_erase_0 : decode cX5_erase 0 = .ok (.aload_n 0, 1) := by decide +kernel
theorem dX5_erase_1 : decode cX5_erase 1 = .ok (.aload_n 0, 1) := by decide +kernel
theorem dX5_erase_2 : decode cX5_erase 2 = .ok (.iload_n 1, 1) := by decide +kernel
theorem dX5_erase_3 : decode cX5_erase 3 = .ok (.invokevirtual 87, 3) := by decide +kernel
theorem dX5_erase_6 : decode cX5_erase 6 = .ok (.ifCond .eq 15, 3) := by decide +kernel
theorem dX5_erase_9 : decode cX5_erase 9 = .ok (.aload_n 0, 1) := by decide +kernel
theorem dX5_erase_10 : decode cX5_erase 10 = .ok (.iload_n 2, 1) := by decide +kernel
theorem dX5_erase_11 : decode cX5_erase 11 = .ok (.invokevirtual 87, 3) := by decide +kernel
theorem dX5_erase_14 : decode cX5_erase 14 = .ok (.ifCond .eq 7, 3) := by decide +kernel
theorem dX5_erase_17 : decode cX5_erase 17 = .ok (.iconst 0, 1) := by decide +kernel
theorem dX5_erase_18 : decode cX5_erase 18 = .ok (.goto 4, 3) := by decide +kernel
theorem dX5_erase_21 : decode cX5_erase 21 = .ok (.iconst 1, 1) := by decide +kernel
theorem dX5_erase_22 : decode cX5_erase 22 = .ok (.invokevirtual 71, 3) := by decide +kernel
theorem dX5_erase_25 : decode cX5_erase 25 = .ok (.ifCond .eq 5, 3) := by decide +kernel
theorem dX5_erase_28 : decode cX5_erase 28 = .ok (.iconst 0, 1) := by decide +kernel
theorem dX5_erase_29 : decode cX5_erase 29 = .ok (.ireturn, 1) := by decide +kernel
theorem dX5_erase_30 : decode cX5_erase 30 = .ok (.iload_n 1, 1) := by decide +kernel
theorem dX5_erase_31 : decode cX5_erase 31 = .ok (.iload_n 2, 1) := by decide +kernel
theorem dX5_erase_32 : decode cX5_erase 32 = .ok (.if_icmp .ne 11, 3) := by decide +kernel
theorem dX5_erase_35 : decode cX5_erase 35 = .ok (.aload_n 0, 1) := by decide +kernel
theorem dX5_erase_36 : decode cX5_erase 36 = .ok (.iconst 2, 1) := by decide +kernel
theorem dX5_erase_37 : decode cX5_erase 37 = .ok (.iconst 5, 1) := by decide +kernel
theorem dX5_erase_38 : decode cX5_erase 38 = .ok (.iload_n 1, 1) := by decide +kernel
theorem dX5_erase_39 : decode cX5_erase 39 = .ok (.invokevirtual 75, 3) := by decide +kernel
theorem dX5_erase_42 : decode cX5_erase 42 = .ok (.ireturn, 1) := by decide +kernel
theorem dX5_erase_43 : decode cX5_erase 43 = .ok (.aload_n 0, 1) := by decide +kernel
theorem dX5_erase_44 : decode cX5_erase 44 = .ok (.iload_n 1, 1) := by decide +kernel
theorem dX5_erase_45 : decode cX5_erase 45 = .ok (.iload_n 2, 1) := by decide +kernel
theorem dX5_erase_46 : decode cX5_erase 46 = .ok (.invokevirtual 67, 3) := by decide +kernel
theorem dX5_erase_49 : decode cX5_erase 49 = .ok (.ifCond .ne 12, 3) := by decide +kernel
theorem dX5_erase_52 : decode cX5_erase 52 = .ok (.aload_n 0, 1) := by decide +kernel
theorem dX5_erase_53 : decode cX5_erase 53 = .ok (.iconst 2, 1) := by decide +kernel
theorem dX5_erase_54 : decode cX5_erase 54 = .ok (.bipush 6, 2) := by decide +kernel
theorem dX5_erase_56 : decode cX5_erase 56 = .ok (.iload_n 2, 1) := by decide +kernel
theorem dX5_erase_57 : decode cX5_erase 57 = .ok (.invokevirtual 75, 3) := by decide +kernel
theorem dX5_erase_60 : decode cX5_erase 60 = .ok (.ireturn, 1) := by decide +kernel
theorem dX5_erase_61 : decode cX5_erase 61 = .ok (.aload_n 0, 1) := by decide +kernel
theorem dX5_erase_62 : decode cX5_erase 62 = .ok (.aload_n 0, 1) := by decide +kernel
theorem dX5_erase_63 : decode cX5_erase 63 = .ok (.getfield 7, 3) := by decide +kernel
theorem dX5_erase_66 : decode cX5_erase 66 = .ok (.invokevirtual 79, 3) := by decide +kernel
theorem dX5_erase_69 : decode cX5_erase 69 = .ok (.aload_n 0, 1) := by decide +kernel
theorem dX5_erase_70 : decode cX5_erase 70 = .ok (.getfield 7, 3) := by decide +kernel
theorem dX5_erase_73 : decode cX5_erase 73 = .ok (.bipush 29, 2) := by decide +kernel
theorem dX5_erase_75 : decode cX5_erase 75 = .ok (.iload_n 1, 1) := by decide +kernel
theorem dX5_erase_76 : decode cX5_erase 76 = .ok (.iadd, 1) := by decide +kernel
theorem dX5_erase_77 : decode cX5_erase 77 = .ok (.dup2, 1) := by decide +kernel
theorem dX5_erase_78 : decode cX5_erase 78 = .ok (.iaload, 1) := by decide +kernel
theorem dX5_erase_79 : decode cX5_erase 79 = .ok (.iconst 1, 1) := by decide +kernel
theorem dX5_erase_80 : decode cX5_erase 80 = .ok (.iload_n 2, 1) := by decide +kernel
theorem dX5_erase_81 : decode cX5_erase 81 = .ok (.ishl, 1) := by decide +kernel
theorem dX5_erase_82 : decode cX5_erase 82 = .ok (.iconst (-1), 1) := by decide +kernel
theorem dX5_erase_83 : decode cX5_erase 83 = .ok (.ixor, 1) := by decide +kernel
theorem dX5_erase_84 : decode cX5_erase 84 = .ok (.iand, 1) := by decide +kernel
theorem dX5_erase_85 : decode cX5_erase 85 = .ok (.iastore, 1) := by decide +kernel
theorem dX5_erase_86 : decode cX5_erase 86 = .ok (.aload_n 0, 1) := by decide +kernel
theorem dX5_erase_87 : decode cX5_erase 87 = .ok (.getfield 7, 3) := by decide +kernel
theorem dX5_erase_90 : decode cX5_erase 90 = .ok (.bipush 29, 2) := by decide +kernel
theorem dX5_erase_92 : decode cX5_erase 92 = .ok (.iload_n 2, 1) := by decide +kernel
theorem dX5_erase_93 : decode cX5_erase 93 = .ok (.iadd, 1) := by decide +kernel
theorem dX5_erase_94 : decode cX5_erase 94 = .ok (.dup2, 1) := by decide +kernel
theorem dX5_erase_95 : decode cX5_erase 95 = .ok (.iaload, 1) := by decide +kernel
theorem dX5_erase_96 : decode cX5_erase 96 = .ok (.iconst 1, 1) := by decide +kernel
theorem dX5_erase_97 : decode cX5_erase 97 = .ok (.iload_n 1, 1) := by decide +kernel
theorem dX5_erase_98 : decode cX5_erase 98 = .ok (.ishl, 1) := by decide +kernel
theorem dX5_erase_99 : decode cX5_erase 99 = .ok (.iconst (-1), 1) := by decide +kernel
theorem dX5_erase_100 : decode cX5_erase 100 = .ok (.ixor, 1) := by decide +kernel
theorem dX5_erase_101 : decode cX5_erase 101 = .ok (.iand, 1) := by decide +kernel
theorem dX5_erase_102 : decode cX5_erase 102 = .ok (.iastore, 1) := by decide +kernel
theorem dX5_erase_103 : decode cX5_erase 103 = .ok (.aload_n 0, 1) := by decide +kernel
theorem dX5_erase_104 : decode cX5_erase 104 = .ok (.invokevirtual 93, 3) := by decide +kernel
theorem dX5_erase_107 : decode cX5_erase 107 = .ok (.ireturn, 1) := by decide +kernel
theorem dX5_hasBorder_0 : decode cX5_hasBorder 0 = .ok (.aload_n 0, 1) := by decide +kernel
theorem dX5_hasBorder_1 : decode cX5_hasBorder 1 = .ok (.aload_n 0, 1) := by decide +kernel
theorem dX5_hasBorder_2 : decode cX5_hasBorder 2 = .ok (.iload_n 1, 1) := by decide +kernel
theorem dX5_hasBorder_3 : decode cX5_hasBorder 3 = .ok (.invokevirtual 87, 3) := by decide +kernel
theorem dX5_hasBorder_6 : decode cX5_hasBorder 6 = .ok (.ifCond .eq 15, 3) := by decide +kernel
theorem dX5_hasBorder_9 : decode cX5_hasBorder 9 = .ok (.aload_n 0, 1) := by decide +kernel
theorem dX5_hasBorder_10 : decode cX5_hasBorder 10 = .ok (.iload_n 2, 1) := by decide +kernel
theorem dX5_hasBorder_11 : decode cX5_hasBorder 11 = .ok (.invokevirtual 87, 3) := by decide +kernel
theorem dX5_hasBorder_14 : decode cX5_hasBorder 14 = .ok (.ifCond .eq 7, 3) := by decide +kernel
theorem dX5_hasBorder_17 : decode cX5_hasBorder 17 = .ok (.iconst 0, 1) := by decide +kernel
theorem dX5_hasBorder_18 : decode cX5_hasBorder 18 = .ok (.goto 4, 3) := by decide +kernel
theorem dX5_hasBorder_21 : decode cX5_hasBorder 21 = .ok (.iconst 1, 1) := by decide +kernel
theorem dX5_hasBorder_22 : decode cX5_hasBorder 22 = .ok (.invokevirtual 71, 3) := by decide +kernel
theorem dX5_hasBorder_25 : decode cX5_hasBorder 25 = .ok (.ifCond .ne 16, 3) := by decide +kernel
theorem dX5_hasBorder_28 : decode cX5_hasBorder 28 = .ok (.aload_n 0, 1) := by decide +kernel
theorem dX5_hasBorder_29 : decode cX5_hasBorder 29 = .ok (.iload_n 1, 1) := by decide +kernel
theorem dX5_hasBorder_30 : decode cX5_hasBorder 30 = .ok (.iload_n 2, 1) := by decide +kernel
theorem dX5_hasBorder_31 : decode cX5_hasBorder 31 = .ok (.invokevirtual 67, 3) := by decide +kernel
theorem dX5_hasBorder_34 : decode cX5_hasBorder 34 = .ok (.ifCond .eq 7, 3) := by decide +kernel
theorem dX5_hasBorder_37 : decode cX5_hasBorder 37 = .ok (.iconst 1, 1) := by decide +kernel
theorem dX5_hasBorder_38 : decode cX5_hasBorder 38 = .ok (.goto 4, 3) := by decide +kernel
theorem dX5_hasBorder_41 : decode cX5_hasBorder 41 = .ok (.iconst 0, 1) := by decide +kernel
theorem dX5_hasBorder_42 : decode cX5_hasBorder 42 = .ok (.ireturn, 1) := by decide +kernel
theorem dX5_neighbourIn_0 : decode cX5_neighbourIn 0 = .ok (.iconst 0, 1) := by decide +kernel
theorem dX5_neighbourIn_1 : decode cX5_neighbourIn 1 = .ok (.istore_n 3, 1) := by decide +kernel
theorem dX5_neighbourIn_2 : decode cX5_neighbourIn 2 = .ok (.iload_n 3, 1) := by decide +kernel
theorem dX5_neighbourIn_3 : decode cX5_neighbourIn 3 = .ok (.aload_n 0, 1) := by decide +kernel
theorem dX5_neighbourIn_4 : decode cX5_neighbourIn 4 = .ok (.getfield 7, 3) := by decide +kernel
theorem dX5_neighbourIn_7 : decode cX5_neighbourIn 7 = .ok (.iconst 0, 1) := by decide +kernel
theorem dX5_neighbourIn_8 : decode cX5_neighbourIn 8 = .ok (.iaload, 1) := by decide +kernel
theorem dX5_neighbourIn_9 : decode cX5_neighbourIn 9 = .ok (.if_icmp .ge 30, 3) := by decide +kernel
theorem dX5_neighbourIn_12 : decode cX5_neighbourIn 12 = .ok (.aload_n 0, 1) := by decide +kernel
theorem dX5_neighbourIn_13 : decode cX5_neighbourIn 13 = .ok (.iload_n 1, 1) := by decide +kernel
theorem dX5_neighbourIn_14 : decode cX5_neighbourIn 14 = .ok (.iload_n 3, 1) := by decide +kernel
theorem dX5_neighbourIn_15 : decode cX5_neighbourIn 15 = .ok (.invokevirtual 67, 3) := by decide +kernel
theorem dX5_neighbourIn_18 : decode cX5_neighbourIn 18 = .ok (.ifCond .eq 15, 3) := by decide +kernel
theorem dX5_neighbourIn_21 : decode cX5_neighbourIn 21 = .ok (.aload_n 0, 1) := by decide +kernel
theorem dX5_neighbourIn_22 : decode cX5_neighbourIn 22 = .ok (.iload_n 3, 1) := by decide +kernel
theorem dX5_neighbourIn_23 : decode cX5_neighbourIn 23 = .ok (.iconst 1, 1) := by decide +kernel
theorem dX5_neighbourIn_24 : decode cX5_neighbourIn 24 = .ok (.invokevirtual 63, 3) := by decide +kernel
theorem dX5_neighbourIn_27 : decode cX5_neighbourIn 27 = .ok (.iload_n 2, 1) := by decide +kernel
theorem dX5_neighbourIn_28 : decode cX5_neighbourIn 28 = .ok (.if_icmp .ne 5, 3) := by decide +kernel
theorem dX5_neighbourIn_31 : decode cX5_neighbourIn 31 = .ok (.iload_n 3, 1) := by decide +kernel
theorem dX5_neighbourIn_32 : decode cX5_neighbourIn 32 = .ok (.ireturn, 1) := by decide +kernel
theorem dX5_neighbourIn_33 : decode cX5_neighbourIn 33 = .ok (.iinc 3 1, 3) := by decide +kernel
theorem dX5_neighbourIn_36 : decode cX5_neighbourIn 36 = .ok (.goto (-34), 3) := by decide +kernel
theorem dX5_neighbourIn_39 : decode cX5_neighbourIn 39 = .ok (.iconst (-1), 1) := by decide +kernel
theorem dX5_neighbourIn_40 : decode cX5_neighbourIn 40 = .ok (.ireturn, 1) := by decide +kernel
theorem dX5_isFree_0 : decode cX5_isFree 0 = .ok (.aload_n 0, 1) := by decide +kernel
theorem dX5_isFree_1 : decode cX5_isFree 1 = .ok (.iload_n 1, 1) := by decide +kernel
theorem dX5_isFree_2 : decode cX5_isFree 2 = .ok (.invokevirtual 90, 3) := by decide +kernel
theorem dX5_isFree_5 : decode cX5_isFree 5 = .ok (.ifCond .ne 45, 3) := by decide +kernel
theorem dX5_isFree_8 : decode cX5_isFree 8 = .ok (.iload_n 2, 1) := by decide +kernel
theorem dX5_isFree_9 : decode cX5_isFree 9 = .ok (.aload_n 0, 1) := by decide +kernel
theorem dX5_isFree_10 : decode cX5_isFree 10 = .ok (.getfield 7, 3) := by decide +kernel
theorem dX5_isFree_13 : decode cX5_isFree 13 = .ok (.bipush 36, 2) := by decide +kernel
theorem dX5_isFree_15 : decode cX5_isFree 15 = .ok (.iaload, 1) := by decide +kernel
theorem dX5_isFree_16 : decode cX5_isFree 16 = .ok (.if_icmp .ge 34, 3) := by decide +kernel
theorem dX5_isFree_19 : decode cX5_isFree 19 = .ok (.aload_n 0, 1) := by decide +kernel
theorem dX5_isFree_20 : decode cX5_isFree 20 = .ok (.iload_n 1, 1) := by decide +kernel
theorem dX5_isFree_21 : decode cX5_isFree 21 = .ok (.iload_n 2, 1) := by decide +kernel
theorem dX5_isFree_22 : decode cX5_isFree 22 = .ok (.invokevirtual 97, 3) := by decide +kernel
theorem dX5_isFree_25 : decode cX5_isFree 25 = .ok (.ifCond .ge 25, 3) := by decide +kernel
theorem dX5_isFree_28 : decode cX5_isFree 28 = .ok (.aload_n 0, 1) := by decide +kernel
theorem dX5_isFree_29 : decode cX5_isFree 29 = .ok (.getfield 7, 3) := by decide +kernel
theorem dX5_isFree_32 : decode cX5_isFree 32 = .ok (.bipush 37, 2) := by decide +kernel
theorem dX5_isFree_34 : decode cX5_isFree 34 = .ok (.iload_n 2, 1) := by decide +kernel
theorem dX5_isFree_35 : decode cX5_isFree 35 = .ok (.iadd, 1) := by decide +kernel
theorem dX5_isFree_36 : decode cX5_isFree 36 = .ok (.iaload, 1) := by decide +kernel
theorem dX5_isFree_37 : decode cX5_isFree 37 = .ok (.aload_n 0, 1) := by decide +kernel
theorem dX5_isFree_38 : decode cX5_isFree 38 = .ok (.iload_n 1, 1) := by decide +kernel
theorem dX5_isFree_39 : decode cX5_isFree 39 = .ok (.iconst 0, 1) := by decide +kernel
theorem dX5_isFree_40 : decode cX5_isFree 40 = .ok (.invokevirtual 63, 3) := by decide +kernel
theorem dX5_isFree_43 : decode cX5_isFree 43 = .ok (.if_icmp .lt 7, 3) := by decide +kernel
theorem dX5_isFree_46 : decode cX5_isFree 46 = .ok (.iconst 1, 1) := by decide +kernel
theorem dX5_isFree_47 : decode cX5_isFree 47 = .ok (.goto 4, 3) := by decide +kernel
theorem dX5_isFree_50 : decode cX5_isFree 50 = .ok (.iconst 0, 1) := by decide +kernel
theorem dX5_isFree_51 : decode cX5_isFree 51 = .ok (.ireturn, 1) := by decide +kernel
theorem dX5_freeMany_0 : decode cX5_freeMany 0 = .ok (.iconst 0, 1) := by decide +kernel
theorem dX5_freeMany_1 : decode cX5_freeMany 1 = .ok (.istore_n 2, 1) := by decide +kernel
theorem dX5_freeMany_2 : decode cX5_freeMany 2 = .ok (.iconst 0, 1) := by decide +kernel
theorem dX5_freeMany_3 : decode cX5_freeMany 3 = .ok (.istore_n 3, 1) := by decide +kernel
theorem dX5_freeMany_4 : decode cX5_freeMany 4 = .ok (.iload_n 3, 1) := by decide +kernel
theorem dX5_freeMany_5 : decode cX5_freeMany 5 = .ok (.iconst 5, 1) := by decide +kernel
theorem dX5_freeMany_6 : decode cX5_freeMany 6 = .ok (.if_icmp .ge 26, 3) := by decide +kernel
theorem dX5_freeMany_9 : decode cX5_freeMany 9 = .ok (.iload_n 2, 1) := by decide +kernel
theorem dX5_freeMany_10 : decode cX5_freeMany 10 = .ok (.aload_n 0, 1) := by decide +kernel
theorem dX5_freeMany_11 : decode cX5_freeMany 11 = .ok (.iload_n 1, 1) := by decide +kernel
theorem dX5_freeMany_12 : decode cX5_freeMany 12 = .ok (.iload_n 3, 1) := by decide +kernel
theorem dX5_freeMany_13 : decode cX5_freeMany 13 = .ok (.invokevirtual 100, 3) := by decide +kernel
theorem dX5_freeMany_16 : decode cX5_freeMany 16 = .ok (.ifCond .eq 7, 3) := by decide +kernel
theorem dX5_freeMany_19 : decode cX5_freeMany 19 = .ok (.iconst 1, 1) := by decide +kernel
theorem dX5_freeMany_20 : decode cX5_freeMany 20 = .ok (.goto 4, 3) := by decide +kernel
theorem dX5_freeMany_23 : decode cX5_freeMany 23 = .ok (.iconst 0, 1) := by decide +kernel
theorem dX5_freeMany_24 : decode cX5_freeMany 24 = .ok (.iadd, 1) := by decide +kernel
theorem dX5_freeMany_25 : decode cX5_freeMany 25 = .ok (.istore_n 2, 1) := by decide +kernel
theorem dX5_freeMany_26 : decode cX5_freeMany 26 = .ok (.iinc 3 1, 3) := by decide +kernel
theorem dX5_freeMany_29 : decode cX5_freeMany 29 = .ok (.goto (-25), 3) := by decide +kernel
theorem dX5_freeMany_32 : decode cX5_freeMany 32 = .ok (.iload_n 2, 1) := by decide +kernel
theorem dX5_freeMany_33 : decode cX5_freeMany 33 = .ok (.ireturn, 1) := by decide +kernel
theorem dX5_neighbours_0 : decode cX5_neighbours 0 = .ok (.iconst 0, 1) := by decide +kernel
theorem dX5_neighbours_1 : decode cX5_neighbours 1 = .ok (.istore_n 2, 1) := by decide +kernel
theorem dX5_neighbours_2 : decode cX5_neighbours 2 = .ok (.iconst 0, 1) := by decide +kernel
theorem dX5_neighbours_3 : decode cX5_neighbours 3 = .ok (.istore_n 3, 1) := by decide +kernel
theorem dX5_neighbours_4 : decode cX5_neighbours 4 = .ok (.iload_n 3, 1) := by decide +kernel
theorem dX5_neighbours_5 : decode cX5_neighbours 5 = .ok (.aload_n 0, 1) := by decide +kernel
theorem dX5_neighbours_6 : decode cX5_neighbours 6 = .ok (.getfield 7, 3) := by decide +kernel
theorem dX5_neighbours_9 : decode cX5_neighbours 9 = .ok (.iconst 0, 1) := by decide +kernel
theorem dX5_neighbours_10 : decode cX5_neighbours 10 = .ok (.iaload, 1) := by decide +kernel
theorem dX5_neighbours_11 : decode cX5_neighbours 11 = .ok (.if_icmp .ge 26, 3) := by decide +kernel
theorem dX5_neighbours_14 : decode cX5_neighbours 14 = .ok (.iload_n 2, 1) := by decide +kernel
theorem dX5_neighbours_15 : decode cX5_neighbours 15 = .ok (.aload_n 0, 1) := by decide +kernel
theorem dX5_neighbours_16 : decode cX5_neighbours 16 = .ok (.iload_n 1, 1) := by decide +kernel
theorem dX5_neighbours_17 : decode cX5_neighbours 17 = .ok (.iload_n 3, 1) := by decide +kernel
theorem dX5_neighbours_18 : decode cX5_neighbours 18 = .ok (.invokevirtual 67, 3) := by decide +kernel
theorem dX5_neighbours_21 : decode cX5_neighbours 21 = .ok (.ifCond .eq 7, 3) := by decide +kernel
theorem dX5_neighbours_24 : decode cX5_neighbours 24 = .ok (.iconst 1, 1) := by decide +kernel
theorem dX5_neighbours_25 : decode cX5_neighbours 25 = .ok (.goto 4, 3) := by decide +kernel
theorem dX5_neighbours_28 : decode cX5_neighbours 28 = .ok (.iconst 0, 1) := by decide +kernel
theorem dX5_neighbours_29 : decode cX5_neighbours 29 = .ok (.iadd, 1) := by decide +kernel
theorem dX5_neighbours_30 : decode cX5_neighbours 30 = .ok (.istore_n 2, 1) := by decide +kernel
theorem dX5_neighbours_31 : decode cX5_neighbours 31 = .ok (.iinc 3 1, 3) := by decide +kernel
theorem dX5_neighbours_34 : decode cX5_neighbours 34 = .ok (.goto (-30), 3) := by decide +kernel
theorem dX5_neighbours_37 : decode cX5_neighbours 37 = .ok (.iload_n 2, 1) := by decide +kernel
theorem dX5_neighbours_38 : decode cX5_neighbours 38 = .ok (.ireturn, 1) := by decide +kernel
theorem dX5_placeOf_0 : decode cX5_placeOf 0 = .ok (.iconst 0, 1) := by decide +kernel
theorem dX5_placeOf_1 : decode cX5_placeOf 1 = .ok (.istore_n 2, 1) := by decide +kernel
theorem dX5_placeOf_2 : decode cX5_placeOf 2 = .ok (.iload_n 2, 1) := by decide +kernel
theorem dX5_placeOf_3 : decode cX5_placeOf 3 = .ok (.aload_n 0, 1) := by decide +kernel
theorem dX5_placeOf_4 : decode cX5_placeOf 4 = .ok (.getfield 7, 3) := by decide +kernel
theorem dX5_placeOf_7 : decode cX5_placeOf 7 = .ok (.bipush 47, 2) := by decide +kernel
theorem dX5_placeOf_9 : decode cX5_placeOf 9 = .ok (.iaload, 1) := by decide +kernel
theorem dX5_placeOf_10 : decode cX5_placeOf 10 = .ok (.if_icmp .ge 24, 3) := by decide +kernel
theorem dX5_placeOf_13 : decode cX5_placeOf 13 = .ok (.aload_n 0, 1) := by decide +kernel
theorem dX5_placeOf_14 : decode cX5_placeOf 14 = .ok (.getfield 7, 3) := by decide +kernel
theorem dX5_placeOf_17 : decode cX5_placeOf 17 = .ok (.bipush 48, 2) := by decide +kernel
theorem dX5_placeOf_19 : decode cX5_placeOf 19 = .ok (.iload_n 2, 1) := by decide +kernel
theorem dX5_placeOf_20 : decode cX5_placeOf 20 = .ok (.iadd, 1) := by decide +kernel
theorem dX5_placeOf_21 : decode cX5_placeOf 21 = .ok (.iaload, 1) := by decide +kernel
theorem dX5_placeOf_22 : decode cX5_placeOf 22 = .ok (.iload_n 1, 1) := by decide +kernel
theorem dX5_placeOf_23 : decode cX5_placeOf 23 = .ok (.if_icmp .ne 5, 3) := by decide +kernel
theorem dX5_placeOf_26 : decode cX5_placeOf 26 = .ok (.iload_n 2, 1) := by decide +kernel
theorem dX5_placeOf_27 : decode cX5_placeOf 27 = .ok (.ireturn, 1) := by decide +kernel
theorem dX5_placeOf_28 : decode cX5_placeOf 28 = .ok (.iinc 2 1, 3) := by decide +kernel
theorem dX5_placeOf_31 : decode cX5_placeOf 31 = .ok (.goto (-29), 3) := by decide +kernel
theorem dX5_placeOf_34 : decode cX5_placeOf 34 = .ok (.iconst (-1), 1) := by decide +kernel
theorem dX5_placeOf_35 : decode cX5_placeOf 35 = .ok (.ireturn, 1) := by decide +kernel
theorem dX5_countryOf_0 : decode cX5_countryOf 0 = .ok (.aload_n 0, 1) := by decide +kernel
theorem dX5_countryOf_1 : decode cX5_countryOf 1 = .ok (.aload_n 0, 1) := by decide +kernel
theorem dX5_countryOf_2 : decode cX5_countryOf 2 = .ok (.iload_n 1, 1) := by decide +kernel
theorem dX5_countryOf_3 : decode cX5_countryOf 3 = .ok (.invokevirtual 87, 3) := by decide +kernel
theorem dX5_countryOf_6 : decode cX5_countryOf 6 = .ok (.ifCond .ne 7, 3) := by decide +kernel
theorem dX5_countryOf_9 : decode cX5_countryOf 9 = .ok (.iconst 1, 1) := by decide +kernel
theorem dX5_countryOf_10 : decode cX5_countryOf 10 = .ok (.goto 18, 3) := by decide +kernel
theorem dX5_countryOf_13 : decode cX5_countryOf 13 = .ok (.iload_n 2, 1) := by decide +kernel
theorem dX5_countryOf_14 : decode cX5_countryOf 14 = .ok (.iconst 0, 1) := by decide +kernel
theorem dX5_countryOf_15 : decode cX5_countryOf 15 = .ok (.bipush 6, 2) := by decide +kernel
theorem dX5_countryOf_17 : decode cX5_countryOf 17 = .ok (.invokestatic 59, 3) := by decide +kernel
theorem dX5_countryOf_20 : decode cX5_countryOf 20 = .ok (.ifCond .eq 7, 3) := by decide +kernel
theorem dX5_countryOf_23 : decode cX5_countryOf 23 = .ok (.iconst 0, 1) := by decide +kernel
theorem dX5_countryOf_24 : decode cX5_countryOf 24 = .ok (.goto 4, 3) := by decide +kernel
theorem dX5_countryOf_27 : decode cX5_countryOf 27 = .ok (.iconst 2, 1) := by decide +kernel
theorem dX5_countryOf_28 : decode cX5_countryOf 28 = .ok (.invokevirtual 71, 3) := by decide +kernel
theorem dX5_countryOf_31 : decode cX5_countryOf 31 = .ok (.ifCond .eq 5, 3) := by decide +kernel
theorem dX5_countryOf_34 : decode cX5_countryOf 34 = .ok (.iconst 0, 1) := by decide +kernel
theorem dX5_countryOf_35 : decode cX5_countryOf 35 = .ok (.ireturn, 1) := by decide +kernel
theorem dX5_countryOf_36 : decode cX5_countryOf 36 = .ok (.iload_n 2, 1) := by decide +kernel
theorem dX5_countryOf_37 : decode cX5_countryOf 37 = .ok (.tableswitch 67 2 6 #[35, 41, 47, 54, 61], 35) := by decide +kernel
theorem dX5_countryOf_72 : decode cX5_countryOf 72 = .ok (.aload_n 0, 1) := by decide +kernel
theorem dX5_countryOf_73 : decode cX5_countryOf 73 = .ok (.iload_n 1, 1) := by decide +kernel
theorem dX5_countryOf_74 : decode cX5_countryOf 74 = .ok (.invokevirtual 103, 3) := by decide +kernel
theorem dX5_countryOf_77 : decode cX5_countryOf 77 = .ok (.ireturn, 1) := by decide +kernel
theorem dX5_countryOf_78 : decode cX5_countryOf 78 = .ok (.aload_n 0, 1) := by decide +kernel
theorem dX5_countryOf_79 : decode cX5_countryOf 79 = .ok (.iload_n 1, 1) := by decide +kernel
theorem dX5_countryOf_80 : decode cX5_countryOf 80 = .ok (.invokevirtual 107, 3) := by decide +kernel
theorem dX5_countryOf_83 : decode cX5_countryOf 83 = .ok (.ireturn, 1) := by decide +kernel
theorem dX5_countryOf_84 : decode cX5_countryOf 84 = .ok (.aload_n 0, 1) := by decide +kernel
theorem dX5_countryOf_85 : decode cX5_countryOf 85 = .ok (.iload_n 1, 1) := by decide +kernel
theorem dX5_countryOf_86 : decode cX5_countryOf 86 = .ok (.iconst 2, 1) := by decide +kernel
theorem dX5_countryOf_87 : decode cX5_countryOf 87 = .ok (.invokevirtual 63, 3) := by decide +kernel
theorem dX5_countryOf_90 : decode cX5_countryOf 90 = .ok (.ireturn, 1) := by decide +kernel
theorem dX5_countryOf_91 : decode cX5_countryOf 91 = .ok (.aload_n 0, 1) := by decide +kernel
theorem dX5_countryOf_92 : decode cX5_countryOf 92 = .ok (.iload_n 1, 1) := by decide +kernel
theorem dX5_countryOf_93 : decode cX5_countryOf 93 = .ok (.iconst 3, 1) := by decide +kernel
theorem dX5_countryOf_94 : decode cX5_countryOf 94 = .ok (.invokevirtual 63, 3) := by decide +kernel
theorem dX5_countryOf_97 : decode cX5_countryOf 97 = .ok (.ireturn, 1) := by decide +kernel
theorem dX5_countryOf_98 : decode cX5_countryOf 98 = .ok (.aload_n 0, 1) := by decide +kernel
theorem dX5_countryOf_99 : decode cX5_countryOf 99 = .ok (.iload_n 1, 1) := by decide +kernel
theorem dX5_countryOf_100 : decode cX5_countryOf 100 = .ok (.invokevirtual 110, 3) := by decide +kernel
theorem dX5_countryOf_103 : decode cX5_countryOf 103 = .ok (.ireturn, 1) := by decide +kernel
theorem dX5_countryOf_104 : decode cX5_countryOf 104 = .ok (.aload_n 0, 1) := by decide +kernel
theorem dX5_countryOf_105 : decode cX5_countryOf 105 = .ok (.iload_n 1, 1) := by decide +kernel
theorem dX5_countryOf_106 : decode cX5_countryOf 106 = .ok (.iload_n 2, 1) := by decide +kernel
theorem dX5_countryOf_107 : decode cX5_countryOf 107 = .ok (.invokevirtual 63, 3) := by decide +kernel
theorem dX5_countryOf_110 : decode cX5_countryOf 110 = .ok (.ireturn, 1) := by decide +kernel
theorem dX5_hues_0 : decode cX5_hues 0 = .ok (.aload_n 0, 1) := by decide +kernel
theorem dX5_hues_1 : decode cX5_hues 1 = .ok (.iload_n 1, 1) := by decide +kernel
theorem dX5_hues_2 : decode cX5_hues 2 = .ok (.iconst 1, 1) := by decide +kernel
theorem dX5_hues_3 : decode cX5_hues 3 = .ok (.iconst 5, 1) := by decide +kernel
theorem dX5_hues_4 : decode cX5_hues 4 = .ok (.invokestatic 59, 3) := by decide +kernel
theorem dX5_hues_7 : decode cX5_hues 7 = .ok (.ifCond .eq 7, 3) := by decide +kernel
theorem dX5_hues_10 : decode cX5_hues 10 = .ok (.iconst 0, 1) := by decide +kernel
theorem dX5_hues_11 : decode cX5_hues 11 = .ok (.goto 4, 3) := by decide +kernel
theorem dX5_hues_14 : decode cX5_hues 14 = .ok (.iconst 1, 1) := by decide +kernel
theorem dX5_hues_15 : decode cX5_hues 15 = .ok (.invokevirtual 71, 3) := by decide +kernel
theorem dX5_hues_18 : decode cX5_hues 18 = .ok (.ifCond .eq 5, 3) := by decide +kernel
theorem dX5_hues_21 : decode cX5_hues 21 = .ok (.iconst 0, 1) := by decide +kernel
theorem dX5_hues_22 : decode cX5_hues 22 = .ok (.ireturn, 1) := by decide +kernel
theorem dX5_hues_23 : decode cX5_hues 23 = .ok (.iconst 0, 1) := by decide +kernel
theorem dX5_hues_24 : decode cX5_hues 24 = .ok (.istore_n 2, 1) := by decide +kernel
theorem dX5_hues_25 : decode cX5_hues 25 = .ok (.iload_n 2, 1) := by decide +kernel
theorem dX5_hues_26 : decode cX5_hues 26 = .ok (.aload_n 0, 1) := by decide +kernel
theorem dX5_hues_27 : decode cX5_hues 27 = .ok (.getfield 7, 3) := by decide +kernel
theorem dX5_hues_30 : decode cX5_hues 30 = .ok (.iconst 0, 1) := by decide +kernel
theorem dX5_hues_31 : decode cX5_hues 31 = .ok (.iaload, 1) := by decide +kernel
theorem dX5_hues_32 : decode cX5_hues 32 = .ok (.if_icmp .ge 28, 3) := by decide +kernel
theorem dX5_hues_35 : decode cX5_hues 35 = .ok (.aload_n 0, 1) := by decide +kernel
theorem dX5_hues_36 : decode cX5_hues 36 = .ok (.iload_n 2, 1) := by decide +kernel
theorem dX5_hues_37 : decode cX5_hues 37 = .ok (.iconst 1, 1) := by decide +kernel
theorem dX5_hues_38 : decode cX5_hues 38 = .ok (.invokevirtual 63, 3) := by decide +kernel
theorem dX5_hues_41 : decode cX5_hues 41 = .ok (.iload_n 1, 1) := by decide +kernel
theorem dX5_hues_42 : decode cX5_hues 42 = .ok (.if_icmp .lt 12, 3) := by decide +kernel
theorem dX5_hues_45 : decode cX5_hues 45 = .ok (.aload_n 0, 1) := by decide +kernel
theorem dX5_hues_46 : decode cX5_hues 46 = .ok (.iconst 2, 1) := by decide +kernel
theorem dX5_hues_47 : decode cX5_hues 47 = .ok (.bipush 9, 2) := by decide +kernel
theorem dX5_hues_49 : decode cX5_hues 49 = .ok (.iload_n 2, 1) := by decide +kernel
theorem dX5_hues_50 : decode cX5_hues 50 = .ok (.invokevirtual 75, 3) := by decide +kernel
theorem dX5_hues_53 : decode cX5_hues 53 = .ok (.ireturn, 1) := by decide +kernel
theorem dX5_hues_54 : decode cX5_hues 54 = .ok (.iinc 2 1, 3) := by decide +kernel
theorem dX5_hues_57 : decode cX5_hues 57 = .ok (.goto (-32), 3) := by decide +kernel
theorem dX5_hues_60 : decode cX5_hues 60 = .ok (.aload_n 0, 1) := by decide +kernel
theorem dX5_hues_61 : decode cX5_hues 61 = .ok (.aload_n 0, 1) := by decide +kernel
theorem dX5_hues_62 : decode cX5_hues 62 = .ok (.getfield 7, 3) := by decide +kernel
theorem dX5_hues_65 : decode cX5_hues 65 = .ok (.invokevirtual 79, 3) := by decide +kernel
theorem dX5_hues_68 : decode cX5_hues 68 = .ok (.aload_n 0, 1) := by decide +kernel
theorem dX5_hues_69 : decode cX5_hues 69 = .ok (.getfield 7, 3) := by decide +kernel
theorem dX5_hues_72 : decode cX5_hues 72 = .ok (.bipush 36, 2) := by decide +kernel
theorem dX5_hues_74 : decode cX5_hues 74 = .ok (.iaload, 1) := by decide +kernel
theorem dX5_hues_75 : decode cX5_hues 75 = .ok (.istore_n 2, 1) := by decide +kernel
theorem dX5_hues_76 : decode cX5_hues 76 = .ok (.aload_n 0, 1) := by decide +kernel
theorem dX5_hues_77 : decode cX5_hues 77 = .ok (.getfield 7, 3) := by decide +kernel
theorem dX5_hues_80 : decode cX5_hues 80 = .ok (.bipush 36, 2) := by decide +kernel
theorem dX5_hues_82 : decode cX5_hues 82 = .ok (.iload_n 1, 1) := by decide +kernel
theorem dX5_hues_83 : decode cX5_hues 83 = .ok (.iastore, 1) := by decide +kernel
theorem dX5_hues_84 : decode cX5_hues 84 = .ok (.iload_n 2, 1) := by decide +kernel
theorem dX5_hues_85 : decode cX5_hues 85 = .ok (.ireturn, 1) := by decide +kernel
theorem dX5_pots_0 : decode cX5_pots 0 = .ok (.aload_n 0, 1) := by decide +kernel
theorem dX5_pots_1 : decode cX5_pots 1 = .ok (.iload_n 1, 1) := by decide +kernel
theorem dX5_pots_2 : decode cX5_pots 2 = .ok (.invokestatic 113, 3) := by decide +kernel
theorem dX5_pots_5 : decode cX5_pots 5 = .ok (.ifCond .ne 7, 3) := by decide +kernel
theorem dX5_pots_8 : decode cX5_pots 8 = .ok (.iconst 1, 1) := by decide +kernel
theorem dX5_pots_9 : decode cX5_pots 9 = .ok (.goto 18, 3) := by decide +kernel
theorem dX5_pots_12 : decode cX5_pots 12 = .ok (.iload_n 2, 1) := by decide +kernel
theorem dX5_pots_13 : decode cX5_pots 13 = .ok (.iconst 1, 1) := by decide +kernel
theorem dX5_pots_14 : decode cX5_pots 14 = .ok (.bipush 50, 2) := by decide +kernel
theorem dX5_pots_16 : decode cX5_pots 16 = .ok (.invokestatic 59, 3) := by decide +kernel
theorem dX5_pots_19 : decode cX5_pots 19 = .ok (.ifCond .eq 7, 3) := by decide +kernel
theorem dX5_pots_22 : decode cX5_pots 22 = .ok (.iconst 0, 1) := by decide +kernel
theorem dX5_pots_23 : decode cX5_pots 23 = .ok (.goto 4, 3) := by decide +kernel
theorem dX5_pots_26 : decode cX5_pots 26 = .ok (.iconst 2, 1) := by decide +kernel
theorem dX5_pots_27 : decode cX5_pots 27 = .ok (.invokevirtual 71, 3) := by decide +kernel
theorem dX5_pots_30 : decode cX5_pots 30 = .ok (.ifCond .eq 5, 3) := by decide +kernel
theorem dX5_pots_33 : decode cX5_pots 33 = .ok (.iconst 0, 1) := by decide +kernel
theorem dX5_pots_34 : decode cX5_pots 34 = .ok (.ireturn, 1) := by decide +kernel
theorem dX5_pots_35 : decode cX5_pots 35 = .ok (.aload_n 0, 1) := by decide +kernel
theorem dX5_pots_36 : decode cX5_pots 36 = .ok (.aload_n 0, 1) := by decide +kernel
theorem dX5_pots_37 : decode cX5_pots 37 = .ok (.getfield 7, 3) := by decide +kernel
theorem dX5_pots_40 : decode cX5_pots 40 = .ok (.invokevirtual 79, 3) := by decide +kernel
theorem dX5_pots_43 : decode cX5_pots 43 = .ok (.aload_n 0, 1) := by decide +kernel
theorem dX5_pots_44 : decode cX5_pots 44 = .ok (.getfield 7, 3) := by decide +kernel
theorem dX5_pots_47 : decode cX5_pots 47 = .ok (.bipush 37, 2) := by decide +kernel
theorem dX5_pots_49 : decode cX5_pots 49 = .ok (.iload_n 1, 1) := by decide +kernel
theorem dX5_pots_50 : decode cX5_pots 50 = .ok (.iadd, 1) := by decide +kernel
theorem dX5_pots_51 : decode cX5_pots 51 = .ok (.bipush 99, 2) := by decide +kernel
theorem dX5_pots_53 : decode cX5_pots 53 = .ok (.aload_n 0, 1) := by decide +kernel
theorem dX5_pots_54 : decode cX5_pots 54 = .ok (.getfield 7, 3) := by decide +kernel
theorem dX5_pots_57 : decode cX5_pots 57 = .ok (.bipush 37, 2) := by decide +kernel
theorem dX5_pots_59 : decode cX5_pots 59 = .ok (.iload_n 1, 1) := by decide +kernel
theorem dX5_pots_60 : decode cX5_pots 60 = .ok (.iadd, 1) := by decide +kernel
theorem dX5_pots_61 : decode cX5_pots 61 = .ok (.iaload, 1) := by decide +kernel
theorem dX5_pots_62 : decode cX5_pots 62 = .ok (.iload_n 2, 1) := by decide +kernel
theorem dX5_pots_63 : decode cX5_pots 63 = .ok (.iadd, 1) := by decide +kernel
theorem dX5_pots_64 : decode cX5_pots 64 = .ok (.invokestatic 116, 3) := by decide +kernel
theorem dX5_pots_67 : decode cX5_pots 67 = .ok (.iastore, 1) := by decide +kernel
theorem dX5_pots_68 : decode cX5_pots 68 = .ok (.aload_n 0, 1) := by decide +kernel
theorem dX5_pots_69 : decode cX5_pots 69 = .ok (.getfield 7, 3) := by decide +kernel
theorem dX5_pots_72 : decode cX5_pots 72 = .ok (.bipush 37, 2) := by decide +kernel
theorem dX5_pots_74 : decode cX5_pots 74 = .ok (.iload_n 1, 1) := by decide +kernel
theorem dX5_pots_75 : decode cX5_pots 75 = .ok (.iadd, 1) := by decide +kernel
theorem dX5_pots_76 : decode cX5_pots 76 = .ok (.iaload, 1) := by decide +kernel
theorem dX5_pots_77 : decode cX5_pots 77 = .ok (.ireturn, 1) := by decide +kernel
theorem dX5_paintedIn_0 : decode cX5_paintedIn 0 = .ok (.iconst 0, 1) := by decide +kernel
theorem dX5_paintedIn_1 : decode cX5_paintedIn 1 = .ok (.istore_n 2, 1) := by decide +kernel
theorem dX5_paintedIn_2 : decode cX5_paintedIn 2 = .ok (.iconst 0, 1) := by decide +kernel
theorem dX5_paintedIn_3 : decode cX5_paintedIn 3 = .ok (.istore_n 3, 1) := by decide +kernel
theorem dX5_paintedIn_4 : decode cX5_paintedIn 4 = .ok (.iload_n 3, 1) := by decide +kernel
theorem dX5_paintedIn_5 : decode cX5_paintedIn 5 = .ok (.aload_n 0, 1) := by decide +kernel
theorem dX5_paintedIn_6 : decode cX5_paintedIn 6 = .ok (.getfield 7, 3) := by decide +kernel
theorem dX5_paintedIn_9 : decode cX5_paintedIn 9 = .ok (.iconst 0, 1) := by decide +kernel
theorem dX5_paintedIn_10 : decode cX5_paintedIn 10 = .ok (.iaload, 1) := by decide +kernel
theorem dX5_paintedIn_11 : decode cX5_paintedIn 11 = .ok (.if_icmp .ge 27, 3) := by decide +kernel
theorem dX5_paintedIn_14 : decode cX5_paintedIn 14 = .ok (.iload_n 2, 1) := by decide +kernel
theorem dX5_paintedIn_15 : decode cX5_paintedIn 15 = .ok (.aload_n 0, 1) := by decide +kernel
theorem dX5_paintedIn_16 : decode cX5_paintedIn 16 = .ok (.iload_n 3, 1) := by decide +kernel
theorem dX5_paintedIn_17 : decode cX5_paintedIn 17 = .ok (.iconst 1, 1) := by decide +kernel
theorem dX5_paintedIn_18 : decode cX5_paintedIn 18 = .ok (.invokevirtual 63, 3) := by decide +kernel
theorem dX5_paintedIn_21 : decode cX5_paintedIn 21 = .ok (.iload_n 1, 1) := by decide +kernel
theorem dX5_paintedIn_22 : decode cX5_paintedIn 22 = .ok (.if_icmp .ne 7, 3) := by decide +kernel
theorem dX5_paintedIn_25 : decode cX5_paintedIn 25 = .ok (.iconst 1, 1) := by decide +kernel
theorem dX5_paintedIn_26 : decode cX5_paintedIn 26 = .ok (.goto 4, 3) := by decide +kernel
theorem dX5_paintedIn_29 : decode cX5_paintedIn 29 = .ok (.iconst 0, 1) := by decide +kernel
theorem dX5_paintedIn_30 : decode cX5_paintedIn 30 = .ok (.iadd, 1) := by decide +kernel
theorem dX5_paintedIn_31 : decode cX5_paintedIn 31 = .ok (.istore_n 2, 1) := by decide +kernel
theorem dX5_paintedIn_32 : decode cX5_paintedIn 32 = .ok (.iinc 3 1, 3) := by decide +kernel
theorem dX5_paintedIn_35 : decode cX5_paintedIn 35 = .ok (.goto (-31), 3) := by decide +kernel
theorem dX5_paintedIn_38 : decode cX5_paintedIn 38 = .ok (.iload_n 2, 1) := by decide +kernel
theorem dX5_paintedIn_39 : decode cX5_paintedIn 39 = .ok (.ireturn, 1) := by decide +kernel
theorem dX5_hueOf_0 : decode cX5_hueOf 0 = .ok (.aload_n 0, 1) := by decide +kernel
theorem dX5_hueOf_1 : decode cX5_hueOf 1 = .ok (.iload_n 1, 1) := by decide +kernel
theorem dX5_hueOf_2 : decode cX5_hueOf 2 = .ok (.invokestatic 113, 3) := by decide +kernel
theorem dX5_hueOf_5 : decode cX5_hueOf 5 = .ok (.ifCond .ne 7, 3) := by decide +kernel
theorem dX5_hueOf_8 : decode cX5_hueOf 8 = .ok (.iconst 1, 1) := by decide +kernel
theorem dX5_hueOf_9 : decode cX5_hueOf 9 = .ok (.goto 17, 3) := by decide +kernel
theorem dX5_hueOf_12 : decode cX5_hueOf 12 = .ok (.iload_n 2, 1) := by decide +kernel
theorem dX5_hueOf_13 : decode cX5_hueOf 13 = .ok (.iconst 0, 1) := by decide +kernel
theorem dX5_hueOf_14 : decode cX5_hueOf 14 = .ok (.iconst 3, 1) := by decide +kernel
theorem dX5_hueOf_15 : decode cX5_hueOf 15 = .ok (.invokestatic 59, 3) := by decide +kernel
theorem dX5_hueOf_18 : decode cX5_hueOf 18 = .ok (.ifCond .eq 7, 3) := by decide +kernel
theorem dX5_hueOf_21 : decode cX5_hueOf 21 = .ok (.iconst 0, 1) := by decide +kernel
theorem dX5_hueOf_22 : decode cX5_hueOf 22 = .ok (.goto 4, 3) := by decide +kernel
theorem dX5_hueOf_25 : decode cX5_hueOf 25 = .ok (.iconst 2, 1) := by decide +kernel
theorem dX5_hueOf_26 : decode cX5_hueOf 26 = .ok (.invokevirtual 71, 3) := by decide +kernel
theorem dX5_hueOf_29 : decode cX5_hueOf 29 = .ok (.ifCond .eq 5, 3) := by decide +kernel
theorem dX5_hueOf_32 : decode cX5_hueOf 32 = .ok (.iconst 0, 1) := by decide +kernel
theorem dX5_hueOf_33 : decode cX5_hueOf 33 = .ok (.ireturn, 1) := by decide +kernel
theorem dX5_hueOf_34 : decode cX5_hueOf 34 = .ok (.iload_n 2, 1) := by decide +kernel
theorem dX5_hueOf_35 : decode cX5_hueOf 35 = .ok (.tableswitch 58 0 2 #[25, 35, 52], 25) := by decide +kernel
theorem dX5_hueOf_60 : decode cX5_hueOf 60 = .ok (.aload_n 0, 1) := by decide +kernel
theorem dX5_hueOf_61 : decode cX5_hueOf 61 = .ok (.getfield 7, 3) := by decide +kernel
theorem dX5_hueOf_64 : decode cX5_hueOf 64 = .ok (.bipush 37, 2) := by decide +kernel
theorem dX5_hueOf_66 : decode cX5_hueOf 66 = .ok (.iload_n 1, 1) := by decide +kernel
theorem dX5_hueOf_67 : decode cX5_hueOf 67 = .ok (.iadd, 1) := by decide +kernel
theorem dX5_hueOf_68 : decode cX5_hueOf 68 = .ok (.iaload, 1) := by decide +kernel
theorem dX5_hueOf_69 : decode cX5_hueOf 69 = .ok (.ireturn, 1) := by decide +kernel
theorem dX5_hueOf_70 : decode cX5_hueOf 70 = .ok (.iload_n 1, 1) := by decide +kernel
theorem dX5_hueOf_71 : decode cX5_hueOf 71 = .ok (.aload_n 0, 1) := by decide +kernel
theorem dX5_hueOf_72 : decode cX5_hueOf 72 = .ok (.getfield 7, 3) := by decide +kernel
theorem dX5_hueOf_75 : decode cX5_hueOf 75 = .ok (.bipush 36, 2) := by decide +kernel
theorem dX5_hueOf_77 : decode cX5_hueOf 77 = .ok (.iaload, 1) := by decide +kernel
theorem dX5_hueOf_78 : decode cX5_hueOf 78 = .ok (.if_icmp .ge 7, 3) := by decide +kernel
theorem dX5_hueOf_81 : decode cX5_hueOf 81 = .ok (.iconst 1, 1) := by decide +kernel
theorem dX5_hueOf_82 : decode cX5_hueOf 82 = .ok (.goto 4, 3) := by decide +kernel
theorem dX5_hueOf_85 : decode cX5_hueOf 85 = .ok (.iconst 0, 1) := by decide +kernel
theorem dX5_hueOf_86 : decode cX5_hueOf 86 = .ok (.ireturn, 1) := by decide +kernel
theorem dX5_hueOf_87 : decode cX5_hueOf 87 = .ok (.aload_n 0, 1) := by decide +kernel
theorem dX5_hueOf_88 : decode cX5_hueOf 88 = .ok (.iload_n 1, 1) := by decide +kernel
theorem dX5_hueOf_89 : decode cX5_hueOf 89 = .ok (.invokevirtual 119, 3) := by decide +kernel
theorem dX5_hueOf_92 : decode cX5_hueOf 92 = .ok (.ireturn, 1) := by decide +kernel
theorem dX5_hueOf_93 : decode cX5_hueOf 93 = .ok (.aload_n 0, 1) := by decide +kernel
theorem dX5_hueOf_94 : decode cX5_hueOf 94 = .ok (.getfield 7, 3) := by decide +kernel
theorem dX5_hueOf_97 : decode cX5_hueOf 97 = .ok (.bipush 42, 2) := by decide +kernel
theorem dX5_hueOf_99 : decode cX5_hueOf 99 = .ok (.iload_n 1, 1) := by decide +kernel
theorem dX5_hueOf_100 : decode cX5_hueOf 100 = .ok (.iadd, 1) := by decide +kernel
theorem dX5_hueOf_101 : decode cX5_hueOf 101 = .ok (.iaload, 1) := by decide +kernel
theorem dX5_hueOf_102 : decode cX5_hueOf 102 = .ok (.ireturn, 1) := by decide +kernel
theorem dX5_against_0 : decode cX5_against 0 = .ok (.aload_n 0, 1) := by decide +kernel
theorem dX5_against_1 : decode cX5_against 1 = .ok (.iload_n 1, 1) := by decide +kernel
theorem dX5_against_2 : decode cX5_against 2 = .ok (.invokevirtual 90, 3) := by decide +kernel
theorem dX5_against_5 : decode cX5_against 5 = .ok (.ifCond .eq 5, 3) := by decide +kernel
theorem dX5_against_8 : decode cX5_against 8 = .ok (.iconst 2, 1) := by decide +kernel
theorem dX5_against_9 : decode cX5_against 9 = .ok (.ireturn, 1) := by decide +kernel
theorem dX5_against_10 : decode cX5_against 10 = .ok (.iload_n 2, 1) := by decide +kernel
theorem dX5_against_11 : decode cX5_against 11 = .ok (.aload_n 0, 1) := by decide +kernel
theorem dX5_against_12 : decode cX5_against 12 = .ok (.getfield 7, 3) := by decide +kernel
theorem dX5_against_15 : decode cX5_against 15 = .ok (.bipush 36, 2) := by decide +kernel
theorem dX5_against_17 : decode cX5_against 17 = .ok (.iaload, 1) := by decide +kernel
theorem dX5_against_18 : decode cX5_against 18 = .ok (.if_icmp .lt 6, 3) := by decide +kernel
theorem dX5_against_21 : decode cX5_against 21 = .ok (.bipush 10, 2) := by decide +kernel
theorem dX5_against_23 : decode cX5_against 23 = .ok (.ireturn, 1) := by decide +kernel
theorem dX5_against_24 : decode cX5_against 24 = .ok (.aload_n 0, 1) := by decide +kernel
theorem dX5_against_25 : decode cX5_against 25 = .ok (.iload_n 1, 1) := by decide +kernel
theorem dX5_against_26 : decode cX5_against 26 = .ok (.iload_n 2, 1) := by decide +kernel
theorem dX5_against_27 : decode cX5_against 27 = .ok (.invokevirtual 97, 3) := by decide +kernel
theorem dX5_against_30 : decode cX5_against 30 = .ok (.ifCond .lt 5, 3) := by decide +kernel
theorem dX5_against_33 : decode cX5_against 33 = .ok (.iconst 3, 1) := by decide +kernel
theorem dX5_against_34 : decode cX5_against 34 = .ok (.ireturn, 1) := by decide +kernel
theorem dX5_against_35 : decode cX5_against 35 = .ok (.aload_n 0, 1) := by decide +kernel
theorem dX5_against_36 : decode cX5_against 36 = .ok (.getfield 7, 3) := by decide +kernel
theorem dX5_against_39 : decode cX5_against 39 = .ok (.bipush 37, 2) := by decide +kernel
theorem dX5_against_41 : decode cX5_against 41 = .ok (.iload_n 2, 1) := by decide +kernel
theorem dX5_against_42 : decode cX5_against 42 = .ok (.iadd, 1) := by decide +kernel
theorem dX5_against_43 : decode cX5_against 43 = .ok (.iaload, 1) := by decide +kernel
theorem dX5_against_44 : decode cX5_against 44 = .ok (.aload_n 0, 1) := by decide +kernel
theorem dX5_against_45 : decode cX5_against 45 = .ok (.iload_n 1, 1) := by decide +kernel
theorem dX5_against_46 : decode cX5_against 46 = .ok (.iconst 0, 1) := by decide +kernel
theorem dX5_against_47 : decode cX5_against 47 = .ok (.invokevirtual 63, 3) := by decide +kernel
theorem dX5_against_50 : decode cX5_against 50 = .ok (.if_icmp .ge 7, 3) := by decide +kernel
theorem dX5_against_53 : decode cX5_against 53 = .ok (.iconst 4, 1) := by decide +kernel
theorem dX5_against_54 : decode cX5_against 54 = .ok (.goto 4, 3) := by decide +kernel
theorem dX5_against_57 : decode cX5_against 57 = .ok (.iconst 0, 1) := by decide +kernel
theorem dX5_against_58 : decode cX5_against 58 = .ok (.ireturn, 1) := by decide +kernel
theorem dX5_paints_0 : decode cX5_paints 0 = .ok (.aload_n 0, 1) := by decide +kernel
theorem dX5_paints_1 : decode cX5_paints 1 = .ok (.iload_n 1, 1) := by decide +kernel
theorem dX5_paints_2 : decode cX5_paints 2 = .ok (.iconst 1, 1) := by decide +kernel
theorem dX5_paints_3 : decode cX5_paints 3 = .ok (.iload_n 2, 1) := by decide +kernel
theorem dX5_paints_4 : decode cX5_paints 4 = .ok (.invokevirtual 83, 3) := by decide +kernel
theorem dX5_paints_7 : decode cX5_paints 7 = .ok (.aload_n 0, 1) := by decide +kernel
theorem dX5_paints_8 : decode cX5_paints 8 = .ok (.getfield 7, 3) := by decide +kernel
theorem dX5_paints_11 : decode cX5_paints 11 = .ok (.bipush 37, 2) := by decide +kernel
theorem dX5_paints_13 : decode cX5_paints 13 = .ok (.iload_n 2, 1) := by decide +kernel
theorem dX5_paints_14 : decode cX5_paints 14 = .ok (.iadd, 1) := by decide +kernel
theorem dX5_paints_15 : decode cX5_paints 15 = .ok (.dup2, 1) := by decide +kernel
theorem dX5_paints_16 : decode cX5_paints 16 = .ok (.iaload, 1) := by decide +kernel
theorem dX5_paints_17 : decode cX5_paints 17 = .ok (.aload_n 0, 1) := by decide +kernel
theorem dX5_paints_18 : decode cX5_paints 18 = .ok (.iload_n 1, 1) := by decide +kernel
theorem dX5_paints_19 : decode cX5_paints 19 = .ok (.iconst 0, 1) := by decide +kernel
theorem dX5_paints_20 : decode cX5_paints 20 = .ok (.invokevirtual 63, 3) := by decide +kernel
theorem dX5_paints_23 : decode cX5_paints 23 = .ok (.isub, 1) := by decide +kernel
theorem dX5_paints_24 : decode cX5_paints 24 = .ok (.iastore, 1) := by decide +kernel
theorem dX5_paints_25 : decode cX5_paints 25 = .ok (.aload_n 0, 1) := by decide +kernel
theorem dX5_paints_26 : decode cX5_paints 26 = .ok (.getfield 7, 3) := by decide +kernel
theorem dX5_paints_29 : decode cX5_paints 29 = .ok (.bipush 42, 2) := by decide +kernel
theorem dX5_paints_31 : decode cX5_paints 31 = .ok (.iload_n 2, 1) := by decide +kernel
theorem dX5_paints_32 : decode cX5_paints 32 = .ok (.iadd, 1) := by decide +kernel
theorem dX5_paints_33 : decode cX5_paints 33 = .ok (.dup2, 1) := by decide +kernel
theorem dX5_paints_34 : decode cX5_paints 34 = .ok (.iaload, 1) := by decide +kernel
theorem dX5_paints_35 : decode cX5_paints 35 = .ok (.aload_n 0, 1) := by decide +kernel
theorem dX5_paints_36 : decode cX5_paints 36 = .ok (.iload_n 1, 1) := by decide +kernel
theorem dX5_paints_37 : decode cX5_paints 37 = .ok (.iconst 0, 1) := by decide +kernel
theorem dX5_paints_38 : decode cX5_paints 38 = .ok (.invokevirtual 63, 3) := by decide +kernel
theorem dX5_paints_41 : decode cX5_paints 41 = .ok (.iadd, 1) := by decide +kernel
theorem dX5_paints_42 : decode cX5_paints 42 = .ok (.iastore, 1) := by decide +kernel
theorem dX5_paints_43 : decode cX5_paints 43 = .ok (.aload_n 0, 1) := by decide +kernel
theorem dX5_paints_44 : decode cX5_paints 44 = .ok (.getfield 7, 3) := by decide +kernel
theorem dX5_paints_47 : decode cX5_paints 47 = .ok (.bipush 48, 2) := by decide +kernel
theorem dX5_paints_49 : decode cX5_paints 49 = .ok (.aload_n 0, 1) := by decide +kernel
theorem dX5_paints_50 : decode cX5_paints 50 = .ok (.getfield 7, 3) := by decide +kernel
theorem dX5_paints_53 : decode cX5_paints 53 = .ok (.bipush 47, 2) := by decide +kernel
theorem dX5_paints_55 : decode cX5_paints 55 = .ok (.iaload, 1) := by decide +kernel
theorem dX5_paints_56 : decode cX5_paints 56 = .ok (.iadd, 1) := by decide +kernel
theorem dX5_paints_57 : decode cX5_paints 57 = .ok (.iload_n 1, 1) := by decide +kernel
theorem dX5_paints_58 : decode cX5_paints 58 = .ok (.iastore, 1) := by decide +kernel
theorem dX5_paints_59 : decode cX5_paints 59 = .ok (.aload_n 0, 1) := by decide +kernel
theorem dX5_paints_60 : decode cX5_paints 60 = .ok (.getfield 7, 3) := by decide +kernel
theorem dX5_paints_63 : decode cX5_paints 63 = .ok (.bipush 47, 2) := by decide +kernel
theorem dX5_paints_65 : decode cX5_paints 65 = .ok (.dup2, 1) := by decide +kernel
theorem dX5_paints_66 : decode cX5_paints 66 = .ok (.iaload, 1) := by decide +kernel
theorem dX5_paints_67 : decode cX5_paints 67 = .ok (.iconst 1, 1) := by decide +kernel
theorem dX5_paints_68 : decode cX5_paints 68 = .ok (.iadd, 1) := by decide +kernel
theorem dX5_paints_69 : decode cX5_paints 69 = .ok (.iastore, 1) := by decide +kernel
theorem dX5_paints_70 : decode cX5_paints 70 = .ok (.return_, 1) := by decide +kernel
theorem dX5_paint_0 : decode cX5_paint 0 = .ok (.aload_n 0, 1) := by decide +kernel
theorem dX5_paint_1 : decode cX5_paint 1 = .ok (.aload_n 0, 1) := by decide +kernel
theorem dX5_paint_2 : decode cX5_paint 2 = .ok (.iload_n 1, 1) := by decide +kernel
theorem dX5_paint_3 : decode cX5_paint 3 = .ok (.invokevirtual 87, 3) := by decide +kernel
theorem dX5_paint_6 : decode cX5_paint 6 = .ok (.ifCond .eq 14, 3) := by decide +kernel
theorem dX5_paint_9 : decode cX5_paint 9 = .ok (.iload_n 2, 1) := by decide +kernel
theorem dX5_paint_10 : decode cX5_paint 10 = .ok (.invokestatic 113, 3) := by decide +kernel
theorem dX5_paint_13 : decode cX5_paint 13 = .ok (.ifCond .eq 7, 3) := by decide +kernel
theorem dX5_paint_16 : decode cX5_paint 16 = .ok (.iconst 0, 1) := by decide +kernel
theorem dX5_paint_17 : decode cX5_paint 17 = .ok (.goto 4, 3) := by decide +kernel
theorem dX5_paint_20 : decode cX5_paint 20 = .ok (.iconst 1, 1) := by decide +kernel
theorem dX5_paint_21 : decode cX5_paint 21 = .ok (.invokevirtual 71, 3) := by decide +kernel
theorem dX5_paint_24 : decode cX5_paint 24 = .ok (.ifCond .eq 5, 3) := by decide +kernel
theorem dX5_paint_27 : decode cX5_paint 27 = .ok (.iconst 0, 1) := by decide +kernel
theorem dX5_paint_28 : decode cX5_paint 28 = .ok (.ireturn, 1) := by decide +kernel
theorem dX5_paint_29 : decode cX5_paint 29 = .ok (.aload_n 0, 1) := by decide +kernel
theorem dX5_paint_30 : decode cX5_paint 30 = .ok (.iload_n 1, 1) := by decide +kernel
theorem dX5_paint_31 : decode cX5_paint 31 = .ok (.iload_n 2, 1) := by decide +kernel
theorem dX5_paint_32 : decode cX5_paint 32 = .ok (.invokevirtual 122, 3) := by decide +kernel
theorem dX5_paint_35 : decode cX5_paint 35 = .ok (.tableswitch 107 2 10 #[49, 71, 84, 107, 107, 107, 107, 107, 62], 49) := by decide +kernel
theorem dX5_paint_84 : decode cX5_paint 84 = .ok (.aload_n 0, 1) := by decide +kernel
theorem dX5_paint_85 : decode cX5_paint 85 = .ok (.iconst 2, 1) := by decide +kernel
theorem dX5_paint_86 : decode cX5_paint 86 = .ok (.iconst 2, 1) := by decide +kernel
theorem dX5_paint_87 : decode cX5_paint 87 = .ok (.aload_n 0, 1) := by decide +kernel
theorem dX5_paint_88 : decode cX5_paint 88 = .ok (.iload_n 1, 1) := by decide +kernel
theorem dX5_paint_89 : decode cX5_paint 89 = .ok (.iconst 1, 1) := by decide +kernel
theorem dX5_paint_90 : decode cX5_paint 90 = .ok (.invokevirtual 63, 3) := by decide +kernel
theorem dX5_paint_93 : decode cX5_paint 93 = .ok (.invokevirtual 75, 3) := by decide +kernel
theorem dX5_paint_96 : decode cX5_paint 96 = .ok (.ireturn, 1) := by decide +kernel
theorem dX5_paint_97 : decode cX5_paint 97 = .ok (.aload_n 0, 1) := by decide +kernel
theorem dX5_paint_98 : decode cX5_paint 98 = .ok (.iconst 2, 1) := by decide +kernel
theorem dX5_paint_99 : decode cX5_paint 99 = .ok (.bipush 10, 2) := by decide +kernel
theorem dX5_paint_101 : decode cX5_paint 101 = .ok (.iload_n 2, 1) := by decide +kernel
theorem dX5_paint_102 : decode cX5_paint 102 = .ok (.invokevirtual 75, 3) := by decide +kernel
theorem dX5_paint_105 : decode cX5_paint 105 = .ok (.ireturn, 1) := by decide +kernel
theorem dX5_paint_106 : decode cX5_paint 106 = .ok (.aload_n 0, 1) := by decide +kernel
theorem dX5_paint_107 : decode cX5_paint 107 = .ok (.iconst 2, 1) := by decide +kernel
theorem dX5_paint_108 : decode cX5_paint 108 = .ok (.iconst 3, 1) := by decide +kernel
theorem dX5_paint_109 : decode cX5_paint 109 = .ok (.aload_n 0, 1) := by decide +kernel
theorem dX5_paint_110 : decode cX5_paint 110 = .ok (.iload_n 1, 1) := by decide +kernel
theorem dX5_paint_111 : decode cX5_paint 111 = .ok (.iload_n 2, 1) := by decide +kernel
theorem dX5_paint_112 : decode cX5_paint 112 = .ok (.invokevirtual 97, 3) := by decide +kernel
theorem dX5_paint_115 : decode cX5_paint 115 = .ok (.invokevirtual 75, 3) := by decide +kernel
theorem dX5_paint_118 : decode cX5_paint 118 = .ok (.ireturn, 1) := by decide +kernel
theorem dX5_paint_119 : decode cX5_paint 119 = .ok (.aload_n 0, 1) := by decide +kernel
theorem dX5_paint_120 : decode cX5_paint 120 = .ok (.iconst 2, 1) := by decide +kernel
theorem dX5_paint_121 : decode cX5_paint 121 = .ok (.iconst 4, 1) := by decide +kernel
theorem dX5_paint_122 : decode cX5_paint 122 = .ok (.aload_n 0, 1) := by decide +kernel
theorem dX5_paint_123 : decode cX5_paint 123 = .ok (.iload_n 1, 1) := by decide +kernel
theorem dX5_paint_124 : decode cX5_paint 124 = .ok (.iconst 0, 1) := by decide +kernel
theorem dX5_paint_125 : decode cX5_paint 125 = .ok (.invokevirtual 63, 3) := by decide +kernel
theorem dX5_paint_128 : decode cX5_paint 128 = .ok (.aload_n 0, 1) := by decide +kernel
theorem dX5_paint_129 : decode cX5_paint 129 = .ok (.getfield 7, 3) := by decide +kernel
theorem dX5_paint_132 : decode cX5_paint 132 = .ok (.bipush 37, 2) := by decide +kernel
theorem dX5_paint_134 : decode cX5_paint 134 = .ok (.iload_n 2, 1) := by decide +kernel
theorem dX5_paint_135 : decode cX5_paint 135 = .ok (.iadd, 1) := by decide +kernel
theorem dX5_paint_136 : decode cX5_paint 136 = .ok (.iaload, 1) := by decide +kernel
theorem dX5_paint_137 : decode cX5_paint 137 = .ok (.isub, 1) := by decide +kernel
theorem dX5_paint_138 : decode cX5_paint 138 = .ok (.invokevirtual 75, 3) := by decide +kernel
theorem dX5_paint_141 : decode cX5_paint 141 = .ok (.ireturn, 1) := by decide +kernel
theorem dX5_paint_142 : decode cX5_paint 142 = .ok (.aload_n 0, 1) := by decide +kernel
theorem dX5_paint_143 : decode cX5_paint 143 = .ok (.aload_n 0, 1) := by decide +kernel
theorem dX5_paint_144 : decode cX5_paint 144 = .ok (.getfield 7, 3) := by decide +kernel
theorem dX5_paint_147 : decode cX5_paint 147 = .ok (.invokevirtual 79, 3) := by decide +kernel
theorem dX5_paint_150 : decode cX5_paint 150 = .ok (.aload_n 0, 1) := by decide +kernel
theorem dX5_paint_151 : decode cX5_paint 151 = .ok (.iload_n 1, 1) := by decide +kernel
theorem dX5_paint_152 : decode cX5_paint 152 = .ok (.iload_n 2, 1) := by decide +kernel
theorem dX5_paint_153 : decode cX5_paint 153 = .ok (.invokevirtual 125, 3) := by decide +kernel
theorem dX5_paint_156 : decode cX5_paint 156 = .ok (.aload_n 0, 1) := by decide +kernel
theorem dX5_paint_157 : decode cX5_paint 157 = .ok (.getfield 7, 3) := by decide +kernel
theorem dX5_paint_160 : decode cX5_paint 160 = .ok (.bipush 47, 2) := by decide +kernel
theorem dX5_paint_162 : decode cX5_paint 162 = .ok (.iaload, 1) := by decide +kernel
theorem dX5_paint_163 : decode cX5_paint 163 = .ok (.ireturn, 1) := by decide +kernel
theorem dX5_bars_0 : decode cX5_bars 0 = .ok (.aload_n 0, 1) := by decide +kernel
theorem dX5_bars_1 : decode cX5_bars 1 = .ok (.aload_n 0, 1) := by decide +kernel
theorem dX5_bars_2 : decode cX5_bars 2 = .ok (.iload_n 1, 1) := by decide +kernel
theorem dX5_bars_3 : decode cX5_bars 3 = .ok (.invokevirtual 87, 3) := by decide +kernel
theorem dX5_bars_6 : decode cX5_bars 6 = .ok (.ifCond .eq 14, 3) := by decide +kernel
theorem dX5_bars_9 : decode cX5_bars 9 = .ok (.iload_n 2, 1) := by decide +kernel
theorem dX5_bars_10 : decode cX5_bars 10 = .ok (.invokestatic 113, 3) := by decide +kernel
theorem dX5_bars_13 : decode cX5_bars 13 = .ok (.ifCond .eq 7, 3) := by decide +kernel
theorem dX5_bars_16 : decode cX5_bars 16 = .ok (.iconst 0, 1) := by decide +kernel
theorem dX5_bars_17 : decode cX5_bars 17 = .ok (.goto 4, 3) := by decide +kernel
theorem dX5_bars_20 : decode cX5_bars 20 = .ok (.iconst 1, 1) := by decide +kernel
theorem dX5_bars_21 : decode cX5_bars 21 = .ok (.invokevirtual 71, 3) := by decide +kernel
theorem dX5_bars_24 : decode cX5_bars 24 = .ok (.ifCond .eq 7, 3) := by decide +kernel
theorem dX5_bars_27 : decode cX5_bars 27 = .ok (.iconst 0, 1) := by decide +kernel
theorem dX5_bars_28 : decode cX5_bars 28 = .ok (.goto 9, 3) := by decide +kernel
theorem dX5_bars_31 : decode cX5_bars 31 = .ok (.aload_n 0, 1) := by decide +kernel
theorem dX5_bars_32 : decode cX5_bars 32 = .ok (.iload_n 1, 1) := by decide +kernel
theorem dX5_bars_33 : decode cX5_bars 33 = .ok (.iload_n 2, 1) := by decide +kernel
theorem dX5_bars_34 : decode cX5_bars 34 = .ok (.invokevirtual 122, 3) := by decide +kernel
theorem dX5_bars_37 : decode cX5_bars 37 = .ok (.ireturn, 1) := by decide +kernel
theorem dX5_back_0 : decode cX5_back 0 = .ok (.aload_n 0, 1) := by decide +kernel
theorem dX5_back_1 : decode cX5_back 1 = .ok (.iconst 0, 1) := by decide +kernel
theorem dX5_back_2 : decode cX5_back 2 = .ok (.putfield 39, 3) := by decide +kernel
theorem dX5_back_5 : decode cX5_back 5 = .ok (.aload_n 0, 1) := by decide +kernel
theorem dX5_back_6 : decode cX5_back 6 = .ok (.getfield 7, 3) := by decide +kernel
theorem dX5_back_9 : decode cX5_back 9 = .ok (.bipush 47, 2) := by decide +kernel
theorem dX5_back_11 : decode cX5_back 11 = .ok (.iaload, 1) := by decide +kernel
theorem dX5_back_12 : decode cX5_back 12 = .ok (.ifCond .ne 12, 3) := by decide +kernel
theorem dX5_back_15 : decode cX5_back 15 = .ok (.aload_n 0, 1) := by decide +kernel
theorem dX5_back_16 : decode cX5_back 16 = .ok (.iconst 1, 1) := by decide +kernel
theorem dX5_back_17 : decode cX5_back 17 = .ok (.bipush 8, 2) := by decide +kernel
theorem dX5_back_19 : decode cX5_back 19 = .ok (.iconst 0, 1) := by decide +kernel
theorem dX5_back_20 : decode cX5_back 20 = .ok (.invokevirtual 75, 3) := by decide +kernel
theorem dX5_back_23 : decode cX5_back 23 = .ok (.ireturn, 1) := by decide +kernel
theorem dX5_back_24 : decode cX5_back 24 = .ok (.aload_n 0, 1) := by decide +kernel
theorem dX5_back_25 : decode cX5_back 25 = .ok (.aload_n 0, 1) := by decide +kernel
theorem dX5_back_26 : decode cX5_back 26 = .ok (.getfield 7, 3) := by decide +kernel
theorem dX5_back_29 : decode cX5_back 29 = .ok (.invokevirtual 79, 3) := by decide +kernel
theorem dX5_back_32 : decode cX5_back 32 = .ok (.aload_n 0, 1) := by decide +kernel
theorem dX5_back_33 : decode cX5_back 33 = .ok (.getfield 7, 3) := by decide +kernel
theorem dX5_back_36 : decode cX5_back 36 = .ok (.bipush 47, 2) := by decide +kernel
theorem dX5_back_38 : decode cX5_back 38 = .ok (.dup2, 1) := by decide +kernel
theorem dX5_back_39 : decode cX5_back 39 = .ok (.iaload, 1) := by decide +kernel
theorem dX5_back_40 : decode cX5_back 40 = .ok (.iconst 1, 1) := by decide +kernel
theorem dX5_back_41 : decode cX5_back 41 = .ok (.isub, 1) := by decide +kernel
theorem dX5_back_42 : decode cX5_back 42 = .ok (.iastore, 1) := by decide +kernel
theorem dX5_back_43 : decode cX5_back 43 = .ok (.aload_n 0, 1) := by decide +kernel
theorem dX5_back_44 : decode cX5_back 44 = .ok (.getfield 7, 3) := by decide +kernel
theorem dX5_back_47 : decode cX5_back 47 = .ok (.bipush 48, 2) := by decide +kernel
theorem dX5_back_49 : decode cX5_back 49 = .ok (.aload_n 0, 1) := by decide +kernel
theorem dX5_back_50 : decode cX5_back 50 = .ok (.getfield 7, 3) := by decide +kernel
theorem dX5_back_53 : decode cX5_back 53 = .ok (.bipush 47, 2) := by decide +kernel
theorem dX5_back_55 : decode cX5_back 55 = .ok (.iaload, 1) := by decide +kernel
theorem dX5_back_56 : decode cX5_back 56 = .ok (.iadd, 1) := by decide +kernel
theorem dX5_back_57 : decode cX5_back 57 = .ok (.iaload, 1) := by decide +kernel
theorem dX5_back_58 : decode cX5_back 58 = .ok (.istore_n 1, 1) := by decide +kernel
theorem dX5_back_59 : decode cX5_back 59 = .ok (.aload_n 0, 1) := by decide +kernel
theorem dX5_back_60 : decode cX5_back 60 = .ok (.getfield 7, 3) := by decide +kernel
theorem dX5_back_63 : decode cX5_back 63 = .ok (.bipush 48, 2) := by decide +kernel
theorem dX5_back_65 : decode cX5_back 65 = .ok (.aload_n 0, 1) := by decide +kernel
theorem dX5_back_66 : decode cX5_back 66 = .ok (.getfield 7, 3) := by decide +kernel
theorem dX5_back_69 : decode cX5_back 69 = .ok (.bipush 47, 2) := by decide +kernel
theorem dX5_back_71 : decode cX5_back 71 = .ok (.iaload, 1) := by decide +kernel
theorem dX5_back_72 : decode cX5_back 72 = .ok (.iadd, 1) := by decide +kernel
theorem dX5_back_73 : decode cX5_back 73 = .ok (.iconst 0, 1) := by decide +kernel
theorem dX5_back_74 : decode cX5_back 74 = .ok (.iastore, 1) := by decide +kernel
theorem dX5_back_75 : decode cX5_back 75 = .ok (.aload_n 0, 1) := by decide +kernel
theorem dX5_back_76 : decode cX5_back 76 = .ok (.iload_n 1, 1) := by decide +kernel
theorem dX5_back_77 : decode cX5_back 77 = .ok (.iconst 1, 1) := by decide +kernel
theorem dX5_back_78 : decode cX5_back 78 = .ok (.iconst (-1), 1) := by decide +kernel
theorem dX5_back_79 : decode cX5_back 79 = .ok (.invokevirtual 83, 3) := by decide +kernel
theorem dX5_back_82 : decode cX5_back 82 = .ok (.aload_n 0, 1) := by decide +kernel
theorem dX5_back_83 : decode cX5_back 83 = .ok (.getfield 7, 3) := by decide +kernel
theorem dX5_back_86 : decode cX5_back 86 = .ok (.bipush 55, 2) := by decide +kernel
theorem dX5_back_88 : decode cX5_back 88 = .ok (.dup2, 1) := by decide +kernel
theorem dX5_back_89 : decode cX5_back 89 = .ok (.iaload, 1) := by decide +kernel
theorem dX5_back_90 : decode cX5_back 90 = .ok (.iconst 1, 1) := by decide +kernel
theorem dX5_back_91 : decode cX5_back 91 = .ok (.iadd, 1) := by decide +kernel
theorem dX5_back_92 : decode cX5_back 92 = .ok (.iastore, 1) := by decide +kernel
theorem dX5_back_93 : decode cX5_back 93 = .ok (.iload_n 1, 1) := by decide +kernel
theorem dX5_back_94 : decode cX5_back 94 = .ok (.ireturn, 1) := by decide +kernel
theorem dX5_onlyHue_0 : decode cX5_onlyHue 0 = .ok (.aload_n 0, 1) := by decide +kernel
theorem dX5_onlyHue_1 : decode cX5_onlyHue 1 = .ok (.iload_n 1, 1) := by decide +kernel
theorem dX5_onlyHue_2 : decode cX5_onlyHue 2 = .ok (.invokevirtual 107, 3) := by decide +kernel
theorem dX5_onlyHue_5 : decode cX5_onlyHue 5 = .ok (.iconst 1, 1) := by decide +kernel
theorem dX5_onlyHue_6 : decode cX5_onlyHue 6 = .ok (.if_icmp .eq 5, 3) := by decide +kernel
theorem dX5_onlyHue_9 : decode cX5_onlyHue 9 = .ok (.iconst (-1), 1) := by decide +kernel
theorem dX5_onlyHue_10 : decode cX5_onlyHue 10 = .ok (.ireturn, 1) := by decide +kernel
theorem dX5_onlyHue_11 : decode cX5_onlyHue 11 = .ok (.iconst 0, 1) := by decide +kernel
theorem dX5_onlyHue_12 : decode cX5_onlyHue 12 = .ok (.istore_n 2, 1) := by decide +kernel
theorem dX5_onlyHue_13 : decode cX5_onlyHue 13 = .ok (.aload_n 0, 1) := by decide +kernel
theorem dX5_onlyHue_14 : decode cX5_onlyHue 14 = .ok (.iload_n 1, 1) := by decide +kernel
theorem dX5_onlyHue_15 : decode cX5_onlyHue 15 = .ok (.iload_n 2, 1) := by decide +kernel
theorem dX5_onlyHue_16 : decode cX5_onlyHue 16 = .ok (.invokevirtual 100, 3) := by decide +kernel
theorem dX5_onlyHue_19 : decode cX5_onlyHue 19 = .ok (.ifCond .ne 9, 3) := by decide +kernel
theorem dX5_onlyHue_22 : decode cX5_onlyHue 22 = .ok (.iinc 2 1, 3) := by decide +kernel
theorem dX5_onlyHue_25 : decode cX5_onlyHue 25 = .ok (.goto (-12), 3) := by decide +kernel
theorem dX5_onlyHue_28 : decode cX5_onlyHue 28 = .ok (.iload_n 2, 1) := by decide +kernel
theorem dX5_onlyHue_29 : decode cX5_onlyHue 29 = .ok (.ireturn, 1) := by decide +kernel
theorem dX5_fill_0 : decode cX5_fill 0 = .ok (.aload_n 0, 1) := by decide +kernel
theorem dX5_fill_1 : decode cX5_fill 1 = .ok (.iconst 0, 1) := by decide +kernel
theorem dX5_fill_2 : decode cX5_fill 2 = .ok (.putfield 39, 3) := by decide +kernel
theorem dX5_fill_5 : decode cX5_fill 5 = .ok (.aload_n 0, 1) := by decide +kernel
theorem dX5_fill_6 : decode cX5_fill 6 = .ok (.aload_n 0, 1) := by decide +kernel
theorem dX5_fill_7 : decode cX5_fill 7 = .ok (.getfield 7, 3) := by decide +kernel
theorem dX5_fill_10 : decode cX5_fill 10 = .ok (.invokevirtual 79, 3) := by decide +kernel
theorem dX5_fill_13 : decode cX5_fill 13 = .ok (.iconst 0, 1) := by decide +kernel
theorem dX5_fill_14 : decode cX5_fill 14 = .ok (.istore_n 1, 1) := by decide +kernel
theorem dX5_fill_15 : decode cX5_fill 15 = .ok (.iconst 0, 1) := by decide +kernel
theorem dX5_fill_16 : decode cX5_fill 16 = .ok (.istore_n 2, 1) := by decide +kernel
theorem dX5_fill_17 : decode cX5_fill 17 = .ok (.iload_n 2, 1) := by decide +kernel
theorem dX5_fill_18 : decode cX5_fill 18 = .ok (.aload_n 0, 1) := by decide +kernel
theorem dX5_fill_19 : decode cX5_fill 19 = .ok (.getfield 7, 3) := by decide +kernel
theorem dX5_fill_22 : decode cX5_fill 22 = .ok (.iconst 0, 1) := by decide +kernel
theorem dX5_fill_23 : decode cX5_fill 23 = .ok (.iaload, 1) := by decide +kernel
theorem dX5_fill_24 : decode cX5_fill 24 = .ok (.if_icmp .ge 33, 3) := by decide +kernel
theorem dX5_fill_27 : decode cX5_fill 27 = .ok (.aload_n 0, 1) := by decide +kernel
theorem dX5_fill_28 : decode cX5_fill 28 = .ok (.iload_n 2, 1) := by decide +kernel
theorem dX5_fill_29 : decode cX5_fill 29 = .ok (.invokevirtual 129, 3) := by decide +kernel
theorem dX5_fill_32 : decode cX5_fill 32 = .ok (.istore_n 3, 1) := by decide +kernel
theorem dX5_fill_33 : decode cX5_fill 33 = .ok (.iload_n 3, 1) := by decide +kernel
theorem dX5_fill_34 : decode cX5_fill 34 = .ok (.ifCond .ge 9, 3) := by decide +kernel
theorem dX5_fill_37 : decode cX5_fill 37 = .ok (.iinc 2 1, 3) := by decide +kernel
theorem dX5_fill_40 : decode cX5_fill 40 = .ok (.goto (-23), 3) := by decide +kernel
theorem dX5_fill_43 : decode cX5_fill 43 = .ok (.aload_n 0, 1) := by decide +kernel
theorem dX5_fill_44 : decode cX5_fill 44 = .ok (.iload_n 2, 1) := by decide +kernel
theorem dX5_fill_45 : decode cX5_fill 45 = .ok (.iload_n 3, 1) := by decide +kernel
theorem dX5_fill_46 : decode cX5_fill 46 = .ok (.invokevirtual 125, 3) := by decide +kernel
theorem dX5_fill_49 : decode cX5_fill 49 = .ok (.iinc 1 1, 3) := by decide +kernel
theorem dX5_fill_52 : decode cX5_fill 52 = .ok (.iconst 0, 1) := by decide +kernel
theorem dX5_fill_53 : decode cX5_fill 53 = .ok (.istore_n 2, 1) := by decide +kernel
theorem dX5_fill_54 : decode cX5_fill 54 = .ok (.goto (-37), 3) := by decide +kernel
theorem dX5_fill_57 : decode cX5_fill 57 = .ok (.iload_n 1, 1) := by decide +kernel
theorem dX5_fill_58 : decode cX5_fill 58 = .ok (.ireturn, 1) := by decide +kernel
theorem dX5_step_0 : decode cX5_step 0 = .ok (.aload_n 0, 1) := by decide +kernel
theorem dX5_step_1 : decode cX5_step 1 = .ok (.iload_n 1, 1) := by decide +kernel
theorem dX5_step_2 : decode cX5_step 2 = .ok (.iconst 0, 1) := by decide +kernel
theorem dX5_step_3 : decode cX5_step 3 = .ok (.aload_n 0, 1) := by decide +kernel
theorem dX5_step_4 : decode cX5_step 4 = .ok (.getfield 7, 3) := by decide +kernel
theorem dX5_step_7 : decode cX5_step 7 = .ok (.bipush 47, 2) := by decide +kernel
theorem dX5_step_9 : decode cX5_step 9 = .ok (.iaload, 1) := by decide +kernel
theorem dX5_step_10 : decode cX5_step 10 = .ok (.iconst 1, 1) := by decide +kernel
theorem dX5_step_11 : decode cX5_step 11 = .ok (.isub, 1) := by decide +kernel
theorem dX5_step_12 : decode cX5_step 12 = .ok (.invokestatic 59, 3) := by decide +kernel
theorem dX5_step_15 : decode cX5_step 15 = .ok (.ifCond .eq 7, 3) := by decide +kernel
theorem dX5_step_18 : decode cX5_step 18 = .ok (.iconst 0, 1) := by decide +kernel
theorem dX5_step_19 : decode cX5_step 19 = .ok (.goto 4, 3) := by decide +kernel
theorem dX5_step_22 : decode cX5_step 22 = .ok (.iconst 1, 1) := by decide +kernel
theorem dX5_step_23 : decode cX5_step 23 = .ok (.invokevirtual 71, 3) := by decide +kernel
theorem dX5_step_26 : decode cX5_step 26 = .ok (.ifCond .eq 7, 3) := by decide +kernel
theorem dX5_step_29 : decode cX5_step 29 = .ok (.iconst 0, 1) := by decide +kernel
theorem dX5_step_30 : decode cX5_step 30 = .ok (.goto 12, 3) := by decide +kernel
theorem dX5_step_33 : decode cX5_step 33 = .ok (.aload_n 0, 1) := by decide +kernel
theorem dX5_step_34 : decode cX5_step 34 = .ok (.getfield 7, 3) := by decide +kernel
theorem dX5_step_37 : decode cX5_step 37 = .ok (.bipush 48, 2) := by decide +kernel
theorem dX5_step_39 : decode cX5_step 39 = .ok (.iload_n 1, 1) := by decide +kernel
theorem dX5_step_40 : decode cX5_step 40 = .ok (.iadd, 1) := by decide +kernel
theorem dX5_step_41 : decode cX5_step 41 = .ok (.iaload, 1) := by decide +kernel
theorem dX5_step_42 : decode cX5_step 42 = .ok (.ireturn, 1) := by decide +kernel
theorem dX5_isStuck_0 : decode cX5_isStuck 0 = .ok (.aload_n 0, 1) := by decide +kernel
theorem dX5_isStuck_1 : decode cX5_isStuck 1 = .ok (.iload_n 1, 1) := by decide +kernel
theorem dX5_isStuck_2 : decode cX5_isStuck 2 = .ok (.invokevirtual 90, 3) := by decide +kernel
theorem dX5_isStuck_5 : decode cX5_isStuck 5 = .ok (.ifCond .ne 15, 3) := by decide +kernel
theorem dX5_isStuck_8 : decode cX5_isStuck 8 = .ok (.aload_n 0, 1) := by decide +kernel
theorem dX5_isStuck_9 : decode cX5_isStuck 9 = .ok (.iload_n 1, 1) := by decide +kernel
theorem dX5_isStuck_10 : decode cX5_isStuck 10 = .ok (.invokevirtual 107, 3) := by decide +kernel
theorem dX5_isStuck_13 : decode cX5_isStuck 13 = .ok (.ifCond .ne 7, 3) := by decide +kernel
theorem dX5_isStuck_16 : decode cX5_isStuck 16 = .ok (.iconst 1, 1) := by decide +kernel
theorem dX5_isStuck_17 : decode cX5_isStuck 17 = .ok (.goto 4, 3) := by decide +kernel
theorem dX5_isStuck_20 : decode cX5_isStuck 20 = .ok (.iconst 0, 1) := by decide +kernel
theorem dX5_isStuck_21 : decode cX5_isStuck 21 = .ok (.ireturn, 1) := by decide +kernel
theorem dX5_stuck_0 : decode cX5_stuck 0 = .ok (.iconst 0, 1) := by decide +kernel
theorem dX5_stuck_1 : decode cX5_stuck 1 = .ok (.istore_n 1, 1) := by decide +kernel
theorem dX5_stuck_2 : decode cX5_stuck 2 = .ok (.iload_n 1, 1) := by decide +kernel
theorem dX5_stuck_3 : decode cX5_stuck 3 = .ok (.aload_n 0, 1) := by decide +kernel
theorem dX5_stuck_4 : decode cX5_stuck 4 = .ok (.getfield 7, 3) := by decide +kernel
theorem dX5_stuck_7 : decode cX5_stuck 7 = .ok (.iconst 0, 1) := by decide +kernel
theorem dX5_stuck_8 : decode cX5_stuck 8 = .ok (.iaload, 1) := by decide +kernel
theorem dX5_stuck_9 : decode cX5_stuck 9 = .ok (.if_icmp .ge 17, 3) := by decide +kernel
theorem dX5_stuck_12 : decode cX5_stuck 12 = .ok (.aload_n 0, 1) := by decide +kernel
theorem dX5_stuck_13 : decode cX5_stuck 13 = .ok (.iload_n 1, 1) := by decide +kernel
theorem dX5_stuck_14 : decode cX5_stuck 14 = .ok (.invokevirtual 132, 3) := by decide +kernel
theorem dX5_stuck_17 : decode cX5_stuck 17 = .ok (.ifCond .ne 9, 3) := by decide +kernel
theorem dX5_stuck_20 : decode cX5_stuck 20 = .ok (.iinc 1 1, 3) := by decide +kernel
theorem dX5_stuck_23 : decode cX5_stuck 23 = .ok (.goto (-21), 3) := by decide +kernel
theorem dX5_stuck_26 : decode cX5_stuck 26 = .ok (.aload_n 0, 1) := by decide +kernel
theorem dX5_stuck_27 : decode cX5_stuck 27 = .ok (.iload_n 1, 1) := by decide +kernel
theorem dX5_stuck_28 : decode cX5_stuck 28 = .ok (.aload_n 0, 1) := by decide +kernel
theorem dX5_stuck_29 : decode cX5_stuck 29 = .ok (.getfield 7, 3) := by decide +kernel
theorem dX5_stuck_32 : decode cX5_stuck 32 = .ok (.iconst 0, 1) := by decide +kernel
theorem dX5_stuck_33 : decode cX5_stuck 33 = .ok (.iaload, 1) := by decide +kernel
theorem dX5_stuck_34 : decode cX5_stuck 34 = .ok (.if_icmp .ne 7, 3) := by decide +kernel
theorem dX5_stuck_37 : decode cX5_stuck 37 = .ok (.iconst 1, 1) := by decide +kernel
theorem dX5_stuck_38 : decode cX5_stuck 38 = .ok (.goto 4, 3) := by decide +kernel
theorem dX5_stuck_41 : decode cX5_stuck 41 = .ok (.iconst 0, 1) := by decide +kernel
theorem dX5_stuck_42 : decode cX5_stuck 42 = .ok (.invokevirtual 71, 3) := by decide +kernel
theorem dX5_stuck_45 : decode cX5_stuck 45 = .ok (.ifCond .eq 7, 3) := by decide +kernel
theorem dX5_stuck_48 : decode cX5_stuck 48 = .ok (.iconst 0, 1) := by decide +kernel
theorem dX5_stuck_49 : decode cX5_stuck 49 = .ok (.goto 4, 3) := by decide +kernel
theorem dX5_stuck_52 : decode cX5_stuck 52 = .ok (.iload_n 1, 1) := by decide +kernel
theorem dX5_stuck_53 : decode cX5_stuck 53 = .ok (.ireturn, 1) := by decide +kernel
theorem dX5_plainNeighbours_0 : decode cX5_plainNeighbours 0 = .ok (.iconst 0, 1) := by decide +kernel
theorem dX5_plainNeighbours_1 : decode cX5_plainNeighbours 1 = .ok (.istore_n 2, 1) := by decide +kernel
theorem dX5_plainNeighbours_2 : decode cX5_plainNeighbours 2 = .ok (.iconst 0, 1) := by decide +kernel
theorem dX5_plainNeighbours_3 : decode cX5_plainNeighbours 3 = .ok (.istore_n 3, 1) := by decide +kernel
theorem dX5_plainNeighbours_4 : decode cX5_plainNeighbours 4 = .ok (.iload_n 3, 1) := by decide +kernel
theorem dX5_plainNeighbours_5 : decode cX5_plainNeighbours 5 = .ok (.aload_n 0, 1) := by decide +kernel
theorem dX5_plainNeighbours_6 : decode cX5_plainNeighbours 6 = .ok (.getfield 7, 3) := by decide +kernel
theorem dX5_plainNeighbours_9 : decode cX5_plainNeighbours 9 = .ok (.iconst 0, 1) := by decide +kernel
theorem dX5_plainNeighbours_10 : decode cX5_plainNeighbours 10 = .ok (.iaload, 1) := by decide +kernel
theorem dX5_plainNeighbours_11 : decode cX5_plainNeighbours 11 = .ok (.if_icmp .ge 34, 3) := by decide +kernel
theorem dX5_plainNeighbours_14 : decode cX5_plainNeighbours 14 = .ok (.iload_n 2, 1) := by decide +kernel
theorem dX5_plainNeighbours_15 : decode cX5_plainNeighbours 15 = .ok (.aload_n 0, 1) := by decide +kernel
theorem dX5_plainNeighbours_16 : decode cX5_plainNeighbours 16 = .ok (.iload_n 1, 1) := by decide +kernel
theorem dX5_plainNeighbours_17 : decode cX5_plainNeighbours 17 = .ok (.iload_n 3, 1) := by decide +kernel
theorem dX5_plainNeighbours_18 : decode cX5_plainNeighbours 18 = .ok (.invokevirtual 67, 3) := by decide +kernel
theorem dX5_plainNeighbours_21 : decode cX5_plainNeighbours 21 = .ok (.ifCond .eq 15, 3) := by decide +kernel
theorem dX5_plainNeighbours_24 : decode cX5_plainNeighbours 24 = .ok (.aload_n 0, 1) := by decide +kernel
theorem dX5_plainNeighbours_25 : decode cX5_plainNeighbours 25 = .ok (.iload_n 3, 1) := by decide +kernel
theorem dX5_plainNeighbours_26 : decode cX5_plainNeighbours 26 = .ok (.invokevirtual 90, 3) := by decide +kernel
theorem dX5_plainNeighbours_29 : decode cX5_plainNeighbours 29 = .ok (.ifCond .ne 7, 3) := by decide +kernel
theorem dX5_plainNeighbours_32 : decode cX5_plainNeighbours 32 = .ok (.iconst 1, 1) := by decide +kernel
theorem dX5_plainNeighbours_33 : decode cX5_plainNeighbours 33 = .ok (.goto 4, 3) := by decide +kernel
theorem dX5_plainNeighbours_36 : decode cX5_plainNeighbours 36 = .ok (.iconst 0, 1) := by decide +kernel
theorem dX5_plainNeighbours_37 : decode cX5_plainNeighbours 37 = .ok (.iadd, 1) := by decide +kernel
theorem dX5_plainNeighbours_38 : decode cX5_plainNeighbours 38 = .ok (.istore_n 2, 1) := by decide +kernel
theorem dX5_plainNeighbours_39 : decode cX5_plainNeighbours 39 = .ok (.iinc 3 1, 3) := by decide +kernel
theorem dX5_plainNeighbours_42 : decode cX5_plainNeighbours 42 = .ok (.goto (-38), 3) := by decide +kernel
theorem dX5_plainNeighbours_45 : decode cX5_plainNeighbours 45 = .ok (.iload_n 2, 1) := by decide +kernel
theorem dX5_plainNeighbours_46 : decode cX5_plainNeighbours 46 = .ok (.ireturn, 1) := by decide +kernel
theorem dX5_next_0 : decode cX5_next 0 = .ok (.iconst (-1), 1) := by decide +kernel
theorem dX5_next_1 : decode cX5_next 1 = .ok (.istore_n 1, 1) := by decide +kernel
theorem dX5_next_2 : decode cX5_next 2 = .ok (.iconst 0, 1) := by decide +kernel
theorem dX5_next_3 : decode cX5_next 3 = .ok (.istore_n 2, 1) := by decide +kernel
theorem dX5_next_4 : decode cX5_next 4 = .ok (.iload_n 2, 1) := by decide +kernel
theorem dX5_next_5 : decode cX5_next 5 = .ok (.aload_n 0, 1) := by decide +kernel
theorem dX5_next_6 : decode cX5_next 6 = .ok (.getfield 7, 3) := by decide +kernel
theorem dX5_next_9 : decode cX5_next 9 = .ok (.iconst 0, 1) := by decide +kernel
theorem dX5_next_10 : decode cX5_next 10 = .ok (.iaload, 1) := by decide +kernel
theorem dX5_next_11 : decode cX5_next 11 = .ok (.if_icmp .ge 65, 3) := by decide +kernel
theorem dX5_next_14 : decode cX5_next 14 = .ok (.aload_n 0, 1) := by decide +kernel
theorem dX5_next_15 : decode cX5_next 15 = .ok (.iload_n 2, 1) := by decide +kernel
theorem dX5_next_16 : decode cX5_next 16 = .ok (.invokevirtual 90, 3) := by decide +kernel
theorem dX5_next_19 : decode cX5_next 19 = .ok (.ifCond .eq 6, 3) := by decide +kernel
theorem dX5_next_22 : decode cX5_next 22 = .ok (.goto 48, 3) := by decide +kernel
theorem dX5_next_25 : decode cX5_next 25 = .ok (.iload_n 1, 1) := by decide +kernel
theorem dX5_next_26 : decode cX5_next 26 = .ok (.ifCond .lt 42, 3) := by decide +kernel
theorem dX5_next_29 : decode cX5_next 29 = .ok (.aload_n 0, 1) := by decide +kernel
theorem dX5_next_30 : decode cX5_next 30 = .ok (.iload_n 2, 1) := by decide +kernel
theorem dX5_next_31 : decode cX5_next 31 = .ok (.invokevirtual 107, 3) := by decide +kernel
theorem dX5_next_34 : decode cX5_next 34 = .ok (.aload_n 0, 1) := by decide +kernel
theorem dX5_next_35 : decode cX5_next 35 = .ok (.iload_n 1, 1) := by decide +kernel
theorem dX5_next_36 : decode cX5_next 36 = .ok (.invokevirtual 107, 3) := by decide +kernel
theorem dX5_next_39 : decode cX5_next 39 = .ok (.if_icmp .lt 29, 3) := by decide +kernel
theorem dX5_next_42 : decode cX5_next 42 = .ok (.aload_n 0, 1) := by decide +kernel
theorem dX5_next_43 : decode cX5_next 43 = .ok (.iload_n 2, 1) := by decide +kernel
theorem dX5_next_44 : decode cX5_next 44 = .ok (.invokevirtual 107, 3) := by decide +kernel
theorem dX5_next_47 : decode cX5_next 47 = .ok (.aload_n 0, 1) := by decide +kernel
theorem dX5_next_48 : decode cX5_next 48 = .ok (.iload_n 1, 1) := by decide +kernel
theorem dX5_next_49 : decode cX5_next 49 = .ok (.invokevirtual 107, 3) := by decide +kernel
theorem dX5_next_52 : decode cX5_next 52 = .ok (.if_icmp .ne 18, 3) := by decide +kernel
theorem dX5_next_55 : decode cX5_next 55 = .ok (.aload_n 0, 1) := by decide +kernel
theorem dX5_next_56 : decode cX5_next 56 = .ok (.iload_n 2, 1) := by decide +kernel
theorem dX5_next_57 : decode cX5_next 57 = .ok (.invokevirtual 135, 3) := by decide +kernel
theorem dX5_next_60 : decode cX5_next 60 = .ok (.aload_n 0, 1) := by decide +kernel
theorem dX5_next_61 : decode cX5_next 61 = .ok (.iload_n 1, 1) := by decide +kernel
theorem dX5_next_62 : decode cX5_next 62 = .ok (.invokevirtual 135, 3) := by decide +kernel
theorem dX5_next_65 : decode cX5_next 65 = .ok (.if_icmp .le 5, 3) := by decide +kernel
theorem dX5_next_68 : decode cX5_next 68 = .ok (.iload_n 2, 1) := by decide +kernel
theorem dX5_next_69 : decode cX5_next 69 = .ok (.istore_n 1, 1) := by decide +kernel
theorem dX5_next_70 : decode cX5_next 70 = .ok (.iinc 2 1, 3) := by decide +kernel
theorem dX5_next_73 : decode cX5_next 73 = .ok (.goto (-69), 3) := by decide +kernel
theorem dX5_next_76 : decode cX5_next 76 = .ok (.aload_n 0, 1) := by decide +kernel
theorem dX5_next_77 : decode cX5_next 77 = .ok (.iload_n 1, 1) := by decide +kernel
theorem dX5_next_78 : decode cX5_next 78 = .ok (.ifCond .ge 7, 3) := by decide +kernel
theorem dX5_next_81 : decode cX5_next 81 = .ok (.iconst 1, 1) := by decide +kernel
theorem dX5_next_82 : decode cX5_next 82 = .ok (.goto 4, 3) := by decide +kernel
theorem dX5_next_85 : decode cX5_next 85 = .ok (.iconst 0, 1) := by decide +kernel
theorem dX5_next_86 : decode cX5_next 86 = .ok (.invokevirtual 71, 3) := by decide +kernel
theorem dX5_next_89 : decode cX5_next 89 = .ok (.ifCond .eq 7, 3) := by decide +kernel
theorem dX5_next_92 : decode cX5_next 92 = .ok (.iconst 0, 1) := by decide +kernel
theorem dX5_next_93 : decode cX5_next 93 = .ok (.goto 4, 3) := by decide +kernel
theorem dX5_next_96 : decode cX5_next 96 = .ok (.iload_n 1, 1) := by decide +kernel
theorem dX5_next_97 : decode cX5_next 97 = .ok (.ireturn, 1) := by decide +kernel
theorem dX5_takes_0 : decode cX5_takes 0 = .ok (.iconst 0, 1) := by decide +kernel
theorem dX5_takes_1 : decode cX5_takes 1 = .ok (.istore_n 3, 1) := by decide +kernel
theorem dX5_takes_2 : decode cX5_takes 2 = .ok (.iconst 0, 1) := by decide +kernel
theorem dX5_takes_3 : decode cX5_takes 3 = .ok (.istore 4, 2) := by decide +kernel
theorem dX5_takes_5 : decode cX5_takes 5 = .ok (.iload 4, 2) := by decide +kernel
theorem dX5_takes_7 : decode cX5_takes 7 = .ok (.aload_n 0, 1) := by decide +kernel
theorem dX5_takes_8 : decode cX5_takes 8 = .ok (.getfield 7, 3) := by decide +kernel
theorem dX5_takes_11 : decode cX5_takes 11 = .ok (.iconst 0, 1) := by decide +kernel
theorem dX5_takes_12 : decode cX5_takes 12 = .ok (.iaload, 1) := by decide +kernel
theorem dX5_takes_13 : decode cX5_takes 13 = .ok (.if_icmp .ge 37, 3) := by decide +kernel
theorem dX5_takes_16 : decode cX5_takes 16 = .ok (.iload_n 3, 1) := by decide +kernel
theorem dX5_takes_17 : decode cX5_takes 17 = .ok (.aload_n 0, 1) := by decide +kernel
theorem dX5_takes_18 : decode cX5_takes 18 = .ok (.iload_n 1, 1) := by decide +kernel
theorem dX5_takes_19 : decode cX5_takes 19 = .ok (.iload 4, 2) := by decide +kernel
theorem dX5_takes_21 : decode cX5_takes 21 = .ok (.invokevirtual 67, 3) := by decide +kernel
theorem dX5_takes_24 : decode cX5_takes 24 = .ok (.ifCond .eq 17, 3) := by decide +kernel
theorem dX5_takes_27 : decode cX5_takes 27 = .ok (.aload_n 0, 1) := by decide +kernel
theorem dX5_takes_28 : decode cX5_takes 28 = .ok (.iload 4, 2) := by decide +kernel
theorem dX5_takes_30 : decode cX5_takes 30 = .ok (.iload_n 2, 1) := by decide +kernel
theorem dX5_takes_31 : decode cX5_takes 31 = .ok (.invokevirtual 100, 3) := by decide +kernel
theorem dX5_takes_34 : decode cX5_takes 34 = .ok (.ifCond .eq 7, 3) := by decide +kernel
theorem dX5_takes_37 : decode cX5_takes 37 = .ok (.iconst 1, 1) := by decide +kernel
theorem dX5_takes_38 : decode cX5_takes 38 = .ok (.goto 4, 3) := by decide +kernel
theorem dX5_takes_41 : decode cX5_takes 41 = .ok (.iconst 0, 1) := by decide +kernel
theorem dX5_takes_42 : decode cX5_takes 42 = .ok (.iadd, 1) := by decide +kernel
theorem dX5_takes_43 : decode cX5_takes 43 = .ok (.istore_n 3, 1) := by decide +kernel
theorem dX5_takes_44 : decode cX5_takes 44 = .ok (.iinc 4 1, 3) := by decide +kernel
theorem dX5_takes_47 : decode cX5_takes 47 = .ok (.goto (-42), 3) := by decide +kernel
theorem dX5_takes_50 : decode cX5_takes 50 = .ok (.iload_n 3, 1) := by decide +kernel
theorem dX5_takes_51 : decode cX5_takes 51 = .ok (.ireturn, 1) := by decide +kernel
theorem dX5_gentle_0 : decode cX5_gentle 0 = .ok (.aload_n 0, 1) := by decide +kernel
theorem dX5_gentle_1 : decode cX5_gentle 1 = .ok (.aload_n 0, 1) := by decide +kernel
theorem dX5_gentle_2 : decode cX5_gentle 2 = .ok (.iload_n 1, 1) := by decide +kernel
theorem dX5_gentle_3 : decode cX5_gentle 3 = .ok (.invokevirtual 87, 3) := by decide +kernel
theorem dX5_gentle_6 : decode cX5_gentle 6 = .ok (.ifCond .eq 7, 3) := by decide +kernel
theorem dX5_gentle_9 : decode cX5_gentle 9 = .ok (.iconst 0, 1) := by decide +kernel
theorem dX5_gentle_10 : decode cX5_gentle 10 = .ok (.goto 4, 3) := by decide +kernel
theorem dX5_gentle_13 : decode cX5_gentle 13 = .ok (.iconst 1, 1) := by decide +kernel
theorem dX5_gentle_14 : decode cX5_gentle 14 = .ok (.invokevirtual 71, 3) := by decide +kernel
theorem dX5_gentle_17 : decode cX5_gentle 17 = .ok (.ifCond .eq 5, 3) := by decide +kernel
theorem dX5_gentle_20 : decode cX5_gentle 20 = .ok (.iconst 0, 1) := by decide +kernel
theorem dX5_gentle_21 : decode cX5_gentle 21 = .ok (.ireturn, 1) := by decide +kernel
theorem dX5_gentle_22 : decode cX5_gentle 22 = .ok (.iconst (-1), 1) := by decide +kernel
theorem dX5_gentle_23 : decode cX5_gentle 23 = .ok (.istore_n 2, 1) := by decide +kernel
theorem dX5_gentle_24 : decode cX5_gentle 24 = .ok (.iconst 0, 1) := by decide +kernel
theorem dX5_gentle_25 : decode cX5_gentle 25 = .ok (.istore_n 3, 1) := by decide +kernel
theorem dX5_gentle_26 : decode cX5_gentle 26 = .ok (.iload_n 3, 1) := by decide +kernel
theorem dX5_gentle_27 : decode cX5_gentle 27 = .ok (.iconst 5, 1) := by decide +kernel
theorem dX5_gentle_28 : decode cX5_gentle 28 = .ok (.if_icmp .ge 39, 3) := by decide +kernel
theorem dX5_gentle_31 : decode cX5_gentle 31 = .ok (.aload_n 0, 1) := by decide +kernel
theorem dX5_gentle_32 : decode cX5_gentle 32 = .ok (.iload_n 1, 1) := by decide +kernel
theorem dX5_gentle_33 : decode cX5_gentle 33 = .ok (.iload_n 3, 1) := by decide +kernel
theorem dX5_gentle_34 : decode cX5_gentle 34 = .ok (.invokevirtual 100, 3) := by decide +kernel
theorem dX5_gentle_37 : decode cX5_gentle 37 = .ok (.ifCond .eq 24, 3) := by decide +kernel
theorem dX5_gentle_40 : decode cX5_gentle 40 = .ok (.iload_n 2, 1) := by decide +kernel
theorem dX5_gentle_41 : decode cX5_gentle 41 = .ok (.ifCond .lt 18, 3) := by decide +kernel
theorem dX5_gentle_44 : decode cX5_gentle 44 = .ok (.aload_n 0, 1) := by decide +kernel
theorem dX5_gentle_45 : decode cX5_gentle 45 = .ok (.iload_n 1, 1) := by decide +kernel
theorem dX5_gentle_46 : decode cX5_gentle 46 = .ok (.iload_n 3, 1) := by decide +kernel
theorem dX5_gentle_47 : decode cX5_gentle 47 = .ok (.invokevirtual 138, 3) := by decide +kernel
theorem dX5_gentle_50 : decode cX5_gentle 50 = .ok (.aload_n 0, 1) := by decide +kernel
theorem dX5_gentle_51 : decode cX5_gentle 51 = .ok (.iload_n 1, 1) := by decide +kernel
theorem dX5_gentle_52 : decode cX5_gentle 52 = .ok (.iload_n 2, 1) := by decide +kernel
theorem dX5_gentle_53 : decode cX5_gentle 53 = .ok (.invokevirtual 138, 3) := by decide +kernel
theorem dX5_gentle_56 : decode cX5_gentle 56 = .ok (.if_icmp .ge 5, 3) := by decide +kernel
theorem dX5_gentle_59 : decode cX5_gentle 59 = .ok (.iload_n 3, 1) := by decide +kernel
theorem dX5_gentle_60 : decode cX5_gentle 60 = .ok (.istore_n 2, 1) := by decide +kernel
theorem dX5_gentle_61 : decode cX5_gentle 61 = .ok (.iinc 3 1, 3) := by decide +kernel
theorem dX5_gentle_64 : decode cX5_gentle 64 = .ok (.goto (-38), 3) := by decide +kernel
theorem dX5_gentle_67 : decode cX5_gentle 67 = .ok (.aload_n 0, 1) := by decide +kernel
theorem dX5_gentle_68 : decode cX5_gentle 68 = .ok (.iload_n 2, 1) := by decide +kernel
theorem dX5_gentle_69 : decode cX5_gentle 69 = .ok (.ifCond .ge 7, 3) := by decide +kernel
theorem dX5_gentle_72 : decode cX5_gentle 72 = .ok (.iconst 2, 1) := by decide +kernel
theorem dX5_gentle_73 : decode cX5_gentle 73 = .ok (.goto 4, 3) := by decide +kernel
theorem dX5_gentle_76 : decode cX5_gentle 76 = .ok (.iconst 0, 1) := by decide +kernel
theorem dX5_gentle_77 : decode cX5_gentle 77 = .ok (.invokevirtual 71, 3) := by decide +kernel
theorem dX5_gentle_80 : decode cX5_gentle 80 = .ok (.ifCond .eq 7, 3) := by decide +kernel
theorem dX5_gentle_83 : decode cX5_gentle 83 = .ok (.iconst 0, 1) := by decide +kernel
theorem dX5_gentle_84 : decode cX5_gentle 84 = .ok (.goto 4, 3) := by decide +kernel
theorem dX5_gentle_87 : decode cX5_gentle 87 = .ok (.iload_n 2, 1) := by decide +kernel
theorem dX5_gentle_88 : decode cX5_gentle 88 = .ok (.ireturn, 1) := by decide +kernel
theorem dX5_wish_0 : decode cX5_wish 0 = .ok (.aload_n 0, 1) := by decide +kernel
theorem dX5_wish_1 : decode cX5_wish 1 = .ok (.aload_n 0, 1) := by decide +kernel
theorem dX5_wish_2 : decode cX5_wish 2 = .ok (.iload_n 1, 1) := by decide +kernel
theorem dX5_wish_3 : decode cX5_wish 3 = .ok (.invokevirtual 87, 3) := by decide +kernel
theorem dX5_wish_6 : decode cX5_wish 6 = .ok (.ifCond .eq 10, 3) := by decide +kernel
theorem dX5_wish_9 : decode cX5_wish 9 = .ok (.iload_n 2, 1) := by decide +kernel
theorem dX5_wish_10 : decode cX5_wish 10 = .ok (.invokestatic 113, 3) := by decide +kernel
theorem dX5_wish_13 : decode cX5_wish 13 = .ok (.ifCond .ne 7, 3) := by decide +kernel
theorem dX5_wish_16 : decode cX5_wish 16 = .ok (.iconst 1, 1) := by decide +kernel
theorem dX5_wish_17 : decode cX5_wish 17 = .ok (.goto 18, 3) := by decide +kernel
theorem dX5_wish_20 : decode cX5_wish 20 = .ok (.iload_n 3, 1) := by decide +kernel
theorem dX5_wish_21 : decode cX5_wish 21 = .ok (.iconst 0, 1) := by decide +kernel
theorem dX5_wish_22 : decode cX5_wish 22 = .ok (.bipush 9, 2) := by decide +kernel
theorem dX5_wish_24 : decode cX5_wish 24 = .ok (.invokestatic 59, 3) := by decide +kernel
theorem dX5_wish_27 : decode cX5_wish 27 = .ok (.ifCond .eq 7, 3) := by decide +kernel
theorem dX5_wish_30 : decode cX5_wish 30 = .ok (.iconst 0, 1) := by decide +kernel
theorem dX5_wish_31 : decode cX5_wish 31 = .ok (.goto 4, 3) := by decide +kernel
theorem dX5_wish_34 : decode cX5_wish 34 = .ok (.iconst 2, 1) := by decide +kernel
theorem dX5_wish_35 : decode cX5_wish 35 = .ok (.invokevirtual 71, 3) := by decide +kernel
theorem dX5_wish_38 : decode cX5_wish 38 = .ok (.ifCond .eq 5, 3) := by decide +kernel
theorem dX5_wish_41 : decode cX5_wish 41 = .ok (.iconst 0, 1) := by decide +kernel
theorem dX5_wish_42 : decode cX5_wish 42 = .ok (.ireturn, 1) := by decide +kernel
theorem dX5_wish_43 : decode cX5_wish 43 = .ok (.aload_n 0, 1) := by decide +kernel
theorem dX5_wish_44 : decode cX5_wish 44 = .ok (.aload_n 0, 1) := by decide +kernel
theorem dX5_wish_45 : decode cX5_wish 45 = .ok (.getfield 7, 3) := by decide +kernel
theorem dX5_wish_48 : decode cX5_wish 48 = .ok (.invokevirtual 79, 3) := by decide +kernel
theorem dX5_wish_51 : decode cX5_wish 51 = .ok (.aload_n 0, 1) := by decide +kernel
theorem dX5_wish_52 : decode cX5_wish 52 = .ok (.iload_n 1, 1) := by decide +kernel
theorem dX5_wish_53 : decode cX5_wish 53 = .ok (.iconst 2, 1) := by decide +kernel
theorem dX5_wish_54 : decode cX5_wish 54 = .ok (.invokevirtual 63, 3) := by decide +kernel
theorem dX5_wish_57 : decode cX5_wish 57 = .ok (.istore 4, 2) := by decide +kernel
theorem dX5_wish_59 : decode cX5_wish 59 = .ok (.aload_n 0, 1) := by decide +kernel
theorem dX5_wish_60 : decode cX5_wish 60 = .ok (.iload_n 1, 1) := by decide +kernel
theorem dX5_wish_61 : decode cX5_wish 61 = .ok (.iconst 2, 1) := by decide +kernel
theorem dX5_wish_62 : decode cX5_wish 62 = .ok (.iload_n 2, 1) := by decide +kernel
theorem dX5_wish_63 : decode cX5_wish 63 = .ok (.invokevirtual 83, 3) := by decide +kernel
theorem dX5_wish_66 : decode cX5_wish 66 = .ok (.aload_n 0, 1) := by decide +kernel
theorem dX5_wish_67 : decode cX5_wish 67 = .ok (.iload_n 1, 1) := by decide +kernel
theorem dX5_wish_68 : decode cX5_wish 68 = .ok (.iconst 3, 1) := by decide +kernel
theorem dX5_wish_69 : decode cX5_wish 69 = .ok (.iload_n 3, 1) := by decide +kernel
theorem dX5_wish_70 : decode cX5_wish 70 = .ok (.invokevirtual 83, 3) := by decide +kernel
theorem dX5_wish_73 : decode cX5_wish 73 = .ok (.iload 4, 2) := by decide +kernel
theorem dX5_wish_75 : decode cX5_wish 75 = .ok (.ireturn, 1) := by decide +kernel
theorem dX5_isFulfilled_0 : decode cX5_isFulfilled 0 = .ok (.aload_n 0, 1) := by decide +kernel
theorem dX5_isFulfilled_1 : decode cX5_isFulfilled 1 = .ok (.iload_n 1, 1) := by decide +kernel
theorem dX5_isFulfilled_2 : decode cX5_isFulfilled 2 = .ok (.invokevirtual 90, 3) := by decide +kernel
theorem dX5_isFulfilled_5 : decode cX5_isFulfilled 5 = .ok (.ifCond .eq 22, 3) := by decide +kernel
theorem dX5_isFulfilled_8 : decode cX5_isFulfilled 8 = .ok (.aload_n 0, 1) := by decide +kernel
theorem dX5_isFulfilled_9 : decode cX5_isFulfilled 9 = .ok (.iload_n 1, 1) := by decide +kernel
theorem dX5_isFulfilled_10 : decode cX5_isFulfilled 10 = .ok (.iconst 2, 1) := by decide +kernel
theorem dX5_isFulfilled_11 : decode cX5_isFulfilled 11 = .ok (.invokevirtual 63, 3) := by decide +kernel
theorem dX5_isFulfilled_14 : decode cX5_isFulfilled 14 = .ok (.aload_n 0, 1) := by decide +kernel
theorem dX5_isFulfilled_15 : decode cX5_isFulfilled 15 = .ok (.iload_n 1, 1) := by decide +kernel
theorem dX5_isFulfilled_16 : decode cX5_isFulfilled 16 = .ok (.iconst 1, 1) := by decide +kernel
theorem dX5_isFulfilled_17 : decode cX5_isFulfilled 17 = .ok (.invokevirtual 63, 3) := by decide +kernel
theorem dX5_isFulfilled_20 : decode cX5_isFulfilled 20 = .ok (.if_icmp .ne 7, 3) := by decide +kernel
theorem dX5_isFulfilled_23 : decode cX5_isFulfilled 23 = .ok (.iconst 1, 1) := by decide +kernel
theorem dX5_isFulfilled_24 : decode cX5_isFulfilled 24 = .ok (.goto 4, 3) := by decide +kernel
theorem dX5_isFulfilled_27 : decode cX5_isFulfilled 27 = .ok (.iconst 0, 1) := by decide +kernel
theorem dX5_isFulfilled_28 : decode cX5_isFulfilled 28 = .ok (.ireturn, 1) := by decide +kernel
theorem dX5_fulfilled_0 : decode cX5_fulfilled 0 = .ok (.aload_n 0, 1) := by decide +kernel
theorem dX5_fulfilled_1 : decode cX5_fulfilled 1 = .ok (.iconst 0, 1) := by decide +kernel
theorem dX5_fulfilled_2 : decode cX5_fulfilled 2 = .ok (.putfield 39, 3) := by decide +kernel
theorem dX5_fulfilled_5 : decode cX5_fulfilled 5 = .ok (.iconst 0, 1) := by decide +kernel
theorem dX5_fulfilled_6 : decode cX5_fulfilled 6 = .ok (.istore_n 1, 1) := by decide +kernel
theorem dX5_fulfilled_7 : decode cX5_fulfilled 7 = .ok (.iconst 0, 1) := by decide +kernel
theorem dX5_fulfilled_8 : decode cX5_fulfilled 8 = .ok (.istore_n 2, 1) := by decide +kernel
theorem dX5_fulfilled_9 : decode cX5_fulfilled 9 = .ok (.iload_n 2, 1) := by decide +kernel
theorem dX5_fulfilled_10 : decode cX5_fulfilled 10 = .ok (.aload_n 0, 1) := by decide +kernel
theorem dX5_fulfilled_11 : decode cX5_fulfilled 11 = .ok (.getfield 7, 3) := by decide +kernel
theorem dX5_fulfilled_14 : decode cX5_fulfilled 14 = .ok (.iconst 0, 1) := by decide +kernel
theorem dX5_fulfilled_15 : decode cX5_fulfilled 15 = .ok (.iaload, 1) := by decide +kernel
theorem dX5_fulfilled_16 : decode cX5_fulfilled 16 = .ok (.if_icmp .ge 30, 3) := by decide +kernel
theorem dX5_fulfilled_19 : decode cX5_fulfilled 19 = .ok (.iload_n 1, 1) := by decide +kernel
theorem dX5_fulfilled_20 : decode cX5_fulfilled 20 = .ok (.aload_n 0, 1) := by decide +kernel
theorem dX5_fulfilled_21 : decode cX5_fulfilled 21 = .ok (.iload_n 2, 1) := by decide +kernel
theorem dX5_fulfilled_22 : decode cX5_fulfilled 22 = .ok (.invokevirtual 141, 3) := by decide +kernel
theorem dX5_fulfilled_25 : decode cX5_fulfilled 25 = .ok (.ifCond .eq 12, 3) := by decide +kernel
theorem dX5_fulfilled_28 : decode cX5_fulfilled 28 = .ok (.aload_n 0, 1) := by decide +kernel
theorem dX5_fulfilled_29 : decode cX5_fulfilled 29 = .ok (.iload_n 2, 1) := by decide +kernel
theorem dX5_fulfilled_30 : decode cX5_fulfilled 30 = .ok (.iconst 3, 1) := by decide +kernel
theorem dX5_fulfilled_31 : decode cX5_fulfilled 31 = .ok (.invokevirtual 63, 3) := by decide +kernel
theorem dX5_fulfilled_34 : decode cX5_fulfilled 34 = .ok (.goto 4, 3) := by decide +kernel
theorem dX5_fulfilled_37 : decode cX5_fulfilled 37 = .ok (.iconst 0, 1) := by decide +kernel
theorem dX5_fulfilled_38 : decode cX5_fulfilled 38 = .ok (.iadd, 1) := by decide +kernel
theorem dX5_fulfilled_39 : decode cX5_fulfilled 39 = .ok (.istore_n 1, 1) := by decide +kernel
theorem dX5_fulfilled_40 : decode cX5_fulfilled 40 = .ok (.iinc 2 1, 3) := by decide +kernel
theorem dX5_fulfilled_43 : decode cX5_fulfilled 43 = .ok (.goto (-34), 3) := by decide +kernel
theorem dX5_fulfilled_46 : decode cX5_fulfilled 46 = .ok (.iload_n 1, 1) := by decide +kernel
theorem dX5_fulfilled_47 : decode cX5_fulfilled 47 = .ok (.ireturn, 1) := by decide +kernel
theorem dX5_clashes_0 : decode cX5_clashes 0 = .ok (.iconst 0, 1) := by decide +kernel
theorem dX5_clashes_1 : decode cX5_clashes 1 = .ok (.istore 4, 2) := by decide +kernel
theorem dX5_clashes_3 : decode cX5_clashes 3 = .ok (.iload 4, 2) := by decide +kernel
theorem dX5_clashes_5 : decode cX5_clashes 5 = .ok (.aload_n 0, 1) := by decide +kernel
theorem dX5_clashes_6 : decode cX5_clashes 6 = .ok (.getfield 7, 3) := by decide +kernel
theorem dX5_clashes_9 : decode cX5_clashes 9 = .ok (.iconst 0, 1) := by decide +kernel
theorem dX5_clashes_10 : decode cX5_clashes 10 = .ok (.iaload, 1) := by decide +kernel
theorem dX5_clashes_11 : decode cX5_clashes 11 = .ok (.if_icmp .ge 61, 3) := by decide +kernel
theorem dX5_clashes_14 : decode cX5_clashes 14 = .ok (.aload_n 0, 1) := by decide +kernel
theorem dX5_clashes_15 : decode cX5_clashes 15 = .ok (.iload_n 1, 1) := by decide +kernel
theorem dX5_clashes_16 : decode cX5_clashes 16 = .ok (.iload 4, 2) := by decide +kernel
theorem dX5_clashes_18 : decode cX5_clashes 18 = .ok (.invokevirtual 67, 3) := by decide +kernel
theorem dX5_clashes_21 : decode cX5_clashes 21 = .ok (.ifCond .eq 45, 3) := by decide +kernel
theorem dX5_clashes_24 : decode cX5_clashes 24 = .ok (.aload_n 0, 1) := by decide +kernel
theorem dX5_clashes_25 : decode cX5_clashes 25 = .ok (.iload 4, 2) := by decide +kernel
theorem dX5_clashes_27 : decode cX5_clashes 27 = .ok (.invokevirtual 90, 3) := by decide +kernel
theorem dX5_clashes_30 : decode cX5_clashes 30 = .ok (.ifCond .eq 17, 3) := by decide +kernel
theorem dX5_clashes_33 : decode cX5_clashes 33 = .ok (.aload_n 0, 1) := by decide +kernel
theorem dX5_clashes_34 : decode cX5_clashes 34 = .ok (.iload 4, 2) := by decide +kernel
theorem dX5_clashes_36 : decode cX5_clashes 36 = .ok (.iconst 1, 1) := by decide +kernel
theorem dX5_clashes_37 : decode cX5_clashes 37 = .ok (.invokevirtual 63, 3) := by decide +kernel
theorem dX5_clashes_40 : decode cX5_clashes 40 = .ok (.iload_n 2, 1) := by decide +kernel
theorem dX5_clashes_41 : decode cX5_clashes 41 = .ok (.if_icmp .ne 25, 3) := by decide +kernel
theorem dX5_clashes_44 : decode cX5_clashes 44 = .ok (.goto 20, 3) := by decide +kernel
theorem dX5_clashes_47 : decode cX5_clashes 47 = .ok (.iload 4, 2) := by decide +kernel
theorem dX5_clashes_49 : decode cX5_clashes 49 = .ok (.iload_n 3, 1) := by decide +kernel
theorem dX5_clashes_50 : decode cX5_clashes 50 = .ok (.if_icmp .ge 16, 3) := by decide +kernel
theorem dX5_clashes_53 : decode cX5_clashes 53 = .ok (.aload_n 0, 1) := by decide +kernel
theorem dX5_clashes_54 : decode cX5_clashes 54 = .ok (.getfield 33, 3) := by decide +kernel
theorem dX5_clashes_57 : decode cX5_clashes 57 = .ok (.iload 4, 2) := by decide +kernel
theorem dX5_clashes_59 : decode cX5_clashes 59 = .ok (.iaload, 1) := by decide +kernel
theorem dX5_clashes_60 : decode cX5_clashes 60 = .ok (.iload_n 2, 1) := by decide +kernel
theorem dX5_clashes_61 : decode cX5_clashes 61 = .ok (.if_icmp .ne 5, 3) := by decide +kernel
theorem dX5_clashes_64 : decode cX5_clashes 64 = .ok (.iconst 1, 1) := by decide +kernel
theorem dX5_clashes_65 : decode cX5_clashes 65 = .ok (.ireturn, 1) := by decide +kernel
theorem dX5_clashes_66 : decode cX5_clashes 66 = .ok (.iinc 4 1, 3) := by decide +kernel
theorem dX5_clashes_69 : decode cX5_clashes 69 = .ok (.goto (-66), 3) := by decide +kernel
theorem dX5_clashes_72 : decode cX5_clashes 72 = .ok (.iconst 0, 1) := by decide +kernel
theorem dX5_clashes_73 : decode cX5_clashes 73 = .ok (.ireturn, 1) := by decide +kernel
theorem dX5_waysFrom_0 : decode cX5_waysFrom 0 = .ok (.iload_n 1, 1) := by decide +kernel
theorem dX5_waysFrom_1 : decode cX5_waysFrom 1 = .ok (.aload_n 0, 1) := by decide +kernel
theorem dX5_waysFrom_2 : decode cX5_waysFrom 2 = .ok (.getfield 7, 3) := by decide +kernel
theorem dX5_waysFrom_5 : decode cX5_waysFrom 5 = .ok (.iconst 0, 1) := by decide +kernel
theorem dX5_waysFrom_6 : decode cX5_waysFrom 6 = .ok (.iaload, 1) := by decide +kernel
theorem dX5_waysFrom_7 : decode cX5_waysFrom 7 = .ok (.if_icmp .ne 5, 3) := by decide +kernel
theorem dX5_waysFrom_10 : decode cX5_waysFrom 10 = .ok (.iconst 1, 1) := by decide +kernel
theorem dX5_waysFrom_11 : decode cX5_waysFrom 11 = .ok (.ireturn, 1) := by decide +kernel
theorem dX5_waysFrom_12 : decode cX5_waysFrom 12 = .ok (.aload_n 0, 1) := by decide +kernel
theorem dX5_waysFrom_13 : decode cX5_waysFrom 13 = .ok (.iload_n 1, 1) := by decide +kernel
theorem dX5_waysFrom_14 : decode cX5_waysFrom 14 = .ok (.invokevirtual 90, 3) := by decide +kernel
theorem dX5_waysFrom_17 : decode cX5_waysFrom 17 = .ok (.ifCond .eq 15, 3) := by decide +kernel
theorem dX5_waysFrom_20 : decode cX5_waysFrom 20 = .ok (.aload_n 0, 1) := by decide +kernel
theorem dX5_waysFrom_21 : decode cX5_waysFrom 21 = .ok (.iload_n 1, 1) := by decide +kernel
theorem dX5_waysFrom_22 : decode cX5_waysFrom 22 = .ok (.iconst 1, 1) := by decide +kernel
theorem dX5_waysFrom_23 : decode cX5_waysFrom 23 = .ok (.iadd, 1) := by decide +kernel
theorem dX5_waysFrom_24 : decode cX5_waysFrom 24 = .ok (.iload_n 2, 1) := by decide +kernel
theorem dX5_waysFrom_25 : decode cX5_waysFrom 25 = .ok (.iload_n 3, 1) := by decide +kernel
theorem dX5_waysFrom_26 : decode cX5_waysFrom 26 = .ok (.iload 4, 2) := by decide +kernel
theorem dX5_waysFrom_28 : decode cX5_waysFrom 28 = .ok (.invokevirtual 144, 3) := by decide +kernel
theorem dX5_waysFrom_31 : decode cX5_waysFrom 31 = .ok (.ireturn, 1) := by decide +kernel
theorem dX5_waysFrom_32 : decode cX5_waysFrom 32 = .ok (.iconst 0, 1) := by decide +kernel
theorem dX5_waysFrom_33 : decode cX5_waysFrom 33 = .ok (.istore 5, 2) := by decide +kernel
theorem dX5_waysFrom_35 : decode cX5_waysFrom 35 = .ok (.iconst 0, 1) := by decide +kernel
theorem dX5_waysFrom_36 : decode cX5_waysFrom 36 = .ok (.istore 6, 2) := by decide +kernel
theorem dX5_waysFrom_38 : decode cX5_waysFrom 38 = .ok (.iload 6, 2) := by decide +kernel
theorem dX5_waysFrom_40 : decode cX5_waysFrom 40 = .ok (.iload_n 2, 1) := by decide +kernel
theorem dX5_waysFrom_41 : decode cX5_waysFrom 41 = .ok (.if_icmp .ge 59, 3) := by decide +kernel
theorem dX5_waysFrom_44 : decode cX5_waysFrom 44 = .ok (.iload_n 1, 1) := by decide +kernel
theorem dX5_waysFrom_45 : decode cX5_waysFrom 45 = .ok (.iload_n 3, 1) := by decide +kernel
theorem dX5_waysFrom_46 : decode cX5_waysFrom 46 = .ok (.if_icmp .ne 10, 3) := by decide +kernel
theorem dX5_waysFrom_49 : decode cX5_waysFrom 49 = .ok (.iload 6, 2) := by decide +kernel
theorem dX5_waysFrom_51 : decode cX5_waysFrom 51 = .ok (.iload 4, 2) := by decide +kernel
theorem dX5_waysFrom_53 : decode cX5_waysFrom 53 = .ok (.if_icmp .ne 41, 3) := by decide +kernel
theorem dX5_waysFrom_56 : decode cX5_waysFrom 56 = .ok (.aload_n 0, 1) := by decide +kernel
theorem dX5_waysFrom_57 : decode cX5_waysFrom 57 = .ok (.iload_n 1, 1) := by decide +kernel
theorem dX5_waysFrom_58 : decode cX5_waysFrom 58 = .ok (.iload 6, 2) := by decide +kernel
theorem dX5_waysFrom_60 : decode cX5_waysFrom 60 = .ok (.iload_n 1, 1) := by decide +kernel
theorem dX5_waysFrom_61 : decode cX5_waysFrom 61 = .ok (.invokevirtual 148, 3) := by decide +kernel
theorem dX5_waysFrom_64 : decode cX5_waysFrom 64 = .ok (.ifCond .eq 6, 3) := by decide +kernel
theorem dX5_waysFrom_67 : decode cX5_waysFrom 67 = .ok (.goto 27, 3) := by decide +kernel
theorem dX5_waysFrom_70 : decode cX5_waysFrom 70 = .ok (.aload_n 0, 1) := by decide +kernel
theorem dX5_waysFrom_71 : decode cX5_waysFrom 71 = .ok (.getfield 33, 3) := by decide +kernel
theorem dX5_waysFrom_74 : decode cX5_waysFrom 74 = .ok (.iload_n 1, 1) := by decide +kernel
theorem dX5_waysFrom_75 : decode cX5_waysFrom 75 = .ok (.iload 6, 2) := by decide +kernel
theorem dX5_waysFrom_77 : decode cX5_waysFrom 77 = .ok (.iastore, 1) := by decide +kernel
theorem dX5_waysFrom_78 : decode cX5_waysFrom 78 = .ok (.iload 5, 2) := by decide +kernel
theorem dX5_waysFrom_80 : decode cX5_waysFrom 80 = .ok (.aload_n 0, 1) := by decide +kernel
theorem dX5_waysFrom_81 : decode cX5_waysFrom 81 = .ok (.iload_n 1, 1) := by decide +kernel
theorem dX5_waysFrom_82 : decode cX5_waysFrom 82 = .ok (.iconst 1, 1) := by decide +kernel
theorem dX5_waysFrom_83 : decode cX5_waysFrom 83 = .ok (.iadd, 1) := by decide +kernel
theorem dX5_waysFrom_84 : decode cX5_waysFrom 84 = .ok (.iload_n 2, 1) := by decide +kernel
theorem dX5_waysFrom_85 : decode cX5_waysFrom 85 = .ok (.iload_n 3, 1) := by decide +kernel
theorem dX5_waysFrom_86 : decode cX5_waysFrom 86 = .ok (.iload 4, 2) := by decide +kernel
theorem dX5_waysFrom_88 : decode cX5_waysFrom 88 = .ok (.invokevirtual 144, 3) := by decide +kernel
theorem dX5_waysFrom_91 : decode cX5_waysFrom 91 = .ok (.iadd, 1) := by decide +kernel
theorem dX5_waysFrom_92 : decode cX5_waysFrom 92 = .ok (.istore 5, 2) := by decide +kernel
theorem dX5_waysFrom_94 : decode cX5_waysFrom 94 = .ok (.iinc 6 1, 3) := by decide +kernel
theorem dX5_waysFrom_97 : decode cX5_waysFrom 97 = .ok (.goto (-59), 3) := by decide +kernel
theorem dX5_waysFrom_100 : decode cX5_waysFrom 100 = .ok (.iload 5, 2) := by decide +kernel
theorem dX5_waysFrom_102 : decode cX5_waysFrom 102 = .ok (.ireturn, 1) := by decide +kernel
theorem dX5_ways_0 : decode cX5_ways 0 = .ok (.aload_n 0, 1) := by decide +kernel
theorem dX5_ways_1 : decode cX5_ways 1 = .ok (.iconst 0, 1) := by decide +kernel
theorem dX5_ways_2 : decode cX5_ways 2 = .ok (.putfield 39, 3) := by decide +kernel
theorem dX5_ways_5 : decode cX5_ways 5 = .ok (.aload_n 0, 1) := by decide +kernel
theorem dX5_ways_6 : decode cX5_ways 6 = .ok (.iconst 0, 1) := by decide +kernel
theorem dX5_ways_7 : decode cX5_ways 7 = .ok (.aload_n 0, 1) := by decide +kernel
theorem dX5_ways_8 : decode cX5_ways 8 = .ok (.getfield 7, 3) := by decide +kernel
theorem dX5_ways_11 : decode cX5_ways 11 = .ok (.bipush 36, 2) := by decide +kernel
theorem dX5_ways_13 : decode cX5_ways 13 = .ok (.iaload, 1) := by decide +kernel
theorem dX5_ways_14 : decode cX5_ways 14 = .ok (.iconst (-1), 1) := by decide +kernel
theorem dX5_ways_15 : decode cX5_ways 15 = .ok (.iconst (-1), 1) := by decide +kernel
theorem dX5_ways_16 : decode cX5_ways 16 = .ok (.invokevirtual 144, 3) := by decide +kernel
theorem dX5_ways_19 : decode cX5_ways 19 = .ok (.ireturn, 1) := by decide +kernel
theorem dX5_left_0 : decode cX5_left 0 = .ok (.iconst 0, 1) := by decide +kernel
theorem dX5_left_1 : decode cX5_left 1 = .ok (.istore_n 1, 1) := by decide +kernel
theorem dX5_left_2 : decode cX5_left 2 = .ok (.iconst 0, 1) := by decide +kernel
theorem dX5_left_3 : decode cX5_left 3 = .ok (.istore_n 2, 1) := by decide +kernel
theorem dX5_left_4 : decode cX5_left 4 = .ok (.iload_n 2, 1) := by decide +kernel
theorem dX5_left_5 : decode cX5_left 5 = .ok (.aload_n 0, 1) := by decide +kernel
theorem dX5_left_6 : decode cX5_left 6 = .ok (.getfield 7, 3) := by decide +kernel
theorem dX5_left_9 : decode cX5_left 9 = .ok (.iconst 0, 1) := by decide +kernel
theorem dX5_left_10 : decode cX5_left 10 = .ok (.iaload, 1) := by decide +kernel
theorem dX5_left_11 : decode cX5_left 11 = .ok (.if_icmp .ge 25, 3) := by decide +kernel
theorem dX5_left_14 : decode cX5_left 14 = .ok (.iload_n 1, 1) := by decide +kernel
theorem dX5_left_15 : decode cX5_left 15 = .ok (.aload_n 0, 1) := by decide +kernel
theorem dX5_left_16 : decode cX5_left 16 = .ok (.iload_n 2, 1) := by decide +kernel
theorem dX5_left_17 : decode cX5_left 17 = .ok (.invokevirtual 90, 3) := by decide +kernel
theorem dX5_left_20 : decode cX5_left 20 = .ok (.ifCond .eq 7, 3) := by decide +kernel
theorem dX5_left_23 : decode cX5_left 23 = .ok (.iconst 0, 1) := by decide +kernel
theorem dX5_left_24 : decode cX5_left 24 = .ok (.goto 4, 3) := by decide +kernel
theorem dX5_left_27 : decode cX5_left 27 = .ok (.iconst 1, 1) := by decide +kernel
theorem dX5_left_28 : decode cX5_left 28 = .ok (.iadd, 1) := by decide +kernel
theorem dX5_left_29 : decode cX5_left 29 = .ok (.istore_n 1, 1) := by decide +kernel
theorem dX5_left_30 : decode cX5_left 30 = .ok (.iinc 2 1, 3) := by decide +kernel
theorem dX5_left_33 : decode cX5_left 33 = .ok (.goto (-29), 3) := by decide +kernel
theorem dX5_left_36 : decode cX5_left 36 = .ok (.iload_n 1, 1) := by decide +kernel
theorem dX5_left_37 : decode cX5_left 37 = .ok (.ireturn, 1) := by decide +kernel
theorem dX5_waysAgain_0 : decode cX5_waysAgain 0 = .ok (.aload_n 0, 1) := by decide +kernel
theorem dX5_waysAgain_1 : decode cX5_waysAgain 1 = .ok (.invokevirtual 151, 3) := by decide +kernel
theorem dX5_waysAgain_4 : decode cX5_waysAgain 4 = .ok (.iconst 4, 1) := by decide +kernel
theorem dX5_waysAgain_5 : decode cX5_waysAgain 5 = .ok (.if_icmp .le 8, 3) := by decide +kernel
theorem dX5_waysAgain_8 : decode cX5_waysAgain 8 = .ok (.aload_n 0, 1) := by decide +kernel
theorem dX5_waysAgain_9 : decode cX5_waysAgain 9 = .ok (.invokevirtual 154, 3) := by decide +kernel
theorem dX5_waysAgain_12 : decode cX5_waysAgain 12 = .ok (.ireturn, 1) := by decide +kernel
theorem dX5_waysAgain_13 : decode cX5_waysAgain 13 = .ok (.aload_n 0, 1) := by decide +kernel
theorem dX5_waysAgain_14 : decode cX5_waysAgain 14 = .ok (.iconst 0, 1) := by decide +kernel
theorem dX5_waysAgain_15 : decode cX5_waysAgain 15 = .ok (.putfield 39, 3) := by decide +kernel
theorem dX5_waysAgain_18 : decode cX5_waysAgain 18 = .ok (.iconst 1, 1) := by decide +kernel
theorem dX5_waysAgain_19 : decode cX5_waysAgain 19 = .ok (.istore_n 1, 1) := by decide +kernel
theorem dX5_waysAgain_20 : decode cX5_waysAgain 20 = .ok (.iconst 0, 1) := by decide +kernel
theorem dX5_waysAgain_21 : decode cX5_waysAgain 21 = .ok (.istore_n 2, 1) := by decide +kernel
theorem dX5_waysAgain_22 : decode cX5_waysAgain 22 = .ok (.iload_n 2, 1) := by decide +kernel
theorem dX5_waysAgain_23 : decode cX5_waysAgain 23 = .ok (.aload_n 0, 1) := by decide +kernel
theorem dX5_waysAgain_24 : decode cX5_waysAgain 24 = .ok (.invokevirtual 151, 3) := by decide +kernel
theorem dX5_waysAgain_27 : decode cX5_waysAgain 27 = .ok (.if_icmp .ge 19, 3) := by decide +kernel
theorem dX5_waysAgain_30 : decode cX5_waysAgain 30 = .ok (.iload_n 1, 1) := by decide +kernel
theorem dX5_waysAgain_31 : decode cX5_waysAgain 31 = .ok (.aload_n 0, 1) := by decide +kernel
theorem dX5_waysAgain_32 : decode cX5_waysAgain 32 = .ok (.getfield 7, 3) := by decide +kernel
theorem dX5_waysAgain_35 : decode cX5_waysAgain 35 = .ok (.bipush 36, 2) := by decide +kernel
theorem dX5_waysAgain_37 : decode cX5_waysAgain 37 = .ok (.iaload, 1) := by decide +kernel
theorem dX5_waysAgain_38 : decode cX5_waysAgain 38 = .ok (.imul, 1) := by decide +kernel
theorem dX5_waysAgain_39 : decode cX5_waysAgain 39 = .ok (.istore_n 1, 1) := by decide +kernel
theorem dX5_waysAgain_40 : decode cX5_waysAgain 40 = .ok (.iinc 2 1, 3) := by decide +kernel
theorem dX5_waysAgain_43 : decode cX5_waysAgain 43 = .ok (.goto (-21), 3) := by decide +kernel
theorem dX5_waysAgain_46 : decode cX5_waysAgain 46 = .ok (.iconst 0, 1) := by decide +kernel
theorem dX5_waysAgain_47 : decode cX5_waysAgain 47 = .ok (.istore_n 2, 1) := by decide +kernel
theorem dX5_waysAgain_48 : decode cX5_waysAgain 48 = .ok (.iconst 0, 1) := by decide +kernel
theorem dX5_waysAgain_49 : decode cX5_waysAgain 49 = .ok (.istore_n 3, 1) := by decide +kernel
theorem dX5_waysAgain_50 : decode cX5_waysAgain 50 = .ok (.iload_n 3, 1) := by decide +kernel
theorem dX5_waysAgain_51 : decode cX5_waysAgain 51 = .ok (.iload_n 1, 1) := by decide +kernel
theorem dX5_waysAgain_52 : decode cX5_waysAgain 52 = .ok (.if_icmp .ge 119, 3) := by decide +kernel
theorem dX5_waysAgain_55 : decode cX5_waysAgain 55 = .ok (.iload_n 3, 1) := by decide +kernel
theorem dX5_waysAgain_56 : decode cX5_waysAgain 56 = .ok (.istore 4, 2) := by decide +kernel
theorem dX5_waysAgain_58 : decode cX5_waysAgain 58 = .ok (.iconst 1, 1) := by decide +kernel
theorem dX5_waysAgain_59 : decode cX5_waysAgain 59 = .ok (.istore 5, 2) := by decide +kernel
theorem dX5_waysAgain_61 : decode cX5_waysAgain 61 = .ok (.iconst 0, 1) := by decide +kernel
theorem dX5_waysAgain_62 : decode cX5_waysAgain 62 = .ok (.istore 6, 2) := by decide +kernel
theorem dX5_waysAgain_64 : decode cX5_waysAgain 64 = .ok (.iload 6, 2) := by decide +kernel
theorem dX5_waysAgain_66 : decode cX5_waysAgain 66 = .ok (.aload_n 0, 1) := by decide +kernel
theorem dX5_waysAgain_67 : decode cX5_waysAgain 67 = .ok (.getfield 7, 3) := by decide +kernel
theorem dX5_waysAgain_70 : decode cX5_waysAgain 70 = .ok (.iconst 0, 1) := by decide +kernel
theorem dX5_waysAgain_71 : decode cX5_waysAgain 71 = .ok (.iaload, 1) := by decide +kernel
theorem dX5_waysAgain_72 : decode cX5_waysAgain 72 = .ok (.if_icmp .ge 80, 3) := by decide +kernel
theorem dX5_waysAgain_75 : decode cX5_waysAgain 75 = .ok (.iload 5, 2) := by decide +kernel
theorem dX5_waysAgain_77 : decode cX5_waysAgain 77 = .ok (.ifCond .eq 75, 3) := by decide +kernel
theorem dX5_waysAgain_80 : decode cX5_waysAgain 80 = .ok (.aload_n 0, 1) := by decide +kernel
theorem dX5_waysAgain_81 : decode cX5_waysAgain 81 = .ok (.iload 6, 2) := by decide +kernel
theorem dX5_waysAgain_83 : decode cX5_waysAgain 83 = .ok (.invokevirtual 90, 3) := by decide +kernel
theorem dX5_waysAgain_86 : decode cX5_waysAgain 86 = .ok (.ifCond .eq 6, 3) := by decide +kernel
theorem dX5_waysAgain_89 : decode cX5_waysAgain 89 = .ok (.goto 57, 3) := by decide +kernel
theorem dX5_waysAgain_92 : decode cX5_waysAgain 92 = .ok (.aload_n 0, 1) := by decide +kernel
theorem dX5_waysAgain_93 : decode cX5_waysAgain 93 = .ok (.getfield 33, 3) := by decide +kernel
theorem dX5_waysAgain_96 : decode cX5_waysAgain 96 = .ok (.iload 6, 2) := by decide +kernel
theorem dX5_waysAgain_98 : decode cX5_waysAgain 98 = .ok (.iload 4, 2) := by decide +kernel
theorem dX5_waysAgain_100 : decode cX5_waysAgain 100 = .ok (.aload_n 0, 1) := by decide +kernel
theorem dX5_waysAgain_101 : decode cX5_waysAgain 101 = .ok (.getfield 7, 3) := by decide +kernel
theorem dX5_waysAgain_104 : decode cX5_waysAgain 104 = .ok (.bipush 36, 2) := by decide +kernel
theorem dX5_waysAgain_106 : decode cX5_waysAgain 106 = .ok (.iaload, 1) := by decide +kernel
theorem dX5_waysAgain_107 : decode cX5_waysAgain 107 = .ok (.irem, 1) := by decide +kernel
theorem dX5_waysAgain_108 : decode cX5_waysAgain 108 = .ok (.iastore, 1) := by decide +kernel
theorem dX5_waysAgain_109 : decode cX5_waysAgain 109 = .ok (.iload 4, 2) := by decide +kernel
theorem dX5_waysAgain_111 : decode cX5_waysAgain 111 = .ok (.aload_n 0, 1) := by decide +kernel
theorem dX5_waysAgain_112 : decode cX5_waysAgain 112 = .ok (.getfield 7, 3) := by decide +kernel
theorem dX5_waysAgain_115 : decode cX5_waysAgain 115 = .ok (.bipush 36, 2) := by decide +kernel
theorem dX5_waysAgain_117 : decode cX5_waysAgain 117 = .ok (.iaload, 1) := by decide +kernel
theorem dX5_waysAgain_118 : decode cX5_waysAgain 118 = .ok (.idiv, 1) := by decide +kernel
theorem dX5_waysAgain_119 : decode cX5_waysAgain 119 = .ok (.istore 4, 2) := by decide +kernel
theorem dX5_waysAgain_121 : decode cX5_waysAgain 121 = .ok (.aload_n 0, 1) := by decide +kernel
theorem dX5_waysAgain_122 : decode cX5_waysAgain 122 = .ok (.iload 6, 2) := by decide +kernel
theorem dX5_waysAgain_124 : decode cX5_waysAgain 124 = .ok (.aload_n 0, 1) := by decide +kernel
theorem dX5_waysAgain_125 : decode cX5_waysAgain 125 = .ok (.getfield 33, 3) := by decide +kernel
theorem dX5_waysAgain_128 : decode cX5_waysAgain 128 = .ok (.iload 6, 2) := by decide +kernel
theorem dX5_waysAgain_130 : decode cX5_waysAgain 130 = .ok (.iaload, 1) := by decide +kernel
theorem dX5_waysAgain_131 : decode cX5_waysAgain 131 = .ok (.iload 6, 2) := by decide +kernel
theorem dX5_waysAgain_133 : decode cX5_waysAgain 133 = .ok (.invokevirtual 148, 3) := by decide +kernel
theorem dX5_waysAgain_136 : decode cX5_waysAgain 136 = .ok (.ifCond .ne 7, 3) := by decide +kernel
theorem dX5_waysAgain_139 : decode cX5_waysAgain 139 = .ok (.iconst 1, 1) := by decide +kernel
theorem dX5_waysAgain_140 : decode cX5_waysAgain 140 = .ok (.goto 4, 3) := by decide +kernel
theorem dX5_waysAgain_143 : decode cX5_waysAgain 143 = .ok (.iconst 0, 1) := by decide +kernel
theorem dX5_waysAgain_144 : decode cX5_waysAgain 144 = .ok (.istore 5, 2) := by decide +kernel
theorem dX5_waysAgain_146 : decode cX5_waysAgain 146 = .ok (.iinc 6 1, 3) := by decide +kernel
theorem dX5_waysAgain_149 : decode cX5_waysAgain 149 = .ok (.goto (-85), 3) := by decide +kernel
theorem dX5_waysAgain_152 : decode cX5_waysAgain 152 = .ok (.iload_n 2, 1) := by decide +kernel
theorem dX5_waysAgain_153 : decode cX5_waysAgain 153 = .ok (.iload 5, 2) := by decide +kernel
theorem dX5_waysAgain_155 : decode cX5_waysAgain 155 = .ok (.ifCond .eq 7, 3) := by decide +kernel
theorem dX5_waysAgain_158 : decode cX5_waysAgain 158 = .ok (.iconst 1, 1) := by decide +kernel
theorem dX5_waysAgain_159 : decode cX5_waysAgain 159 = .ok (.goto 4, 3) := by decide +kernel
theorem dX5_waysAgain_162 : decode cX5_waysAgain 162 = .ok (.iconst 0, 1) := by decide +kernel
theorem dX5_waysAgain_163 : decode cX5_waysAgain 163 = .ok (.iadd, 1) := by decide +kernel
theorem dX5_waysAgain_164 : decode cX5_waysAgain 164 = .ok (.istore_n 2, 1) := by decide +kernel
theorem dX5_waysAgain_165 : decode cX5_waysAgain 165 = .ok (.iinc 3 1, 3) := by decide +kernel
theorem dX5_waysAgain_168 : decode cX5_waysAgain 168 = .ok (.goto (-118), 3) := by decide +kernel
theorem dX5_waysAgain_171 : decode cX5_waysAgain 171 = .ok (.iload_n 2, 1) := by decide +kernel
theorem dX5_waysAgain_172 : decode cX5_waysAgain 172 = .ok (.ireturn, 1) := by decide +kernel
theorem dX5_waysFor_0 : decode cX5_waysFor 0 = .ok (.aload_n 0, 1) := by decide +kernel
theorem dX5_waysFor_1 : decode cX5_waysFor 1 = .ok (.aload_n 0, 1) := by decide +kernel
theorem dX5_waysFor_2 : decode cX5_waysFor 2 = .ok (.iload_n 1, 1) := by decide +kernel
theorem dX5_waysFor_3 : decode cX5_waysFor 3 = .ok (.invokevirtual 87, 3) := by decide +kernel
theorem dX5_waysFor_6 : decode cX5_waysFor 6 = .ok (.ifCond .ne 7, 3) := by decide +kernel
theorem dX5_waysFor_9 : decode cX5_waysFor 9 = .ok (.iconst 1, 1) := by decide +kernel
theorem dX5_waysFor_10 : decode cX5_waysFor 10 = .ok (.goto 17, 3) := by decide +kernel
theorem dX5_waysFor_13 : decode cX5_waysFor 13 = .ok (.aload_n 0, 1) := by decide +kernel
theorem dX5_waysFor_14 : decode cX5_waysFor 14 = .ok (.iload_n 1, 1) := by decide +kernel
theorem dX5_waysFor_15 : decode cX5_waysFor 15 = .ok (.iconst 2, 1) := by decide +kernel
theorem dX5_waysFor_16 : decode cX5_waysFor 16 = .ok (.invokevirtual 63, 3) := by decide +kernel
theorem dX5_waysFor_19 : decode cX5_waysFor 19 = .ok (.ifCond .ge 7, 3) := by decide +kernel
theorem dX5_waysFor_22 : decode cX5_waysFor 22 = .ok (.iconst 2, 1) := by decide +kernel
theorem dX5_waysFor_23 : decode cX5_waysFor 23 = .ok (.goto 4, 3) := by decide +kernel
theorem dX5_waysFor_26 : decode cX5_waysFor 26 = .ok (.iconst 0, 1) := by decide +kernel
theorem dX5_waysFor_27 : decode cX5_waysFor 27 = .ok (.invokevirtual 71, 3) := by decide +kernel
theorem dX5_waysFor_30 : decode cX5_waysFor 30 = .ok (.ifCond .eq 5, 3) := by decide +kernel
theorem dX5_waysFor_33 : decode cX5_waysFor 33 = .ok (.iconst 0, 1) := by decide +kernel
theorem dX5_waysFor_34 : decode cX5_waysFor 34 = .ok (.ireturn, 1) := by decide +kernel
theorem dX5_waysFor_35 : decode cX5_waysFor 35 = .ok (.aload_n 0, 1) := by decide +kernel
theorem dX5_waysFor_36 : decode cX5_waysFor 36 = .ok (.iload_n 1, 1) := by decide +kernel
theorem dX5_waysFor_37 : decode cX5_waysFor 37 = .ok (.invokevirtual 90, 3) := by decide +kernel
theorem dX5_waysFor_40 : decode cX5_waysFor 40 = .ok (.ifCond .eq 30, 3) := by decide +kernel
theorem dX5_waysFor_43 : decode cX5_waysFor 43 = .ok (.aload_n 0, 1) := by decide +kernel
theorem dX5_waysFor_44 : decode cX5_waysFor 44 = .ok (.iload_n 1, 1) := by decide +kernel
theorem dX5_waysFor_45 : decode cX5_waysFor 45 = .ok (.invokevirtual 141, 3) := by decide +kernel
theorem dX5_waysFor_48 : decode cX5_waysFor 48 = .ok (.ifCond .eq 20, 3) := by decide +kernel
theorem dX5_waysFor_51 : decode cX5_waysFor 51 = .ok (.aload_n 0, 1) := by decide +kernel
theorem dX5_waysFor_52 : decode cX5_waysFor 52 = .ok (.iconst 0, 1) := by decide +kernel
theorem dX5_waysFor_53 : decode cX5_waysFor 53 = .ok (.aload_n 0, 1) := by decide +kernel
theorem dX5_waysFor_54 : decode cX5_waysFor 54 = .ok (.getfield 7, 3) := by decide +kernel
theorem dX5_waysFor_57 : decode cX5_waysFor 57 = .ok (.bipush 36, 2) := by decide +kernel
theorem dX5_waysFor_59 : decode cX5_waysFor 59 = .ok (.iaload, 1) := by decide +kernel
theorem dX5_waysFor_60 : decode cX5_waysFor 60 = .ok (.iconst (-1), 1) := by decide +kernel
theorem dX5_waysFor_61 : decode cX5_waysFor 61 = .ok (.iconst (-1), 1) := by decide +kernel
theorem dX5_waysFor_62 : decode cX5_waysFor 62 = .ok (.invokevirtual 144, 3) := by decide +kernel
theorem dX5_waysFor_65 : decode cX5_waysFor 65 = .ok (.goto 4, 3) := by decide +kernel
theorem dX5_waysFor_68 : decode cX5_waysFor 68 = .ok (.iconst 0, 1) := by decide +kernel
theorem dX5_waysFor_69 : decode cX5_waysFor 69 = .ok (.ireturn, 1) := by decide +kernel
theorem dX5_waysFor_70 : decode cX5_waysFor 70 = .ok (.aload_n 0, 1) := by decide +kernel
theorem dX5_waysFor_71 : decode cX5_waysFor 71 = .ok (.iconst 0, 1) := by decide +kernel
theorem dX5_waysFor_72 : decode cX5_waysFor 72 = .ok (.aload_n 0, 1) := by decide +kernel
theorem dX5_waysFor_73 : decode cX5_waysFor 73 = .ok (.getfield 7, 3) := by decide +kernel
theorem dX5_waysFor_76 : decode cX5_waysFor 76 = .ok (.bipush 36, 2) := by decide +kernel
theorem dX5_waysFor_78 : decode cX5_waysFor 78 = .ok (.iaload, 1) := by decide +kernel
theorem dX5_waysFor_79 : decode cX5_waysFor 79 = .ok (.iload_n 1, 1) := by decide +kernel
theorem dX5_waysFor_80 : decode cX5_waysFor 80 = .ok (.aload_n 0, 1) := by decide +kernel
theorem dX5_waysFor_81 : decode cX5_waysFor 81 = .ok (.iload_n 1, 1) := by decide +kernel
theorem dX5_waysFor_82 : decode cX5_waysFor 82 = .ok (.iconst 2, 1) := by decide +kernel
theorem dX5_waysFor_83 : decode cX5_waysFor 83 = .ok (.invokevirtual 63, 3) := by decide +kernel
theorem dX5_waysFor_86 : decode cX5_waysFor 86 = .ok (.invokevirtual 144, 3) := by decide +kernel
theorem dX5_waysFor_89 : decode cX5_waysFor 89 = .ok (.ireturn, 1) := by decide +kernel
theorem dX5_fewest_0 : decode cX5_fewest 0 = .ok (.iconst 1, 1) := by decide +kernel
theorem dX5_fewest_1 : decode cX5_fewest 1 = .ok (.istore_n 1, 1) := by decide +kernel
theorem dX5_fewest_2 : decode cX5_fewest 2 = .ok (.iconst 0, 1) := by decide +kernel
theorem dX5_fewest_3 : decode cX5_fewest 3 = .ok (.istore_n 2, 1) := by decide +kernel
theorem dX5_fewest_4 : decode cX5_fewest 4 = .ok (.iload_n 2, 1) := by decide +kernel
theorem dX5_fewest_5 : decode cX5_fewest 5 = .ok (.aload_n 0, 1) := by decide +kernel
theorem dX5_fewest_6 : decode cX5_fewest 6 = .ok (.getfield 7, 3) := by decide +kernel
theorem dX5_fewest_9 : decode cX5_fewest 9 = .ok (.iconst 0, 1) := by decide +kernel
theorem dX5_fewest_10 : decode cX5_fewest 10 = .ok (.iaload, 1) := by decide +kernel
theorem dX5_fewest_11 : decode cX5_fewest 11 = .ok (.if_icmp .ge 22, 3) := by decide +kernel
theorem dX5_fewest_14 : decode cX5_fewest 14 = .ok (.iload_n 1, 1) := by decide +kernel
theorem dX5_fewest_15 : decode cX5_fewest 15 = .ok (.aload_n 0, 1) := by decide +kernel
theorem dX5_fewest_16 : decode cX5_fewest 16 = .ok (.iload_n 2, 1) := by decide +kernel
theorem dX5_fewest_17 : decode cX5_fewest 17 = .ok (.iconst 1, 1) := by decide +kernel
theorem dX5_fewest_18 : decode cX5_fewest 18 = .ok (.invokevirtual 63, 3) := by decide +kernel
theorem dX5_fewest_21 : decode cX5_fewest 21 = .ok (.iconst 1, 1) := by decide +kernel
theorem dX5_fewest_22 : decode cX5_fewest 22 = .ok (.iadd, 1) := by decide +kernel
theorem dX5_fewest_23 : decode cX5_fewest 23 = .ok (.invokestatic 157, 3) := by decide +kernel
theorem dX5_fewest_26 : decode cX5_fewest 26 = .ok (.istore_n 1, 1) := by decide +kernel
theorem dX5_fewest_27 : decode cX5_fewest 27 = .ok (.iinc 2 1, 3) := by decide +kernel
theorem dX5_fewest_30 : decode cX5_fewest 30 = .ok (.goto (-26), 3) := by decide +kernel
theorem dX5_fewest_33 : decode cX5_fewest 33 = .ok (.iload_n 1, 1) := by decide +kernel
theorem dX5_fewest_34 : decode cX5_fewest 34 = .ok (.iconst 5, 1) := by decide +kernel
theorem dX5_fewest_35 : decode cX5_fewest 35 = .ok (.if_icmp .gt 20, 3) := by decide +kernel
theorem dX5_fewest_38 : decode cX5_fewest 38 = .ok (.aload_n 0, 1) := by decide +kernel
theorem dX5_fewest_39 : decode cX5_fewest 39 = .ok (.iconst 0, 1) := by decide +kernel
theorem dX5_fewest_40 : decode cX5_fewest 40 = .ok (.iload_n 1, 1) := by decide +kernel
theorem dX5_fewest_41 : decode cX5_fewest 41 = .ok (.iconst (-1), 1) := by decide +kernel
theorem dX5_fewest_42 : decode cX5_fewest 42 = .ok (.iconst (-1), 1) := by decide +kernel
theorem dX5_fewest_43 : decode cX5_fewest 43 = .ok (.invokevirtual 144, 3) := by decide +kernel
theorem dX5_fewest_46 : decode cX5_fewest 46 = .ok (.ifCond .ne 9, 3) := by decide +kernel
theorem dX5_fewest_49 : decode cX5_fewest 49 = .ok (.iinc 1 1, 3) := by decide +kernel
theorem dX5_fewest_52 : decode cX5_fewest 52 = .ok (.goto (-19), 3) := by decide +kernel
theorem dX5_fewest_55 : decode cX5_fewest 55 = .ok (.aload_n 0, 1) := by decide +kernel
theorem dX5_fewest_56 : decode cX5_fewest 56 = .ok (.iload_n 1, 1) := by decide +kernel
theorem dX5_fewest_57 : decode cX5_fewest 57 = .ok (.iconst 5, 1) := by decide +kernel
theorem dX5_fewest_58 : decode cX5_fewest 58 = .ok (.if_icmp .le 7, 3) := by decide +kernel
theorem dX5_fewest_61 : decode cX5_fewest 61 = .ok (.iconst 1, 1) := by decide +kernel
theorem dX5_fewest_62 : decode cX5_fewest 62 = .ok (.goto 4, 3) := by decide +kernel
theorem dX5_fewest_65 : decode cX5_fewest 65 = .ok (.iconst 0, 1) := by decide +kernel
theorem dX5_fewest_66 : decode cX5_fewest 66 = .ok (.invokevirtual 71, 3) := by decide +kernel
theorem dX5_fewest_69 : decode cX5_fewest 69 = .ok (.ifCond .eq 7, 3) := by decide +kernel
theorem dX5_fewest_72 : decode cX5_fewest 72 = .ok (.iconst 0, 1) := by decide +kernel
theorem dX5_fewest_73 : decode cX5_fewest 73 = .ok (.goto 4, 3) := by decide +kernel
theorem dX5_fewest_76 : decode cX5_fewest 76 = .ok (.iload_n 1, 1) := by decide +kernel
theorem dX5_fewest_77 : decode cX5_fewest 77 = .ok (.ireturn, 1) := by decide +kernel
theorem dX5_areAll_0 : decode cX5_areAll 0 = .ok (.iconst 0, 1) := by decide +kernel
theorem dX5_areAll_1 : decode cX5_areAll 1 = .ok (.istore_n 2, 1) := by decide +kernel
theorem dX5_areAll_2 : decode cX5_areAll 2 = .ok (.iload_n 2, 1) := by decide +kernel
theorem dX5_areAll_3 : decode cX5_areAll 3 = .ok (.aload_n 0, 1) := by decide +kernel
theorem dX5_areAll_4 : decode cX5_areAll 4 = .ok (.getfield 7, 3) := by decide +kernel
theorem dX5_areAll_7 : decode cX5_areAll 7 = .ok (.iconst 0, 1) := by decide +kernel
theorem dX5_areAll_8 : decode cX5_areAll 8 = .ok (.iaload, 1) := by decide +kernel
theorem dX5_areAll_9 : decode cX5_areAll 9 = .ok (.if_icmp .ge 40, 3) := by decide +kernel
theorem dX5_areAll_12 : decode cX5_areAll 12 = .ok (.iload_n 1, 1) := by decide +kernel
theorem dX5_areAll_13 : decode cX5_areAll 13 = .ok (.iload_n 2, 1) := by decide +kernel
theorem dX5_areAll_14 : decode cX5_areAll 14 = .ok (.ishr, 1) := by decide +kernel
theorem dX5_areAll_15 : decode cX5_areAll 15 = .ok (.iconst 1, 1) := by decide +kernel
theorem dX5_areAll_16 : decode cX5_areAll 16 = .ok (.iand, 1) := by decide +kernel
theorem dX5_areAll_17 : decode cX5_areAll 17 = .ok (.iconst 1, 1) := by decide +kernel
theorem dX5_areAll_18 : decode cX5_areAll 18 = .ok (.if_icmp .ne 25, 3) := by decide +kernel
theorem dX5_areAll_21 : decode cX5_areAll 21 = .ok (.iload_n 1, 1) := by decide +kernel
theorem dX5_areAll_22 : decode cX5_areAll 22 = .ok (.aload_n 0, 1) := by decide +kernel
theorem dX5_areAll_23 : decode cX5_areAll 23 = .ok (.getfield 7, 3) := by decide +kernel
theorem dX5_areAll_26 : decode cX5_areAll 26 = .ok (.bipush 29, 2) := by decide +kernel
theorem dX5_areAll_28 : decode cX5_areAll 28 = .ok (.iload_n 2, 1) := by decide +kernel
theorem dX5_areAll_29 : decode cX5_areAll 29 = .ok (.iadd, 1) := by decide +kernel
theorem dX5_areAll_30 : decode cX5_areAll 30 = .ok (.iaload, 1) := by decide +kernel
theorem dX5_areAll_31 : decode cX5_areAll 31 = .ok (.iconst 1, 1) := by decide +kernel
theorem dX5_areAll_32 : decode cX5_areAll 32 = .ok (.iload_n 2, 1) := by decide +kernel
theorem dX5_areAll_33 : decode cX5_areAll 33 = .ok (.ishl, 1) := by decide +kernel
theorem dX5_areAll_34 : decode cX5_areAll 34 = .ok (.ior, 1) := by decide +kernel
theorem dX5_areAll_35 : decode cX5_areAll 35 = .ok (.iconst (-1), 1) := by decide +kernel
theorem dX5_areAll_36 : decode cX5_areAll 36 = .ok (.ixor, 1) := by decide +kernel
theorem dX5_areAll_37 : decode cX5_areAll 37 = .ok (.iand, 1) := by decide +kernel
theorem dX5_areAll_38 : decode cX5_areAll 38 = .ok (.ifCond .eq 5, 3) := by decide +kernel
theorem dX5_areAll_41 : decode cX5_areAll 41 = .ok (.iconst 0, 1) := by decide +kernel
theorem dX5_areAll_42 : decode cX5_areAll 42 = .ok (.ireturn, 1) := by decide +kernel
theorem dX5_areAll_43 : decode cX5_areAll 43 = .ok (.iinc 2 1, 3) := by decide +kernel
theorem dX5_areAll_46 : decode cX5_areAll 46 = .ok (.goto (-44), 3) := by decide +kernel
theorem dX5_areAll_49 : decode cX5_areAll 49 = .ok (.iconst 1, 1) := by decide +kernel
theorem dX5_areAll_50 : decode cX5_areAll 50 = .ok (.ireturn, 1) := by decide +kernel
theorem dX5_clique_0 : decode cX5_clique 0 = .ok (.aload_n 0, 1) := by decide +kernel
theorem dX5_clique_1 : decode cX5_clique 1 = .ok (.iconst 0, 1) := by decide +kernel
theorem dX5_clique_2 : decode cX5_clique 2 = .ok (.putfield 39, 3) := by decide +kernel
theorem dX5_clique_5 : decode cX5_clique 5 = .ok (.iconst 0, 1) := by decide +kernel
theorem dX5_clique_6 : decode cX5_clique 6 = .ok (.istore_n 1, 1) := by decide +kernel
theorem dX5_clique_7 : decode cX5_clique 7 = .ok (.iconst 0, 1) := by decide +kernel
theorem dX5_clique_8 : decode cX5_clique 8 = .ok (.istore_n 2, 1) := by decide +kernel
theorem dX5_clique_9 : decode cX5_clique 9 = .ok (.iload_n 2, 1) := by decide +kernel
theorem dX5_clique_10 : decode cX5_clique 10 = .ok (.iconst 1, 1) := by decide +kernel
theorem dX5_clique_11 : decode cX5_clique 11 = .ok (.aload_n 0, 1) := by decide +kernel
theorem dX5_clique_12 : decode cX5_clique 12 = .ok (.getfield 7, 3) := by decide +kernel
theorem dX5_clique_15 : decode cX5_clique 15 = .ok (.iconst 0, 1) := by decide +kernel
theorem dX5_clique_16 : decode cX5_clique 16 = .ok (.iaload, 1) := by decide +kernel
theorem dX5_clique_17 : decode cX5_clique 17 = .ok (.ishl, 1) := by decide +kernel
theorem dX5_clique_18 : decode cX5_clique 18 = .ok (.if_icmp .ge 55, 3) := by decide +kernel
theorem dX5_clique_21 : decode cX5_clique 21 = .ok (.iconst 0, 1) := by decide +kernel
theorem dX5_clique_22 : decode cX5_clique 22 = .ok (.istore_n 3, 1) := by decide +kernel
theorem dX5_clique_23 : decode cX5_clique 23 = .ok (.iconst 0, 1) := by decide +kernel
theorem dX5_clique_24 : decode cX5_clique 24 = .ok (.istore 4, 2) := by decide +kernel
theorem dX5_clique_26 : decode cX5_clique 26 = .ok (.iload 4, 2) := by decide +kernel
theorem dX5_clique_28 : decode cX5_clique 28 = .ok (.aload_n 0, 1) := by decide +kernel
theorem dX5_clique_29 : decode cX5_clique 29 = .ok (.getfield 7, 3) := by decide +kernel
theorem dX5_clique_32 : decode cX5_clique 32 = .ok (.iconst 0, 1) := by decide +kernel
theorem dX5_clique_33 : decode cX5_clique 33 = .ok (.iaload, 1) := by decide +kernel
theorem dX5_clique_34 : decode cX5_clique 34 = .ok (.if_icmp .ge 18, 3) := by decide +kernel
theorem dX5_clique_37 : decode cX5_clique 37 = .ok (.iload_n 3, 1) := by decide +kernel
theorem dX5_clique_38 : decode cX5_clique 38 = .ok (.iload_n 2, 1) := by decide +kernel
theorem dX5_clique_39 : decode cX5_clique 39 = .ok (.iload 4, 2) := by decide +kernel
theorem dX5_clique_41 : decode cX5_clique 41 = .ok (.ishr, 1) := by decide +kernel
theorem dX5_clique_42 : decode cX5_clique 42 = .ok (.iconst 1, 1) := by decide +kernel
theorem dX5_clique_43 : decode cX5_clique 43 = .ok (.iand, 1) := by decide +kernel
theorem dX5_clique_44 : decode cX5_clique 44 = .ok (.iadd, 1) := by decide +kernel
theorem dX5_clique_45 : decode cX5_clique 45 = .ok (.istore_n 3, 1) := by decide +kernel
theorem dX5_clique_46 : decode cX5_clique 46 = .ok (.iinc 4 1, 3) := by decide +kernel
theorem dX5_clique_49 : decode cX5_clique 49 = .ok (.goto (-23), 3) := by decide +kernel
theorem dX5_clique_52 : decode cX5_clique 52 = .ok (.iload_n 3, 1) := by decide +kernel
theorem dX5_clique_53 : decode cX5_clique 53 = .ok (.iload_n 1, 1) := by decide +kernel
theorem dX5_clique_54 : decode cX5_clique 54 = .ok (.if_icmp .le 13, 3) := by decide +kernel
theorem dX5_clique_57 : decode cX5_clique 57 = .ok (.aload_n 0, 1) := by decide +kernel
theorem dX5_clique_58 : decode cX5_clique 58 = .ok (.iload_n 2, 1) := by decide +kernel
theorem dX5_clique_59 : decode cX5_clique 59 = .ok (.invokevirtual 160, 3) := by decide +kernel
theorem dX5_clique_62 : decode cX5_clique 62 = .ok (.ifCond .eq 5, 3) := by decide +kernel
theorem dX5_clique_65 : decode cX5_clique 65 = .ok (.iload_n 3, 1) := by decide +kernel
theorem dX5_clique_66 : decode cX5_clique 66 = .ok (.istore_n 1, 1) := by decide +kernel
theorem dX5_clique_67 : decode cX5_clique 67 = .ok (.iinc 2 1, 3) := by decide +kernel
theorem dX5_clique_70 : decode cX5_clique 70 = .ok (.goto (-61), 3) := by decide +kernel
theorem dX5_clique_73 : decode cX5_clique 73 = .ok (.iload_n 1, 1) := by decide +kernel
theorem dX5_clique_74 : decode cX5_clique 74 = .ok (.ireturn, 1) := by decide +kernel
theorem dX5_writes_0 : decode cX5_writes 0 = .ok (.aload_n 0, 1) := by decide +kernel
theorem dX5_writes_1 : decode cX5_writes 1 = .ok (.getfield 29, 3) := by decide +kernel
theorem dX5_writes_4 : decode cX5_writes 4 = .ok (.aload_n 0, 1) := by decide +kernel
theorem dX5_writes_5 : decode cX5_writes 5 = .ok (.getfield 163, 3) := by decide +kernel
theorem dX5_writes_8 : decode cX5_writes 8 = .ok (.iload_n 1, 1) := by decide +kernel
theorem dX5_writes_9 : decode cX5_writes 9 = .ok (.i2c, 1) := by decide +kernel
theorem dX5_writes_10 : decode cX5_writes 10 = .ok (.castore, 1) := by decide +kernel
theorem dX5_writes_11 : decode cX5_writes 11 = .ok (.aload_n 0, 1) := by decide +kernel
theorem dX5_writes_12 : decode cX5_writes 12 = .ok (.dup, 1) := by decide +kernel
theorem dX5_writes_13 : decode cX5_writes 13 = .ok (.getfield 163, 3) := by decide +kernel
theorem dX5_writes_16 : decode cX5_writes 16 = .ok (.iconst 1, 1) := by decide +kernel
theorem dX5_writes_17 : decode cX5_writes 17 = .ok (.iadd, 1) := by decide +kernel
theorem dX5_writes_18 : decode cX5_writes 18 = .ok (.putfield 163, 3) := by decide +kernel
theorem dX5_writes_21 : decode cX5_writes 21 = .ok (.return_, 1) := by decide +kernel
theorem dX5_line_0 : decode cX5_line 0 = .ok (.aload_n 0, 1) := by decide +kernel
theorem dX5_line_1 : decode cX5_line 1 = .ok (.aload_n 0, 1) := by decide +kernel
theorem dX5_line_2 : decode cX5_line 2 = .ok (.iload_n 1, 1) := by decide +kernel
theorem dX5_line_3 : decode cX5_line 3 = .ok (.invokevirtual 87, 3) := by decide +kernel
theorem dX5_line_6 : decode cX5_line 6 = .ok (.ifCond .eq 7, 3) := by decide +kernel
theorem dX5_line_9 : decode cX5_line 9 = .ok (.iconst 0, 1) := by decide +kernel
theorem dX5_line_10 : decode cX5_line 10 = .ok (.goto 4, 3) := by decide +kernel
theorem dX5_line_13 : decode cX5_line 13 = .ok (.iconst 1, 1) := by decide +kernel
theorem dX5_line_14 : decode cX5_line 14 = .ok (.invokevirtual 71, 3) := by decide +kernel
theorem dX5_line_17 : decode cX5_line 17 = .ok (.ifCond .eq 5, 3) := by decide +kernel
theorem dX5_line_20 : decode cX5_line 20 = .ok (.iconst 0, 1) := by decide +kernel
theorem dX5_line_21 : decode cX5_line 21 = .ok (.ireturn, 1) := by decide +kernel
theorem dX5_line_22 : decode cX5_line 22 = .ok (.aload_n 0, 1) := by decide +kernel
theorem dX5_line_23 : decode cX5_line 23 = .ok (.iconst 0, 1) := by decide +kernel
theorem dX5_line_24 : decode cX5_line 24 = .ok (.putfield 163, 3) := by decide +kernel
theorem dX5_line_27 : decode cX5_line 27 = .ok (.aload_n 0, 1) := by decide +kernel
theorem dX5_line_28 : decode cX5_line 28 = .ok (.bipush 48, 2) := by decide +kernel
theorem dX5_line_30 : decode cX5_line 30 = .ok (.iload_n 1, 1) := by decide +kernel
theorem dX5_line_31 : decode cX5_line 31 = .ok (.iadd, 1) := by decide +kernel
theorem dX5_line_32 : decode cX5_line 32 = .ok (.invokevirtual 166, 3) := by decide +kernel
theorem dX5_line_35 : decode cX5_line 35 = .ok (.aload_n 0, 1) := by decide +kernel
theorem dX5_line_36 : decode cX5_line 36 = .ok (.bipush 58, 2) := by decide +kernel
theorem dX5_line_38 : decode cX5_line 38 = .ok (.invokevirtual 166, 3) := by decide +kernel
theorem dX5_line_41 : decode cX5_line 41 = .ok (.aload_n 0, 1) := by decide +kernel
theorem dX5_line_42 : decode cX5_line 42 = .ok (.aload_n 0, 1) := by decide +kernel
theorem dX5_line_43 : decode cX5_line 43 = .ok (.iload_n 1, 1) := by decide +kernel
theorem dX5_line_44 : decode cX5_line 44 = .ok (.invokevirtual 90, 3) := by decide +kernel
theorem dX5_line_47 : decode cX5_line 47 = .ok (.ifCond .eq 15, 3) := by decide +kernel
theorem dX5_line_50 : decode cX5_line 50 = .ok (.bipush 48, 2) := by decide +kernel
theorem dX5_line_52 : decode cX5_line 52 = .ok (.aload_n 0, 1) := by decide +kernel
theorem dX5_line_53 : decode cX5_line 53 = .ok (.iload_n 1, 1) := by decide +kernel
theorem dX5_line_54 : decode cX5_line 54 = .ok (.iconst 1, 1) := by decide +kernel
theorem dX5_line_55 : decode cX5_line 55 = .ok (.invokevirtual 63, 3) := by decide +kernel
theorem dX5_line_58 : decode cX5_line 58 = .ok (.iadd, 1) := by decide +kernel
theorem dX5_line_59 : decode cX5_line 59 = .ok (.goto 5, 3) := by decide +kernel
theorem dX5_line_62 : decode cX5_line 62 = .ok (.bipush 45, 2) := by decide +kernel
theorem dX5_line_64 : decode cX5_line 64 = .ok (.invokevirtual 166, 3) := by decide +kernel
theorem dX5_line_67 : decode cX5_line 67 = .ok (.aload_n 0, 1) := by decide +kernel
theorem dX5_line_68 : decode cX5_line 68 = .ok (.bipush 40, 2) := by decide +kernel
theorem dX5_line_70 : decode cX5_line 70 = .ok (.invokevirtual 166, 3) := by decide +kernel
theorem dX5_line_73 : decode cX5_line 73 = .ok (.iconst 1, 1) := by decide +kernel
theorem dX5_line_74 : decode cX5_line 74 = .ok (.istore_n 2, 1) := by decide +kernel
theorem dX5_line_75 : decode cX5_line 75 = .ok (.iconst 0, 1) := by decide +kernel
theorem dX5_line_76 : decode cX5_line 76 = .ok (.istore_n 3, 1) := by decide +kernel
theorem dX5_line_77 : decode cX5_line 77 = .ok (.iload_n 3, 1) := by decide +kernel
theorem dX5_line_78 : decode cX5_line 78 = .ok (.aload_n 0, 1) := by decide +kernel
theorem dX5_line_79 : decode cX5_line 79 = .ok (.getfield 7, 3) := by decide +kernel
theorem dX5_line_82 : decode cX5_line 82 = .ok (.iconst 0, 1) := by decide +kernel
theorem dX5_line_83 : decode cX5_line 83 = .ok (.iaload, 1) := by decide +kernel
theorem dX5_line_84 : decode cX5_line 84 = .ok (.if_icmp .ge 41, 3) := by decide +kernel
theorem dX5_line_87 : decode cX5_line 87 = .ok (.aload_n 0, 1) := by decide +kernel
theorem dX5_line_88 : decode cX5_line 88 = .ok (.iload_n 1, 1) := by decide +kernel
theorem dX5_line_89 : decode cX5_line 89 = .ok (.iload_n 3, 1) := by decide +kernel
theorem dX5_line_90 : decode cX5_line 90 = .ok (.invokevirtual 67, 3) := by decide +kernel
theorem dX5_line_93 : decode cX5_line 93 = .ok (.ifCond .ne 6, 3) := by decide +kernel
theorem dX5_line_96 : decode cX5_line 96 = .ok (.goto 23, 3) := by decide +kernel
theorem dX5_line_99 : decode cX5_line 99 = .ok (.iload_n 2, 1) := by decide +kernel
theorem dX5_line_100 : decode cX5_line 100 = .ok (.ifCond .ne 9, 3) := by decide +kernel
theorem dX5_line_103 : decode cX5_line 103 = .ok (.aload_n 0, 1) := by decide +kernel
theorem dX5_line_104 : decode cX5_line 104 = .ok (.bipush 44, 2) := by decide +kernel
theorem dX5_line_106 : decode cX5_line 106 = .ok (.invokevirtual 166, 3) := by decide +kernel
theorem dX5_line_109 : decode cX5_line 109 = .ok (.aload_n 0, 1) := by decide +kernel
theorem dX5_line_110 : decode cX5_line 110 = .ok (.bipush 48, 2) := by decide +kernel
theorem dX5_line_112 : decode cX5_line 112 = .ok (.iload_n 3, 1) := by decide +kernel
theorem dX5_line_113 : decode cX5_line 113 = .ok (.iadd, 1) := by decide +kernel
theorem dX5_line_114 : decode cX5_line 114 = .ok (.invokevirtual 166, 3) := by decide +kernel
theorem dX5_line_117 : decode cX5_line 117 = .ok (.iconst 0, 1) := by decide +kernel
theorem dX5_line_118 : decode cX5_line 118 = .ok (.istore_n 2, 1) := by decide +kernel
theorem dX5_line_119 : decode cX5_line 119 = .ok (.iinc 3 1, 3) := by decide +kernel
theorem dX5_line_122 : decode cX5_line 122 = .ok (.goto (-45), 3) := by decide +kernel
theorem dX5_line_125 : decode cX5_line 125 = .ok (.aload_n 0, 1) := by decide +kernel
theorem dX5_line_126 : decode cX5_line 126 = .ok (.bipush 41, 2) := by decide +kernel
theorem dX5_line_128 : decode cX5_line 128 = .ok (.invokevirtual 166, 3) := by decide +kernel
theorem dX5_line_131 : decode cX5_line 131 = .ok (.aload_n 0, 1) := by decide +kernel
theorem dX5_line_132 : decode cX5_line 132 = .ok (.iload_n 1, 1) := by decide +kernel
theorem dX5_line_133 : decode cX5_line 133 = .ok (.invokevirtual 132, 3) := by decide +kernel
theorem dX5_line_136 : decode cX5_line 136 = .ok (.ifCond .eq 9, 3) := by decide +kernel
theorem dX5_line_139 : decode cX5_line 139 = .ok (.aload_n 0, 1) := by decide +kernel
theorem dX5_line_140 : decode cX5_line 140 = .ok (.bipush 33, 2) := by decide +kernel
theorem dX5_line_142 : decode cX5_line 142 = .ok (.invokevirtual 166, 3) := by decide +kernel
theorem dX5_line_145 : decode cX5_line 145 = .ok (.aload_n 0, 1) := by decide +kernel
theorem dX5_line_146 : decode cX5_line 146 = .ok (.getfield 163, 3) := by decide +kernel
theorem dX5_line_149 : decode cX5_line 149 = .ok (.ireturn, 1) := by decide +kernel
theorem dX5_character_0 : decode cX5_character 0 = .ok (.aload_n 0, 1) := by decide +kernel
theorem dX5_character_1 : decode cX5_character 1 = .ok (.iload_n 1, 1) := by decide +kernel
theorem dX5_character_2 : decode cX5_character 2 = .ok (.iconst 0, 1) := by decide +kernel
theorem dX5_character_3 : decode cX5_character 3 = .ok (.aload_n 0, 1) := by decide +kernel
theorem dX5_character_4 : decode cX5_character 4 = .ok (.getfield 163, 3) := by decide +kernel
theorem dX5_character_7 : decode cX5_character 7 = .ok (.iconst 1, 1) := by decide +kernel
theorem dX5_character_8 : decode cX5_character 8 = .ok (.isub, 1) := by decide +kernel
theorem dX5_character_9 : decode cX5_character 9 = .ok (.invokestatic 59, 3) := by decide +kernel
theorem dX5_character_12 : decode cX5_character 12 = .ok (.ifCond .eq 7, 3) := by decide +kernel
theorem dX5_character_15 : decode cX5_character 15 = .ok (.iconst 0, 1) := by decide +kernel
theorem dX5_character_16 : decode cX5_character 16 = .ok (.goto 4, 3) := by decide +kernel
theorem dX5_character_19 : decode cX5_character 19 = .ok (.iconst 1, 1) := by decide +kernel
theorem dX5_character_20 : decode cX5_character 20 = .ok (.invokevirtual 71, 3) := by decide +kernel
theorem dX5_character_23 : decode cX5_character 23 = .ok (.ifCond .eq 8, 3) := by decide +kernel
theorem dX5_character_26 : decode cX5_character 26 = .ok (.bipush 32, 2) := by decide +kernel
theorem dX5_character_28 : decode cX5_character 28 = .ok (.goto 9, 3) := by decide +kernel
theorem dX5_character_31 : decode cX5_character 31 = .ok (.aload_n 0, 1) := by decide +kernel
theorem dX5_character_32 : decode cX5_character 32 = .ok (.getfield 29, 3) := by decide +kernel
theorem dX5_character_35 : decode cX5_character 35 = .ok (.iload_n 1, 1) := by decide +kernel
theorem dX5_character_36 : decode cX5_character 36 = .ok (.caload, 1) := by decide +kernel
theorem dX5_character_37 : decode cX5_character 37 = .ok (.ireturn, 1) := by decide +kernel
theorem dX5_append_0 : decode cX5_append 0 = .ok (.aload_n 0, 1) := by decide +kernel
theorem dX5_append_1 : decode cX5_append 1 = .ok (.aload_n 0, 1) := by decide +kernel
theorem dX5_append_2 : decode cX5_append 2 = .ok (.getfield 170, 3) := by decide +kernel
theorem dX5_append_5 : decode cX5_append 5 = .ok (.bipush 60, 2) := by decide +kernel
theorem dX5_append_7 : decode cX5_append 7 = .ok (.if_icmp .ne 7, 3) := by decide +kernel
theorem dX5_append_10 : decode cX5_append 10 = .ok (.iconst 1, 1) := by decide +kernel
theorem dX5_append_11 : decode cX5_append 11 = .ok (.goto 4, 3) := by decide +kernel
theorem dX5_append_14 : decode cX5_append 14 = .ok (.iconst 0, 1) := by decide +kernel
theorem dX5_append_15 : decode cX5_append 15 = .ok (.invokevirtual 71, 3) := by decide +kernel
theorem dX5_append_18 : decode cX5_append 18 = .ok (.ifCond .eq 5, 3) := by decide +kernel
theorem dX5_append_21 : decode cX5_append 21 = .ok (.iconst 0, 1) := by decide +kernel
theorem dX5_append_22 : decode cX5_append 22 = .ok (.ireturn, 1) := by decide +kernel
theorem dX5_append_23 : decode cX5_append 23 = .ok (.aload_n 0, 1) := by decide +kernel
theorem dX5_append_24 : decode cX5_append 24 = .ok (.getfield 22, 3) := by decide +kernel
theorem dX5_append_27 : decode cX5_append 27 = .ok (.aload_n 0, 1) := by decide +kernel
theorem dX5_append_28 : decode cX5_append 28 = .ok (.getfield 170, 3) := by decide +kernel
theorem dX5_append_31 : decode cX5_append 31 = .ok (.iload_n 1, 1) := by decide +kernel
theorem dX5_append_32 : decode cX5_append 32 = .ok (.iastore, 1) := by decide +kernel
theorem dX5_append_33 : decode cX5_append 33 = .ok (.aload_n 0, 1) := by decide +kernel
theorem dX5_append_34 : decode cX5_append 34 = .ok (.dup, 1) := by decide +kernel
theorem dX5_append_35 : decode cX5_append 35 = .ok (.getfield 170, 3) := by decide +kernel
theorem dX5_append_38 : decode cX5_append 38 = .ok (.iconst 1, 1) := by decide +kernel
theorem dX5_append_39 : decode cX5_append 39 = .ok (.iadd, 1) := by decide +kernel
theorem dX5_append_40 : decode cX5_append 40 = .ok (.putfield 170, 3) := by decide +kernel
theorem dX5_append_43 : decode cX5_append 43 = .ok (.aload_n 0, 1) := by decide +kernel
theorem dX5_append_44 : decode cX5_append 44 = .ok (.getfield 170, 3) := by decide +kernel
theorem dX5_append_47 : decode cX5_append 47 = .ok (.ireturn, 1) := by decide +kernel
theorem dX5_here_0 : decode cX5_here 0 = .ok (.aload_n 0, 1) := by decide +kernel
theorem dX5_here_1 : decode cX5_here 1 = .ok (.getfield 173, 3) := by decide +kernel
theorem dX5_here_4 : decode cX5_here 4 = .ok (.aload_n 0, 1) := by decide +kernel
theorem dX5_here_5 : decode cX5_here 5 = .ok (.getfield 170, 3) := by decide +kernel
theorem dX5_here_8 : decode cX5_here 8 = .ok (.if_icmp .ge 15, 3) := by decide +kernel
theorem dX5_here_11 : decode cX5_here 11 = .ok (.aload_n 0, 1) := by decide +kernel
theorem dX5_here_12 : decode cX5_here 12 = .ok (.getfield 22, 3) := by decide +kernel
theorem dX5_here_15 : decode cX5_here 15 = .ok (.aload_n 0, 1) := by decide +kernel
theorem dX5_here_16 : decode cX5_here 16 = .ok (.getfield 173, 3) := by decide +kernel
theorem dX5_here_19 : decode cX5_here 19 = .ok (.iaload, 1) := by decide +kernel
theorem dX5_here_20 : decode cX5_here 20 = .ok (.goto 4, 3) := by decide +kernel
theorem dX5_here_23 : decode cX5_here 23 = .ok (.iconst (-1), 1) := by decide +kernel
theorem dX5_here_24 : decode cX5_here 24 = .ok (.ireturn, 1) := by decide +kernel
theorem dX5_skips_0 : decode cX5_skips 0 = .ok (.aload_n 0, 1) := by decide +kernel
theorem dX5_skips_1 : decode cX5_skips 1 = .ok (.invokevirtual 176, 3) := by decide +kernel
theorem dX5_skips_4 : decode cX5_skips 4 = .ok (.iload_n 1, 1) := by decide +kernel
theorem dX5_skips_5 : decode cX5_skips 5 = .ok (.if_icmp .eq 5, 3) := by decide +kernel
theorem dX5_skips_8 : decode cX5_skips 8 = .ok (.iconst 0, 1) := by decide +kernel
theorem dX5_skips_9 : decode cX5_skips 9 = .ok (.ireturn, 1) := by decide +kernel
theorem dX5_skips_10 : decode cX5_skips 10 = .ok (.aload_n 0, 1) := by decide +kernel
theorem dX5_skips_11 : decode cX5_skips 11 = .ok (.dup, 1) := by decide +kernel
theorem dX5_skips_12 : decode cX5_skips 12 = .ok (.getfield 173, 3) := by decide +kernel
theorem dX5_skips_15 : decode cX5_skips 15 = .ok (.iconst 1, 1) := by decide +kernel
theorem dX5_skips_16 : decode cX5_skips 16 = .ok (.iadd, 1) := by decide +kernel
theorem dX5_skips_17 : decode cX5_skips 17 = .ok (.putfield 173, 3) := by decide +kernel
theorem dX5_skips_20 : decode cX5_skips 20 = .ok (.iconst 1, 1) := by decide +kernel
theorem dX5_skips_21 : decode cX5_skips 21 = .ok (.ireturn, 1) := by decide +kernel
theorem dX5_number_0 : decode cX5_number 0 = .ok (.aload_n 0, 1) := by decide +kernel
theorem dX5_number_1 : decode cX5_number 1 = .ok (.invokevirtual 176, 3) := by decide +kernel
theorem dX5_number_4 : decode cX5_number 4 = .ok (.bipush 48, 2) := by decide +kernel
theorem dX5_number_6 : decode cX5_number 6 = .ok (.bipush 57, 2) := by decide +kernel
theorem dX5_number_8 : decode cX5_number 8 = .ok (.invokestatic 59, 3) := by decide +kernel
theorem dX5_number_11 : decode cX5_number 11 = .ok (.ifCond .ne 5, 3) := by decide +kernel
theorem dX5_number_14 : decode cX5_number 14 = .ok (.iconst 0, 1) := by decide +kernel
theorem dX5_number_15 : decode cX5_number 15 = .ok (.ireturn, 1) := by decide +kernel
theorem dX5_number_16 : decode cX5_number 16 = .ok (.aload_n 0, 1) := by decide +kernel
theorem dX5_number_17 : decode cX5_number 17 = .ok (.getfield 36, 3) := by decide +kernel
theorem dX5_number_20 : decode cX5_number 20 = .ok (.iload_n 1, 1) := by decide +kernel
theorem dX5_number_21 : decode cX5_number 21 = .ok (.iconst 0, 1) := by decide +kernel
theorem dX5_number_22 : decode cX5_number 22 = .ok (.iastore, 1) := by decide +kernel
theorem dX5_number_23 : decode cX5_number 23 = .ok (.iconst 0, 1) := by decide +kernel
theorem dX5_number_24 : decode cX5_number 24 = .ok (.istore_n 3, 1) := by decide +kernel
theorem dX5_number_25 : decode cX5_number 25 = .ok (.iload_n 3, 1) := by decide +kernel
theorem dX5_number_26 : decode cX5_number 26 = .ok (.iload_n 2, 1) := by decide +kernel
theorem dX5_number_27 : decode cX5_number 27 = .ok (.if_icmp .ge 56, 3) := by decide +kernel
theorem dX5_number_30 : decode cX5_number 30 = .ok (.aload_n 0, 1) := by decide +kernel
theorem dX5_number_31 : decode cX5_number 31 = .ok (.invokevirtual 176, 3) := by decide +kernel
theorem dX5_number_34 : decode cX5_number 34 = .ok (.bipush 48, 2) := by decide +kernel
theorem dX5_number_36 : decode cX5_number 36 = .ok (.bipush 57, 2) := by decide +kernel
theorem dX5_number_38 : decode cX5_number 38 = .ok (.invokestatic 59, 3) := by decide +kernel
theorem dX5_number_41 : decode cX5_number 41 = .ok (.ifCond .eq 42, 3) := by decide +kernel
theorem dX5_number_44 : decode cX5_number 44 = .ok (.aload_n 0, 1) := by decide +kernel
theorem dX5_number_45 : decode cX5_number 45 = .ok (.getfield 36, 3) := by decide +kernel
theorem dX5_number_48 : decode cX5_number 48 = .ok (.iload_n 1, 1) := by decide +kernel
theorem dX5_number_49 : decode cX5_number 49 = .ok (.bipush 10, 2) := by decide +kernel
theorem dX5_number_51 : decode cX5_number 51 = .ok (.aload_n 0, 1) := by decide +kernel
theorem dX5_number_52 : decode cX5_number 52 = .ok (.getfield 36, 3) := by decide +kernel
theorem dX5_number_55 : decode cX5_number 55 = .ok (.iload_n 1, 1) := by decide +kernel
theorem dX5_number_56 : decode cX5_number 56 = .ok (.iaload, 1) := by decide +kernel
theorem dX5_number_57 : decode cX5_number 57 = .ok (.imul, 1) := by decide +kernel
theorem dX5_number_58 : decode cX5_number 58 = .ok (.aload_n 0, 1) := by decide +kernel
theorem dX5_number_59 : decode cX5_number 59 = .ok (.invokevirtual 176, 3) := by decide +kernel
theorem dX5_number_62 : decode cX5_number 62 = .ok (.iadd, 1) := by decide +kernel
theorem dX5_number_63 : decode cX5_number 63 = .ok (.bipush 48, 2) := by decide +kernel
theorem dX5_number_65 : decode cX5_number 65 = .ok (.isub, 1) := by decide +kernel
theorem dX5_number_66 : decode cX5_number 66 = .ok (.iastore, 1) := by decide +kernel
theorem dX5_number_67 : decode cX5_number 67 = .ok (.aload_n 0, 1) := by decide +kernel
theorem dX5_number_68 : decode cX5_number 68 = .ok (.dup, 1) := by decide +kernel
theorem dX5_number_69 : decode cX5_number 69 = .ok (.getfield 173, 3) := by decide +kernel
theorem dX5_number_72 : decode cX5_number 72 = .ok (.iconst 1, 1) := by decide +kernel
theorem dX5_number_73 : decode cX5_number 73 = .ok (.iadd, 1) := by decide +kernel
theorem dX5_number_74 : decode cX5_number 74 = .ok (.putfield 173, 3) := by decide +kernel
theorem dX5_number_77 : decode cX5_number 77 = .ok (.iinc 3 1, 3) := by decide +kernel
theorem dX5_number_80 : decode cX5_number 80 = .ok (.goto (-55), 3) := by decide +kernel
theorem dX5_number_83 : decode cX5_number 83 = .ok (.iconst 1, 1) := by decide +kernel
theorem dX5_number_84 : decode cX5_number 84 = .ok (.ireturn, 1) := by decide +kernel
theorem dX5_orderHere_0 : decode cX5_orderHere 0 = .ok (.iconst 4, 1) := by decide +kernel
theorem dX5_orderHere_1 : decode cX5_orderHere 1 = .ok (.aload_n 0, 1) := by decide +kernel
theorem dX5_orderHere_2 : decode cX5_orderHere 2 = .ok (.getfield 179, 3) := by decide +kernel
theorem dX5_orderHere_5 : decode cX5_orderHere 5 = .ok (.imul, 1) := by decide +kernel
theorem dX5_orderHere_6 : decode cX5_orderHere 6 = .ok (.istore_n 1, 1) := by decide +kernel
theorem dX5_orderHere_7 : decode cX5_orderHere 7 = .ok (.aload_n 0, 1) := by decide +kernel
theorem dX5_orderHere_8 : decode cX5_orderHere 8 = .ok (.getfield 36, 3) := by decide +kernel
theorem dX5_orderHere_11 : decode cX5_orderHere 11 = .ok (.iload_n 1, 1) := by decide +kernel
theorem dX5_orderHere_12 : decode cX5_orderHere 12 = .ok (.aload_n 0, 1) := by decide +kernel
theorem dX5_orderHere_13 : decode cX5_orderHere 13 = .ok (.invokevirtual 176, 3) := by decide +kernel
theorem dX5_orderHere_16 : decode cX5_orderHere 16 = .ok (.iastore, 1) := by decide +kernel
theorem dX5_orderHere_17 : decode cX5_orderHere 17 = .ok (.aload_n 0, 1) := by decide +kernel
theorem dX5_orderHere_18 : decode cX5_orderHere 18 = .ok (.bipush 112, 2) := by decide +kernel
theorem dX5_orderHere_20 : decode cX5_orderHere 20 = .ok (.invokevirtual 182, 3) := by decide +kernel
theorem dX5_orderHere_23 : decode cX5_orderHere 23 = .ok (.ifCond .eq 40, 3) := by decide +kernel
theorem dX5_orderHere_26 : decode cX5_orderHere 26 = .ok (.aload_n 0, 1) := by decide +kernel
theorem dX5_orderHere_27 : decode cX5_orderHere 27 = .ok (.iload_n 1, 1) := by decide +kernel
theorem dX5_orderHere_28 : decode cX5_orderHere 28 = .ok (.iconst 1, 1) := by decide +kernel
theorem dX5_orderHere_29 : decode cX5_orderHere 29 = .ok (.iadd, 1) := by decide +kernel
theorem dX5_orderHere_30 : decode cX5_orderHere 30 = .ok (.iconst 1, 1) := by decide +kernel
theorem dX5_orderHere_31 : decode cX5_orderHere 31 = .ok (.invokevirtual 185, 3) := by decide +kernel
theorem dX5_orderHere_34 : decode cX5_orderHere 34 = .ok (.ifCond .eq 27, 3) := by decide +kernel
theorem dX5_orderHere_37 : decode cX5_orderHere 37 = .ok (.aload_n 0, 1) := by decide +kernel
theorem dX5_orderHere_38 : decode cX5_orderHere 38 = .ok (.bipush 61, 2) := by decide +kernel
theorem dX5_orderHere_40 : decode cX5_orderHere 40 = .ok (.invokevirtual 182, 3) := by decide +kernel
theorem dX5_orderHere_43 : decode cX5_orderHere 43 = .ok (.ifCond .eq 18, 3) := by decide +kernel
theorem dX5_orderHere_46 : decode cX5_orderHere 46 = .ok (.aload_n 0, 1) := by decide +kernel
theorem dX5_orderHere_47 : decode cX5_orderHere 47 = .ok (.iload_n 1, 1) := by decide +kernel
theorem dX5_orderHere_48 : decode cX5_orderHere 48 = .ok (.iconst 2, 1) := by decide +kernel
theorem dX5_orderHere_49 : decode cX5_orderHere 49 = .ok (.iadd, 1) := by decide +kernel
theorem dX5_orderHere_50 : decode cX5_orderHere 50 = .ok (.iconst 1, 1) := by decide +kernel
theorem dX5_orderHere_51 : decode cX5_orderHere 51 = .ok (.invokevirtual 185, 3) := by decide +kernel
theorem dX5_orderHere_54 : decode cX5_orderHere 54 = .ok (.ifCond .eq 7, 3) := by decide +kernel
theorem dX5_orderHere_57 : decode cX5_orderHere 57 = .ok (.iconst 1, 1) := by decide +kernel
theorem dX5_orderHere_58 : decode cX5_orderHere 58 = .ok (.goto 4, 3) := by decide +kernel
theorem dX5_orderHere_61 : decode cX5_orderHere 61 = .ok (.iconst 0, 1) := by decide +kernel
theorem dX5_orderHere_62 : decode cX5_orderHere 62 = .ok (.ireturn, 1) := by decide +kernel
theorem dX5_orderHere_63 : decode cX5_orderHere 63 = .ok (.aload_n 0, 1) := by decide +kernel
theorem dX5_orderHere_64 : decode cX5_orderHere 64 = .ok (.bipush 98, 2) := by decide +kernel
theorem dX5_orderHere_66 : decode cX5_orderHere 66 = .ok (.invokevirtual 182, 3) := by decide +kernel
theorem dX5_orderHere_69 : decode cX5_orderHere 69 = .ok (.ifCond .eq 40, 3) := by decide +kernel
theorem dX5_orderHere_72 : decode cX5_orderHere 72 = .ok (.aload_n 0, 1) := by decide +kernel
theorem dX5_orderHere_73 : decode cX5_orderHere 73 = .ok (.iload_n 1, 1) := by decide +kernel
theorem dX5_orderHere_74 : decode cX5_orderHere 74 = .ok (.iconst 1, 1) := by decide +kernel
theorem dX5_orderHere_75 : decode cX5_orderHere 75 = .ok (.iadd, 1) := by decide +kernel
theorem dX5_orderHere_76 : decode cX5_orderHere 76 = .ok (.iconst 1, 1) := by decide +kernel
theorem dX5_orderHere_77 : decode cX5_orderHere 77 = .ok (.invokevirtual 185, 3) := by decide +kernel
theorem dX5_orderHere_80 : decode cX5_orderHere 80 = .ok (.ifCond .eq 27, 3) := by decide +kernel
theorem dX5_orderHere_83 : decode cX5_orderHere 83 = .ok (.aload_n 0, 1) := by decide +kernel
theorem dX5_orderHere_84 : decode cX5_orderHere 84 = .ok (.bipush 45, 2) := by decide +kernel
theorem dX5_orderHere_86 : decode cX5_orderHere 86 = .ok (.invokevirtual 182, 3) := by decide +kernel
theorem dX5_orderHere_89 : decode cX5_orderHere 89 = .ok (.ifCond .eq 18, 3) := by decide +kernel
theorem dX5_orderHere_92 : decode cX5_orderHere 92 = .ok (.aload_n 0, 1) := by decide +kernel
theorem dX5_orderHere_93 : decode cX5_orderHere 93 = .ok (.iload_n 1, 1) := by decide +kernel
theorem dX5_orderHere_94 : decode cX5_orderHere 94 = .ok (.iconst 2, 1) := by decide +kernel
theorem dX5_orderHere_95 : decode cX5_orderHere 95 = .ok (.iadd, 1) := by decide +kernel
theorem dX5_orderHere_96 : decode cX5_orderHere 96 = .ok (.iconst 1, 1) := by decide +kernel
theorem dX5_orderHere_97 : decode cX5_orderHere 97 = .ok (.invokevirtual 185, 3) := by decide +kernel
theorem dX5_orderHere_100 : decode cX5_orderHere 100 = .ok (.ifCond .eq 7, 3) := by decide +kernel
theorem dX5_orderHere_103 : decode cX5_orderHere 103 = .ok (.iconst 1, 1) := by decide +kernel
theorem dX5_orderHere_104 : decode cX5_orderHere 104 = .ok (.goto 4, 3) := by decide +kernel
theorem dX5_orderHere_107 : decode cX5_orderHere 107 = .ok (.iconst 0, 1) := by decide +kernel
theorem dX5_orderHere_108 : decode cX5_orderHere 108 = .ok (.ireturn, 1) := by decide +kernel
theorem dX5_orderHere_109 : decode cX5_orderHere 109 = .ok (.aload_n 0, 1) := by decide +kernel
theorem dX5_orderHere_110 : decode cX5_orderHere 110 = .ok (.bipush 119, 2) := by decide +kernel
theorem dX5_orderHere_112 : decode cX5_orderHere 112 = .ok (.invokevirtual 182, 3) := by decide +kernel
theorem dX5_orderHere_115 : decode cX5_orderHere 115 = .ok (.ifCond .eq 60, 3) := by decide +kernel
theorem dX5_orderHere_118 : decode cX5_orderHere 118 = .ok (.aload_n 0, 1) := by decide +kernel
theorem dX5_orderHere_119 : decode cX5_orderHere 119 = .ok (.iload_n 1, 1) := by decide +kernel
theorem dX5_orderHere_120 : decode cX5_orderHere 120 = .ok (.iconst 1, 1) := by decide +kernel
theorem dX5_orderHere_121 : decode cX5_orderHere 121 = .ok (.iadd, 1) := by decide +kernel
theorem dX5_orderHere_122 : decode cX5_orderHere 122 = .ok (.iconst 1, 1) := by decide +kernel
theorem dX5_orderHere_123 : decode cX5_orderHere 123 = .ok (.invokevirtual 185, 3) := by decide +kernel
theorem dX5_orderHere_126 : decode cX5_orderHere 126 = .ok (.ifCond .eq 47, 3) := by decide +kernel
theorem dX5_orderHere_129 : decode cX5_orderHere 129 = .ok (.aload_n 0, 1) := by decide +kernel
theorem dX5_orderHere_130 : decode cX5_orderHere 130 = .ok (.bipush 61, 2) := by decide +kernel
theorem dX5_orderHere_132 : decode cX5_orderHere 132 = .ok (.invokevirtual 182, 3) := by decide +kernel
theorem dX5_orderHere_135 : decode cX5_orderHere 135 = .ok (.ifCond .eq 38, 3) := by decide +kernel
theorem dX5_orderHere_138 : decode cX5_orderHere 138 = .ok (.aload_n 0, 1) := by decide +kernel
theorem dX5_orderHere_139 : decode cX5_orderHere 139 = .ok (.iload_n 1, 1) := by decide +kernel
theorem dX5_orderHere_140 : decode cX5_orderHere 140 = .ok (.iconst 2, 1) := by decide +kernel
theorem dX5_orderHere_141 : decode cX5_orderHere 141 = .ok (.iadd, 1) := by decide +kernel
theorem dX5_orderHere_142 : decode cX5_orderHere 142 = .ok (.iconst 1, 1) := by decide +kernel
theorem dX5_orderHere_143 : decode cX5_orderHere 143 = .ok (.invokevirtual 185, 3) := by decide +kernel
theorem dX5_orderHere_146 : decode cX5_orderHere 146 = .ok (.ifCond .eq 27, 3) := by decide +kernel
theorem dX5_orderHere_149 : decode cX5_orderHere 149 = .ok (.aload_n 0, 1) := by decide +kernel
theorem dX5_orderHere_150 : decode cX5_orderHere 150 = .ok (.bipush 42, 2) := by decide +kernel
theorem dX5_orderHere_152 : decode cX5_orderHere 152 = .ok (.invokevirtual 182, 3) := by decide +kernel
theorem dX5_orderHere_155 : decode cX5_orderHere 155 = .ok (.ifCond .eq 18, 3) := by decide +kernel
theorem dX5_orderHere_158 : decode cX5_orderHere 158 = .ok (.aload_n 0, 1) := by decide +kernel
theorem dX5_orderHere_159 : decode cX5_orderHere 159 = .ok (.iload_n 1, 1) := by decide +kernel
theorem dX5_orderHere_160 : decode cX5_orderHere 160 = .ok (.iconst 3, 1) := by decide +kernel
theorem dX5_orderHere_161 : decode cX5_orderHere 161 = .ok (.iadd, 1) := by decide +kernel
theorem dX5_orderHere_162 : decode cX5_orderHere 162 = .ok (.iconst 1, 1) := by decide +kernel
theorem dX5_orderHere_163 : decode cX5_orderHere 163 = .ok (.invokevirtual 185, 3) := by decide +kernel
theorem dX5_orderHere_166 : decode cX5_orderHere 166 = .ok (.ifCond .eq 7, 3) := by decide +kernel
theorem dX5_orderHere_169 : decode cX5_orderHere 169 = .ok (.iconst 1, 1) := by decide +kernel
theorem dX5_orderHere_170 : decode cX5_orderHere 170 = .ok (.goto 4, 3) := by decide +kernel
theorem dX5_orderHere_173 : decode cX5_orderHere 173 = .ok (.iconst 0, 1) := by decide +kernel
theorem dX5_orderHere_174 : decode cX5_orderHere 174 = .ok (.ireturn, 1) := by decide +kernel
theorem dX5_orderHere_175 : decode cX5_orderHere 175 = .ok (.aload_n 0, 1) := by decide +kernel
theorem dX5_orderHere_176 : decode cX5_orderHere 176 = .ok (.bipush 104, 2) := by decide +kernel
theorem dX5_orderHere_178 : decode cX5_orderHere 178 = .ok (.invokevirtual 182, 3) := by decide +kernel
theorem dX5_orderHere_181 : decode cX5_orderHere 181 = .ok (.ifCond .eq 12, 3) := by decide +kernel
theorem dX5_orderHere_184 : decode cX5_orderHere 184 = .ok (.aload_n 0, 1) := by decide +kernel
theorem dX5_orderHere_185 : decode cX5_orderHere 185 = .ok (.iload_n 1, 1) := by decide +kernel
theorem dX5_orderHere_186 : decode cX5_orderHere 186 = .ok (.iconst 1, 1) := by decide +kernel
theorem dX5_orderHere_187 : decode cX5_orderHere 187 = .ok (.iadd, 1) := by decide +kernel
theorem dX5_orderHere_188 : decode cX5_orderHere 188 = .ok (.iconst 2, 1) := by decide +kernel
theorem dX5_orderHere_189 : decode cX5_orderHere 189 = .ok (.invokevirtual 185, 3) := by decide +kernel
theorem dX5_orderHere_192 : decode cX5_orderHere 192 = .ok (.ireturn, 1) := by decide +kernel
theorem dX5_orderHere_193 : decode cX5_orderHere 193 = .ok (.aload_n 0, 1) := by decide +kernel
theorem dX5_orderHere_194 : decode cX5_orderHere 194 = .ok (.bipush 106, 2) := by decide +kernel
theorem dX5_orderHere_196 : decode cX5_orderHere 196 = .ok (.invokevirtual 182, 3) := by decide +kernel
theorem dX5_orderHere_199 : decode cX5_orderHere 199 = .ok (.ifCond .eq 40, 3) := by decide +kernel
theorem dX5_orderHere_202 : decode cX5_orderHere 202 = .ok (.aload_n 0, 1) := by decide +kernel
theorem dX5_orderHere_203 : decode cX5_orderHere 203 = .ok (.iload_n 1, 1) := by decide +kernel
theorem dX5_orderHere_204 : decode cX5_orderHere 204 = .ok (.iconst 1, 1) := by decide +kernel
theorem dX5_orderHere_205 : decode cX5_orderHere 205 = .ok (.iadd, 1) := by decide +kernel
theorem dX5_orderHere_206 : decode cX5_orderHere 206 = .ok (.iconst 1, 1) := by decide +kernel
theorem dX5_orderHere_207 : decode cX5_orderHere 207 = .ok (.invokevirtual 185, 3) := by decide +kernel
theorem dX5_orderHere_210 : decode cX5_orderHere 210 = .ok (.ifCond .eq 27, 3) := by decide +kernel
theorem dX5_orderHere_213 : decode cX5_orderHere 213 = .ok (.aload_n 0, 1) := by decide +kernel
theorem dX5_orderHere_214 : decode cX5_orderHere 214 = .ok (.bipush 43, 2) := by decide +kernel
theorem dX5_orderHere_216 : decode cX5_orderHere 216 = .ok (.invokevirtual 182, 3) := by decide +kernel
theorem dX5_orderHere_219 : decode cX5_orderHere 219 = .ok (.ifCond .eq 18, 3) := by decide +kernel
theorem dX5_orderHere_222 : decode cX5_orderHere 222 = .ok (.aload_n 0, 1) := by decide +kernel
theorem dX5_orderHere_223 : decode cX5_orderHere 223 = .ok (.iload_n 1, 1) := by decide +kernel
theorem dX5_orderHere_224 : decode cX5_orderHere 224 = .ok (.iconst 2, 1) := by decide +kernel
theorem dX5_orderHere_225 : decode cX5_orderHere 225 = .ok (.iadd, 1) := by decide +kernel
theorem dX5_orderHere_226 : decode cX5_orderHere 226 = .ok (.iconst 2, 1) := by decide +kernel
theorem dX5_orderHere_227 : decode cX5_orderHere 227 = .ok (.invokevirtual 185, 3) := by decide +kernel
theorem dX5_orderHere_230 : decode cX5_orderHere 230 = .ok (.ifCond .eq 7, 3) := by decide +kernel
theorem dX5_orderHere_233 : decode cX5_orderHere 233 = .ok (.iconst 1, 1) := by decide +kernel
theorem dX5_orderHere_234 : decode cX5_orderHere 234 = .ok (.goto 4, 3) := by decide +kernel
theorem dX5_orderHere_237 : decode cX5_orderHere 237 = .ok (.iconst 0, 1) := by decide +kernel
theorem dX5_orderHere_238 : decode cX5_orderHere 238 = .ok (.ireturn, 1) := by decide +kernel
theorem dX5_orderHere_239 : decode cX5_orderHere 239 = .ok (.aload_n 0, 1) := by decide +kernel
theorem dX5_orderHere_240 : decode cX5_orderHere 240 = .ok (.bipush 120, 2) := by decide +kernel
theorem dX5_orderHere_242 : decode cX5_orderHere 242 = .ok (.invokevirtual 182, 3) := by decide +kernel
theorem dX5_orderHere_245 : decode cX5_orderHere 245 = .ok (.ifCond .ne 12, 3) := by decide +kernel
theorem dX5_orderHere_248 : decode cX5_orderHere 248 = .ok (.aload_n 0, 1) := by decide +kernel
theorem dX5_orderHere_249 : decode cX5_orderHere 249 = .ok (.bipush 102, 2) := by decide +kernel
theorem dX5_orderHere_251 : decode cX5_orderHere 251 = .ok (.invokevirtual 182, 3) := by decide +kernel
theorem dX5_orderHere_254 : decode cX5_orderHere 254 = .ok (.ifCond .eq 7, 3) := by decide +kernel
theorem dX5_orderHere_257 : decode cX5_orderHere 257 = .ok (.iconst 1, 1) := by decide +kernel
theorem dX5_orderHere_258 : decode cX5_orderHere 258 = .ok (.goto 4, 3) := by decide +kernel
theorem dX5_orderHere_261 : decode cX5_orderHere 261 = .ok (.iconst 0, 1) := by decide +kernel
theorem dX5_orderHere_262 : decode cX5_orderHere 262 = .ok (.ireturn, 1) := by decide +kernel
theorem dX5_isText_0 : decode cX5_isText 0 = .ok (.aload_n 0, 1) := by decide +kernel
theorem dX5_isText_1 : decode cX5_isText 1 = .ok (.iconst 0, 1) := by decide +kernel
theorem dX5_isText_2 : decode cX5_isText 2 = .ok (.putfield 173, 3) := by decide +kernel
theorem dX5_isText_5 : decode cX5_isText 5 = .ok (.aload_n 0, 1) := by decide +kernel
theorem dX5_isText_6 : decode cX5_isText 6 = .ok (.iconst 0, 1) := by decide +kernel
theorem dX5_isText_7 : decode cX5_isText 7 = .ok (.putfield 179, 3) := by decide +kernel
theorem dX5_isText_10 : decode cX5_isText 10 = .ok (.aload_n 0, 1) := by decide +kernel
theorem dX5_isText_11 : decode cX5_isText 11 = .ok (.invokevirtual 188, 3) := by decide +kernel
theorem dX5_isText_14 : decode cX5_isText 14 = .ok (.ifCond .ne 5, 3) := by decide +kernel
theorem dX5_isText_17 : decode cX5_isText 17 = .ok (.iconst 0, 1) := by decide +kernel
theorem dX5_isText_18 : decode cX5_isText 18 = .ok (.ireturn, 1) := by decide +kernel
theorem dX5_isText_19 : decode cX5_isText 19 = .ok (.aload_n 0, 1) := by decide +kernel
theorem dX5_isText_20 : decode cX5_isText 20 = .ok (.dup, 1) := by decide +kernel
theorem dX5_isText_21 : decode cX5_isText 21 = .ok (.getfield 179, 3) := by decide +kernel
theorem dX5_isText_24 : decode cX5_isText 24 = .ok (.iconst 1, 1) := by decide +kernel
theorem dX5_isText_25 : decode cX5_isText 25 = .ok (.iadd, 1) := by decide +kernel
theorem dX5_isText_26 : decode cX5_isText 26 = .ok (.putfield 179, 3) := by decide +kernel
theorem dX5_isText_29 : decode cX5_isText 29 = .ok (.aload_n 0, 1) := by decide +kernel
theorem dX5_isText_30 : decode cX5_isText 30 = .ok (.bipush 59, 2) := by decide +kernel
theorem dX5_isText_32 : decode cX5_isText 32 = .ok (.invokevirtual 182, 3) := by decide +kernel
theorem dX5_isText_35 : decode cX5_isText 35 = .ok (.ifCond .ne (-25), 3) := by decide +kernel
theorem dX5_isText_38 : decode cX5_isText 38 = .ok (.aload_n 0, 1) := by decide +kernel
theorem dX5_isText_39 : decode cX5_isText 39 = .ok (.getfield 173, 3) := by decide +kernel
theorem dX5_isText_42 : decode cX5_isText 42 = .ok (.aload_n 0, 1) := by decide +kernel
theorem dX5_isText_43 : decode cX5_isText 43 = .ok (.getfield 170, 3) := by decide +kernel
theorem dX5_isText_46 : decode cX5_isText 46 = .ok (.if_icmp .ne 7, 3) := by decide +kernel
theorem dX5_isText_49 : decode cX5_isText 49 = .ok (.iconst 1, 1) := by decide +kernel
theorem dX5_isText_50 : decode cX5_isText 50 = .ok (.goto 4, 3) := by decide +kernel
theorem dX5_isText_53 : decode cX5_isText 53 = .ok (.iconst 0, 1) := by decide +kernel
theorem dX5_isText_54 : decode cX5_isText 54 = .ok (.ireturn, 1) := by decide +kernel
theorem dX5_carries_0 : decode cX5_carries 0 = .ok (.aload_n 0, 1) := by decide +kernel
theorem dX5_carries_1 : decode cX5_carries 1 = .ok (.getfield 36, 3) := by decide +kernel
theorem dX5_carries_4 : decode cX5_carries 4 = .ok (.iload_n 1, 1) := by decide +kernel
theorem dX5_carries_5 : decode cX5_carries 5 = .ok (.iaload, 1) := by decide +kernel
theorem dX5_carries_6 : decode cX5_carries 6 = .ok (.lookupswitch 168 #[(98, 79), (104, 129), (106, 142), (112, 58), (119, 100), (120, 163)], 58) := by decide +kernel
theorem dX5_carries_64 : decode cX5_carries 64 = .ok (.aload_n 0, 1) := by decide +kernel
theorem dX5_carries_65 : decode cX5_carries 65 = .ok (.aload_n 0, 1) := by decide +kernel
theorem dX5_carries_66 : decode cX5_carries 66 = .ok (.getfield 36, 3) := by decide +kernel
theorem dX5_carries_69 : decode cX5_carries 69 = .ok (.iload_n 1, 1) := by decide +kernel
theorem dX5_carries_70 : decode cX5_carries 70 = .ok (.iconst 1, 1) := by decide +kernel
theorem dX5_carries_71 : decode cX5_carries 71 = .ok (.iadd, 1) := by decide +kernel
theorem dX5_carries_72 : decode cX5_carries 72 = .ok (.iaload, 1) := by decide +kernel
theorem dX5_carries_73 : decode cX5_carries 73 = .ok (.aload_n 0, 1) := by decide +kernel
theorem dX5_carries_74 : decode cX5_carries 74 = .ok (.getfield 36, 3) := by decide +kernel
theorem dX5_carries_77 : decode cX5_carries 77 = .ok (.iload_n 1, 1) := by decide +kernel
theorem dX5_carries_78 : decode cX5_carries 78 = .ok (.iconst 2, 1) := by decide +kernel
theorem dX5_carries_79 : decode cX5_carries 79 = .ok (.iadd, 1) := by decide +kernel
theorem dX5_carries_80 : decode cX5_carries 80 = .ok (.iaload, 1) := by decide +kernel
theorem dX5_carries_81 : decode cX5_carries 81 = .ok (.invokevirtual 192, 3) := by decide +kernel
theorem dX5_carries_84 : decode cX5_carries 84 = .ok (.ireturn, 1) := by decide +kernel
theorem dX5_carries_85 : decode cX5_carries 85 = .ok (.aload_n 0, 1) := by decide +kernel
theorem dX5_carries_86 : decode cX5_carries 86 = .ok (.aload_n 0, 1) := by decide +kernel
theorem dX5_carries_87 : decode cX5_carries 87 = .ok (.getfield 36, 3) := by decide +kernel
theorem dX5_carries_90 : decode cX5_carries 90 = .ok (.iload_n 1, 1) := by decide +kernel
theorem dX5_carries_91 : decode cX5_carries 91 = .ok (.iconst 1, 1) := by decide +kernel
theorem dX5_carries_92 : decode cX5_carries 92 = .ok (.iadd, 1) := by decide +kernel
theorem dX5_carries_93 : decode cX5_carries 93 = .ok (.iaload, 1) := by decide +kernel
theorem dX5_carries_94 : decode cX5_carries 94 = .ok (.aload_n 0, 1) := by decide +kernel
theorem dX5_carries_95 : decode cX5_carries 95 = .ok (.getfield 36, 3) := by decide +kernel
theorem dX5_carries_98 : decode cX5_carries 98 = .ok (.iload_n 1, 1) := by decide +kernel
theorem dX5_carries_99 : decode cX5_carries 99 = .ok (.iconst 2, 1) := by decide +kernel
theorem dX5_carries_100 : decode cX5_carries 100 = .ok (.iadd, 1) := by decide +kernel
theorem dX5_carries_101 : decode cX5_carries 101 = .ok (.iaload, 1) := by decide +kernel
theorem dX5_carries_102 : decode cX5_carries 102 = .ok (.invokevirtual 195, 3) := by decide +kernel
theorem dX5_carries_105 : decode cX5_carries 105 = .ok (.ireturn, 1) := by decide +kernel
theorem dX5_carries_106 : decode cX5_carries 106 = .ok (.aload_n 0, 1) := by decide +kernel
theorem dX5_carries_107 : decode cX5_carries 107 = .ok (.aload_n 0, 1) := by decide +kernel
theorem dX5_carries_108 : decode cX5_carries 108 = .ok (.getfield 36, 3) := by decide +kernel
theorem dX5_carries_111 : decode cX5_carries 111 = .ok (.iload_n 1, 1) := by decide +kernel
theorem dX5_carries_112 : decode cX5_carries 112 = .ok (.iconst 1, 1) := by decide +kernel
theorem dX5_carries_113 : decode cX5_carries 113 = .ok (.iadd, 1) := by decide +kernel
theorem dX5_carries_114 : decode cX5_carries 114 = .ok (.iaload, 1) := by decide +kernel
theorem dX5_carries_115 : decode cX5_carries 115 = .ok (.aload_n 0, 1) := by decide +kernel
theorem dX5_carries_116 : decode cX5_carries 116 = .ok (.getfield 36, 3) := by decide +kernel
theorem dX5_carries_119 : decode cX5_carries 119 = .ok (.iload_n 1, 1) := by decide +kernel
theorem dX5_carries_120 : decode cX5_carries 120 = .ok (.iconst 2, 1) := by decide +kernel
theorem dX5_carries_121 : decode cX5_carries 121 = .ok (.iadd, 1) := by decide +kernel
theorem dX5_carries_122 : decode cX5_carries 122 = .ok (.iaload, 1) := by decide +kernel
theorem dX5_carries_123 : decode cX5_carries 123 = .ok (.aload_n 0, 1) := by decide +kernel
theorem dX5_carries_124 : decode cX5_carries 124 = .ok (.getfield 36, 3) := by decide +kernel
theorem dX5_carries_127 : decode cX5_carries 127 = .ok (.iload_n 1, 1) := by decide +kernel
theorem dX5_carries_128 : decode cX5_carries 128 = .ok (.iconst 3, 1) := by decide +kernel
theorem dX5_carries_129 : decode cX5_carries 129 = .ok (.iadd, 1) := by decide +kernel
theorem dX5_carries_130 : decode cX5_carries 130 = .ok (.iaload, 1) := by decide +kernel
theorem dX5_carries_131 : decode cX5_carries 131 = .ok (.invokevirtual 198, 3) := by decide +kernel
theorem dX5_carries_134 : decode cX5_carries 134 = .ok (.ireturn, 1) := by decide +kernel
theorem dX5_carries_135 : decode cX5_carries 135 = .ok (.aload_n 0, 1) := by decide +kernel
theorem dX5_carries_136 : decode cX5_carries 136 = .ok (.aload_n 0, 1) := by decide +kernel
theorem dX5_carries_137 : decode cX5_carries 137 = .ok (.getfield 36, 3) := by decide +kernel
theorem dX5_carries_140 : decode cX5_carries 140 = .ok (.iload_n 1, 1) := by decide +kernel
theorem dX5_carries_141 : decode cX5_carries 141 = .ok (.iconst 1, 1) := by decide +kernel
theorem dX5_carries_142 : decode cX5_carries 142 = .ok (.iadd, 1) := by decide +kernel
theorem dX5_carries_143 : decode cX5_carries 143 = .ok (.iaload, 1) := by decide +kernel
theorem dX5_carries_144 : decode cX5_carries 144 = .ok (.invokevirtual 201, 3) := by decide +kernel
theorem dX5_carries_147 : decode cX5_carries 147 = .ok (.ireturn, 1) := by decide +kernel
theorem dX5_carries_148 : decode cX5_carries 148 = .ok (.aload_n 0, 1) := by decide +kernel
theorem dX5_carries_149 : decode cX5_carries 149 = .ok (.aload_n 0, 1) := by decide +kernel
theorem dX5_carries_150 : decode cX5_carries 150 = .ok (.getfield 36, 3) := by decide +kernel
theorem dX5_carries_153 : decode cX5_carries 153 = .ok (.iload_n 1, 1) := by decide +kernel
theorem dX5_carries_154 : decode cX5_carries 154 = .ok (.iconst 1, 1) := by decide +kernel
theorem dX5_carries_155 : decode cX5_carries 155 = .ok (.iadd, 1) := by decide +kernel
theorem dX5_carries_156 : decode cX5_carries 156 = .ok (.iaload, 1) := by decide +kernel
theorem dX5_carries_157 : decode cX5_carries 157 = .ok (.aload_n 0, 1) := by decide +kernel
theorem dX5_carries_158 : decode cX5_carries 158 = .ok (.getfield 36, 3) := by decide +kernel
theorem dX5_carries_161 : decode cX5_carries 161 = .ok (.iload_n 1, 1) := by decide +kernel
theorem dX5_carries_162 : decode cX5_carries 162 = .ok (.iconst 2, 1) := by decide +kernel
theorem dX5_carries_163 : decode cX5_carries 163 = .ok (.iadd, 1) := by decide +kernel
theorem dX5_carries_164 : decode cX5_carries 164 = .ok (.iaload, 1) := by decide +kernel
theorem dX5_carries_165 : decode cX5_carries 165 = .ok (.invokevirtual 204, 3) := by decide +kernel
theorem dX5_carries_168 : decode cX5_carries 168 = .ok (.ireturn, 1) := by decide +kernel
theorem dX5_carries_169 : decode cX5_carries 169 = .ok (.aload_n 0, 1) := by decide +kernel
theorem dX5_carries_170 : decode cX5_carries 170 = .ok (.invokevirtual 207, 3) := by decide +kernel
theorem dX5_carries_173 : decode cX5_carries 173 = .ok (.ireturn, 1) := by decide +kernel
theorem dX5_carries_174 : decode cX5_carries 174 = .ok (.aload_n 0, 1) := by decide +kernel
theorem dX5_carries_175 : decode cX5_carries 175 = .ok (.invokevirtual 210, 3) := by decide +kernel
theorem dX5_carries_178 : decode cX5_carries 178 = .ok (.ireturn, 1) := by decide +kernel
theorem dX5_isRefusal_0 : decode cX5_isRefusal 0 = .ok (.iload_n 1, 1) := by decide +kernel
theorem dX5_isRefusal_1 : decode cX5_isRefusal 1 = .ok (.bipush 120, 2) := by decide +kernel
theorem dX5_isRefusal_3 : decode cX5_isRefusal 3 = .ok (.if_icmp .ne 19, 3) := by decide +kernel
theorem dX5_isRefusal_6 : decode cX5_isRefusal 6 = .ok (.aload_n 0, 1) := by decide +kernel
theorem dX5_isRefusal_7 : decode cX5_isRefusal 7 = .ok (.getfield 39, 3) := by decide +kernel
theorem dX5_isRefusal_10 : decode cX5_isRefusal 10 = .ok (.iconst 1, 1) := by decide +kernel
theorem dX5_isRefusal_11 : decode cX5_isRefusal 11 = .ok (.if_icmp .ne 7, 3) := by decide +kernel
theorem dX5_isRefusal_14 : decode cX5_isRefusal 14 = .ok (.iconst 1, 1) := by decide +kernel
theorem dX5_isRefusal_15 : decode cX5_isRefusal 15 = .ok (.goto 38, 3) := by decide +kernel
theorem dX5_isRefusal_18 : decode cX5_isRefusal 18 = .ok (.iconst 0, 1) := by decide +kernel
theorem dX5_isRefusal_19 : decode cX5_isRefusal 19 = .ok (.goto 34, 3) := by decide +kernel
theorem dX5_isRefusal_22 : decode cX5_isRefusal 22 = .ok (.iload_n 1, 1) := by decide +kernel
theorem dX5_isRefusal_23 : decode cX5_isRefusal 23 = .ok (.bipush 112, 2) := by decide +kernel
theorem dX5_isRefusal_25 : decode cX5_isRefusal 25 = .ok (.if_icmp .eq 15, 3) := by decide +kernel
theorem dX5_isRefusal_28 : decode cX5_isRefusal 28 = .ok (.iload_n 1, 1) := by decide +kernel
theorem dX5_isRefusal_29 : decode cX5_isRefusal 29 = .ok (.bipush 98, 2) := by decide +kernel
theorem dX5_isRefusal_31 : decode cX5_isRefusal 31 = .ok (.if_icmp .eq 9, 3) := by decide +kernel
theorem dX5_isRefusal_34 : decode cX5_isRefusal 34 = .ok (.iload_n 1, 1) := by decide +kernel
theorem dX5_isRefusal_35 : decode cX5_isRefusal 35 = .ok (.bipush 104, 2) := by decide +kernel
theorem dX5_isRefusal_37 : decode cX5_isRefusal 37 = .ok (.if_icmp .ne 15, 3) := by decide +kernel
theorem dX5_isRefusal_40 : decode cX5_isRefusal 40 = .ok (.aload_n 0, 1) := by decide +kernel
theorem dX5_isRefusal_41 : decode cX5_isRefusal 41 = .ok (.getfield 39, 3) := by decide +kernel
theorem dX5_isRefusal_44 : decode cX5_isRefusal 44 = .ok (.iconst 2, 1) := by decide +kernel
theorem dX5_isRefusal_45 : decode cX5_isRefusal 45 = .ok (.if_icmp .ne 7, 3) := by decide +kernel
theorem dX5_isRefusal_48 : decode cX5_isRefusal 48 = .ok (.iconst 1, 1) := by decide +kernel
theorem dX5_isRefusal_49 : decode cX5_isRefusal 49 = .ok (.goto 4, 3) := by decide +kernel
theorem dX5_isRefusal_52 : decode cX5_isRefusal 52 = .ok (.iconst 0, 1) := by decide +kernel
theorem dX5_isRefusal_53 : decode cX5_isRefusal 53 = .ok (.ireturn, 1) := by decide +kernel
theorem dX5_read_0 : decode cX5_read 0 = .ok (.aload_n 0, 1) := by decide +kernel
theorem dX5_read_1 : decode cX5_read 1 = .ok (.invokevirtual 213, 3) := by decide +kernel
theorem dX5_read_4 : decode cX5_read 4 = .ok (.istore_n 1, 1) := by decide +kernel
theorem dX5_read_5 : decode cX5_read 5 = .ok (.aload_n 0, 1) := by decide +kernel
theorem dX5_read_6 : decode cX5_read 6 = .ok (.iload_n 1, 1) := by decide +kernel
theorem dX5_read_7 : decode cX5_read 7 = .ok (.ifCond .eq 7, 3) := by decide +kernel
theorem dX5_read_10 : decode cX5_read 10 = .ok (.iconst (-1), 1) := by decide +kernel
theorem dX5_read_11 : decode cX5_read 11 = .ok (.goto 7, 3) := by decide +kernel
theorem dX5_read_14 : decode cX5_read 14 = .ok (.aload_n 0, 1) := by decide +kernel
theorem dX5_read_15 : decode cX5_read 15 = .ok (.getfield 173, 3) := by decide +kernel
theorem dX5_read_18 : decode cX5_read 18 = .ok (.putfield 25, 3) := by decide +kernel
theorem dX5_read_21 : decode cX5_read 21 = .ok (.aload_n 0, 1) := by decide +kernel
theorem dX5_read_22 : decode cX5_read 22 = .ok (.iconst 0, 1) := by decide +kernel
theorem dX5_read_23 : decode cX5_read 23 = .ok (.putfield 170, 3) := by decide +kernel
theorem dX5_read_26 : decode cX5_read 26 = .ok (.aload_n 0, 1) := by decide +kernel
theorem dX5_read_27 : decode cX5_read 27 = .ok (.iload_n 1, 1) := by decide +kernel
theorem dX5_read_28 : decode cX5_read 28 = .ok (.ifCond .eq 7, 3) := by decide +kernel
theorem dX5_read_31 : decode cX5_read 31 = .ok (.iconst 0, 1) := by decide +kernel
theorem dX5_read_32 : decode cX5_read 32 = .ok (.goto 4, 3) := by decide +kernel
theorem dX5_read_35 : decode cX5_read 35 = .ok (.iconst 1, 1) := by decide +kernel
theorem dX5_read_36 : decode cX5_read 36 = .ok (.invokevirtual 71, 3) := by decide +kernel
theorem dX5_read_39 : decode cX5_read 39 = .ok (.ifCond .eq 5, 3) := by decide +kernel
theorem dX5_read_42 : decode cX5_read 42 = .ok (.iconst 0, 1) := by decide +kernel
theorem dX5_read_43 : decode cX5_read 43 = .ok (.ireturn, 1) := by decide +kernel
theorem dX5_read_44 : decode cX5_read 44 = .ok (.aload_n 0, 1) := by decide +kernel
theorem dX5_read_45 : decode cX5_read 45 = .ok (.getfield 7, 3) := by decide +kernel
theorem dX5_read_48 : decode cX5_read 48 = .ok (.iconst 0, 1) := by decide +kernel
theorem dX5_read_49 : decode cX5_read 49 = .ok (.aload_n 0, 1) := by decide +kernel
theorem dX5_read_50 : decode cX5_read 50 = .ok (.getfield 19, 3) := by decide +kernel
theorem dX5_read_53 : decode cX5_read 53 = .ok (.iconst 0, 1) := by decide +kernel
theorem dX5_read_54 : decode cX5_read 54 = .ok (.invokestatic 55, 3) := by decide +kernel
theorem dX5_read_57 : decode cX5_read 57 = .ok (.aload_n 0, 1) := by decide +kernel
theorem dX5_read_58 : decode cX5_read 58 = .ok (.iconst 1, 1) := by decide +kernel
theorem dX5_read_59 : decode cX5_read 59 = .ok (.putfield 48, 3) := by decide +kernel
theorem dX5_read_62 : decode cX5_read 62 = .ok (.iconst 0, 1) := by decide +kernel
theorem dX5_read_63 : decode cX5_read 63 = .ok (.istore_n 2, 1) := by decide +kernel
theorem dX5_read_64 : decode cX5_read 64 = .ok (.iconst 0, 1) := by decide +kernel
theorem dX5_read_65 : decode cX5_read 65 = .ok (.istore_n 3, 1) := by decide +kernel
theorem dX5_read_66 : decode cX5_read 66 = .ok (.iload_n 2, 1) := by decide +kernel
theorem dX5_read_67 : decode cX5_read 67 = .ok (.aload_n 0, 1) := by decide +kernel
theorem dX5_read_68 : decode cX5_read 68 = .ok (.getfield 179, 3) := by decide +kernel
theorem dX5_read_71 : decode cX5_read 71 = .ok (.if_icmp .ge 24, 3) := by decide +kernel
theorem dX5_read_74 : decode cX5_read 74 = .ok (.aload_n 0, 1) := by decide +kernel
theorem dX5_read_75 : decode cX5_read 75 = .ok (.getfield 39, 3) := by decide +kernel
theorem dX5_read_78 : decode cX5_read 78 = .ok (.ifCond .ne 17, 3) := by decide +kernel
theorem dX5_read_81 : decode cX5_read 81 = .ok (.aload_n 0, 1) := by decide +kernel
theorem dX5_read_82 : decode cX5_read 82 = .ok (.iconst 4, 1) := by decide +kernel
theorem dX5_read_83 : decode cX5_read 83 = .ok (.iload_n 2, 1) := by decide +kernel
theorem dX5_read_84 : decode cX5_read 84 = .ok (.imul, 1) := by decide +kernel
theorem dX5_read_85 : decode cX5_read 85 = .ok (.invokevirtual 216, 3) := by decide +kernel
theorem dX5_read_88 : decode cX5_read 88 = .ok (.istore_n 3, 1) := by decide +kernel
theorem dX5_read_89 : decode cX5_read 89 = .ok (.iinc 2 1, 3) := by decide +kernel
theorem dX5_read_92 : decode cX5_read 92 = .ok (.goto (-26), 3) := by decide +kernel
theorem dX5_read_95 : decode cX5_read 95 = .ok (.aload_n 0, 1) := by decide +kernel
theorem dX5_read_96 : decode cX5_read 96 = .ok (.iconst 0, 1) := by decide +kernel
theorem dX5_read_97 : decode cX5_read 97 = .ok (.putfield 48, 3) := by decide +kernel
theorem dX5_read_100 : decode cX5_read 100 = .ok (.aload_n 0, 1) := by decide +kernel
theorem dX5_read_101 : decode cX5_read 101 = .ok (.getfield 39, 3) := by decide +kernel
theorem dX5_read_104 : decode cX5_read 104 = .ok (.ifCond .le 52, 3) := by decide +kernel
theorem dX5_read_107 : decode cX5_read 107 = .ok (.aload_n 0, 1) := by decide +kernel
theorem dX5_read_108 : decode cX5_read 108 = .ok (.getfield 19, 3) := by decide +kernel
theorem dX5_read_111 : decode cX5_read 111 = .ok (.iconst 0, 1) := by decide +kernel
theorem dX5_read_112 : decode cX5_read 112 = .ok (.aload_n 0, 1) := by decide +kernel
theorem dX5_read_113 : decode cX5_read 113 = .ok (.getfield 7, 3) := by decide +kernel
theorem dX5_read_116 : decode cX5_read 116 = .ok (.iconst 0, 1) := by decide +kernel
theorem dX5_read_117 : decode cX5_read 117 = .ok (.invokestatic 55, 3) := by decide +kernel
theorem dX5_read_120 : decode cX5_read 120 = .ok (.aload_n 0, 1) := by decide +kernel
theorem dX5_read_121 : decode cX5_read 121 = .ok (.aload_n 0, 1) := by decide +kernel
theorem dX5_read_122 : decode cX5_read 122 = .ok (.aload_n 0, 1) := by decide +kernel
theorem dX5_read_123 : decode cX5_read 123 = .ok (.getfield 36, 3) := by decide +kernel
theorem dX5_read_126 : decode cX5_read 126 = .ok (.iconst 4, 1) := by decide +kernel
theorem dX5_read_127 : decode cX5_read 127 = .ok (.iload_n 2, 1) := by decide +kernel
theorem dX5_read_128 : decode cX5_read 128 = .ok (.imul, 1) := by decide +kernel
theorem dX5_read_129 : decode cX5_read 129 = .ok (.iconst 4, 1) := by decide +kernel
theorem dX5_read_130 : decode cX5_read 130 = .ok (.isub, 1) := by decide +kernel
theorem dX5_read_131 : decode cX5_read 131 = .ok (.iaload, 1) := by decide +kernel
theorem dX5_read_132 : decode cX5_read 132 = .ok (.invokevirtual 219, 3) := by decide +kernel
theorem dX5_read_135 : decode cX5_read 135 = .ok (.ifCond .eq 7, 3) := by decide +kernel
theorem dX5_read_138 : decode cX5_read 138 = .ok (.iconst 2, 1) := by decide +kernel
theorem dX5_read_139 : decode cX5_read 139 = .ok (.goto 4, 3) := by decide +kernel
theorem dX5_read_142 : decode cX5_read 142 = .ok (.iconst 1, 1) := by decide +kernel
theorem dX5_read_143 : decode cX5_read 143 = .ok (.putfield 39, 3) := by decide +kernel
theorem dX5_read_146 : decode cX5_read 146 = .ok (.iload_n 3, 1) := by decide +kernel
theorem dX5_read_147 : decode cX5_read 147 = .ok (.ifCond .ge 7, 3) := by decide +kernel
theorem dX5_read_150 : decode cX5_read 150 = .ok (.iload_n 3, 1) := by decide +kernel
theorem dX5_read_151 : decode cX5_read 151 = .ok (.goto 4, 3) := by decide +kernel
theorem dX5_read_154 : decode cX5_read 154 = .ok (.iconst 0, 1) := by decide +kernel
theorem dX5_read_155 : decode cX5_read 155 = .ok (.ireturn, 1) := by decide +kernel
theorem dX5_read_156 : decode cX5_read 156 = .ok (.aload_n 0, 1) := by decide +kernel
theorem dX5_read_157 : decode cX5_read 157 = .ok (.aload_n 0, 1) := by decide +kernel
theorem dX5_read_158 : decode cX5_read 158 = .ok (.getfield 19, 3) := by decide +kernel
theorem dX5_read_161 : decode cX5_read 161 = .ok (.invokevirtual 79, 3) := by decide +kernel
theorem dX5_read_164 : decode cX5_read 164 = .ok (.aload_n 0, 1) := by decide +kernel
theorem dX5_read_165 : decode cX5_read 165 = .ok (.getfield 179, 3) := by decide +kernel
theorem dX5_read_168 : decode cX5_read 168 = .ok (.ireturn, 1) := by decide +kernel
theorem dX5_errorPosition_0 : decode cX5_errorPosition 0 = .ok (.aload_n 0, 1) := by decide +kernel
theorem dX5_errorPosition_1 : decode cX5_errorPosition 1 = .ok (.iconst 0, 1) := by decide +kernel
theorem dX5_errorPosition_2 : decode cX5_errorPosition 2 = .ok (.putfield 39, 3) := by decide +kernel
theorem dX5_errorPosition_5 : decode cX5_errorPosition 5 = .ok (.aload_n 0, 1) := by decide +kernel
theorem dX5_errorPosition_6 : decode cX5_errorPosition 6 = .ok (.getfield 25, 3) := by decide +kernel
theorem dX5_errorPosition_9 : decode cX5_errorPosition 9 = .ok (.ireturn, 1) := by decide +kernel
theorem dX5_refusal_0 : decode cX5_refusal 0 = .ok (.aload_n 0, 1) := by decide +kernel
theorem dX5_refusal_1 : decode cX5_refusal 1 = .ok (.aload_n 0, 1) := by decide +kernel
theorem dX5_refusal_2 : decode cX5_refusal 2 = .ok (.getfield 42, 3) := by decide +kernel
theorem dX5_refusal_5 : decode cX5_refusal 5 = .ok (.ifCond .ne 7, 3) := by decide +kernel
theorem dX5_refusal_8 : decode cX5_refusal 8 = .ok (.iconst 1, 1) := by decide +kernel
theorem dX5_refusal_9 : decode cX5_refusal 9 = .ok (.goto 4, 3) := by decide +kernel
theorem dX5_refusal_12 : decode cX5_refusal 12 = .ok (.iconst 0, 1) := by decide +kernel
theorem dX5_refusal_13 : decode cX5_refusal 13 = .ok (.invokevirtual 71, 3) := by decide +kernel
theorem dX5_refusal_16 : decode cX5_refusal 16 = .ok (.ifCond .eq 7, 3) := by decide +kernel
theorem dX5_refusal_19 : decode cX5_refusal 19 = .ok (.iconst 0, 1) := by decide +kernel
theorem dX5_refusal_20 : decode cX5_refusal 20 = .ok (.goto 18, 3) := by decide +kernel
theorem dX5_refusal_23 : decode cX5_refusal 23 = .ok (.iload_n 1, 1) := by decide +kernel
theorem dX5_refusal_24 : decode cX5_refusal 24 = .ok (.ifCond .eq 10, 3) := by decide +kernel
theorem dX5_refusal_27 : decode cX5_refusal 27 = .ok (.aload_n 0, 1) := by decide +kernel
theorem dX5_refusal_28 : decode cX5_refusal 28 = .ok (.getfield 45, 3) := by decide +kernel
theorem dX5_refusal_31 : decode cX5_refusal 31 = .ok (.goto 7, 3) := by decide +kernel
theorem dX5_refusal_34 : decode cX5_refusal 34 = .ok (.aload_n 0, 1) := by decide +kernel
theorem dX5_refusal_35 : decode cX5_refusal 35 = .ok (.getfield 42, 3) := by decide +kernel
theorem dX5_refusal_38 : decode cX5_refusal 38 = .ok (.ireturn, 1) := by decide +kernel
theorem dX5_sumOf_0 : decode cX5_sumOf 0 = .ok (.iconst 0, 1) := by decide +kernel
theorem dX5_sumOf_1 : decode cX5_sumOf 1 = .ok (.istore_n 2, 1) := by decide +kernel
theorem dX5_sumOf_2 : decode cX5_sumOf 2 = .ok (.iconst 0, 1) := by decide +kernel
theorem dX5_sumOf_3 : decode cX5_sumOf 3 = .ok (.istore_n 3, 1) := by decide +kernel
theorem dX5_sumOf_4 : decode cX5_sumOf 4 = .ok (.iload_n 3, 1) := by decide +kernel
theorem dX5_sumOf_5 : decode cX5_sumOf 5 = .ok (.iconst 5, 1) := by decide +kernel
theorem dX5_sumOf_6 : decode cX5_sumOf 6 = .ok (.if_icmp .ge 20, 3) := by decide +kernel
theorem dX5_sumOf_9 : decode cX5_sumOf 9 = .ok (.iload_n 2, 1) := by decide +kernel
theorem dX5_sumOf_10 : decode cX5_sumOf 10 = .ok (.aload_n 0, 1) := by decide +kernel
theorem dX5_sumOf_11 : decode cX5_sumOf 11 = .ok (.getfield 7, 3) := by decide +kernel
theorem dX5_sumOf_14 : decode cX5_sumOf 14 = .ok (.iload_n 1, 1) := by decide +kernel
theorem dX5_sumOf_15 : decode cX5_sumOf 15 = .ok (.iload_n 3, 1) := by decide +kernel
theorem dX5_sumOf_16 : decode cX5_sumOf 16 = .ok (.iadd, 1) := by decide +kernel
theorem dX5_sumOf_17 : decode cX5_sumOf 17 = .ok (.iaload, 1) := by decide +kernel
theorem dX5_sumOf_18 : decode cX5_sumOf 18 = .ok (.iadd, 1) := by decide +kernel
theorem dX5_sumOf_19 : decode cX5_sumOf 19 = .ok (.istore_n 2, 1) := by decide +kernel
theorem dX5_sumOf_20 : decode cX5_sumOf 20 = .ok (.iinc 3 1, 3) := by decide +kernel
theorem dX5_sumOf_23 : decode cX5_sumOf 23 = .ok (.goto (-19), 3) := by decide +kernel
theorem dX5_sumOf_26 : decode cX5_sumOf 26 = .ok (.iload_n 2, 1) := by decide +kernel
theorem dX5_sumOf_27 : decode cX5_sumOf 27 = .ok (.ireturn, 1) := by decide +kernel
theorem dX5_paintedMany_0 : decode cX5_paintedMany 0 = .ok (.aload_n 0, 1) := by decide +kernel
theorem dX5_paintedMany_1 : decode cX5_paintedMany 1 = .ok (.getfield 7, 3) := by decide +kernel
theorem dX5_paintedMany_4 : decode cX5_paintedMany 4 = .ok (.iconst 0, 1) := by decide +kernel
theorem dX5_paintedMany_5 : decode cX5_paintedMany 5 = .ok (.iaload, 1) := by decide +kernel
theorem dX5_paintedMany_6 : decode cX5_paintedMany 6 = .ok (.aload_n 0, 1) := by decide +kernel
theorem dX5_paintedMany_7 : decode cX5_paintedMany 7 = .ok (.invokevirtual 151, 3) := by decide +kernel
theorem dX5_paintedMany_10 : decode cX5_paintedMany 10 = .ok (.isub, 1) := by decide +kernel
theorem dX5_paintedMany_11 : decode cX5_paintedMany 11 = .ok (.ireturn, 1) := by decide +kernel
theorem dX5_stuckMany_0 : decode cX5_stuckMany 0 = .ok (.iconst 0, 1) := by decide +kernel
theorem dX5_stuckMany_1 : decode cX5_stuckMany 1 = .ok (.istore_n 1, 1) := by decide +kernel
theorem dX5_stuckMany_2 : decode cX5_stuckMany 2 = .ok (.iconst 0, 1) := by decide +kernel
theorem dX5_stuckMany_3 : decode cX5_stuckMany 3 = .ok (.istore_n 2, 1) := by decide +kernel
theorem dX5_stuckMany_4 : decode cX5_stuckMany 4 = .ok (.iload_n 2, 1) := by decide +kernel
theorem dX5_stuckMany_5 : decode cX5_stuckMany 5 = .ok (.aload_n 0, 1) := by decide +kernel
theorem dX5_stuckMany_6 : decode cX5_stuckMany 6 = .ok (.getfield 7, 3) := by decide +kernel
theorem dX5_stuckMany_9 : decode cX5_stuckMany 9 = .ok (.iconst 0, 1) := by decide +kernel
theorem dX5_stuckMany_10 : decode cX5_stuckMany 10 = .ok (.iaload, 1) := by decide +kernel
theorem dX5_stuckMany_11 : decode cX5_stuckMany 11 = .ok (.if_icmp .ge 25, 3) := by decide +kernel
theorem dX5_stuckMany_14 : decode cX5_stuckMany 14 = .ok (.iload_n 1, 1) := by decide +kernel
theorem dX5_stuckMany_15 : decode cX5_stuckMany 15 = .ok (.aload_n 0, 1) := by decide +kernel
theorem dX5_stuckMany_16 : decode cX5_stuckMany 16 = .ok (.iload_n 2, 1) := by decide +kernel
theorem dX5_stuckMany_17 : decode cX5_stuckMany 17 = .ok (.invokevirtual 132, 3) := by decide +kernel
theorem dX5_stuckMany_20 : decode cX5_stuckMany 20 = .ok (.ifCond .eq 7, 3) := by decide +kernel
theorem dX5_stuckMany_23 : decode cX5_stuckMany 23 = .ok (.iconst 1, 1) := by decide +kernel
theorem dX5_stuckMany_24 : decode cX5_stuckMany 24 = .ok (.goto 4, 3) := by decide +kernel
theorem dX5_stuckMany_27 : decode cX5_stuckMany 27 = .ok (.iconst 0, 1) := by decide +kernel
theorem dX5_stuckMany_28 : decode cX5_stuckMany 28 = .ok (.iadd, 1) := by decide +kernel
theorem dX5_stuckMany_29 : decode cX5_stuckMany 29 = .ok (.istore_n 1, 1) := by decide +kernel
theorem dX5_stuckMany_30 : decode cX5_stuckMany 30 = .ok (.iinc 2 1, 3) := by decide +kernel
theorem dX5_stuckMany_33 : decode cX5_stuckMany 33 = .ok (.goto (-29), 3) := by decide +kernel
theorem dX5_stuckMany_36 : decode cX5_stuckMany 36 = .ok (.iload_n 1, 1) := by decide +kernel
theorem dX5_stuckMany_37 : decode cX5_stuckMany 37 = .ok (.ireturn, 1) := by decide +kernel
theorem dX5_wishes_0 : decode cX5_wishes 0 = .ok (.iconst 0, 1) := by decide +kernel
theorem dX5_wishes_1 : decode cX5_wishes 1 = .ok (.istore_n 2, 1) := by decide +kernel
theorem dX5_wishes_2 : decode cX5_wishes 2 = .ok (.iconst 0, 1) := by decide +kernel
theorem dX5_wishes_3 : decode cX5_wishes 3 = .ok (.istore_n 3, 1) := by decide +kernel
theorem dX5_wishes_4 : decode cX5_wishes 4 = .ok (.iload_n 3, 1) := by decide +kernel
theorem dX5_wishes_5 : decode cX5_wishes 5 = .ok (.aload_n 0, 1) := by decide +kernel
theorem dX5_wishes_6 : decode cX5_wishes 6 = .ok (.getfield 7, 3) := by decide +kernel
theorem dX5_wishes_9 : decode cX5_wishes 9 = .ok (.iconst 0, 1) := by decide +kernel
theorem dX5_wishes_10 : decode cX5_wishes 10 = .ok (.iaload, 1) := by decide +kernel
theorem dX5_wishes_11 : decode cX5_wishes 11 = .ok (.if_icmp .ge 38, 3) := by decide +kernel
theorem dX5_wishes_14 : decode cX5_wishes 14 = .ok (.iload_n 2, 1) := by decide +kernel
theorem dX5_wishes_15 : decode cX5_wishes 15 = .ok (.aload_n 0, 1) := by decide +kernel
theorem dX5_wishes_16 : decode cX5_wishes 16 = .ok (.iload_n 3, 1) := by decide +kernel
theorem dX5_wishes_17 : decode cX5_wishes 17 = .ok (.iconst 2, 1) := by decide +kernel
theorem dX5_wishes_18 : decode cX5_wishes 18 = .ok (.invokevirtual 63, 3) := by decide +kernel
theorem dX5_wishes_21 : decode cX5_wishes 21 = .ok (.ifCond .lt 19, 3) := by decide +kernel
theorem dX5_wishes_24 : decode cX5_wishes 24 = .ok (.iload_n 1, 1) := by decide +kernel
theorem dX5_wishes_25 : decode cX5_wishes 25 = .ok (.ifCond .eq 11, 3) := by decide +kernel
theorem dX5_wishes_28 : decode cX5_wishes 28 = .ok (.aload_n 0, 1) := by decide +kernel
theorem dX5_wishes_29 : decode cX5_wishes 29 = .ok (.iload_n 3, 1) := by decide +kernel
theorem dX5_wishes_30 : decode cX5_wishes 30 = .ok (.invokevirtual 141, 3) := by decide +kernel
theorem dX5_wishes_33 : decode cX5_wishes 33 = .ok (.ifCond .eq 7, 3) := by decide +kernel
theorem dX5_wishes_36 : decode cX5_wishes 36 = .ok (.iconst 1, 1) := by decide +kernel
theorem dX5_wishes_37 : decode cX5_wishes 37 = .ok (.goto 4, 3) := by decide +kernel
theorem dX5_wishes_40 : decode cX5_wishes 40 = .ok (.iconst 0, 1) := by decide +kernel
theorem dX5_wishes_41 : decode cX5_wishes 41 = .ok (.iadd, 1) := by decide +kernel
theorem dX5_wishes_42 : decode cX5_wishes 42 = .ok (.istore_n 2, 1) := by decide +kernel
theorem dX5_wishes_43 : decode cX5_wishes 43 = .ok (.iinc 3 1, 3) := by decide +kernel
theorem dX5_wishes_46 : decode cX5_wishes 46 = .ok (.goto (-42), 3) := by decide +kernel
theorem dX5_wishes_49 : decode cX5_wishes 49 = .ok (.iload_n 2, 1) := by decide +kernel
theorem dX5_wishes_50 : decode cX5_wishes 50 = .ok (.ireturn, 1) := by decide +kernel
theorem dX5_account_0 : decode cX5_account 0 = .ok (.aload_n 0, 1) := by decide +kernel
theorem dX5_account_1 : decode cX5_account 1 = .ok (.iload_n 1, 1) := by decide +kernel
theorem dX5_account_2 : decode cX5_account 2 = .ok (.iconst 0, 1) := by decide +kernel
theorem dX5_account_3 : decode cX5_account 3 = .ok (.bipush 12, 2) := by decide +kernel
theorem dX5_account_5 : decode cX5_account 5 = .ok (.invokestatic 59, 3) := by decide +kernel
theorem dX5_account_8 : decode cX5_account 8 = .ok (.ifCond .eq 7, 3) := by decide +kernel
theorem dX5_account_11 : decode cX5_account 11 = .ok (.iconst 0, 1) := by decide +kernel
theorem dX5_account_12 : decode cX5_account 12 = .ok (.goto 4, 3) := by decide +kernel
theorem dX5_account_15 : decode cX5_account 15 = .ok (.iconst 1, 1) := by decide +kernel
theorem dX5_account_16 : decode cX5_account 16 = .ok (.invokevirtual 71, 3) := by decide +kernel
theorem dX5_account_19 : decode cX5_account 19 = .ok (.ifCond .eq 5, 3) := by decide +kernel
theorem dX5_account_22 : decode cX5_account 22 = .ok (.iconst 0, 1) := by decide +kernel
theorem dX5_account_23 : decode cX5_account 23 = .ok (.ireturn, 1) := by decide +kernel
theorem dX5_account_24 : decode cX5_account 24 = .ok (.iload_n 1, 1) := by decide +kernel
theorem dX5_account_25 : decode cX5_account 25 = .ok (.tableswitch 140 0 11 #[63, 70, 75, 83, 88, 93, 101, 108, 115, 123, 129, 135], 63) := by decide +kernel
theorem dX5_account_88 : decode cX5_account 88 = .ok (.aload_n 0, 1) := by decide +kernel
theorem dX5_account_89 : decode cX5_account 89 = .ok (.getfield 7, 3) := by decide +kernel
theorem dX5_account_92 : decode cX5_account 92 = .ok (.iconst 0, 1) := by decide +kernel
theorem dX5_account_93 : decode cX5_account 93 = .ok (.iaload, 1) := by decide +kernel
theorem dX5_account_94 : decode cX5_account 94 = .ok (.ireturn, 1) := by decide +kernel
theorem dX5_account_95 : decode cX5_account 95 = .ok (.aload_n 0, 1) := by decide +kernel
theorem dX5_account_96 : decode cX5_account 96 = .ok (.invokevirtual 93, 3) := by decide +kernel
theorem dX5_account_99 : decode cX5_account 99 = .ok (.ireturn, 1) := by decide +kernel
theorem dX5_account_100 : decode cX5_account 100 = .ok (.aload_n 0, 1) := by decide +kernel
theorem dX5_account_101 : decode cX5_account 101 = .ok (.getfield 7, 3) := by decide +kernel
theorem dX5_account_104 : decode cX5_account 104 = .ok (.bipush 36, 2) := by decide +kernel
theorem dX5_account_106 : decode cX5_account 106 = .ok (.iaload, 1) := by decide +kernel
theorem dX5_account_107 : decode cX5_account 107 = .ok (.ireturn, 1) := by decide +kernel
theorem dX5_account_108 : decode cX5_account 108 = .ok (.aload_n 0, 1) := by decide +kernel
theorem dX5_account_109 : decode cX5_account 109 = .ok (.invokevirtual 222, 3) := by decide +kernel
theorem dX5_account_112 : decode cX5_account 112 = .ok (.ireturn, 1) := by decide +kernel
theorem dX5_account_113 : decode cX5_account 113 = .ok (.aload_n 0, 1) := by decide +kernel
theorem dX5_account_114 : decode cX5_account 114 = .ok (.invokevirtual 225, 3) := by decide +kernel
theorem dX5_account_117 : decode cX5_account 117 = .ok (.ireturn, 1) := by decide +kernel
theorem dX5_account_118 : decode cX5_account 118 = .ok (.aload_n 0, 1) := by decide +kernel
theorem dX5_account_119 : decode cX5_account 119 = .ok (.getfield 7, 3) := by decide +kernel
theorem dX5_account_122 : decode cX5_account 122 = .ok (.bipush 47, 2) := by decide +kernel
theorem dX5_account_124 : decode cX5_account 124 = .ok (.iaload, 1) := by decide +kernel
theorem dX5_account_125 : decode cX5_account 125 = .ok (.ireturn, 1) := by decide +kernel
theorem dX5_account_126 : decode cX5_account 126 = .ok (.aload_n 0, 1) := by decide +kernel
theorem dX5_account_127 : decode cX5_account 127 = .ok (.bipush 37, 2) := by decide +kernel
theorem dX5_account_129 : decode cX5_account 129 = .ok (.invokevirtual 228, 3) := by decide +kernel
theorem dX5_account_132 : decode cX5_account 132 = .ok (.ireturn, 1) := by decide +kernel
theorem dX5_account_133 : decode cX5_account 133 = .ok (.aload_n 0, 1) := by decide +kernel
theorem dX5_account_134 : decode cX5_account 134 = .ok (.bipush 42, 2) := by decide +kernel
theorem dX5_account_136 : decode cX5_account 136 = .ok (.invokevirtual 228, 3) := by decide +kernel
theorem dX5_account_139 : decode cX5_account 139 = .ok (.ireturn, 1) := by decide +kernel
theorem dX5_account_140 : decode cX5_account 140 = .ok (.aload_n 0, 1) := by decide +kernel
theorem dX5_account_141 : decode cX5_account 141 = .ok (.getfield 7, 3) := by decide +kernel
theorem dX5_account_144 : decode cX5_account 144 = .ok (.bipush 55, 2) := by decide +kernel
theorem dX5_account_146 : decode cX5_account 146 = .ok (.iaload, 1) := by decide +kernel
theorem dX5_account_147 : decode cX5_account 147 = .ok (.ireturn, 1) := by decide +kernel
theorem dX5_account_148 : decode cX5_account 148 = .ok (.aload_n 0, 1) := by decide +kernel
theorem dX5_account_149 : decode cX5_account 149 = .ok (.iconst 0, 1) := by decide +kernel
theorem dX5_account_150 : decode cX5_account 150 = .ok (.invokevirtual 231, 3) := by decide +kernel
theorem dX5_account_153 : decode cX5_account 153 = .ok (.ireturn, 1) := by decide +kernel
theorem dX5_account_154 : decode cX5_account 154 = .ok (.aload_n 0, 1) := by decide +kernel
theorem dX5_account_155 : decode cX5_account 155 = .ok (.iconst 1, 1) := by decide +kernel
theorem dX5_account_156 : decode cX5_account 156 = .ok (.invokevirtual 231, 3) := by decide +kernel
theorem dX5_account_159 : decode cX5_account 159 = .ok (.ireturn, 1) := by decide +kernel
theorem dX5_account_160 : decode cX5_account 160 = .ok (.aload_n 0, 1) := by decide +kernel
theorem dX5_account_161 : decode cX5_account 161 = .ok (.getfield 170, 3) := by decide +kernel
theorem dX5_account_164 : decode cX5_account 164 = .ok (.ireturn, 1) := by decide +kernel
theorem dX5_account_165 : decode cX5_account 165 = .ok (.aload_n 0, 1) := by decide +kernel
theorem dX5_account_166 : decode cX5_account 166 = .ok (.getfield 52, 3) := by decide +kernel
theorem dX5_account_169 : decode cX5_account 169 = .ok (.ireturn, 1) := by decide +kernel
theorem dX5_isWell_0 : decode cX5_isWell 0 = .ok (.aload_n 0, 1) := by decide +kernel
theorem dX5_isWell_1 : decode cX5_isWell 1 = .ok (.iconst 0, 1) := by decide +kernel
theorem dX5_isWell_2 : decode cX5_isWell 2 = .ok (.putfield 39, 3) := by decide +kernel
theorem dX5_isWell_5 : decode cX5_isWell 5 = .ok (.iconst 0, 1) := by decide +kernel
theorem dX5_isWell_6 : decode cX5_isWell 6 = .ok (.istore_n 1, 1) := by decide +kernel
theorem dX5_isWell_7 : decode cX5_isWell 7 = .ok (.iload_n 1, 1) := by decide +kernel
theorem dX5_isWell_8 : decode cX5_isWell 8 = .ok (.aload_n 0, 1) := by decide +kernel
theorem dX5_isWell_9 : decode cX5_isWell 9 = .ok (.getfield 7, 3) := by decide +kernel
theorem dX5_isWell_12 : decode cX5_isWell 12 = .ok (.iconst 0, 1) := by decide +kernel
theorem dX5_isWell_13 : decode cX5_isWell 13 = .ok (.iaload, 1) := by decide +kernel
theorem dX5_isWell_14 : decode cX5_isWell 14 = .ok (.if_icmp .ge 56, 3) := by decide +kernel
theorem dX5_isWell_17 : decode cX5_isWell 17 = .ok (.iconst 0, 1) := by decide +kernel
theorem dX5_isWell_18 : decode cX5_isWell 18 = .ok (.istore_n 2, 1) := by decide +kernel
theorem dX5_isWell_19 : decode cX5_isWell 19 = .ok (.iload_n 2, 1) := by decide +kernel
theorem dX5_isWell_20 : decode cX5_isWell 20 = .ok (.iload_n 1, 1) := by decide +kernel
theorem dX5_isWell_21 : decode cX5_isWell 21 = .ok (.if_icmp .ge 43, 3) := by decide +kernel
theorem dX5_isWell_24 : decode cX5_isWell 24 = .ok (.aload_n 0, 1) := by decide +kernel
theorem dX5_isWell_25 : decode cX5_isWell 25 = .ok (.iload_n 1, 1) := by decide +kernel
theorem dX5_isWell_26 : decode cX5_isWell 26 = .ok (.iload_n 2, 1) := by decide +kernel
theorem dX5_isWell_27 : decode cX5_isWell 27 = .ok (.invokevirtual 67, 3) := by decide +kernel
theorem dX5_isWell_30 : decode cX5_isWell 30 = .ok (.ifCond .eq 28, 3) := by decide +kernel
theorem dX5_isWell_33 : decode cX5_isWell 33 = .ok (.aload_n 0, 1) := by decide +kernel
theorem dX5_isWell_34 : decode cX5_isWell 34 = .ok (.iload_n 1, 1) := by decide +kernel
theorem dX5_isWell_35 : decode cX5_isWell 35 = .ok (.invokevirtual 90, 3) := by decide +kernel
theorem dX5_isWell_38 : decode cX5_isWell 38 = .ok (.ifCond .eq 20, 3) := by decide +kernel
theorem dX5_isWell_41 : decode cX5_isWell 41 = .ok (.aload_n 0, 1) := by decide +kernel
theorem dX5_isWell_42 : decode cX5_isWell 42 = .ok (.iload_n 1, 1) := by decide +kernel
theorem dX5_isWell_43 : decode cX5_isWell 43 = .ok (.iconst 1, 1) := by decide +kernel
theorem dX5_isWell_44 : decode cX5_isWell 44 = .ok (.invokevirtual 63, 3) := by decide +kernel
theorem dX5_isWell_47 : decode cX5_isWell 47 = .ok (.aload_n 0, 1) := by decide +kernel
theorem dX5_isWell_48 : decode cX5_isWell 48 = .ok (.iload_n 2, 1) := by decide +kernel
theorem dX5_isWell_49 : decode cX5_isWell 49 = .ok (.iconst 1, 1) := by decide +kernel
theorem dX5_isWell_50 : decode cX5_isWell 50 = .ok (.invokevirtual 63, 3) := by decide +kernel
theorem dX5_isWell_53 : decode cX5_isWell 53 = .ok (.if_icmp .ne 5, 3) := by decide +kernel
theorem dX5_isWell_56 : decode cX5_isWell 56 = .ok (.iconst 0, 1) := by decide +kernel
theorem dX5_isWell_57 : decode cX5_isWell 57 = .ok (.ireturn, 1) := by decide +kernel
theorem dX5_isWell_58 : decode cX5_isWell 58 = .ok (.iinc 2 1, 3) := by decide +kernel
theorem dX5_isWell_61 : decode cX5_isWell 61 = .ok (.goto (-42), 3) := by decide +kernel
theorem dX5_isWell_64 : decode cX5_isWell 64 = .ok (.iinc 1 1, 3) := by decide +kernel
theorem dX5_isWell_67 : decode cX5_isWell 67 = .ok (.goto (-60), 3) := by decide +kernel
theorem dX5_isWell_70 : decode cX5_isWell 70 = .ok (.iconst 0, 1) := by decide +kernel
theorem dX5_isWell_71 : decode cX5_isWell 71 = .ok (.istore_n 1, 1) := by decide +kernel
theorem dX5_isWell_72 : decode cX5_isWell 72 = .ok (.iload_n 1, 1) := by decide +kernel
theorem dX5_isWell_73 : decode cX5_isWell 73 = .ok (.aload_n 0, 1) := by decide +kernel
theorem dX5_isWell_74 : decode cX5_isWell 74 = .ok (.getfield 7, 3) := by decide +kernel
theorem dX5_isWell_77 : decode cX5_isWell 77 = .ok (.iconst 0, 1) := by decide +kernel
theorem dX5_isWell_78 : decode cX5_isWell 78 = .ok (.iaload, 1) := by decide +kernel
theorem dX5_isWell_79 : decode cX5_isWell 79 = .ok (.if_icmp .ge 32, 3) := by decide +kernel
theorem dX5_isWell_82 : decode cX5_isWell 82 = .ok (.aload_n 0, 1) := by decide +kernel
theorem dX5_isWell_83 : decode cX5_isWell 83 = .ok (.iload_n 1, 1) := by decide +kernel
theorem dX5_isWell_84 : decode cX5_isWell 84 = .ok (.invokevirtual 90, 3) := by decide +kernel
theorem dX5_isWell_87 : decode cX5_isWell 87 = .ok (.aload_n 0, 1) := by decide +kernel
theorem dX5_isWell_88 : decode cX5_isWell 88 = .ok (.iload_n 1, 1) := by decide +kernel
theorem dX5_isWell_89 : decode cX5_isWell 89 = .ok (.invokevirtual 110, 3) := by decide +kernel
theorem dX5_isWell_92 : decode cX5_isWell 92 = .ok (.ifCond .lt 7, 3) := by decide +kernel
theorem dX5_isWell_95 : decode cX5_isWell 95 = .ok (.iconst 1, 1) := by decide +kernel
theorem dX5_isWell_96 : decode cX5_isWell 96 = .ok (.goto 4, 3) := by decide +kernel
theorem dX5_isWell_99 : decode cX5_isWell 99 = .ok (.iconst 0, 1) := by decide +kernel
theorem dX5_isWell_100 : decode cX5_isWell 100 = .ok (.if_icmp .eq 5, 3) := by decide +kernel
theorem dX5_isWell_103 : decode cX5_isWell 103 = .ok (.iconst 0, 1) := by decide +kernel
theorem dX5_isWell_104 : decode cX5_isWell 104 = .ok (.ireturn, 1) := by decide +kernel
theorem dX5_isWell_105 : decode cX5_isWell 105 = .ok (.iinc 1 1, 3) := by decide +kernel
theorem dX5_isWell_108 : decode cX5_isWell 108 = .ok (.goto (-36), 3) := by decide +kernel
theorem dX5_isWell_111 : decode cX5_isWell 111 = .ok (.aload_n 0, 1) := by decide +kernel
theorem dX5_isWell_112 : decode cX5_isWell 112 = .ok (.getfield 7, 3) := by decide +kernel
theorem dX5_isWell_115 : decode cX5_isWell 115 = .ok (.bipush 47, 2) := by decide +kernel
theorem dX5_isWell_117 : decode cX5_isWell 117 = .ok (.iaload, 1) := by decide +kernel
theorem dX5_isWell_118 : decode cX5_isWell 118 = .ok (.aload_n 0, 1) := by decide +kernel
theorem dX5_isWell_119 : decode cX5_isWell 119 = .ok (.invokevirtual 222, 3) := by decide +kernel
theorem dX5_isWell_122 : decode cX5_isWell 122 = .ok (.if_icmp .ne 7, 3) := by decide +kernel
theorem dX5_isWell_125 : decode cX5_isWell 125 = .ok (.iconst 1, 1) := by decide +kernel
theorem dX5_isWell_126 : decode cX5_isWell 126 = .ok (.goto 4, 3) := by decide +kernel
theorem dX5_isWell_129 : decode cX5_isWell 129 = .ok (.iconst 0, 1) := by decide +kernel
theorem dX5_isWell_130 : decode cX5_isWell 130 = .ok (.ireturn, 1) := by decide +kernel
theorem dX5_meanSize_0 : decode cX5_meanSize 0 = .ok (.iconst 0, 1) := by decide +kernel
theorem dX5_meanSize_1 : decode cX5_meanSize 1 = .ok (.istore_n 1, 1) := by decide +kernel
theorem dX5_meanSize_2 : decode cX5_meanSize 2 = .ok (.iconst 0, 1) := by decide +kernel
theorem dX5_meanSize_3 : decode cX5_meanSize 3 = .ok (.istore_n 2, 1) := by decide +kernel
theorem dX5_meanSize_4 : decode cX5_meanSize 4 = .ok (.iload_n 2, 1) := by decide +kernel
theorem dX5_meanSize_5 : decode cX5_meanSize 5 = .ok (.aload_n 0, 1) := by decide +kernel
theorem dX5_meanSize_6 : decode cX5_meanSize 6 = .ok (.getfield 7, 3) := by decide +kernel
theorem dX5_meanSize_9 : decode cX5_meanSize 9 = .ok (.iconst 0, 1) := by decide +kernel
theorem dX5_meanSize_10 : decode cX5_meanSize 10 = .ok (.iaload, 1) := by decide +kernel
theorem dX5_meanSize_11 : decode cX5_meanSize 11 = .ok (.if_icmp .ge 30, 3) := by decide +kernel
theorem dX5_meanSize_14 : decode cX5_meanSize 14 = .ok (.iload_n 1, 1) := by decide +kernel
theorem dX5_meanSize_15 : decode cX5_meanSize 15 = .ok (.aload_n 0, 1) := by decide +kernel
theorem dX5_meanSize_16 : decode cX5_meanSize 16 = .ok (.iload_n 2, 1) := by decide +kernel
theorem dX5_meanSize_17 : decode cX5_meanSize 17 = .ok (.invokevirtual 90, 3) := by decide +kernel
theorem dX5_meanSize_20 : decode cX5_meanSize 20 = .ok (.ifCond .eq 12, 3) := by decide +kernel
theorem dX5_meanSize_23 : decode cX5_meanSize 23 = .ok (.aload_n 0, 1) := by decide +kernel
theorem dX5_meanSize_24 : decode cX5_meanSize 24 = .ok (.iload_n 2, 1) := by decide +kernel
theorem dX5_meanSize_25 : decode cX5_meanSize 25 = .ok (.iconst 0, 1) := by decide +kernel
theorem dX5_meanSize_26 : decode cX5_meanSize 26 = .ok (.invokevirtual 63, 3) := by decide +kernel
theorem dX5_meanSize_29 : decode cX5_meanSize 29 = .ok (.goto 4, 3) := by decide +kernel
theorem dX5_meanSize_32 : decode cX5_meanSize 32 = .ok (.iconst 0, 1) := by decide +kernel
theorem dX5_meanSize_33 : decode cX5_meanSize 33 = .ok (.iadd, 1) := by decide +kernel
theorem dX5_meanSize_34 : decode cX5_meanSize 34 = .ok (.istore_n 1, 1) := by decide +kernel
theorem dX5_meanSize_35 : decode cX5_meanSize 35 = .ok (.iinc 2 1, 3) := by decide +kernel
theorem dX5_meanSize_38 : decode cX5_meanSize 38 = .ok (.goto (-34), 3) := by decide +kernel
theorem dX5_meanSize_41 : decode cX5_meanSize 41 = .ok (.aload_n 0, 1) := by decide +kernel
theorem dX5_meanSize_42 : decode cX5_meanSize 42 = .ok (.aload_n 0, 1) := by decide +kernel
theorem dX5_meanSize_43 : decode cX5_meanSize 43 = .ok (.invokevirtual 222, 3) := by decide +kernel
theorem dX5_meanSize_46 : decode cX5_meanSize 46 = .ok (.ifCond .ne 7, 3) := by decide +kernel
theorem dX5_meanSize_49 : decode cX5_meanSize 49 = .ok (.iconst 1, 1) := by decide +kernel
theorem dX5_meanSize_50 : decode cX5_meanSize 50 = .ok (.goto 4, 3) := by decide +kernel
theorem dX5_meanSize_53 : decode cX5_meanSize 53 = .ok (.iconst 0, 1) := by decide +kernel
theorem dX5_meanSize_54 : decode cX5_meanSize 54 = .ok (.invokevirtual 71, 3) := by decide +kernel
theorem dX5_meanSize_57 : decode cX5_meanSize 57 = .ok (.ifCond .eq 7, 3) := by decide +kernel
theorem dX5_meanSize_60 : decode cX5_meanSize 60 = .ok (.dconst 0, 1) := by decide +kernel
theorem dX5_meanSize_61 : decode cX5_meanSize 61 = .ok (.goto 11, 3) := by decide +kernel
theorem dX5_meanSize_64 : decode cX5_meanSize 64 = .ok (.iload_n 1, 1) := by decide +kernel
theorem dX5_meanSize_65 : decode cX5_meanSize 65 = .ok (.i2d, 1) := by decide +kernel
theorem dX5_meanSize_66 : decode cX5_meanSize 66 = .ok (.aload_n 0, 1) := by decide +kernel
theorem dX5_meanSize_67 : decode cX5_meanSize 67 = .ok (.invokevirtual 222, 3) := by decide +kernel
theorem dX5_meanSize_70 : decode cX5_meanSize 70 = .ok (.i2d, 1) := by decide +kernel
theorem dX5_meanSize_71 : decode cX5_meanSize 71 = .ok (.ddiv, 1) := by decide +kernel
theorem dX5_meanSize_72 : decode cX5_meanSize 72 = .ok (.dreturn, 1) := by decide +kernel
theorem dX5_painted_0 : decode cX5_painted 0 = .ok (.aload_n 0, 1) := by decide +kernel
theorem dX5_painted_1 : decode cX5_painted 1 = .ok (.aload_n 0, 1) := by decide +kernel
theorem dX5_painted_2 : decode cX5_painted 2 = .ok (.getfield 7, 3) := by decide +kernel
theorem dX5_painted_5 : decode cX5_painted 5 = .ok (.iconst 0, 1) := by decide +kernel
theorem dX5_painted_6 : decode cX5_painted 6 = .ok (.iaload, 1) := by decide +kernel
theorem dX5_painted_7 : decode cX5_painted 7 = .ok (.ifCond .ne 7, 3) := by decide +kernel
theorem dX5_painted_10 : decode cX5_painted 10 = .ok (.iconst 1, 1) := by decide +kernel
theorem dX5_painted_11 : decode cX5_painted 11 = .ok (.goto 4, 3) := by decide +kernel
theorem dX5_painted_14 : decode cX5_painted 14 = .ok (.iconst 0, 1) := by decide +kernel
theorem dX5_painted_15 : decode cX5_painted 15 = .ok (.invokevirtual 71, 3) := by decide +kernel
theorem dX5_painted_18 : decode cX5_painted 18 = .ok (.ifCond .eq 7, 3) := by decide +kernel
theorem dX5_painted_21 : decode cX5_painted 21 = .ok (.fconst 0, 1) := by decide +kernel
theorem dX5_painted_22 : decode cX5_painted 22 = .ok (.goto 16, 3) := by decide +kernel
theorem dX5_painted_25 : decode cX5_painted 25 = .ok (.aload_n 0, 1) := by decide +kernel
theorem dX5_painted_26 : decode cX5_painted 26 = .ok (.invokevirtual 222, 3) := by decide +kernel
theorem dX5_painted_29 : decode cX5_painted 29 = .ok (.i2f, 1) := by decide +kernel
theorem dX5_painted_30 : decode cX5_painted 30 = .ok (.aload_n 0, 1) := by decide +kernel
theorem dX5_painted_31 : decode cX5_painted 31 = .ok (.getfield 7, 3) := by decide +kernel
theorem dX5_painted_34 : decode cX5_painted 34 = .ok (.iconst 0, 1) := by decide +kernel
theorem dX5_painted_35 : decode cX5_painted 35 = .ok (.iaload, 1) := by decide +kernel
theorem dX5_painted_36 : decode cX5_painted 36 = .ok (.i2f, 1) := by decide +kernel
theorem dX5_painted_37 : decode cX5_painted 37 = .ok (.fdiv, 1) := by decide +kernel
theorem dX5_painted_38 : decode cX5_painted 38 = .ok (.freturn, 1) := by decide +kernel
theorem dX5_undo_0 : decode cX5_undo 0 = .ok (.aload_n 0, 1) := by decide +kernel
theorem dX5_undo_1 : decode cX5_undo 1 = .ok (.aload_n 0, 1) := by decide +kernel
theorem dX5_undo_2 : decode cX5_undo 2 = .ok (.getfield 52, 3) := by decide +kernel
theorem dX5_undo_5 : decode cX5_undo 5 = .ok (.ifCond .ne 7, 3) := by decide +kernel
theorem dX5_undo_8 : decode cX5_undo 8 = .ok (.iconst 1, 1) := by decide +kernel
theorem dX5_undo_9 : decode cX5_undo 9 = .ok (.goto 4, 3) := by decide +kernel
theorem dX5_undo_12 : decode cX5_undo 12 = .ok (.iconst 0, 1) := by decide +kernel
theorem dX5_undo_13 : decode cX5_undo 13 = .ok (.invokevirtual 71, 3) := by decide +kernel
theorem dX5_undo_16 : decode cX5_undo 16 = .ok (.ifCond .eq 5, 3) := by decide +kernel
theorem dX5_undo_19 : decode cX5_undo 19 = .ok (.iconst 0, 1) := by decide +kernel
theorem dX5_undo_20 : decode cX5_undo 20 = .ok (.ireturn, 1) := by decide +kernel
theorem dX5_undo_21 : decode cX5_undo 21 = .ok (.aload_n 0, 1) := by decide +kernel
theorem dX5_undo_22 : decode cX5_undo 22 = .ok (.dup, 1) := by decide +kernel
theorem dX5_undo_23 : decode cX5_undo 23 = .ok (.getfield 52, 3) := by decide +kernel
theorem dX5_undo_26 : decode cX5_undo 26 = .ok (.iconst 1, 1) := by decide +kernel
theorem dX5_undo_27 : decode cX5_undo 27 = .ok (.isub, 1) := by decide +kernel
theorem dX5_undo_28 : decode cX5_undo 28 = .ok (.putfield 52, 3) := by decide +kernel
theorem dX5_undo_31 : decode cX5_undo 31 = .ok (.aload_n 0, 1) := by decide +kernel
theorem dX5_undo_32 : decode cX5_undo 32 = .ok (.getfield 13, 3) := by decide +kernel
theorem dX5_undo_35 : decode cX5_undo 35 = .ok (.bipush 56, 2) := by decide +kernel
theorem dX5_undo_37 : decode cX5_undo 37 = .ok (.aload_n 0, 1) := by decide +kernel
theorem dX5_undo_38 : decode cX5_undo 38 = .ok (.getfield 52, 3) := by decide +kernel
theorem dX5_undo_41 : decode cX5_undo 41 = .ok (.imul, 1) := by decide +kernel
theorem dX5_undo_42 : decode cX5_undo 42 = .ok (.aload_n 0, 1) := by decide +kernel
theorem dX5_undo_43 : decode cX5_undo 43 = .ok (.getfield 7, 3) := by decide +kernel
theorem dX5_undo_46 : decode cX5_undo 46 = .ok (.iconst 0, 1) := by decide +kernel
theorem dX5_undo_47 : decode cX5_undo 47 = .ok (.invokestatic 55, 3) := by decide +kernel
theorem dX5_undo_50 : decode cX5_undo 50 = .ok (.aload_n 0, 1) := by decide +kernel
theorem dX5_undo_51 : decode cX5_undo 51 = .ok (.getfield 52, 3) := by decide +kernel
theorem dX5_undo_54 : decode cX5_undo 54 = .ok (.ireturn, 1) := by decide +kernel
theorem dX5_save_0 : decode cX5_save 0 = .ok (.aload_n 0, 1) := by decide +kernel
theorem dX5_save_1 : decode cX5_save 1 = .ok (.iconst 0, 1) := by decide +kernel
theorem dX5_save_2 : decode cX5_save 2 = .ok (.putfield 39, 3) := by decide +kernel
theorem dX5_save_5 : decode cX5_save 5 = .ok (.aload_n 0, 1) := by decide +kernel
theorem dX5_save_6 : decode cX5_save 6 = .ok (.iconst 1, 1) := by decide +kernel
theorem dX5_save_7 : decode cX5_save 7 = .ok (.putfield 235, 3) := by decide +kernel
theorem dX5_save_10 : decode cX5_save 10 = .ok (.aload_n 0, 1) := by decide +kernel
theorem dX5_save_11 : decode cX5_save 11 = .ok (.getfield 7, 3) := by decide +kernel
theorem dX5_save_14 : decode cX5_save 14 = .ok (.iconst 0, 1) := by decide +kernel
theorem dX5_save_15 : decode cX5_save 15 = .ok (.aload_n 0, 1) := by decide +kernel
theorem dX5_save_16 : decode cX5_save 16 = .ok (.getfield 16, 3) := by decide +kernel
theorem dX5_save_19 : decode cX5_save 19 = .ok (.iconst 0, 1) := by decide +kernel
theorem dX5_save_20 : decode cX5_save 20 = .ok (.invokestatic 55, 3) := by decide +kernel
theorem dX5_save_23 : decode cX5_save 23 = .ok (.aload_n 0, 1) := by decide +kernel
theorem dX5_save_24 : decode cX5_save 24 = .ok (.getfield 7, 3) := by decide +kernel
theorem dX5_save_27 : decode cX5_save 27 = .ok (.iconst 0, 1) := by decide +kernel
theorem dX5_save_28 : decode cX5_save 28 = .ok (.iaload, 1) := by decide +kernel
theorem dX5_save_29 : decode cX5_save 29 = .ok (.ireturn, 1) := by decide +kernel
theorem dX5_restore_0 : decode cX5_restore 0 = .ok (.aload_n 0, 1) := by decide +kernel
theorem dX5_restore_1 : decode cX5_restore 1 = .ok (.aload_n 0, 1) := by decide +kernel
theorem dX5_restore_2 : decode cX5_restore 2 = .ok (.getfield 235, 3) := by decide +kernel
theorem dX5_restore_5 : decode cX5_restore 5 = .ok (.ifCond .eq 7, 3) := by decide +kernel
theorem dX5_restore_8 : decode cX5_restore 8 = .ok (.iconst 0, 1) := by decide +kernel
theorem dX5_restore_9 : decode cX5_restore 9 = .ok (.goto 4, 3) := by decide +kernel
theorem dX5_restore_12 : decode cX5_restore 12 = .ok (.iconst 1, 1) := by decide +kernel
theorem dX5_restore_13 : decode cX5_restore 13 = .ok (.invokevirtual 71, 3) := by decide +kernel
theorem dX5_restore_16 : decode cX5_restore 16 = .ok (.ifCond .eq 5, 3) := by decide +kernel
theorem dX5_restore_19 : decode cX5_restore 19 = .ok (.iconst 0, 1) := by decide +kernel
theorem dX5_restore_20 : decode cX5_restore 20 = .ok (.ireturn, 1) := by decide +kernel
theorem dX5_restore_21 : decode cX5_restore 21 = .ok (.aload_n 0, 1) := by decide +kernel
theorem dX5_restore_22 : decode cX5_restore 22 = .ok (.getfield 16, 3) := by decide +kernel
theorem dX5_restore_25 : decode cX5_restore 25 = .ok (.iconst 0, 1) := by decide +kernel
theorem dX5_restore_26 : decode cX5_restore 26 = .ok (.aload_n 0, 1) := by decide +kernel
theorem dX5_restore_27 : decode cX5_restore 27 = .ok (.getfield 7, 3) := by decide +kernel
theorem dX5_restore_30 : decode cX5_restore 30 = .ok (.iconst 0, 1) := by decide +kernel
theorem dX5_restore_31 : decode cX5_restore 31 = .ok (.invokestatic 55, 3) := by decide +kernel
theorem dX5_restore_34 : decode cX5_restore 34 = .ok (.aload_n 0, 1) := by decide +kernel
theorem dX5_restore_35 : decode cX5_restore 35 = .ok (.iconst 0, 1) := by decide +kernel
theorem dX5_restore_36 : decode cX5_restore 36 = .ok (.putfield 52, 3) := by decide +kernel
theorem dX5_restore_39 : decode cX5_restore 39 = .ok (.aload_n 0, 1) := by decide +kernel
theorem dX5_restore_40 : decode cX5_restore 40 = .ok (.getfield 7, 3) := by decide +kernel
theorem dX5_restore_43 : decode cX5_restore 43 = .ok (.iconst 0, 1) := by decide +kernel
theorem dX5_restore_44 : decode cX5_restore 44 = .ok (.iaload, 1) := by decide +kernel
theorem dX5_restore_45 : decode cX5_restore 45 = .ok (.ireturn, 1) := by decide +kernel
