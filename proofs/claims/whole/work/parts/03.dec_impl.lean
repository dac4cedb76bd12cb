/-! each instruction, decoded -/
theorem dX0_init_0 : decode cX0_init 0 = .ok (.aload_n 0, 1) := by decide +kernel
theorem dX0_init_1 : decode cX0_init 1 = .ok (.invokespecial 3, 3) := by decide +kernel
theorem dX0_init_4 : decode cX0_init 4 = .ok (.aload_n 0, 1) := by decide +kernel
theorem dX0_init_5 : decode cX0_init 5 = .ok (.iconst 5, 1) := by decide +kernel
theorem dX0_init_6 : decode cX0_init 6 = .ok (.newarray .int, 2) := by decide +kernel
theorem dX0_init_8 : decode cX0_init 8 = .ok (.putfield 9, 3) := by decide +kernel
theorem dX0_init_11 : decode cX0_init 11 = .ok (.aload_n 0, 1) := by decide +kernel
theorem dX0_init_12 : decode cX0_init 12 = .ok (.bipush 7, 2) := by decide +kernel
theorem dX0_init_14 : decode cX0_init 14 = .ok (.newarray .int, 2) := by decide +kernel
theorem dX0_init_16 : decode cX0_init 16 = .ok (.putfield 15, 3) := by decide +kernel
theorem dX0_init_19 : decode cX0_init 19 = .ok (.return_, 1) := by decide +kernel
theorem dX0_count_0 : decode cX0_count 0 = .ok (.aload_n 0, 1) := by decide +kernel
theorem dX0_count_1 : decode cX0_count 1 = .ok (.aload_n 1, 1) := by decide +kernel
theorem dX0_count_2 : decode cX0_count 2 = .ok (.invokevirtual 18, 3) := by decide +kernel
theorem dX0_count_5 : decode cX0_count 5 = .ok (.iconst 0, 1) := by decide +kernel
theorem dX0_count_6 : decode cX0_count 6 = .ok (.aload_n 1, 1) := by decide +kernel
theorem dX0_count_7 : decode cX0_count 7 = .ok (.invokevirtual 22, 3) := by decide +kernel
theorem dX0_count_10 : decode cX0_count 10 = .ok (.iload_n 2, 1) := by decide +kernel
theorem dX0_count_11 : decode cX0_count 11 = .ok (.aload_n 0, 1) := by decide +kernel
theorem dX0_count_12 : decode cX0_count 12 = .ok (.getfield 9, 3) := by decide +kernel
theorem dX0_count_15 : decode cX0_count 15 = .ok (.aload_n 1, 1) := by decide +kernel
theorem dX0_count_16 : decode cX0_count 16 = .ok (.getfield 28, 3) := by decide +kernel
theorem dX0_count_19 : decode cX0_count 19 = .ok (.invokestatic 31, 3) := by decide +kernel
theorem dX0_count_22 : decode cX0_count 22 = .ok (.ireturn, 1) := by decide +kernel
theorem dX0_countWithWish_0 : decode cX0_countWithWish 0 = .ok (.aload_n 1, 1) := by decide +kernel
theorem dX0_countWithWish_1 : decode cX0_countWithWish 1 = .ok (.getfield 35, 3) := by decide +kernel
theorem dX0_countWithWish_4 : decode cX0_countWithWish 4 = .ok (.iload_n 2, 1) := by decide +kernel
theorem dX0_countWithWish_5 : decode cX0_countWithWish 5 = .ok (.iaload, 1) := by decide +kernel
theorem dX0_countWithWish_6 : decode cX0_countWithWish 6 = .ok (.istore_n 3, 1) := by decide +kernel
theorem dX0_countWithWish_7 : decode cX0_countWithWish 7 = .ok (.aload_n 1, 1) := by decide +kernel
theorem dX0_countWithWish_8 : decode cX0_countWithWish 8 = .ok (.iload_n 2, 1) := by decide +kernel
theorem dX0_countWithWish_9 : decode cX0_countWithWish 9 = .ok (.invokevirtual 38, 3) := by decide +kernel
theorem dX0_countWithWish_12 : decode cX0_countWithWish 12 = .ok (.ifCond .eq 25, 3) := by decide +kernel
theorem dX0_countWithWish_15 : decode cX0_countWithWish 15 = .ok (.aload_n 1, 1) := by decide +kernel
theorem dX0_countWithWish_16 : decode cX0_countWithWish 16 = .ok (.iload_n 2, 1) := by decide +kernel
theorem dX0_countWithWish_17 : decode cX0_countWithWish 17 = .ok (.invokevirtual 42, 3) := by decide +kernel
theorem dX0_countWithWish_20 : decode cX0_countWithWish 20 = .ok (.ifCond .eq 15, 3) := by decide +kernel
theorem dX0_countWithWish_23 : decode cX0_countWithWish 23 = .ok (.aload_n 0, 1) := by decide +kernel
theorem dX0_countWithWish_24 : decode cX0_countWithWish 24 = .ok (.aload_n 1, 1) := by decide +kernel
theorem dX0_countWithWish_25 : decode cX0_countWithWish 25 = .ok (.aload_n 1, 1) := by decide +kernel
theorem dX0_countWithWish_26 : decode cX0_countWithWish 26 = .ok (.getfield 45, 3) := by decide +kernel
theorem dX0_countWithWish_29 : decode cX0_countWithWish 29 = .ok (.invokevirtual 49, 3) := by decide +kernel
theorem dX0_countWithWish_32 : decode cX0_countWithWish 32 = .ok (.goto 4, 3) := by decide +kernel
theorem dX0_countWithWish_35 : decode cX0_countWithWish 35 = .ok (.iconst 0, 1) := by decide +kernel
theorem dX0_countWithWish_36 : decode cX0_countWithWish 36 = .ok (.ireturn, 1) := by decide +kernel
theorem dX0_countWithWish_37 : decode cX0_countWithWish 37 = .ok (.aload_n 0, 1) := by decide +kernel
theorem dX0_countWithWish_38 : decode cX0_countWithWish 38 = .ok (.aload_n 1, 1) := by decide +kernel
theorem dX0_countWithWish_39 : decode cX0_countWithWish 39 = .ok (.invokevirtual 18, 3) := by decide +kernel
theorem dX0_countWithWish_42 : decode cX0_countWithWish 42 = .ok (.iload_n 3, 1) := by decide +kernel
theorem dX0_countWithWish_43 : decode cX0_countWithWish 43 = .ok (.ifCond .lt 27, 3) := by decide +kernel
theorem dX0_countWithWish_46 : decode cX0_countWithWish 46 = .ok (.iload_n 3, 1) := by decide +kernel
theorem dX0_countWithWish_47 : decode cX0_countWithWish 47 = .ok (.aload_n 1, 1) := by decide +kernel
theorem dX0_countWithWish_48 : decode cX0_countWithWish 48 = .ok (.getfield 45, 3) := by decide +kernel
theorem dX0_countWithWish_51 : decode cX0_countWithWish 51 = .ok (.if_icmp .ge 19, 3) := by decide +kernel
theorem dX0_countWithWish_54 : decode cX0_countWithWish 54 = .ok (.aload_n 0, 1) := by decide +kernel
theorem dX0_countWithWish_55 : decode cX0_countWithWish 55 = .ok (.getfield 9, 3) := by decide +kernel
theorem dX0_countWithWish_58 : decode cX0_countWithWish 58 = .ok (.iload_n 3, 1) := by decide +kernel
theorem dX0_countWithWish_59 : decode cX0_countWithWish 59 = .ok (.iaload, 1) := by decide +kernel
theorem dX0_countWithWish_60 : decode cX0_countWithWish 60 = .ok (.aload_n 1, 1) := by decide +kernel
theorem dX0_countWithWish_61 : decode cX0_countWithWish 61 = .ok (.getfield 28, 3) := by decide +kernel
theorem dX0_countWithWish_64 : decode cX0_countWithWish 64 = .ok (.iload_n 2, 1) := by decide +kernel
theorem dX0_countWithWish_65 : decode cX0_countWithWish 65 = .ok (.iaload, 1) := by decide +kernel
theorem dX0_countWithWish_66 : decode cX0_countWithWish 66 = .ok (.iand, 1) := by decide +kernel
theorem dX0_countWithWish_67 : decode cX0_countWithWish 67 = .ok (.ifCond .eq 5, 3) := by decide +kernel
theorem dX0_countWithWish_70 : decode cX0_countWithWish 70 = .ok (.iconst 0, 1) := by decide +kernel
theorem dX0_countWithWish_71 : decode cX0_countWithWish 71 = .ok (.ireturn, 1) := by decide +kernel
theorem dX0_countWithWish_72 : decode cX0_countWithWish 72 = .ok (.iconst 1, 1) := by decide +kernel
theorem dX0_countWithWish_73 : decode cX0_countWithWish 73 = .ok (.iload_n 2, 1) := by decide +kernel
theorem dX0_countWithWish_74 : decode cX0_countWithWish 74 = .ok (.ishl, 1) := by decide +kernel
theorem dX0_countWithWish_75 : decode cX0_countWithWish 75 = .ok (.istore 4, 2) := by decide +kernel
theorem dX0_countWithWish_77 : decode cX0_countWithWish 77 = .ok (.aload_n 0, 1) := by decide +kernel
theorem dX0_countWithWish_78 : decode cX0_countWithWish 78 = .ok (.getfield 9, 3) := by decide +kernel
theorem dX0_countWithWish_81 : decode cX0_countWithWish 81 = .ok (.iload_n 3, 1) := by decide +kernel
theorem dX0_countWithWish_82 : decode cX0_countWithWish 82 = .ok (.dup2, 1) := by decide +kernel
theorem dX0_countWithWish_83 : decode cX0_countWithWish 83 = .ok (.iaload, 1) := by decide +kernel
theorem dX0_countWithWish_84 : decode cX0_countWithWish 84 = .ok (.iload 4, 2) := by decide +kernel
theorem dX0_countWithWish_86 : decode cX0_countWithWish 86 = .ok (.ior, 1) := by decide +kernel
theorem dX0_countWithWish_87 : decode cX0_countWithWish 87 = .ok (.iastore, 1) := by decide +kernel
theorem dX0_countWithWish_88 : decode cX0_countWithWish 88 = .ok (.iconst 0, 1) := by decide +kernel
theorem dX0_countWithWish_89 : decode cX0_countWithWish 89 = .ok (.aload_n 1, 1) := by decide +kernel
theorem dX0_countWithWish_90 : decode cX0_countWithWish 90 = .ok (.invokevirtual 22, 3) := by decide +kernel
theorem dX0_countWithWish_93 : decode cX0_countWithWish 93 = .ok (.iload 4, 2) := by decide +kernel
theorem dX0_countWithWish_95 : decode cX0_countWithWish 95 = .ok (.iconst (-1), 1) := by decide +kernel
theorem dX0_countWithWish_96 : decode cX0_countWithWish 96 = .ok (.ixor, 1) := by decide +kernel
theorem dX0_countWithWish_97 : decode cX0_countWithWish 97 = .ok (.iand, 1) := by decide +kernel
theorem dX0_countWithWish_98 : decode cX0_countWithWish 98 = .ok (.aload_n 1, 1) := by decide +kernel
theorem dX0_countWithWish_99 : decode cX0_countWithWish 99 = .ok (.getfield 45, 3) := by decide +kernel
theorem dX0_countWithWish_102 : decode cX0_countWithWish 102 = .ok (.aload_n 0, 1) := by decide +kernel
theorem dX0_countWithWish_103 : decode cX0_countWithWish 103 = .ok (.getfield 9, 3) := by decide +kernel
theorem dX0_countWithWish_106 : decode cX0_countWithWish 106 = .ok (.aload_n 1, 1) := by decide +kernel
theorem dX0_countWithWish_107 : decode cX0_countWithWish 107 = .ok (.getfield 28, 3) := by decide +kernel
theorem dX0_countWithWish_110 : decode cX0_countWithWish 110 = .ok (.invokestatic 31, 3) := by decide +kernel
theorem dX0_countWithWish_113 : decode cX0_countWithWish 113 = .ok (.ireturn, 1) := by decide +kernel
theorem dX0_countByNumbers_0 : decode cX0_countByNumbers 0 = .ok (.iconst 1, 1) := by decide +kernel
theorem dX0_countByNumbers_1 : decode cX0_countByNumbers 1 = .ok (.istore_n 2, 1) := by decide +kernel
theorem dX0_countByNumbers_2 : decode cX0_countByNumbers 2 = .ok (.iconst 0, 1) := by decide +kernel
theorem dX0_countByNumbers_3 : decode cX0_countByNumbers 3 = .ok (.istore_n 3, 1) := by decide +kernel
theorem dX0_countByNumbers_4 : decode cX0_countByNumbers 4 = .ok (.iload_n 3, 1) := by decide +kernel
theorem dX0_countByNumbers_5 : decode cX0_countByNumbers 5 = .ok (.aload_n 1, 1) := by decide +kernel
theorem dX0_countByNumbers_6 : decode cX0_countByNumbers 6 = .ok (.getfield 53, 3) := by decide +kernel
theorem dX0_countByNumbers_9 : decode cX0_countByNumbers 9 = .ok (.if_icmp .ge 28, 3) := by decide +kernel
theorem dX0_countByNumbers_12 : decode cX0_countByNumbers 12 = .ok (.iload_n 2, 1) := by decide +kernel
theorem dX0_countByNumbers_13 : decode cX0_countByNumbers 13 = .ok (.aload_n 1, 1) := by decide +kernel
theorem dX0_countByNumbers_14 : decode cX0_countByNumbers 14 = .ok (.iload_n 3, 1) := by decide +kernel
theorem dX0_countByNumbers_15 : decode cX0_countByNumbers 15 = .ok (.invokevirtual 38, 3) := by decide +kernel
theorem dX0_countByNumbers_18 : decode cX0_countByNumbers 18 = .ok (.ifCond .eq 7, 3) := by decide +kernel
theorem dX0_countByNumbers_21 : decode cX0_countByNumbers 21 = .ok (.iconst 1, 1) := by decide +kernel
theorem dX0_countByNumbers_22 : decode cX0_countByNumbers 22 = .ok (.goto 7, 3) := by decide +kernel
theorem dX0_countByNumbers_25 : decode cX0_countByNumbers 25 = .ok (.aload_n 1, 1) := by decide +kernel
theorem dX0_countByNumbers_26 : decode cX0_countByNumbers 26 = .ok (.getfield 45, 3) := by decide +kernel
theorem dX0_countByNumbers_29 : decode cX0_countByNumbers 29 = .ok (.imul, 1) := by decide +kernel
theorem dX0_countByNumbers_30 : decode cX0_countByNumbers 30 = .ok (.istore_n 2, 1) := by decide +kernel
theorem dX0_countByNumbers_31 : decode cX0_countByNumbers 31 = .ok (.iinc 3 1, 3) := by decide +kernel
theorem dX0_countByNumbers_34 : decode cX0_countByNumbers 34 = .ok (.goto (-30), 3) := by decide +kernel
theorem dX0_countByNumbers_37 : decode cX0_countByNumbers 37 = .ok (.iconst 0, 1) := by decide +kernel
theorem dX0_countByNumbers_38 : decode cX0_countByNumbers 38 = .ok (.istore_n 3, 1) := by decide +kernel
theorem dX0_countByNumbers_39 : decode cX0_countByNumbers 39 = .ok (.iconst 0, 1) := by decide +kernel
theorem dX0_countByNumbers_40 : decode cX0_countByNumbers 40 = .ok (.istore 4, 2) := by decide +kernel
theorem dX0_countByNumbers_42 : decode cX0_countByNumbers 42 = .ok (.iload 4, 2) := by decide +kernel
theorem dX0_countByNumbers_44 : decode cX0_countByNumbers 44 = .ok (.iload_n 2, 1) := by decide +kernel
theorem dX0_countByNumbers_45 : decode cX0_countByNumbers 45 = .ok (.if_icmp .ge 27, 3) := by decide +kernel
theorem dX0_countByNumbers_48 : decode cX0_countByNumbers 48 = .ok (.aload_n 0, 1) := by decide +kernel
theorem dX0_countByNumbers_49 : decode cX0_countByNumbers 49 = .ok (.aload_n 1, 1) := by decide +kernel
theorem dX0_countByNumbers_50 : decode cX0_countByNumbers 50 = .ok (.iload 4, 2) := by decide +kernel
theorem dX0_countByNumbers_52 : decode cX0_countByNumbers 52 = .ok (.invokevirtual 56, 3) := by decide +kernel
theorem dX0_countByNumbers_55 : decode cX0_countByNumbers 55 = .ok (.aload_n 0, 1) := by decide +kernel
theorem dX0_countByNumbers_56 : decode cX0_countByNumbers 56 = .ok (.aload_n 1, 1) := by decide +kernel
theorem dX0_countByNumbers_57 : decode cX0_countByNumbers 57 = .ok (.invokevirtual 60, 3) := by decide +kernel
theorem dX0_countByNumbers_60 : decode cX0_countByNumbers 60 = .ok (.ifCond .eq 6, 3) := by decide +kernel
theorem dX0_countByNumbers_63 : decode cX0_countByNumbers 63 = .ok (.iinc 3 1, 3) := by decide +kernel
theorem dX0_countByNumbers_66 : decode cX0_countByNumbers 66 = .ok (.iinc 4 1, 3) := by decide +kernel
theorem dX0_countByNumbers_69 : decode cX0_countByNumbers 69 = .ok (.goto (-27), 3) := by decide +kernel
theorem dX0_countByNumbers_72 : decode cX0_countByNumbers 72 = .ok (.iload_n 3, 1) := by decide +kernel
theorem dX0_countByNumbers_73 : decode cX0_countByNumbers 73 = .ok (.ireturn, 1) := by decide +kernel
theorem dX0_noteHolders_0 : decode cX0_noteHolders 0 = .ok (.iconst 0, 1) := by decide +kernel
theorem dX0_noteHolders_1 : decode cX0_noteHolders 1 = .ok (.istore_n 2, 1) := by decide +kernel
theorem dX0_noteHolders_2 : decode cX0_noteHolders 2 = .ok (.iload_n 2, 1) := by decide +kernel
theorem dX0_noteHolders_3 : decode cX0_noteHolders 3 = .ok (.iconst 5, 1) := by decide +kernel
theorem dX0_noteHolders_4 : decode cX0_noteHolders 4 = .ok (.if_icmp .ge 54, 3) := by decide +kernel
theorem dX0_noteHolders_7 : decode cX0_noteHolders 7 = .ok (.aload_n 0, 1) := by decide +kernel
theorem dX0_noteHolders_8 : decode cX0_noteHolders 8 = .ok (.getfield 9, 3) := by decide +kernel
theorem dX0_noteHolders_11 : decode cX0_noteHolders 11 = .ok (.iload_n 2, 1) := by decide +kernel
theorem dX0_noteHolders_12 : decode cX0_noteHolders 12 = .ok (.iconst 0, 1) := by decide +kernel
theorem dX0_noteHolders_13 : decode cX0_noteHolders 13 = .ok (.iastore, 1) := by decide +kernel
theorem dX0_noteHolders_14 : decode cX0_noteHolders 14 = .ok (.iconst 0, 1) := by decide +kernel
theorem dX0_noteHolders_15 : decode cX0_noteHolders 15 = .ok (.istore_n 3, 1) := by decide +kernel
theorem dX0_noteHolders_16 : decode cX0_noteHolders 16 = .ok (.iload_n 3, 1) := by decide +kernel
theorem dX0_noteHolders_17 : decode cX0_noteHolders 17 = .ok (.aload_n 1, 1) := by decide +kernel
theorem dX0_noteHolders_18 : decode cX0_noteHolders 18 = .ok (.getfield 53, 3) := by decide +kernel
theorem dX0_noteHolders_21 : decode cX0_noteHolders 21 = .ok (.if_icmp .ge 31, 3) := by decide +kernel
theorem dX0_noteHolders_24 : decode cX0_noteHolders 24 = .ok (.aload_n 1, 1) := by decide +kernel
theorem dX0_noteHolders_25 : decode cX0_noteHolders 25 = .ok (.getfield 64, 3) := by decide +kernel
theorem dX0_noteHolders_28 : decode cX0_noteHolders 28 = .ok (.iload_n 3, 1) := by decide +kernel
theorem dX0_noteHolders_29 : decode cX0_noteHolders 29 = .ok (.iaload, 1) := by decide +kernel
theorem dX0_noteHolders_30 : decode cX0_noteHolders 30 = .ok (.iload_n 2, 1) := by decide +kernel
theorem dX0_noteHolders_31 : decode cX0_noteHolders 31 = .ok (.if_icmp .ne 15, 3) := by decide +kernel
theorem dX0_noteHolders_34 : decode cX0_noteHolders 34 = .ok (.aload_n 0, 1) := by decide +kernel
theorem dX0_noteHolders_35 : decode cX0_noteHolders 35 = .ok (.getfield 9, 3) := by decide +kernel
theorem dX0_noteHolders_38 : decode cX0_noteHolders 38 = .ok (.iload_n 2, 1) := by decide +kernel
theorem dX0_noteHolders_39 : decode cX0_noteHolders 39 = .ok (.dup2, 1) := by decide +kernel
theorem dX0_noteHolders_40 : decode cX0_noteHolders 40 = .ok (.iaload, 1) := by decide +kernel
theorem dX0_noteHolders_41 : decode cX0_noteHolders 41 = .ok (.iconst 1, 1) := by decide +kernel
theorem dX0_noteHolders_42 : decode cX0_noteHolders 42 = .ok (.iload_n 3, 1) := by decide +kernel
theorem dX0_noteHolders_43 : decode cX0_noteHolders 43 = .ok (.ishl, 1) := by decide +kernel
theorem dX0_noteHolders_44 : decode cX0_noteHolders 44 = .ok (.ior, 1) := by decide +kernel
theorem dX0_noteHolders_45 : decode cX0_noteHolders 45 = .ok (.iastore, 1) := by decide +kernel
theorem dX0_noteHolders_46 : decode cX0_noteHolders 46 = .ok (.iinc 3 1, 3) := by decide +kernel
theorem dX0_noteHolders_49 : decode cX0_noteHolders 49 = .ok (.goto (-33), 3) := by decide +kernel
theorem dX0_noteHolders_52 : decode cX0_noteHolders 52 = .ok (.iinc 2 1, 3) := by decide +kernel
theorem dX0_noteHolders_55 : decode cX0_noteHolders 55 = .ok (.goto (-53), 3) := by decide +kernel
theorem dX0_noteHolders_58 : decode cX0_noteHolders 58 = .ok (.return_, 1) := by decide +kernel
theorem dX0_countFrom_0 : decode cX0_countFrom 0 = .ok (.iload_n 0, 1) := by decide +kernel
theorem dX0_countFrom_1 : decode cX0_countFrom 1 = .ok (.bipush 7, 2) := by decide +kernel
theorem dX0_countFrom_3 : decode cX0_countFrom 3 = .ok (.if_icmp .ge 9, 3) := by decide +kernel
theorem dX0_countFrom_6 : decode cX0_countFrom 6 = .ok (.iload_n 1, 1) := by decide +kernel
theorem dX0_countFrom_7 : decode cX0_countFrom 7 = .ok (.iload_n 0, 1) := by decide +kernel
theorem dX0_countFrom_8 : decode cX0_countFrom 8 = .ok (.ishr, 1) := by decide +kernel
theorem dX0_countFrom_9 : decode cX0_countFrom 9 = .ok (.ifCond .ne 5, 3) := by decide +kernel
theorem dX0_countFrom_12 : decode cX0_countFrom 12 = .ok (.iconst 1, 1) := by decide +kernel
theorem dX0_countFrom_13 : decode cX0_countFrom 13 = .ok (.ireturn, 1) := by decide +kernel
theorem dX0_countFrom_14 : decode cX0_countFrom 14 = .ok (.iload_n 1, 1) := by decide +kernel
theorem dX0_countFrom_15 : decode cX0_countFrom 15 = .ok (.iload_n 0, 1) := by decide +kernel
theorem dX0_countFrom_16 : decode cX0_countFrom 16 = .ok (.ishr, 1) := by decide +kernel
theorem dX0_countFrom_17 : decode cX0_countFrom 17 = .ok (.iconst 1, 1) := by decide +kernel
theorem dX0_countFrom_18 : decode cX0_countFrom 18 = .ok (.iand, 1) := by decide +kernel
theorem dX0_countFrom_19 : decode cX0_countFrom 19 = .ok (.ifCond .ne 15, 3) := by decide +kernel
theorem dX0_countFrom_22 : decode cX0_countFrom 22 = .ok (.iload_n 0, 1) := by decide +kernel
theorem dX0_countFrom_23 : decode cX0_countFrom 23 = .ok (.iconst 1, 1) := by decide +kernel
theorem dX0_countFrom_24 : decode cX0_countFrom 24 = .ok (.iadd, 1) := by decide +kernel
theorem dX0_countFrom_25 : decode cX0_countFrom 25 = .ok (.iload_n 1, 1) := by decide +kernel
theorem dX0_countFrom_26 : decode cX0_countFrom 26 = .ok (.iload_n 2, 1) := by decide +kernel
theorem dX0_countFrom_27 : decode cX0_countFrom 27 = .ok (.aload_n 3, 1) := by decide +kernel
theorem dX0_countFrom_28 : decode cX0_countFrom 28 = .ok (.aload 4, 2) := by decide +kernel
theorem dX0_countFrom_30 : decode cX0_countFrom 30 = .ok (.invokestatic 31, 3) := by decide +kernel
theorem dX0_countFrom_33 : decode cX0_countFrom 33 = .ok (.ireturn, 1) := by decide +kernel
theorem dX0_countFrom_34 : decode cX0_countFrom 34 = .ok (.aload 4, 2) := by decide +kernel
theorem dX0_countFrom_36 : decode cX0_countFrom 36 = .ok (.iload_n 0, 1) := by decide +kernel
theorem dX0_countFrom_37 : decode cX0_countFrom 37 = .ok (.iaload, 1) := by decide +kernel
theorem dX0_countFrom_38 : decode cX0_countFrom 38 = .ok (.iload_n 1, 1) := by decide +kernel
theorem dX0_countFrom_39 : decode cX0_countFrom 39 = .ok (.iand, 1) := by decide +kernel
theorem dX0_countFrom_40 : decode cX0_countFrom 40 = .ok (.iload_n 0, 1) := by decide +kernel
theorem dX0_countFrom_41 : decode cX0_countFrom 41 = .ok (.ishr, 1) := by decide +kernel
theorem dX0_countFrom_42 : decode cX0_countFrom 42 = .ok (.ifCond .ne 38, 3) := by decide +kernel
theorem dX0_countFrom_45 : decode cX0_countFrom 45 = .ok (.aload 4, 2) := by decide +kernel
theorem dX0_countFrom_47 : decode cX0_countFrom 47 = .ok (.iload_n 0, 1) := by decide +kernel
theorem dX0_countFrom_48 : decode cX0_countFrom 48 = .ok (.iaload, 1) := by decide +kernel
theorem dX0_countFrom_49 : decode cX0_countFrom 49 = .ok (.iload_n 2, 1) := by decide +kernel
theorem dX0_countFrom_50 : decode cX0_countFrom 50 = .ok (.aload_n 3, 1) := by decide +kernel
theorem dX0_countFrom_51 : decode cX0_countFrom 51 = .ok (.invokestatic 67, 3) := by decide +kernel
theorem dX0_countFrom_54 : decode cX0_countFrom 54 = .ok (.istore 5, 2) := by decide +kernel
theorem dX0_countFrom_56 : decode cX0_countFrom 56 = .ok (.iload 5, 2) := by decide +kernel
theorem dX0_countFrom_58 : decode cX0_countFrom 58 = .ok (.ifCond .ne 7, 3) := by decide +kernel
theorem dX0_countFrom_61 : decode cX0_countFrom 61 = .ok (.iconst 0, 1) := by decide +kernel
theorem dX0_countFrom_62 : decode cX0_countFrom 62 = .ok (.goto 17, 3) := by decide +kernel
theorem dX0_countFrom_65 : decode cX0_countFrom 65 = .ok (.iload 5, 2) := by decide +kernel
theorem dX0_countFrom_67 : decode cX0_countFrom 67 = .ok (.iload_n 0, 1) := by decide +kernel
theorem dX0_countFrom_68 : decode cX0_countFrom 68 = .ok (.iconst 1, 1) := by decide +kernel
theorem dX0_countFrom_69 : decode cX0_countFrom 69 = .ok (.iadd, 1) := by decide +kernel
theorem dX0_countFrom_70 : decode cX0_countFrom 70 = .ok (.iload_n 1, 1) := by decide +kernel
theorem dX0_countFrom_71 : decode cX0_countFrom 71 = .ok (.iload_n 2, 1) := by decide +kernel
theorem dX0_countFrom_72 : decode cX0_countFrom 72 = .ok (.aload_n 3, 1) := by decide +kernel
theorem dX0_countFrom_73 : decode cX0_countFrom 73 = .ok (.aload 4, 2) := by decide +kernel
theorem dX0_countFrom_75 : decode cX0_countFrom 75 = .ok (.invokestatic 31, 3) := by decide +kernel
theorem dX0_countFrom_78 : decode cX0_countFrom 78 = .ok (.imul, 1) := by decide +kernel
theorem dX0_countFrom_79 : decode cX0_countFrom 79 = .ok (.ireturn, 1) := by decide +kernel
theorem dX0_countFrom_80 : decode cX0_countFrom 80 = .ok (.iconst 0, 1) := by decide +kernel
theorem dX0_countFrom_81 : decode cX0_countFrom 81 = .ok (.istore 5, 2) := by decide +kernel
theorem dX0_countFrom_83 : decode cX0_countFrom 83 = .ok (.iconst 0, 1) := by decide +kernel
theorem dX0_countFrom_84 : decode cX0_countFrom 84 = .ok (.istore 6, 2) := by decide +kernel
theorem dX0_countFrom_86 : decode cX0_countFrom 86 = .ok (.iload 6, 2) := by decide +kernel
theorem dX0_countFrom_88 : decode cX0_countFrom 88 = .ok (.iload_n 2, 1) := by decide +kernel
theorem dX0_countFrom_89 : decode cX0_countFrom 89 = .ok (.if_icmp .ge 59, 3) := by decide +kernel
theorem dX0_countFrom_92 : decode cX0_countFrom 92 = .ok (.aload_n 3, 1) := by decide +kernel
theorem dX0_countFrom_93 : decode cX0_countFrom 93 = .ok (.iload 6, 2) := by decide +kernel
theorem dX0_countFrom_95 : decode cX0_countFrom 95 = .ok (.iaload, 1) := by decide +kernel
theorem dX0_countFrom_96 : decode cX0_countFrom 96 = .ok (.aload 4, 2) := by decide +kernel
theorem dX0_countFrom_98 : decode cX0_countFrom 98 = .ok (.iload_n 0, 1) := by decide +kernel
theorem dX0_countFrom_99 : decode cX0_countFrom 99 = .ok (.iaload, 1) := by decide +kernel
theorem dX0_countFrom_100 : decode cX0_countFrom 100 = .ok (.iand, 1) := by decide +kernel
theorem dX0_countFrom_101 : decode cX0_countFrom 101 = .ok (.ifCond .ne 41, 3) := by decide +kernel
theorem dX0_countFrom_104 : decode cX0_countFrom 104 = .ok (.aload_n 3, 1) := by decide +kernel
theorem dX0_countFrom_105 : decode cX0_countFrom 105 = .ok (.iload 6, 2) := by decide +kernel
theorem dX0_countFrom_107 : decode cX0_countFrom 107 = .ok (.dup2, 1) := by decide +kernel
theorem dX0_countFrom_108 : decode cX0_countFrom 108 = .ok (.iaload, 1) := by decide +kernel
theorem dX0_countFrom_109 : decode cX0_countFrom 109 = .ok (.iconst 1, 1) := by decide +kernel
theorem dX0_countFrom_110 : decode cX0_countFrom 110 = .ok (.iload_n 0, 1) := by decide +kernel
theorem dX0_countFrom_111 : decode cX0_countFrom 111 = .ok (.ishl, 1) := by decide +kernel
theorem dX0_countFrom_112 : decode cX0_countFrom 112 = .ok (.ior, 1) := by decide +kernel
theorem dX0_countFrom_113 : decode cX0_countFrom 113 = .ok (.iastore, 1) := by decide +kernel
theorem dX0_countFrom_114 : decode cX0_countFrom 114 = .ok (.iload 5, 2) := by decide +kernel
theorem dX0_countFrom_116 : decode cX0_countFrom 116 = .ok (.iload_n 0, 1) := by decide +kernel
theorem dX0_countFrom_117 : decode cX0_countFrom 117 = .ok (.iconst 1, 1) := by decide +kernel
theorem dX0_countFrom_118 : decode cX0_countFrom 118 = .ok (.iadd, 1) := by decide +kernel
theorem dX0_countFrom_119 : decode cX0_countFrom 119 = .ok (.iload_n 1, 1) := by decide +kernel
theorem dX0_countFrom_120 : decode cX0_countFrom 120 = .ok (.iload_n 2, 1) := by decide +kernel
theorem dX0_countFrom_121 : decode cX0_countFrom 121 = .ok (.aload_n 3, 1) := by decide +kernel
theorem dX0_countFrom_122 : decode cX0_countFrom 122 = .ok (.aload 4, 2) := by decide +kernel
theorem dX0_countFrom_124 : decode cX0_countFrom 124 = .ok (.invokestatic 31, 3) := by decide +kernel
theorem dX0_countFrom_127 : decode cX0_countFrom 127 = .ok (.iadd, 1) := by decide +kernel
theorem dX0_countFrom_128 : decode cX0_countFrom 128 = .ok (.istore 5, 2) := by decide +kernel
theorem dX0_countFrom_130 : decode cX0_countFrom 130 = .ok (.aload_n 3, 1) := by decide +kernel
theorem dX0_countFrom_131 : decode cX0_countFrom 131 = .ok (.iload 6, 2) := by decide +kernel
theorem dX0_countFrom_133 : decode cX0_countFrom 133 = .ok (.dup2, 1) := by decide +kernel
theorem dX0_countFrom_134 : decode cX0_countFrom 134 = .ok (.iaload, 1) := by decide +kernel
theorem dX0_countFrom_135 : decode cX0_countFrom 135 = .ok (.iconst 1, 1) := by decide +kernel
theorem dX0_countFrom_136 : decode cX0_countFrom 136 = .ok (.iload_n 0, 1) := by decide +kernel
theorem dX0_countFrom_137 : decode cX0_countFrom 137 = .ok (.ishl, 1) := by decide +kernel
theorem dX0_countFrom_138 : decode cX0_countFrom 138 = .ok (.iconst (-1), 1) := by decide +kernel
theorem dX0_countFrom_139 : decode cX0_countFrom 139 = .ok (.ixor, 1) := by decide +kernel
theorem dX0_countFrom_140 : decode cX0_countFrom 140 = .ok (.iand, 1) := by decide +kernel
theorem dX0_countFrom_141 : decode cX0_countFrom 141 = .ok (.iastore, 1) := by decide +kernel
theorem dX0_countFrom_142 : decode cX0_countFrom 142 = .ok (.iinc 6 1, 3) := by decide +kernel
theorem dX0_countFrom_145 : decode cX0_countFrom 145 = .ok (.goto (-59), 3) := by decide +kernel
theorem dX0_countFrom_148 : decode cX0_countFrom 148 = .ok (.iload 5, 2) := by decide +kernel
theorem dX0_countFrom_150 : decode cX0_countFrom 150 = .ok (.ireturn, 1) := by decide +kernel
theorem dX0_countChoices_0 : decode cX0_countChoices 0 = .ok (.iconst 0, 1) := by decide +kernel
theorem dX0_countChoices_1 : decode cX0_countChoices 1 = .ok (.istore_n 3, 1) := by decide +kernel
theorem dX0_countChoices_2 : decode cX0_countChoices 2 = .ok (.iconst 0, 1) := by decide +kernel
theorem dX0_countChoices_3 : decode cX0_countChoices 3 = .ok (.istore 4, 2) := by decide +kernel
theorem dX0_countChoices_5 : decode cX0_countChoices 5 = .ok (.iload 4, 2) := by decide +kernel
theorem dX0_countChoices_7 : decode cX0_countChoices 7 = .ok (.iload_n 1, 1) := by decide +kernel
theorem dX0_countChoices_8 : decode cX0_countChoices 8 = .ok (.if_icmp .ge 21, 3) := by decide +kernel
theorem dX0_countChoices_11 : decode cX0_countChoices 11 = .ok (.aload_n 2, 1) := by decide +kernel
theorem dX0_countChoices_12 : decode cX0_countChoices 12 = .ok (.iload 4, 2) := by decide +kernel
theorem dX0_countChoices_14 : decode cX0_countChoices 14 = .ok (.iaload, 1) := by decide +kernel
theorem dX0_countChoices_15 : decode cX0_countChoices 15 = .ok (.iload_n 0, 1) := by decide +kernel
theorem dX0_countChoices_16 : decode cX0_countChoices 16 = .ok (.iand, 1) := by decide +kernel
theorem dX0_countChoices_17 : decode cX0_countChoices 17 = .ok (.ifCond .ne 6, 3) := by decide +kernel
theorem dX0_countChoices_20 : decode cX0_countChoices 20 = .ok (.iinc 3 1, 3) := by decide +kernel
theorem dX0_countChoices_23 : decode cX0_countChoices 23 = .ok (.iinc 4 1, 3) := by decide +kernel
theorem dX0_countChoices_26 : decode cX0_countChoices 26 = .ok (.goto (-21), 3) := by decide +kernel
theorem dX0_countChoices_29 : decode cX0_countChoices 29 = .ok (.iload_n 3, 1) := by decide +kernel
theorem dX0_countChoices_30 : decode cX0_countChoices 30 = .ok (.ireturn, 1) := by decide +kernel
theorem dX0_spellOut_0 : decode cX0_spellOut 0 = .ok (.iload_n 2, 1) := by decide +kernel
theorem dX0_spellOut_1 : decode cX0_spellOut 1 = .ok (.istore_n 3, 1) := by decide +kernel
theorem dX0_spellOut_2 : decode cX0_spellOut 2 = .ok (.iconst 0, 1) := by decide +kernel
theorem dX0_spellOut_3 : decode cX0_spellOut 3 = .ok (.istore 4, 2) := by decide +kernel
theorem dX0_spellOut_5 : decode cX0_spellOut 5 = .ok (.iload 4, 2) := by decide +kernel
theorem dX0_spellOut_7 : decode cX0_spellOut 7 = .ok (.aload_n 1, 1) := by decide +kernel
theorem dX0_spellOut_8 : decode cX0_spellOut 8 = .ok (.getfield 53, 3) := by decide +kernel
theorem dX0_spellOut_11 : decode cX0_spellOut 11 = .ok (.if_icmp .ge 63, 3) := by decide +kernel
theorem dX0_spellOut_14 : decode cX0_spellOut 14 = .ok (.aload_n 1, 1) := by decide +kernel
theorem dX0_spellOut_15 : decode cX0_spellOut 15 = .ok (.iload 4, 2) := by decide +kernel
theorem dX0_spellOut_17 : decode cX0_spellOut 17 = .ok (.invokevirtual 38, 3) := by decide +kernel
theorem dX0_spellOut_20 : decode cX0_spellOut 20 = .ok (.ifCond .ne 11, 3) := by decide +kernel
theorem dX0_spellOut_23 : decode cX0_spellOut 23 = .ok (.aload_n 1, 1) := by decide +kernel
theorem dX0_spellOut_24 : decode cX0_spellOut 24 = .ok (.getfield 45, 3) := by decide +kernel
theorem dX0_spellOut_27 : decode cX0_spellOut 27 = .ok (.iconst 1, 1) := by decide +kernel
theorem dX0_spellOut_28 : decode cX0_spellOut 28 = .ok (.if_icmp .ge 20, 3) := by decide +kernel
theorem dX0_spellOut_31 : decode cX0_spellOut 31 = .ok (.aload_n 0, 1) := by decide +kernel
theorem dX0_spellOut_32 : decode cX0_spellOut 32 = .ok (.getfield 15, 3) := by decide +kernel
theorem dX0_spellOut_35 : decode cX0_spellOut 35 = .ok (.iload 4, 2) := by decide +kernel
theorem dX0_spellOut_37 : decode cX0_spellOut 37 = .ok (.aload_n 1, 1) := by decide +kernel
theorem dX0_spellOut_38 : decode cX0_spellOut 38 = .ok (.getfield 64, 3) := by decide +kernel
theorem dX0_spellOut_41 : decode cX0_spellOut 41 = .ok (.iload 4, 2) := by decide +kernel
theorem dX0_spellOut_43 : decode cX0_spellOut 43 = .ok (.iaload, 1) := by decide +kernel
theorem dX0_spellOut_44 : decode cX0_spellOut 44 = .ok (.iastore, 1) := by decide +kernel
theorem dX0_spellOut_45 : decode cX0_spellOut 45 = .ok (.goto 23, 3) := by decide +kernel
theorem dX0_spellOut_48 : decode cX0_spellOut 48 = .ok (.aload_n 0, 1) := by decide +kernel
theorem dX0_spellOut_49 : decode cX0_spellOut 49 = .ok (.getfield 15, 3) := by decide +kernel
theorem dX0_spellOut_52 : decode cX0_spellOut 52 = .ok (.iload 4, 2) := by decide +kernel
theorem dX0_spellOut_54 : decode cX0_spellOut 54 = .ok (.iload_n 3, 1) := by decide +kernel
theorem dX0_spellOut_55 : decode cX0_spellOut 55 = .ok (.aload_n 1, 1) := by decide +kernel
theorem dX0_spellOut_56 : decode cX0_spellOut 56 = .ok (.getfield 45, 3) := by decide +kernel
theorem dX0_spellOut_59 : decode cX0_spellOut 59 = .ok (.irem, 1) := by decide +kernel
theorem dX0_spellOut_60 : decode cX0_spellOut 60 = .ok (.iastore, 1) := by decide +kernel
theorem dX0_spellOut_61 : decode cX0_spellOut 61 = .ok (.iload_n 3, 1) := by decide +kernel
theorem dX0_spellOut_62 : decode cX0_spellOut 62 = .ok (.aload_n 1, 1) := by decide +kernel
theorem dX0_spellOut_63 : decode cX0_spellOut 63 = .ok (.getfield 45, 3) := by decide +kernel
theorem dX0_spellOut_66 : decode cX0_spellOut 66 = .ok (.idiv, 1) := by decide +kernel
theorem dX0_spellOut_67 : decode cX0_spellOut 67 = .ok (.istore_n 3, 1) := by decide +kernel
theorem dX0_spellOut_68 : decode cX0_spellOut 68 = .ok (.iinc 4 1, 3) := by decide +kernel
theorem dX0_spellOut_71 : decode cX0_spellOut 71 = .ok (.goto (-66), 3) := by decide +kernel
theorem dX0_spellOut_74 : decode cX0_spellOut 74 = .ok (.return_, 1) := by decide +kernel
theorem dX0_isWay_0 : decode cX0_isWay 0 = .ok (.iconst 0, 1) := by decide +kernel
theorem dX0_isWay_1 : decode cX0_isWay 1 = .ok (.istore_n 2, 1) := by decide +kernel
theorem dX0_isWay_2 : decode cX0_isWay 2 = .ok (.iload_n 2, 1) := by decide +kernel
theorem dX0_isWay_3 : decode cX0_isWay 3 = .ok (.aload_n 1, 1) := by decide +kernel
theorem dX0_isWay_4 : decode cX0_isWay 4 = .ok (.getfield 53, 3) := by decide +kernel
theorem dX0_isWay_7 : decode cX0_isWay 7 = .ok (.if_icmp .ge 48, 3) := by decide +kernel
theorem dX0_isWay_10 : decode cX0_isWay 10 = .ok (.iconst 0, 1) := by decide +kernel
theorem dX0_isWay_11 : decode cX0_isWay 11 = .ok (.istore_n 3, 1) := by decide +kernel
theorem dX0_isWay_12 : decode cX0_isWay 12 = .ok (.iload_n 3, 1) := by decide +kernel
theorem dX0_isWay_13 : decode cX0_isWay 13 = .ok (.iload_n 2, 1) := by decide +kernel
theorem dX0_isWay_14 : decode cX0_isWay 14 = .ok (.if_icmp .ge 35, 3) := by decide +kernel
theorem dX0_isWay_17 : decode cX0_isWay 17 = .ok (.aload_n 1, 1) := by decide +kernel
theorem dX0_isWay_18 : decode cX0_isWay 18 = .ok (.iload_n 2, 1) := by decide +kernel
theorem dX0_isWay_19 : decode cX0_isWay 19 = .ok (.iload_n 3, 1) := by decide +kernel
theorem dX0_isWay_20 : decode cX0_isWay 20 = .ok (.invokevirtual 71, 3) := by decide +kernel
theorem dX0_isWay_23 : decode cX0_isWay 23 = .ok (.ifCond .eq 20, 3) := by decide +kernel
theorem dX0_isWay_26 : decode cX0_isWay 26 = .ok (.aload_n 0, 1) := by decide +kernel
theorem dX0_isWay_27 : decode cX0_isWay 27 = .ok (.getfield 15, 3) := by decide +kernel
theorem dX0_isWay_30 : decode cX0_isWay 30 = .ok (.iload_n 2, 1) := by decide +kernel
theorem dX0_isWay_31 : decode cX0_isWay 31 = .ok (.iaload, 1) := by decide +kernel
theorem dX0_isWay_32 : decode cX0_isWay 32 = .ok (.aload_n 0, 1) := by decide +kernel
theorem dX0_isWay_33 : decode cX0_isWay 33 = .ok (.getfield 15, 3) := by decide +kernel
theorem dX0_isWay_36 : decode cX0_isWay 36 = .ok (.iload_n 3, 1) := by decide +kernel
theorem dX0_isWay_37 : decode cX0_isWay 37 = .ok (.iaload, 1) := by decide +kernel
theorem dX0_isWay_38 : decode cX0_isWay 38 = .ok (.if_icmp .ne 5, 3) := by decide +kernel
theorem dX0_isWay_41 : decode cX0_isWay 41 = .ok (.iconst 0, 1) := by decide +kernel
theorem dX0_isWay_42 : decode cX0_isWay 42 = .ok (.ireturn, 1) := by decide +kernel
theorem dX0_isWay_43 : decode cX0_isWay 43 = .ok (.iinc 3 1, 3) := by decide +kernel
theorem dX0_isWay_46 : decode cX0_isWay 46 = .ok (.goto (-34), 3) := by decide +kernel
theorem dX0_isWay_49 : decode cX0_isWay 49 = .ok (.iinc 2 1, 3) := by decide +kernel
theorem dX0_isWay_52 : decode cX0_isWay 52 = .ok (.goto (-50), 3) := by decide +kernel
theorem dX0_isWay_55 : decode cX0_isWay 55 = .ok (.iconst 1, 1) := by decide +kernel
theorem dX0_isWay_56 : decode cX0_isWay 56 = .ok (.ireturn, 1) := by decide +kernel
theorem dX1_init_0 : decode cX1_init 0 = .ok (.aload_n 0, 1) := by decide +kernel
theorem dX1_init_1 : decode cX1_init 1 = .ok (.invokespecial 3, 3) := by decide +kernel
theorem dX1_init_4 : decode cX1_init 4 = .ok (.aload_n 0, 1) := by decide +kernel
theorem dX1_init_5 : decode cX1_init 5 = .ok (.bipush 7, 2) := by decide +kernel
theorem dX1_init_7 : decode cX1_init 7 = .ok (.newarray .int, 2) := by decide +kernel
theorem dX1_init_9 : decode cX1_init 9 = .ok (.putfield 9, 3) := by decide +kernel
theorem dX1_init_12 : decode cX1_init 12 = .ok (.aload_n 0, 1) := by decide +kernel
theorem dX1_init_13 : decode cX1_init 13 = .ok (.bipush 7, 2) := by decide +kernel
theorem dX1_init_15 : decode cX1_init 15 = .ok (.newarray .int, 2) := by decide +kernel
theorem dX1_init_17 : decode cX1_init 17 = .ok (.putfield 15, 3) := by decide +kernel
theorem dX1_init_20 : decode cX1_init 20 = .ok (.aload_n 0, 1) := by decide +kernel
theorem dX1_init_21 : decode cX1_init 21 = .ok (.bipush 7, 2) := by decide +kernel
theorem dX1_init_23 : decode cX1_init 23 = .ok (.newarray .int, 2) := by decide +kernel
theorem dX1_init_25 : decode cX1_init 25 = .ok (.putfield 18, 3) := by decide +kernel
theorem dX1_init_28 : decode cX1_init 28 = .ok (.aload_n 0, 1) := by decide +kernel
theorem dX1_init_29 : decode cX1_init 29 = .ok (.bipush 7, 2) := by decide +kernel
theorem dX1_init_31 : decode cX1_init 31 = .ok (.newarray .int, 2) := by decide +kernel
theorem dX1_init_33 : decode cX1_init 33 = .ok (.putfield 21, 3) := by decide +kernel
theorem dX1_init_36 : decode cX1_init 36 = .ok (.aload_n 0, 1) := by decide +kernel
theorem dX1_init_37 : decode cX1_init 37 = .ok (.bipush 7, 2) := by decide +kernel
theorem dX1_init_39 : decode cX1_init 39 = .ok (.newarray .int, 2) := by decide +kernel
theorem dX1_init_41 : decode cX1_init 41 = .ok (.putfield 24, 3) := by decide +kernel
theorem dX1_init_44 : decode cX1_init 44 = .ok (.aload_n 0, 1) := by decide +kernel
theorem dX1_init_45 : decode cX1_init 45 = .ok (.bipush 7, 2) := by decide +kernel
theorem dX1_init_47 : decode cX1_init 47 = .ok (.newarray .int, 2) := by decide +kernel
theorem dX1_init_49 : decode cX1_init 49 = .ok (.putfield 27, 3) := by decide +kernel
theorem dX1_init_52 : decode cX1_init 52 = .ok (.aload_n 0, 1) := by decide +kernel
theorem dX1_init_53 : decode cX1_init 53 = .ok (.iconst 5, 1) := by decide +kernel
theorem dX1_init_54 : decode cX1_init 54 = .ok (.newarray .int, 2) := by decide +kernel
theorem dX1_init_56 : decode cX1_init 56 = .ok (.putfield 30, 3) := by decide +kernel
theorem dX1_init_59 : decode cX1_init 59 = .ok (.aload_n 0, 1) := by decide +kernel
theorem dX1_init_60 : decode cX1_init 60 = .ok (.iconst 5, 1) := by decide +kernel
theorem dX1_init_61 : decode cX1_init 61 = .ok (.newarray .int, 2) := by decide +kernel
theorem dX1_init_63 : decode cX1_init 63 = .ok (.putfield 33, 3) := by decide +kernel
theorem dX1_init_66 : decode cX1_init 66 = .ok (.aload_n 0, 1) := by decide +kernel
theorem dX1_init_67 : decode cX1_init 67 = .ok (.iconst 0, 1) := by decide +kernel
theorem dX1_init_68 : decode cX1_init 68 = .ok (.putfield 36, 3) := by decide +kernel
theorem dX1_init_71 : decode cX1_init 71 = .ok (.aload_n 0, 1) := by decide +kernel
theorem dX1_init_72 : decode cX1_init 72 = .ok (.iconst 3, 1) := by decide +kernel
theorem dX1_init_73 : decode cX1_init 73 = .ok (.putfield 40, 3) := by decide +kernel
theorem dX1_init_76 : decode cX1_init 76 = .ok (.aload_n 0, 1) := by decide +kernel
theorem dX1_init_77 : decode cX1_init 77 = .ok (.iconst 0, 1) := by decide +kernel
theorem dX1_init_78 : decode cX1_init 78 = .ok (.putfield 43, 3) := by decide +kernel
theorem dX1_init_81 : decode cX1_init 81 = .ok (.aload_n 0, 1) := by decide +kernel
theorem dX1_init_82 : decode cX1_init 82 = .ok (.iconst 0, 1) := by decide +kernel
theorem dX1_init_83 : decode cX1_init 83 = .ok (.putfield 46, 3) := by decide +kernel
theorem dX1_init_86 : decode cX1_init 86 = .ok (.iconst 0, 1) := by decide +kernel
theorem dX1_init_87 : decode cX1_init 87 = .ok (.istore_n 1, 1) := by decide +kernel
theorem dX1_init_88 : decode cX1_init 88 = .ok (.iload_n 1, 1) := by decide +kernel
theorem dX1_init_89 : decode cX1_init 89 = .ok (.iconst 5, 1) := by decide +kernel
theorem dX1_init_90 : decode cX1_init 90 = .ok (.if_icmp .ge 17, 3) := by decide +kernel
theorem dX1_init_93 : decode cX1_init 93 = .ok (.aload_n 0, 1) := by decide +kernel
theorem dX1_init_94 : decode cX1_init 94 = .ok (.getfield 30, 3) := by decide +kernel
theorem dX1_init_97 : decode cX1_init 97 = .ok (.iload_n 1, 1) := by decide +kernel
theorem dX1_init_98 : decode cX1_init 98 = .ok (.bipush 9, 2) := by decide +kernel
theorem dX1_init_100 : decode cX1_init 100 = .ok (.iastore, 1) := by decide +kernel
theorem dX1_init_101 : decode cX1_init 101 = .ok (.iinc 1 1, 3) := by decide +kernel
theorem dX1_init_104 : decode cX1_init 104 = .ok (.goto (-16), 3) := by decide +kernel
theorem dX1_init_107 : decode cX1_init 107 = .ok (.return_, 1) := by decide +kernel
theorem dX1_copyFrom_0 : decode cX1_copyFrom 0 = .ok (.aload_n 1, 1) := by decide +kernel
theorem dX1_copyFrom_1 : decode cX1_copyFrom 1 = .ok (.getfield 9, 3) := by decide +kernel
theorem dX1_copyFrom_4 : decode cX1_copyFrom 4 = .ok (.iconst 0, 1) := by decide +kernel
theorem dX1_copyFrom_5 : decode cX1_copyFrom 5 = .ok (.aload_n 0, 1) := by decide +kernel
theorem dX1_copyFrom_6 : decode cX1_copyFrom 6 = .ok (.getfield 9, 3) := by decide +kernel
theorem dX1_copyFrom_9 : decode cX1_copyFrom 9 = .ok (.iconst 0, 1) := by decide +kernel
theorem dX1_copyFrom_10 : decode cX1_copyFrom 10 = .ok (.bipush 7, 2) := by decide +kernel
theorem dX1_copyFrom_12 : decode cX1_copyFrom 12 = .ok (.invokestatic 49, 3) := by decide +kernel
theorem dX1_copyFrom_15 : decode cX1_copyFrom 15 = .ok (.aload_n 1, 1) := by decide +kernel
theorem dX1_copyFrom_16 : decode cX1_copyFrom 16 = .ok (.getfield 15, 3) := by decide +kernel
theorem dX1_copyFrom_19 : decode cX1_copyFrom 19 = .ok (.iconst 0, 1) := by decide +kernel
theorem dX1_copyFrom_20 : decode cX1_copyFrom 20 = .ok (.aload_n 0, 1) := by decide +kernel
theorem dX1_copyFrom_21 : decode cX1_copyFrom 21 = .ok (.getfield 15, 3) := by decide +kernel
theorem dX1_copyFrom_24 : decode cX1_copyFrom 24 = .ok (.iconst 0, 1) := by decide +kernel
theorem dX1_copyFrom_25 : decode cX1_copyFrom 25 = .ok (.bipush 7, 2) := by decide +kernel
theorem dX1_copyFrom_27 : decode cX1_copyFrom 27 = .ok (.invokestatic 49, 3) := by decide +kernel
theorem dX1_copyFrom_30 : decode cX1_copyFrom 30 = .ok (.aload_n 1, 1) := by decide +kernel
theorem dX1_copyFrom_31 : decode cX1_copyFrom 31 = .ok (.getfield 18, 3) := by decide +kernel
theorem dX1_copyFrom_34 : decode cX1_copyFrom 34 = .ok (.iconst 0, 1) := by decide +kernel
theorem dX1_copyFrom_35 : decode cX1_copyFrom 35 = .ok (.aload_n 0, 1) := by decide +kernel
theorem dX1_copyFrom_36 : decode cX1_copyFrom 36 = .ok (.getfield 18, 3) := by decide +kernel
theorem dX1_copyFrom_39 : decode cX1_copyFrom 39 = .ok (.iconst 0, 1) := by decide +kernel
theorem dX1_copyFrom_40 : decode cX1_copyFrom 40 = .ok (.bipush 7, 2) := by decide +kernel
theorem dX1_copyFrom_42 : decode cX1_copyFrom 42 = .ok (.invokestatic 49, 3) := by decide +kernel
theorem dX1_copyFrom_45 : decode cX1_copyFrom 45 = .ok (.aload_n 1, 1) := by decide +kernel
theorem dX1_copyFrom_46 : decode cX1_copyFrom 46 = .ok (.getfield 21, 3) := by decide +kernel
theorem dX1_copyFrom_49 : decode cX1_copyFrom 49 = .ok (.iconst 0, 1) := by decide +kernel
theorem dX1_copyFrom_50 : decode cX1_copyFrom 50 = .ok (.aload_n 0, 1) := by decide +kernel
theorem dX1_copyFrom_51 : decode cX1_copyFrom 51 = .ok (.getfield 21, 3) := by decide +kernel
theorem dX1_copyFrom_54 : decode cX1_copyFrom 54 = .ok (.iconst 0, 1) := by decide +kernel
theorem dX1_copyFrom_55 : decode cX1_copyFrom 55 = .ok (.bipush 7, 2) := by decide +kernel
theorem dX1_copyFrom_57 : decode cX1_copyFrom 57 = .ok (.invokestatic 49, 3) := by decide +kernel
theorem dX1_copyFrom_60 : decode cX1_copyFrom 60 = .ok (.aload_n 1, 1) := by decide +kernel
theorem dX1_copyFrom_61 : decode cX1_copyFrom 61 = .ok (.getfield 24, 3) := by decide +kernel
theorem dX1_copyFrom_64 : decode cX1_copyFrom 64 = .ok (.iconst 0, 1) := by decide +kernel
theorem dX1_copyFrom_65 : decode cX1_copyFrom 65 = .ok (.aload_n 0, 1) := by decide +kernel
theorem dX1_copyFrom_66 : decode cX1_copyFrom 66 = .ok (.getfield 24, 3) := by decide +kernel
theorem dX1_copyFrom_69 : decode cX1_copyFrom 69 = .ok (.iconst 0, 1) := by decide +kernel
theorem dX1_copyFrom_70 : decode cX1_copyFrom 70 = .ok (.bipush 7, 2) := by decide +kernel
theorem dX1_copyFrom_72 : decode cX1_copyFrom 72 = .ok (.invokestatic 49, 3) := by decide +kernel
theorem dX1_copyFrom_75 : decode cX1_copyFrom 75 = .ok (.aload_n 1, 1) := by decide +kernel
theorem dX1_copyFrom_76 : decode cX1_copyFrom 76 = .ok (.getfield 27, 3) := by decide +kernel
theorem dX1_copyFrom_79 : decode cX1_copyFrom 79 = .ok (.iconst 0, 1) := by decide +kernel
theorem dX1_copyFrom_80 : decode cX1_copyFrom 80 = .ok (.aload_n 0, 1) := by decide +kernel
theorem dX1_copyFrom_81 : decode cX1_copyFrom 81 = .ok (.getfield 27, 3) := by decide +kernel
theorem dX1_copyFrom_84 : decode cX1_copyFrom 84 = .ok (.iconst 0, 1) := by decide +kernel
theorem dX1_copyFrom_85 : decode cX1_copyFrom 85 = .ok (.bipush 7, 2) := by decide +kernel
theorem dX1_copyFrom_87 : decode cX1_copyFrom 87 = .ok (.invokestatic 49, 3) := by decide +kernel
theorem dX1_copyFrom_90 : decode cX1_copyFrom 90 = .ok (.aload_n 1, 1) := by decide +kernel
theorem dX1_copyFrom_91 : decode cX1_copyFrom 91 = .ok (.getfield 30, 3) := by decide +kernel
theorem dX1_copyFrom_94 : decode cX1_copyFrom 94 = .ok (.iconst 0, 1) := by decide +kernel
theorem dX1_copyFrom_95 : decode cX1_copyFrom 95 = .ok (.aload_n 0, 1) := by decide +kernel
theorem dX1_copyFrom_96 : decode cX1_copyFrom 96 = .ok (.getfield 30, 3) := by decide +kernel
theorem dX1_copyFrom_99 : decode cX1_copyFrom 99 = .ok (.iconst 0, 1) := by decide +kernel
theorem dX1_copyFrom_100 : decode cX1_copyFrom 100 = .ok (.iconst 5, 1) := by decide +kernel
theorem dX1_copyFrom_101 : decode cX1_copyFrom 101 = .ok (.invokestatic 49, 3) := by decide +kernel
theorem dX1_copyFrom_104 : decode cX1_copyFrom 104 = .ok (.aload_n 1, 1) := by decide +kernel
theorem dX1_copyFrom_105 : decode cX1_copyFrom 105 = .ok (.getfield 33, 3) := by decide +kernel
theorem dX1_copyFrom_108 : decode cX1_copyFrom 108 = .ok (.iconst 0, 1) := by decide +kernel
theorem dX1_copyFrom_109 : decode cX1_copyFrom 109 = .ok (.aload_n 0, 1) := by decide +kernel
theorem dX1_copyFrom_110 : decode cX1_copyFrom 110 = .ok (.getfield 33, 3) := by decide +kernel
theorem dX1_copyFrom_113 : decode cX1_copyFrom 113 = .ok (.iconst 0, 1) := by decide +kernel
theorem dX1_copyFrom_114 : decode cX1_copyFrom 114 = .ok (.iconst 5, 1) := by decide +kernel
theorem dX1_copyFrom_115 : decode cX1_copyFrom 115 = .ok (.invokestatic 49, 3) := by decide +kernel
theorem dX1_copyFrom_118 : decode cX1_copyFrom 118 = .ok (.aload_n 0, 1) := by decide +kernel
theorem dX1_copyFrom_119 : decode cX1_copyFrom 119 = .ok (.aload_n 1, 1) := by decide +kernel
theorem dX1_copyFrom_120 : decode cX1_copyFrom 120 = .ok (.getfield 36, 3) := by decide +kernel
theorem dX1_copyFrom_123 : decode cX1_copyFrom 123 = .ok (.putfield 36, 3) := by decide +kernel
theorem dX1_copyFrom_126 : decode cX1_copyFrom 126 = .ok (.aload_n 0, 1) := by decide +kernel
theorem dX1_copyFrom_127 : decode cX1_copyFrom 127 = .ok (.aload_n 1, 1) := by decide +kernel
theorem dX1_copyFrom_128 : decode cX1_copyFrom 128 = .ok (.getfield 40, 3) := by decide +kernel
theorem dX1_copyFrom_131 : decode cX1_copyFrom 131 = .ok (.putfield 40, 3) := by decide +kernel
theorem dX1_copyFrom_134 : decode cX1_copyFrom 134 = .ok (.aload_n 0, 1) := by decide +kernel
theorem dX1_copyFrom_135 : decode cX1_copyFrom 135 = .ok (.aload_n 1, 1) := by decide +kernel
theorem dX1_copyFrom_136 : decode cX1_copyFrom 136 = .ok (.getfield 43, 3) := by decide +kernel
theorem dX1_copyFrom_139 : decode cX1_copyFrom 139 = .ok (.putfield 43, 3) := by decide +kernel
theorem dX1_copyFrom_142 : decode cX1_copyFrom 142 = .ok (.aload_n 0, 1) := by decide +kernel
theorem dX1_copyFrom_143 : decode cX1_copyFrom 143 = .ok (.aload_n 1, 1) := by decide +kernel
theorem dX1_copyFrom_144 : decode cX1_copyFrom 144 = .ok (.getfield 46, 3) := by decide +kernel
theorem dX1_copyFrom_147 : decode cX1_copyFrom 147 = .ok (.putfield 46, 3) := by decide +kernel
theorem dX1_copyFrom_150 : decode cX1_copyFrom 150 = .ok (.return_, 1) := by decide +kernel
theorem dX1_reasonAgainstCountry_0 : decode cX1_reasonAgainstCountry 0 = .ok (.aload_n 0, 1) := by decide +kernel
theorem dX1_reasonAgainstCountry_1 : decode cX1_reasonAgainstCountry 1 = .ok (.getfield 36, 3) := by decide +kernel
theorem dX1_reasonAgainstCountry_4 : decode cX1_reasonAgainstCountry 4 = .ok (.bipush 7, 2) := by decide +kernel
theorem dX1_reasonAgainstCountry_6 : decode cX1_reasonAgainstCountry 6 = .ok (.if_icmp .lt 7, 3) := by decide +kernel
theorem dX1_reasonAgainstCountry_9 : decode cX1_reasonAgainstCountry 9 = .ok (.iconst 1, 1) := by decide +kernel
theorem dX1_reasonAgainstCountry_10 : decode cX1_reasonAgainstCountry 10 = .ok (.goto 4, 3) := by decide +kernel
theorem dX1_reasonAgainstCountry_13 : decode cX1_reasonAgainstCountry 13 = .ok (.iconst 0, 1) := by decide +kernel
theorem dX1_reasonAgainstCountry_14 : decode cX1_reasonAgainstCountry 14 = .ok (.ireturn, 1) := by decide +kernel
theorem dX1_reasonAgainstBorder_0 : decode cX1_reasonAgainstBorder 0 = .ok (.iload_n 1, 1) := by decide +kernel
theorem dX1_reasonAgainstBorder_1 : decode cX1_reasonAgainstBorder 1 = .ok (.iload_n 2, 1) := by decide +kernel
theorem dX1_reasonAgainstBorder_2 : decode cX1_reasonAgainstBorder 2 = .ok (.if_icmp .ne 5, 3) := by decide +kernel
theorem dX1_reasonAgainstBorder_5 : decode cX1_reasonAgainstBorder 5 = .ok (.iconst 5, 1) := by decide +kernel
theorem dX1_reasonAgainstBorder_6 : decode cX1_reasonAgainstBorder 6 = .ok (.ireturn, 1) := by decide +kernel
theorem dX1_reasonAgainstBorder_7 : decode cX1_reasonAgainstBorder 7 = .ok (.aload_n 0, 1) := by decide +kernel
theorem dX1_reasonAgainstBorder_8 : decode cX1_reasonAgainstBorder 8 = .ok (.iload_n 1, 1) := by decide +kernel
theorem dX1_reasonAgainstBorder_9 : decode cX1_reasonAgainstBorder 9 = .ok (.iload_n 2, 1) := by decide +kernel
theorem dX1_reasonAgainstBorder_10 : decode cX1_reasonAgainstBorder 10 = .ok (.invokevirtual 55, 3) := by decide +kernel
theorem dX1_reasonAgainstBorder_13 : decode cX1_reasonAgainstBorder 13 = .ok (.ifCond .eq 6, 3) := by decide +kernel
theorem dX1_reasonAgainstBorder_16 : decode cX1_reasonAgainstBorder 16 = .ok (.bipush 6, 2) := by decide +kernel
theorem dX1_reasonAgainstBorder_18 : decode cX1_reasonAgainstBorder 18 = .ok (.ireturn, 1) := by decide +kernel
theorem dX1_reasonAgainstBorder_19 : decode cX1_reasonAgainstBorder 19 = .ok (.aload_n 0, 1) := by decide +kernel
theorem dX1_reasonAgainstBorder_20 : decode cX1_reasonAgainstBorder 20 = .ok (.iload_n 1, 1) := by decide +kernel
theorem dX1_reasonAgainstBorder_21 : decode cX1_reasonAgainstBorder 21 = .ok (.invokevirtual 59, 3) := by decide +kernel
theorem dX1_reasonAgainstBorder_24 : decode cX1_reasonAgainstBorder 24 = .ok (.ifCond .eq 21, 3) := by decide +kernel
theorem dX1_reasonAgainstBorder_27 : decode cX1_reasonAgainstBorder 27 = .ok (.aload_n 0, 1) := by decide +kernel
theorem dX1_reasonAgainstBorder_28 : decode cX1_reasonAgainstBorder 28 = .ok (.getfield 15, 3) := by decide +kernel
theorem dX1_reasonAgainstBorder_31 : decode cX1_reasonAgainstBorder 31 = .ok (.iload_n 1, 1) := by decide +kernel
theorem dX1_reasonAgainstBorder_32 : decode cX1_reasonAgainstBorder 32 = .ok (.iaload, 1) := by decide +kernel
theorem dX1_reasonAgainstBorder_33 : decode cX1_reasonAgainstBorder 33 = .ok (.aload_n 0, 1) := by decide +kernel
theorem dX1_reasonAgainstBorder_34 : decode cX1_reasonAgainstBorder 34 = .ok (.getfield 15, 3) := by decide +kernel
theorem dX1_reasonAgainstBorder_37 : decode cX1_reasonAgainstBorder 37 = .ok (.iload_n 2, 1) := by decide +kernel
theorem dX1_reasonAgainstBorder_38 : decode cX1_reasonAgainstBorder 38 = .ok (.iaload, 1) := by decide +kernel
theorem dX1_reasonAgainstBorder_39 : decode cX1_reasonAgainstBorder 39 = .ok (.if_icmp .ne 6, 3) := by decide +kernel
theorem dX1_reasonAgainstBorder_42 : decode cX1_reasonAgainstBorder 42 = .ok (.bipush 7, 2) := by decide +kernel
theorem dX1_reasonAgainstBorder_44 : decode cX1_reasonAgainstBorder 44 = .ok (.ireturn, 1) := by decide +kernel
theorem dX1_reasonAgainstBorder_45 : decode cX1_reasonAgainstBorder 45 = .ok (.iconst 0, 1) := by decide +kernel
theorem dX1_reasonAgainstBorder_46 : decode cX1_reasonAgainstBorder 46 = .ok (.ireturn, 1) := by decide +kernel
theorem dX1_reasonAgainstErasing_0 : decode cX1_reasonAgainstErasing 0 = .ok (.iload_n 1, 1) := by decide +kernel
theorem dX1_reasonAgainstErasing_1 : decode cX1_reasonAgainstErasing 1 = .ok (.iload_n 2, 1) := by decide +kernel
theorem dX1_reasonAgainstErasing_2 : decode cX1_reasonAgainstErasing 2 = .ok (.if_icmp .ne 5, 3) := by decide +kernel
theorem dX1_reasonAgainstErasing_5 : decode cX1_reasonAgainstErasing 5 = .ok (.iconst 5, 1) := by decide +kernel
theorem dX1_reasonAgainstErasing_6 : decode cX1_reasonAgainstErasing 6 = .ok (.ireturn, 1) := by decide +kernel
theorem dX1_reasonAgainstErasing_7 : decode cX1_reasonAgainstErasing 7 = .ok (.aload_n 0, 1) := by decide +kernel
theorem dX1_reasonAgainstErasing_8 : decode cX1_reasonAgainstErasing 8 = .ok (.iload_n 1, 1) := by decide +kernel
theorem dX1_reasonAgainstErasing_9 : decode cX1_reasonAgainstErasing 9 = .ok (.iload_n 2, 1) := by decide +kernel
theorem dX1_reasonAgainstErasing_10 : decode cX1_reasonAgainstErasing 10 = .ok (.invokevirtual 55, 3) := by decide +kernel
theorem dX1_reasonAgainstErasing_13 : decode cX1_reasonAgainstErasing 13 = .ok (.ifCond .eq 7, 3) := by decide +kernel
theorem dX1_reasonAgainstErasing_16 : decode cX1_reasonAgainstErasing 16 = .ok (.iconst 0, 1) := by decide +kernel
theorem dX1_reasonAgainstErasing_17 : decode cX1_reasonAgainstErasing 17 = .ok (.goto 5, 3) := by decide +kernel
theorem dX1_reasonAgainstErasing_20 : decode cX1_reasonAgainstErasing 20 = .ok (.bipush 6, 2) := by decide +kernel
theorem dX1_reasonAgainstErasing_22 : decode cX1_reasonAgainstErasing 22 = .ok (.ireturn, 1) := by decide +kernel
theorem dX1_reasonAgainstHues_0 : decode cX1_reasonAgainstHues 0 = .ok (.aload_n 0, 1) := by decide +kernel
theorem dX1_reasonAgainstHues_1 : decode cX1_reasonAgainstHues 1 = .ok (.iload_n 1, 1) := by decide +kernel
theorem dX1_reasonAgainstHues_2 : decode cX1_reasonAgainstHues 2 = .ok (.invokevirtual 63, 3) := by decide +kernel
theorem dX1_reasonAgainstHues_5 : decode cX1_reasonAgainstHues 5 = .ok (.iconst (-1), 1) := by decide +kernel
theorem dX1_reasonAgainstHues_6 : decode cX1_reasonAgainstHues 6 = .ok (.if_icmp .ne 7, 3) := by decide +kernel
theorem dX1_reasonAgainstHues_9 : decode cX1_reasonAgainstHues 9 = .ok (.iconst 0, 1) := by decide +kernel
theorem dX1_reasonAgainstHues_10 : decode cX1_reasonAgainstHues 10 = .ok (.goto 5, 3) := by decide +kernel
theorem dX1_reasonAgainstHues_13 : decode cX1_reasonAgainstHues 13 = .ok (.bipush 9, 2) := by decide +kernel
theorem dX1_reasonAgainstHues_15 : decode cX1_reasonAgainstHues 15 = .ok (.ireturn, 1) := by decide +kernel
theorem dX1_reasonAgainstPaint_0 : decode cX1_reasonAgainstPaint 0 = .ok (.aload_n 0, 1) := by decide +kernel
theorem dX1_reasonAgainstPaint_1 : decode cX1_reasonAgainstPaint 1 = .ok (.iload_n 1, 1) := by decide +kernel
theorem dX1_reasonAgainstPaint_2 : decode cX1_reasonAgainstPaint 2 = .ok (.invokevirtual 59, 3) := by decide +kernel
theorem dX1_reasonAgainstPaint_5 : decode cX1_reasonAgainstPaint 5 = .ok (.ifCond .eq 5, 3) := by decide +kernel
theorem dX1_reasonAgainstPaint_8 : decode cX1_reasonAgainstPaint 8 = .ok (.iconst 2, 1) := by decide +kernel
theorem dX1_reasonAgainstPaint_9 : decode cX1_reasonAgainstPaint 9 = .ok (.ireturn, 1) := by decide +kernel
theorem dX1_reasonAgainstPaint_10 : decode cX1_reasonAgainstPaint 10 = .ok (.iload_n 2, 1) := by decide +kernel
theorem dX1_reasonAgainstPaint_11 : decode cX1_reasonAgainstPaint 11 = .ok (.aload_n 0, 1) := by decide +kernel
theorem dX1_reasonAgainstPaint_12 : decode cX1_reasonAgainstPaint 12 = .ok (.getfield 40, 3) := by decide +kernel
theorem dX1_reasonAgainstPaint_15 : decode cX1_reasonAgainstPaint 15 = .ok (.if_icmp .lt 6, 3) := by decide +kernel
theorem dX1_reasonAgainstPaint_18 : decode cX1_reasonAgainstPaint 18 = .ok (.bipush 10, 2) := by decide +kernel
theorem dX1_reasonAgainstPaint_20 : decode cX1_reasonAgainstPaint 20 = .ok (.ireturn, 1) := by decide +kernel
theorem dX1_reasonAgainstPaint_21 : decode cX1_reasonAgainstPaint 21 = .ok (.aload_n 0, 1) := by decide +kernel
theorem dX1_reasonAgainstPaint_22 : decode cX1_reasonAgainstPaint 22 = .ok (.iload_n 1, 1) := by decide +kernel
theorem dX1_reasonAgainstPaint_23 : decode cX1_reasonAgainstPaint 23 = .ok (.iload_n 2, 1) := by decide +kernel
theorem dX1_reasonAgainstPaint_24 : decode cX1_reasonAgainstPaint 24 = .ok (.invokevirtual 67, 3) := by decide +kernel
theorem dX1_reasonAgainstPaint_27 : decode cX1_reasonAgainstPaint 27 = .ok (.iconst (-1), 1) := by decide +kernel
theorem dX1_reasonAgainstPaint_28 : decode cX1_reasonAgainstPaint 28 = .ok (.if_icmp .eq 5, 3) := by decide +kernel
theorem dX1_reasonAgainstPaint_31 : decode cX1_reasonAgainstPaint 31 = .ok (.iconst 3, 1) := by decide +kernel
theorem dX1_reasonAgainstPaint_32 : decode cX1_reasonAgainstPaint 32 = .ok (.ireturn, 1) := by decide +kernel
theorem dX1_reasonAgainstPaint_33 : decode cX1_reasonAgainstPaint 33 = .ok (.aload_n 0, 1) := by decide +kernel
theorem dX1_reasonAgainstPaint_34 : decode cX1_reasonAgainstPaint 34 = .ok (.getfield 30, 3) := by decide +kernel
theorem dX1_reasonAgainstPaint_37 : decode cX1_reasonAgainstPaint 37 = .ok (.iload_n 2, 1) := by decide +kernel
theorem dX1_reasonAgainstPaint_38 : decode cX1_reasonAgainstPaint 38 = .ok (.iaload, 1) := by decide +kernel
theorem dX1_reasonAgainstPaint_39 : decode cX1_reasonAgainstPaint 39 = .ok (.aload_n 0, 1) := by decide +kernel
theorem dX1_reasonAgainstPaint_40 : decode cX1_reasonAgainstPaint 40 = .ok (.getfield 9, 3) := by decide +kernel
theorem dX1_reasonAgainstPaint_43 : decode cX1_reasonAgainstPaint 43 = .ok (.iload_n 1, 1) := by decide +kernel
theorem dX1_reasonAgainstPaint_44 : decode cX1_reasonAgainstPaint 44 = .ok (.iaload, 1) := by decide +kernel
theorem dX1_reasonAgainstPaint_45 : decode cX1_reasonAgainstPaint 45 = .ok (.if_icmp .ge 7, 3) := by decide +kernel
theorem dX1_reasonAgainstPaint_48 : decode cX1_reasonAgainstPaint 48 = .ok (.iconst 4, 1) := by decide +kernel
theorem dX1_reasonAgainstPaint_49 : decode cX1_reasonAgainstPaint 49 = .ok (.goto 4, 3) := by decide +kernel
theorem dX1_reasonAgainstPaint_52 : decode cX1_reasonAgainstPaint 52 = .ok (.iconst 0, 1) := by decide +kernel
theorem dX1_reasonAgainstPaint_53 : decode cX1_reasonAgainstPaint 53 = .ok (.ireturn, 1) := by decide +kernel
theorem dX1_reasonAgainstBack_0 : decode cX1_reasonAgainstBack 0 = .ok (.aload_n 0, 1) := by decide +kernel
theorem dX1_reasonAgainstBack_1 : decode cX1_reasonAgainstBack 1 = .ok (.getfield 43, 3) := by decide +kernel
theorem dX1_reasonAgainstBack_4 : decode cX1_reasonAgainstBack 4 = .ok (.ifCond .ne 8, 3) := by decide +kernel
theorem dX1_reasonAgainstBack_7 : decode cX1_reasonAgainstBack 7 = .ok (.bipush 8, 2) := by decide +kernel
theorem dX1_reasonAgainstBack_9 : decode cX1_reasonAgainstBack 9 = .ok (.goto 4, 3) := by decide +kernel
theorem dX1_reasonAgainstBack_12 : decode cX1_reasonAgainstBack 12 = .ok (.iconst 0, 1) := by decide +kernel
theorem dX1_reasonAgainstBack_13 : decode cX1_reasonAgainstBack 13 = .ok (.ireturn, 1) := by decide +kernel
theorem dX1_detailOf_0 : decode cX1_detailOf 0 = .ok (.iload_n 1, 1) := by decide +kernel
theorem dX1_detailOf_1 : decode cX1_detailOf 1 = .ok (.tableswitch 105 1 10 #[55, 58, 65, 72, 86, 88, 90, 105, 97, 103], 55) := by decide +kernel
theorem dX1_detailOf_56 : decode cX1_detailOf 56 = .ok (.bipush 7, 2) := by decide +kernel
theorem dX1_detailOf_58 : decode cX1_detailOf 58 = .ok (.ireturn, 1) := by decide +kernel
theorem dX1_detailOf_59 : decode cX1_detailOf 59 = .ok (.aload_n 0, 1) := by decide +kernel
theorem dX1_detailOf_60 : decode cX1_detailOf 60 = .ok (.getfield 15, 3) := by decide +kernel
theorem dX1_detailOf_63 : decode cX1_detailOf 63 = .ok (.iload_n 2, 1) := by decide +kernel
theorem dX1_detailOf_64 : decode cX1_detailOf 64 = .ok (.iaload, 1) := by decide +kernel
theorem dX1_detailOf_65 : decode cX1_detailOf 65 = .ok (.ireturn, 1) := by decide +kernel
theorem dX1_detailOf_66 : decode cX1_detailOf 66 = .ok (.aload_n 0, 1) := by decide +kernel
theorem dX1_detailOf_67 : decode cX1_detailOf 67 = .ok (.iload_n 2, 1) := by decide +kernel
theorem dX1_detailOf_68 : decode cX1_detailOf 68 = .ok (.iload_n 3, 1) := by decide +kernel
theorem dX1_detailOf_69 : decode cX1_detailOf 69 = .ok (.invokevirtual 67, 3) := by decide +kernel
theorem dX1_detailOf_72 : decode cX1_detailOf 72 = .ok (.ireturn, 1) := by decide +kernel
theorem dX1_detailOf_73 : decode cX1_detailOf 73 = .ok (.aload_n 0, 1) := by decide +kernel
theorem dX1_detailOf_74 : decode cX1_detailOf 74 = .ok (.getfield 9, 3) := by decide +kernel
theorem dX1_detailOf_77 : decode cX1_detailOf 77 = .ok (.iload_n 2, 1) := by decide +kernel
theorem dX1_detailOf_78 : decode cX1_detailOf 78 = .ok (.iaload, 1) := by decide +kernel
theorem dX1_detailOf_79 : decode cX1_detailOf 79 = .ok (.aload_n 0, 1) := by decide +kernel
theorem dX1_detailOf_80 : decode cX1_detailOf 80 = .ok (.getfield 30, 3) := by decide +kernel
theorem dX1_detailOf_83 : decode cX1_detailOf 83 = .ok (.iload_n 3, 1) := by decide +kernel
theorem dX1_detailOf_84 : decode cX1_detailOf 84 = .ok (.iaload, 1) := by decide +kernel
theorem dX1_detailOf_85 : decode cX1_detailOf 85 = .ok (.isub, 1) := by decide +kernel
theorem dX1_detailOf_86 : decode cX1_detailOf 86 = .ok (.ireturn, 1) := by decide +kernel
theorem dX1_detailOf_87 : decode cX1_detailOf 87 = .ok (.iload_n 2, 1) := by decide +kernel
theorem dX1_detailOf_88 : decode cX1_detailOf 88 = .ok (.ireturn, 1) := by decide +kernel
theorem dX1_detailOf_89 : decode cX1_detailOf 89 = .ok (.iload_n 3, 1) := by decide +kernel
theorem dX1_detailOf_90 : decode cX1_detailOf 90 = .ok (.ireturn, 1) := by decide +kernel
theorem dX1_detailOf_91 : decode cX1_detailOf 91 = .ok (.aload_n 0, 1) := by decide +kernel
theorem dX1_detailOf_92 : decode cX1_detailOf 92 = .ok (.getfield 15, 3) := by decide +kernel
theorem dX1_detailOf_95 : decode cX1_detailOf 95 = .ok (.iload_n 2, 1) := by decide +kernel
theorem dX1_detailOf_96 : decode cX1_detailOf 96 = .ok (.iaload, 1) := by decide +kernel
theorem dX1_detailOf_97 : decode cX1_detailOf 97 = .ok (.ireturn, 1) := by decide +kernel
theorem dX1_detailOf_98 : decode cX1_detailOf 98 = .ok (.aload_n 0, 1) := by decide +kernel
theorem dX1_detailOf_99 : decode cX1_detailOf 99 = .ok (.iload_n 2, 1) := by decide +kernel
theorem dX1_detailOf_100 : decode cX1_detailOf 100 = .ok (.invokevirtual 63, 3) := by decide +kernel
theorem dX1_detailOf_103 : decode cX1_detailOf 103 = .ok (.ireturn, 1) := by decide +kernel
theorem dX1_detailOf_104 : decode cX1_detailOf 104 = .ok (.iload_n 3, 1) := by decide +kernel
theorem dX1_detailOf_105 : decode cX1_detailOf 105 = .ok (.ireturn, 1) := by decide +kernel
theorem dX1_detailOf_106 : decode cX1_detailOf 106 = .ok (.iconst 0, 1) := by decide +kernel
theorem dX1_detailOf_107 : decode cX1_detailOf 107 = .ok (.ireturn, 1) := by decide +kernel
theorem dX1_lowestNeighbourIn_0 : decode cX1_lowestNeighbourIn 0 = .ok (.iconst 0, 1) := by decide +kernel
theorem dX1_lowestNeighbourIn_1 : decode cX1_lowestNeighbourIn 1 = .ok (.istore_n 3, 1) := by decide +kernel
theorem dX1_lowestNeighbourIn_2 : decode cX1_lowestNeighbourIn 2 = .ok (.iload_n 3, 1) := by decide +kernel
theorem dX1_lowestNeighbourIn_3 : decode cX1_lowestNeighbourIn 3 = .ok (.aload_n 0, 1) := by decide +kernel
theorem dX1_lowestNeighbourIn_4 : decode cX1_lowestNeighbourIn 4 = .ok (.getfield 36, 3) := by decide +kernel
theorem dX1_lowestNeighbourIn_7 : decode cX1_lowestNeighbourIn 7 = .ok (.if_icmp .ge 30, 3) := by decide +kernel
theorem dX1_lowestNeighbourIn_10 : decode cX1_lowestNeighbourIn 10 = .ok (.aload_n 0, 1) := by decide +kernel
theorem dX1_lowestNeighbourIn_11 : decode cX1_lowestNeighbourIn 11 = .ok (.iload_n 1, 1) := by decide +kernel
theorem dX1_lowestNeighbourIn_12 : decode cX1_lowestNeighbourIn 12 = .ok (.iload_n 3, 1) := by decide +kernel
theorem dX1_lowestNeighbourIn_13 : decode cX1_lowestNeighbourIn 13 = .ok (.invokevirtual 55, 3) := by decide +kernel
theorem dX1_lowestNeighbourIn_16 : decode cX1_lowestNeighbourIn 16 = .ok (.ifCond .eq 15, 3) := by decide +kernel
theorem dX1_lowestNeighbourIn_19 : decode cX1_lowestNeighbourIn 19 = .ok (.aload_n 0, 1) := by decide +kernel
theorem dX1_lowestNeighbourIn_20 : decode cX1_lowestNeighbourIn 20 = .ok (.getfield 15, 3) := by decide +kernel
theorem dX1_lowestNeighbourIn_23 : decode cX1_lowestNeighbourIn 23 = .ok (.iload_n 3, 1) := by decide +kernel
theorem dX1_lowestNeighbourIn_24 : decode cX1_lowestNeighbourIn 24 = .ok (.iaload, 1) := by decide +kernel
theorem dX1_lowestNeighbourIn_25 : decode cX1_lowestNeighbourIn 25 = .ok (.iload_n 2, 1) := by decide +kernel
theorem dX1_lowestNeighbourIn_26 : decode cX1_lowestNeighbourIn 26 = .ok (.if_icmp .ne 5, 3) := by decide +kernel
theorem dX1_lowestNeighbourIn_29 : decode cX1_lowestNeighbourIn 29 = .ok (.iload_n 3, 1) := by decide +kernel
theorem dX1_lowestNeighbourIn_30 : decode cX1_lowestNeighbourIn 30 = .ok (.ireturn, 1) := by decide +kernel
theorem dX1_lowestNeighbourIn_31 : decode cX1_lowestNeighbourIn 31 = .ok (.iinc 3 1, 3) := by decide +kernel
theorem dX1_lowestNeighbourIn_34 : decode cX1_lowestNeighbourIn 34 = .ok (.goto (-32), 3) := by decide +kernel
theorem dX1_lowestNeighbourIn_37 : decode cX1_lowestNeighbourIn 37 = .ok (.iconst (-1), 1) := by decide +kernel
theorem dX1_lowestNeighbourIn_38 : decode cX1_lowestNeighbourIn 38 = .ok (.ireturn, 1) := by decide +kernel
theorem dX1_lowestPaintedBeyond_0 : decode cX1_lowestPaintedBeyond 0 = .ok (.iconst 0, 1) := by decide +kernel
theorem dX1_lowestPaintedBeyond_1 : decode cX1_lowestPaintedBeyond 1 = .ok (.istore_n 2, 1) := by decide +kernel
theorem dX1_lowestPaintedBeyond_2 : decode cX1_lowestPaintedBeyond 2 = .ok (.iload_n 2, 1) := by decide +kernel
theorem dX1_lowestPaintedBeyond_3 : decode cX1_lowestPaintedBeyond 3 = .ok (.aload_n 0, 1) := by decide +kernel
theorem dX1_lowestPaintedBeyond_4 : decode cX1_lowestPaintedBeyond 4 = .ok (.getfield 36, 3) := by decide +kernel
theorem dX1_lowestPaintedBeyond_7 : decode cX1_lowestPaintedBeyond 7 = .ok (.if_icmp .ge 21, 3) := by decide +kernel
theorem dX1_lowestPaintedBeyond_10 : decode cX1_lowestPaintedBeyond 10 = .ok (.aload_n 0, 1) := by decide +kernel
theorem dX1_lowestPaintedBeyond_11 : decode cX1_lowestPaintedBeyond 11 = .ok (.getfield 15, 3) := by decide +kernel
theorem dX1_lowestPaintedBeyond_14 : decode cX1_lowestPaintedBeyond 14 = .ok (.iload_n 2, 1) := by decide +kernel
theorem dX1_lowestPaintedBeyond_15 : decode cX1_lowestPaintedBeyond 15 = .ok (.iaload, 1) := by decide +kernel
theorem dX1_lowestPaintedBeyond_16 : decode cX1_lowestPaintedBeyond 16 = .ok (.iload_n 1, 1) := by decide +kernel
theorem dX1_lowestPaintedBeyond_17 : decode cX1_lowestPaintedBeyond 17 = .ok (.if_icmp .lt 5, 3) := by decide +kernel
theorem dX1_lowestPaintedBeyond_20 : decode cX1_lowestPaintedBeyond 20 = .ok (.iload_n 2, 1) := by decide +kernel
theorem dX1_lowestPaintedBeyond_21 : decode cX1_lowestPaintedBeyond 21 = .ok (.ireturn, 1) := by decide +kernel
theorem dX1_lowestPaintedBeyond_22 : decode cX1_lowestPaintedBeyond 22 = .ok (.iinc 2 1, 3) := by decide +kernel
theorem dX1_lowestPaintedBeyond_25 : decode cX1_lowestPaintedBeyond 25 = .ok (.goto (-23), 3) := by decide +kernel
theorem dX1_lowestPaintedBeyond_28 : decode cX1_lowestPaintedBeyond 28 = .ok (.iconst (-1), 1) := by decide +kernel
theorem dX1_lowestPaintedBeyond_29 : decode cX1_lowestPaintedBeyond 29 = .ok (.ireturn, 1) := by decide +kernel
theorem dX1_addCountry_0 : decode cX1_addCountry 0 = .ok (.aload_n 0, 1) := by decide +kernel
theorem dX1_addCountry_1 : decode cX1_addCountry 1 = .ok (.getfield 36, 3) := by decide +kernel
theorem dX1_addCountry_4 : decode cX1_addCountry 4 = .ok (.istore_n 2, 1) := by decide +kernel
theorem dX1_addCountry_5 : decode cX1_addCountry 5 = .ok (.iload_n 2, 1) := by decide +kernel
theorem dX1_addCountry_6 : decode cX1_addCountry 6 = .ok (.bipush 7, 2) := by decide +kernel
theorem dX1_addCountry_8 : decode cX1_addCountry 8 = .ok (.if_icmp .ge 48, 3) := by decide +kernel
theorem dX1_addCountry_11 : decode cX1_addCountry 11 = .ok (.aload_n 0, 1) := by decide +kernel
theorem dX1_addCountry_12 : decode cX1_addCountry 12 = .ok (.getfield 9, 3) := by decide +kernel
theorem dX1_addCountry_15 : decode cX1_addCountry 15 = .ok (.iload_n 2, 1) := by decide +kernel
theorem dX1_addCountry_16 : decode cX1_addCountry 16 = .ok (.iload_n 1, 1) := by decide +kernel
theorem dX1_addCountry_17 : decode cX1_addCountry 17 = .ok (.iastore, 1) := by decide +kernel
theorem dX1_addCountry_18 : decode cX1_addCountry 18 = .ok (.aload_n 0, 1) := by decide +kernel
theorem dX1_addCountry_19 : decode cX1_addCountry 19 = .ok (.getfield 15, 3) := by decide +kernel
theorem dX1_addCountry_22 : decode cX1_addCountry 22 = .ok (.iload_n 2, 1) := by decide +kernel
theorem dX1_addCountry_23 : decode cX1_addCountry 23 = .ok (.iconst (-1), 1) := by decide +kernel
theorem dX1_addCountry_24 : decode cX1_addCountry 24 = .ok (.iastore, 1) := by decide +kernel
theorem dX1_addCountry_25 : decode cX1_addCountry 25 = .ok (.aload_n 0, 1) := by decide +kernel
theorem dX1_addCountry_26 : decode cX1_addCountry 26 = .ok (.getfield 18, 3) := by decide +kernel
theorem dX1_addCountry_29 : decode cX1_addCountry 29 = .ok (.iload_n 2, 1) := by decide +kernel
theorem dX1_addCountry_30 : decode cX1_addCountry 30 = .ok (.iconst (-1), 1) := by decide +kernel
theorem dX1_addCountry_31 : decode cX1_addCountry 31 = .ok (.iastore, 1) := by decide +kernel
theorem dX1_addCountry_32 : decode cX1_addCountry 32 = .ok (.aload_n 0, 1) := by decide +kernel
theorem dX1_addCountry_33 : decode cX1_addCountry 33 = .ok (.getfield 21, 3) := by decide +kernel
theorem dX1_addCountry_36 : decode cX1_addCountry 36 = .ok (.iload_n 2, 1) := by decide +kernel
theorem dX1_addCountry_37 : decode cX1_addCountry 37 = .ok (.iconst 0, 1) := by decide +kernel
theorem dX1_addCountry_38 : decode cX1_addCountry 38 = .ok (.iastore, 1) := by decide +kernel
theorem dX1_addCountry_39 : decode cX1_addCountry 39 = .ok (.aload_n 0, 1) := by decide +kernel
theorem dX1_addCountry_40 : decode cX1_addCountry 40 = .ok (.getfield 24, 3) := by decide +kernel
theorem dX1_addCountry_43 : decode cX1_addCountry 43 = .ok (.iload_n 2, 1) := by decide +kernel
theorem dX1_addCountry_44 : decode cX1_addCountry 44 = .ok (.iconst 0, 1) := by decide +kernel
theorem dX1_addCountry_45 : decode cX1_addCountry 45 = .ok (.iastore, 1) := by decide +kernel
theorem dX1_addCountry_46 : decode cX1_addCountry 46 = .ok (.aload_n 0, 1) := by decide +kernel
theorem dX1_addCountry_47 : decode cX1_addCountry 47 = .ok (.dup, 1) := by decide +kernel
theorem dX1_addCountry_48 : decode cX1_addCountry 48 = .ok (.getfield 36, 3) := by decide +kernel
theorem dX1_addCountry_51 : decode cX1_addCountry 51 = .ok (.iconst 1, 1) := by decide +kernel
theorem dX1_addCountry_52 : decode cX1_addCountry 52 = .ok (.iadd, 1) := by decide +kernel
theorem dX1_addCountry_53 : decode cX1_addCountry 53 = .ok (.putfield 36, 3) := by decide +kernel
theorem dX1_addCountry_56 : decode cX1_addCountry 56 = .ok (.iload_n 2, 1) := by decide +kernel
theorem dX1_addCountry_57 : decode cX1_addCountry 57 = .ok (.ireturn, 1) := by decide +kernel
theorem dX1_join_0 : decode cX1_join 0 = .ok (.aload_n 0, 1) := by decide +kernel
theorem dX1_join_1 : decode cX1_join 1 = .ok (.getfield 24, 3) := by decide +kernel
theorem dX1_join_4 : decode cX1_join 4 = .ok (.iload_n 1, 1) := by decide +kernel
theorem dX1_join_5 : decode cX1_join 5 = .ok (.dup2, 1) := by decide +kernel
theorem dX1_join_6 : decode cX1_join 6 = .ok (.iaload, 1) := by decide +kernel
theorem dX1_join_7 : decode cX1_join 7 = .ok (.iconst 1, 1) := by decide +kernel
theorem dX1_join_8 : decode cX1_join 8 = .ok (.iload_n 2, 1) := by decide +kernel
theorem dX1_join_9 : decode cX1_join 9 = .ok (.ishl, 1) := by decide +kernel
theorem dX1_join_10 : decode cX1_join 10 = .ok (.ior, 1) := by decide +kernel
theorem dX1_join_11 : decode cX1_join 11 = .ok (.iastore, 1) := by decide +kernel
theorem dX1_join_12 : decode cX1_join 12 = .ok (.aload_n 0, 1) := by decide +kernel
theorem dX1_join_13 : decode cX1_join 13 = .ok (.getfield 24, 3) := by decide +kernel
theorem dX1_join_16 : decode cX1_join 16 = .ok (.iload_n 2, 1) := by decide +kernel
theorem dX1_join_17 : decode cX1_join 17 = .ok (.dup2, 1) := by decide +kernel
theorem dX1_join_18 : decode cX1_join 18 = .ok (.iaload, 1) := by decide +kernel
theorem dX1_join_19 : decode cX1_join 19 = .ok (.iconst 1, 1) := by decide +kernel
theorem dX1_join_20 : decode cX1_join 20 = .ok (.iload_n 1, 1) := by decide +kernel
theorem dX1_join_21 : decode cX1_join 21 = .ok (.ishl, 1) := by decide +kernel
theorem dX1_join_22 : decode cX1_join 22 = .ok (.ior, 1) := by decide +kernel
theorem dX1_join_23 : decode cX1_join 23 = .ok (.iastore, 1) := by decide +kernel
theorem dX1_join_24 : decode cX1_join 24 = .ok (.return_, 1) := by decide +kernel
theorem dX1_part_0 : decode cX1_part 0 = .ok (.aload_n 0, 1) := by decide +kernel
theorem dX1_part_1 : decode cX1_part 1 = .ok (.getfield 24, 3) := by decide +kernel
theorem dX1_part_4 : decode cX1_part 4 = .ok (.iload_n 1, 1) := by decide +kernel
theorem dX1_part_5 : decode cX1_part 5 = .ok (.dup2, 1) := by decide +kernel
theorem dX1_part_6 : decode cX1_part 6 = .ok (.iaload, 1) := by decide +kernel
theorem dX1_part_7 : decode cX1_part 7 = .ok (.iconst 1, 1) := by decide +kernel
theorem dX1_part_8 : decode cX1_part 8 = .ok (.iload_n 2, 1) := by decide +kernel
theorem dX1_part_9 : decode cX1_part 9 = .ok (.ishl, 1) := by decide +kernel
theorem dX1_part_10 : decode cX1_part 10 = .ok (.iconst (-1), 1) := by decide +kernel
theorem dX1_part_11 : decode cX1_part 11 = .ok (.ixor, 1) := by decide +kernel
theorem dX1_part_12 : decode cX1_part 12 = .ok (.iand, 1) := by decide +kernel
theorem dX1_part_13 : decode cX1_part 13 = .ok (.iastore, 1) := by decide +kernel
theorem dX1_part_14 : decode cX1_part 14 = .ok (.aload_n 0, 1) := by decide +kernel
theorem dX1_part_15 : decode cX1_part 15 = .ok (.getfield 24, 3) := by decide +kernel
theorem dX1_part_18 : decode cX1_part 18 = .ok (.iload_n 2, 1) := by decide +kernel
theorem dX1_part_19 : decode cX1_part 19 = .ok (.dup2, 1) := by decide +kernel
theorem dX1_part_20 : decode cX1_part 20 = .ok (.iaload, 1) := by decide +kernel
theorem dX1_part_21 : decode cX1_part 21 = .ok (.iconst 1, 1) := by decide +kernel
theorem dX1_part_22 : decode cX1_part 22 = .ok (.iload_n 1, 1) := by decide +kernel
theorem dX1_part_23 : decode cX1_part 23 = .ok (.ishl, 1) := by decide +kernel
theorem dX1_part_24 : decode cX1_part 24 = .ok (.iconst (-1), 1) := by decide +kernel
theorem dX1_part_25 : decode cX1_part 25 = .ok (.ixor, 1) := by decide +kernel
theorem dX1_part_26 : decode cX1_part 26 = .ok (.iand, 1) := by decide +kernel
theorem dX1_part_27 : decode cX1_part 27 = .ok (.iastore, 1) := by decide +kernel
theorem dX1_part_28 : decode cX1_part 28 = .ok (.return_, 1) := by decide +kernel
theorem dX1_bring_0 : decode cX1_bring 0 = .ok (.aload_n 0, 1) := by decide +kernel
theorem dX1_bring_1 : decode cX1_bring 1 = .ok (.getfield 30, 3) := by decide +kernel
theorem dX1_bring_4 : decode cX1_bring 4 = .ok (.iload_n 1, 1) := by decide +kernel
theorem dX1_bring_5 : decode cX1_bring 5 = .ok (.bipush 99, 2) := by decide +kernel
theorem dX1_bring_7 : decode cX1_bring 7 = .ok (.aload_n 0, 1) := by decide +kernel
theorem dX1_bring_8 : decode cX1_bring 8 = .ok (.getfield 30, 3) := by decide +kernel
theorem dX1_bring_11 : decode cX1_bring 11 = .ok (.iload_n 1, 1) := by decide +kernel
theorem dX1_bring_12 : decode cX1_bring 12 = .ok (.iaload, 1) := by decide +kernel
theorem dX1_bring_13 : decode cX1_bring 13 = .ok (.iload_n 2, 1) := by decide +kernel
theorem dX1_bring_14 : decode cX1_bring 14 = .ok (.iadd, 1) := by decide +kernel
theorem dX1_bring_15 : decode cX1_bring 15 = .ok (.invokestatic 71, 3) := by decide +kernel
theorem dX1_bring_18 : decode cX1_bring 18 = .ok (.iastore, 1) := by decide +kernel
theorem dX1_bring_19 : decode cX1_bring 19 = .ok (.return_, 1) := by decide +kernel
theorem dX1_setWish_0 : decode cX1_setWish 0 = .ok (.aload_n 0, 1) := by decide +kernel
theorem dX1_setWish_1 : decode cX1_setWish 1 = .ok (.getfield 18, 3) := by decide +kernel
theorem dX1_setWish_4 : decode cX1_setWish 4 = .ok (.iload_n 1, 1) := by decide +kernel
theorem dX1_setWish_5 : decode cX1_setWish 5 = .ok (.iload_n 2, 1) := by decide +kernel
theorem dX1_setWish_6 : decode cX1_setWish 6 = .ok (.iastore, 1) := by decide +kernel
theorem dX1_setWish_7 : decode cX1_setWish 7 = .ok (.aload_n 0, 1) := by decide +kernel
theorem dX1_setWish_8 : decode cX1_setWish 8 = .ok (.getfield 21, 3) := by decide +kernel
theorem dX1_setWish_11 : decode cX1_setWish 11 = .ok (.iload_n 1, 1) := by decide +kernel
theorem dX1_setWish_12 : decode cX1_setWish 12 = .ok (.iload_n 3, 1) := by decide +kernel
theorem dX1_setWish_13 : decode cX1_setWish 13 = .ok (.iastore, 1) := by decide +kernel
theorem dX1_setWish_14 : decode cX1_setWish 14 = .ok (.return_, 1) := by decide +kernel
theorem dX1_cover_0 : decode cX1_cover 0 = .ok (.aload_n 0, 1) := by decide +kernel
theorem dX1_cover_1 : decode cX1_cover 1 = .ok (.getfield 43, 3) := by decide +kernel
theorem dX1_cover_4 : decode cX1_cover 4 = .ok (.bipush 7, 2) := by decide +kernel
theorem dX1_cover_6 : decode cX1_cover 6 = .ok (.if_icmp .ge 60, 3) := by decide +kernel
theorem dX1_cover_9 : decode cX1_cover 9 = .ok (.aload_n 0, 1) := by decide +kernel
theorem dX1_cover_10 : decode cX1_cover 10 = .ok (.getfield 15, 3) := by decide +kernel
theorem dX1_cover_13 : decode cX1_cover 13 = .ok (.iload_n 1, 1) := by decide +kernel
theorem dX1_cover_14 : decode cX1_cover 14 = .ok (.iload_n 2, 1) := by decide +kernel
theorem dX1_cover_15 : decode cX1_cover 15 = .ok (.iastore, 1) := by decide +kernel
theorem dX1_cover_16 : decode cX1_cover 16 = .ok (.aload_n 0, 1) := by decide +kernel
theorem dX1_cover_17 : decode cX1_cover 17 = .ok (.getfield 30, 3) := by decide +kernel
theorem dX1_cover_20 : decode cX1_cover 20 = .ok (.iload_n 2, 1) := by decide +kernel
theorem dX1_cover_21 : decode cX1_cover 21 = .ok (.dup2, 1) := by decide +kernel
theorem dX1_cover_22 : decode cX1_cover 22 = .ok (.iaload, 1) := by decide +kernel
theorem dX1_cover_23 : decode cX1_cover 23 = .ok (.aload_n 0, 1) := by decide +kernel
theorem dX1_cover_24 : decode cX1_cover 24 = .ok (.getfield 9, 3) := by decide +kernel
theorem dX1_cover_27 : decode cX1_cover 27 = .ok (.iload_n 1, 1) := by decide +kernel
theorem dX1_cover_28 : decode cX1_cover 28 = .ok (.iaload, 1) := by decide +kernel
theorem dX1_cover_29 : decode cX1_cover 29 = .ok (.isub, 1) := by decide +kernel
theorem dX1_cover_30 : decode cX1_cover 30 = .ok (.iastore, 1) := by decide +kernel
theorem dX1_cover_31 : decode cX1_cover 31 = .ok (.aload_n 0, 1) := by decide +kernel
theorem dX1_cover_32 : decode cX1_cover 32 = .ok (.getfield 33, 3) := by decide +kernel
theorem dX1_cover_35 : decode cX1_cover 35 = .ok (.iload_n 2, 1) := by decide +kernel
theorem dX1_cover_36 : decode cX1_cover 36 = .ok (.dup2, 1) := by decide +kernel
theorem dX1_cover_37 : decode cX1_cover 37 = .ok (.iaload, 1) := by decide +kernel
theorem dX1_cover_38 : decode cX1_cover 38 = .ok (.aload_n 0, 1) := by decide +kernel
theorem dX1_cover_39 : decode cX1_cover 39 = .ok (.getfield 9, 3) := by decide +kernel
theorem dX1_cover_42 : decode cX1_cover 42 = .ok (.iload_n 1, 1) := by decide +kernel
theorem dX1_cover_43 : decode cX1_cover 43 = .ok (.iaload, 1) := by decide +kernel
theorem dX1_cover_44 : decode cX1_cover 44 = .ok (.iadd, 1) := by decide +kernel
theorem dX1_cover_45 : decode cX1_cover 45 = .ok (.iastore, 1) := by decide +kernel
theorem dX1_cover_46 : decode cX1_cover 46 = .ok (.aload_n 0, 1) := by decide +kernel
theorem dX1_cover_47 : decode cX1_cover 47 = .ok (.getfield 27, 3) := by decide +kernel
theorem dX1_cover_50 : decode cX1_cover 50 = .ok (.aload_n 0, 1) := by decide +kernel
theorem dX1_cover_51 : decode cX1_cover 51 = .ok (.getfield 43, 3) := by decide +kernel
theorem dX1_cover_54 : decode cX1_cover 54 = .ok (.iload_n 1, 1) := by decide +kernel
theorem dX1_cover_55 : decode cX1_cover 55 = .ok (.iastore, 1) := by decide +kernel
theorem dX1_cover_56 : decode cX1_cover 56 = .ok (.aload_n 0, 1) := by decide +kernel
theorem dX1_cover_57 : decode cX1_cover 57 = .ok (.dup, 1) := by decide +kernel
theorem dX1_cover_58 : decode cX1_cover 58 = .ok (.getfield 43, 3) := by decide +kernel
theorem dX1_cover_61 : decode cX1_cover 61 = .ok (.iconst 1, 1) := by decide +kernel
theorem dX1_cover_62 : decode cX1_cover 62 = .ok (.iadd, 1) := by decide +kernel
theorem dX1_cover_63 : decode cX1_cover 63 = .ok (.putfield 43, 3) := by decide +kernel
theorem dX1_cover_66 : decode cX1_cover 66 = .ok (.return_, 1) := by decide +kernel
theorem dX1_stepBack_0 : decode cX1_stepBack 0 = .ok (.aload_n 0, 1) := by decide +kernel
theorem dX1_stepBack_1 : decode cX1_stepBack 1 = .ok (.getfield 43, 3) := by decide +kernel
theorem dX1_stepBack_4 : decode cX1_stepBack 4 = .ok (.ifCond .le 12, 3) := by decide +kernel
theorem dX1_stepBack_7 : decode cX1_stepBack 7 = .ok (.aload_n 0, 1) := by decide +kernel
theorem dX1_stepBack_8 : decode cX1_stepBack 8 = .ok (.getfield 43, 3) := by decide +kernel
theorem dX1_stepBack_11 : decode cX1_stepBack 11 = .ok (.bipush 7, 2) := by decide +kernel
theorem dX1_stepBack_13 : decode cX1_stepBack 13 = .ok (.if_icmp .le 5, 3) := by decide +kernel
theorem dX1_stepBack_16 : decode cX1_stepBack 16 = .ok (.iconst (-1), 1) := by decide +kernel
theorem dX1_stepBack_17 : decode cX1_stepBack 17 = .ok (.ireturn, 1) := by decide +kernel
theorem dX1_stepBack_18 : decode cX1_stepBack 18 = .ok (.aload_n 0, 1) := by decide +kernel
theorem dX1_stepBack_19 : decode cX1_stepBack 19 = .ok (.dup, 1) := by decide +kernel
theorem dX1_stepBack_20 : decode cX1_stepBack 20 = .ok (.getfield 43, 3) := by decide +kernel
theorem dX1_stepBack_23 : decode cX1_stepBack 23 = .ok (.iconst 1, 1) := by decide +kernel
theorem dX1_stepBack_24 : decode cX1_stepBack 24 = .ok (.isub, 1) := by decide +kernel
theorem dX1_stepBack_25 : decode cX1_stepBack 25 = .ok (.putfield 43, 3) := by decide +kernel
theorem dX1_stepBack_28 : decode cX1_stepBack 28 = .ok (.aload_n 0, 1) := by decide +kernel
theorem dX1_stepBack_29 : decode cX1_stepBack 29 = .ok (.getfield 27, 3) := by decide +kernel
theorem dX1_stepBack_32 : decode cX1_stepBack 32 = .ok (.aload_n 0, 1) := by decide +kernel
theorem dX1_stepBack_33 : decode cX1_stepBack 33 = .ok (.getfield 43, 3) := by decide +kernel
theorem dX1_stepBack_36 : decode cX1_stepBack 36 = .ok (.iaload, 1) := by decide +kernel
theorem dX1_stepBack_37 : decode cX1_stepBack 37 = .ok (.istore_n 1, 1) := by decide +kernel
theorem dX1_stepBack_38 : decode cX1_stepBack 38 = .ok (.aload_n 0, 1) := by decide +kernel
theorem dX1_stepBack_39 : decode cX1_stepBack 39 = .ok (.iload_n 1, 1) := by decide +kernel
theorem dX1_stepBack_40 : decode cX1_stepBack 40 = .ok (.invokevirtual 76, 3) := by decide +kernel
theorem dX1_stepBack_43 : decode cX1_stepBack 43 = .ok (.ifCond .eq 20, 3) := by decide +kernel
theorem dX1_stepBack_46 : decode cX1_stepBack 46 = .ok (.aload_n 0, 1) := by decide +kernel
theorem dX1_stepBack_47 : decode cX1_stepBack 47 = .ok (.getfield 15, 3) := by decide +kernel
theorem dX1_stepBack_50 : decode cX1_stepBack 50 = .ok (.iload_n 1, 1) := by decide +kernel
theorem dX1_stepBack_51 : decode cX1_stepBack 51 = .ok (.iconst (-1), 1) := by decide +kernel
theorem dX1_stepBack_52 : decode cX1_stepBack 52 = .ok (.iastore, 1) := by decide +kernel
theorem dX1_stepBack_53 : decode cX1_stepBack 53 = .ok (.aload_n 0, 1) := by decide +kernel
theorem dX1_stepBack_54 : decode cX1_stepBack 54 = .ok (.dup, 1) := by decide +kernel
theorem dX1_stepBack_55 : decode cX1_stepBack 55 = .ok (.getfield 46, 3) := by decide +kernel
theorem dX1_stepBack_58 : decode cX1_stepBack 58 = .ok (.iconst 1, 1) := by decide +kernel
theorem dX1_stepBack_59 : decode cX1_stepBack 59 = .ok (.iadd, 1) := by decide +kernel
theorem dX1_stepBack_60 : decode cX1_stepBack 60 = .ok (.putfield 46, 3) := by decide +kernel
theorem dX1_stepBack_63 : decode cX1_stepBack 63 = .ok (.iload_n 1, 1) := by decide +kernel
theorem dX1_stepBack_64 : decode cX1_stepBack 64 = .ok (.ireturn, 1) := by decide +kernel
theorem dX1_fillIn_0 : decode cX1_fillIn 0 = .ok (.iconst 0, 1) := by decide +kernel
theorem dX1_fillIn_1 : decode cX1_fillIn 1 = .ok (.istore_n 1, 1) := by decide +kernel
theorem dX1_fillIn_2 : decode cX1_fillIn 2 = .ok (.iload_n 1, 1) := by decide +kernel
theorem dX1_fillIn_3 : decode cX1_fillIn 3 = .ok (.bipush 7, 2) := by decide +kernel
theorem dX1_fillIn_5 : decode cX1_fillIn 5 = .ok (.if_icmp .ge 35, 3) := by decide +kernel
theorem dX1_fillIn_8 : decode cX1_fillIn 8 = .ok (.aload_n 0, 1) := by decide +kernel
theorem dX1_fillIn_9 : decode cX1_fillIn 9 = .ok (.invokevirtual 79, 3) := by decide +kernel
theorem dX1_fillIn_12 : decode cX1_fillIn 12 = .ok (.istore_n 2, 1) := by decide +kernel
theorem dX1_fillIn_13 : decode cX1_fillIn 13 = .ok (.iload_n 2, 1) := by decide +kernel
theorem dX1_fillIn_14 : decode cX1_fillIn 14 = .ok (.iconst (-1), 1) := by decide +kernel
theorem dX1_fillIn_15 : decode cX1_fillIn 15 = .ok (.if_icmp .ne 6, 3) := by decide +kernel
theorem dX1_fillIn_18 : decode cX1_fillIn 18 = .ok (.goto 22, 3) := by decide +kernel
theorem dX1_fillIn_21 : decode cX1_fillIn 21 = .ok (.aload_n 0, 1) := by decide +kernel
theorem dX1_fillIn_22 : decode cX1_fillIn 22 = .ok (.iload_n 2, 1) := by decide +kernel
theorem dX1_fillIn_23 : decode cX1_fillIn 23 = .ok (.aload_n 0, 1) := by decide +kernel
theorem dX1_fillIn_24 : decode cX1_fillIn 24 = .ok (.iload_n 2, 1) := by decide +kernel
theorem dX1_fillIn_25 : decode cX1_fillIn 25 = .ok (.invokevirtual 83, 3) := by decide +kernel
theorem dX1_fillIn_28 : decode cX1_fillIn 28 = .ok (.invokestatic 86, 3) := by decide +kernel
theorem dX1_fillIn_31 : decode cX1_fillIn 31 = .ok (.invokevirtual 89, 3) := by decide +kernel
theorem dX1_fillIn_34 : decode cX1_fillIn 34 = .ok (.iinc 1 1, 3) := by decide +kernel
theorem dX1_fillIn_37 : decode cX1_fillIn 37 = .ok (.goto (-35), 3) := by decide +kernel
theorem dX1_fillIn_40 : decode cX1_fillIn 40 = .ok (.iload_n 1, 1) := by decide +kernel
theorem dX1_fillIn_41 : decode cX1_fillIn 41 = .ok (.ireturn, 1) := by decide +kernel
theorem dX1_isCountry_0 : decode cX1_isCountry 0 = .ok (.iload_n 1, 1) := by decide +kernel
theorem dX1_isCountry_1 : decode cX1_isCountry 1 = .ok (.ifCond .lt 15, 3) := by decide +kernel
theorem dX1_isCountry_4 : decode cX1_isCountry 4 = .ok (.iload_n 1, 1) := by decide +kernel
theorem dX1_isCountry_5 : decode cX1_isCountry 5 = .ok (.aload_n 0, 1) := by decide +kernel
theorem dX1_isCountry_6 : decode cX1_isCountry 6 = .ok (.getfield 36, 3) := by decide +kernel
theorem dX1_isCountry_9 : decode cX1_isCountry 9 = .ok (.if_icmp .ge 7, 3) := by decide +kernel
theorem dX1_isCountry_12 : decode cX1_isCountry 12 = .ok (.iconst 1, 1) := by decide +kernel
theorem dX1_isCountry_13 : decode cX1_isCountry 13 = .ok (.goto 4, 3) := by decide +kernel
theorem dX1_isCountry_16 : decode cX1_isCountry 16 = .ok (.iconst 0, 1) := by decide +kernel
theorem dX1_isCountry_17 : decode cX1_isCountry 17 = .ok (.ireturn, 1) := by decide +kernel
theorem dX1_isPainted_0 : decode cX1_isPainted 0 = .ok (.aload_n 0, 1) := by decide +kernel
theorem dX1_isPainted_1 : decode cX1_isPainted 1 = .ok (.getfield 15, 3) := by decide +kernel
theorem dX1_isPainted_4 : decode cX1_isPainted 4 = .ok (.iload_n 1, 1) := by decide +kernel
theorem dX1_isPainted_5 : decode cX1_isPainted 5 = .ok (.iaload, 1) := by decide +kernel
theorem dX1_isPainted_6 : decode cX1_isPainted 6 = .ok (.iconst (-1), 1) := by decide +kernel
theorem dX1_isPainted_7 : decode cX1_isPainted 7 = .ok (.if_icmp .eq 7, 3) := by decide +kernel
theorem dX1_isPainted_10 : decode cX1_isPainted 10 = .ok (.iconst 1, 1) := by decide +kernel
theorem dX1_isPainted_11 : decode cX1_isPainted 11 = .ok (.goto 4, 3) := by decide +kernel
theorem dX1_isPainted_14 : decode cX1_isPainted 14 = .ok (.iconst 0, 1) := by decide +kernel
theorem dX1_isPainted_15 : decode cX1_isPainted 15 = .ok (.ireturn, 1) := by decide +kernel
theorem dX1_areNeighbours_0 : decode cX1_areNeighbours 0 = .ok (.aload_n 0, 1) := by decide +kernel
theorem dX1_areNeighbours_1 : decode cX1_areNeighbours 1 = .ok (.getfield 24, 3) := by decide +kernel
theorem dX1_areNeighbours_4 : decode cX1_areNeighbours 4 = .ok (.iload_n 1, 1) := by decide +kernel
theorem dX1_areNeighbours_5 : decode cX1_areNeighbours 5 = .ok (.iaload, 1) := by decide +kernel
theorem dX1_areNeighbours_6 : decode cX1_areNeighbours 6 = .ok (.iload_n 2, 1) := by decide +kernel
theorem dX1_areNeighbours_7 : decode cX1_areNeighbours 7 = .ok (.ishr, 1) := by decide +kernel
theorem dX1_areNeighbours_8 : decode cX1_areNeighbours 8 = .ok (.iconst 1, 1) := by decide +kernel
theorem dX1_areNeighbours_9 : decode cX1_areNeighbours 9 = .ok (.iand, 1) := by decide +kernel
theorem dX1_areNeighbours_10 : decode cX1_areNeighbours 10 = .ok (.ifCond .eq 7, 3) := by decide +kernel
theorem dX1_areNeighbours_13 : decode cX1_areNeighbours 13 = .ok (.iconst 1, 1) := by decide +kernel
theorem dX1_areNeighbours_14 : decode cX1_areNeighbours 14 = .ok (.goto 4, 3) := by decide +kernel
theorem dX1_areNeighbours_17 : decode cX1_areNeighbours 17 = .ok (.iconst 0, 1) := by decide +kernel
theorem dX1_areNeighbours_18 : decode cX1_areNeighbours 18 = .ok (.ireturn, 1) := by decide +kernel
theorem dX1_freeHues_0 : decode cX1_freeHues 0 = .ok (.aload_n 0, 1) := by decide +kernel
theorem dX1_freeHues_1 : decode cX1_freeHues 1 = .ok (.getfield 15, 3) := by decide +kernel
theorem dX1_freeHues_4 : decode cX1_freeHues 4 = .ok (.iload_n 1, 1) := by decide +kernel
theorem dX1_freeHues_5 : decode cX1_freeHues 5 = .ok (.iaload, 1) := by decide +kernel
theorem dX1_freeHues_6 : decode cX1_freeHues 6 = .ok (.iconst (-1), 1) := by decide +kernel
theorem dX1_freeHues_7 : decode cX1_freeHues 7 = .ok (.if_icmp .eq 5, 3) := by decide +kernel
theorem dX1_freeHues_10 : decode cX1_freeHues 10 = .ok (.iconst 0, 1) := by decide +kernel
theorem dX1_freeHues_11 : decode cX1_freeHues 11 = .ok (.ireturn, 1) := by decide +kernel
theorem dX1_freeHues_12 : decode cX1_freeHues 12 = .ok (.aload_n 0, 1) := by decide +kernel
theorem dX1_freeHues_13 : decode cX1_freeHues 13 = .ok (.iload_n 1, 1) := by decide +kernel
theorem dX1_freeHues_14 : decode cX1_freeHues 14 = .ok (.invokevirtual 93, 3) := by decide +kernel
theorem dX1_freeHues_17 : decode cX1_freeHues 17 = .ok (.istore_n 2, 1) := by decide +kernel
theorem dX1_freeHues_18 : decode cX1_freeHues 18 = .ok (.iconst 0, 1) := by decide +kernel
theorem dX1_freeHues_19 : decode cX1_freeHues 19 = .ok (.istore_n 3, 1) := by decide +kernel
theorem dX1_freeHues_20 : decode cX1_freeHues 20 = .ok (.iconst 0, 1) := by decide +kernel
theorem dX1_freeHues_21 : decode cX1_freeHues 21 = .ok (.istore 4, 2) := by decide +kernel
theorem dX1_freeHues_23 : decode cX1_freeHues 23 = .ok (.iload 4, 2) := by decide +kernel
theorem dX1_freeHues_25 : decode cX1_freeHues 25 = .ok (.aload_n 0, 1) := by decide +kernel
theorem dX1_freeHues_26 : decode cX1_freeHues 26 = .ok (.getfield 40, 3) := by decide +kernel
theorem dX1_freeHues_29 : decode cX1_freeHues 29 = .ok (.if_icmp .ge 41, 3) := by decide +kernel
theorem dX1_freeHues_32 : decode cX1_freeHues 32 = .ok (.iload_n 2, 1) := by decide +kernel
theorem dX1_freeHues_33 : decode cX1_freeHues 33 = .ok (.iload 4, 2) := by decide +kernel
theorem dX1_freeHues_35 : decode cX1_freeHues 35 = .ok (.ishr, 1) := by decide +kernel
theorem dX1_freeHues_36 : decode cX1_freeHues 36 = .ok (.iconst 1, 1) := by decide +kernel
theorem dX1_freeHues_37 : decode cX1_freeHues 37 = .ok (.iand, 1) := by decide +kernel
theorem dX1_freeHues_38 : decode cX1_freeHues 38 = .ok (.ifCond .ne 26, 3) := by decide +kernel
theorem dX1_freeHues_41 : decode cX1_freeHues 41 = .ok (.aload_n 0, 1) := by decide +kernel
theorem dX1_freeHues_42 : decode cX1_freeHues 42 = .ok (.getfield 30, 3) := by decide +kernel
theorem dX1_freeHues_45 : decode cX1_freeHues 45 = .ok (.iload 4, 2) := by decide +kernel
theorem dX1_freeHues_47 : decode cX1_freeHues 47 = .ok (.iaload, 1) := by decide +kernel
theorem dX1_freeHues_48 : decode cX1_freeHues 48 = .ok (.aload_n 0, 1) := by decide +kernel
theorem dX1_freeHues_49 : decode cX1_freeHues 49 = .ok (.getfield 9, 3) := by decide +kernel
theorem dX1_freeHues_52 : decode cX1_freeHues 52 = .ok (.iload_n 1, 1) := by decide +kernel
theorem dX1_freeHues_53 : decode cX1_freeHues 53 = .ok (.iaload, 1) := by decide +kernel
theorem dX1_freeHues_54 : decode cX1_freeHues 54 = .ok (.if_icmp .lt 10, 3) := by decide +kernel
theorem dX1_freeHues_57 : decode cX1_freeHues 57 = .ok (.iload_n 3, 1) := by decide +kernel
theorem dX1_freeHues_58 : decode cX1_freeHues 58 = .ok (.iconst 1, 1) := by decide +kernel
theorem dX1_freeHues_59 : decode cX1_freeHues 59 = .ok (.iload 4, 2) := by decide +kernel
theorem dX1_freeHues_61 : decode cX1_freeHues 61 = .ok (.ishl, 1) := by decide +kernel
theorem dX1_freeHues_62 : decode cX1_freeHues 62 = .ok (.ior, 1) := by decide +kernel
theorem dX1_freeHues_63 : decode cX1_freeHues 63 = .ok (.istore_n 3, 1) := by decide +kernel
theorem dX1_freeHues_64 : decode cX1_freeHues 64 = .ok (.iinc 4 1, 3) := by decide +kernel
theorem dX1_freeHues_67 : decode cX1_freeHues 67 = .ok (.goto (-44), 3) := by decide +kernel
theorem dX1_freeHues_70 : decode cX1_freeHues 70 = .ok (.iload_n 3, 1) := by decide +kernel
theorem dX1_freeHues_71 : decode cX1_freeHues 71 = .ok (.ireturn, 1) := by decide +kernel
theorem dX1_huesAround_0 : decode cX1_huesAround 0 = .ok (.iconst 0, 1) := by decide +kernel
theorem dX1_huesAround_1 : decode cX1_huesAround 1 = .ok (.istore_n 2, 1) := by decide +kernel
theorem dX1_huesAround_2 : decode cX1_huesAround 2 = .ok (.iconst 0, 1) := by decide +kernel
theorem dX1_huesAround_3 : decode cX1_huesAround 3 = .ok (.istore_n 3, 1) := by decide +kernel
theorem dX1_huesAround_4 : decode cX1_huesAround 4 = .ok (.iload_n 3, 1) := by decide +kernel
theorem dX1_huesAround_5 : decode cX1_huesAround 5 = .ok (.aload_n 0, 1) := by decide +kernel
theorem dX1_huesAround_6 : decode cX1_huesAround 6 = .ok (.getfield 36, 3) := by decide +kernel
theorem dX1_huesAround_9 : decode cX1_huesAround 9 = .ok (.if_icmp .ge 43, 3) := by decide +kernel
theorem dX1_huesAround_12 : decode cX1_huesAround 12 = .ok (.aload_n 0, 1) := by decide +kernel
theorem dX1_huesAround_13 : decode cX1_huesAround 13 = .ok (.getfield 24, 3) := by decide +kernel
theorem dX1_huesAround_16 : decode cX1_huesAround 16 = .ok (.iload_n 1, 1) := by decide +kernel
theorem dX1_huesAround_17 : decode cX1_huesAround 17 = .ok (.iaload, 1) := by decide +kernel
theorem dX1_huesAround_18 : decode cX1_huesAround 18 = .ok (.iload_n 3, 1) := by decide +kernel
theorem dX1_huesAround_19 : decode cX1_huesAround 19 = .ok (.ishr, 1) := by decide +kernel
theorem dX1_huesAround_20 : decode cX1_huesAround 20 = .ok (.iconst 1, 1) := by decide +kernel
theorem dX1_huesAround_21 : decode cX1_huesAround 21 = .ok (.iand, 1) := by decide +kernel
theorem dX1_huesAround_22 : decode cX1_huesAround 22 = .ok (.ifCond .eq 24, 3) := by decide +kernel
theorem dX1_huesAround_25 : decode cX1_huesAround 25 = .ok (.aload_n 0, 1) := by decide +kernel
theorem dX1_huesAround_26 : decode cX1_huesAround 26 = .ok (.getfield 15, 3) := by decide +kernel
theorem dX1_huesAround_29 : decode cX1_huesAround 29 = .ok (.iload_n 3, 1) := by decide +kernel
theorem dX1_huesAround_30 : decode cX1_huesAround 30 = .ok (.iaload, 1) := by decide +kernel
theorem dX1_huesAround_31 : decode cX1_huesAround 31 = .ok (.iconst (-1), 1) := by decide +kernel
theorem dX1_huesAround_32 : decode cX1_huesAround 32 = .ok (.if_icmp .eq 14, 3) := by decide +kernel
theorem dX1_huesAround_35 : decode cX1_huesAround 35 = .ok (.iload_n 2, 1) := by decide +kernel
theorem dX1_huesAround_36 : decode cX1_huesAround 36 = .ok (.iconst 1, 1) := by decide +kernel
theorem dX1_huesAround_37 : decode cX1_huesAround 37 = .ok (.aload_n 0, 1) := by decide +kernel
theorem dX1_huesAround_38 : decode cX1_huesAround 38 = .ok (.getfield 15, 3) := by decide +kernel
theorem dX1_huesAround_41 : decode cX1_huesAround 41 = .ok (.iload_n 3, 1) := by decide +kernel
theorem dX1_huesAround_42 : decode cX1_huesAround 42 = .ok (.iaload, 1) := by decide +kernel
theorem dX1_huesAround_43 : decode cX1_huesAround 43 = .ok (.ishl, 1) := by decide +kernel
theorem dX1_huesAround_44 : decode cX1_huesAround 44 = .ok (.ior, 1) := by decide +kernel
theorem dX1_huesAround_45 : decode cX1_huesAround 45 = .ok (.istore_n 2, 1) := by decide +kernel
theorem dX1_huesAround_46 : decode cX1_huesAround 46 = .ok (.iinc 3 1, 3) := by decide +kernel
theorem dX1_huesAround_49 : decode cX1_huesAround 49 = .ok (.goto (-45), 3) := by decide +kernel
theorem dX1_huesAround_52 : decode cX1_huesAround 52 = .ok (.iload_n 2, 1) := by decide +kernel
theorem dX1_huesAround_53 : decode cX1_huesAround 53 = .ok (.ireturn, 1) := by decide +kernel
theorem dX1_isStuck_0 : decode cX1_isStuck 0 = .ok (.aload_n 0, 1) := by decide +kernel
theorem dX1_isStuck_1 : decode cX1_isStuck 1 = .ok (.iload_n 1, 1) := by decide +kernel
theorem dX1_isStuck_2 : decode cX1_isStuck 2 = .ok (.invokevirtual 59, 3) := by decide +kernel
theorem dX1_isStuck_5 : decode cX1_isStuck 5 = .ok (.ifCond .ne 15, 3) := by decide +kernel
theorem dX1_isStuck_8 : decode cX1_isStuck 8 = .ok (.aload_n 0, 1) := by decide +kernel
theorem dX1_isStuck_9 : decode cX1_isStuck 9 = .ok (.iload_n 1, 1) := by decide +kernel
theorem dX1_isStuck_10 : decode cX1_isStuck 10 = .ok (.invokevirtual 83, 3) := by decide +kernel
theorem dX1_isStuck_13 : decode cX1_isStuck 13 = .ok (.ifCond .ne 7, 3) := by decide +kernel
theorem dX1_isStuck_16 : decode cX1_isStuck 16 = .ok (.iconst 1, 1) := by decide +kernel
theorem dX1_isStuck_17 : decode cX1_isStuck 17 = .ok (.goto 4, 3) := by decide +kernel
theorem dX1_isStuck_20 : decode cX1_isStuck 20 = .ok (.iconst 0, 1) := by decide +kernel
theorem dX1_isStuck_21 : decode cX1_isStuck 21 = .ok (.ireturn, 1) := by decide +kernel
theorem dX1_isFulfilled_0 : decode cX1_isFulfilled 0 = .ok (.aload_n 0, 1) := by decide +kernel
theorem dX1_isFulfilled_1 : decode cX1_isFulfilled 1 = .ok (.iload_n 1, 1) := by decide +kernel
theorem dX1_isFulfilled_2 : decode cX1_isFulfilled 2 = .ok (.invokevirtual 59, 3) := by decide +kernel
theorem dX1_isFulfilled_5 : decode cX1_isFulfilled 5 = .ok (.ifCond .eq 22, 3) := by decide +kernel
theorem dX1_isFulfilled_8 : decode cX1_isFulfilled 8 = .ok (.aload_n 0, 1) := by decide +kernel
theorem dX1_isFulfilled_9 : decode cX1_isFulfilled 9 = .ok (.getfield 15, 3) := by decide +kernel
theorem dX1_isFulfilled_12 : decode cX1_isFulfilled 12 = .ok (.iload_n 1, 1) := by decide +kernel
theorem dX1_isFulfilled_13 : decode cX1_isFulfilled 13 = .ok (.iaload, 1) := by decide +kernel
theorem dX1_isFulfilled_14 : decode cX1_isFulfilled 14 = .ok (.aload_n 0, 1) := by decide +kernel
theorem dX1_isFulfilled_15 : decode cX1_isFulfilled 15 = .ok (.getfield 18, 3) := by decide +kernel
theorem dX1_isFulfilled_18 : decode cX1_isFulfilled 18 = .ok (.iload_n 1, 1) := by decide +kernel
theorem dX1_isFulfilled_19 : decode cX1_isFulfilled 19 = .ok (.iaload, 1) := by decide +kernel
theorem dX1_isFulfilled_20 : decode cX1_isFulfilled 20 = .ok (.if_icmp .ne 7, 3) := by decide +kernel
theorem dX1_isFulfilled_23 : decode cX1_isFulfilled 23 = .ok (.iconst 1, 1) := by decide +kernel
theorem dX1_isFulfilled_24 : decode cX1_isFulfilled 24 = .ok (.goto 4, 3) := by decide +kernel
theorem dX1_isFulfilled_27 : decode cX1_isFulfilled 27 = .ok (.iconst 0, 1) := by decide +kernel
theorem dX1_isFulfilled_28 : decode cX1_isFulfilled 28 = .ok (.ireturn, 1) := by decide +kernel
theorem dX1_countNeighbours_0 : decode cX1_countNeighbours 0 = .ok (.aload_n 0, 1) := by decide +kernel
theorem dX1_countNeighbours_1 : decode cX1_countNeighbours 1 = .ok (.getfield 24, 3) := by decide +kernel
theorem dX1_countNeighbours_4 : decode cX1_countNeighbours 4 = .ok (.iload_n 1, 1) := by decide +kernel
theorem dX1_countNeighbours_5 : decode cX1_countNeighbours 5 = .ok (.iaload, 1) := by decide +kernel
theorem dX1_countNeighbours_6 : decode cX1_countNeighbours 6 = .ok (.invokestatic 96, 3) := by decide +kernel
theorem dX1_countNeighbours_9 : decode cX1_countNeighbours 9 = .ok (.ireturn, 1) := by decide +kernel
theorem dX1_placeOf_0 : decode cX1_placeOf 0 = .ok (.iconst 0, 1) := by decide +kernel
theorem dX1_placeOf_1 : decode cX1_placeOf 1 = .ok (.istore_n 2, 1) := by decide +kernel
theorem dX1_placeOf_2 : decode cX1_placeOf 2 = .ok (.iload_n 2, 1) := by decide +kernel
theorem dX1_placeOf_3 : decode cX1_placeOf 3 = .ok (.aload_n 0, 1) := by decide +kernel
theorem dX1_placeOf_4 : decode cX1_placeOf 4 = .ok (.getfield 43, 3) := by decide +kernel
theorem dX1_placeOf_7 : decode cX1_placeOf 7 = .ok (.if_icmp .ge 21, 3) := by decide +kernel
theorem dX1_placeOf_10 : decode cX1_placeOf 10 = .ok (.aload_n 0, 1) := by decide +kernel
theorem dX1_placeOf_11 : decode cX1_placeOf 11 = .ok (.getfield 27, 3) := by decide +kernel
theorem dX1_placeOf_14 : decode cX1_placeOf 14 = .ok (.iload_n 2, 1) := by decide +kernel
theorem dX1_placeOf_15 : decode cX1_placeOf 15 = .ok (.iaload, 1) := by decide +kernel
theorem dX1_placeOf_16 : decode cX1_placeOf 16 = .ok (.iload_n 1, 1) := by decide +kernel
theorem dX1_placeOf_17 : decode cX1_placeOf 17 = .ok (.if_icmp .ne 5, 3) := by decide +kernel
theorem dX1_placeOf_20 : decode cX1_placeOf 20 = .ok (.iload_n 2, 1) := by decide +kernel
theorem dX1_placeOf_21 : decode cX1_placeOf 21 = .ok (.ireturn, 1) := by decide +kernel
theorem dX1_placeOf_22 : decode cX1_placeOf 22 = .ok (.iinc 2 1, 3) := by decide +kernel
theorem dX1_placeOf_25 : decode cX1_placeOf 25 = .ok (.goto (-23), 3) := by decide +kernel
theorem dX1_placeOf_28 : decode cX1_placeOf 28 = .ok (.iconst (-1), 1) := by decide +kernel
theorem dX1_placeOf_29 : decode cX1_placeOf 29 = .ok (.ireturn, 1) := by decide +kernel
theorem dX1_firstStuck_0 : decode cX1_firstStuck 0 = .ok (.iconst 0, 1) := by decide +kernel
theorem dX1_firstStuck_1 : decode cX1_firstStuck 1 = .ok (.istore_n 1, 1) := by decide +kernel
theorem dX1_firstStuck_2 : decode cX1_firstStuck 2 = .ok (.iload_n 1, 1) := by decide +kernel
theorem dX1_firstStuck_3 : decode cX1_firstStuck 3 = .ok (.aload_n 0, 1) := by decide +kernel
theorem dX1_firstStuck_4 : decode cX1_firstStuck 4 = .ok (.getfield 36, 3) := by decide +kernel
theorem dX1_firstStuck_7 : decode cX1_firstStuck 7 = .ok (.if_icmp .ge 19, 3) := by decide +kernel
theorem dX1_firstStuck_10 : decode cX1_firstStuck 10 = .ok (.aload_n 0, 1) := by decide +kernel
theorem dX1_firstStuck_11 : decode cX1_firstStuck 11 = .ok (.iload_n 1, 1) := by decide +kernel
theorem dX1_firstStuck_12 : decode cX1_firstStuck 12 = .ok (.invokevirtual 101, 3) := by decide +kernel
theorem dX1_firstStuck_15 : decode cX1_firstStuck 15 = .ok (.ifCond .eq 5, 3) := by decide +kernel
theorem dX1_firstStuck_18 : decode cX1_firstStuck 18 = .ok (.iload_n 1, 1) := by decide +kernel
theorem dX1_firstStuck_19 : decode cX1_firstStuck 19 = .ok (.ireturn, 1) := by decide +kernel
theorem dX1_firstStuck_20 : decode cX1_firstStuck 20 = .ok (.iinc 1 1, 3) := by decide +kernel
theorem dX1_firstStuck_23 : decode cX1_firstStuck 23 = .ok (.goto (-21), 3) := by decide +kernel
theorem dX1_firstStuck_26 : decode cX1_firstStuck 26 = .ok (.iconst (-1), 1) := by decide +kernel
theorem dX1_firstStuck_27 : decode cX1_firstStuck 27 = .ok (.ireturn, 1) := by decide +kernel
theorem dX1_bestToPaint_0 : decode cX1_bestToPaint 0 = .ok (.iconst (-1), 1) := by decide +kernel
theorem dX1_bestToPaint_1 : decode cX1_bestToPaint 1 = .ok (.istore_n 1, 1) := by decide +kernel
theorem dX1_bestToPaint_2 : decode cX1_bestToPaint 2 = .ok (.iconst 0, 1) := by decide +kernel
theorem dX1_bestToPaint_3 : decode cX1_bestToPaint 3 = .ok (.istore_n 2, 1) := by decide +kernel
theorem dX1_bestToPaint_4 : decode cX1_bestToPaint 4 = .ok (.iload_n 2, 1) := by decide +kernel
theorem dX1_bestToPaint_5 : decode cX1_bestToPaint 5 = .ok (.aload_n 0, 1) := by decide +kernel
theorem dX1_bestToPaint_6 : decode cX1_bestToPaint 6 = .ok (.getfield 36, 3) := by decide +kernel
theorem dX1_bestToPaint_9 : decode cX1_bestToPaint 9 = .ok (.if_icmp .ge 33, 3) := by decide +kernel
theorem dX1_bestToPaint_12 : decode cX1_bestToPaint 12 = .ok (.aload_n 0, 1) := by decide +kernel
theorem dX1_bestToPaint_13 : decode cX1_bestToPaint 13 = .ok (.iload_n 2, 1) := by decide +kernel
theorem dX1_bestToPaint_14 : decode cX1_bestToPaint 14 = .ok (.invokevirtual 59, 3) := by decide +kernel
theorem dX1_bestToPaint_17 : decode cX1_bestToPaint 17 = .ok (.ifCond .ne 19, 3) := by decide +kernel
theorem dX1_bestToPaint_20 : decode cX1_bestToPaint 20 = .ok (.iload_n 1, 1) := by decide +kernel
theorem dX1_bestToPaint_21 : decode cX1_bestToPaint 21 = .ok (.iconst (-1), 1) := by decide +kernel
theorem dX1_bestToPaint_22 : decode cX1_bestToPaint 22 = .ok (.if_icmp .eq 12, 3) := by decide +kernel
theorem dX1_bestToPaint_25 : decode cX1_bestToPaint 25 = .ok (.aload_n 0, 1) := by decide +kernel
theorem dX1_bestToPaint_26 : decode cX1_bestToPaint 26 = .ok (.iload_n 2, 1) := by decide +kernel
theorem dX1_bestToPaint_27 : decode cX1_bestToPaint 27 = .ok (.iload_n 1, 1) := by decide +kernel
theorem dX1_bestToPaint_28 : decode cX1_bestToPaint 28 = .ok (.invokevirtual 104, 3) := by decide +kernel
theorem dX1_bestToPaint_31 : decode cX1_bestToPaint 31 = .ok (.ifCond .eq 5, 3) := by decide +kernel
theorem dX1_bestToPaint_34 : decode cX1_bestToPaint 34 = .ok (.iload_n 2, 1) := by decide +kernel
theorem dX1_bestToPaint_35 : decode cX1_bestToPaint 35 = .ok (.istore_n 1, 1) := by decide +kernel
theorem dX1_bestToPaint_36 : decode cX1_bestToPaint 36 = .ok (.iinc 2 1, 3) := by decide +kernel
theorem dX1_bestToPaint_39 : decode cX1_bestToPaint 39 = .ok (.goto (-35), 3) := by decide +kernel
theorem dX1_bestToPaint_42 : decode cX1_bestToPaint 42 = .ok (.iload_n 1, 1) := by decide +kernel
theorem dX1_bestToPaint_43 : decode cX1_bestToPaint 43 = .ok (.ireturn, 1) := by decide +kernel
theorem dX1_isBetterToPaint_0 : decode cX1_isBetterToPaint 0 = .ok (.aload_n 0, 1) := by decide +kernel
theorem dX1_isBetterToPaint_1 : decode cX1_isBetterToPaint 1 = .ok (.iload_n 1, 1) := by decide +kernel
theorem dX1_isBetterToPaint_2 : decode cX1_isBetterToPaint 2 = .ok (.invokevirtual 83, 3) := by decide +kernel
theorem dX1_isBetterToPaint_5 : decode cX1_isBetterToPaint 5 = .ok (.invokestatic 96, 3) := by decide +kernel
theorem dX1_isBetterToPaint_8 : decode cX1_isBetterToPaint 8 = .ok (.istore_n 3, 1) := by decide +kernel
theorem dX1_isBetterToPaint_9 : decode cX1_isBetterToPaint 9 = .ok (.aload_n 0, 1) := by decide +kernel
theorem dX1_isBetterToPaint_10 : decode cX1_isBetterToPaint 10 = .ok (.iload_n 2, 1) := by decide +kernel
theorem dX1_isBetterToPaint_11 : decode cX1_isBetterToPaint 11 = .ok (.invokevirtual 83, 3) := by decide +kernel
theorem dX1_isBetterToPaint_14 : decode cX1_isBetterToPaint 14 = .ok (.invokestatic 96, 3) := by decide +kernel
theorem dX1_isBetterToPaint_17 : decode cX1_isBetterToPaint 17 = .ok (.istore 4, 2) := by decide +kernel
theorem dX1_isBetterToPaint_19 : decode cX1_isBetterToPaint 19 = .ok (.iload_n 3, 1) := by decide +kernel
theorem dX1_isBetterToPaint_20 : decode cX1_isBetterToPaint 20 = .ok (.iload 4, 2) := by decide +kernel
theorem dX1_isBetterToPaint_22 : decode cX1_isBetterToPaint 22 = .ok (.if_icmp .eq 15, 3) := by decide +kernel
theorem dX1_isBetterToPaint_25 : decode cX1_isBetterToPaint 25 = .ok (.iload_n 3, 1) := by decide +kernel
theorem dX1_isBetterToPaint_26 : decode cX1_isBetterToPaint 26 = .ok (.iload 4, 2) := by decide +kernel
theorem dX1_isBetterToPaint_28 : decode cX1_isBetterToPaint 28 = .ok (.if_icmp .ge 7, 3) := by decide +kernel
theorem dX1_isBetterToPaint_31 : decode cX1_isBetterToPaint 31 = .ok (.iconst 1, 1) := by decide +kernel
theorem dX1_isBetterToPaint_32 : decode cX1_isBetterToPaint 32 = .ok (.goto 4, 3) := by decide +kernel
theorem dX1_isBetterToPaint_35 : decode cX1_isBetterToPaint 35 = .ok (.iconst 0, 1) := by decide +kernel
theorem dX1_isBetterToPaint_36 : decode cX1_isBetterToPaint 36 = .ok (.ireturn, 1) := by decide +kernel
theorem dX1_isBetterToPaint_37 : decode cX1_isBetterToPaint 37 = .ok (.aload_n 0, 1) := by decide +kernel
theorem dX1_isBetterToPaint_38 : decode cX1_isBetterToPaint 38 = .ok (.invokevirtual 107, 3) := by decide +kernel
theorem dX1_isBetterToPaint_41 : decode cX1_isBetterToPaint 41 = .ok (.istore 5, 2) := by decide +kernel
theorem dX1_isBetterToPaint_43 : decode cX1_isBetterToPaint 43 = .ok (.aload_n 0, 1) := by decide +kernel
theorem dX1_isBetterToPaint_44 : decode cX1_isBetterToPaint 44 = .ok (.getfield 24, 3) := by decide +kernel
theorem dX1_isBetterToPaint_47 : decode cX1_isBetterToPaint 47 = .ok (.iload_n 1, 1) := by decide +kernel
theorem dX1_isBetterToPaint_48 : decode cX1_isBetterToPaint 48 = .ok (.iaload, 1) := by decide +kernel
theorem dX1_isBetterToPaint_49 : decode cX1_isBetterToPaint 49 = .ok (.iload 5, 2) := by decide +kernel
theorem dX1_isBetterToPaint_51 : decode cX1_isBetterToPaint 51 = .ok (.iand, 1) := by decide +kernel
theorem dX1_isBetterToPaint_52 : decode cX1_isBetterToPaint 52 = .ok (.invokestatic 96, 3) := by decide +kernel
theorem dX1_isBetterToPaint_55 : decode cX1_isBetterToPaint 55 = .ok (.aload_n 0, 1) := by decide +kernel
theorem dX1_isBetterToPaint_56 : decode cX1_isBetterToPaint 56 = .ok (.getfield 24, 3) := by decide +kernel
theorem dX1_isBetterToPaint_59 : decode cX1_isBetterToPaint 59 = .ok (.iload_n 2, 1) := by decide +kernel
theorem dX1_isBetterToPaint_60 : decode cX1_isBetterToPaint 60 = .ok (.iaload, 1) := by decide +kernel
theorem dX1_isBetterToPaint_61 : decode cX1_isBetterToPaint 61 = .ok (.iload 5, 2) := by decide +kernel
theorem dX1_isBetterToPaint_63 : decode cX1_isBetterToPaint 63 = .ok (.iand, 1) := by decide +kernel
theorem dX1_isBetterToPaint_64 : decode cX1_isBetterToPaint 64 = .ok (.invokestatic 96, 3) := by decide +kernel
theorem dX1_isBetterToPaint_67 : decode cX1_isBetterToPaint 67 = .ok (.if_icmp .le 7, 3) := by decide +kernel
theorem dX1_isBetterToPaint_70 : decode cX1_isBetterToPaint 70 = .ok (.iconst 1, 1) := by decide +kernel
theorem dX1_isBetterToPaint_71 : decode cX1_isBetterToPaint 71 = .ok (.goto 4, 3) := by decide +kernel
theorem dX1_isBetterToPaint_74 : decode cX1_isBetterToPaint 74 = .ok (.iconst 0, 1) := by decide +kernel
theorem dX1_isBetterToPaint_75 : decode cX1_isBetterToPaint 75 = .ok (.ireturn, 1) := by decide +kernel
theorem dX1_gentlestHue_0 : decode cX1_gentlestHue 0 = .ok (.aload_n 0, 1) := by decide +kernel
theorem dX1_gentlestHue_1 : decode cX1_gentlestHue 1 = .ok (.iload_n 1, 1) := by decide +kernel
theorem dX1_gentlestHue_2 : decode cX1_gentlestHue 2 = .ok (.invokevirtual 83, 3) := by decide +kernel
theorem dX1_gentlestHue_5 : decode cX1_gentlestHue 5 = .ok (.istore_n 2, 1) := by decide +kernel
theorem dX1_gentlestHue_6 : decode cX1_gentlestHue 6 = .ok (.iconst (-1), 1) := by decide +kernel
theorem dX1_gentlestHue_7 : decode cX1_gentlestHue 7 = .ok (.istore_n 3, 1) := by decide +kernel
theorem dX1_gentlestHue_8 : decode cX1_gentlestHue 8 = .ok (.iconst 0, 1) := by decide +kernel
theorem dX1_gentlestHue_9 : decode cX1_gentlestHue 9 = .ok (.istore 4, 2) := by decide +kernel
theorem dX1_gentlestHue_11 : decode cX1_gentlestHue 11 = .ok (.iconst 0, 1) := by decide +kernel
theorem dX1_gentlestHue_12 : decode cX1_gentlestHue 12 = .ok (.istore 5, 2) := by decide +kernel
theorem dX1_gentlestHue_14 : decode cX1_gentlestHue 14 = .ok (.iload 5, 2) := by decide +kernel
theorem dX1_gentlestHue_16 : decode cX1_gentlestHue 16 = .ok (.iconst 5, 1) := by decide +kernel
theorem dX1_gentlestHue_17 : decode cX1_gentlestHue 17 = .ok (.if_icmp .ge 46, 3) := by decide +kernel
theorem dX1_gentlestHue_20 : decode cX1_gentlestHue 20 = .ok (.iload_n 2, 1) := by decide +kernel
theorem dX1_gentlestHue_21 : decode cX1_gentlestHue 21 = .ok (.iload 5, 2) := by decide +kernel
theorem dX1_gentlestHue_23 : decode cX1_gentlestHue 23 = .ok (.ishr, 1) := by decide +kernel
theorem dX1_gentlestHue_24 : decode cX1_gentlestHue 24 = .ok (.iconst 1, 1) := by decide +kernel
theorem dX1_gentlestHue_25 : decode cX1_gentlestHue 25 = .ok (.iand, 1) := by decide +kernel
theorem dX1_gentlestHue_26 : decode cX1_gentlestHue 26 = .ok (.ifCond .eq 31, 3) := by decide +kernel
theorem dX1_gentlestHue_29 : decode cX1_gentlestHue 29 = .ok (.aload_n 0, 1) := by decide +kernel
theorem dX1_gentlestHue_30 : decode cX1_gentlestHue 30 = .ok (.iload_n 1, 1) := by decide +kernel
theorem dX1_gentlestHue_31 : decode cX1_gentlestHue 31 = .ok (.iload 5, 2) := by decide +kernel
theorem dX1_gentlestHue_33 : decode cX1_gentlestHue 33 = .ok (.invokevirtual 110, 3) := by decide +kernel
theorem dX1_gentlestHue_36 : decode cX1_gentlestHue 36 = .ok (.istore 6, 2) := by decide +kernel
theorem dX1_gentlestHue_38 : decode cX1_gentlestHue 38 = .ok (.iload_n 3, 1) := by decide +kernel
theorem dX1_gentlestHue_39 : decode cX1_gentlestHue 39 = .ok (.iconst (-1), 1) := by decide +kernel
theorem dX1_gentlestHue_40 : decode cX1_gentlestHue 40 = .ok (.if_icmp .eq 10, 3) := by decide +kernel
theorem dX1_gentlestHue_43 : decode cX1_gentlestHue 43 = .ok (.iload 6, 2) := by decide +kernel
theorem dX1_gentlestHue_45 : decode cX1_gentlestHue 45 = .ok (.iload 4, 2) := by decide +kernel
theorem dX1_gentlestHue_47 : decode cX1_gentlestHue 47 = .ok (.if_icmp .ge 10, 3) := by decide +kernel
theorem dX1_gentlestHue_50 : decode cX1_gentlestHue 50 = .ok (.iload 5, 2) := by decide +kernel
theorem dX1_gentlestHue_52 : decode cX1_gentlestHue 52 = .ok (.istore_n 3, 1) := by decide +kernel
theorem dX1_gentlestHue_53 : decode cX1_gentlestHue 53 = .ok (.iload 6, 2) := by decide +kernel
theorem dX1_gentlestHue_55 : decode cX1_gentlestHue 55 = .ok (.istore 4, 2) := by decide +kernel
theorem dX1_gentlestHue_57 : decode cX1_gentlestHue 57 = .ok (.iinc 5 1, 3) := by decide +kernel
theorem dX1_gentlestHue_60 : decode cX1_gentlestHue 60 = .ok (.goto (-46), 3) := by decide +kernel
theorem dX1_gentlestHue_63 : decode cX1_gentlestHue 63 = .ok (.iload_n 3, 1) := by decide +kernel
theorem dX1_gentlestHue_64 : decode cX1_gentlestHue 64 = .ok (.ireturn, 1) := by decide +kernel
theorem dX1_countRobbed_0 : decode cX1_countRobbed 0 = .ok (.iconst 0, 1) := by decide +kernel
theorem dX1_countRobbed_1 : decode cX1_countRobbed 1 = .ok (.istore_n 3, 1) := by decide +kernel
theorem dX1_countRobbed_2 : decode cX1_countRobbed 2 = .ok (.iconst 0, 1) := by decide +kernel
theorem dX1_countRobbed_3 : decode cX1_countRobbed 3 = .ok (.istore 4, 2) := by decide +kernel
theorem dX1_countRobbed_5 : decode cX1_countRobbed 5 = .ok (.iload 4, 2) := by decide +kernel
theorem dX1_countRobbed_7 : decode cX1_countRobbed 7 = .ok (.aload_n 0, 1) := by decide +kernel
theorem dX1_countRobbed_8 : decode cX1_countRobbed 8 = .ok (.getfield 36, 3) := by decide +kernel
theorem dX1_countRobbed_11 : decode cX1_countRobbed 11 = .ok (.if_icmp .ge 35, 3) := by decide +kernel
theorem dX1_countRobbed_14 : decode cX1_countRobbed 14 = .ok (.aload_n 0, 1) := by decide +kernel
theorem dX1_countRobbed_15 : decode cX1_countRobbed 15 = .ok (.iload_n 1, 1) := by decide +kernel
theorem dX1_countRobbed_16 : decode cX1_countRobbed 16 = .ok (.iload 4, 2) := by decide +kernel
theorem dX1_countRobbed_18 : decode cX1_countRobbed 18 = .ok (.invokevirtual 55, 3) := by decide +kernel
theorem dX1_countRobbed_21 : decode cX1_countRobbed 21 = .ok (.ifCond .eq 19, 3) := by decide +kernel
theorem dX1_countRobbed_24 : decode cX1_countRobbed 24 = .ok (.aload_n 0, 1) := by decide +kernel
theorem dX1_countRobbed_25 : decode cX1_countRobbed 25 = .ok (.iload 4, 2) := by decide +kernel
theorem dX1_countRobbed_27 : decode cX1_countRobbed 27 = .ok (.invokevirtual 83, 3) := by decide +kernel
theorem dX1_countRobbed_30 : decode cX1_countRobbed 30 = .ok (.iload_n 2, 1) := by decide +kernel
theorem dX1_countRobbed_31 : decode cX1_countRobbed 31 = .ok (.ishr, 1) := by decide +kernel
theorem dX1_countRobbed_32 : decode cX1_countRobbed 32 = .ok (.iconst 1, 1) := by decide +kernel
theorem dX1_countRobbed_33 : decode cX1_countRobbed 33 = .ok (.iand, 1) := by decide +kernel
theorem dX1_countRobbed_34 : decode cX1_countRobbed 34 = .ok (.ifCond .eq 6, 3) := by decide +kernel
theorem dX1_countRobbed_37 : decode cX1_countRobbed 37 = .ok (.iinc 3 1, 3) := by decide +kernel
theorem dX1_countRobbed_40 : decode cX1_countRobbed 40 = .ok (.iinc 4 1, 3) := by decide +kernel
theorem dX1_countRobbed_43 : decode cX1_countRobbed 43 = .ok (.goto (-38), 3) := by decide +kernel
theorem dX1_countRobbed_46 : decode cX1_countRobbed 46 = .ok (.iload_n 3, 1) := by decide +kernel
theorem dX1_countRobbed_47 : decode cX1_countRobbed 47 = .ok (.ireturn, 1) := by decide +kernel
theorem dX1_firstWithOneFreeHue_0 : decode cX1_firstWithOneFreeHue 0 = .ok (.iconst 0, 1) := by decide +kernel
theorem dX1_firstWithOneFreeHue_1 : decode cX1_firstWithOneFreeHue 1 = .ok (.istore_n 1, 1) := by decide +kernel
theorem dX1_firstWithOneFreeHue_2 : decode cX1_firstWithOneFreeHue 2 = .ok (.iload_n 1, 1) := by decide +kernel
theorem dX1_firstWithOneFreeHue_3 : decode cX1_firstWithOneFreeHue 3 = .ok (.aload_n 0, 1) := by decide +kernel
theorem dX1_firstWithOneFreeHue_4 : decode cX1_firstWithOneFreeHue 4 = .ok (.getfield 36, 3) := by decide +kernel
theorem dX1_firstWithOneFreeHue_7 : decode cX1_firstWithOneFreeHue 7 = .ok (.if_icmp .ge 23, 3) := by decide +kernel
theorem dX1_firstWithOneFreeHue_10 : decode cX1_firstWithOneFreeHue 10 = .ok (.aload_n 0, 1) := by decide +kernel
theorem dX1_firstWithOneFreeHue_11 : decode cX1_firstWithOneFreeHue 11 = .ok (.iload_n 1, 1) := by decide +kernel
theorem dX1_firstWithOneFreeHue_12 : decode cX1_firstWithOneFreeHue 12 = .ok (.invokevirtual 83, 3) := by decide +kernel
theorem dX1_firstWithOneFreeHue_15 : decode cX1_firstWithOneFreeHue 15 = .ok (.invokestatic 96, 3) := by decide +kernel
theorem dX1_firstWithOneFreeHue_18 : decode cX1_firstWithOneFreeHue 18 = .ok (.iconst 1, 1) := by decide +kernel
theorem dX1_firstWithOneFreeHue_19 : decode cX1_firstWithOneFreeHue 19 = .ok (.if_icmp .ne 5, 3) := by decide +kernel
theorem dX1_firstWithOneFreeHue_22 : decode cX1_firstWithOneFreeHue 22 = .ok (.iload_n 1, 1) := by decide +kernel
theorem dX1_firstWithOneFreeHue_23 : decode cX1_firstWithOneFreeHue 23 = .ok (.ireturn, 1) := by decide +kernel
theorem dX1_firstWithOneFreeHue_24 : decode cX1_firstWithOneFreeHue 24 = .ok (.iinc 1 1, 3) := by decide +kernel
theorem dX1_firstWithOneFreeHue_27 : decode cX1_firstWithOneFreeHue 27 = .ok (.goto (-25), 3) := by decide +kernel
theorem dX1_firstWithOneFreeHue_30 : decode cX1_firstWithOneFreeHue 30 = .ok (.iconst (-1), 1) := by decide +kernel
theorem dX1_firstWithOneFreeHue_31 : decode cX1_firstWithOneFreeHue 31 = .ok (.ireturn, 1) := by decide +kernel
theorem dX1_lowestOf_0 : decode cX1_lowestOf 0 = .ok (.iconst 0, 1) := by decide +kernel
theorem dX1_lowestOf_1 : decode cX1_lowestOf 1 = .ok (.istore_n 1, 1) := by decide +kernel
theorem dX1_lowestOf_2 : decode cX1_lowestOf 2 = .ok (.iload_n 1, 1) := by decide +kernel
theorem dX1_lowestOf_3 : decode cX1_lowestOf 3 = .ok (.iconst 4, 1) := by decide +kernel
theorem dX1_lowestOf_4 : decode cX1_lowestOf 4 = .ok (.if_icmp .ge 17, 3) := by decide +kernel
theorem dX1_lowestOf_7 : decode cX1_lowestOf 7 = .ok (.iload_n 0, 1) := by decide +kernel
theorem dX1_lowestOf_8 : decode cX1_lowestOf 8 = .ok (.iload_n 1, 1) := by decide +kernel
theorem dX1_lowestOf_9 : decode cX1_lowestOf 9 = .ok (.ishr, 1) := by decide +kernel
theorem dX1_lowestOf_10 : decode cX1_lowestOf 10 = .ok (.iconst 1, 1) := by decide +kernel
theorem dX1_lowestOf_11 : decode cX1_lowestOf 11 = .ok (.iand, 1) := by decide +kernel
theorem dX1_lowestOf_12 : decode cX1_lowestOf 12 = .ok (.ifCond .ne 9, 3) := by decide +kernel
theorem dX1_lowestOf_15 : decode cX1_lowestOf 15 = .ok (.iinc 1 1, 3) := by decide +kernel
theorem dX1_lowestOf_18 : decode cX1_lowestOf 18 = .ok (.goto (-16), 3) := by decide +kernel
theorem dX1_lowestOf_21 : decode cX1_lowestOf 21 = .ok (.iload_n 1, 1) := by decide +kernel
theorem dX1_lowestOf_22 : decode cX1_lowestOf 22 = .ok (.ireturn, 1) := by decide +kernel
theorem dX1_unpainted_0 : decode cX1_unpainted 0 = .ok (.iconst 0, 1) := by decide +kernel
theorem dX1_unpainted_1 : decode cX1_unpainted 1 = .ok (.istore_n 1, 1) := by decide +kernel
theorem dX1_unpainted_2 : decode cX1_unpainted 2 = .ok (.iconst 0, 1) := by decide +kernel
theorem dX1_unpainted_3 : decode cX1_unpainted 3 = .ok (.istore_n 2, 1) := by decide +kernel
theorem dX1_unpainted_4 : decode cX1_unpainted 4 = .ok (.iload_n 2, 1) := by decide +kernel
theorem dX1_unpainted_5 : decode cX1_unpainted 5 = .ok (.aload_n 0, 1) := by decide +kernel
theorem dX1_unpainted_6 : decode cX1_unpainted 6 = .ok (.getfield 36, 3) := by decide +kernel
theorem dX1_unpainted_9 : decode cX1_unpainted 9 = .ok (.if_icmp .ge 23, 3) := by decide +kernel
theorem dX1_unpainted_12 : decode cX1_unpainted 12 = .ok (.aload_n 0, 1) := by decide +kernel
theorem dX1_unpainted_13 : decode cX1_unpainted 13 = .ok (.iload_n 2, 1) := by decide +kernel
theorem dX1_unpainted_14 : decode cX1_unpainted 14 = .ok (.invokevirtual 59, 3) := by decide +kernel
theorem dX1_unpainted_17 : decode cX1_unpainted 17 = .ok (.ifCond .ne 9, 3) := by decide +kernel
theorem dX1_unpainted_20 : decode cX1_unpainted 20 = .ok (.iload_n 1, 1) := by decide +kernel
theorem dX1_unpainted_21 : decode cX1_unpainted 21 = .ok (.iconst 1, 1) := by decide +kernel
theorem dX1_unpainted_22 : decode cX1_unpainted 22 = .ok (.iload_n 2, 1) := by decide +kernel
theorem dX1_unpainted_23 : decode cX1_unpainted 23 = .ok (.ishl, 1) := by decide +kernel
theorem dX1_unpainted_24 : decode cX1_unpainted 24 = .ok (.ior, 1) := by decide +kernel
theorem dX1_unpainted_25 : decode cX1_unpainted 25 = .ok (.istore_n 1, 1) := by decide +kernel
theorem dX1_unpainted_26 : decode cX1_unpainted 26 = .ok (.iinc 2 1, 3) := by decide +kernel
theorem dX1_unpainted_29 : decode cX1_unpainted 29 = .ok (.goto (-25), 3) := by decide +kernel
theorem dX1_unpainted_32 : decode cX1_unpainted 32 = .ok (.iload_n 1, 1) := by decide +kernel
theorem dX1_unpainted_33 : decode cX1_unpainted 33 = .ok (.ireturn, 1) := by decide +kernel
theorem dX1_countPainted_0 : decode cX1_countPainted 0 = .ok (.aload_n 0, 1) := by decide +kernel
theorem dX1_countPainted_1 : decode cX1_countPainted 1 = .ok (.getfield 36, 3) := by decide +kernel
theorem dX1_countPainted_4 : decode cX1_countPainted 4 = .ok (.aload_n 0, 1) := by decide +kernel
theorem dX1_countPainted_5 : decode cX1_countPainted 5 = .ok (.invokevirtual 107, 3) := by decide +kernel
theorem dX1_countPainted_8 : decode cX1_countPainted 8 = .ok (.invokestatic 96, 3) := by decide +kernel
theorem dX1_countPainted_11 : decode cX1_countPainted 11 = .ok (.isub, 1) := by decide +kernel
theorem dX1_countPainted_12 : decode cX1_countPainted 12 = .ok (.ireturn, 1) := by decide +kernel
theorem dX1_countPaintedIn_0 : decode cX1_countPaintedIn 0 = .ok (.iconst 0, 1) := by decide +kernel
theorem dX1_countPaintedIn_1 : decode cX1_countPaintedIn 1 = .ok (.istore_n 2, 1) := by decide +kernel
theorem dX1_countPaintedIn_2 : decode cX1_countPaintedIn 2 = .ok (.iconst 0, 1) := by decide +kernel
theorem dX1_countPaintedIn_3 : decode cX1_countPaintedIn 3 = .ok (.istore_n 3, 1) := by decide +kernel
theorem dX1_countPaintedIn_4 : decode cX1_countPaintedIn 4 = .ok (.iload_n 3, 1) := by decide +kernel
theorem dX1_countPaintedIn_5 : decode cX1_countPaintedIn 5 = .ok (.aload_n 0, 1) := by decide +kernel
theorem dX1_countPaintedIn_6 : decode cX1_countPaintedIn 6 = .ok (.getfield 36, 3) := by decide +kernel
theorem dX1_countPaintedIn_9 : decode cX1_countPaintedIn 9 = .ok (.if_icmp .ge 22, 3) := by decide +kernel
theorem dX1_countPaintedIn_12 : decode cX1_countPaintedIn 12 = .ok (.aload_n 0, 1) := by decide +kernel
theorem dX1_countPaintedIn_13 : decode cX1_countPaintedIn 13 = .ok (.getfield 15, 3) := by decide +kernel
theorem dX1_countPaintedIn_16 : decode cX1_countPaintedIn 16 = .ok (.iload_n 3, 1) := by decide +kernel
theorem dX1_countPaintedIn_17 : decode cX1_countPaintedIn 17 = .ok (.iaload, 1) := by decide +kernel
theorem dX1_countPaintedIn_18 : decode cX1_countPaintedIn 18 = .ok (.iload_n 1, 1) := by decide +kernel
theorem dX1_countPaintedIn_19 : decode cX1_countPaintedIn 19 = .ok (.if_icmp .ne 6, 3) := by decide +kernel
theorem dX1_countPaintedIn_22 : decode cX1_countPaintedIn 22 = .ok (.iinc 2 1, 3) := by decide +kernel
theorem dX1_countPaintedIn_25 : decode cX1_countPaintedIn 25 = .ok (.iinc 3 1, 3) := by decide +kernel
theorem dX1_countPaintedIn_28 : decode cX1_countPaintedIn 28 = .ok (.goto (-24), 3) := by decide +kernel
theorem dX1_countPaintedIn_31 : decode cX1_countPaintedIn 31 = .ok (.iload_n 2, 1) := by decide +kernel
theorem dX1_countPaintedIn_32 : decode cX1_countPaintedIn 32 = .ok (.ireturn, 1) := by decide +kernel
theorem dX1_countBorders_0 : decode cX1_countBorders 0 = .ok (.iconst 0, 1) := by decide +kernel
theorem dX1_countBorders_1 : decode cX1_countBorders 1 = .ok (.istore_n 1, 1) := by decide +kernel
theorem dX1_countBorders_2 : decode cX1_countBorders 2 = .ok (.iconst 0, 1) := by decide +kernel
theorem dX1_countBorders_3 : decode cX1_countBorders 3 = .ok (.istore_n 2, 1) := by decide +kernel
theorem dX1_countBorders_4 : decode cX1_countBorders 4 = .ok (.iload_n 2, 1) := by decide +kernel
theorem dX1_countBorders_5 : decode cX1_countBorders 5 = .ok (.aload_n 0, 1) := by decide +kernel
theorem dX1_countBorders_6 : decode cX1_countBorders 6 = .ok (.getfield 36, 3) := by decide +kernel
theorem dX1_countBorders_9 : decode cX1_countBorders 9 = .ok (.if_icmp .ge 17, 3) := by decide +kernel
theorem dX1_countBorders_12 : decode cX1_countBorders 12 = .ok (.iload_n 1, 1) := by decide +kernel
theorem dX1_countBorders_13 : decode cX1_countBorders 13 = .ok (.aload_n 0, 1) := by decide +kernel
theorem dX1_countBorders_14 : decode cX1_countBorders 14 = .ok (.iload_n 2, 1) := by decide +kernel
theorem dX1_countBorders_15 : decode cX1_countBorders 15 = .ok (.invokevirtual 113, 3) := by decide +kernel
theorem dX1_countBorders_18 : decode cX1_countBorders 18 = .ok (.iadd, 1) := by decide +kernel
theorem dX1_countBorders_19 : decode cX1_countBorders 19 = .ok (.istore_n 1, 1) := by decide +kernel
theorem dX1_countBorders_20 : decode cX1_countBorders 20 = .ok (.iinc 2 1, 3) := by decide +kernel
theorem dX1_countBorders_23 : decode cX1_countBorders 23 = .ok (.goto (-19), 3) := by decide +kernel
theorem dX1_countBorders_26 : decode cX1_countBorders 26 = .ok (.iload_n 1, 1) := by decide +kernel
theorem dX1_countBorders_27 : decode cX1_countBorders 27 = .ok (.iconst 2, 1) := by decide +kernel
theorem dX1_countBorders_28 : decode cX1_countBorders 28 = .ok (.idiv, 1) := by decide +kernel
theorem dX1_countBorders_29 : decode cX1_countBorders 29 = .ok (.ireturn, 1) := by decide +kernel
theorem dX1_countStuck_0 : decode cX1_countStuck 0 = .ok (.iconst 0, 1) := by decide +kernel
theorem dX1_countStuck_1 : decode cX1_countStuck 1 = .ok (.istore_n 1, 1) := by decide +kernel
theorem dX1_countStuck_2 : decode cX1_countStuck 2 = .ok (.iconst 0, 1) := by decide +kernel
theorem dX1_countStuck_3 : decode cX1_countStuck 3 = .ok (.istore_n 2, 1) := by decide +kernel
theorem dX1_countStuck_4 : decode cX1_countStuck 4 = .ok (.iload_n 2, 1) := by decide +kernel
theorem dX1_countStuck_5 : decode cX1_countStuck 5 = .ok (.aload_n 0, 1) := by decide +kernel
theorem dX1_countStuck_6 : decode cX1_countStuck 6 = .ok (.getfield 36, 3) := by decide +kernel
theorem dX1_countStuck_9 : decode cX1_countStuck 9 = .ok (.if_icmp .ge 20, 3) := by decide +kernel
theorem dX1_countStuck_12 : decode cX1_countStuck 12 = .ok (.aload_n 0, 1) := by decide +kernel
theorem dX1_countStuck_13 : decode cX1_countStuck 13 = .ok (.iload_n 2, 1) := by decide +kernel
theorem dX1_countStuck_14 : decode cX1_countStuck 14 = .ok (.invokevirtual 101, 3) := by decide +kernel
theorem dX1_countStuck_17 : decode cX1_countStuck 17 = .ok (.ifCond .eq 6, 3) := by decide +kernel
theorem dX1_countStuck_20 : decode cX1_countStuck 20 = .ok (.iinc 1 1, 3) := by decide +kernel
theorem dX1_countStuck_23 : decode cX1_countStuck 23 = .ok (.iinc 2 1, 3) := by decide +kernel
theorem dX1_countStuck_26 : decode cX1_countStuck 26 = .ok (.goto (-22), 3) := by decide +kernel
theorem dX1_countStuck_29 : decode cX1_countStuck 29 = .ok (.iload_n 1, 1) := by decide +kernel
theorem dX1_countStuck_30 : decode cX1_countStuck 30 = .ok (.ireturn, 1) := by decide +kernel
theorem dX1_countWishes_0 : decode cX1_countWishes 0 = .ok (.iconst 0, 1) := by decide +kernel
theorem dX1_countWishes_1 : decode cX1_countWishes 1 = .ok (.istore_n 1, 1) := by decide +kernel
theorem dX1_countWishes_2 : decode cX1_countWishes 2 = .ok (.iconst 0, 1) := by decide +kernel
theorem dX1_countWishes_3 : decode cX1_countWishes 3 = .ok (.istore_n 2, 1) := by decide +kernel
theorem dX1_countWishes_4 : decode cX1_countWishes 4 = .ok (.iload_n 2, 1) := by decide +kernel
theorem dX1_countWishes_5 : decode cX1_countWishes 5 = .ok (.aload_n 0, 1) := by decide +kernel
theorem dX1_countWishes_6 : decode cX1_countWishes 6 = .ok (.getfield 36, 3) := by decide +kernel
theorem dX1_countWishes_9 : decode cX1_countWishes 9 = .ok (.if_icmp .ge 22, 3) := by decide +kernel
theorem dX1_countWishes_12 : decode cX1_countWishes 12 = .ok (.aload_n 0, 1) := by decide +kernel
theorem dX1_countWishes_13 : decode cX1_countWishes 13 = .ok (.getfield 18, 3) := by decide +kernel
theorem dX1_countWishes_16 : decode cX1_countWishes 16 = .ok (.iload_n 2, 1) := by decide +kernel
theorem dX1_countWishes_17 : decode cX1_countWishes 17 = .ok (.iaload, 1) := by decide +kernel
theorem dX1_countWishes_18 : decode cX1_countWishes 18 = .ok (.iconst (-1), 1) := by decide +kernel
theorem dX1_countWishes_19 : decode cX1_countWishes 19 = .ok (.if_icmp .eq 6, 3) := by decide +kernel
theorem dX1_countWishes_22 : decode cX1_countWishes 22 = .ok (.iinc 1 1, 3) := by decide +kernel
theorem dX1_countWishes_25 : decode cX1_countWishes 25 = .ok (.iinc 2 1, 3) := by decide +kernel
theorem dX1_countWishes_28 : decode cX1_countWishes 28 = .ok (.goto (-24), 3) := by decide +kernel
theorem dX1_countWishes_31 : decode cX1_countWishes 31 = .ok (.iload_n 1, 1) := by decide +kernel
theorem dX1_countWishes_32 : decode cX1_countWishes 32 = .ok (.ireturn, 1) := by decide +kernel
theorem dX1_countFulfilled_0 : decode cX1_countFulfilled 0 = .ok (.iconst 0, 1) := by decide +kernel
theorem dX1_countFulfilled_1 : decode cX1_countFulfilled 1 = .ok (.istore_n 1, 1) := by decide +kernel
theorem dX1_countFulfilled_2 : decode cX1_countFulfilled 2 = .ok (.iconst 0, 1) := by decide +kernel
theorem dX1_countFulfilled_3 : decode cX1_countFulfilled 3 = .ok (.istore_n 2, 1) := by decide +kernel
theorem dX1_countFulfilled_4 : decode cX1_countFulfilled 4 = .ok (.iload_n 2, 1) := by decide +kernel
theorem dX1_countFulfilled_5 : decode cX1_countFulfilled 5 = .ok (.aload_n 0, 1) := by decide +kernel
theorem dX1_countFulfilled_6 : decode cX1_countFulfilled 6 = .ok (.getfield 36, 3) := by decide +kernel
theorem dX1_countFulfilled_9 : decode cX1_countFulfilled 9 = .ok (.if_icmp .ge 20, 3) := by decide +kernel
theorem dX1_countFulfilled_12 : decode cX1_countFulfilled 12 = .ok (.aload_n 0, 1) := by decide +kernel
theorem dX1_countFulfilled_13 : decode cX1_countFulfilled 13 = .ok (.iload_n 2, 1) := by decide +kernel
theorem dX1_countFulfilled_14 : decode cX1_countFulfilled 14 = .ok (.invokevirtual 116, 3) := by decide +kernel
theorem dX1_countFulfilled_17 : decode cX1_countFulfilled 17 = .ok (.ifCond .eq 6, 3) := by decide +kernel
theorem dX1_countFulfilled_20 : decode cX1_countFulfilled 20 = .ok (.iinc 1 1, 3) := by decide +kernel
theorem dX1_countFulfilled_23 : decode cX1_countFulfilled 23 = .ok (.iinc 2 1, 3) := by decide +kernel
theorem dX1_countFulfilled_26 : decode cX1_countFulfilled 26 = .ok (.goto (-22), 3) := by decide +kernel
theorem dX1_countFulfilled_29 : decode cX1_countFulfilled 29 = .ok (.iload_n 1, 1) := by decide +kernel
theorem dX1_countFulfilled_30 : decode cX1_countFulfilled 30 = .ok (.ireturn, 1) := by decide +kernel
theorem dX1_sumFulfilledCrowns_0 : decode cX1_sumFulfilledCrowns 0 = .ok (.iconst 0, 1) := by decide +kernel
theorem dX1_sumFulfilledCrowns_1 : decode cX1_sumFulfilledCrowns 1 = .ok (.istore_n 1, 1) := by decide +kernel
theorem dX1_sumFulfilledCrowns_2 : decode cX1_sumFulfilledCrowns 2 = .ok (.iconst 0, 1) := by decide +kernel
theorem dX1_sumFulfilledCrowns_3 : decode cX1_sumFulfilledCrowns 3 = .ok (.istore_n 2, 1) := by decide +kernel
theorem dX1_sumFulfilledCrowns_4 : decode cX1_sumFulfilledCrowns 4 = .ok (.iload_n 2, 1) := by decide +kernel
theorem dX1_sumFulfilledCrowns_5 : decode cX1_sumFulfilledCrowns 5 = .ok (.aload_n 0, 1) := by decide +kernel
theorem dX1_sumFulfilledCrowns_6 : decode cX1_sumFulfilledCrowns 6 = .ok (.getfield 36, 3) := by decide +kernel
theorem dX1_sumFulfilledCrowns_9 : decode cX1_sumFulfilledCrowns 9 = .ok (.if_icmp .ge 26, 3) := by decide +kernel
theorem dX1_sumFulfilledCrowns_12 : decode cX1_sumFulfilledCrowns 12 = .ok (.aload_n 0, 1) := by decide +kernel
theorem dX1_sumFulfilledCrowns_13 : decode cX1_sumFulfilledCrowns 13 = .ok (.iload_n 2, 1) := by decide +kernel
theorem dX1_sumFulfilledCrowns_14 : decode cX1_sumFulfilledCrowns 14 = .ok (.invokevirtual 116, 3) := by decide +kernel
theorem dX1_sumFulfilledCrowns_17 : decode cX1_sumFulfilledCrowns 17 = .ok (.ifCond .eq 12, 3) := by decide +kernel
theorem dX1_sumFulfilledCrowns_20 : decode cX1_sumFulfilledCrowns 20 = .ok (.iload_n 1, 1) := by decide +kernel
theorem dX1_sumFulfilledCrowns_21 : decode cX1_sumFulfilledCrowns 21 = .ok (.aload_n 0, 1) := by decide +kernel
theorem dX1_sumFulfilledCrowns_22 : decode cX1_sumFulfilledCrowns 22 = .ok (.getfield 21, 3) := by decide +kernel
theorem dX1_sumFulfilledCrowns_25 : decode cX1_sumFulfilledCrowns 25 = .ok (.iload_n 2, 1) := by decide +kernel
theorem dX1_sumFulfilledCrowns_26 : decode cX1_sumFulfilledCrowns 26 = .ok (.iaload, 1) := by decide +kernel
theorem dX1_sumFulfilledCrowns_27 : decode cX1_sumFulfilledCrowns 27 = .ok (.iadd, 1) := by decide +kernel
theorem dX1_sumFulfilledCrowns_28 : decode cX1_sumFulfilledCrowns 28 = .ok (.istore_n 1, 1) := by decide +kernel
theorem dX1_sumFulfilledCrowns_29 : decode cX1_sumFulfilledCrowns 29 = .ok (.iinc 2 1, 3) := by decide +kernel
theorem dX1_sumFulfilledCrowns_32 : decode cX1_sumFulfilledCrowns 32 = .ok (.goto (-28), 3) := by decide +kernel
theorem dX1_sumFulfilledCrowns_35 : decode cX1_sumFulfilledCrowns 35 = .ok (.iload_n 1, 1) := by decide +kernel
theorem dX1_sumFulfilledCrowns_36 : decode cX1_sumFulfilledCrowns 36 = .ok (.ireturn, 1) := by decide +kernel
theorem dX1_sumPaintedSizes_0 : decode cX1_sumPaintedSizes 0 = .ok (.iconst 0, 1) := by decide +kernel
theorem dX1_sumPaintedSizes_1 : decode cX1_sumPaintedSizes 1 = .ok (.istore_n 1, 1) := by decide +kernel
theorem dX1_sumPaintedSizes_2 : decode cX1_sumPaintedSizes 2 = .ok (.iconst 0, 1) := by decide +kernel
theorem dX1_sumPaintedSizes_3 : decode cX1_sumPaintedSizes 3 = .ok (.istore_n 2, 1) := by decide +kernel
theorem dX1_sumPaintedSizes_4 : decode cX1_sumPaintedSizes 4 = .ok (.iload_n 2, 1) := by decide +kernel
theorem dX1_sumPaintedSizes_5 : decode cX1_sumPaintedSizes 5 = .ok (.aload_n 0, 1) := by decide +kernel
theorem dX1_sumPaintedSizes_6 : decode cX1_sumPaintedSizes 6 = .ok (.getfield 36, 3) := by decide +kernel
theorem dX1_sumPaintedSizes_9 : decode cX1_sumPaintedSizes 9 = .ok (.if_icmp .ge 26, 3) := by decide +kernel
theorem dX1_sumPaintedSizes_12 : decode cX1_sumPaintedSizes 12 = .ok (.aload_n 0, 1) := by decide +kernel
theorem dX1_sumPaintedSizes_13 : decode cX1_sumPaintedSizes 13 = .ok (.iload_n 2, 1) := by decide +kernel
theorem dX1_sumPaintedSizes_14 : decode cX1_sumPaintedSizes 14 = .ok (.invokevirtual 59, 3) := by decide +kernel
theorem dX1_sumPaintedSizes_17 : decode cX1_sumPaintedSizes 17 = .ok (.ifCond .eq 12, 3) := by decide +kernel
theorem dX1_sumPaintedSizes_20 : decode cX1_sumPaintedSizes 20 = .ok (.iload_n 1, 1) := by decide +kernel
theorem dX1_sumPaintedSizes_21 : decode cX1_sumPaintedSizes 21 = .ok (.aload_n 0, 1) := by decide +kernel
theorem dX1_sumPaintedSizes_22 : decode cX1_sumPaintedSizes 22 = .ok (.getfield 9, 3) := by decide +kernel
theorem dX1_sumPaintedSizes_25 : decode cX1_sumPaintedSizes 25 = .ok (.iload_n 2, 1) := by decide +kernel
theorem dX1_sumPaintedSizes_26 : decode cX1_sumPaintedSizes 26 = .ok (.iaload, 1) := by decide +kernel
theorem dX1_sumPaintedSizes_27 : decode cX1_sumPaintedSizes 27 = .ok (.iadd, 1) := by decide +kernel
theorem dX1_sumPaintedSizes_28 : decode cX1_sumPaintedSizes 28 = .ok (.istore_n 1, 1) := by decide +kernel
theorem dX1_sumPaintedSizes_29 : decode cX1_sumPaintedSizes 29 = .ok (.iinc 2 1, 3) := by decide +kernel
theorem dX1_sumPaintedSizes_32 : decode cX1_sumPaintedSizes 32 = .ok (.goto (-28), 3) := by decide +kernel
theorem dX1_sumPaintedSizes_35 : decode cX1_sumPaintedSizes 35 = .ok (.iload_n 1, 1) := by decide +kernel
theorem dX1_sumPaintedSizes_36 : decode cX1_sumPaintedSizes 36 = .ok (.ireturn, 1) := by decide +kernel
theorem dX1_countHuesNeeded_0 : decode cX1_countHuesNeeded 0 = .ok (.iconst 1, 1) := by decide +kernel
theorem dX1_countHuesNeeded_1 : decode cX1_countHuesNeeded 1 = .ok (.istore_n 1, 1) := by decide +kernel
theorem dX1_countHuesNeeded_2 : decode cX1_countHuesNeeded 2 = .ok (.iconst 0, 1) := by decide +kernel
theorem dX1_countHuesNeeded_3 : decode cX1_countHuesNeeded 3 = .ok (.istore_n 2, 1) := by decide +kernel
theorem dX1_countHuesNeeded_4 : decode cX1_countHuesNeeded 4 = .ok (.iload_n 2, 1) := by decide +kernel
theorem dX1_countHuesNeeded_5 : decode cX1_countHuesNeeded 5 = .ok (.aload_n 0, 1) := by decide +kernel
theorem dX1_countHuesNeeded_6 : decode cX1_countHuesNeeded 6 = .ok (.getfield 36, 3) := by decide +kernel
theorem dX1_countHuesNeeded_9 : decode cX1_countHuesNeeded 9 = .ok (.if_icmp .ge 22, 3) := by decide +kernel
theorem dX1_countHuesNeeded_12 : decode cX1_countHuesNeeded 12 = .ok (.iload_n 1, 1) := by decide +kernel
theorem dX1_countHuesNeeded_13 : decode cX1_countHuesNeeded 13 = .ok (.aload_n 0, 1) := by decide +kernel
theorem dX1_countHuesNeeded_14 : decode cX1_countHuesNeeded 14 = .ok (.getfield 15, 3) := by decide +kernel
theorem dX1_countHuesNeeded_17 : decode cX1_countHuesNeeded 17 = .ok (.iload_n 2, 1) := by decide +kernel
theorem dX1_countHuesNeeded_18 : decode cX1_countHuesNeeded 18 = .ok (.iaload, 1) := by decide +kernel
theorem dX1_countHuesNeeded_19 : decode cX1_countHuesNeeded 19 = .ok (.iconst 1, 1) := by decide +kernel
theorem dX1_countHuesNeeded_20 : decode cX1_countHuesNeeded 20 = .ok (.iadd, 1) := by decide +kernel
theorem dX1_countHuesNeeded_21 : decode cX1_countHuesNeeded 21 = .ok (.invokestatic 119, 3) := by decide +kernel
theorem dX1_countHuesNeeded_24 : decode cX1_countHuesNeeded 24 = .ok (.istore_n 1, 1) := by decide +kernel
theorem dX1_countHuesNeeded_25 : decode cX1_countHuesNeeded 25 = .ok (.iinc 2 1, 3) := by decide +kernel
theorem dX1_countHuesNeeded_28 : decode cX1_countHuesNeeded 28 = .ok (.goto (-24), 3) := by decide +kernel
theorem dX1_countHuesNeeded_31 : decode cX1_countHuesNeeded 31 = .ok (.iload_n 1, 1) := by decide +kernel
theorem dX1_countHuesNeeded_32 : decode cX1_countHuesNeeded 32 = .ok (.ireturn, 1) := by decide +kernel
theorem dX1_isClique_0 : decode cX1_isClique 0 = .ok (.iload_n 1, 1) := by decide +kernel
theorem dX1_isClique_1 : decode cX1_isClique 1 = .ok (.aload_n 0, 1) := by decide +kernel
theorem dX1_isClique_2 : decode cX1_isClique 2 = .ok (.getfield 36, 3) := by decide +kernel
theorem dX1_isClique_5 : decode cX1_isClique 5 = .ok (.ishr, 1) := by decide +kernel
theorem dX1_isClique_6 : decode cX1_isClique 6 = .ok (.ifCond .eq 5, 3) := by decide +kernel
theorem dX1_isClique_9 : decode cX1_isClique 9 = .ok (.iconst 0, 1) := by decide +kernel
theorem dX1_isClique_10 : decode cX1_isClique 10 = .ok (.ireturn, 1) := by decide +kernel
theorem dX1_isClique_11 : decode cX1_isClique 11 = .ok (.iconst 0, 1) := by decide +kernel
theorem dX1_isClique_12 : decode cX1_isClique 12 = .ok (.istore_n 2, 1) := by decide +kernel
theorem dX1_isClique_13 : decode cX1_isClique 13 = .ok (.iload_n 2, 1) := by decide +kernel
theorem dX1_isClique_14 : decode cX1_isClique 14 = .ok (.aload_n 0, 1) := by decide +kernel
theorem dX1_isClique_15 : decode cX1_isClique 15 = .ok (.getfield 36, 3) := by decide +kernel
theorem dX1_isClique_18 : decode cX1_isClique 18 = .ok (.if_icmp .ge 37, 3) := by decide +kernel
theorem dX1_isClique_21 : decode cX1_isClique 21 = .ok (.iload_n 1, 1) := by decide +kernel
theorem dX1_isClique_22 : decode cX1_isClique 22 = .ok (.aload_n 0, 1) := by decide +kernel
theorem dX1_isClique_23 : decode cX1_isClique 23 = .ok (.getfield 24, 3) := by decide +kernel
theorem dX1_isClique_26 : decode cX1_isClique 26 = .ok (.iload_n 2, 1) := by decide +kernel
theorem dX1_isClique_27 : decode cX1_isClique 27 = .ok (.iaload, 1) := by decide +kernel
theorem dX1_isClique_28 : decode cX1_isClique 28 = .ok (.iconst (-1), 1) := by decide +kernel
theorem dX1_isClique_29 : decode cX1_isClique 29 = .ok (.ixor, 1) := by decide +kernel
theorem dX1_isClique_30 : decode cX1_isClique 30 = .ok (.iand, 1) := by decide +kernel
theorem dX1_isClique_31 : decode cX1_isClique 31 = .ok (.istore_n 3, 1) := by decide +kernel
theorem dX1_isClique_32 : decode cX1_isClique 32 = .ok (.iload_n 3, 1) := by decide +kernel
theorem dX1_isClique_33 : decode cX1_isClique 33 = .ok (.iload_n 2, 1) := by decide +kernel
theorem dX1_isClique_34 : decode cX1_isClique 34 = .ok (.ishr, 1) := by decide +kernel
theorem dX1_isClique_35 : decode cX1_isClique 35 = .ok (.iconst 1, 1) := by decide +kernel
theorem dX1_isClique_36 : decode cX1_isClique 36 = .ok (.iand, 1) := by decide +kernel
theorem dX1_isClique_37 : decode cX1_isClique 37 = .ok (.ifCond .eq 12, 3) := by decide +kernel
theorem dX1_isClique_40 : decode cX1_isClique 40 = .ok (.iload_n 3, 1) := by decide +kernel
theorem dX1_isClique_41 : decode cX1_isClique 41 = .ok (.iconst 1, 1) := by decide +kernel
theorem dX1_isClique_42 : decode cX1_isClique 42 = .ok (.iload_n 2, 1) := by decide +kernel
theorem dX1_isClique_43 : decode cX1_isClique 43 = .ok (.ishl, 1) := by decide +kernel
theorem dX1_isClique_44 : decode cX1_isClique 44 = .ok (.if_icmp .eq 5, 3) := by decide +kernel
theorem dX1_isClique_47 : decode cX1_isClique 47 = .ok (.iconst 0, 1) := by decide +kernel
theorem dX1_isClique_48 : decode cX1_isClique 48 = .ok (.ireturn, 1) := by decide +kernel
theorem dX1_isClique_49 : decode cX1_isClique 49 = .ok (.iinc 2 1, 3) := by decide +kernel
theorem dX1_isClique_52 : decode cX1_isClique 52 = .ok (.goto (-39), 3) := by decide +kernel
theorem dX1_isClique_55 : decode cX1_isClique 55 = .ok (.iconst 1, 1) := by decide +kernel
theorem dX1_isClique_56 : decode cX1_isClique 56 = .ok (.ireturn, 1) := by decide +kernel
theorem dX1_noBorderInOneHue_0 : decode cX1_noBorderInOneHue 0 = .ok (.iconst 0, 1) := by decide +kernel
theorem dX1_noBorderInOneHue_1 : decode cX1_noBorderInOneHue 1 = .ok (.istore_n 1, 1) := by decide +kernel
theorem dX1_noBorderInOneHue_2 : decode cX1_noBorderInOneHue 2 = .ok (.iload_n 1, 1) := by decide +kernel
theorem dX1_noBorderInOneHue_3 : decode cX1_noBorderInOneHue 3 = .ok (.aload_n 0, 1) := by decide +kernel
theorem dX1_noBorderInOneHue_4 : decode cX1_noBorderInOneHue 4 = .ok (.getfield 36, 3) := by decide +kernel
theorem dX1_noBorderInOneHue_7 : decode cX1_noBorderInOneHue 7 = .ok (.if_icmp .ge 56, 3) := by decide +kernel
theorem dX1_noBorderInOneHue_10 : decode cX1_noBorderInOneHue 10 = .ok (.iconst 0, 1) := by decide +kernel
theorem dX1_noBorderInOneHue_11 : decode cX1_noBorderInOneHue 11 = .ok (.istore_n 2, 1) := by decide +kernel
theorem dX1_noBorderInOneHue_12 : decode cX1_noBorderInOneHue 12 = .ok (.iload_n 2, 1) := by decide +kernel
theorem dX1_noBorderInOneHue_13 : decode cX1_noBorderInOneHue 13 = .ok (.iload_n 1, 1) := by decide +kernel
theorem dX1_noBorderInOneHue_14 : decode cX1_noBorderInOneHue 14 = .ok (.if_icmp .ge 43, 3) := by decide +kernel
theorem dX1_noBorderInOneHue_17 : decode cX1_noBorderInOneHue 17 = .ok (.aload_n 0, 1) := by decide +kernel
theorem dX1_noBorderInOneHue_18 : decode cX1_noBorderInOneHue 18 = .ok (.iload_n 1, 1) := by decide +kernel
theorem dX1_noBorderInOneHue_19 : decode cX1_noBorderInOneHue 19 = .ok (.iload_n 2, 1) := by decide +kernel
theorem dX1_noBorderInOneHue_20 : decode cX1_noBorderInOneHue 20 = .ok (.invokevirtual 55, 3) := by decide +kernel
theorem dX1_noBorderInOneHue_23 : decode cX1_noBorderInOneHue 23 = .ok (.ifCond .eq 28, 3) := by decide +kernel
theorem dX1_noBorderInOneHue_26 : decode cX1_noBorderInOneHue 26 = .ok (.aload_n 0, 1) := by decide +kernel
theorem dX1_noBorderInOneHue_27 : decode cX1_noBorderInOneHue 27 = .ok (.iload_n 1, 1) := by decide +kernel
theorem dX1_noBorderInOneHue_28 : decode cX1_noBorderInOneHue 28 = .ok (.invokevirtual 59, 3) := by decide +kernel
theorem dX1_noBorderInOneHue_31 : decode cX1_noBorderInOneHue 31 = .ok (.ifCond .eq 20, 3) := by decide +kernel
theorem dX1_noBorderInOneHue_34 : decode cX1_noBorderInOneHue 34 = .ok (.aload_n 0, 1) := by decide +kernel
theorem dX1_noBorderInOneHue_35 : decode cX1_noBorderInOneHue 35 = .ok (.getfield 15, 3) := by decide +kernel
theorem dX1_noBorderInOneHue_38 : decode cX1_noBorderInOneHue 38 = .ok (.iload_n 1, 1) := by decide +kernel
theorem dX1_noBorderInOneHue_39 : decode cX1_noBorderInOneHue 39 = .ok (.iaload, 1) := by decide +kernel
theorem dX1_noBorderInOneHue_40 : decode cX1_noBorderInOneHue 40 = .ok (.aload_n 0, 1) := by decide +kernel
theorem dX1_noBorderInOneHue_41 : decode cX1_noBorderInOneHue 41 = .ok (.getfield 15, 3) := by decide +kernel
theorem dX1_noBorderInOneHue_44 : decode cX1_noBorderInOneHue 44 = .ok (.iload_n 2, 1) := by decide +kernel
theorem dX1_noBorderInOneHue_45 : decode cX1_noBorderInOneHue 45 = .ok (.iaload, 1) := by decide +kernel
theorem dX1_noBorderInOneHue_46 : decode cX1_noBorderInOneHue 46 = .ok (.if_icmp .ne 5, 3) := by decide +kernel
theorem dX1_noBorderInOneHue_49 : decode cX1_noBorderInOneHue 49 = .ok (.iconst 0, 1) := by decide +kernel
theorem dX1_noBorderInOneHue_50 : decode cX1_noBorderInOneHue 50 = .ok (.ireturn, 1) := by decide +kernel
theorem dX1_noBorderInOneHue_51 : decode cX1_noBorderInOneHue 51 = .ok (.iinc 2 1, 3) := by decide +kernel
theorem dX1_noBorderInOneHue_54 : decode cX1_noBorderInOneHue 54 = .ok (.goto (-42), 3) := by decide +kernel
theorem dX1_noBorderInOneHue_57 : decode cX1_noBorderInOneHue 57 = .ok (.iinc 1 1, 3) := by decide +kernel
theorem dX1_noBorderInOneHue_60 : decode cX1_noBorderInOneHue 60 = .ok (.goto (-58), 3) := by decide +kernel
theorem dX1_noBorderInOneHue_63 : decode cX1_noBorderInOneHue 63 = .ok (.iconst 1, 1) := by decide +kernel
theorem dX1_noBorderInOneHue_64 : decode cX1_noBorderInOneHue 64 = .ok (.ireturn, 1) := by decide +kernel
theorem dX1_stepsAreThePainted_0 : decode cX1_stepsAreThePainted 0 = .ok (.iconst 0, 1) := by decide +kernel
theorem dX1_stepsAreThePainted_1 : decode cX1_stepsAreThePainted 1 = .ok (.istore_n 1, 1) := by decide +kernel
theorem dX1_stepsAreThePainted_2 : decode cX1_stepsAreThePainted 2 = .ok (.iconst 0, 1) := by decide +kernel
theorem dX1_stepsAreThePainted_3 : decode cX1_stepsAreThePainted 3 = .ok (.istore_n 2, 1) := by decide +kernel
theorem dX1_stepsAreThePainted_4 : decode cX1_stepsAreThePainted 4 = .ok (.iload_n 2, 1) := by decide +kernel
theorem dX1_stepsAreThePainted_5 : decode cX1_stepsAreThePainted 5 = .ok (.aload_n 0, 1) := by decide +kernel
theorem dX1_stepsAreThePainted_6 : decode cX1_stepsAreThePainted 6 = .ok (.getfield 43, 3) := by decide +kernel
theorem dX1_stepsAreThePainted_9 : decode cX1_stepsAreThePainted 9 = .ok (.if_icmp .ge 20, 3) := by decide +kernel
theorem dX1_stepsAreThePainted_12 : decode cX1_stepsAreThePainted 12 = .ok (.iload_n 1, 1) := by decide +kernel
theorem dX1_stepsAreThePainted_13 : decode cX1_stepsAreThePainted 13 = .ok (.iconst 1, 1) := by decide +kernel
theorem dX1_stepsAreThePainted_14 : decode cX1_stepsAreThePainted 14 = .ok (.aload_n 0, 1) := by decide +kernel
theorem dX1_stepsAreThePainted_15 : decode cX1_stepsAreThePainted 15 = .ok (.getfield 27, 3) := by decide +kernel
theorem dX1_stepsAreThePainted_18 : decode cX1_stepsAreThePainted 18 = .ok (.iload_n 2, 1) := by decide +kernel
theorem dX1_stepsAreThePainted_19 : decode cX1_stepsAreThePainted 19 = .ok (.iaload, 1) := by decide +kernel
theorem dX1_stepsAreThePainted_20 : decode cX1_stepsAreThePainted 20 = .ok (.ishl, 1) := by decide +kernel
theorem dX1_stepsAreThePainted_21 : decode cX1_stepsAreThePainted 21 = .ok (.ior, 1) := by decide +kernel
theorem dX1_stepsAreThePainted_22 : decode cX1_stepsAreThePainted 22 = .ok (.istore_n 1, 1) := by decide +kernel
theorem dX1_stepsAreThePainted_23 : decode cX1_stepsAreThePainted 23 = .ok (.iinc 2 1, 3) := by decide +kernel
theorem dX1_stepsAreThePainted_26 : decode cX1_stepsAreThePainted 26 = .ok (.goto (-22), 3) := by decide +kernel
theorem dX1_stepsAreThePainted_29 : decode cX1_stepsAreThePainted 29 = .ok (.aload_n 0, 1) := by decide +kernel
theorem dX1_stepsAreThePainted_30 : decode cX1_stepsAreThePainted 30 = .ok (.getfield 43, 3) := by decide +kernel
theorem dX1_stepsAreThePainted_33 : decode cX1_stepsAreThePainted 33 = .ok (.aload_n 0, 1) := by decide +kernel
theorem dX1_stepsAreThePainted_34 : decode cX1_stepsAreThePainted 34 = .ok (.invokevirtual 122, 3) := by decide +kernel
theorem dX1_stepsAreThePainted_37 : decode cX1_stepsAreThePainted 37 = .ok (.if_icmp .ne 24, 3) := by decide +kernel
theorem dX1_stepsAreThePainted_40 : decode cX1_stepsAreThePainted 40 = .ok (.iload_n 1, 1) := by decide +kernel
theorem dX1_stepsAreThePainted_41 : decode cX1_stepsAreThePainted 41 = .ok (.aload_n 0, 1) := by decide +kernel
theorem dX1_stepsAreThePainted_42 : decode cX1_stepsAreThePainted 42 = .ok (.invokevirtual 107, 3) := by decide +kernel
theorem dX1_stepsAreThePainted_45 : decode cX1_stepsAreThePainted 45 = .ok (.ixor, 1) := by decide +kernel
theorem dX1_stepsAreThePainted_46 : decode cX1_stepsAreThePainted 46 = .ok (.iconst 1, 1) := by decide +kernel
theorem dX1_stepsAreThePainted_47 : decode cX1_stepsAreThePainted 47 = .ok (.aload_n 0, 1) := by decide +kernel
theorem dX1_stepsAreThePainted_48 : decode cX1_stepsAreThePainted 48 = .ok (.getfield 36, 3) := by decide +kernel
theorem dX1_stepsAreThePainted_51 : decode cX1_stepsAreThePainted 51 = .ok (.ishl, 1) := by decide +kernel
theorem dX1_stepsAreThePainted_52 : decode cX1_stepsAreThePainted 52 = .ok (.iconst 1, 1) := by decide +kernel
theorem dX1_stepsAreThePainted_53 : decode cX1_stepsAreThePainted 53 = .ok (.isub, 1) := by decide +kernel
theorem dX1_stepsAreThePainted_54 : decode cX1_stepsAreThePainted 54 = .ok (.if_icmp .ne 7, 3) := by decide +kernel
theorem dX1_stepsAreThePainted_57 : decode cX1_stepsAreThePainted 57 = .ok (.iconst 1, 1) := by decide +kernel
theorem dX1_stepsAreThePainted_58 : decode cX1_stepsAreThePainted 58 = .ok (.goto 4, 3) := by decide +kernel
theorem dX1_stepsAreThePainted_61 : decode cX1_stepsAreThePainted 61 = .ok (.iconst 0, 1) := by decide +kernel
theorem dX1_stepsAreThePainted_62 : decode cX1_stepsAreThePainted 62 = .ok (.ireturn, 1) := by decide +kernel
theorem dX2_init_0 : decode cX2_init 0 = .ok (.aload_n 0, 1) := by decide +kernel
theorem dX2_init_1 : decode cX2_init 1 = .ok (.invokespecial 3, 3) := by decide +kernel
theorem dX2_init_4 : decode cX2_init 4 = .ok (.aload_n 0, 1) := by decide +kernel
theorem dX2_init_5 : decode cX2_init 5 = .ok (.bipush 60, 2) := by decide +kernel
theorem dX2_init_7 : decode cX2_init 7 = .ok (.newarray .char, 2) := by decide +kernel
theorem dX2_init_9 : decode cX2_init 9 = .ok (.putfield 9, 3) := by decide +kernel
theorem dX2_init_12 : decode cX2_init 12 = .ok (.aload_n 0, 1) := by decide +kernel
theorem dX2_init_13 : decode cX2_init 13 = .ok (.iconst 0, 1) := by decide +kernel
theorem dX2_init_14 : decode cX2_init 14 = .ok (.putfield 15, 3) := by decide +kernel
theorem dX2_init_17 : decode cX2_init 17 = .ok (.aload_n 0, 1) := by decide +kernel
theorem dX2_init_18 : decode cX2_init 18 = .ok (.iconst 0, 1) := by decide +kernel
theorem dX2_init_19 : decode cX2_init 19 = .ok (.putfield 19, 3) := by decide +kernel
theorem dX2_init_22 : decode cX2_init 22 = .ok (.aload_n 0, 1) := by decide +kernel
theorem dX2_init_23 : decode cX2_init 23 = .ok (.iconst 0, 1) := by decide +kernel
theorem dX2_init_24 : decode cX2_init 24 = .ok (.putfield 22, 3) := by decide +kernel
theorem dX2_init_27 : decode cX2_init 27 = .ok (.aload_n 0, 1) := by decide +kernel
theorem dX2_init_28 : decode cX2_init 28 = .ok (.iconst 3, 1) := by decide +kernel
theorem dX2_init_29 : decode cX2_init 29 = .ok (.newarray .int, 2) := by decide +kernel
theorem dX2_init_31 : decode cX2_init 31 = .ok (.putfield 25, 3) := by decide +kernel
theorem dX2_init_34 : decode cX2_init 34 = .ok (.aload_n 0, 1) := by decide +kernel
theorem dX2_init_35 : decode cX2_init 35 = .ok (.iconst 0, 1) := by decide +kernel
theorem dX2_init_36 : decode cX2_init 36 = .ok (.putfield 29, 3) := by decide +kernel
theorem dX2_init_39 : decode cX2_init 39 = .ok (.return_, 1) := by decide +kernel
theorem dX2_add_0 : decode cX2_add 0 = .ok (.aload_n 0, 1) := by decide +kernel
theorem dX2_add_1 : decode cX2_add 1 = .ok (.getfield 15, 3) := by decide +kernel
theorem dX2_add_4 : decode cX2_add 4 = .ok (.bipush 60, 2) := by decide +kernel
theorem dX2_add_6 : decode cX2_add 6 = .ok (.if_icmp .ge 23, 3) := by decide +kernel
theorem dX2_add_9 : decode cX2_add 9 = .ok (.aload_n 0, 1) := by decide +kernel
theorem dX2_add_10 : decode cX2_add 10 = .ok (.getfield 9, 3) := by decide +kernel
theorem dX2_add_13 : decode cX2_add 13 = .ok (.aload_n 0, 1) := by decide +kernel
theorem dX2_add_14 : decode cX2_add 14 = .ok (.getfield 15, 3) := by decide +kernel
theorem dX2_add_17 : decode cX2_add 17 = .ok (.iload_n 1, 1) := by decide +kernel
theorem dX2_add_18 : decode cX2_add 18 = .ok (.castore, 1) := by decide +kernel
theorem dX2_add_19 : decode cX2_add 19 = .ok (.aload_n 0, 1) := by decide +kernel
theorem dX2_add_20 : decode cX2_add 20 = .ok (.dup, 1) := by decide +kernel
theorem dX2_add_21 : decode cX2_add 21 = .ok (.getfield 15, 3) := by decide +kernel
theorem dX2_add_24 : decode cX2_add 24 = .ok (.iconst 1, 1) := by decide +kernel
theorem dX2_add_25 : decode cX2_add 25 = .ok (.iadd, 1) := by decide +kernel
theorem dX2_add_26 : decode cX2_add 26 = .ok (.putfield 15, 3) := by decide +kernel
theorem dX2_add_29 : decode cX2_add 29 = .ok (.return_, 1) := by decide +kernel
theorem dX2_findError_0 : decode cX2_findError 0 = .ok (.aload_n 0, 1) := by decide +kernel
theorem dX2_findError_1 : decode cX2_findError 1 = .ok (.iconst 0, 1) := by decide +kernel
theorem dX2_findError_2 : decode cX2_findError 2 = .ok (.putfield 19, 3) := by decide +kernel
theorem dX2_findError_5 : decode cX2_findError 5 = .ok (.iconst 0, 1) := by decide +kernel
theorem dX2_findError_6 : decode cX2_findError 6 = .ok (.istore_n 1, 1) := by decide +kernel
theorem dX2_findError_7 : decode cX2_findError 7 = .ok (.iload_n 1, 1) := by decide +kernel
theorem dX2_findError_8 : decode cX2_findError 8 = .ok (.bipush 60, 2) := by decide +kernel
theorem dX2_findError_10 : decode cX2_findError 10 = .ok (.if_icmp .ge 63, 3) := by decide +kernel
theorem dX2_findError_13 : decode cX2_findError 13 = .ok (.aload_n 0, 1) := by decide +kernel
theorem dX2_findError_14 : decode cX2_findError 14 = .ok (.invokevirtual 32, 3) := by decide +kernel
theorem dX2_findError_17 : decode cX2_findError 17 = .ok (.ifCond .ne 8, 3) := by decide +kernel
theorem dX2_findError_20 : decode cX2_findError 20 = .ok (.aload_n 0, 1) := by decide +kernel
theorem dX2_findError_21 : decode cX2_findError 21 = .ok (.getfield 19, 3) := by decide +kernel
theorem dX2_findError_24 : decode cX2_findError 24 = .ok (.ireturn, 1) := by decide +kernel
theorem dX2_findError_25 : decode cX2_findError 25 = .ok (.aload_n 0, 1) := by decide +kernel
theorem dX2_findError_26 : decode cX2_findError 26 = .ok (.getfield 19, 3) := by decide +kernel
theorem dX2_findError_29 : decode cX2_findError 29 = .ok (.aload_n 0, 1) := by decide +kernel
theorem dX2_findError_30 : decode cX2_findError 30 = .ok (.getfield 15, 3) := by decide +kernel
theorem dX2_findError_33 : decode cX2_findError 33 = .ok (.if_icmp .lt 5, 3) := by decide +kernel
theorem dX2_findError_36 : decode cX2_findError 36 = .ok (.iconst (-1), 1) := by decide +kernel
theorem dX2_findError_37 : decode cX2_findError 37 = .ok (.ireturn, 1) := by decide +kernel
theorem dX2_findError_38 : decode cX2_findError 38 = .ok (.aload_n 0, 1) := by decide +kernel
theorem dX2_findError_39 : decode cX2_findError 39 = .ok (.getfield 9, 3) := by decide +kernel
theorem dX2_findError_42 : decode cX2_findError 42 = .ok (.aload_n 0, 1) := by decide +kernel
theorem dX2_findError_43 : decode cX2_findError 43 = .ok (.getfield 19, 3) := by decide +kernel
theorem dX2_findError_46 : decode cX2_findError 46 = .ok (.caload, 1) := by decide +kernel
theorem dX2_findError_47 : decode cX2_findError 47 = .ok (.bipush 59, 2) := by decide +kernel
theorem dX2_findError_49 : decode cX2_findError 49 = .ok (.if_icmp .eq 8, 3) := by decide +kernel
theorem dX2_findError_52 : decode cX2_findError 52 = .ok (.aload_n 0, 1) := by decide +kernel
theorem dX2_findError_53 : decode cX2_findError 53 = .ok (.getfield 19, 3) := by decide +kernel
theorem dX2_findError_56 : decode cX2_findError 56 = .ok (.ireturn, 1) := by decide +kernel
theorem dX2_findError_57 : decode cX2_findError 57 = .ok (.aload_n 0, 1) := by decide +kernel
theorem dX2_findError_58 : decode cX2_findError 58 = .ok (.dup, 1) := by decide +kernel
theorem dX2_findError_59 : decode cX2_findError 59 = .ok (.getfield 19, 3) := by decide +kernel
theorem dX2_findError_62 : decode cX2_findError 62 = .ok (.iconst 1, 1) := by decide +kernel
theorem dX2_findError_63 : decode cX2_findError 63 = .ok (.iadd, 1) := by decide +kernel
theorem dX2_findError_64 : decode cX2_findError 64 = .ok (.putfield 19, 3) := by decide +kernel
theorem dX2_findError_67 : decode cX2_findError 67 = .ok (.iinc 1 1, 3) := by decide +kernel
theorem dX2_findError_70 : decode cX2_findError 70 = .ok (.goto (-63), 3) := by decide +kernel
theorem dX2_findError_73 : decode cX2_findError 73 = .ok (.aload_n 0, 1) := by decide +kernel
theorem dX2_findError_74 : decode cX2_findError 74 = .ok (.getfield 19, 3) := by decide +kernel
theorem dX2_findError_77 : decode cX2_findError 77 = .ok (.ireturn, 1) := by decide +kernel
theorem dX2_takeOrder_0 : decode cX2_takeOrder 0 = .ok (.aload_n 0, 1) := by decide +kernel
theorem dX2_takeOrder_1 : decode cX2_takeOrder 1 = .ok (.invokevirtual 32, 3) := by decide +kernel
theorem dX2_takeOrder_4 : decode cX2_takeOrder 4 = .ok (.istore_n 1, 1) := by decide +kernel
theorem dX2_takeOrder_5 : decode cX2_takeOrder 5 = .ok (.aload_n 0, 1) := by decide +kernel
theorem dX2_takeOrder_6 : decode cX2_takeOrder 6 = .ok (.dup, 1) := by decide +kernel
theorem dX2_takeOrder_7 : decode cX2_takeOrder 7 = .ok (.getfield 19, 3) := by decide +kernel
theorem dX2_takeOrder_10 : decode cX2_takeOrder 10 = .ok (.iconst 1, 1) := by decide +kernel
theorem dX2_takeOrder_11 : decode cX2_takeOrder 11 = .ok (.iadd, 1) := by decide +kernel
theorem dX2_takeOrder_12 : decode cX2_takeOrder 12 = .ok (.putfield 19, 3) := by decide +kernel
theorem dX2_takeOrder_15 : decode cX2_takeOrder 15 = .ok (.iload_n 1, 1) := by decide +kernel
theorem dX2_takeOrder_16 : decode cX2_takeOrder 16 = .ok (.ireturn, 1) := by decide +kernel
theorem dX2_takeParts_0 : decode cX2_takeParts 0 = .ok (.aload_n 0, 1) := by decide +kernel
theorem dX2_takeParts_1 : decode cX2_takeParts 1 = .ok (.getfield 19, 3) := by decide +kernel
theorem dX2_takeParts_4 : decode cX2_takeParts 4 = .ok (.aload_n 0, 1) := by decide +kernel
theorem dX2_takeParts_5 : decode cX2_takeParts 5 = .ok (.getfield 15, 3) := by decide +kernel
theorem dX2_takeParts_8 : decode cX2_takeParts 8 = .ok (.if_icmp .lt 5, 3) := by decide +kernel
theorem dX2_takeParts_11 : decode cX2_takeParts 11 = .ok (.iconst 0, 1) := by decide +kernel
theorem dX2_takeParts_12 : decode cX2_takeParts 12 = .ok (.ireturn, 1) := by decide +kernel
theorem dX2_takeParts_13 : decode cX2_takeParts 13 = .ok (.aload_n 0, 1) := by decide +kernel
theorem dX2_takeParts_14 : decode cX2_takeParts 14 = .ok (.aload_n 0, 1) := by decide +kernel
theorem dX2_takeParts_15 : decode cX2_takeParts 15 = .ok (.getfield 9, 3) := by decide +kernel
theorem dX2_takeParts_18 : decode cX2_takeParts 18 = .ok (.aload_n 0, 1) := by decide +kernel
theorem dX2_takeParts_19 : decode cX2_takeParts 19 = .ok (.getfield 19, 3) := by decide +kernel
theorem dX2_takeParts_22 : decode cX2_takeParts 22 = .ok (.caload, 1) := by decide +kernel
theorem dX2_takeParts_23 : decode cX2_takeParts 23 = .ok (.putfield 22, 3) := by decide +kernel
theorem dX2_takeParts_26 : decode cX2_takeParts 26 = .ok (.aload_n 0, 1) := by decide +kernel
theorem dX2_takeParts_27 : decode cX2_takeParts 27 = .ok (.getfield 22, 3) := by decide +kernel
theorem dX2_takeParts_30 : decode cX2_takeParts 30 = .ok (.invokestatic 36, 3) := by decide +kernel
theorem dX2_takeParts_33 : decode cX2_takeParts 33 = .ok (.astore_n 1, 1) := by decide +kernel
theorem dX2_takeParts_34 : decode cX2_takeParts 34 = .ok (.aload_n 1, 1) := by decide +kernel
theorem dX2_takeParts_35 : decode cX2_takeParts 35 = .ok (.ifnonnull 5, 3) := by decide +kernel
theorem dX2_takeParts_38 : decode cX2_takeParts 38 = .ok (.iconst 0, 1) := by decide +kernel
theorem dX2_takeParts_39 : decode cX2_takeParts 39 = .ok (.ireturn, 1) := by decide +kernel
theorem dX2_takeParts_40 : decode cX2_takeParts 40 = .ok (.aload_n 0, 1) := by decide +kernel
theorem dX2_takeParts_41 : decode cX2_takeParts 41 = .ok (.dup, 1) := by decide +kernel
theorem dX2_takeParts_42 : decode cX2_takeParts 42 = .ok (.getfield 19, 3) := by decide +kernel
theorem dX2_takeParts_45 : decode cX2_takeParts 45 = .ok (.iconst 1, 1) := by decide +kernel
theorem dX2_takeParts_46 : decode cX2_takeParts 46 = .ok (.iadd, 1) := by decide +kernel
theorem dX2_takeParts_47 : decode cX2_takeParts 47 = .ok (.putfield 19, 3) := by decide +kernel
theorem dX2_takeParts_50 : decode cX2_takeParts 50 = .ok (.aload_n 0, 1) := by decide +kernel
theorem dX2_takeParts_51 : decode cX2_takeParts 51 = .ok (.iconst 0, 1) := by decide +kernel
theorem dX2_takeParts_52 : decode cX2_takeParts 52 = .ok (.putfield 29, 3) := by decide +kernel
theorem dX2_takeParts_55 : decode cX2_takeParts 55 = .ok (.iconst 0, 1) := by decide +kernel
theorem dX2_takeParts_56 : decode cX2_takeParts 56 = .ok (.istore_n 2, 1) := by decide +kernel
theorem dX2_takeParts_57 : decode cX2_takeParts 57 = .ok (.iload_n 2, 1) := by decide +kernel
theorem dX2_takeParts_58 : decode cX2_takeParts 58 = .ok (.aload_n 1, 1) := by decide +kernel
theorem dX2_takeParts_59 : decode cX2_takeParts 59 = .ok (.invokevirtual 40, 3) := by decide +kernel
theorem dX2_takeParts_62 : decode cX2_takeParts 62 = .ok (.if_icmp .ge 23, 3) := by decide +kernel
theorem dX2_takeParts_65 : decode cX2_takeParts 65 = .ok (.aload_n 0, 1) := by decide +kernel
theorem dX2_takeParts_66 : decode cX2_takeParts 66 = .ok (.aload_n 1, 1) := by decide +kernel
theorem dX2_takeParts_67 : decode cX2_takeParts 67 = .ok (.iload_n 2, 1) := by decide +kernel
theorem dX2_takeParts_68 : decode cX2_takeParts 68 = .ok (.invokevirtual 45, 3) := by decide +kernel
theorem dX2_takeParts_71 : decode cX2_takeParts 71 = .ok (.invokevirtual 49, 3) := by decide +kernel
theorem dX2_takeParts_74 : decode cX2_takeParts 74 = .ok (.ifCond .ne 5, 3) := by decide +kernel
theorem dX2_takeParts_77 : decode cX2_takeParts 77 = .ok (.iconst 0, 1) := by decide +kernel
theorem dX2_takeParts_78 : decode cX2_takeParts 78 = .ok (.ireturn, 1) := by decide +kernel
theorem dX2_takeParts_79 : decode cX2_takeParts 79 = .ok (.iinc 2 1, 3) := by decide +kernel
theorem dX2_takeParts_82 : decode cX2_takeParts 82 = .ok (.goto (-25), 3) := by decide +kernel
theorem dX2_takeParts_85 : decode cX2_takeParts 85 = .ok (.iconst 1, 1) := by decide +kernel
theorem dX2_takeParts_86 : decode cX2_takeParts 86 = .ok (.ireturn, 1) := by decide +kernel
theorem dX2_shapeOf_0 : decode cX2_shapeOf 0 = .ok (.iload_n 0, 1) := by decide +kernel
theorem dX2_shapeOf_1 : decode cX2_shapeOf 1 = .ok (.tableswitch 128 98 120 #[110, 128, 128, 128, 116, 128, 122, 128, 125, 128, 128, 128, 128, 128, 107, 128, 128, 128, 128, 128, 128, 119, 113], 107) := by decide +kernel
theorem dX2_shapeOf_108 : decode cX2_shapeOf 108 = .ok (.ldc 53, 2) := by decide +kernel
theorem dX2_shapeOf_110 : decode cX2_shapeOf 110 = .ok (.areturn, 1) := by decide +kernel
theorem dX2_shapeOf_111 : decode cX2_shapeOf 111 = .ok (.ldc 55, 2) := by decide +kernel
theorem dX2_shapeOf_113 : decode cX2_shapeOf 113 = .ok (.areturn, 1) := by decide +kernel
theorem dX2_shapeOf_114 : decode cX2_shapeOf 114 = .ok (.ldc 57, 2) := by decide +kernel
theorem dX2_shapeOf_116 : decode cX2_shapeOf 116 = .ok (.areturn, 1) := by decide +kernel
theorem dX2_shapeOf_117 : decode cX2_shapeOf 117 = .ok (.ldc 57, 2) := by decide +kernel
theorem dX2_shapeOf_119 : decode cX2_shapeOf 119 = .ok (.areturn, 1) := by decide +kernel
theorem dX2_shapeOf_120 : decode cX2_shapeOf 120 = .ok (.ldc 59, 2) := by decide +kernel
theorem dX2_shapeOf_122 : decode cX2_shapeOf 122 = .ok (.areturn, 1) := by decide +kernel
theorem dX2_shapeOf_123 : decode cX2_shapeOf 123 = .ok (.ldc 61, 2) := by decide +kernel
theorem dX2_shapeOf_125 : decode cX2_shapeOf 125 = .ok (.areturn, 1) := by decide +kernel
theorem dX2_shapeOf_126 : decode cX2_shapeOf 126 = .ok (.ldc 63, 2) := by decide +kernel
theorem dX2_shapeOf_128 : decode cX2_shapeOf 128 = .ok (.areturn, 1) := by decide +kernel
theorem dX2_shapeOf_129 : decode cX2_shapeOf 129 = .ok (.aconst_null, 1) := by decide +kernel
theorem dX2_shapeOf_130 : decode cX2_shapeOf 130 = .ok (.areturn, 1) := by decide +kernel
theorem dX2_takePart_0 : decode cX2_takePart 0 = .ok (.iload_n 1, 1) := by decide +kernel
theorem dX2_takePart_1 : decode cX2_takePart 1 = .ok (.bipush 100, 2) := by decide +kernel
theorem dX2_takePart_3 : decode cX2_takePart 3 = .ok (.if_icmp .ne 9, 3) := by decide +kernel
theorem dX2_takePart_6 : decode cX2_takePart 6 = .ok (.aload_n 0, 1) := by decide +kernel
theorem dX2_takePart_7 : decode cX2_takePart 7 = .ok (.iconst 1, 1) := by decide +kernel
theorem dX2_takePart_8 : decode cX2_takePart 8 = .ok (.invokevirtual 65, 3) := by decide +kernel
theorem dX2_takePart_11 : decode cX2_takePart 11 = .ok (.ireturn, 1) := by decide +kernel
theorem dX2_takePart_12 : decode cX2_takePart 12 = .ok (.iload_n 1, 1) := by decide +kernel
theorem dX2_takePart_13 : decode cX2_takePart 13 = .ok (.bipush 110, 2) := by decide +kernel
theorem dX2_takePart_15 : decode cX2_takePart 15 = .ok (.if_icmp .ne 9, 3) := by decide +kernel
theorem dX2_takePart_18 : decode cX2_takePart 18 = .ok (.aload_n 0, 1) := by decide +kernel
theorem dX2_takePart_19 : decode cX2_takePart 19 = .ok (.iconst 2, 1) := by decide +kernel
theorem dX2_takePart_20 : decode cX2_takePart 20 = .ok (.invokevirtual 65, 3) := by decide +kernel
theorem dX2_takePart_23 : decode cX2_takePart 23 = .ok (.ireturn, 1) := by decide +kernel
theorem dX2_takePart_24 : decode cX2_takePart 24 = .ok (.aload_n 0, 1) := by decide +kernel
theorem dX2_takePart_25 : decode cX2_takePart 25 = .ok (.getfield 19, 3) := by decide +kernel
theorem dX2_takePart_28 : decode cX2_takePart 28 = .ok (.aload_n 0, 1) := by decide +kernel
theorem dX2_takePart_29 : decode cX2_takePart 29 = .ok (.getfield 15, 3) := by decide +kernel
theorem dX2_takePart_32 : decode cX2_takePart 32 = .ok (.if_icmp .ge 16, 3) := by decide +kernel
theorem dX2_takePart_35 : decode cX2_takePart 35 = .ok (.aload_n 0, 1) := by decide +kernel
theorem dX2_takePart_36 : decode cX2_takePart 36 = .ok (.getfield 9, 3) := by decide +kernel
theorem dX2_takePart_39 : decode cX2_takePart 39 = .ok (.aload_n 0, 1) := by decide +kernel
theorem dX2_takePart_40 : decode cX2_takePart 40 = .ok (.getfield 19, 3) := by decide +kernel
theorem dX2_takePart_43 : decode cX2_takePart 43 = .ok (.caload, 1) := by decide +kernel
theorem dX2_takePart_44 : decode cX2_takePart 44 = .ok (.iload_n 1, 1) := by decide +kernel
theorem dX2_takePart_45 : decode cX2_takePart 45 = .ok (.if_icmp .eq 5, 3) := by decide +kernel
theorem dX2_takePart_48 : decode cX2_takePart 48 = .ok (.iconst 0, 1) := by decide +kernel
theorem dX2_takePart_49 : decode cX2_takePart 49 = .ok (.ireturn, 1) := by decide +kernel
theorem dX2_takePart_50 : decode cX2_takePart 50 = .ok (.aload_n 0, 1) := by decide +kernel
theorem dX2_takePart_51 : decode cX2_takePart 51 = .ok (.dup, 1) := by decide +kernel
theorem dX2_takePart_52 : decode cX2_takePart 52 = .ok (.getfield 19, 3) := by decide +kernel
theorem dX2_takePart_55 : decode cX2_takePart 55 = .ok (.iconst 1, 1) := by decide +kernel
theorem dX2_takePart_56 : decode cX2_takePart 56 = .ok (.iadd, 1) := by decide +kernel
theorem dX2_takePart_57 : decode cX2_takePart 57 = .ok (.putfield 19, 3) := by decide +kernel
theorem dX2_takePart_60 : decode cX2_takePart 60 = .ok (.iconst 1, 1) := by decide +kernel
theorem dX2_takePart_61 : decode cX2_takePart 61 = .ok (.ireturn, 1) := by decide +kernel
theorem dX2_takeDigits_0 : decode cX2_takeDigits 0 = .ok (.iconst 0, 1) := by decide +kernel
theorem dX2_takeDigits_1 : decode cX2_takeDigits 1 = .ok (.istore_n 2, 1) := by decide +kernel
theorem dX2_takeDigits_2 : decode cX2_takeDigits 2 = .ok (.iconst 0, 1) := by decide +kernel
theorem dX2_takeDigits_3 : decode cX2_takeDigits 3 = .ok (.istore_n 3, 1) := by decide +kernel
theorem dX2_takeDigits_4 : decode cX2_takeDigits 4 = .ok (.iload_n 3, 1) := by decide +kernel
theorem dX2_takeDigits_5 : decode cX2_takeDigits 5 = .ok (.iload_n 1, 1) := by decide +kernel
theorem dX2_takeDigits_6 : decode cX2_takeDigits 6 = .ok (.if_icmp .ge 76, 3) := by decide +kernel
theorem dX2_takeDigits_9 : decode cX2_takeDigits 9 = .ok (.aload_n 0, 1) := by decide +kernel
theorem dX2_takeDigits_10 : decode cX2_takeDigits 10 = .ok (.getfield 19, 3) := by decide +kernel
theorem dX2_takeDigits_13 : decode cX2_takeDigits 13 = .ok (.aload_n 0, 1) := by decide +kernel
theorem dX2_takeDigits_14 : decode cX2_takeDigits 14 = .ok (.getfield 15, 3) := by decide +kernel
theorem dX2_takeDigits_17 : decode cX2_takeDigits 17 = .ok (.if_icmp .ge 65, 3) := by decide +kernel
theorem dX2_takeDigits_20 : decode cX2_takeDigits 20 = .ok (.aload_n 0, 1) := by decide +kernel
theorem dX2_takeDigits_21 : decode cX2_takeDigits 21 = .ok (.getfield 9, 3) := by decide +kernel
theorem dX2_takeDigits_24 : decode cX2_takeDigits 24 = .ok (.aload_n 0, 1) := by decide +kernel
theorem dX2_takeDigits_25 : decode cX2_takeDigits 25 = .ok (.getfield 19, 3) := by decide +kernel
theorem dX2_takeDigits_28 : decode cX2_takeDigits 28 = .ok (.caload, 1) := by decide +kernel
theorem dX2_takeDigits_29 : decode cX2_takeDigits 29 = .ok (.bipush 48, 2) := by decide +kernel
theorem dX2_takeDigits_31 : decode cX2_takeDigits 31 = .ok (.if_icmp .lt 51, 3) := by decide +kernel
theorem dX2_takeDigits_34 : decode cX2_takeDigits 34 = .ok (.aload_n 0, 1) := by decide +kernel
theorem dX2_takeDigits_35 : decode cX2_takeDigits 35 = .ok (.getfield 9, 3) := by decide +kernel
theorem dX2_takeDigits_38 : decode cX2_takeDigits 38 = .ok (.aload_n 0, 1) := by decide +kernel
theorem dX2_takeDigits_39 : decode cX2_takeDigits 39 = .ok (.getfield 19, 3) := by decide +kernel
theorem dX2_takeDigits_42 : decode cX2_takeDigits 42 = .ok (.caload, 1) := by decide +kernel
theorem dX2_takeDigits_43 : decode cX2_takeDigits 43 = .ok (.bipush 57, 2) := by decide +kernel
theorem dX2_takeDigits_45 : decode cX2_takeDigits 45 = .ok (.if_icmp .gt 37, 3) := by decide +kernel
theorem dX2_takeDigits_48 : decode cX2_takeDigits 48 = .ok (.iload_n 2, 1) := by decide +kernel
theorem dX2_takeDigits_49 : decode cX2_takeDigits 49 = .ok (.bipush 10, 2) := by decide +kernel
theorem dX2_takeDigits_51 : decode cX2_takeDigits 51 = .ok (.imul, 1) := by decide +kernel
theorem dX2_takeDigits_52 : decode cX2_takeDigits 52 = .ok (.aload_n 0, 1) := by decide +kernel
theorem dX2_takeDigits_53 : decode cX2_takeDigits 53 = .ok (.getfield 9, 3) := by decide +kernel
theorem dX2_takeDigits_56 : decode cX2_takeDigits 56 = .ok (.aload_n 0, 1) := by decide +kernel
theorem dX2_takeDigits_57 : decode cX2_takeDigits 57 = .ok (.getfield 19, 3) := by decide +kernel
theorem dX2_takeDigits_60 : decode cX2_takeDigits 60 = .ok (.caload, 1) := by decide +kernel
theorem dX2_takeDigits_61 : decode cX2_takeDigits 61 = .ok (.bipush 48, 2) := by decide +kernel
theorem dX2_takeDigits_63 : decode cX2_takeDigits 63 = .ok (.isub, 1) := by decide +kernel
theorem dX2_takeDigits_64 : decode cX2_takeDigits 64 = .ok (.iadd, 1) := by decide +kernel
theorem dX2_takeDigits_65 : decode cX2_takeDigits 65 = .ok (.istore_n 2, 1) := by decide +kernel
theorem dX2_takeDigits_66 : decode cX2_takeDigits 66 = .ok (.aload_n 0, 1) := by decide +kernel
theorem dX2_takeDigits_67 : decode cX2_takeDigits 67 = .ok (.dup, 1) := by decide +kernel
theorem dX2_takeDigits_68 : decode cX2_takeDigits 68 = .ok (.getfield 19, 3) := by decide +kernel
theorem dX2_takeDigits_71 : decode cX2_takeDigits 71 = .ok (.iconst 1, 1) := by decide +kernel
theorem dX2_takeDigits_72 : decode cX2_takeDigits 72 = .ok (.iadd, 1) := by decide +kernel
theorem dX2_takeDigits_73 : decode cX2_takeDigits 73 = .ok (.putfield 19, 3) := by decide +kernel
theorem dX2_takeDigits_76 : decode cX2_takeDigits 76 = .ok (.iinc 3 1, 3) := by decide +kernel
theorem dX2_takeDigits_79 : decode cX2_takeDigits 79 = .ok (.goto (-75), 3) := by decide +kernel
theorem dX2_takeDigits_82 : decode cX2_takeDigits 82 = .ok (.iload_n 3, 1) := by decide +kernel
theorem dX2_takeDigits_83 : decode cX2_takeDigits 83 = .ok (.ifCond .eq 11, 3) := by decide +kernel
theorem dX2_takeDigits_86 : decode cX2_takeDigits 86 = .ok (.aload_n 0, 1) := by decide +kernel
theorem dX2_takeDigits_87 : decode cX2_takeDigits 87 = .ok (.getfield 29, 3) := by decide +kernel
theorem dX2_takeDigits_90 : decode cX2_takeDigits 90 = .ok (.iconst 3, 1) := by decide +kernel
theorem dX2_takeDigits_91 : decode cX2_takeDigits 91 = .ok (.if_icmp .lt 5, 3) := by decide +kernel
theorem dX2_takeDigits_94 : decode cX2_takeDigits 94 = .ok (.iconst 0, 1) := by decide +kernel
theorem dX2_takeDigits_95 : decode cX2_takeDigits 95 = .ok (.ireturn, 1) := by decide +kernel
theorem dX2_takeDigits_96 : decode cX2_takeDigits 96 = .ok (.aload_n 0, 1) := by decide +kernel
theorem dX2_takeDigits_97 : decode cX2_takeDigits 97 = .ok (.getfield 25, 3) := by decide +kernel
theorem dX2_takeDigits_100 : decode cX2_takeDigits 100 = .ok (.aload_n 0, 1) := by decide +kernel
theorem dX2_takeDigits_101 : decode cX2_takeDigits 101 = .ok (.getfield 29, 3) := by decide +kernel
theorem dX2_takeDigits_104 : decode cX2_takeDigits 104 = .ok (.iload_n 2, 1) := by decide +kernel
theorem dX2_takeDigits_105 : decode cX2_takeDigits 105 = .ok (.iastore, 1) := by decide +kernel
theorem dX2_takeDigits_106 : decode cX2_takeDigits 106 = .ok (.aload_n 0, 1) := by decide +kernel
theorem dX2_takeDigits_107 : decode cX2_takeDigits 107 = .ok (.dup, 1) := by decide +kernel
theorem dX2_takeDigits_108 : decode cX2_takeDigits 108 = .ok (.getfield 29, 3) := by decide +kernel
theorem dX2_takeDigits_111 : decode cX2_takeDigits 111 = .ok (.iconst 1, 1) := by decide +kernel
theorem dX2_takeDigits_112 : decode cX2_takeDigits 112 = .ok (.iadd, 1) := by decide +kernel
theorem dX2_takeDigits_113 : decode cX2_takeDigits 113 = .ok (.putfield 29, 3) := by decide +kernel
theorem dX2_takeDigits_116 : decode cX2_takeDigits 116 = .ok (.iconst 1, 1) := by decide +kernel
theorem dX2_takeDigits_117 : decode cX2_takeDigits 117 = .ok (.ireturn, 1) := by decide +kernel
theorem dX3_init_0 : decode cX3_init 0 = .ok (.aload_n 0, 1) := by decide +kernel
theorem dX3_init_1 : decode cX3_init 1 = .ok (.invokespecial 3, 3) := by decide +kernel
theorem dX3_init_4 : decode cX3_init 4 = .ok (.aload_n 0, 1) := by decide +kernel
theorem dX3_init_5 : decode cX3_init 5 = .ok (.bipush 8, 2) := by decide +kernel
theorem dX3_init_7 : decode cX3_init 7 = .ok (.anewarray 9, 3) := by decide +kernel
theorem dX3_init_10 : decode cX3_init 10 = .ok (.putfield 11, 3) := by decide +kernel
theorem dX3_init_13 : decode cX3_init 13 = .ok (.aload_n 0, 1) := by decide +kernel
theorem dX3_init_14 : decode cX3_init 14 = .ok (.iconst 0, 1) := by decide +kernel
theorem dX3_init_15 : decode cX3_init 15 = .ok (.putfield 17, 3) := by decide +kernel
theorem dX3_init_18 : decode cX3_init 18 = .ok (.aload_n 0, 1) := by decide +kernel
theorem dX3_init_19 : decode cX3_init 19 = .ok (.iconst 0, 1) := by decide +kernel
theorem dX3_init_20 : decode cX3_init 20 = .ok (.putfield 21, 3) := by decide +kernel
theorem dX3_init_23 : decode cX3_init 23 = .ok (.iconst 0, 1) := by decide +kernel
theorem dX3_init_24 : decode cX3_init 24 = .ok (.istore_n 1, 1) := by decide +kernel
theorem dX3_init_25 : decode cX3_init 25 = .ok (.iload_n 1, 1) := by decide +kernel
theorem dX3_init_26 : decode cX3_init 26 = .ok (.bipush 8, 2) := by decide +kernel
theorem dX3_init_28 : decode cX3_init 28 = .ok (.if_icmp .ge 22, 3) := by decide +kernel
theorem dX3_init_31 : decode cX3_init 31 = .ok (.aload_n 0, 1) := by decide +kernel
theorem dX3_init_32 : decode cX3_init 32 = .ok (.getfield 11, 3) := by decide +kernel
theorem dX3_init_35 : decode cX3_init 35 = .ok (.iload_n 1, 1) := by decide +kernel
theorem dX3_init_36 : decode cX3_init 36 = .ok (.new 9, 3) := by decide +kernel
theorem dX3_init_39 : decode cX3_init 39 = .ok (.dup, 1) := by decide +kernel
theorem dX3_init_40 : decode cX3_init 40 = .ok (.invokespecial 24, 3) := by decide +kernel
theorem dX3_init_43 : decode cX3_init 43 = .ok (.aastore, 1) := by decide +kernel
theorem dX3_init_44 : decode cX3_init 44 = .ok (.iinc 1 1, 3) := by decide +kernel
theorem dX3_init_47 : decode cX3_init 47 = .ok (.goto (-22), 3) := by decide +kernel
theorem dX3_init_50 : decode cX3_init 50 = .ok (.return_, 1) := by decide +kernel
theorem dX3_keep_0 : decode cX3_keep 0 = .ok (.aload_n 0, 1) := by decide +kernel
theorem dX3_keep_1 : decode cX3_keep 1 = .ok (.getfield 11, 3) := by decide +kernel
theorem dX3_keep_4 : decode cX3_keep 4 = .ok (.aload_n 0, 1) := by decide +kernel
theorem dX3_keep_5 : decode cX3_keep 5 = .ok (.aload_n 0, 1) := by decide +kernel
theorem dX3_keep_6 : decode cX3_keep 6 = .ok (.getfield 21, 3) := by decide +kernel
theorem dX3_keep_9 : decode cX3_keep 9 = .ok (.invokevirtual 25, 3) := by decide +kernel
theorem dX3_keep_12 : decode cX3_keep 12 = .ok (.aaload, 1) := by decide +kernel
theorem dX3_keep_13 : decode cX3_keep 13 = .ok (.aload_n 1, 1) := by decide +kernel
theorem dX3_keep_14 : decode cX3_keep 14 = .ok (.invokevirtual 29, 3) := by decide +kernel
theorem dX3_keep_17 : decode cX3_keep 17 = .ok (.aload_n 0, 1) := by decide +kernel
theorem dX3_keep_18 : decode cX3_keep 18 = .ok (.getfield 21, 3) := by decide +kernel
theorem dX3_keep_21 : decode cX3_keep 21 = .ok (.bipush 8, 2) := by decide +kernel
theorem dX3_keep_23 : decode cX3_keep 23 = .ok (.if_icmp .ge 16, 3) := by decide +kernel
theorem dX3_keep_26 : decode cX3_keep 26 = .ok (.aload_n 0, 1) := by decide +kernel
theorem dX3_keep_27 : decode cX3_keep 27 = .ok (.dup, 1) := by decide +kernel
theorem dX3_keep_28 : decode cX3_keep 28 = .ok (.getfield 21, 3) := by decide +kernel
theorem dX3_keep_31 : decode cX3_keep 31 = .ok (.iconst 1, 1) := by decide +kernel
theorem dX3_keep_32 : decode cX3_keep 32 = .ok (.iadd, 1) := by decide +kernel
theorem dX3_keep_33 : decode cX3_keep 33 = .ok (.putfield 21, 3) := by decide +kernel
theorem dX3_keep_36 : decode cX3_keep 36 = .ok (.goto 12, 3) := by decide +kernel
theorem dX3_keep_39 : decode cX3_keep 39 = .ok (.aload_n 0, 1) := by decide +kernel
theorem dX3_keep_40 : decode cX3_keep 40 = .ok (.aload_n 0, 1) := by decide +kernel
theorem dX3_keep_41 : decode cX3_keep 41 = .ok (.iconst 1, 1) := by decide +kernel
theorem dX3_keep_42 : decode cX3_keep 42 = .ok (.invokevirtual 25, 3) := by decide +kernel
theorem dX3_keep_45 : decode cX3_keep 45 = .ok (.putfield 17, 3) := by decide +kernel
theorem dX3_keep_48 : decode cX3_keep 48 = .ok (.return_, 1) := by decide +kernel
theorem dX3_takeLatest_0 : decode cX3_takeLatest 0 = .ok (.aload_n 0, 1) := by decide +kernel
theorem dX3_takeLatest_1 : decode cX3_takeLatest 1 = .ok (.getfield 21, 3) := by decide +kernel
theorem dX3_takeLatest_4 : decode cX3_takeLatest 4 = .ok (.ifCond .le 30, 3) := by decide +kernel
theorem dX3_takeLatest_7 : decode cX3_takeLatest 7 = .ok (.aload_n 0, 1) := by decide +kernel
theorem dX3_takeLatest_8 : decode cX3_takeLatest 8 = .ok (.dup, 1) := by decide +kernel
theorem dX3_takeLatest_9 : decode cX3_takeLatest 9 = .ok (.getfield 21, 3) := by decide +kernel
theorem dX3_takeLatest_12 : decode cX3_takeLatest 12 = .ok (.iconst 1, 1) := by decide +kernel
theorem dX3_takeLatest_13 : decode cX3_takeLatest 13 = .ok (.isub, 1) := by decide +kernel
theorem dX3_takeLatest_14 : decode cX3_takeLatest 14 = .ok (.putfield 21, 3) := by decide +kernel
theorem dX3_takeLatest_17 : decode cX3_takeLatest 17 = .ok (.aload_n 1, 1) := by decide +kernel
theorem dX3_takeLatest_18 : decode cX3_takeLatest 18 = .ok (.aload_n 0, 1) := by decide +kernel
theorem dX3_takeLatest_19 : decode cX3_takeLatest 19 = .ok (.getfield 11, 3) := by decide +kernel
theorem dX3_takeLatest_22 : decode cX3_takeLatest 22 = .ok (.aload_n 0, 1) := by decide +kernel
theorem dX3_takeLatest_23 : decode cX3_takeLatest 23 = .ok (.aload_n 0, 1) := by decide +kernel
theorem dX3_takeLatest_24 : decode cX3_takeLatest 24 = .ok (.getfield 21, 3) := by decide +kernel
theorem dX3_takeLatest_27 : decode cX3_takeLatest 27 = .ok (.invokevirtual 25, 3) := by decide +kernel
theorem dX3_takeLatest_30 : decode cX3_takeLatest 30 = .ok (.aaload, 1) := by decide +kernel
theorem dX3_takeLatest_31 : decode cX3_takeLatest 31 = .ok (.invokevirtual 29, 3) := by decide +kernel
theorem dX3_takeLatest_34 : decode cX3_takeLatest 34 = .ok (.return_, 1) := by decide +kernel
theorem dX3_placeAfter_0 : decode cX3_placeAfter 0 = .ok (.aload_n 0, 1) := by decide +kernel
theorem dX3_placeAfter_1 : decode cX3_placeAfter 1 = .ok (.getfield 17, 3) := by decide +kernel
theorem dX3_placeAfter_4 : decode cX3_placeAfter 4 = .ok (.iload_n 1, 1) := by decide +kernel
theorem dX3_placeAfter_5 : decode cX3_placeAfter 5 = .ok (.iadd, 1) := by decide +kernel
theorem dX3_placeAfter_6 : decode cX3_placeAfter 6 = .ok (.bipush 8, 2) := by decide +kernel
theorem dX3_placeAfter_8 : decode cX3_placeAfter 8 = .ok (.invokestatic 33, 3) := by decide +kernel
theorem dX3_placeAfter_11 : decode cX3_placeAfter 11 = .ok (.ireturn, 1) := by decide +kernel
theorem dX4_init_0 : decode cX4_init 0 = .ok (.aload_n 0, 1) := by decide +kernel
theorem dX4_init_1 : decode cX4_init 1 = .ok (.invokespecial 1, 3) := by decide +kernel
theorem dX4_init_4 : decode cX4_init 4 = .ok (.aload_n 0, 1) := by decide +kernel
theorem dX4_init_5 : decode cX4_init 5 = .ok (.new 7, 3) := by decide +kernel
theorem dX4_init_8 : decode cX4_init 8 = .ok (.dup, 1) := by decide +kernel
theorem dX4_init_9 : decode cX4_init 9 = .ok (.invokespecial 9, 3) := by decide +kernel
theorem dX4_init_12 : decode cX4_init 12 = .ok (.putfield 10, 3) := by decide +kernel
theorem dX4_init_15 : decode cX4_init 15 = .ok (.aload_n 0, 1) := by decide +kernel
theorem dX4_init_16 : decode cX4_init 16 = .ok (.new 7, 3) := by decide +kernel
theorem dX4_init_19 : decode cX4_init 19 = .ok (.dup, 1) := by decide +kernel
theorem dX4_init_20 : decode cX4_init 20 = .ok (.invokespecial 9, 3) := by decide +kernel
theorem dX4_init_23 : decode cX4_init 23 = .ok (.putfield 16, 3) := by decide +kernel
theorem dX4_init_26 : decode cX4_init 26 = .ok (.aload_n 0, 1) := by decide +kernel
theorem dX4_init_27 : decode cX4_init 27 = .ok (.new 7, 3) := by decide +kernel
theorem dX4_init_30 : decode cX4_init 30 = .ok (.dup, 1) := by decide +kernel
theorem dX4_init_31 : decode cX4_init 31 = .ok (.invokespecial 9, 3) := by decide +kernel
theorem dX4_init_34 : decode cX4_init 34 = .ok (.putfield 19, 3) := by decide +kernel
theorem dX4_init_37 : decode cX4_init 37 = .ok (.aload_n 0, 1) := by decide +kernel
theorem dX4_init_38 : decode cX4_init 38 = .ok (.new 22, 3) := by decide +kernel
theorem dX4_init_41 : decode cX4_init 41 = .ok (.dup, 1) := by decide +kernel
theorem dX4_init_42 : decode cX4_init 42 = .ok (.invokespecial 24, 3) := by decide +kernel
theorem dX4_init_45 : decode cX4_init 45 = .ok (.putfield 25, 3) := by decide +kernel
theorem dX4_init_48 : decode cX4_init 48 = .ok (.aload_n 0, 1) := by decide +kernel
theorem dX4_init_49 : decode cX4_init 49 = .ok (.new 29, 3) := by decide +kernel
theorem dX4_init_52 : decode cX4_init 52 = .ok (.dup, 1) := by decide +kernel
theorem dX4_init_53 : decode cX4_init 53 = .ok (.invokespecial 31, 3) := by decide +kernel
theorem dX4_init_56 : decode cX4_init 56 = .ok (.putfield 32, 3) := by decide +kernel
theorem dX4_init_59 : decode cX4_init 59 = .ok (.aload_n 0, 1) := by decide +kernel
theorem dX4_init_60 : decode cX4_init 60 = .ok (.new 36, 3) := by decide +kernel
theorem dX4_init_63 : decode cX4_init 63 = .ok (.dup, 1) := by decide +kernel
theorem dX4_init_64 : decode cX4_init 64 = .ok (.invokespecial 38, 3) := by decide +kernel
theorem dX4_init_67 : decode cX4_init 67 = .ok (.putfield 39, 3) := by decide +kernel
theorem dX4_init_70 : decode cX4_init 70 = .ok (.aload_n 0, 1) := by decide +kernel
theorem dX4_init_71 : decode cX4_init 71 = .ok (.bipush 17, 2) := by decide +kernel
theorem dX4_init_73 : decode cX4_init 73 = .ok (.newarray .char, 2) := by decide +kernel
theorem dX4_init_75 : decode cX4_init 75 = .ok (.putfield 43, 3) := by decide +kernel
theorem dX4_init_78 : decode cX4_init 78 = .ok (.aload_n 0, 1) := by decide +kernel
theorem dX4_init_79 : decode cX4_init 79 = .ok (.iconst 0, 1) := by decide +kernel
theorem dX4_init_80 : decode cX4_init 80 = .ok (.putfield 47, 3) := by decide +kernel
theorem dX4_init_83 : decode cX4_init 83 = .ok (.aload_n 0, 1) := by decide +kernel
theorem dX4_init_84 : decode cX4_init 84 = .ok (.iconst 0, 1) := by decide +kernel
theorem dX4_init_85 : decode cX4_init 85 = .ok (.putfield 51, 3) := by decide +kernel
theorem dX4_init_88 : decode cX4_init 88 = .ok (.aload_n 0, 1) := by decide +kernel
theorem dX4_init_89 : decode cX4_init 89 = .ok (.iconst (-1), 1) := by decide +kernel
theorem dX4_init_90 : decode cX4_init 90 = .ok (.putfield 55, 3) := by decide +kernel
theorem dX4_init_93 : decode cX4_init 93 = .ok (.aload_n 0, 1) := by decide +kernel
theorem dX4_init_94 : decode cX4_init 94 = .ok (.iconst 0, 1) := by decide +kernel
theorem dX4_init_95 : decode cX4_init 95 = .ok (.putfield 58, 3) := by decide +kernel
theorem dX4_init_98 : decode cX4_init 98 = .ok (.aload_n 0, 1) := by decide +kernel
theorem dX4_init_99 : decode cX4_init 99 = .ok (.iconst 0, 1) := by decide +kernel
theorem dX4_init_100 : decode cX4_init 100 = .ok (.putfield 61, 3) := by decide +kernel
theorem dX4_init_103 : decode cX4_init 103 = .ok (.return_, 1) := by decide +kernel
theorem dX4_country_0 : decode cX4_country 0 = .ok (.iload_n 1, 1) := by decide +kernel
theorem dX4_country_1 : decode cX4_country 1 = .ok (.iconst 1, 1) := by decide +kernel
theorem dX4_country_2 : decode cX4_country 2 = .ok (.if_icmp .lt 9, 3) := by decide +kernel
theorem dX4_country_5 : decode cX4_country 5 = .ok (.iload_n 1, 1) := by decide +kernel
theorem dX4_country_6 : decode cX4_country 6 = .ok (.bipush 9, 2) := by decide +kernel
theorem dX4_country_8 : decode cX4_country 8 = .ok (.if_icmp .le 13, 3) := by decide +kernel
theorem dX4_country_11 : decode cX4_country 11 = .ok (.new 64, 3) := by decide +kernel
theorem dX4_country_14 : decode cX4_country 14 = .ok (.dup, 1) := by decide +kernel
theorem dX4_country_15 : decode cX4_country 15 = .ok (.ldc 66, 2) := by decide +kernel
theorem dX4_country_17 : decode cX4_country 17 = .ok (.invokespecial 68, 3) := by decide +kernel
theorem dX4_country_20 : decode cX4_country 20 = .ok (.athrow, 1) := by decide +kernel
theorem dX4_country_21 : decode cX4_country 21 = .ok (.aload_n 0, 1) := by decide +kernel
theorem dX4_country_22 : decode cX4_country 22 = .ok (.aload_n 0, 1) := by decide +kernel
theorem dX4_country_23 : decode cX4_country 23 = .ok (.getfield 10, 3) := by decide +kernel
theorem dX4_country_26 : decode cX4_country 26 = .ok (.invokevirtual 71, 3) := by decide +kernel
theorem dX4_country_29 : decode cX4_country 29 = .ok (.iconst 0, 1) := by decide +kernel
theorem dX4_country_30 : decode cX4_country 30 = .ok (.iconst 0, 1) := by decide +kernel
theorem dX4_country_31 : decode cX4_country 31 = .ok (.invokevirtual 75, 3) := by decide +kernel
theorem dX4_country_34 : decode cX4_country 34 = .ok (.aload_n 0, 1) := by decide +kernel
theorem dX4_country_35 : decode cX4_country 35 = .ok (.getfield 25, 3) := by decide +kernel
theorem dX4_country_38 : decode cX4_country 38 = .ok (.aload_n 0, 1) := by decide +kernel
theorem dX4_country_39 : decode cX4_country 39 = .ok (.getfield 10, 3) := by decide +kernel
theorem dX4_country_42 : decode cX4_country 42 = .ok (.invokevirtual 79, 3) := by decide +kernel
theorem dX4_country_45 : decode cX4_country 45 = .ok (.aload_n 0, 1) := by decide +kernel
theorem dX4_country_46 : decode cX4_country 46 = .ok (.getfield 10, 3) := by decide +kernel
theorem dX4_country_49 : decode cX4_country 49 = .ok (.iload_n 1, 1) := by decide +kernel
theorem dX4_country_50 : decode cX4_country 50 = .ok (.invokevirtual 83, 3) := by decide +kernel
theorem dX4_country_53 : decode cX4_country 53 = .ok (.ireturn, 1) := by decide +kernel
theorem dX4_border_0 : decode cX4_border 0 = .ok (.aload_n 0, 1) := by decide +kernel
theorem dX4_border_1 : decode cX4_border 1 = .ok (.iload_n 1, 1) := by decide +kernel
theorem dX4_border_2 : decode cX4_border 2 = .ok (.invokevirtual 87, 3) := by decide +kernel
theorem dX4_border_5 : decode cX4_border 5 = .ok (.aload_n 0, 1) := by decide +kernel
theorem dX4_border_6 : decode cX4_border 6 = .ok (.iload_n 2, 1) := by decide +kernel
theorem dX4_border_7 : decode cX4_border 7 = .ok (.invokevirtual 87, 3) := by decide +kernel
theorem dX4_border_10 : decode cX4_border 10 = .ok (.aload_n 0, 1) := by decide +kernel
theorem dX4_border_11 : decode cX4_border 11 = .ok (.aload_n 0, 1) := by decide +kernel
theorem dX4_border_12 : decode cX4_border 12 = .ok (.getfield 10, 3) := by decide +kernel
theorem dX4_border_15 : decode cX4_border 15 = .ok (.iload_n 1, 1) := by decide +kernel
theorem dX4_border_16 : decode cX4_border 16 = .ok (.iload_n 2, 1) := by decide +kernel
theorem dX4_border_17 : decode cX4_border 17 = .ok (.invokevirtual 91, 3) := by decide +kernel
theorem dX4_border_20 : decode cX4_border 20 = .ok (.iload_n 1, 1) := by decide +kernel
theorem dX4_border_21 : decode cX4_border 21 = .ok (.iload_n 2, 1) := by decide +kernel
theorem dX4_border_22 : decode cX4_border 22 = .ok (.invokevirtual 75, 3) := by decide +kernel
theorem dX4_border_25 : decode cX4_border 25 = .ok (.aload_n 0, 1) := by decide +kernel
theorem dX4_border_26 : decode cX4_border 26 = .ok (.getfield 25, 3) := by decide +kernel
theorem dX4_border_29 : decode cX4_border 29 = .ok (.aload_n 0, 1) := by decide +kernel
theorem dX4_border_30 : decode cX4_border 30 = .ok (.getfield 10, 3) := by decide +kernel
theorem dX4_border_33 : decode cX4_border 33 = .ok (.invokevirtual 79, 3) := by decide +kernel
theorem dX4_border_36 : decode cX4_border 36 = .ok (.aload_n 0, 1) := by decide +kernel
theorem dX4_border_37 : decode cX4_border 37 = .ok (.getfield 10, 3) := by decide +kernel
theorem dX4_border_40 : decode cX4_border 40 = .ok (.iload_n 1, 1) := by decide +kernel
theorem dX4_border_41 : decode cX4_border 41 = .ok (.iload_n 2, 1) := by decide +kernel
theorem dX4_border_42 : decode cX4_border 42 = .ok (.invokevirtual 95, 3) := by decide +kernel
theorem dX4_border_45 : decode cX4_border 45 = .ok (.aload_n 0, 1) := by decide +kernel
theorem dX4_border_46 : decode cX4_border 46 = .ok (.getfield 10, 3) := by decide +kernel
theorem dX4_border_49 : decode cX4_border 49 = .ok (.invokevirtual 99, 3) := by decide +kernel
theorem dX4_border_52 : decode cX4_border 52 = .ok (.ireturn, 1) := by decide +kernel
theorem dX4_erase_0 : decode cX4_erase 0 = .ok (.aload_n 0, 1) := by decide +kernel
theorem dX4_erase_1 : decode cX4_erase 1 = .ok (.iload_n 1, 1) := by decide +kernel
theorem dX4_erase_2 : decode cX4_erase 2 = .ok (.invokevirtual 87, 3) := by decide +kernel
theorem dX4_erase_5 : decode cX4_erase 5 = .ok (.aload_n 0, 1) := by decide +kernel
theorem dX4_erase_6 : decode cX4_erase 6 = .ok (.iload_n 2, 1) := by decide +kernel
theorem dX4_erase_7 : decode cX4_erase 7 = .ok (.invokevirtual 87, 3) := by decide +kernel
theorem dX4_erase_10 : decode cX4_erase 10 = .ok (.aload_n 0, 1) := by decide +kernel
theorem dX4_erase_11 : decode cX4_erase 11 = .ok (.aload_n 0, 1) := by decide +kernel
theorem dX4_erase_12 : decode cX4_erase 12 = .ok (.getfield 10, 3) := by decide +kernel
theorem dX4_erase_15 : decode cX4_erase 15 = .ok (.iload_n 1, 1) := by decide +kernel
theorem dX4_erase_16 : decode cX4_erase 16 = .ok (.iload_n 2, 1) := by decide +kernel
theorem dX4_erase_17 : decode cX4_erase 17 = .ok (.invokevirtual 102, 3) := by decide +kernel
theorem dX4_erase_20 : decode cX4_erase 20 = .ok (.iload_n 1, 1) := by decide +kernel
theorem dX4_erase_21 : decode cX4_erase 21 = .ok (.iload_n 2, 1) := by decide +kernel
theorem dX4_erase_22 : decode cX4_erase 22 = .ok (.invokevirtual 75, 3) := by decide +kernel
theorem dX4_erase_25 : decode cX4_erase 25 = .ok (.aload_n 0, 1) := by decide +kernel
theorem dX4_erase_26 : decode cX4_erase 26 = .ok (.getfield 25, 3) := by decide +kernel
theorem dX4_erase_29 : decode cX4_erase 29 = .ok (.aload_n 0, 1) := by decide +kernel
theorem dX4_erase_30 : decode cX4_erase 30 = .ok (.getfield 10, 3) := by decide +kernel
theorem dX4_erase_33 : decode cX4_erase 33 = .ok (.invokevirtual 79, 3) := by decide +kernel
theorem dX4_erase_36 : decode cX4_erase 36 = .ok (.aload_n 0, 1) := by decide +kernel
theorem dX4_erase_37 : decode cX4_erase 37 = .ok (.getfield 10, 3) := by decide +kernel
theorem dX4_erase_40 : decode cX4_erase 40 = .ok (.iload_n 1, 1) := by decide +kernel
theorem dX4_erase_41 : decode cX4_erase 41 = .ok (.iload_n 2, 1) := by decide +kernel
theorem dX4_erase_42 : decode cX4_erase 42 = .ok (.invokevirtual 105, 3) := by decide +kernel
theorem dX4_erase_45 : decode cX4_erase 45 = .ok (.aload_n 0, 1) := by decide +kernel
theorem dX4_erase_46 : decode cX4_erase 46 = .ok (.getfield 10, 3) := by decide +kernel
theorem dX4_erase_49 : decode cX4_erase 49 = .ok (.invokevirtual 99, 3) := by decide +kernel
theorem dX4_erase_52 : decode cX4_erase 52 = .ok (.ireturn, 1) := by decide +kernel
theorem dX4_hasBorder_0 : decode cX4_hasBorder 0 = .ok (.aload_n 0, 1) := by decide +kernel
theorem dX4_hasBorder_1 : decode cX4_hasBorder 1 = .ok (.iload_n 1, 1) := by decide +kernel
theorem dX4_hasBorder_2 : decode cX4_hasBorder 2 = .ok (.invokevirtual 87, 3) := by decide +kernel
theorem dX4_hasBorder_5 : decode cX4_hasBorder 5 = .ok (.aload_n 0, 1) := by decide +kernel
theorem dX4_hasBorder_6 : decode cX4_hasBorder 6 = .ok (.iload_n 2, 1) := by decide +kernel
theorem dX4_hasBorder_7 : decode cX4_hasBorder 7 = .ok (.invokevirtual 87, 3) := by decide +kernel
theorem dX4_hasBorder_10 : decode cX4_hasBorder 10 = .ok (.aload_n 0, 1) := by decide +kernel
theorem dX4_hasBorder_11 : decode cX4_hasBorder 11 = .ok (.getfield 10, 3) := by decide +kernel
theorem dX4_hasBorder_14 : decode cX4_hasBorder 14 = .ok (.iload_n 1, 1) := by decide +kernel
theorem dX4_hasBorder_15 : decode cX4_hasBorder 15 = .ok (.iload_n 2, 1) := by decide +kernel
theorem dX4_hasBorder_16 : decode cX4_hasBorder 16 = .ok (.invokevirtual 108, 3) := by decide +kernel
theorem dX4_hasBorder_19 : decode cX4_hasBorder 19 = .ok (.ireturn, 1) := by decide +kernel
theorem dX4_countryOf_0 : decode cX4_countryOf 0 = .ok (.aload_n 0, 1) := by decide +kernel
theorem dX4_countryOf_1 : decode cX4_countryOf 1 = .ok (.iload_n 1, 1) := by decide +kernel
theorem dX4_countryOf_2 : decode cX4_countryOf 2 = .ok (.invokevirtual 87, 3) := by decide +kernel
theorem dX4_countryOf_5 : decode cX4_countryOf 5 = .ok (.iload_n 2, 1) := by decide +kernel
theorem dX4_countryOf_6 : decode cX4_countryOf 6 = .ok (.tableswitch 112 0 6 #[42, 52, 62, 71, 83, 93, 103], 42) := by decide +kernel
theorem dX4_countryOf_48 : decode cX4_countryOf 48 = .ok (.aload_n 0, 1) := by decide +kernel
theorem dX4_countryOf_49 : decode cX4_countryOf 49 = .ok (.getfield 10, 3) := by decide +kernel
theorem dX4_countryOf_52 : decode cX4_countryOf 52 = .ok (.getfield 112, 3) := by decide +kernel
theorem dX4_countryOf_55 : decode cX4_countryOf 55 = .ok (.iload_n 1, 1) := by decide +kernel
theorem dX4_countryOf_56 : decode cX4_countryOf 56 = .ok (.iaload, 1) := by decide +kernel
theorem dX4_countryOf_57 : decode cX4_countryOf 57 = .ok (.ireturn, 1) := by decide +kernel
theorem dX4_countryOf_58 : decode cX4_countryOf 58 = .ok (.aload_n 0, 1) := by decide +kernel
theorem dX4_countryOf_59 : decode cX4_countryOf 59 = .ok (.getfield 10, 3) := by decide +kernel
theorem dX4_countryOf_62 : decode cX4_countryOf 62 = .ok (.getfield 116, 3) := by decide +kernel
theorem dX4_countryOf_65 : decode cX4_countryOf 65 = .ok (.iload_n 1, 1) := by decide +kernel
theorem dX4_countryOf_66 : decode cX4_countryOf 66 = .ok (.iaload, 1) := by decide +kernel
theorem dX4_countryOf_67 : decode cX4_countryOf 67 = .ok (.ireturn, 1) := by decide +kernel
theorem dX4_countryOf_68 : decode cX4_countryOf 68 = .ok (.aload_n 0, 1) := by decide +kernel
theorem dX4_countryOf_69 : decode cX4_countryOf 69 = .ok (.getfield 10, 3) := by decide +kernel
theorem dX4_countryOf_72 : decode cX4_countryOf 72 = .ok (.iload_n 1, 1) := by decide +kernel
theorem dX4_countryOf_73 : decode cX4_countryOf 73 = .ok (.invokevirtual 119, 3) := by decide +kernel
theorem dX4_countryOf_76 : decode cX4_countryOf 76 = .ok (.ireturn, 1) := by decide +kernel
theorem dX4_countryOf_77 : decode cX4_countryOf 77 = .ok (.aload_n 0, 1) := by decide +kernel
theorem dX4_countryOf_78 : decode cX4_countryOf 78 = .ok (.getfield 10, 3) := by decide +kernel
theorem dX4_countryOf_81 : decode cX4_countryOf 81 = .ok (.iload_n 1, 1) := by decide +kernel
theorem dX4_countryOf_82 : decode cX4_countryOf 82 = .ok (.invokevirtual 122, 3) := by decide +kernel
theorem dX4_countryOf_85 : decode cX4_countryOf 85 = .ok (.invokestatic 125, 3) := by decide +kernel
theorem dX4_countryOf_88 : decode cX4_countryOf 88 = .ok (.ireturn, 1) := by decide +kernel
theorem dX4_countryOf_89 : decode cX4_countryOf 89 = .ok (.aload_n 0, 1) := by decide +kernel
theorem dX4_countryOf_90 : decode cX4_countryOf 90 = .ok (.getfield 10, 3) := by decide +kernel
theorem dX4_countryOf_93 : decode cX4_countryOf 93 = .ok (.getfield 130, 3) := by decide +kernel
theorem dX4_countryOf_96 : decode cX4_countryOf 96 = .ok (.iload_n 1, 1) := by decide +kernel
theorem dX4_countryOf_97 : decode cX4_countryOf 97 = .ok (.iaload, 1) := by decide +kernel
theorem dX4_countryOf_98 : decode cX4_countryOf 98 = .ok (.ireturn, 1) := by decide +kernel
theorem dX4_countryOf_99 : decode cX4_countryOf 99 = .ok (.aload_n 0, 1) := by decide +kernel
theorem dX4_countryOf_100 : decode cX4_countryOf 100 = .ok (.getfield 10, 3) := by decide +kernel
theorem dX4_countryOf_103 : decode cX4_countryOf 103 = .ok (.getfield 133, 3) := by decide +kernel
theorem dX4_countryOf_106 : decode cX4_countryOf 106 = .ok (.iload_n 1, 1) := by decide +kernel
theorem dX4_countryOf_107 : decode cX4_countryOf 107 = .ok (.iaload, 1) := by decide +kernel
theorem dX4_countryOf_108 : decode cX4_countryOf 108 = .ok (.ireturn, 1) := by decide +kernel
theorem dX4_countryOf_109 : decode cX4_countryOf 109 = .ok (.aload_n 0, 1) := by decide +kernel
theorem dX4_countryOf_110 : decode cX4_countryOf 110 = .ok (.getfield 10, 3) := by decide +kernel
theorem dX4_countryOf_113 : decode cX4_countryOf 113 = .ok (.iload_n 1, 1) := by decide +kernel
theorem dX4_countryOf_114 : decode cX4_countryOf 114 = .ok (.invokevirtual 136, 3) := by decide +kernel
theorem dX4_countryOf_117 : decode cX4_countryOf 117 = .ok (.ireturn, 1) := by decide +kernel
theorem dX4_countryOf_118 : decode cX4_countryOf 118 = .ok (.new 64, 3) := by decide +kernel
theorem dX4_countryOf_121 : decode cX4_countryOf 121 = .ok (.dup, 1) := by decide +kernel
theorem dX4_countryOf_122 : decode cX4_countryOf 122 = .ok (.ldc 139, 2) := by decide +kernel
theorem dX4_countryOf_124 : decode cX4_countryOf 124 = .ok (.invokespecial 68, 3) := by decide +kernel
theorem dX4_countryOf_127 : decode cX4_countryOf 127 = .ok (.athrow, 1) := by decide +kernel
theorem dX4_hues_0 : decode cX4_hues 0 = .ok (.iload_n 1, 1) := by decide +kernel
theorem dX4_hues_1 : decode cX4_hues 1 = .ok (.invokestatic 141, 3) := by decide +kernel
theorem dX4_hues_4 : decode cX4_hues 4 = .ok (.ifCond .ne 13, 3) := by decide +kernel
theorem dX4_hues_7 : decode cX4_hues 7 = .ok (.new 64, 3) := by decide +kernel
theorem dX4_hues_10 : decode cX4_hues 10 = .ok (.dup, 1) := by decide +kernel
theorem dX4_hues_11 : decode cX4_hues 11 = .ok (.ldc 145, 2) := by decide +kernel
theorem dX4_hues_13 : decode cX4_hues 13 = .ok (.invokespecial 68, 3) := by decide +kernel
theorem dX4_hues_16 : decode cX4_hues 16 = .ok (.athrow, 1) := by decide +kernel
theorem dX4_hues_17 : decode cX4_hues 17 = .ok (.aload_n 0, 1) := by decide +kernel
theorem dX4_hues_18 : decode cX4_hues 18 = .ok (.aload_n 0, 1) := by decide +kernel
theorem dX4_hues_19 : decode cX4_hues 19 = .ok (.getfield 10, 3) := by decide +kernel
theorem dX4_hues_22 : decode cX4_hues 22 = .ok (.iload_n 1, 1) := by decide +kernel
theorem dX4_hues_23 : decode cX4_hues 23 = .ok (.invokevirtual 147, 3) := by decide +kernel
theorem dX4_hues_26 : decode cX4_hues 26 = .ok (.iload_n 1, 1) := by decide +kernel
theorem dX4_hues_27 : decode cX4_hues 27 = .ok (.iconst 0, 1) := by decide +kernel
theorem dX4_hues_28 : decode cX4_hues 28 = .ok (.invokevirtual 75, 3) := by decide +kernel
theorem dX4_hues_31 : decode cX4_hues 31 = .ok (.aload_n 0, 1) := by decide +kernel
theorem dX4_hues_32 : decode cX4_hues 32 = .ok (.getfield 25, 3) := by decide +kernel
theorem dX4_hues_35 : decode cX4_hues 35 = .ok (.aload_n 0, 1) := by decide +kernel
theorem dX4_hues_36 : decode cX4_hues 36 = .ok (.getfield 10, 3) := by decide +kernel
theorem dX4_hues_39 : decode cX4_hues 39 = .ok (.invokevirtual 79, 3) := by decide +kernel
theorem dX4_hues_42 : decode cX4_hues 42 = .ok (.aload_n 0, 1) := by decide +kernel
theorem dX4_hues_43 : decode cX4_hues 43 = .ok (.getfield 10, 3) := by decide +kernel
theorem dX4_hues_46 : decode cX4_hues 46 = .ok (.getfield 150, 3) := by decide +kernel
theorem dX4_hues_49 : decode cX4_hues 49 = .ok (.istore_n 2, 1) := by decide +kernel
theorem dX4_hues_50 : decode cX4_hues 50 = .ok (.aload_n 0, 1) := by decide +kernel
theorem dX4_hues_51 : decode cX4_hues 51 = .ok (.getfield 10, 3) := by decide +kernel
theorem dX4_hues_54 : decode cX4_hues 54 = .ok (.iload_n 1, 1) := by decide +kernel
theorem dX4_hues_55 : decode cX4_hues 55 = .ok (.putfield 150, 3) := by decide +kernel
theorem dX4_hues_58 : decode cX4_hues 58 = .ok (.iload_n 2, 1) := by decide +kernel
theorem dX4_hues_59 : decode cX4_hues 59 = .ok (.ireturn, 1) := by decide +kernel
theorem dX4_pots_0 : decode cX4_pots 0 = .ok (.aload_n 0, 1) := by decide +kernel
theorem dX4_pots_1 : decode cX4_pots 1 = .ok (.iload_n 1, 1) := by decide +kernel
theorem dX4_pots_2 : decode cX4_pots 2 = .ok (.invokevirtual 153, 3) := by decide +kernel
theorem dX4_pots_5 : decode cX4_pots 5 = .ok (.iload_n 2, 1) := by decide +kernel
theorem dX4_pots_6 : decode cX4_pots 6 = .ok (.invokestatic 156, 3) := by decide +kernel
theorem dX4_pots_9 : decode cX4_pots 9 = .ok (.ifCond .ne 13, 3) := by decide +kernel
theorem dX4_pots_12 : decode cX4_pots 12 = .ok (.new 64, 3) := by decide +kernel
theorem dX4_pots_15 : decode cX4_pots 15 = .ok (.dup, 1) := by decide +kernel
theorem dX4_pots_16 : decode cX4_pots 16 = .ok (.ldc 159, 2) := by decide +kernel
theorem dX4_pots_18 : decode cX4_pots 18 = .ok (.invokespecial 68, 3) := by decide +kernel
theorem dX4_pots_21 : decode cX4_pots 21 = .ok (.athrow, 1) := by decide +kernel
theorem dX4_pots_22 : decode cX4_pots 22 = .ok (.aload_n 0, 1) := by decide +kernel
theorem dX4_pots_23 : decode cX4_pots 23 = .ok (.getfield 25, 3) := by decide +kernel
theorem dX4_pots_26 : decode cX4_pots 26 = .ok (.aload_n 0, 1) := by decide +kernel
theorem dX4_pots_27 : decode cX4_pots 27 = .ok (.getfield 10, 3) := by decide +kernel
theorem dX4_pots_30 : decode cX4_pots 30 = .ok (.invokevirtual 79, 3) := by decide +kernel
theorem dX4_pots_33 : decode cX4_pots 33 = .ok (.aload_n 0, 1) := by decide +kernel
theorem dX4_pots_34 : decode cX4_pots 34 = .ok (.getfield 10, 3) := by decide +kernel
theorem dX4_pots_37 : decode cX4_pots 37 = .ok (.iload_n 1, 1) := by decide +kernel
theorem dX4_pots_38 : decode cX4_pots 38 = .ok (.iload_n 2, 1) := by decide +kernel
theorem dX4_pots_39 : decode cX4_pots 39 = .ok (.invokevirtual 161, 3) := by decide +kernel
theorem dX4_pots_42 : decode cX4_pots 42 = .ok (.aload_n 0, 1) := by decide +kernel
theorem dX4_pots_43 : decode cX4_pots 43 = .ok (.getfield 10, 3) := by decide +kernel
theorem dX4_pots_46 : decode cX4_pots 46 = .ok (.getfield 164, 3) := by decide +kernel
theorem dX4_pots_49 : decode cX4_pots 49 = .ok (.iload_n 1, 1) := by decide +kernel
theorem dX4_pots_50 : decode cX4_pots 50 = .ok (.iaload, 1) := by decide +kernel
theorem dX4_pots_51 : decode cX4_pots 51 = .ok (.ireturn, 1) := by decide +kernel
theorem dX4_hueOf_0 : decode cX4_hueOf 0 = .ok (.aload_n 0, 1) := by decide +kernel
theorem dX4_hueOf_1 : decode cX4_hueOf 1 = .ok (.iload_n 1, 1) := by decide +kernel
theorem dX4_hueOf_2 : decode cX4_hueOf 2 = .ok (.invokevirtual 153, 3) := by decide +kernel
theorem dX4_hueOf_5 : decode cX4_hueOf 5 = .ok (.iload_n 2, 1) := by decide +kernel
theorem dX4_hueOf_6 : decode cX4_hueOf 6 = .ok (.tableswitch 76 0 3 #[30, 40, 57, 66], 30) := by decide +kernel
theorem dX4_hueOf_36 : decode cX4_hueOf 36 = .ok (.aload_n 0, 1) := by decide +kernel
theorem dX4_hueOf_37 : decode cX4_hueOf 37 = .ok (.getfield 10, 3) := by decide +kernel
theorem dX4_hueOf_40 : decode cX4_hueOf 40 = .ok (.getfield 164, 3) := by decide +kernel
theorem dX4_hueOf_43 : decode cX4_hueOf 43 = .ok (.iload_n 1, 1) := by decide +kernel
theorem dX4_hueOf_44 : decode cX4_hueOf 44 = .ok (.iaload, 1) := by decide +kernel
theorem dX4_hueOf_45 : decode cX4_hueOf 45 = .ok (.ireturn, 1) := by decide +kernel
theorem dX4_hueOf_46 : decode cX4_hueOf 46 = .ok (.iload_n 1, 1) := by decide +kernel
theorem dX4_hueOf_47 : decode cX4_hueOf 47 = .ok (.aload_n 0, 1) := by decide +kernel
theorem dX4_hueOf_48 : decode cX4_hueOf 48 = .ok (.getfield 10, 3) := by decide +kernel
theorem dX4_hueOf_51 : decode cX4_hueOf 51 = .ok (.getfield 150, 3) := by decide +kernel
theorem dX4_hueOf_54 : decode cX4_hueOf 54 = .ok (.if_icmp .ge 7, 3) := by decide +kernel
theorem dX4_hueOf_57 : decode cX4_hueOf 57 = .ok (.iconst 1, 1) := by decide +kernel
theorem dX4_hueOf_58 : decode cX4_hueOf 58 = .ok (.goto 4, 3) := by decide +kernel
theorem dX4_hueOf_61 : decode cX4_hueOf 61 = .ok (.iconst 0, 1) := by decide +kernel
theorem dX4_hueOf_62 : decode cX4_hueOf 62 = .ok (.ireturn, 1) := by decide +kernel
theorem dX4_hueOf_63 : decode cX4_hueOf 63 = .ok (.aload_n 0, 1) := by decide +kernel
theorem dX4_hueOf_64 : decode cX4_hueOf 64 = .ok (.getfield 10, 3) := by decide +kernel
theorem dX4_hueOf_67 : decode cX4_hueOf 67 = .ok (.iload_n 1, 1) := by decide +kernel
theorem dX4_hueOf_68 : decode cX4_hueOf 68 = .ok (.invokevirtual 167, 3) := by decide +kernel
theorem dX4_hueOf_71 : decode cX4_hueOf 71 = .ok (.ireturn, 1) := by decide +kernel
theorem dX4_hueOf_72 : decode cX4_hueOf 72 = .ok (.aload_n 0, 1) := by decide +kernel
theorem dX4_hueOf_73 : decode cX4_hueOf 73 = .ok (.getfield 10, 3) := by decide +kernel
theorem dX4_hueOf_76 : decode cX4_hueOf 76 = .ok (.getfield 170, 3) := by decide +kernel
theorem dX4_hueOf_79 : decode cX4_hueOf 79 = .ok (.iload_n 1, 1) := by decide +kernel
theorem dX4_hueOf_80 : decode cX4_hueOf 80 = .ok (.iaload, 1) := by decide +kernel
theorem dX4_hueOf_81 : decode cX4_hueOf 81 = .ok (.ireturn, 1) := by decide +kernel
theorem dX4_hueOf_82 : decode cX4_hueOf 82 = .ok (.new 64, 3) := by decide +kernel
theorem dX4_hueOf_85 : decode cX4_hueOf 85 = .ok (.dup, 1) := by decide +kernel
theorem dX4_hueOf_86 : decode cX4_hueOf 86 = .ok (.ldc 173, 2) := by decide +kernel
theorem dX4_hueOf_88 : decode cX4_hueOf 88 = .ok (.invokespecial 68, 3) := by decide +kernel
theorem dX4_hueOf_91 : decode cX4_hueOf 91 = .ok (.athrow, 1) := by decide +kernel
theorem dX4_paint_0 : decode cX4_paint 0 = .ok (.aload_n 0, 1) := by decide +kernel
theorem dX4_paint_1 : decode cX4_paint 1 = .ok (.iload_n 1, 1) := by decide +kernel
theorem dX4_paint_2 : decode cX4_paint 2 = .ok (.invokevirtual 87, 3) := by decide +kernel
theorem dX4_paint_5 : decode cX4_paint 5 = .ok (.aload_n 0, 1) := by decide +kernel
theorem dX4_paint_6 : decode cX4_paint 6 = .ok (.iload_n 2, 1) := by decide +kernel
theorem dX4_paint_7 : decode cX4_paint 7 = .ok (.invokevirtual 153, 3) := by decide +kernel
theorem dX4_paint_10 : decode cX4_paint 10 = .ok (.aload_n 0, 1) := by decide +kernel
theorem dX4_paint_11 : decode cX4_paint 11 = .ok (.aload_n 0, 1) := by decide +kernel
theorem dX4_paint_12 : decode cX4_paint 12 = .ok (.getfield 10, 3) := by decide +kernel
theorem dX4_paint_15 : decode cX4_paint 15 = .ok (.iload_n 1, 1) := by decide +kernel
theorem dX4_paint_16 : decode cX4_paint 16 = .ok (.iload_n 2, 1) := by decide +kernel
theorem dX4_paint_17 : decode cX4_paint 17 = .ok (.invokevirtual 175, 3) := by decide +kernel
theorem dX4_paint_20 : decode cX4_paint 20 = .ok (.iload_n 1, 1) := by decide +kernel
theorem dX4_paint_21 : decode cX4_paint 21 = .ok (.iload_n 2, 1) := by decide +kernel
theorem dX4_paint_22 : decode cX4_paint 22 = .ok (.invokevirtual 75, 3) := by decide +kernel
theorem dX4_paint_25 : decode cX4_paint 25 = .ok (.aload_n 0, 1) := by decide +kernel
theorem dX4_paint_26 : decode cX4_paint 26 = .ok (.getfield 25, 3) := by decide +kernel
theorem dX4_paint_29 : decode cX4_paint 29 = .ok (.aload_n 0, 1) := by decide +kernel
theorem dX4_paint_30 : decode cX4_paint 30 = .ok (.getfield 10, 3) := by decide +kernel
theorem dX4_paint_33 : decode cX4_paint 33 = .ok (.invokevirtual 79, 3) := by decide +kernel
theorem dX4_paint_36 : decode cX4_paint 36 = .ok (.aload_n 0, 1) := by decide +kernel
theorem dX4_paint_37 : decode cX4_paint 37 = .ok (.getfield 10, 3) := by decide +kernel
theorem dX4_paint_40 : decode cX4_paint 40 = .ok (.iload_n 1, 1) := by decide +kernel
theorem dX4_paint_41 : decode cX4_paint 41 = .ok (.iload_n 2, 1) := by decide +kernel
theorem dX4_paint_42 : decode cX4_paint 42 = .ok (.invokevirtual 178, 3) := by decide +kernel
theorem dX4_paint_45 : decode cX4_paint 45 = .ok (.aload_n 0, 1) := by decide +kernel
theorem dX4_paint_46 : decode cX4_paint 46 = .ok (.getfield 10, 3) := by decide +kernel
theorem dX4_paint_49 : decode cX4_paint 49 = .ok (.getfield 181, 3) := by decide +kernel
theorem dX4_paint_52 : decode cX4_paint 52 = .ok (.ireturn, 1) := by decide +kernel
theorem dX4_bars_0 : decode cX4_bars 0 = .ok (.aload_n 0, 1) := by decide +kernel
theorem dX4_bars_1 : decode cX4_bars 1 = .ok (.iload_n 1, 1) := by decide +kernel
theorem dX4_bars_2 : decode cX4_bars 2 = .ok (.invokevirtual 87, 3) := by decide +kernel
theorem dX4_bars_5 : decode cX4_bars 5 = .ok (.aload_n 0, 1) := by decide +kernel
theorem dX4_bars_6 : decode cX4_bars 6 = .ok (.iload_n 2, 1) := by decide +kernel
theorem dX4_bars_7 : decode cX4_bars 7 = .ok (.invokevirtual 153, 3) := by decide +kernel
theorem dX4_bars_10 : decode cX4_bars 10 = .ok (.aload_n 0, 1) := by decide +kernel
theorem dX4_bars_11 : decode cX4_bars 11 = .ok (.getfield 10, 3) := by decide +kernel
theorem dX4_bars_14 : decode cX4_bars 14 = .ok (.iload_n 1, 1) := by decide +kernel
theorem dX4_bars_15 : decode cX4_bars 15 = .ok (.iload_n 2, 1) := by decide +kernel
theorem dX4_bars_16 : decode cX4_bars 16 = .ok (.invokevirtual 175, 3) := by decide +kernel
theorem dX4_bars_19 : decode cX4_bars 19 = .ok (.ireturn, 1) := by decide +kernel
theorem dX4_back_0 : decode cX4_back 0 = .ok (.aload_n 0, 1) := by decide +kernel
theorem dX4_back_1 : decode cX4_back 1 = .ok (.aload_n 0, 1) := by decide +kernel
theorem dX4_back_2 : decode cX4_back 2 = .ok (.getfield 10, 3) := by decide +kernel
theorem dX4_back_5 : decode cX4_back 5 = .ok (.invokevirtual 184, 3) := by decide +kernel
theorem dX4_back_8 : decode cX4_back 8 = .ok (.iconst 0, 1) := by decide +kernel
theorem dX4_back_9 : decode cX4_back 9 = .ok (.iconst 0, 1) := by decide +kernel
theorem dX4_back_10 : decode cX4_back 10 = .ok (.invokevirtual 75, 3) := by decide +kernel
theorem dX4_back_13 : decode cX4_back 13 = .ok (.aload_n 0, 1) := by decide +kernel
theorem dX4_back_14 : decode cX4_back 14 = .ok (.getfield 25, 3) := by decide +kernel
theorem dX4_back_17 : decode cX4_back 17 = .ok (.aload_n 0, 1) := by decide +kernel
theorem dX4_back_18 : decode cX4_back 18 = .ok (.getfield 10, 3) := by decide +kernel
theorem dX4_back_21 : decode cX4_back 21 = .ok (.invokevirtual 79, 3) := by decide +kernel
theorem dX4_back_24 : decode cX4_back 24 = .ok (.aload_n 0, 1) := by decide +kernel
theorem dX4_back_25 : decode cX4_back 25 = .ok (.getfield 10, 3) := by decide +kernel
theorem dX4_back_28 : decode cX4_back 28 = .ok (.invokevirtual 187, 3) := by decide +kernel
theorem dX4_back_31 : decode cX4_back 31 = .ok (.ireturn, 1) := by decide +kernel
theorem dX4_fill_0 : decode cX4_fill 0 = .ok (.aload_n 0, 1) := by decide +kernel
theorem dX4_fill_1 : decode cX4_fill 1 = .ok (.getfield 25, 3) := by decide +kernel
theorem dX4_fill_4 : decode cX4_fill 4 = .ok (.aload_n 0, 1) := by decide +kernel
theorem dX4_fill_5 : decode cX4_fill 5 = .ok (.getfield 10, 3) := by decide +kernel
theorem dX4_fill_8 : decode cX4_fill 8 = .ok (.invokevirtual 79, 3) := by decide +kernel
theorem dX4_fill_11 : decode cX4_fill 11 = .ok (.aload_n 0, 1) := by decide +kernel
theorem dX4_fill_12 : decode cX4_fill 12 = .ok (.getfield 10, 3) := by decide +kernel
theorem dX4_fill_15 : decode cX4_fill 15 = .ok (.invokevirtual 190, 3) := by decide +kernel
theorem dX4_fill_18 : decode cX4_fill 18 = .ok (.ireturn, 1) := by decide +kernel
theorem dX4_step_0 : decode cX4_step 0 = .ok (.iload_n 1, 1) := by decide +kernel
theorem dX4_step_1 : decode cX4_step 1 = .ok (.ifCond .lt 14, 3) := by decide +kernel
theorem dX4_step_4 : decode cX4_step 4 = .ok (.iload_n 1, 1) := by decide +kernel
theorem dX4_step_5 : decode cX4_step 5 = .ok (.aload_n 0, 1) := by decide +kernel
theorem dX4_step_6 : decode cX4_step 6 = .ok (.getfield 10, 3) := by decide +kernel
theorem dX4_step_9 : decode cX4_step 9 = .ok (.getfield 181, 3) := by decide +kernel
theorem dX4_step_12 : decode cX4_step 12 = .ok (.if_icmp .lt 13, 3) := by decide +kernel
theorem dX4_step_15 : decode cX4_step 15 = .ok (.new 193, 3) := by decide +kernel
theorem dX4_step_18 : decode cX4_step 18 = .ok (.dup, 1) := by decide +kernel
theorem dX4_step_19 : decode cX4_step 19 = .ok (.ldc 195, 2) := by decide +kernel
theorem dX4_step_21 : decode cX4_step 21 = .ok (.invokespecial 197, 3) := by decide +kernel
theorem dX4_step_24 : decode cX4_step 24 = .ok (.athrow, 1) := by decide +kernel
theorem dX4_step_25 : decode cX4_step 25 = .ok (.aload_n 0, 1) := by decide +kernel
theorem dX4_step_26 : decode cX4_step 26 = .ok (.getfield 10, 3) := by decide +kernel
theorem dX4_step_29 : decode cX4_step 29 = .ok (.getfield 198, 3) := by decide +kernel
theorem dX4_step_32 : decode cX4_step 32 = .ok (.iload_n 1, 1) := by decide +kernel
theorem dX4_step_33 : decode cX4_step 33 = .ok (.iaload, 1) := by decide +kernel
theorem dX4_step_34 : decode cX4_step 34 = .ok (.ireturn, 1) := by decide +kernel
theorem dX4_stuck_0 : decode cX4_stuck 0 = .ok (.aload_n 0, 1) := by decide +kernel
theorem dX4_stuck_1 : decode cX4_stuck 1 = .ok (.getfield 10, 3) := by decide +kernel
theorem dX4_stuck_4 : decode cX4_stuck 4 = .ok (.invokevirtual 201, 3) := by decide +kernel
theorem dX4_stuck_7 : decode cX4_stuck 7 = .ok (.istore_n 1, 1) := by decide +kernel
theorem dX4_stuck_8 : decode cX4_stuck 8 = .ok (.iload_n 1, 1) := by decide +kernel
theorem dX4_stuck_9 : decode cX4_stuck 9 = .ok (.iconst (-1), 1) := by decide +kernel
theorem dX4_stuck_10 : decode cX4_stuck 10 = .ok (.if_icmp .ne 13, 3) := by decide +kernel
theorem dX4_stuck_13 : decode cX4_stuck 13 = .ok (.new 193, 3) := by decide +kernel
theorem dX4_stuck_16 : decode cX4_stuck 16 = .ok (.dup, 1) := by decide +kernel
theorem dX4_stuck_17 : decode cX4_stuck 17 = .ok (.ldc 204, 2) := by decide +kernel
theorem dX4_stuck_19 : decode cX4_stuck 19 = .ok (.invokespecial 197, 3) := by decide +kernel
theorem dX4_stuck_22 : decode cX4_stuck 22 = .ok (.athrow, 1) := by decide +kernel
theorem dX4_stuck_23 : decode cX4_stuck 23 = .ok (.iload_n 1, 1) := by decide +kernel
theorem dX4_stuck_24 : decode cX4_stuck 24 = .ok (.ireturn, 1) := by decide +kernel
theorem dX4_next_0 : decode cX4_next 0 = .ok (.aload_n 0, 1) := by decide +kernel
theorem dX4_next_1 : decode cX4_next 1 = .ok (.getfield 10, 3) := by decide +kernel
theorem dX4_next_4 : decode cX4_next 4 = .ok (.invokevirtual 206, 3) := by decide +kernel
theorem dX4_next_7 : decode cX4_next 7 = .ok (.istore_n 1, 1) := by decide +kernel
theorem dX4_next_8 : decode cX4_next 8 = .ok (.iload_n 1, 1) := by decide +kernel
theorem dX4_next_9 : decode cX4_next 9 = .ok (.iconst (-1), 1) := by decide +kernel
theorem dX4_next_10 : decode cX4_next 10 = .ok (.if_icmp .ne 13, 3) := by decide +kernel
theorem dX4_next_13 : decode cX4_next 13 = .ok (.new 193, 3) := by decide +kernel
theorem dX4_next_16 : decode cX4_next 16 = .ok (.dup, 1) := by decide +kernel
theorem dX4_next_17 : decode cX4_next 17 = .ok (.ldc 209, 2) := by decide +kernel
theorem dX4_next_19 : decode cX4_next 19 = .ok (.invokespecial 197, 3) := by decide +kernel
theorem dX4_next_22 : decode cX4_next 22 = .ok (.athrow, 1) := by decide +kernel
theorem dX4_next_23 : decode cX4_next 23 = .ok (.iload_n 1, 1) := by decide +kernel
theorem dX4_next_24 : decode cX4_next 24 = .ok (.ireturn, 1) := by decide +kernel
theorem dX4_gentle_0 : decode cX4_gentle 0 = .ok (.aload_n 0, 1) := by decide +kernel
theorem dX4_gentle_1 : decode cX4_gentle 1 = .ok (.iload_n 1, 1) := by decide +kernel
theorem dX4_gentle_2 : decode cX4_gentle 2 = .ok (.invokevirtual 87, 3) := by decide +kernel
theorem dX4_gentle_5 : decode cX4_gentle 5 = .ok (.aload_n 0, 1) := by decide +kernel
theorem dX4_gentle_6 : decode cX4_gentle 6 = .ok (.getfield 10, 3) := by decide +kernel
theorem dX4_gentle_9 : decode cX4_gentle 9 = .ok (.iload_n 1, 1) := by decide +kernel
theorem dX4_gentle_10 : decode cX4_gentle 10 = .ok (.invokevirtual 211, 3) := by decide +kernel
theorem dX4_gentle_13 : decode cX4_gentle 13 = .ok (.istore_n 2, 1) := by decide +kernel
theorem dX4_gentle_14 : decode cX4_gentle 14 = .ok (.iload_n 2, 1) := by decide +kernel
theorem dX4_gentle_15 : decode cX4_gentle 15 = .ok (.iconst (-1), 1) := by decide +kernel
theorem dX4_gentle_16 : decode cX4_gentle 16 = .ok (.if_icmp .ne 13, 3) := by decide +kernel
theorem dX4_gentle_19 : decode cX4_gentle 19 = .ok (.new 193, 3) := by decide +kernel
theorem dX4_gentle_22 : decode cX4_gentle 22 = .ok (.dup, 1) := by decide +kernel
theorem dX4_gentle_23 : decode cX4_gentle 23 = .ok (.ldc 214, 2) := by decide +kernel
theorem dX4_gentle_25 : decode cX4_gentle 25 = .ok (.invokespecial 197, 3) := by decide +kernel
theorem dX4_gentle_28 : decode cX4_gentle 28 = .ok (.athrow, 1) := by decide +kernel
theorem dX4_gentle_29 : decode cX4_gentle 29 = .ok (.iload_n 2, 1) := by decide +kernel
theorem dX4_gentle_30 : decode cX4_gentle 30 = .ok (.ireturn, 1) := by decide +kernel
theorem dX4_wish_0 : decode cX4_wish 0 = .ok (.aload_n 0, 1) := by decide +kernel
theorem dX4_wish_1 : decode cX4_wish 1 = .ok (.iload_n 1, 1) := by decide +kernel
theorem dX4_wish_2 : decode cX4_wish 2 = .ok (.invokevirtual 87, 3) := by decide +kernel
theorem dX4_wish_5 : decode cX4_wish 5 = .ok (.aload_n 0, 1) := by decide +kernel
theorem dX4_wish_6 : decode cX4_wish 6 = .ok (.iload_n 2, 1) := by decide +kernel
theorem dX4_wish_7 : decode cX4_wish 7 = .ok (.invokevirtual 153, 3) := by decide +kernel
theorem dX4_wish_10 : decode cX4_wish 10 = .ok (.iload_n 3, 1) := by decide +kernel
theorem dX4_wish_11 : decode cX4_wish 11 = .ok (.invokestatic 216, 3) := by decide +kernel
theorem dX4_wish_14 : decode cX4_wish 14 = .ok (.ifCond .ne 13, 3) := by decide +kernel
theorem dX4_wish_17 : decode cX4_wish 17 = .ok (.new 64, 3) := by decide +kernel
theorem dX4_wish_20 : decode cX4_wish 20 = .ok (.dup, 1) := by decide +kernel
theorem dX4_wish_21 : decode cX4_wish 21 = .ok (.ldc 219, 2) := by decide +kernel
theorem dX4_wish_23 : decode cX4_wish 23 = .ok (.invokespecial 68, 3) := by decide +kernel
theorem dX4_wish_26 : decode cX4_wish 26 = .ok (.athrow, 1) := by decide +kernel
theorem dX4_wish_27 : decode cX4_wish 27 = .ok (.aload_n 0, 1) := by decide +kernel
theorem dX4_wish_28 : decode cX4_wish 28 = .ok (.getfield 25, 3) := by decide +kernel
theorem dX4_wish_31 : decode cX4_wish 31 = .ok (.aload_n 0, 1) := by decide +kernel
theorem dX4_wish_32 : decode cX4_wish 32 = .ok (.getfield 10, 3) := by decide +kernel
theorem dX4_wish_35 : decode cX4_wish 35 = .ok (.invokevirtual 79, 3) := by decide +kernel
theorem dX4_wish_38 : decode cX4_wish 38 = .ok (.aload_n 0, 1) := by decide +kernel
theorem dX4_wish_39 : decode cX4_wish 39 = .ok (.getfield 10, 3) := by decide +kernel
theorem dX4_wish_42 : decode cX4_wish 42 = .ok (.getfield 130, 3) := by decide +kernel
theorem dX4_wish_45 : decode cX4_wish 45 = .ok (.iload_n 1, 1) := by decide +kernel
theorem dX4_wish_46 : decode cX4_wish 46 = .ok (.iaload, 1) := by decide +kernel
theorem dX4_wish_47 : decode cX4_wish 47 = .ok (.istore 4, 2) := by decide +kernel
theorem dX4_wish_49 : decode cX4_wish 49 = .ok (.aload_n 0, 1) := by decide +kernel
theorem dX4_wish_50 : decode cX4_wish 50 = .ok (.getfield 10, 3) := by decide +kernel
theorem dX4_wish_53 : decode cX4_wish 53 = .ok (.iload_n 1, 1) := by decide +kernel
theorem dX4_wish_54 : decode cX4_wish 54 = .ok (.iload_n 2, 1) := by decide +kernel
theorem dX4_wish_55 : decode cX4_wish 55 = .ok (.iload_n 3, 1) := by decide +kernel
theorem dX4_wish_56 : decode cX4_wish 56 = .ok (.invokevirtual 221, 3) := by decide +kernel
theorem dX4_wish_59 : decode cX4_wish 59 = .ok (.iload 4, 2) := by decide +kernel
theorem dX4_wish_61 : decode cX4_wish 61 = .ok (.ireturn, 1) := by decide +kernel
theorem dX4_fulfilled_0 : decode cX4_fulfilled 0 = .ok (.aload_n 0, 1) := by decide +kernel
theorem dX4_fulfilled_1 : decode cX4_fulfilled 1 = .ok (.getfield 10, 3) := by decide +kernel
theorem dX4_fulfilled_4 : decode cX4_fulfilled 4 = .ok (.invokevirtual 224, 3) := by decide +kernel
theorem dX4_fulfilled_7 : decode cX4_fulfilled 7 = .ok (.ireturn, 1) := by decide +kernel
theorem dX4_ways_0 : decode cX4_ways 0 = .ok (.aload_n 0, 1) := by decide +kernel
theorem dX4_ways_1 : decode cX4_ways 1 = .ok (.getfield 32, 3) := by decide +kernel
theorem dX4_ways_4 : decode cX4_ways 4 = .ok (.aload_n 0, 1) := by decide +kernel
theorem dX4_ways_5 : decode cX4_ways 5 = .ok (.getfield 10, 3) := by decide +kernel
theorem dX4_ways_8 : decode cX4_ways 8 = .ok (.aload_n 0, 1) := by decide +kernel
theorem dX4_ways_9 : decode cX4_ways 9 = .ok (.getfield 10, 3) := by decide +kernel
theorem dX4_ways_12 : decode cX4_ways 12 = .ok (.getfield 150, 3) := by decide +kernel
theorem dX4_ways_15 : decode cX4_ways 15 = .ok (.invokevirtual 227, 3) := by decide +kernel
theorem dX4_ways_18 : decode cX4_ways 18 = .ok (.ireturn, 1) := by decide +kernel
theorem dX4_waysAgain_0 : decode cX4_waysAgain 0 = .ok (.aload_n 0, 1) := by decide +kernel
theorem dX4_waysAgain_1 : decode cX4_waysAgain 1 = .ok (.getfield 10, 3) := by decide +kernel
theorem dX4_waysAgain_4 : decode cX4_waysAgain 4 = .ok (.invokevirtual 231, 3) := by decide +kernel
theorem dX4_waysAgain_7 : decode cX4_waysAgain 7 = .ok (.invokestatic 125, 3) := by decide +kernel
theorem dX4_waysAgain_10 : decode cX4_waysAgain 10 = .ok (.iconst 4, 1) := by decide +kernel
theorem dX4_waysAgain_11 : decode cX4_waysAgain 11 = .ok (.if_icmp .le 22, 3) := by decide +kernel
theorem dX4_waysAgain_14 : decode cX4_waysAgain 14 = .ok (.aload_n 0, 1) := by decide +kernel
theorem dX4_waysAgain_15 : decode cX4_waysAgain 15 = .ok (.getfield 32, 3) := by decide +kernel
theorem dX4_waysAgain_18 : decode cX4_waysAgain 18 = .ok (.aload_n 0, 1) := by decide +kernel
theorem dX4_waysAgain_19 : decode cX4_waysAgain 19 = .ok (.getfield 10, 3) := by decide +kernel
theorem dX4_waysAgain_22 : decode cX4_waysAgain 22 = .ok (.aload_n 0, 1) := by decide +kernel
theorem dX4_waysAgain_23 : decode cX4_waysAgain 23 = .ok (.getfield 10, 3) := by decide +kernel
theorem dX4_waysAgain_26 : decode cX4_waysAgain 26 = .ok (.getfield 150, 3) := by decide +kernel
theorem dX4_waysAgain_29 : decode cX4_waysAgain 29 = .ok (.invokevirtual 227, 3) := by decide +kernel
theorem dX4_waysAgain_32 : decode cX4_waysAgain 32 = .ok (.ireturn, 1) := by decide +kernel
theorem dX4_waysAgain_33 : decode cX4_waysAgain 33 = .ok (.aload_n 0, 1) := by decide +kernel
theorem dX4_waysAgain_34 : decode cX4_waysAgain 34 = .ok (.getfield 32, 3) := by decide +kernel
theorem dX4_waysAgain_37 : decode cX4_waysAgain 37 = .ok (.aload_n 0, 1) := by decide +kernel
theorem dX4_waysAgain_38 : decode cX4_waysAgain 38 = .ok (.getfield 10, 3) := by decide +kernel
theorem dX4_waysAgain_41 : decode cX4_waysAgain 41 = .ok (.invokevirtual 234, 3) := by decide +kernel
theorem dX4_waysAgain_44 : decode cX4_waysAgain 44 = .ok (.ireturn, 1) := by decide +kernel
theorem dX4_waysFor_0 : decode cX4_waysFor 0 = .ok (.aload_n 0, 1) := by decide +kernel
theorem dX4_waysFor_1 : decode cX4_waysFor 1 = .ok (.iload_n 1, 1) := by decide +kernel
theorem dX4_waysFor_2 : decode cX4_waysFor 2 = .ok (.invokevirtual 87, 3) := by decide +kernel
theorem dX4_waysFor_5 : decode cX4_waysFor 5 = .ok (.aload_n 0, 1) := by decide +kernel
theorem dX4_waysFor_6 : decode cX4_waysFor 6 = .ok (.getfield 10, 3) := by decide +kernel
theorem dX4_waysFor_9 : decode cX4_waysFor 9 = .ok (.getfield 130, 3) := by decide +kernel
theorem dX4_waysFor_12 : decode cX4_waysFor 12 = .ok (.iload_n 1, 1) := by decide +kernel
theorem dX4_waysFor_13 : decode cX4_waysFor 13 = .ok (.iaload, 1) := by decide +kernel
theorem dX4_waysFor_14 : decode cX4_waysFor 14 = .ok (.iconst (-1), 1) := by decide +kernel
theorem dX4_waysFor_15 : decode cX4_waysFor 15 = .ok (.if_icmp .ne 13, 3) := by decide +kernel
theorem dX4_waysFor_18 : decode cX4_waysFor 18 = .ok (.new 193, 3) := by decide +kernel
theorem dX4_waysFor_21 : decode cX4_waysFor 21 = .ok (.dup, 1) := by decide +kernel
theorem dX4_waysFor_22 : decode cX4_waysFor 22 = .ok (.ldc 238, 2) := by decide +kernel
theorem dX4_waysFor_24 : decode cX4_waysFor 24 = .ok (.invokespecial 197, 3) := by decide +kernel
theorem dX4_waysFor_27 : decode cX4_waysFor 27 = .ok (.athrow, 1) := by decide +kernel
theorem dX4_waysFor_28 : decode cX4_waysFor 28 = .ok (.aload_n 0, 1) := by decide +kernel
theorem dX4_waysFor_29 : decode cX4_waysFor 29 = .ok (.getfield 32, 3) := by decide +kernel
theorem dX4_waysFor_32 : decode cX4_waysFor 32 = .ok (.aload_n 0, 1) := by decide +kernel
theorem dX4_waysFor_33 : decode cX4_waysFor 33 = .ok (.getfield 10, 3) := by decide +kernel
theorem dX4_waysFor_36 : decode cX4_waysFor 36 = .ok (.iload_n 1, 1) := by decide +kernel
theorem dX4_waysFor_37 : decode cX4_waysFor 37 = .ok (.invokevirtual 240, 3) := by decide +kernel
theorem dX4_waysFor_40 : decode cX4_waysFor 40 = .ok (.ireturn, 1) := by decide +kernel
theorem dX4_fewest_0 : decode cX4_fewest 0 = .ok (.aload_n 0, 1) := by decide +kernel
theorem dX4_fewest_1 : decode cX4_fewest 1 = .ok (.getfield 10, 3) := by decide +kernel
theorem dX4_fewest_4 : decode cX4_fewest 4 = .ok (.invokevirtual 243, 3) := by decide +kernel
theorem dX4_fewest_7 : decode cX4_fewest 7 = .ok (.istore_n 1, 1) := by decide +kernel
theorem dX4_fewest_8 : decode cX4_fewest 8 = .ok (.iload_n 1, 1) := by decide +kernel
theorem dX4_fewest_9 : decode cX4_fewest 9 = .ok (.iconst 5, 1) := by decide +kernel
theorem dX4_fewest_10 : decode cX4_fewest 10 = .ok (.if_icmp .gt 26, 3) := by decide +kernel
theorem dX4_fewest_13 : decode cX4_fewest 13 = .ok (.aload_n 0, 1) := by decide +kernel
theorem dX4_fewest_14 : decode cX4_fewest 14 = .ok (.getfield 32, 3) := by decide +kernel
theorem dX4_fewest_17 : decode cX4_fewest 17 = .ok (.aload_n 0, 1) := by decide +kernel
theorem dX4_fewest_18 : decode cX4_fewest 18 = .ok (.getfield 10, 3) := by decide +kernel
theorem dX4_fewest_21 : decode cX4_fewest 21 = .ok (.iload_n 1, 1) := by decide +kernel
theorem dX4_fewest_22 : decode cX4_fewest 22 = .ok (.invokevirtual 227, 3) := by decide +kernel
theorem dX4_fewest_25 : decode cX4_fewest 25 = .ok (.ifCond .le 5, 3) := by decide +kernel
theorem dX4_fewest_28 : decode cX4_fewest 28 = .ok (.iload_n 1, 1) := by decide +kernel
theorem dX4_fewest_29 : decode cX4_fewest 29 = .ok (.ireturn, 1) := by decide +kernel
theorem dX4_fewest_30 : decode cX4_fewest 30 = .ok (.iinc 1 1, 3) := by decide +kernel
theorem dX4_fewest_33 : decode cX4_fewest 33 = .ok (.goto (-25), 3) := by decide +kernel
theorem dX4_fewest_36 : decode cX4_fewest 36 = .ok (.new 193, 3) := by decide +kernel
theorem dX4_fewest_39 : decode cX4_fewest 39 = .ok (.dup, 1) := by decide +kernel
theorem dX4_fewest_40 : decode cX4_fewest 40 = .ok (.ldc 246, 2) := by decide +kernel
theorem dX4_fewest_42 : decode cX4_fewest 42 = .ok (.invokespecial 197, 3) := by decide +kernel
theorem dX4_fewest_45 : decode cX4_fewest 45 = .ok (.athrow, 1) := by decide +kernel
theorem dX4_clique_0 : decode cX4_clique 0 = .ok (.iconst 0, 1) := by decide +kernel
theorem dX4_clique_1 : decode cX4_clique 1 = .ok (.istore_n 1, 1) := by decide +kernel
theorem dX4_clique_2 : decode cX4_clique 2 = .ok (.iconst 0, 1) := by decide +kernel
theorem dX4_clique_3 : decode cX4_clique 3 = .ok (.istore_n 2, 1) := by decide +kernel
theorem dX4_clique_4 : decode cX4_clique 4 = .ok (.iload_n 2, 1) := by decide +kernel
theorem dX4_clique_5 : decode cX4_clique 5 = .ok (.sipush 128, 3) := by decide +kernel
theorem dX4_clique_8 : decode cX4_clique 8 = .ok (.if_icmp .ge 29, 3) := by decide +kernel
theorem dX4_clique_11 : decode cX4_clique 11 = .ok (.aload_n 0, 1) := by decide +kernel
theorem dX4_clique_12 : decode cX4_clique 12 = .ok (.getfield 10, 3) := by decide +kernel
theorem dX4_clique_15 : decode cX4_clique 15 = .ok (.iload_n 2, 1) := by decide +kernel
theorem dX4_clique_16 : decode cX4_clique 16 = .ok (.invokevirtual 248, 3) := by decide +kernel
theorem dX4_clique_19 : decode cX4_clique 19 = .ok (.ifCond .eq 12, 3) := by decide +kernel
theorem dX4_clique_22 : decode cX4_clique 22 = .ok (.iload_n 1, 1) := by decide +kernel
theorem dX4_clique_23 : decode cX4_clique 23 = .ok (.iload_n 2, 1) := by decide +kernel
theorem dX4_clique_24 : decode cX4_clique 24 = .ok (.invokestatic 125, 3) := by decide +kernel
theorem dX4_clique_27 : decode cX4_clique 27 = .ok (.invokestatic 251, 3) := by decide +kernel
theorem dX4_clique_30 : decode cX4_clique 30 = .ok (.istore_n 1, 1) := by decide +kernel
theorem dX4_clique_31 : decode cX4_clique 31 = .ok (.iinc 2 1, 3) := by decide +kernel
theorem dX4_clique_34 : decode cX4_clique 34 = .ok (.goto (-30), 3) := by decide +kernel
theorem dX4_clique_37 : decode cX4_clique 37 = .ok (.iload_n 1, 1) := by decide +kernel
theorem dX4_clique_38 : decode cX4_clique 38 = .ok (.ireturn, 1) := by decide +kernel
theorem dX4_line_0 : decode cX4_line 0 = .ok (.aload_n 0, 1) := by decide +kernel
theorem dX4_line_1 : decode cX4_line 1 = .ok (.iload_n 1, 1) := by decide +kernel
theorem dX4_line_2 : decode cX4_line 2 = .ok (.invokevirtual 87, 3) := by decide +kernel
theorem dX4_line_5 : decode cX4_line 5 = .ok (.aload_n 0, 1) := by decide +kernel
theorem dX4_line_6 : decode cX4_line 6 = .ok (.iconst 0, 1) := by decide +kernel
theorem dX4_line_7 : decode cX4_line 7 = .ok (.putfield 47, 3) := by decide +kernel
theorem dX4_line_10 : decode cX4_line 10 = .ok (.aload_n 0, 1) := by decide +kernel
theorem dX4_line_11 : decode cX4_line 11 = .ok (.iload_n 1, 1) := by decide +kernel
theorem dX4_line_12 : decode cX4_line 12 = .ok (.invokevirtual 256, 3) := by decide +kernel
theorem dX4_line_15 : decode cX4_line 15 = .ok (.aload_n 0, 1) := by decide +kernel
theorem dX4_line_16 : decode cX4_line 16 = .ok (.bipush 58, 2) := by decide +kernel
theorem dX4_line_18 : decode cX4_line 18 = .ok (.invokevirtual 259, 3) := by decide +kernel
theorem dX4_line_21 : decode cX4_line 21 = .ok (.aload_n 0, 1) := by decide +kernel
theorem dX4_line_22 : decode cX4_line 22 = .ok (.getfield 10, 3) := by decide +kernel
theorem dX4_line_25 : decode cX4_line 25 = .ok (.iload_n 1, 1) := by decide +kernel
theorem dX4_line_26 : decode cX4_line 26 = .ok (.invokevirtual 263, 3) := by decide +kernel
theorem dX4_line_29 : decode cX4_line 29 = .ok (.ifCond .eq 19, 3) := by decide +kernel
theorem dX4_line_32 : decode cX4_line 32 = .ok (.aload_n 0, 1) := by decide +kernel
theorem dX4_line_33 : decode cX4_line 33 = .ok (.aload_n 0, 1) := by decide +kernel
theorem dX4_line_34 : decode cX4_line 34 = .ok (.getfield 10, 3) := by decide +kernel
theorem dX4_line_37 : decode cX4_line 37 = .ok (.getfield 116, 3) := by decide +kernel
theorem dX4_line_40 : decode cX4_line 40 = .ok (.iload_n 1, 1) := by decide +kernel
theorem dX4_line_41 : decode cX4_line 41 = .ok (.iaload, 1) := by decide +kernel
theorem dX4_line_42 : decode cX4_line 42 = .ok (.invokevirtual 256, 3) := by decide +kernel
theorem dX4_line_45 : decode cX4_line 45 = .ok (.goto 9, 3) := by decide +kernel
theorem dX4_line_48 : decode cX4_line 48 = .ok (.aload_n 0, 1) := by decide +kernel
theorem dX4_line_49 : decode cX4_line 49 = .ok (.bipush 45, 2) := by decide +kernel
theorem dX4_line_51 : decode cX4_line 51 = .ok (.invokevirtual 259, 3) := by decide +kernel
theorem dX4_line_54 : decode cX4_line 54 = .ok (.aload_n 0, 1) := by decide +kernel
theorem dX4_line_55 : decode cX4_line 55 = .ok (.bipush 40, 2) := by decide +kernel
theorem dX4_line_57 : decode cX4_line 57 = .ok (.invokevirtual 259, 3) := by decide +kernel
theorem dX4_line_60 : decode cX4_line 60 = .ok (.aload_n 0, 1) := by decide +kernel
theorem dX4_line_61 : decode cX4_line 61 = .ok (.iload_n 1, 1) := by decide +kernel
theorem dX4_line_62 : decode cX4_line 62 = .ok (.invokevirtual 266, 3) := by decide +kernel
theorem dX4_line_65 : decode cX4_line 65 = .ok (.aload_n 0, 1) := by decide +kernel
theorem dX4_line_66 : decode cX4_line 66 = .ok (.bipush 41, 2) := by decide +kernel
theorem dX4_line_68 : decode cX4_line 68 = .ok (.invokevirtual 259, 3) := by decide +kernel
theorem dX4_line_71 : decode cX4_line 71 = .ok (.aload_n 0, 1) := by decide +kernel
theorem dX4_line_72 : decode cX4_line 72 = .ok (.getfield 10, 3) := by decide +kernel
theorem dX4_line_75 : decode cX4_line 75 = .ok (.iload_n 1, 1) := by decide +kernel
theorem dX4_line_76 : decode cX4_line 76 = .ok (.invokevirtual 269, 3) := by decide +kernel
theorem dX4_line_79 : decode cX4_line 79 = .ok (.ifCond .eq 9, 3) := by decide +kernel
theorem dX4_line_82 : decode cX4_line 82 = .ok (.aload_n 0, 1) := by decide +kernel
theorem dX4_line_83 : decode cX4_line 83 = .ok (.bipush 33, 2) := by decide +kernel
theorem dX4_line_85 : decode cX4_line 85 = .ok (.invokevirtual 259, 3) := by decide +kernel
theorem dX4_line_88 : decode cX4_line 88 = .ok (.aload_n 0, 1) := by decide +kernel
theorem dX4_line_89 : decode cX4_line 89 = .ok (.getfield 47, 3) := by decide +kernel
theorem dX4_line_92 : decode cX4_line 92 = .ok (.ireturn, 1) := by decide +kernel
theorem dX4_character_0 : decode cX4_character 0 = .ok (.iload_n 1, 1) := by decide +kernel
theorem dX4_character_1 : decode cX4_character 1 = .ok (.ifCond .lt 11, 3) := by decide +kernel
theorem dX4_character_4 : decode cX4_character 4 = .ok (.iload_n 1, 1) := by decide +kernel
theorem dX4_character_5 : decode cX4_character 5 = .ok (.aload_n 0, 1) := by decide +kernel
theorem dX4_character_6 : decode cX4_character 6 = .ok (.getfield 47, 3) := by decide +kernel
theorem dX4_character_9 : decode cX4_character 9 = .ok (.if_icmp .lt 14, 3) := by decide +kernel
theorem dX4_character_12 : decode cX4_character 12 = .ok (.new 272, 3) := by decide +kernel
theorem dX4_character_15 : decode cX4_character 15 = .ok (.dup, 1) := by decide +kernel
theorem dX4_character_16 : decode cX4_character 16 = .ok (.ldc_w 274, 3) := by decide +kernel
theorem dX4_character_19 : decode cX4_character 19 = .ok (.invokespecial 276, 3) := by decide +kernel
theorem dX4_character_22 : decode cX4_character 22 = .ok (.athrow, 1) := by decide +kernel
theorem dX4_character_23 : decode cX4_character 23 = .ok (.aload_n 0, 1) := by decide +kernel
theorem dX4_character_24 : decode cX4_character 24 = .ok (.getfield 43, 3) := by decide +kernel
theorem dX4_character_27 : decode cX4_character 27 = .ok (.iload_n 1, 1) := by decide +kernel
theorem dX4_character_28 : decode cX4_character 28 = .ok (.caload, 1) := by decide +kernel
theorem dX4_character_29 : decode cX4_character 29 = .ok (.ireturn, 1) := by decide +kernel
theorem dX4_append_0 : decode cX4_append 0 = .ok (.aload_n 0, 1) := by decide +kernel
theorem dX4_append_1 : decode cX4_append 1 = .ok (.getfield 39, 3) := by decide +kernel
theorem dX4_append_4 : decode cX4_append 4 = .ok (.getfield 277, 3) := by decide +kernel
theorem dX4_append_7 : decode cX4_append 7 = .ok (.bipush 60, 2) := by decide +kernel
theorem dX4_append_9 : decode cX4_append 9 = .ok (.if_icmp .lt 14, 3) := by decide +kernel
theorem dX4_append_12 : decode cX4_append 12 = .ok (.new 280, 3) := by decide +kernel
theorem dX4_append_15 : decode cX4_append 15 = .ok (.dup, 1) := by decide +kernel
theorem dX4_append_16 : decode cX4_append 16 = .ok (.ldc_w 282, 3) := by decide +kernel
theorem dX4_append_19 : decode cX4_append 19 = .ok (.invokespecial 284, 3) := by decide +kernel
theorem dX4_append_22 : decode cX4_append 22 = .ok (.athrow, 1) := by decide +kernel
theorem dX4_append_23 : decode cX4_append 23 = .ok (.aload_n 0, 1) := by decide +kernel
theorem dX4_append_24 : decode cX4_append 24 = .ok (.getfield 39, 3) := by decide +kernel
theorem dX4_append_27 : decode cX4_append 27 = .ok (.iload_n 1, 1) := by decide +kernel
theorem dX4_append_28 : decode cX4_append 28 = .ok (.invokevirtual 285, 3) := by decide +kernel
theorem dX4_append_31 : decode cX4_append 31 = .ok (.aload_n 0, 1) := by decide +kernel
theorem dX4_append_32 : decode cX4_append 32 = .ok (.getfield 39, 3) := by decide +kernel
theorem dX4_append_35 : decode cX4_append 35 = .ok (.getfield 277, 3) := by decide +kernel
theorem dX4_append_38 : decode cX4_append 38 = .ok (.ireturn, 1) := by decide +kernel
theorem dX4_read_0 : decode cX4_read 0 = .ok (.aload_n 0, 1) := by decide +kernel
theorem dX4_read_1 : decode cX4_read 1 = .ok (.aload_n 0, 1) := by decide +kernel
theorem dX4_read_2 : decode cX4_read 2 = .ok (.getfield 39, 3) := by decide +kernel
theorem dX4_read_5 : decode cX4_read 5 = .ok (.invokevirtual 288, 3) := by decide +kernel
theorem dX4_read_8 : decode cX4_read 8 = .ok (.putfield 55, 3) := by decide +kernel
theorem dX4_read_11 : decode cX4_read 11 = .ok (.aload_n 0, 1) := by decide +kernel
theorem dX4_read_12 : decode cX4_read 12 = .ok (.getfield 55, 3) := by decide +kernel
theorem dX4_read_15 : decode cX4_read 15 = .ok (.iconst (-1), 1) := by decide +kernel
theorem dX4_read_16 : decode cX4_read 16 = .ok (.if_icmp .ne 10, 3) := by decide +kernel
theorem dX4_read_19 : decode cX4_read 19 = .ok (.aload_n 0, 1) := by decide +kernel
theorem dX4_read_20 : decode cX4_read 20 = .ok (.invokevirtual 291, 3) := by decide +kernel
theorem dX4_read_23 : decode cX4_read 23 = .ok (.goto 5, 3) := by decide +kernel
theorem dX4_read_26 : decode cX4_read 26 = .ok (.bipush (-2), 2) := by decide +kernel
theorem dX4_read_28 : decode cX4_read 28 = .ok (.istore_n 1, 1) := by decide +kernel
theorem dX4_read_29 : decode cX4_read 29 = .ok (.aload_n 0, 1) := by decide +kernel
theorem dX4_read_30 : decode cX4_read 30 = .ok (.getfield 39, 3) := by decide +kernel
theorem dX4_read_33 : decode cX4_read 33 = .ok (.iconst 0, 1) := by decide +kernel
theorem dX4_read_34 : decode cX4_read 34 = .ok (.putfield 277, 3) := by decide +kernel
theorem dX4_read_37 : decode cX4_read 37 = .ok (.iload_n 1, 1) := by decide +kernel
theorem dX4_read_38 : decode cX4_read 38 = .ok (.bipush (-2), 2) := by decide +kernel
theorem dX4_read_40 : decode cX4_read 40 = .ok (.if_icmp .ne 14, 3) := by decide +kernel
theorem dX4_read_43 : decode cX4_read 43 = .ok (.new 64, 3) := by decide +kernel
theorem dX4_read_46 : decode cX4_read 46 = .ok (.dup, 1) := by decide +kernel
theorem dX4_read_47 : decode cX4_read 47 = .ok (.ldc_w 294, 3) := by decide +kernel
theorem dX4_read_50 : decode cX4_read 50 = .ok (.invokespecial 68, 3) := by decide +kernel
theorem dX4_read_53 : decode cX4_read 53 = .ok (.athrow, 1) := by decide +kernel
theorem dX4_read_54 : decode cX4_read 54 = .ok (.iload_n 1, 1) := by decide +kernel
theorem dX4_read_55 : decode cX4_read 55 = .ok (.iconst (-1), 1) := by decide +kernel
theorem dX4_read_56 : decode cX4_read 56 = .ok (.if_icmp .ne 14, 3) := by decide +kernel
theorem dX4_read_59 : decode cX4_read 59 = .ok (.new 296, 3) := by decide +kernel
theorem dX4_read_62 : decode cX4_read 62 = .ok (.dup, 1) := by decide +kernel
theorem dX4_read_63 : decode cX4_read 63 = .ok (.ldc_w 298, 3) := by decide +kernel
theorem dX4_read_66 : decode cX4_read 66 = .ok (.invokespecial 300, 3) := by decide +kernel
theorem dX4_read_69 : decode cX4_read 69 = .ok (.athrow, 1) := by decide +kernel
theorem dX4_read_70 : decode cX4_read 70 = .ok (.iload_n 1, 1) := by decide +kernel
theorem dX4_read_71 : decode cX4_read 71 = .ok (.ireturn, 1) := by decide +kernel
theorem dX4_errorPosition_0 : decode cX4_errorPosition 0 = .ok (.aload_n 0, 1) := by decide +kernel
theorem dX4_errorPosition_1 : decode cX4_errorPosition 1 = .ok (.getfield 55, 3) := by decide +kernel
theorem dX4_errorPosition_4 : decode cX4_errorPosition 4 = .ok (.ireturn, 1) := by decide +kernel
theorem dX4_refusal_0 : decode cX4_refusal 0 = .ok (.aload_n 0, 1) := by decide +kernel
theorem dX4_refusal_1 : decode cX4_refusal 1 = .ok (.getfield 58, 3) := by decide +kernel
theorem dX4_refusal_4 : decode cX4_refusal 4 = .ok (.ifCond .ne 14, 3) := by decide +kernel
theorem dX4_refusal_7 : decode cX4_refusal 7 = .ok (.new 193, 3) := by decide +kernel
theorem dX4_refusal_10 : decode cX4_refusal 10 = .ok (.dup, 1) := by decide +kernel
theorem dX4_refusal_11 : decode cX4_refusal 11 = .ok (.ldc_w 301, 3) := by decide +kernel
theorem dX4_refusal_14 : decode cX4_refusal 14 = .ok (.invokespecial 197, 3) := by decide +kernel
theorem dX4_refusal_17 : decode cX4_refusal 17 = .ok (.athrow, 1) := by decide +kernel
theorem dX4_refusal_18 : decode cX4_refusal 18 = .ok (.iload_n 1, 1) := by decide +kernel
theorem dX4_refusal_19 : decode cX4_refusal 19 = .ok (.ifCond .eq 10, 3) := by decide +kernel
theorem dX4_refusal_22 : decode cX4_refusal 22 = .ok (.aload_n 0, 1) := by decide +kernel
theorem dX4_refusal_23 : decode cX4_refusal 23 = .ok (.getfield 61, 3) := by decide +kernel
theorem dX4_refusal_26 : decode cX4_refusal 26 = .ok (.goto 7, 3) := by decide +kernel
theorem dX4_refusal_29 : decode cX4_refusal 29 = .ok (.aload_n 0, 1) := by decide +kernel
theorem dX4_refusal_30 : decode cX4_refusal 30 = .ok (.getfield 58, 3) := by decide +kernel
theorem dX4_refusal_33 : decode cX4_refusal 33 = .ok (.ireturn, 1) := by decide +kernel
theorem dX4_account_0 : decode cX4_account 0 = .ok (.iload_n 1, 1) := by decide +kernel
theorem dX4_account_1 : decode cX4_account 1 = .ok (.tableswitch 177 0 12 #[67, 75, 83, 91, 99, 107, 115, 126, 137, 145, 153, 161, 169], 67) := by decide +kernel
theorem dX4_account_68 : decode cX4_account 68 = .ok (.aload_n 0, 1) := by decide +kernel
theorem dX4_account_69 : decode cX4_account 69 = .ok (.getfield 10, 3) := by decide +kernel
theorem dX4_account_72 : decode cX4_account 72 = .ok (.getfield 303, 3) := by decide +kernel
theorem dX4_account_75 : decode cX4_account 75 = .ok (.ireturn, 1) := by decide +kernel
theorem dX4_account_76 : decode cX4_account 76 = .ok (.aload_n 0, 1) := by decide +kernel
theorem dX4_account_77 : decode cX4_account 77 = .ok (.getfield 10, 3) := by decide +kernel
theorem dX4_account_80 : decode cX4_account 80 = .ok (.invokevirtual 99, 3) := by decide +kernel
theorem dX4_account_83 : decode cX4_account 83 = .ok (.ireturn, 1) := by decide +kernel
theorem dX4_account_84 : decode cX4_account 84 = .ok (.aload_n 0, 1) := by decide +kernel
theorem dX4_account_85 : decode cX4_account 85 = .ok (.getfield 10, 3) := by decide +kernel
theorem dX4_account_88 : decode cX4_account 88 = .ok (.getfield 150, 3) := by decide +kernel
theorem dX4_account_91 : decode cX4_account 91 = .ok (.ireturn, 1) := by decide +kernel
theorem dX4_account_92 : decode cX4_account 92 = .ok (.aload_n 0, 1) := by decide +kernel
theorem dX4_account_93 : decode cX4_account 93 = .ok (.getfield 10, 3) := by decide +kernel
theorem dX4_account_96 : decode cX4_account 96 = .ok (.invokevirtual 306, 3) := by decide +kernel
theorem dX4_account_99 : decode cX4_account 99 = .ok (.ireturn, 1) := by decide +kernel
theorem dX4_account_100 : decode cX4_account 100 = .ok (.aload_n 0, 1) := by decide +kernel
theorem dX4_account_101 : decode cX4_account 101 = .ok (.getfield 10, 3) := by decide +kernel
theorem dX4_account_104 : decode cX4_account 104 = .ok (.invokevirtual 309, 3) := by decide +kernel
theorem dX4_account_107 : decode cX4_account 107 = .ok (.ireturn, 1) := by decide +kernel
theorem dX4_account_108 : decode cX4_account 108 = .ok (.aload_n 0, 1) := by decide +kernel
theorem dX4_account_109 : decode cX4_account 109 = .ok (.getfield 10, 3) := by decide +kernel
theorem dX4_account_112 : decode cX4_account 112 = .ok (.getfield 181, 3) := by decide +kernel
theorem dX4_account_115 : decode cX4_account 115 = .ok (.ireturn, 1) := by decide +kernel
theorem dX4_account_116 : decode cX4_account 116 = .ok (.aload_n 0, 1) := by decide +kernel
theorem dX4_account_117 : decode cX4_account 117 = .ok (.getfield 10, 3) := by decide +kernel
theorem dX4_account_120 : decode cX4_account 120 = .ok (.getfield 164, 3) := by decide +kernel
theorem dX4_account_123 : decode cX4_account 123 = .ok (.invokestatic 312, 3) := by decide +kernel
theorem dX4_account_126 : decode cX4_account 126 = .ok (.ireturn, 1) := by decide +kernel
theorem dX4_account_127 : decode cX4_account 127 = .ok (.aload_n 0, 1) := by decide +kernel
theorem dX4_account_128 : decode cX4_account 128 = .ok (.getfield 10, 3) := by decide +kernel
theorem dX4_account_131 : decode cX4_account 131 = .ok (.getfield 170, 3) := by decide +kernel
theorem dX4_account_134 : decode cX4_account 134 = .ok (.invokestatic 312, 3) := by decide +kernel
theorem dX4_account_137 : decode cX4_account 137 = .ok (.ireturn, 1) := by decide +kernel
theorem dX4_account_138 : decode cX4_account 138 = .ok (.aload_n 0, 1) := by decide +kernel
theorem dX4_account_139 : decode cX4_account 139 = .ok (.getfield 10, 3) := by decide +kernel
theorem dX4_account_142 : decode cX4_account 142 = .ok (.getfield 316, 3) := by decide +kernel
theorem dX4_account_145 : decode cX4_account 145 = .ok (.ireturn, 1) := by decide +kernel
theorem dX4_account_146 : decode cX4_account 146 = .ok (.aload_n 0, 1) := by decide +kernel
theorem dX4_account_147 : decode cX4_account 147 = .ok (.getfield 10, 3) := by decide +kernel
theorem dX4_account_150 : decode cX4_account 150 = .ok (.invokevirtual 319, 3) := by decide +kernel
theorem dX4_account_153 : decode cX4_account 153 = .ok (.ireturn, 1) := by decide +kernel
theorem dX4_account_154 : decode cX4_account 154 = .ok (.aload_n 0, 1) := by decide +kernel
theorem dX4_account_155 : decode cX4_account 155 = .ok (.getfield 10, 3) := by decide +kernel
theorem dX4_account_158 : decode cX4_account 158 = .ok (.invokevirtual 322, 3) := by decide +kernel
theorem dX4_account_161 : decode cX4_account 161 = .ok (.ireturn, 1) := by decide +kernel
theorem dX4_account_162 : decode cX4_account 162 = .ok (.aload_n 0, 1) := by decide +kernel
theorem dX4_account_163 : decode cX4_account 163 = .ok (.getfield 39, 3) := by decide +kernel
theorem dX4_account_166 : decode cX4_account 166 = .ok (.getfield 277, 3) := by decide +kernel
theorem dX4_account_169 : decode cX4_account 169 = .ok (.ireturn, 1) := by decide +kernel
theorem dX4_account_170 : decode cX4_account 170 = .ok (.aload_n 0, 1) := by decide +kernel
theorem dX4_account_171 : decode cX4_account 171 = .ok (.getfield 25, 3) := by decide +kernel
theorem dX4_account_174 : decode cX4_account 174 = .ok (.getfield 325, 3) := by decide +kernel
theorem dX4_account_177 : decode cX4_account 177 = .ok (.ireturn, 1) := by decide +kernel
theorem dX4_account_178 : decode cX4_account 178 = .ok (.new 64, 3) := by decide +kernel
theorem dX4_account_181 : decode cX4_account 181 = .ok (.dup, 1) := by decide +kernel
theorem dX4_account_182 : decode cX4_account 182 = .ok (.ldc_w 328, 3) := by decide +kernel
theorem dX4_account_185 : decode cX4_account 185 = .ok (.invokespecial 68, 3) := by decide +kernel
theorem dX4_account_188 : decode cX4_account 188 = .ok (.athrow, 1) := by decide +kernel
theorem dX4_isWell_0 : decode cX4_isWell 0 = .ok (.aload_n 0, 1) := by decide +kernel
theorem dX4_isWell_1 : decode cX4_isWell 1 = .ok (.getfield 10, 3) := by decide +kernel
theorem dX4_isWell_4 : decode cX4_isWell 4 = .ok (.invokevirtual 330, 3) := by decide +kernel
theorem dX4_isWell_7 : decode cX4_isWell 7 = .ok (.ifCond .eq 17, 3) := by decide +kernel
theorem dX4_isWell_10 : decode cX4_isWell 10 = .ok (.aload_n 0, 1) := by decide +kernel
theorem dX4_isWell_11 : decode cX4_isWell 11 = .ok (.getfield 10, 3) := by decide +kernel
theorem dX4_isWell_14 : decode cX4_isWell 14 = .ok (.invokevirtual 334, 3) := by decide +kernel
theorem dX4_isWell_17 : decode cX4_isWell 17 = .ok (.ifCond .eq 7, 3) := by decide +kernel
theorem dX4_isWell_20 : decode cX4_isWell 20 = .ok (.iconst 1, 1) := by decide +kernel
theorem dX4_isWell_21 : decode cX4_isWell 21 = .ok (.goto 4, 3) := by decide +kernel
theorem dX4_isWell_24 : decode cX4_isWell 24 = .ok (.iconst 0, 1) := by decide +kernel
theorem dX4_isWell_25 : decode cX4_isWell 25 = .ok (.ireturn, 1) := by decide +kernel
theorem dX4_meanSize_0 : decode cX4_meanSize 0 = .ok (.aload_n 0, 1) := by decide +kernel
theorem dX4_meanSize_1 : decode cX4_meanSize 1 = .ok (.getfield 10, 3) := by decide +kernel
theorem dX4_meanSize_4 : decode cX4_meanSize 4 = .ok (.invokevirtual 306, 3) := by decide +kernel
theorem dX4_meanSize_7 : decode cX4_meanSize 7 = .ok (.istore_n 1, 1) := by decide +kernel
theorem dX4_meanSize_8 : decode cX4_meanSize 8 = .ok (.iload_n 1, 1) := by decide +kernel
theorem dX4_meanSize_9 : decode cX4_meanSize 9 = .ok (.ifCond .ne 14, 3) := by decide +kernel
theorem dX4_meanSize_12 : decode cX4_meanSize 12 = .ok (.new 337, 3) := by decide +kernel
theorem dX4_meanSize_15 : decode cX4_meanSize 15 = .ok (.dup, 1) := by decide +kernel
theorem dX4_meanSize_16 : decode cX4_meanSize 16 = .ok (.ldc_w 339, 3) := by decide +kernel
theorem dX4_meanSize_19 : decode cX4_meanSize 19 = .ok (.invokespecial 341, 3) := by decide +kernel
theorem dX4_meanSize_22 : decode cX4_meanSize 22 = .ok (.athrow, 1) := by decide +kernel
theorem dX4_meanSize_23 : decode cX4_meanSize 23 = .ok (.aload_n 0, 1) := by decide +kernel
theorem dX4_meanSize_24 : decode cX4_meanSize 24 = .ok (.getfield 10, 3) := by decide +kernel
theorem dX4_meanSize_27 : decode cX4_meanSize 27 = .ok (.invokevirtual 342, 3) := by decide +kernel
theorem dX4_meanSize_30 : decode cX4_meanSize 30 = .ok (.i2d, 1) := by decide +kernel
theorem dX4_meanSize_31 : decode cX4_meanSize 31 = .ok (.iload_n 1, 1) := by decide +kernel
theorem dX4_meanSize_32 : decode cX4_meanSize 32 = .ok (.i2d, 1) := by decide +kernel
theorem dX4_meanSize_33 : decode cX4_meanSize 33 = .ok (.ddiv, 1) := by decide +kernel
theorem dX4_meanSize_34 : decode cX4_meanSize 34 = .ok (.dreturn, 1) := by decide +kernel
theorem dX4_painted_0 : decode cX4_painted 0 = .ok (.aload_n 0, 1) := by decide +kernel
theorem dX4_painted_1 : decode cX4_painted 1 = .ok (.getfield 10, 3) := by decide +kernel
theorem dX4_painted_4 : decode cX4_painted 4 = .ok (.getfield 303, 3) := by decide +kernel
theorem dX4_painted_7 : decode cX4_painted 7 = .ok (.ifCond .ne 14, 3) := by decide +kernel
theorem dX4_painted_10 : decode cX4_painted 10 = .ok (.new 337, 3) := by decide +kernel
theorem dX4_painted_13 : decode cX4_painted 13 = .ok (.dup, 1) := by decide +kernel
theorem dX4_painted_14 : decode cX4_painted 14 = .ok (.ldc_w 345, 3) := by decide +kernel
theorem dX4_painted_17 : decode cX4_painted 17 = .ok (.invokespecial 341, 3) := by decide +kernel
theorem dX4_painted_20 : decode cX4_painted 20 = .ok (.athrow, 1) := by decide +kernel
theorem dX4_painted_21 : decode cX4_painted 21 = .ok (.aload_n 0, 1) := by decide +kernel
theorem dX4_painted_22 : decode cX4_painted 22 = .ok (.getfield 10, 3) := by decide +kernel
theorem dX4_painted_25 : decode cX4_painted 25 = .ok (.invokevirtual 306, 3) := by decide +kernel
theorem dX4_painted_28 : decode cX4_painted 28 = .ok (.i2f, 1) := by decide +kernel
theorem dX4_painted_29 : decode cX4_painted 29 = .ok (.aload_n 0, 1) := by decide +kernel
theorem dX4_painted_30 : decode cX4_painted 30 = .ok (.getfield 10, 3) := by decide +kernel
theorem dX4_painted_33 : decode cX4_painted 33 = .ok (.getfield 303, 3) := by decide +kernel
theorem dX4_painted_36 : decode cX4_painted 36 = .ok (.i2f, 1) := by decide +kernel
theorem dX4_painted_37 : decode cX4_painted 37 = .ok (.fdiv, 1) := by decide +kernel
theorem dX4_painted_38 : decode cX4_painted 38 = .ok (.freturn, 1) := by decide +kernel
theorem dX4_undo_0 : decode cX4_undo 0 = .ok (.aload_n 0, 1) := by decide +kernel
theorem dX4_undo_1 : decode cX4_undo 1 = .ok (.getfield 25, 3) := by decide +kernel
theorem dX4_undo_4 : decode cX4_undo 4 = .ok (.getfield 325, 3) := by decide +kernel
theorem dX4_undo_7 : decode cX4_undo 7 = .ok (.ifCond .ne 14, 3) := by decide +kernel
theorem dX4_undo_10 : decode cX4_undo 10 = .ok (.new 280, 3) := by decide +kernel
theorem dX4_undo_13 : decode cX4_undo 13 = .ok (.dup, 1) := by decide +kernel
theorem dX4_undo_14 : decode cX4_undo 14 = .ok (.ldc_w 347, 3) := by decide +kernel
theorem dX4_undo_17 : decode cX4_undo 17 = .ok (.invokespecial 284, 3) := by decide +kernel
theorem dX4_undo_20 : decode cX4_undo 20 = .ok (.athrow, 1) := by decide +kernel
theorem dX4_undo_21 : decode cX4_undo 21 = .ok (.aload_n 0, 1) := by decide +kernel
theorem dX4_undo_22 : decode cX4_undo 22 = .ok (.getfield 25, 3) := by decide +kernel
theorem dX4_undo_25 : decode cX4_undo 25 = .ok (.aload_n 0, 1) := by decide +kernel
theorem dX4_undo_26 : decode cX4_undo 26 = .ok (.getfield 10, 3) := by decide +kernel
theorem dX4_undo_29 : decode cX4_undo 29 = .ok (.invokevirtual 349, 3) := by decide +kernel
theorem dX4_undo_32 : decode cX4_undo 32 = .ok (.aload_n 0, 1) := by decide +kernel
theorem dX4_undo_33 : decode cX4_undo 33 = .ok (.getfield 25, 3) := by decide +kernel
theorem dX4_undo_36 : decode cX4_undo 36 = .ok (.getfield 325, 3) := by decide +kernel
theorem dX4_undo_39 : decode cX4_undo 39 = .ok (.ireturn, 1) := by decide +kernel
theorem dX4_save_0 : decode cX4_save 0 = .ok (.aload_n 0, 1) := by decide +kernel
theorem dX4_save_1 : decode cX4_save 1 = .ok (.getfield 19, 3) := by decide +kernel
theorem dX4_save_4 : decode cX4_save 4 = .ok (.aload_n 0, 1) := by decide +kernel
theorem dX4_save_5 : decode cX4_save 5 = .ok (.getfield 10, 3) := by decide +kernel
theorem dX4_save_8 : decode cX4_save 8 = .ok (.invokevirtual 352, 3) := by decide +kernel
theorem dX4_save_11 : decode cX4_save 11 = .ok (.aload_n 0, 1) := by decide +kernel
theorem dX4_save_12 : decode cX4_save 12 = .ok (.iconst 1, 1) := by decide +kernel
theorem dX4_save_13 : decode cX4_save 13 = .ok (.putfield 51, 3) := by decide +kernel
theorem dX4_save_16 : decode cX4_save 16 = .ok (.aload_n 0, 1) := by decide +kernel
theorem dX4_save_17 : decode cX4_save 17 = .ok (.getfield 10, 3) := by decide +kernel
theorem dX4_save_20 : decode cX4_save 20 = .ok (.getfield 303, 3) := by decide +kernel
theorem dX4_save_23 : decode cX4_save 23 = .ok (.ireturn, 1) := by decide +kernel
theorem dX4_restore_0 : decode cX4_restore 0 = .ok (.aload_n 0, 1) := by decide +kernel
theorem dX4_restore_1 : decode cX4_restore 1 = .ok (.getfield 51, 3) := by decide +kernel
theorem dX4_restore_4 : decode cX4_restore 4 = .ok (.ifCond .ne 14, 3) := by decide +kernel
theorem dX4_restore_7 : decode cX4_restore 7 = .ok (.new 280, 3) := by decide +kernel
theorem dX4_restore_10 : decode cX4_restore 10 = .ok (.dup, 1) := by decide +kernel
theorem dX4_restore_11 : decode cX4_restore 11 = .ok (.ldc_w 355, 3) := by decide +kernel
theorem dX4_restore_14 : decode cX4_restore 14 = .ok (.invokespecial 284, 3) := by decide +kernel
theorem dX4_restore_17 : decode cX4_restore 17 = .ok (.athrow, 1) := by decide +kernel
theorem dX4_restore_18 : decode cX4_restore 18 = .ok (.aload_n 0, 1) := by decide +kernel
theorem dX4_restore_19 : decode cX4_restore 19 = .ok (.getfield 10, 3) := by decide +kernel
theorem dX4_restore_22 : decode cX4_restore 22 = .ok (.aload_n 0, 1) := by decide +kernel
theorem dX4_restore_23 : decode cX4_restore 23 = .ok (.getfield 19, 3) := by decide +kernel
theorem dX4_restore_26 : decode cX4_restore 26 = .ok (.invokevirtual 352, 3) := by decide +kernel
theorem dX4_restore_29 : decode cX4_restore 29 = .ok (.aload_n 0, 1) := by decide +kernel
theorem dX4_restore_30 : decode cX4_restore 30 = .ok (.getfield 25, 3) := by decide +kernel
theorem dX4_restore_33 : decode cX4_restore 33 = .ok (.iconst 0, 1) := by decide +kernel
theorem dX4_restore_34 : decode cX4_restore 34 = .ok (.putfield 325, 3) := by decide +kernel
theorem dX4_restore_37 : decode cX4_restore 37 = .ok (.aload_n 0, 1) := by decide +kernel
theorem dX4_restore_38 : decode cX4_restore 38 = .ok (.getfield 10, 3) := by decide +kernel
theorem dX4_restore_41 : decode cX4_restore 41 = .ok (.getfield 303, 3) := by decide +kernel
theorem dX4_restore_44 : decode cX4_restore 44 = .ok (.ireturn, 1) := by decide +kernel
theorem dX4_isHue_0 : decode cX4_isHue 0 = .ok (.iload_n 0, 1) := by decide +kernel
theorem dX4_isHue_1 : decode cX4_isHue 1 = .ok (.ifCond .lt 12, 3) := by decide +kernel
theorem dX4_isHue_4 : decode cX4_isHue 4 = .ok (.iload_n 0, 1) := by decide +kernel
theorem dX4_isHue_5 : decode cX4_isHue 5 = .ok (.iconst 5, 1) := by decide +kernel
theorem dX4_isHue_6 : decode cX4_isHue 6 = .ok (.if_icmp .ge 7, 3) := by decide +kernel
theorem dX4_isHue_9 : decode cX4_isHue 9 = .ok (.iconst 1, 1) := by decide +kernel
theorem dX4_isHue_10 : decode cX4_isHue 10 = .ok (.goto 4, 3) := by decide +kernel
theorem dX4_isHue_13 : decode cX4_isHue 13 = .ok (.iconst 0, 1) := by decide +kernel
theorem dX4_isHue_14 : decode cX4_isHue 14 = .ok (.ireturn, 1) := by decide +kernel
theorem dX4_isManyHues_0 : decode cX4_isManyHues 0 = .ok (.iload_n 0, 1) := by decide +kernel
theorem dX4_isManyHues_1 : decode cX4_isManyHues 1 = .ok (.iconst 1, 1) := by decide +kernel
theorem dX4_isManyHues_2 : decode cX4_isManyHues 2 = .ok (.if_icmp .lt 12, 3) := by decide +kernel
theorem dX4_isManyHues_5 : decode cX4_isManyHues 5 = .ok (.iload_n 0, 1) := by decide +kernel
theorem dX4_isManyHues_6 : decode cX4_isManyHues 6 = .ok (.iconst 5, 1) := by decide +kernel
theorem dX4_isManyHues_7 : decode cX4_isManyHues 7 = .ok (.if_icmp .gt 7, 3) := by decide +kernel
theorem dX4_isManyHues_10 : decode cX4_isManyHues 10 = .ok (.iconst 1, 1) := by decide +kernel
theorem dX4_isManyHues_11 : decode cX4_isManyHues 11 = .ok (.goto 4, 3) := by decide +kernel
theorem dX4_isManyHues_14 : decode cX4_isManyHues 14 = .ok (.iconst 0, 1) := by decide +kernel
theorem dX4_isManyHues_15 : decode cX4_isManyHues 15 = .ok (.ireturn, 1) := by decide +kernel
theorem dX4_isManyPots_0 : decode cX4_isManyPots 0 = .ok (.iload_n 0, 1) := by decide +kernel
theorem dX4_isManyPots_1 : decode cX4_isManyPots 1 = .ok (.iconst 1, 1) := by decide +kernel
theorem dX4_isManyPots_2 : decode cX4_isManyPots 2 = .ok (.if_icmp .lt 13, 3) := by decide +kernel
theorem dX4_isManyPots_5 : decode cX4_isManyPots 5 = .ok (.iload_n 0, 1) := by decide +kernel
theorem dX4_isManyPots_6 : decode cX4_isManyPots 6 = .ok (.bipush 50, 2) := by decide +kernel
theorem dX4_isManyPots_8 : decode cX4_isManyPots 8 = .ok (.if_icmp .gt 7, 3) := by decide +kernel
theorem dX4_isManyPots_11 : decode cX4_isManyPots 11 = .ok (.iconst 1, 1) := by decide +kernel
theorem dX4_isManyPots_12 : decode cX4_isManyPots 12 = .ok (.goto 4, 3) := by decide +kernel
theorem dX4_isManyPots_15 : decode cX4_isManyPots 15 = .ok (.iconst 0, 1) := by decide +kernel
theorem dX4_isManyPots_16 : decode cX4_isManyPots 16 = .ok (.ireturn, 1) := by decide +kernel
theorem dX4_isCrown_0 : decode cX4_isCrown 0 = .ok (.iload_n 0, 1) := by decide +kernel
theorem dX4_isCrown_1 : decode cX4_isCrown 1 = .ok (.ifCond .lt 13, 3) := by decide +kernel
theorem dX4_isCrown_4 : decode cX4_isCrown 4 = .ok (.iload_n 0, 1) := by decide +kernel
theorem dX4_isCrown_5 : decode cX4_isCrown 5 = .ok (.bipush 9, 2) := by decide +kernel
theorem dX4_isCrown_7 : decode cX4_isCrown 7 = .ok (.if_icmp .gt 7, 3) := by decide +kernel
theorem dX4_isCrown_10 : decode cX4_isCrown 10 = .ok (.iconst 1, 1) := by decide +kernel
theorem dX4_isCrown_11 : decode cX4_isCrown 11 = .ok (.goto 4, 3) := by decide +kernel
theorem dX4_isCrown_14 : decode cX4_isCrown 14 = .ok (.iconst 0, 1) := by decide +kernel
theorem dX4_isCrown_15 : decode cX4_isCrown 15 = .ok (.ireturn, 1) := by decide +kernel
theorem dX4_sum_0 : decode cX4_sum 0 = .ok (.iconst 0, 1) := by decide +kernel
theorem dX4_sum_1 : decode cX4_sum 1 = .ok (.istore_n 1, 1) := by decide +kernel
theorem dX4_sum_2 : decode cX4_sum 2 = .ok (.aload_n 0, 1) := by decide +kernel
theorem dX4_sum_3 : decode cX4_sum 3 = .ok (.astore_n 2, 1) := by decide +kernel
theorem dX4_sum_4 : decode cX4_sum 4 = .ok (.aload_n 2, 1) := by decide +kernel
theorem dX4_sum_5 : decode cX4_sum 5 = .ok (.arraylength, 1) := by decide +kernel
theorem dX4_sum_6 : decode cX4_sum 6 = .ok (.istore_n 3, 1) := by decide +kernel
theorem dX4_sum_7 : decode cX4_sum 7 = .ok (.iconst 0, 1) := by decide +kernel
theorem dX4_sum_8 : decode cX4_sum 8 = .ok (.istore 4, 2) := by decide +kernel
theorem dX4_sum_10 : decode cX4_sum 10 = .ok (.iload 4, 2) := by decide +kernel
theorem dX4_sum_12 : decode cX4_sum 12 = .ok (.iload_n 3, 1) := by decide +kernel
theorem dX4_sum_13 : decode cX4_sum 13 = .ok (.if_icmp .ge 20, 3) := by decide +kernel
theorem dX4_sum_16 : decode cX4_sum 16 = .ok (.aload_n 2, 1) := by decide +kernel
theorem dX4_sum_17 : decode cX4_sum 17 = .ok (.iload 4, 2) := by decide +kernel
theorem dX4_sum_19 : decode cX4_sum 19 = .ok (.iaload, 1) := by decide +kernel
theorem dX4_sum_20 : decode cX4_sum 20 = .ok (.istore 5, 2) := by decide +kernel
theorem dX4_sum_22 : decode cX4_sum 22 = .ok (.iload_n 1, 1) := by decide +kernel
theorem dX4_sum_23 : decode cX4_sum 23 = .ok (.iload 5, 2) := by decide +kernel
theorem dX4_sum_25 : decode cX4_sum 25 = .ok (.iadd, 1) := by decide +kernel
theorem dX4_sum_26 : decode cX4_sum 26 = .ok (.istore_n 1, 1) := by decide +kernel
theorem dX4_sum_27 : decode cX4_sum 27 = .ok (.iinc 4 1, 3) := by decide +kernel
theorem dX4_sum_30 : decode cX4_sum 30 = .ok (.goto (-20), 3) := by decide +kernel
theorem dX4_sum_33 : decode cX4_sum 33 = .ok (.iload_n 1, 1) := by decide +kernel
theorem dX4_sum_34 : decode cX4_sum 34 = .ok (.ireturn, 1) := by decide +kernel
theorem dX4_stopIfNoCountry_0 : decode cX4_stopIfNoCountry 0 = .ok (.aload_n 0, 1) := by decide +kernel
theorem dX4_stopIfNoCountry_1 : decode cX4_stopIfNoCountry 1 = .ok (.getfield 10, 3) := by decide +kernel
theorem dX4_stopIfNoCountry_4 : decode cX4_stopIfNoCountry 4 = .ok (.iload_n 1, 1) := by decide +kernel
theorem dX4_stopIfNoCountry_5 : decode cX4_stopIfNoCountry 5 = .ok (.invokevirtual 357, 3) := by decide +kernel
theorem dX4_stopIfNoCountry_8 : decode cX4_stopIfNoCountry 8 = .ok (.ifCond .ne 14, 3) := by decide +kernel
theorem dX4_stopIfNoCountry_11 : decode cX4_stopIfNoCountry 11 = .ok (.new 272, 3) := by decide +kernel
theorem dX4_stopIfNoCountry_14 : decode cX4_stopIfNoCountry 14 = .ok (.dup, 1) := by decide +kernel
theorem dX4_stopIfNoCountry_15 : decode cX4_stopIfNoCountry 15 = .ok (.ldc_w 360, 3) := by decide +kernel
theorem dX4_stopIfNoCountry_18 : decode cX4_stopIfNoCountry 18 = .ok (.invokespecial 276, 3) := by decide +kernel
theorem dX4_stopIfNoCountry_21 : decode cX4_stopIfNoCountry 21 = .ok (.athrow, 1) := by decide +kernel
theorem dX4_stopIfNoCountry_22 : decode cX4_stopIfNoCountry 22 = .ok (.return_, 1) := by decide +kernel
theorem dX4_stopIfNoHue_0 : decode cX4_stopIfNoHue 0 = .ok (.iload_n 1, 1) := by decide +kernel
theorem dX4_stopIfNoHue_1 : decode cX4_stopIfNoHue 1 = .ok (.invokestatic 362, 3) := by decide +kernel
theorem dX4_stopIfNoHue_4 : decode cX4_stopIfNoHue 4 = .ok (.ifCond .ne 14, 3) := by decide +kernel
theorem dX4_stopIfNoHue_7 : decode cX4_stopIfNoHue 7 = .ok (.new 272, 3) := by decide +kernel
theorem dX4_stopIfNoHue_10 : decode cX4_stopIfNoHue 10 = .ok (.dup, 1) := by decide +kernel
theorem dX4_stopIfNoHue_11 : decode cX4_stopIfNoHue 11 = .ok (.ldc_w 365, 3) := by decide +kernel
theorem dX4_stopIfNoHue_14 : decode cX4_stopIfNoHue 14 = .ok (.invokespecial 276, 3) := by decide +kernel
theorem dX4_stopIfNoHue_17 : decode cX4_stopIfNoHue 17 = .ok (.athrow, 1) := by decide +kernel
theorem dX4_stopIfNoHue_18 : decode cX4_stopIfNoHue 18 = .ok (.return_, 1) := by decide +kernel
theorem dX4_stopIfRefused_0 : decode cX4_stopIfRefused 0 = .ok (.iload_n 1, 1) := by decide +kernel
theorem dX4_stopIfRefused_1 : decode cX4_stopIfRefused 1 = .ok (.ifCond .eq 21, 3) := by decide +kernel
theorem dX4_stopIfRefused_4 : decode cX4_stopIfRefused 4 = .ok (.aload_n 0, 1) := by decide +kernel
theorem dX4_stopIfRefused_5 : decode cX4_stopIfRefused 5 = .ok (.iload_n 1, 1) := by decide +kernel
theorem dX4_stopIfRefused_6 : decode cX4_stopIfRefused 6 = .ok (.iload_n 2, 1) := by decide +kernel
theorem dX4_stopIfRefused_7 : decode cX4_stopIfRefused 7 = .ok (.iload_n 3, 1) := by decide +kernel
theorem dX4_stopIfRefused_8 : decode cX4_stopIfRefused 8 = .ok (.invokevirtual 367, 3) := by decide +kernel
theorem dX4_stopIfRefused_11 : decode cX4_stopIfRefused 11 = .ok (.new 296, 3) := by decide +kernel
theorem dX4_stopIfRefused_14 : decode cX4_stopIfRefused 14 = .ok (.dup, 1) := by decide +kernel
theorem dX4_stopIfRefused_15 : decode cX4_stopIfRefused 15 = .ok (.ldc_w 370, 3) := by decide +kernel
theorem dX4_stopIfRefused_18 : decode cX4_stopIfRefused 18 = .ok (.invokespecial 300, 3) := by decide +kernel
theorem dX4_stopIfRefused_21 : decode cX4_stopIfRefused 21 = .ok (.athrow, 1) := by decide +kernel
theorem dX4_stopIfRefused_22 : decode cX4_stopIfRefused 22 = .ok (.return_, 1) := by decide +kernel
theorem dX4_keepReason_0 : decode cX4_keepReason 0 = .ok (.aload_n 0, 1) := by decide +kernel
theorem dX4_keepReason_1 : decode cX4_keepReason 1 = .ok (.iload_n 1, 1) := by decide +kernel
theorem dX4_keepReason_2 : decode cX4_keepReason 2 = .ok (.putfield 58, 3) := by decide +kernel
theorem dX4_keepReason_5 : decode cX4_keepReason 5 = .ok (.aload_n 0, 1) := by decide +kernel
theorem dX4_keepReason_6 : decode cX4_keepReason 6 = .ok (.aload_n 0, 1) := by decide +kernel
theorem dX4_keepReason_7 : decode cX4_keepReason 7 = .ok (.getfield 10, 3) := by decide +kernel
theorem dX4_keepReason_10 : decode cX4_keepReason 10 = .ok (.iload_n 1, 1) := by decide +kernel
theorem dX4_keepReason_11 : decode cX4_keepReason 11 = .ok (.iload_n 2, 1) := by decide +kernel
theorem dX4_keepReason_12 : decode cX4_keepReason 12 = .ok (.iload_n 3, 1) := by decide +kernel
theorem dX4_keepReason_13 : decode cX4_keepReason 13 = .ok (.invokevirtual 372, 3) := by decide +kernel
theorem dX4_keepReason_16 : decode cX4_keepReason 16 = .ok (.putfield 61, 3) := by decide +kernel
theorem dX4_keepReason_19 : decode cX4_keepReason 19 = .ok (.return_, 1) := by decide +kernel
theorem dX4_put_0 : decode cX4_put 0 = .ok (.aload_n 0, 1) := by decide +kernel
theorem dX4_put_1 : decode cX4_put 1 = .ok (.getfield 47, 3) := by decide +kernel
theorem dX4_put_4 : decode cX4_put 4 = .ok (.bipush 17, 2) := by decide +kernel
theorem dX4_put_6 : decode cX4_put 6 = .ok (.if_icmp .ge 23, 3) := by decide +kernel
theorem dX4_put_9 : decode cX4_put 9 = .ok (.aload_n 0, 1) := by decide +kernel
theorem dX4_put_10 : decode cX4_put 10 = .ok (.getfield 43, 3) := by decide +kernel
theorem dX4_put_13 : decode cX4_put 13 = .ok (.aload_n 0, 1) := by decide +kernel
theorem dX4_put_14 : decode cX4_put 14 = .ok (.getfield 47, 3) := by decide +kernel
theorem dX4_put_17 : decode cX4_put 17 = .ok (.iload_n 1, 1) := by decide +kernel
theorem dX4_put_18 : decode cX4_put 18 = .ok (.castore, 1) := by decide +kernel
theorem dX4_put_19 : decode cX4_put 19 = .ok (.aload_n 0, 1) := by decide +kernel
theorem dX4_put_20 : decode cX4_put 20 = .ok (.dup, 1) := by decide +kernel
theorem dX4_put_21 : decode cX4_put 21 = .ok (.getfield 47, 3) := by decide +kernel
theorem dX4_put_24 : decode cX4_put 24 = .ok (.iconst 1, 1) := by decide +kernel
theorem dX4_put_25 : decode cX4_put 25 = .ok (.iadd, 1) := by decide +kernel
theorem dX4_put_26 : decode cX4_put 26 = .ok (.putfield 47, 3) := by decide +kernel
theorem dX4_put_29 : decode cX4_put 29 = .ok (.return_, 1) := by decide +kernel
theorem dX4_putDigit_0 : decode cX4_putDigit 0 = .ok (.aload_n 0, 1) := by decide +kernel
theorem dX4_putDigit_1 : decode cX4_putDigit 1 = .ok (.bipush 48, 2) := by decide +kernel
theorem dX4_putDigit_3 : decode cX4_putDigit 3 = .ok (.iload_n 1, 1) := by decide +kernel
theorem dX4_putDigit_4 : decode cX4_putDigit 4 = .ok (.iadd, 1) := by decide +kernel
theorem dX4_putDigit_5 : decode cX4_putDigit 5 = .ok (.i2c, 1) := by decide +kernel
theorem dX4_putDigit_6 : decode cX4_putDigit 6 = .ok (.invokevirtual 259, 3) := by decide +kernel
theorem dX4_putDigit_9 : decode cX4_putDigit 9 = .ok (.return_, 1) := by decide +kernel
theorem dX4_putNeighbours_0 : decode cX4_putNeighbours 0 = .ok (.iconst 1, 1) := by decide +kernel
theorem dX4_putNeighbours_1 : decode cX4_putNeighbours 1 = .ok (.istore_n 2, 1) := by decide +kernel
theorem dX4_putNeighbours_2 : decode cX4_putNeighbours 2 = .ok (.iconst 0, 1) := by decide +kernel
theorem dX4_putNeighbours_3 : decode cX4_putNeighbours 3 = .ok (.istore_n 3, 1) := by decide +kernel
theorem dX4_putNeighbours_4 : decode cX4_putNeighbours 4 = .ok (.iload_n 3, 1) := by decide +kernel
theorem dX4_putNeighbours_5 : decode cX4_putNeighbours 5 = .ok (.aload_n 0, 1) := by decide +kernel
theorem dX4_putNeighbours_6 : decode cX4_putNeighbours 6 = .ok (.getfield 10, 3) := by decide +kernel
theorem dX4_putNeighbours_9 : decode cX4_putNeighbours 9 = .ok (.getfield 303, 3) := by decide +kernel
theorem dX4_putNeighbours_12 : decode cX4_putNeighbours 12 = .ok (.if_icmp .ge 38, 3) := by decide +kernel
theorem dX4_putNeighbours_15 : decode cX4_putNeighbours 15 = .ok (.aload_n 0, 1) := by decide +kernel
theorem dX4_putNeighbours_16 : decode cX4_putNeighbours 16 = .ok (.getfield 10, 3) := by decide +kernel
theorem dX4_putNeighbours_19 : decode cX4_putNeighbours 19 = .ok (.iload_n 1, 1) := by decide +kernel
theorem dX4_putNeighbours_20 : decode cX4_putNeighbours 20 = .ok (.iload_n 3, 1) := by decide +kernel
theorem dX4_putNeighbours_21 : decode cX4_putNeighbours 21 = .ok (.invokevirtual 108, 3) := by decide +kernel
theorem dX4_putNeighbours_24 : decode cX4_putNeighbours 24 = .ok (.ifCond .eq 20, 3) := by decide +kernel
theorem dX4_putNeighbours_27 : decode cX4_putNeighbours 27 = .ok (.iload_n 2, 1) := by decide +kernel
theorem dX4_putNeighbours_28 : decode cX4_putNeighbours 28 = .ok (.ifCond .ne 9, 3) := by decide +kernel
theorem dX4_putNeighbours_31 : decode cX4_putNeighbours 31 = .ok (.aload_n 0, 1) := by decide +kernel
theorem dX4_putNeighbours_32 : decode cX4_putNeighbours 32 = .ok (.bipush 44, 2) := by decide +kernel
theorem dX4_putNeighbours_34 : decode cX4_putNeighbours 34 = .ok (.invokevirtual 259, 3) := by decide +kernel
theorem dX4_putNeighbours_37 : decode cX4_putNeighbours 37 = .ok (.aload_n 0, 1) := by decide +kernel
theorem dX4_putNeighbours_38 : decode cX4_putNeighbours 38 = .ok (.iload_n 3, 1) := by decide +kernel
theorem dX4_putNeighbours_39 : decode cX4_putNeighbours 39 = .ok (.invokevirtual 256, 3) := by decide +kernel
theorem dX4_putNeighbours_42 : decode cX4_putNeighbours 42 = .ok (.iconst 0, 1) := by decide +kernel
theorem dX4_putNeighbours_43 : decode cX4_putNeighbours 43 = .ok (.istore_n 2, 1) := by decide +kernel
theorem dX4_putNeighbours_44 : decode cX4_putNeighbours 44 = .ok (.iinc 3 1, 3) := by decide +kernel
theorem dX4_putNeighbours_47 : decode cX4_putNeighbours 47 = .ok (.goto (-43), 3) := by decide +kernel
theorem dX4_putNeighbours_50 : decode cX4_putNeighbours 50 = .ok (.return_, 1) := by decide +kernel
theorem dX4_carryOutAll_0 : decode cX4_carryOutAll 0 = .ok (.aload_n 0, 1) := by decide +kernel
theorem dX4_carryOutAll_1 : decode cX4_carryOutAll 1 = .ok (.getfield 16, 3) := by decide +kernel
theorem dX4_carryOutAll_4 : decode cX4_carryOutAll 4 = .ok (.aload_n 0, 1) := by decide +kernel
theorem dX4_carryOutAll_5 : decode cX4_carryOutAll 5 = .ok (.getfield 10, 3) := by decide +kernel
theorem dX4_carryOutAll_8 : decode cX4_carryOutAll 8 = .ok (.invokevirtual 352, 3) := by decide +kernel
theorem dX4_carryOutAll_11 : decode cX4_carryOutAll 11 = .ok (.iconst 0, 1) := by decide +kernel
theorem dX4_carryOutAll_12 : decode cX4_carryOutAll 12 = .ok (.istore_n 1, 1) := by decide +kernel
theorem dX4_carryOutAll_13 : decode cX4_carryOutAll 13 = .ok (.aload_n 0, 1) := by decide +kernel
theorem dX4_carryOutAll_14 : decode cX4_carryOutAll 14 = .ok (.getfield 39, 3) := by decide +kernel
theorem dX4_carryOutAll_17 : decode cX4_carryOutAll 17 = .ok (.iconst 0, 1) := by decide +kernel
theorem dX4_carryOutAll_18 : decode cX4_carryOutAll 18 = .ok (.putfield 376, 3) := by decide +kernel
theorem dX4_carryOutAll_21 : decode cX4_carryOutAll 21 = .ok (.iload_n 1, 1) := by decide +kernel
theorem dX4_carryOutAll_22 : decode cX4_carryOutAll 22 = .ok (.bipush 60, 2) := by decide +kernel
theorem dX4_carryOutAll_24 : decode cX4_carryOutAll 24 = .ok (.if_icmp .ge 101, 3) := by decide +kernel
theorem dX4_carryOutAll_27 : decode cX4_carryOutAll 27 = .ok (.aload_n 0, 1) := by decide +kernel
theorem dX4_carryOutAll_28 : decode cX4_carryOutAll 28 = .ok (.getfield 39, 3) := by decide +kernel
theorem dX4_carryOutAll_31 : decode cX4_carryOutAll 31 = .ok (.invokevirtual 379, 3) := by decide +kernel
theorem dX4_carryOutAll_34 : decode cX4_carryOutAll 34 = .ok (.ifCond .eq 91, 3) := by decide +kernel
theorem dX4_carryOutAll_37 : decode cX4_carryOutAll 37 = .ok (.aload_n 0, 1) := by decide +kernel
theorem dX4_carryOutAll_38 : decode cX4_carryOutAll 38 = .ok (.getfield 39, 3) := by decide +kernel
theorem dX4_carryOutAll_41 : decode cX4_carryOutAll 41 = .ok (.getfield 382, 3) := by decide +kernel
theorem dX4_carryOutAll_44 : decode cX4_carryOutAll 44 = .ok (.iconst 0, 1) := by decide +kernel
theorem dX4_carryOutAll_45 : decode cX4_carryOutAll 45 = .ok (.iaload, 1) := by decide +kernel
theorem dX4_carryOutAll_46 : decode cX4_carryOutAll 46 = .ok (.istore_n 2, 1) := by decide +kernel
theorem dX4_carryOutAll_47 : decode cX4_carryOutAll 47 = .ok (.aload_n 0, 1) := by decide +kernel
theorem dX4_carryOutAll_48 : decode cX4_carryOutAll 48 = .ok (.getfield 39, 3) := by decide +kernel
theorem dX4_carryOutAll_51 : decode cX4_carryOutAll 51 = .ok (.getfield 382, 3) := by decide +kernel
theorem dX4_carryOutAll_54 : decode cX4_carryOutAll 54 = .ok (.iconst 1, 1) := by decide +kernel
theorem dX4_carryOutAll_55 : decode cX4_carryOutAll 55 = .ok (.iaload, 1) := by decide +kernel
theorem dX4_carryOutAll_56 : decode cX4_carryOutAll 56 = .ok (.istore_n 3, 1) := by decide +kernel
theorem dX4_carryOutAll_57 : decode cX4_carryOutAll 57 = .ok (.aload_n 0, 1) := by decide +kernel
theorem dX4_carryOutAll_58 : decode cX4_carryOutAll 58 = .ok (.getfield 39, 3) := by decide +kernel
theorem dX4_carryOutAll_61 : decode cX4_carryOutAll 61 = .ok (.getfield 382, 3) := by decide +kernel
theorem dX4_carryOutAll_64 : decode cX4_carryOutAll 64 = .ok (.iconst 2, 1) := by decide +kernel
theorem dX4_carryOutAll_65 : decode cX4_carryOutAll 65 = .ok (.iaload, 1) := by decide +kernel
theorem dX4_carryOutAll_66 : decode cX4_carryOutAll 66 = .ok (.istore 4, 2) := by decide +kernel
theorem dX4_carryOutAll_68 : decode cX4_carryOutAll 68 = .ok (.aload_n 0, 1) := by decide +kernel
theorem dX4_carryOutAll_69 : decode cX4_carryOutAll 69 = .ok (.aload_n 0, 1) := by decide +kernel
theorem dX4_carryOutAll_70 : decode cX4_carryOutAll 70 = .ok (.getfield 39, 3) := by decide +kernel
theorem dX4_carryOutAll_73 : decode cX4_carryOutAll 73 = .ok (.getfield 385, 3) := by decide +kernel
theorem dX4_carryOutAll_76 : decode cX4_carryOutAll 76 = .ok (.iload_n 2, 1) := by decide +kernel
theorem dX4_carryOutAll_77 : decode cX4_carryOutAll 77 = .ok (.iload_n 3, 1) := by decide +kernel
theorem dX4_carryOutAll_78 : decode cX4_carryOutAll 78 = .ok (.iload 4, 2) := by decide +kernel
theorem dX4_carryOutAll_80 : decode cX4_carryOutAll 80 = .ok (.invokevirtual 388, 3) := by decide +kernel
theorem dX4_carryOutAll_83 : decode cX4_carryOutAll 83 = .ok (.istore 5, 2) := by decide +kernel
theorem dX4_carryOutAll_85 : decode cX4_carryOutAll 85 = .ok (.iload 5, 2) := by decide +kernel
theorem dX4_carryOutAll_87 : decode cX4_carryOutAll 87 = .ok (.ifCond .eq 17, 3) := by decide +kernel
theorem dX4_carryOutAll_90 : decode cX4_carryOutAll 90 = .ok (.aload_n 0, 1) := by decide +kernel
theorem dX4_carryOutAll_91 : decode cX4_carryOutAll 91 = .ok (.getfield 10, 3) := by decide +kernel
theorem dX4_carryOutAll_94 : decode cX4_carryOutAll 94 = .ok (.aload_n 0, 1) := by decide +kernel
theorem dX4_carryOutAll_95 : decode cX4_carryOutAll 95 = .ok (.getfield 16, 3) := by decide +kernel
theorem dX4_carryOutAll_98 : decode cX4_carryOutAll 98 = .ok (.invokevirtual 352, 3) := by decide +kernel
theorem dX4_carryOutAll_101 : decode cX4_carryOutAll 101 = .ok (.iload 5, 2) := by decide +kernel
theorem dX4_carryOutAll_103 : decode cX4_carryOutAll 103 = .ok (.ireturn, 1) := by decide +kernel
theorem dX4_carryOutAll_104 : decode cX4_carryOutAll 104 = .ok (.aload_n 0, 1) := by decide +kernel
theorem dX4_carryOutAll_105 : decode cX4_carryOutAll 105 = .ok (.aload_n 0, 1) := by decide +kernel
theorem dX4_carryOutAll_106 : decode cX4_carryOutAll 106 = .ok (.getfield 39, 3) := by decide +kernel
theorem dX4_carryOutAll_109 : decode cX4_carryOutAll 109 = .ok (.getfield 385, 3) := by decide +kernel
theorem dX4_carryOutAll_112 : decode cX4_carryOutAll 112 = .ok (.iload_n 2, 1) := by decide +kernel
theorem dX4_carryOutAll_113 : decode cX4_carryOutAll 113 = .ok (.iload_n 3, 1) := by decide +kernel
theorem dX4_carryOutAll_114 : decode cX4_carryOutAll 114 = .ok (.iload 4, 2) := by decide +kernel
theorem dX4_carryOutAll_116 : decode cX4_carryOutAll 116 = .ok (.invokevirtual 392, 3) := by decide +kernel
theorem dX4_carryOutAll_119 : decode cX4_carryOutAll 119 = .ok (.iinc 1 1, 3) := by decide +kernel
theorem dX4_carryOutAll_122 : decode cX4_carryOutAll 122 = .ok (.goto (-101), 3) := by decide +kernel
theorem dX4_carryOutAll_125 : decode cX4_carryOutAll 125 = .ok (.aload_n 0, 1) := by decide +kernel
theorem dX4_carryOutAll_126 : decode cX4_carryOutAll 126 = .ok (.getfield 25, 3) := by decide +kernel
theorem dX4_carryOutAll_129 : decode cX4_carryOutAll 129 = .ok (.aload_n 0, 1) := by decide +kernel
theorem dX4_carryOutAll_130 : decode cX4_carryOutAll 130 = .ok (.getfield 16, 3) := by decide +kernel
theorem dX4_carryOutAll_133 : decode cX4_carryOutAll 133 = .ok (.invokevirtual 79, 3) := by decide +kernel
theorem dX4_carryOutAll_136 : decode cX4_carryOutAll 136 = .ok (.iload_n 1, 1) := by decide +kernel
theorem dX4_carryOutAll_137 : decode cX4_carryOutAll 137 = .ok (.ireturn, 1) := by decide +kernel
theorem dX4_judge_0 : decode cX4_judge 0 = .ok (.aload_n 0, 1) := by decide +kernel
theorem dX4_judge_1 : decode cX4_judge 1 = .ok (.iload_n 1, 1) := by decide +kernel
theorem dX4_judge_2 : decode cX4_judge 2 = .ok (.iload_n 2, 1) := by decide +kernel
theorem dX4_judge_3 : decode cX4_judge 3 = .ok (.iload_n 3, 1) := by decide +kernel
theorem dX4_judge_4 : decode cX4_judge 4 = .ok (.iload 4, 2) := by decide +kernel
theorem dX4_judge_6 : decode cX4_judge 6 = .ok (.invokevirtual 396, 3) := by decide +kernel
theorem dX4_judge_9 : decode cX4_judge 9 = .ok (.ifCond .ne 6, 3) := by decide +kernel
theorem dX4_judge_12 : decode cX4_judge 12 = .ok (.bipush (-2), 2) := by decide +kernel
theorem dX4_judge_14 : decode cX4_judge 14 = .ok (.ireturn, 1) := by decide +kernel
theorem dX4_judge_15 : decode cX4_judge 15 = .ok (.aload_n 0, 1) := by decide +kernel
theorem dX4_judge_16 : decode cX4_judge 16 = .ok (.iload_n 1, 1) := by decide +kernel
theorem dX4_judge_17 : decode cX4_judge 17 = .ok (.iload_n 2, 1) := by decide +kernel
theorem dX4_judge_18 : decode cX4_judge 18 = .ok (.iload_n 3, 1) := by decide +kernel
theorem dX4_judge_19 : decode cX4_judge 19 = .ok (.invokevirtual 400, 3) := by decide +kernel
theorem dX4_judge_22 : decode cX4_judge 22 = .ok (.istore 5, 2) := by decide +kernel
theorem dX4_judge_24 : decode cX4_judge 24 = .ok (.iload 5, 2) := by decide +kernel
theorem dX4_judge_26 : decode cX4_judge 26 = .ok (.ifCond .ne 5, 3) := by decide +kernel
theorem dX4_judge_29 : decode cX4_judge 29 = .ok (.iconst 0, 1) := by decide +kernel
theorem dX4_judge_30 : decode cX4_judge 30 = .ok (.ireturn, 1) := by decide +kernel
theorem dX4_judge_31 : decode cX4_judge 31 = .ok (.aload_n 0, 1) := by decide +kernel
theorem dX4_judge_32 : decode cX4_judge 32 = .ok (.iload 5, 2) := by decide +kernel
theorem dX4_judge_34 : decode cX4_judge 34 = .ok (.iload_n 2, 1) := by decide +kernel
theorem dX4_judge_35 : decode cX4_judge 35 = .ok (.iload_n 3, 1) := by decide +kernel
theorem dX4_judge_36 : decode cX4_judge 36 = .ok (.invokevirtual 367, 3) := by decide +kernel
theorem dX4_judge_39 : decode cX4_judge 39 = .ok (.iconst (-1), 1) := by decide +kernel
theorem dX4_judge_40 : decode cX4_judge 40 = .ok (.ireturn, 1) := by decide +kernel
theorem dX4_isInRange_0 : decode cX4_isInRange 0 = .ok (.iload_n 1, 1) := by decide +kernel
theorem dX4_isInRange_1 : decode cX4_isInRange 1 = .ok (.lookupswitch 160 #[(98, 75), (104, 135), (106, 140), (112, 51), (119, 103)], 51) := by decide +kernel
theorem dX4_isInRange_52 : decode cX4_isInRange 52 = .ok (.aload_n 0, 1) := by decide +kernel
theorem dX4_isInRange_53 : decode cX4_isInRange 53 = .ok (.getfield 10, 3) := by decide +kernel
theorem dX4_isInRange_56 : decode cX4_isInRange 56 = .ok (.iload_n 2, 1) := by decide +kernel
theorem dX4_isInRange_57 : decode cX4_isInRange 57 = .ok (.invokevirtual 357, 3) := by decide +kernel
theorem dX4_isInRange_60 : decode cX4_isInRange 60 = .ok (.ifCond .eq 14, 3) := by decide +kernel
theorem dX4_isInRange_63 : decode cX4_isInRange 63 = .ok (.iload_n 3, 1) := by decide +kernel
theorem dX4_isInRange_64 : decode cX4_isInRange 64 = .ok (.invokestatic 362, 3) := by decide +kernel
theorem dX4_isInRange_67 : decode cX4_isInRange 67 = .ok (.ifCond .eq 7, 3) := by decide +kernel
theorem dX4_isInRange_70 : decode cX4_isInRange 70 = .ok (.iconst 1, 1) := by decide +kernel
theorem dX4_isInRange_71 : decode cX4_isInRange 71 = .ok (.goto 4, 3) := by decide +kernel
theorem dX4_isInRange_74 : decode cX4_isInRange 74 = .ok (.iconst 0, 1) := by decide +kernel
theorem dX4_isInRange_75 : decode cX4_isInRange 75 = .ok (.ireturn, 1) := by decide +kernel
theorem dX4_isInRange_76 : decode cX4_isInRange 76 = .ok (.aload_n 0, 1) := by decide +kernel
theorem dX4_isInRange_77 : decode cX4_isInRange 77 = .ok (.getfield 10, 3) := by decide +kernel
theorem dX4_isInRange_80 : decode cX4_isInRange 80 = .ok (.iload_n 2, 1) := by decide +kernel
theorem dX4_isInRange_81 : decode cX4_isInRange 81 = .ok (.invokevirtual 357, 3) := by decide +kernel
theorem dX4_isInRange_84 : decode cX4_isInRange 84 = .ok (.ifCond .eq 18, 3) := by decide +kernel
theorem dX4_isInRange_87 : decode cX4_isInRange 87 = .ok (.aload_n 0, 1) := by decide +kernel
theorem dX4_isInRange_88 : decode cX4_isInRange 88 = .ok (.getfield 10, 3) := by decide +kernel
theorem dX4_isInRange_91 : decode cX4_isInRange 91 = .ok (.iload_n 3, 1) := by decide +kernel
theorem dX4_isInRange_92 : decode cX4_isInRange 92 = .ok (.invokevirtual 357, 3) := by decide +kernel
theorem dX4_isInRange_95 : decode cX4_isInRange 95 = .ok (.ifCond .eq 7, 3) := by decide +kernel
theorem dX4_isInRange_98 : decode cX4_isInRange 98 = .ok (.iconst 1, 1) := by decide +kernel
theorem dX4_isInRange_99 : decode cX4_isInRange 99 = .ok (.goto 4, 3) := by decide +kernel
theorem dX4_isInRange_102 : decode cX4_isInRange 102 = .ok (.iconst 0, 1) := by decide +kernel
theorem dX4_isInRange_103 : decode cX4_isInRange 103 = .ok (.ireturn, 1) := by decide +kernel
theorem dX4_isInRange_104 : decode cX4_isInRange 104 = .ok (.aload_n 0, 1) := by decide +kernel
theorem dX4_isInRange_105 : decode cX4_isInRange 105 = .ok (.getfield 10, 3) := by decide +kernel
theorem dX4_isInRange_108 : decode cX4_isInRange 108 = .ok (.iload_n 2, 1) := by decide +kernel
theorem dX4_isInRange_109 : decode cX4_isInRange 109 = .ok (.invokevirtual 357, 3) := by decide +kernel
theorem dX4_isInRange_112 : decode cX4_isInRange 112 = .ok (.ifCond .eq 22, 3) := by decide +kernel
theorem dX4_isInRange_115 : decode cX4_isInRange 115 = .ok (.iload_n 3, 1) := by decide +kernel
theorem dX4_isInRange_116 : decode cX4_isInRange 116 = .ok (.invokestatic 362, 3) := by decide +kernel
theorem dX4_isInRange_119 : decode cX4_isInRange 119 = .ok (.ifCond .eq 15, 3) := by decide +kernel
theorem dX4_isInRange_122 : decode cX4_isInRange 122 = .ok (.iload 4, 2) := by decide +kernel
theorem dX4_isInRange_124 : decode cX4_isInRange 124 = .ok (.invokestatic 216, 3) := by decide +kernel
theorem dX4_isInRange_127 : decode cX4_isInRange 127 = .ok (.ifCond .eq 7, 3) := by decide +kernel
theorem dX4_isInRange_130 : decode cX4_isInRange 130 = .ok (.iconst 1, 1) := by decide +kernel
theorem dX4_isInRange_131 : decode cX4_isInRange 131 = .ok (.goto 4, 3) := by decide +kernel
theorem dX4_isInRange_134 : decode cX4_isInRange 134 = .ok (.iconst 0, 1) := by decide +kernel
theorem dX4_isInRange_135 : decode cX4_isInRange 135 = .ok (.ireturn, 1) := by decide +kernel
theorem dX4_isInRange_136 : decode cX4_isInRange 136 = .ok (.iload_n 2, 1) := by decide +kernel
theorem dX4_isInRange_137 : decode cX4_isInRange 137 = .ok (.invokestatic 141, 3) := by decide +kernel
theorem dX4_isInRange_140 : decode cX4_isInRange 140 = .ok (.ireturn, 1) := by decide +kernel
theorem dX4_isInRange_141 : decode cX4_isInRange 141 = .ok (.iload_n 2, 1) := by decide +kernel
theorem dX4_isInRange_142 : decode cX4_isInRange 142 = .ok (.invokestatic 362, 3) := by decide +kernel
theorem dX4_isInRange_145 : decode cX4_isInRange 145 = .ok (.ifCond .eq 14, 3) := by decide +kernel
theorem dX4_isInRange_148 : decode cX4_isInRange 148 = .ok (.iload_n 3, 1) := by decide +kernel
theorem dX4_isInRange_149 : decode cX4_isInRange 149 = .ok (.invokestatic 156, 3) := by decide +kernel
theorem dX4_isInRange_152 : decode cX4_isInRange 152 = .ok (.ifCond .eq 7, 3) := by decide +kernel
theorem dX4_isInRange_155 : decode cX4_isInRange 155 = .ok (.iconst 1, 1) := by decide +kernel
theorem dX4_isInRange_156 : decode cX4_isInRange 156 = .ok (.goto 4, 3) := by decide +kernel
theorem dX4_isInRange_159 : decode cX4_isInRange 159 = .ok (.iconst 0, 1) := by decide +kernel
theorem dX4_isInRange_160 : decode cX4_isInRange 160 = .ok (.ireturn, 1) := by decide +kernel
theorem dX4_isInRange_161 : decode cX4_isInRange 161 = .ok (.iconst 1, 1) := by decide +kernel
theorem dX4_isInRange_162 : decode cX4_isInRange 162 = .ok (.ireturn, 1) := by decide +kernel
theorem dX4_reasonAgainstOrder_0 : decode cX4_reasonAgainstOrder 0 = .ok (.iload_n 1, 1) := by decide +kernel
theorem dX4_reasonAgainstOrder_1 : decode cX4_reasonAgainstOrder 1 = .ok (.lookupswitch 80 #[(98, 53), (104, 71), (112, 43), (120, 63)], 43) := by decide +kernel
theorem dX4_reasonAgainstOrder_44 : decode cX4_reasonAgainstOrder 44 = .ok (.aload_n 0, 1) := by decide +kernel
theorem dX4_reasonAgainstOrder_45 : decode cX4_reasonAgainstOrder 45 = .ok (.getfield 10, 3) := by decide +kernel
theorem dX4_reasonAgainstOrder_48 : decode cX4_reasonAgainstOrder 48 = .ok (.iload_n 2, 1) := by decide +kernel
theorem dX4_reasonAgainstOrder_49 : decode cX4_reasonAgainstOrder 49 = .ok (.iload_n 3, 1) := by decide +kernel
theorem dX4_reasonAgainstOrder_50 : decode cX4_reasonAgainstOrder 50 = .ok (.invokevirtual 175, 3) := by decide +kernel
theorem dX4_reasonAgainstOrder_53 : decode cX4_reasonAgainstOrder 53 = .ok (.ireturn, 1) := by decide +kernel
theorem dX4_reasonAgainstOrder_54 : decode cX4_reasonAgainstOrder 54 = .ok (.aload_n 0, 1) := by decide +kernel
theorem dX4_reasonAgainstOrder_55 : decode cX4_reasonAgainstOrder 55 = .ok (.getfield 10, 3) := by decide +kernel
theorem dX4_reasonAgainstOrder_58 : decode cX4_reasonAgainstOrder 58 = .ok (.iload_n 2, 1) := by decide +kernel
theorem dX4_reasonAgainstOrder_59 : decode cX4_reasonAgainstOrder 59 = .ok (.iload_n 3, 1) := by decide +kernel
theorem dX4_reasonAgainstOrder_60 : decode cX4_reasonAgainstOrder 60 = .ok (.invokevirtual 91, 3) := by decide +kernel
theorem dX4_reasonAgainstOrder_63 : decode cX4_reasonAgainstOrder 63 = .ok (.ireturn, 1) := by decide +kernel
theorem dX4_reasonAgainstOrder_64 : decode cX4_reasonAgainstOrder 64 = .ok (.aload_n 0, 1) := by decide +kernel
theorem dX4_reasonAgainstOrder_65 : decode cX4_reasonAgainstOrder 65 = .ok (.getfield 10, 3) := by decide +kernel
theorem dX4_reasonAgainstOrder_68 : decode cX4_reasonAgainstOrder 68 = .ok (.invokevirtual 184, 3) := by decide +kernel
theorem dX4_reasonAgainstOrder_71 : decode cX4_reasonAgainstOrder 71 = .ok (.ireturn, 1) := by decide +kernel
theorem dX4_reasonAgainstOrder_72 : decode cX4_reasonAgainstOrder 72 = .ok (.aload_n 0, 1) := by decide +kernel
theorem dX4_reasonAgainstOrder_73 : decode cX4_reasonAgainstOrder 73 = .ok (.getfield 10, 3) := by decide +kernel
theorem dX4_reasonAgainstOrder_76 : decode cX4_reasonAgainstOrder 76 = .ok (.iload_n 2, 1) := by decide +kernel
theorem dX4_reasonAgainstOrder_77 : decode cX4_reasonAgainstOrder 77 = .ok (.invokevirtual 147, 3) := by decide +kernel
theorem dX4_reasonAgainstOrder_80 : decode cX4_reasonAgainstOrder 80 = .ok (.ireturn, 1) := by decide +kernel
theorem dX4_reasonAgainstOrder_81 : decode cX4_reasonAgainstOrder 81 = .ok (.iconst 0, 1) := by decide +kernel
theorem dX4_reasonAgainstOrder_82 : decode cX4_reasonAgainstOrder 82 = .ok (.ireturn, 1) := by decide +kernel
theorem dX4_perform_0 : decode cX4_perform 0 = .ok (.iload_n 1, 1) := by decide +kernel
theorem dX4_perform_1 : decode cX4_perform 1 = .ok (.tableswitch 190 98 120 #[119, 190, 190, 190, 142, 190, 167, 190, 178, 190, 190, 190, 190, 190, 107, 190, 190, 190, 190, 190, 190, 153, 131], 107) := by decide +kernel
theorem dX4_perform_108 : decode cX4_perform 108 = .ok (.aload_n 0, 1) := by decide +kernel
theorem dX4_perform_109 : decode cX4_perform 109 = .ok (.getfield 10, 3) := by decide +kernel
theorem dX4_perform_112 : decode cX4_perform 112 = .ok (.iload_n 2, 1) := by decide +kernel
theorem dX4_perform_113 : decode cX4_perform 113 = .ok (.iload_n 3, 1) := by decide +kernel
theorem dX4_perform_114 : decode cX4_perform 114 = .ok (.invokevirtual 178, 3) := by decide +kernel
theorem dX4_perform_117 : decode cX4_perform 117 = .ok (.goto 74, 3) := by decide +kernel
theorem dX4_perform_120 : decode cX4_perform 120 = .ok (.aload_n 0, 1) := by decide +kernel
theorem dX4_perform_121 : decode cX4_perform 121 = .ok (.getfield 10, 3) := by decide +kernel
theorem dX4_perform_124 : decode cX4_perform 124 = .ok (.iload_n 2, 1) := by decide +kernel
theorem dX4_perform_125 : decode cX4_perform 125 = .ok (.iload_n 3, 1) := by decide +kernel
theorem dX4_perform_126 : decode cX4_perform 126 = .ok (.invokevirtual 95, 3) := by decide +kernel
theorem dX4_perform_129 : decode cX4_perform 129 = .ok (.goto 62, 3) := by decide +kernel
theorem dX4_perform_132 : decode cX4_perform 132 = .ok (.aload_n 0, 1) := by decide +kernel
theorem dX4_perform_133 : decode cX4_perform 133 = .ok (.getfield 10, 3) := by decide +kernel
theorem dX4_perform_136 : decode cX4_perform 136 = .ok (.invokevirtual 187, 3) := by decide +kernel
theorem dX4_perform_139 : decode cX4_perform 139 = .ok (.pop, 1) := by decide +kernel
theorem dX4_perform_140 : decode cX4_perform 140 = .ok (.goto 51, 3) := by decide +kernel
theorem dX4_perform_143 : decode cX4_perform 143 = .ok (.aload_n 0, 1) := by decide +kernel
theorem dX4_perform_144 : decode cX4_perform 144 = .ok (.getfield 10, 3) := by decide +kernel
theorem dX4_perform_147 : decode cX4_perform 147 = .ok (.invokevirtual 190, 3) := by decide +kernel
theorem dX4_perform_150 : decode cX4_perform 150 = .ok (.pop, 1) := by decide +kernel
theorem dX4_perform_151 : decode cX4_perform 151 = .ok (.goto 40, 3) := by decide +kernel
theorem dX4_perform_154 : decode cX4_perform 154 = .ok (.aload_n 0, 1) := by decide +kernel
theorem dX4_perform_155 : decode cX4_perform 155 = .ok (.getfield 10, 3) := by decide +kernel
theorem dX4_perform_158 : decode cX4_perform 158 = .ok (.iload_n 2, 1) := by decide +kernel
theorem dX4_perform_159 : decode cX4_perform 159 = .ok (.iload_n 3, 1) := by decide +kernel
theorem dX4_perform_160 : decode cX4_perform 160 = .ok (.iload 4, 2) := by decide +kernel
theorem dX4_perform_162 : decode cX4_perform 162 = .ok (.invokevirtual 221, 3) := by decide +kernel
theorem dX4_perform_165 : decode cX4_perform 165 = .ok (.goto 26, 3) := by decide +kernel
theorem dX4_perform_168 : decode cX4_perform 168 = .ok (.aload_n 0, 1) := by decide +kernel
theorem dX4_perform_169 : decode cX4_perform 169 = .ok (.getfield 10, 3) := by decide +kernel
theorem dX4_perform_172 : decode cX4_perform 172 = .ok (.iload_n 2, 1) := by decide +kernel
theorem dX4_perform_173 : decode cX4_perform 173 = .ok (.putfield 150, 3) := by decide +kernel
theorem dX4_perform_176 : decode cX4_perform 176 = .ok (.goto 15, 3) := by decide +kernel
theorem dX4_perform_179 : decode cX4_perform 179 = .ok (.aload_n 0, 1) := by decide +kernel
theorem dX4_perform_180 : decode cX4_perform 180 = .ok (.getfield 10, 3) := by decide +kernel
theorem dX4_perform_183 : decode cX4_perform 183 = .ok (.iload_n 2, 1) := by decide +kernel
theorem dX4_perform_184 : decode cX4_perform 184 = .ok (.iload_n 3, 1) := by decide +kernel
theorem dX4_perform_185 : decode cX4_perform 185 = .ok (.invokevirtual 161, 3) := by decide +kernel
theorem dX4_perform_188 : decode cX4_perform 188 = .ok (.goto 3, 3) := by decide +kernel
theorem dX4_perform_191 : decode cX4_perform 191 = .ok (.return_, 1) := by decide +kernel
theorem dJx00060_init_a7421_0 : decode cJx00060_init_a7421 0 = .ok (.aload_n 0, 1) := by decide +kernel
theorem dJx00060_init_a7421_1 : decode cJx00060_init_a7421 1 = .ok (.aload_n 1, 1) := by decide +kernel
theorem dJx00060_init_a7421_2 : decode cJx00060_init_a7421 2 = .ok (.invokespecial 7, 3) := by decide +kernel
theorem dJx00060_init_a7421_5 : decode cJx00060_init_a7421 5 = .ok (.return_, 1) := by decide +kernel
theorem dJ6_bitCount_0f7a4_0 : decode cJ6_bitCount_0f7a4 0 = .ok (.iload_n 0, 1) := by decide +kernel
theorem dJ6_bitCount_0f7a4_1 : decode cJ6_bitCount_0f7a4 1 = .ok (.iload_n 0, 1) := by decide +kernel
theorem dJ6_bitCount_0f7a4_2 : decode cJ6_bitCount_0f7a4 2 = .ok (.iconst 1, 1) := by decide +kernel
theorem dJ6_bitCount_0f7a4_3 : decode cJ6_bitCount_0f7a4 3 = .ok (.iushr, 1) := by decide +kernel
theorem dJ6_bitCount_0f7a4_4 : decode cJ6_bitCount_0f7a4 4 = .ok (.ldc_w 265, 3) := by decide +kernel
theorem dJ6_bitCount_0f7a4_7 : decode cJ6_bitCount_0f7a4 7 = .ok (.iand, 1) := by decide +kernel
theorem dJ6_bitCount_0f7a4_8 : decode cJ6_bitCount_0f7a4 8 = .ok (.isub, 1) := by decide +kernel
theorem dJ6_bitCount_0f7a4_9 : decode cJ6_bitCount_0f7a4 9 = .ok (.istore_n 0, 1) := by decide +kernel
theorem dJ6_bitCount_0f7a4_10 : decode cJ6_bitCount_0f7a4 10 = .ok (.iload_n 0, 1) := by decide +kernel
theorem dJ6_bitCount_0f7a4_11 : decode cJ6_bitCount_0f7a4 11 = .ok (.ldc_w 266, 3) := by decide +kernel
theorem dJ6_bitCount_0f7a4_14 : decode cJ6_bitCount_0f7a4 14 = .ok (.iand, 1) := by decide +kernel
theorem dJ6_bitCount_0f7a4_15 : decode cJ6_bitCount_0f7a4 15 = .ok (.iload_n 0, 1) := by decide +kernel
theorem dJ6_bitCount_0f7a4_16 : decode cJ6_bitCount_0f7a4 16 = .ok (.iconst 2, 1) := by decide +kernel
theorem dJ6_bitCount_0f7a4_17 : decode cJ6_bitCount_0f7a4 17 = .ok (.iushr, 1) := by decide +kernel
theorem dJ6_bitCount_0f7a4_18 : decode cJ6_bitCount_0f7a4 18 = .ok (.ldc_w 266, 3) := by decide +kernel
theorem dJ6_bitCount_0f7a4_21 : decode cJ6_bitCount_0f7a4 21 = .ok (.iand, 1) := by decide +kernel
theorem dJ6_bitCount_0f7a4_22 : decode cJ6_bitCount_0f7a4 22 = .ok (.iadd, 1) := by decide +kernel
theorem dJ6_bitCount_0f7a4_23 : decode cJ6_bitCount_0f7a4 23 = .ok (.istore_n 0, 1) := by decide +kernel
theorem dJ6_bitCount_0f7a4_24 : decode cJ6_bitCount_0f7a4 24 = .ok (.iload_n 0, 1) := by decide +kernel
theorem dJ6_bitCount_0f7a4_25 : decode cJ6_bitCount_0f7a4 25 = .ok (.iload_n 0, 1) := by decide +kernel
theorem dJ6_bitCount_0f7a4_26 : decode cJ6_bitCount_0f7a4 26 = .ok (.iconst 4, 1) := by decide +kernel
theorem dJ6_bitCount_0f7a4_27 : decode cJ6_bitCount_0f7a4 27 = .ok (.iushr, 1) := by decide +kernel
theorem dJ6_bitCount_0f7a4_28 : decode cJ6_bitCount_0f7a4 28 = .ok (.iadd, 1) := by decide +kernel
theorem dJ6_bitCount_0f7a4_29 : decode cJ6_bitCount_0f7a4 29 = .ok (.ldc_w 267, 3) := by decide +kernel
theorem dJ6_bitCount_0f7a4_32 : decode cJ6_bitCount_0f7a4 32 = .ok (.iand, 1) := by decide +kernel
theorem dJ6_bitCount_0f7a4_33 : decode cJ6_bitCount_0f7a4 33 = .ok (.istore_n 0, 1) := by decide +kernel
theorem dJ6_bitCount_0f7a4_34 : decode cJ6_bitCount_0f7a4 34 = .ok (.iload_n 0, 1) := by decide +kernel
theorem dJ6_bitCount_0f7a4_35 : decode cJ6_bitCount_0f7a4 35 = .ok (.iload_n 0, 1) := by decide +kernel
theorem dJ6_bitCount_0f7a4_36 : decode cJ6_bitCount_0f7a4 36 = .ok (.bipush 8, 2) := by decide +kernel
theorem dJ6_bitCount_0f7a4_38 : decode cJ6_bitCount_0f7a4 38 = .ok (.iushr, 1) := by decide +kernel
theorem dJ6_bitCount_0f7a4_39 : decode cJ6_bitCount_0f7a4 39 = .ok (.iadd, 1) := by decide +kernel
theorem dJ6_bitCount_0f7a4_40 : decode cJ6_bitCount_0f7a4 40 = .ok (.istore_n 0, 1) := by decide +kernel
theorem dJ6_bitCount_0f7a4_41 : decode cJ6_bitCount_0f7a4 41 = .ok (.iload_n 0, 1) := by decide +kernel
theorem dJ6_bitCount_0f7a4_42 : decode cJ6_bitCount_0f7a4 42 = .ok (.iload_n 0, 1) := by decide +kernel
theorem dJ6_bitCount_0f7a4_43 : decode cJ6_bitCount_0f7a4 43 = .ok (.bipush 16, 2) := by decide +kernel
theorem dJ6_bitCount_0f7a4_45 : decode cJ6_bitCount_0f7a4 45 = .ok (.iushr, 1) := by decide +kernel
theorem dJ6_bitCount_0f7a4_46 : decode cJ6_bitCount_0f7a4 46 = .ok (.iadd, 1) := by decide +kernel
theorem dJ6_bitCount_0f7a4_47 : decode cJ6_bitCount_0f7a4 47 = .ok (.istore_n 0, 1) := by decide +kernel
theorem dJ6_bitCount_0f7a4_48 : decode cJ6_bitCount_0f7a4 48 = .ok (.iload_n 0, 1) := by decide +kernel
theorem dJ6_bitCount_0f7a4_49 : decode cJ6_bitCount_0f7a4 49 = .ok (.bipush 63, 2) := by decide +kernel
theorem dJ6_bitCount_0f7a4_51 : decode cJ6_bitCount_0f7a4 51 = .ok (.iand, 1) := by decide +kernel
theorem dJ6_bitCount_0f7a4_52 : decode cJ6_bitCount_0f7a4 52 = .ok (.ireturn, 1) := by decide +kernel
theorem dJ9_floorMod_7cf53_0 : decode cJ9_floorMod_7cf53 0 = .ok (.iload_n 0, 1) := by decide +kernel
theorem dJ9_floorMod_7cf53_1 : decode cJ9_floorMod_7cf53 1 = .ok (.iload_n 1, 1) := by decide +kernel
theorem dJ9_floorMod_7cf53_2 : decode cJ9_floorMod_7cf53 2 = .ok (.irem, 1) := by decide +kernel
theorem dJ9_floorMod_7cf53_3 : decode cJ9_floorMod_7cf53 3 = .ok (.istore_n 2, 1) := by decide +kernel
theorem dJ9_floorMod_7cf53_4 : decode cJ9_floorMod_7cf53 4 = .ok (.iload_n 0, 1) := by decide +kernel
theorem dJ9_floorMod_7cf53_5 : decode cJ9_floorMod_7cf53 5 = .ok (.iload_n 1, 1) := by decide +kernel
theorem dJ9_floorMod_7cf53_6 : decode cJ9_floorMod_7cf53 6 = .ok (.ixor, 1) := by decide +kernel
theorem dJ9_floorMod_7cf53_7 : decode cJ9_floorMod_7cf53 7 = .ok (.ifCond .ge 11, 3) := by decide +kernel
theorem dJ9_floorMod_7cf53_10 : decode cJ9_floorMod_7cf53 10 = .ok (.iload_n 2, 1) := by decide +kernel
theorem dJ9_floorMod_7cf53_11 : decode cJ9_floorMod_7cf53 11 = .ok (.ifCond .eq 7, 3) := by decide +kernel
theorem dJ9_floorMod_7cf53_14 : decode cJ9_floorMod_7cf53 14 = .ok (.iload_n 2, 1) := by decide +kernel
theorem dJ9_floorMod_7cf53_15 : decode cJ9_floorMod_7cf53 15 = .ok (.iload_n 1, 1) := by decide +kernel
theorem dJ9_floorMod_7cf53_16 : decode cJ9_floorMod_7cf53 16 = .ok (.iadd, 1) := by decide +kernel
theorem dJ9_floorMod_7cf53_17 : decode cJ9_floorMod_7cf53 17 = .ok (.ireturn, 1) := by decide +kernel
theorem dJ9_floorMod_7cf53_18 : decode cJ9_floorMod_7cf53 18 = .ok (.iload_n 2, 1) := by decide +kernel
theorem dJ9_floorMod_7cf53_19 : decode cJ9_floorMod_7cf53 19 = .ok (.ireturn, 1) := by decide +kernel
theorem dJ9_max_7cf53_0 : decode cJ9_max_7cf53 0 = .ok (.iload_n 0, 1) := by decide +kernel
theorem dJ9_max_7cf53_1 : decode cJ9_max_7cf53 1 = .ok (.iload_n 1, 1) := by decide +kernel
theorem dJ9_max_7cf53_2 : decode cJ9_max_7cf53 2 = .ok (.if_icmp .lt 7, 3) := by decide +kernel
theorem dJ9_max_7cf53_5 : decode cJ9_max_7cf53 5 = .ok (.iload_n 0, 1) := by decide +kernel
theorem dJ9_max_7cf53_6 : decode cJ9_max_7cf53 6 = .ok (.goto 4, 3) := by decide +kernel
theorem dJ9_max_7cf53_9 : decode cJ9_max_7cf53 9 = .ok (.iload_n 1, 1) := by decide +kernel
theorem dJ9_max_7cf53_10 : decode cJ9_max_7cf53 10 = .ok (.ireturn, 1) := by decide +kernel
theorem dJ9_min_7cf53_0 : decode cJ9_min_7cf53 0 = .ok (.iload_n 0, 1) := by decide +kernel
theorem dJ9_min_7cf53_1 : decode cJ9_min_7cf53 1 = .ok (.iload_n 1, 1) := by decide +kernel
theorem dJ9_min_7cf53_2 : decode cJ9_min_7cf53 2 = .ok (.if_icmp .gt 7, 3) := by decide +kernel
theorem dJ9_min_7cf53_5 : decode cJ9_min_7cf53 5 = .ok (.iload_n 0, 1) := by decide +kernel
theorem dJ9_min_7cf53_6 : decode cJ9_min_7cf53 6 = .ok (.goto 4, 3) := by decide +kernel
theorem dJ9_min_7cf53_9 : decode cJ9_min_7cf53 9 = .ok (.iload_n 1, 1) := by decide +kernel
theorem dJ9_min_7cf53_10 : decode cJ9_min_7cf53 10 = .ok (.ireturn, 1) := by decide +kernel
theorem dJ0_length_8abf5_0 : decode cJ0_length_8abf5 0 = .ok (.aload_n 0, 1) := by decide +kernel
theorem dJ0_length_8abf5_1 : decode cJ0_length_8abf5 1 = .ok (.getfield 9, 3) := by decide +kernel
theorem dJ0_length_8abf5_4 : decode cJ0_length_8abf5 4 = .ok (.arraylength, 1) := by decide +kernel
theorem dJ0_length_8abf5_5 : decode cJ0_length_8abf5 5 = .ok (.aload_n 0, 1) := by decide +kernel
theorem dJ0_length_8abf5_6 : decode cJ0_length_8abf5 6 = .ok (.invokevirtual 335, 3) := by decide +kernel
theorem dJ0_length_8abf5_9 : decode cJ0_length_8abf5 9 = .ok (.ishr, 1) := by decide +kernel
theorem dJ0_length_8abf5_10 : decode cJ0_length_8abf5 10 = .ok (.ireturn, 1) := by decide +kernel
theorem dJ0_charAt_5068e_0 : decode cJ0_charAt_5068e 0 = .ok (.aload_n 0, 1) := by decide +kernel
theorem dJ0_charAt_5068e_1 : decode cJ0_charAt_5068e 1 = .ok (.invokevirtual 492, 3) := by decide +kernel
theorem dJ0_charAt_5068e_4 : decode cJ0_charAt_5068e 4 = .ok (.ifCond .eq 12, 3) := by decide +kernel
theorem dJ0_charAt_5068e_7 : decode cJ0_charAt_5068e 7 = .ok (.aload_n 0, 1) := by decide +kernel
theorem dJ0_charAt_5068e_8 : decode cJ0_charAt_5068e 8 = .ok (.getfield 9, 3) := by decide +kernel
theorem dJ0_charAt_5068e_11 : decode cJ0_charAt_5068e 11 = .ok (.iload_n 1, 1) := by decide +kernel
theorem dJ0_charAt_5068e_12 : decode cJ0_charAt_5068e 12 = .ok (.invokestatic 495, 3) := by decide +kernel
theorem dJ0_charAt_5068e_15 : decode cJ0_charAt_5068e 15 = .ok (.ireturn, 1) := by decide +kernel
theorem dJ0_charAt_5068e_16 : decode cJ0_charAt_5068e 16 = .ok (.aload_n 0, 1) := by decide +kernel
theorem dJ0_charAt_5068e_17 : decode cJ0_charAt_5068e 17 = .ok (.getfield 9, 3) := by decide +kernel
theorem dJ0_charAt_5068e_20 : decode cJ0_charAt_5068e 20 = .ok (.iload_n 1, 1) := by decide +kernel
theorem dJ0_charAt_5068e_21 : decode cJ0_charAt_5068e 21 = .ok (.invokestatic 498, 3) := by decide +kernel
theorem dJ0_charAt_5068e_24 : decode cJ0_charAt_5068e 24 = .ok (.ireturn, 1) := by decide +kernel
theorem dJ0_coder_7d493_0 : decode cJ0_coder_7d493 0 = .ok (.getstatic 38, 3) := by decide +kernel
theorem dJ0_coder_7d493_3 : decode cJ0_coder_7d493 3 = .ok (.ifCond .eq 10, 3) := by decide +kernel
theorem dJ0_coder_7d493_6 : decode cJ0_coder_7d493 6 = .ok (.aload_n 0, 1) := by decide +kernel
theorem dJ0_coder_7d493_7 : decode cJ0_coder_7d493 7 = .ok (.getfield 15, 3) := by decide +kernel
theorem dJ0_coder_7d493_10 : decode cJ0_coder_7d493 10 = .ok (.goto 4, 3) := by decide +kernel
theorem dJ0_coder_7d493_13 : decode cJ0_coder_7d493 13 = .ok (.iconst 1, 1) := by decide +kernel
theorem dJ0_coder_7d493_14 : decode cJ0_coder_7d493 14 = .ok (.ireturn, 1) := by decide +kernel
theorem dJ0_isLatin1_aae02_0 : decode cJ0_isLatin1_aae02 0 = .ok (.getstatic 38, 3) := by decide +kernel
theorem dJ0_isLatin1_aae02_3 : decode cJ0_isLatin1_aae02 3 = .ok (.ifCond .eq 14, 3) := by decide +kernel
theorem dJ0_isLatin1_aae02_6 : decode cJ0_isLatin1_aae02 6 = .ok (.aload_n 0, 1) := by decide +kernel
theorem dJ0_isLatin1_aae02_7 : decode cJ0_isLatin1_aae02 7 = .ok (.getfield 15, 3) := by decide +kernel
theorem dJ0_isLatin1_aae02_10 : decode cJ0_isLatin1_aae02 10 = .ok (.ifCond .ne 7, 3) := by decide +kernel
theorem dJ0_isLatin1_aae02_13 : decode cJ0_isLatin1_aae02 13 = .ok (.iconst 1, 1) := by decide +kernel
theorem dJ0_isLatin1_aae02_14 : decode cJ0_isLatin1_aae02 14 = .ok (.goto 4, 3) := by decide +kernel
theorem dJ0_isLatin1_aae02_17 : decode cJ0_isLatin1_aae02 17 = .ok (.iconst 0, 1) := by decide +kernel
theorem dJ0_isLatin1_aae02_18 : decode cJ0_isLatin1_aae02 18 = .ok (.ireturn, 1) := by decide +kernel
theorem dJ0_checkIndex_df160_0 : decode cJ0_checkIndex_df160 0 = .ok (.iload_n 0, 1) := by decide +kernel
theorem dJ0_checkIndex_df160_1 : decode cJ0_checkIndex_df160 1 = .ok (.iload_n 1, 1) := by decide +kernel
theorem dJ0_checkIndex_df160_2 : decode cJ0_checkIndex_df160 2 = .ok (.getstatic 1053, 3) := by decide +kernel
theorem dJ0_checkIndex_df160_5 : decode cJ0_checkIndex_df160 5 = .ok (.invokestatic 1059, 3) := by decide +kernel
theorem dJ0_checkIndex_df160_8 : decode cJ0_checkIndex_df160 8 = .ok (.pop, 1) := by decide +kernel
theorem dJ0_checkIndex_df160_9 : decode cJ0_checkIndex_df160 9 = .ok (.return_, 1) := by decide +kernel
theorem dJ1_charAt_3b067_0 : decode cJ1_charAt_3b067 0 = .ok (.iload_n 1, 1) := by decide +kernel
theorem dJ1_charAt_3b067_1 : decode cJ1_charAt_3b067 1 = .ok (.aload_n 0, 1) := by decide +kernel
theorem dJ1_charAt_3b067_2 : decode cJ1_charAt_3b067 2 = .ok (.arraylength, 1) := by decide +kernel
theorem dJ1_charAt_3b067_3 : decode cJ1_charAt_3b067 3 = .ok (.invokestatic 9, 3) := by decide +kernel
theorem dJ1_charAt_3b067_6 : decode cJ1_charAt_3b067 6 = .ok (.aload_n 0, 1) := by decide +kernel
theorem dJ1_charAt_3b067_7 : decode cJ1_charAt_3b067 7 = .ok (.iload_n 1, 1) := by decide +kernel
theorem dJ1_charAt_3b067_8 : decode cJ1_charAt_3b067 8 = .ok (.baload, 1) := by decide +kernel
theorem dJ1_charAt_3b067_9 : decode cJ1_charAt_3b067 9 = .ok (.sipush 255, 3) := by decide +kernel
theorem dJ1_charAt_3b067_12 : decode cJ1_charAt_3b067 12 = .ok (.iand, 1) := by decide +kernel
theorem dJ1_charAt_3b067_13 : decode cJ1_charAt_3b067 13 = .ok (.i2c, 1) := by decide +kernel
theorem dJ1_charAt_3b067_14 : decode cJ1_charAt_3b067 14 = .ok (.ireturn, 1) := by decide +kernel
theorem dJ2_getChar_3b067_0 : decode cJ2_getChar_3b067 0 = .ok (.getstatic 44, 3) := by decide +kernel
theorem dJ2_getChar_3b067_3 : decode cJ2_getChar_3b067 3 = .ok (.ifCond .ne 25, 3) := by decide +kernel
theorem dJ2_getChar_3b067_6 : decode cJ2_getChar_3b067 6 = .ok (.iload_n 1, 1) := by decide +kernel
theorem dJ2_getChar_3b067_7 : decode cJ2_getChar_3b067 7 = .ok (.ifCond .lt 11, 3) := by decide +kernel
theorem dJ2_getChar_3b067_10 : decode cJ2_getChar_3b067 10 = .ok (.iload_n 1, 1) := by decide +kernel
theorem dJ2_getChar_3b067_11 : decode cJ2_getChar_3b067 11 = .ok (.aload_n 0, 1) := by decide +kernel
theorem dJ2_getChar_3b067_12 : decode cJ2_getChar_3b067 12 = .ok (.invokestatic 48, 3) := by decide +kernel
theorem dJ2_getChar_3b067_15 : decode cJ2_getChar_3b067 15 = .ok (.if_icmp .lt 13, 3) := by decide +kernel
theorem dJ2_getChar_3b067_18 : decode cJ2_getChar_3b067 18 = .ok (.new 52, 3) := by decide +kernel
theorem dJ2_getChar_3b067_21 : decode cJ2_getChar_3b067 21 = .ok (.dup, 1) := by decide +kernel
theorem dJ2_getChar_3b067_22 : decode cJ2_getChar_3b067 22 = .ok (.ldc 54, 2) := by decide +kernel
theorem dJ2_getChar_3b067_24 : decode cJ2_getChar_3b067 24 = .ok (.invokespecial 56, 3) := by decide +kernel
theorem dJ2_getChar_3b067_27 : decode cJ2_getChar_3b067 27 = .ok (.athrow, 1) := by decide +kernel
theorem dJ2_getChar_3b067_28 : decode cJ2_getChar_3b067 28 = .ok (.iload_n 1, 1) := by decide +kernel
theorem dJ2_getChar_3b067_29 : decode cJ2_getChar_3b067 29 = .ok (.iconst 1, 1) := by decide +kernel
theorem dJ2_getChar_3b067_30 : decode cJ2_getChar_3b067 30 = .ok (.ishl, 1) := by decide +kernel
theorem dJ2_getChar_3b067_31 : decode cJ2_getChar_3b067 31 = .ok (.istore_n 1, 1) := by decide +kernel
theorem dJ2_getChar_3b067_32 : decode cJ2_getChar_3b067 32 = .ok (.aload_n 0, 1) := by decide +kernel
theorem dJ2_getChar_3b067_33 : decode cJ2_getChar_3b067 33 = .ok (.iload_n 1, 1) := by decide +kernel
theorem dJ2_getChar_3b067_34 : decode cJ2_getChar_3b067 34 = .ok (.iinc 1 1, 3) := by decide +kernel
theorem dJ2_getChar_3b067_37 : decode cJ2_getChar_3b067 37 = .ok (.baload, 1) := by decide +kernel
theorem dJ2_getChar_3b067_38 : decode cJ2_getChar_3b067 38 = .ok (.sipush 255, 3) := by decide +kernel
theorem dJ2_getChar_3b067_41 : decode cJ2_getChar_3b067 41 = .ok (.iand, 1) := by decide +kernel
theorem dJ2_getChar_3b067_42 : decode cJ2_getChar_3b067 42 = .ok (.getstatic 59, 3) := by decide +kernel
theorem dJ2_getChar_3b067_45 : decode cJ2_getChar_3b067 45 = .ok (.ishl, 1) := by decide +kernel
theorem dJ2_getChar_3b067_46 : decode cJ2_getChar_3b067 46 = .ok (.aload_n 0, 1) := by decide +kernel
theorem dJ2_getChar_3b067_47 : decode cJ2_getChar_3b067 47 = .ok (.iload_n 1, 1) := by decide +kernel
theorem dJ2_getChar_3b067_48 : decode cJ2_getChar_3b067 48 = .ok (.baload, 1) := by decide +kernel
theorem dJ2_getChar_3b067_49 : decode cJ2_getChar_3b067 49 = .ok (.sipush 255, 3) := by decide +kernel
theorem dJ2_getChar_3b067_52 : decode cJ2_getChar_3b067 52 = .ok (.iand, 1) := by decide +kernel
theorem dJ2_getChar_3b067_53 : decode cJ2_getChar_3b067 53 = .ok (.getstatic 63, 3) := by decide +kernel
theorem dJ2_getChar_3b067_56 : decode cJ2_getChar_3b067 56 = .ok (.ishl, 1) := by decide +kernel
theorem dJ2_getChar_3b067_57 : decode cJ2_getChar_3b067 57 = .ok (.ior, 1) := by decide +kernel
theorem dJ2_getChar_3b067_58 : decode cJ2_getChar_3b067 58 = .ok (.i2c, 1) := by decide +kernel
theorem dJ2_getChar_3b067_59 : decode cJ2_getChar_3b067 59 = .ok (.ireturn, 1) := by decide +kernel
theorem dJ2_length_9d52b_0 : decode cJ2_length_9d52b 0 = .ok (.aload_n 0, 1) := by decide +kernel
theorem dJ2_length_9d52b_1 : decode cJ2_length_9d52b 1 = .ok (.arraylength, 1) := by decide +kernel
theorem dJ2_length_9d52b_2 : decode cJ2_length_9d52b 2 = .ok (.iconst 1, 1) := by decide +kernel
theorem dJ2_length_9d52b_3 : decode cJ2_length_9d52b 3 = .ok (.ishr, 1) := by decide +kernel
theorem dJ2_length_9d52b_4 : decode cJ2_length_9d52b 4 = .ok (.ireturn, 1) := by decide +kernel
theorem dJ2_charAt_3b067_0 : decode cJ2_charAt_3b067 0 = .ok (.iload_n 1, 1) := by decide +kernel
theorem dJ2_charAt_3b067_1 : decode cJ2_charAt_3b067 1 = .ok (.aload_n 0, 1) := by decide +kernel
theorem dJ2_charAt_3b067_2 : decode cJ2_charAt_3b067 2 = .ok (.invokestatic 67, 3) := by decide +kernel
theorem dJ2_charAt_3b067_5 : decode cJ2_charAt_3b067 5 = .ok (.aload_n 0, 1) := by decide +kernel
theorem dJ2_charAt_3b067_6 : decode cJ2_charAt_3b067 6 = .ok (.iload_n 1, 1) := by decide +kernel
theorem dJ2_charAt_3b067_7 : decode cJ2_charAt_3b067 7 = .ok (.invokestatic 71, 3) := by decide +kernel
theorem dJ2_charAt_3b067_10 : decode cJ2_charAt_3b067 10 = .ok (.ireturn, 1) := by decide +kernel
theorem dJ2_checkIndex_2214a_0 : decode cJ2_checkIndex_2214a 0 = .ok (.iload_n 0, 1) := by decide +kernel
theorem dJ2_checkIndex_2214a_1 : decode cJ2_checkIndex_2214a 1 = .ok (.aload_n 1, 1) := by decide +kernel
theorem dJ2_checkIndex_2214a_2 : decode cJ2_checkIndex_2214a 2 = .ok (.invokestatic 48, 3) := by decide +kernel
theorem dJ2_checkIndex_2214a_5 : decode cJ2_checkIndex_2214a 5 = .ok (.invokestatic 414, 3) := by decide +kernel
theorem dJ2_checkIndex_2214a_8 : decode cJ2_checkIndex_2214a 8 = .ok (.return_, 1) := by decide +kernel
theorem dJ3_checkIndex_8e157_0 : decode cJ3_checkIndex_8e157 0 = .ok (.iload_n 0, 1) := by decide +kernel
theorem dJ3_checkIndex_8e157_1 : decode cJ3_checkIndex_8e157 1 = .ok (.ifCond .lt 8, 3) := by decide +kernel
theorem dJ3_checkIndex_8e157_4 : decode cJ3_checkIndex_8e157 4 = .ok (.iload_n 0, 1) := by decide +kernel
theorem dJ3_checkIndex_8e157_5 : decode cJ3_checkIndex_8e157 5 = .ok (.iload_n 1, 1) := by decide +kernel
theorem dJ3_checkIndex_8e157_6 : decode cJ3_checkIndex_8e157 6 = .ok (.if_icmp .lt 10, 3) := by decide +kernel
theorem dJ3_checkIndex_8e157_9 : decode cJ3_checkIndex_8e157 9 = .ok (.aload_n 2, 1) := by decide +kernel
theorem dJ3_checkIndex_8e157_10 : decode cJ3_checkIndex_8e157 10 = .ok (.iload_n 0, 1) := by decide +kernel
theorem dJ3_checkIndex_8e157_11 : decode cJ3_checkIndex_8e157 11 = .ok (.iload_n 1, 1) := by decide +kernel
theorem dJ3_checkIndex_8e157_12 : decode cJ3_checkIndex_8e157 12 = .ok (.invokestatic 95, 3) := by decide +kernel
theorem dJ3_checkIndex_8e157_15 : decode cJ3_checkIndex_8e157 15 = .ok (.athrow, 1) := by decide +kernel
theorem dJ3_checkIndex_8e157_16 : decode cJ3_checkIndex_8e157 16 = .ok (.iload_n 0, 1) := by decide +kernel
theorem dJ3_checkIndex_8e157_17 : decode cJ3_checkIndex_8e157 17 = .ok (.ireturn, 1) := by decide +kernel
