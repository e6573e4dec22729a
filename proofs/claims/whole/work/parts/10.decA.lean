theorem dX0_init_0 : decode cX0_init 0 = .ok (.aload_n 0, 1) := by decide +kernel
theorem dX0_init_1 : decode cX0_init 1 = .ok (.invokespecial 3, 3) := by decide +kernel
theorem dX0_init_4 : decode cX0_init 4 = .ok (.aload_n 0, 1) := by decide +kernel
theorem dX0_init_5 : decode cX0_init 5 = .ok (.bipush 30, 2) := by decide +kernel
theorem dX0_init_7 : decode cX0_init 7 = .ok (.newarray .int, 2) := by decide +kernel
theorem dX0_init_9 : decode cX0_init 9 = .ok (.putfield 9, 3) := by decide +kernel
theorem dX0_init_12 : decode cX0_init 12 = .ok (.aload_n 0, 1) := by decide +kernel
theorem dX0_init_13 : decode cX0_init 13 = .ok (.sipush 384, 3) := by decide +kernel
theorem dX0_init_16 : decode cX0_init 16 = .ok (.newarray .int, 2) := by decide +kernel
theorem dX0_init_18 : decode cX0_init 18 = .ok (.putfield 15, 3) := by decide +kernel
theorem dX0_init_21 : decode cX0_init 21 = .ok (.aload_n 0, 1) := by decide +kernel
theorem dX0_init_22 : decode cX0_init 22 = .ok (.iconst 0, 1) := by decide +kernel
theorem dX0_init_23 : decode cX0_init 23 = .ok (.putfield 18, 3) := by decide +kernel
theorem dX0_init_26 : decode cX0_init 26 = .ok (.aload_n 0, 1) := by decide +kernel
theorem dX0_init_27 : decode cX0_init 27 = .ok (.iconst 0, 1) := by decide +kernel
theorem dX0_init_28 : decode cX0_init 28 = .ok (.putfield 22, 3) := by decide +kernel
theorem dX0_init_31 : decode cX0_init 31 = .ok (.aload_n 0, 1) := by decide +kernel
theorem dX0_init_32 : decode cX0_init 32 = .ok (.iconst 0, 1) := by decide +kernel
theorem dX0_init_33 : decode cX0_init 33 = .ok (.putfield 25, 3) := by decide +kernel
theorem dX0_init_36 : decode cX0_init 36 = .ok (.return_, 1) := by decide +kernel
theorem dX0_setCost_0 : decode cX0_setCost 0 = .ok (.iload_n 1, 1) := by decide +kernel
theorem dX0_setCost_1 : decode cX0_setCost 1 = .ok (.bipush 6, 2) := by decide +kernel
theorem dX0_setCost_3 : decode cX0_setCost 3 = .ok (.imul, 1) := by decide +kernel
theorem dX0_setCost_4 : decode cX0_setCost 4 = .ok (.iload_n 2, 1) := by decide +kernel
theorem dX0_setCost_5 : decode cX0_setCost 5 = .ok (.iadd, 1) := by decide +kernel
theorem dX0_setCost_6 : decode cX0_setCost 6 = .ok (.istore 4, 2) := by decide +kernel
theorem dX0_setCost_8 : decode cX0_setCost 8 = .ok (.iload 4, 2) := by decide +kernel
theorem dX0_setCost_10 : decode cX0_setCost 10 = .ok (.ifCond .lt 21, 3) := by decide +kernel
theorem dX0_setCost_13 : decode cX0_setCost 13 = .ok (.iload 4, 2) := by decide +kernel
theorem dX0_setCost_15 : decode cX0_setCost 15 = .ok (.aload_n 0, 1) := by decide +kernel
theorem dX0_setCost_16 : decode cX0_setCost 16 = .ok (.getfield 9, 3) := by decide +kernel
theorem dX0_setCost_19 : decode cX0_setCost 19 = .ok (.arraylength, 1) := by decide +kernel
theorem dX0_setCost_20 : decode cX0_setCost 20 = .ok (.if_icmp .ge 11, 3) := by decide +kernel
theorem dX0_setCost_23 : decode cX0_setCost 23 = .ok (.aload_n 0, 1) := by decide +kernel
theorem dX0_setCost_24 : decode cX0_setCost 24 = .ok (.getfield 9, 3) := by decide +kernel
theorem dX0_setCost_27 : decode cX0_setCost 27 = .ok (.iload 4, 2) := by decide +kernel
theorem dX0_setCost_29 : decode cX0_setCost 29 = .ok (.iload_n 3, 1) := by decide +kernel
theorem dX0_setCost_30 : decode cX0_setCost 30 = .ok (.iastore, 1) := by decide +kernel
theorem dX0_setCost_31 : decode cX0_setCost 31 = .ok (.return_, 1) := by decide +kernel
theorem dX0_solve_0 : decode cX0_solve 0 = .ok (.aload_n 0, 1) := by decide +kernel
theorem dX0_solve_1 : decode cX0_solve 1 = .ok (.iconst 0, 1) := by decide +kernel
theorem dX0_solve_2 : decode cX0_solve 2 = .ok (.iload_n 1, 1) := by decide +kernel
theorem dX0_solve_3 : decode cX0_solve 3 = .ok (.iconst 5, 1) := by decide +kernel
theorem dX0_solve_4 : decode cX0_solve 4 = .ok (.invokestatic 28, 3) := by decide +kernel
theorem dX0_solve_7 : decode cX0_solve 7 = .ok (.invokestatic 34, 3) := by decide +kernel
theorem dX0_solve_10 : decode cX0_solve 10 = .ok (.putfield 18, 3) := by decide +kernel
theorem dX0_solve_13 : decode cX0_solve 13 = .ok (.aload_n 0, 1) := by decide +kernel
theorem dX0_solve_14 : decode cX0_solve 14 = .ok (.iconst 0, 1) := by decide +kernel
theorem dX0_solve_15 : decode cX0_solve 15 = .ok (.iload_n 2, 1) := by decide +kernel
theorem dX0_solve_16 : decode cX0_solve 16 = .ok (.bipush 6, 2) := by decide +kernel
theorem dX0_solve_18 : decode cX0_solve 18 = .ok (.invokestatic 28, 3) := by decide +kernel
theorem dX0_solve_21 : decode cX0_solve 21 = .ok (.invokestatic 34, 3) := by decide +kernel
theorem dX0_solve_24 : decode cX0_solve 24 = .ok (.putfield 22, 3) := by decide +kernel
theorem dX0_solve_27 : decode cX0_solve 27 = .ok (.aload_n 0, 1) := by decide +kernel
theorem dX0_solve_28 : decode cX0_solve 28 = .ok (.iload_n 3, 1) := by decide +kernel
theorem dX0_solve_29 : decode cX0_solve 29 = .ok (.putfield 25, 3) := by decide +kernel
theorem dX0_solve_32 : decode cX0_solve 32 = .ok (.iconst 0, 1) := by decide +kernel
theorem dX0_solve_33 : decode cX0_solve 33 = .ok (.istore 4, 2) := by decide +kernel
theorem dX0_solve_35 : decode cX0_solve 35 = .ok (.iload 4, 2) := by decide +kernel
theorem dX0_solve_37 : decode cX0_solve 37 = .ok (.bipush 64, 2) := by decide +kernel
theorem dX0_solve_39 : decode cX0_solve 39 = .ok (.if_icmp .ge 25, 3) := by decide +kernel
theorem dX0_solve_42 : decode cX0_solve 42 = .ok (.aload_n 0, 1) := by decide +kernel
theorem dX0_solve_43 : decode cX0_solve 43 = .ok (.getfield 15, 3) := by decide +kernel
theorem dX0_solve_46 : decode cX0_solve 46 = .ok (.aload_n 0, 1) := by decide +kernel
theorem dX0_solve_47 : decode cX0_solve 47 = .ok (.getfield 18, 3) := by decide +kernel
theorem dX0_solve_50 : decode cX0_solve 50 = .ok (.bipush 64, 2) := by decide +kernel
theorem dX0_solve_52 : decode cX0_solve 52 = .ok (.imul, 1) := by decide +kernel
theorem dX0_solve_53 : decode cX0_solve 53 = .ok (.iload 4, 2) := by decide +kernel
theorem dX0_solve_55 : decode cX0_solve 55 = .ok (.iadd, 1) := by decide +kernel
theorem dX0_solve_56 : decode cX0_solve 56 = .ok (.iconst 0, 1) := by decide +kernel
theorem dX0_solve_57 : decode cX0_solve 57 = .ok (.iastore, 1) := by decide +kernel
theorem dX0_solve_58 : decode cX0_solve 58 = .ok (.iinc 4 1, 3) := by decide +kernel
theorem dX0_solve_61 : decode cX0_solve 61 = .ok (.goto (-26), 3) := by decide +kernel
theorem dX0_solve_64 : decode cX0_solve 64 = .ok (.aload_n 0, 1) := by decide +kernel
theorem dX0_solve_65 : decode cX0_solve 65 = .ok (.getfield 18, 3) := by decide +kernel
theorem dX0_solve_68 : decode cX0_solve 68 = .ok (.iconst 1, 1) := by decide +kernel
theorem dX0_solve_69 : decode cX0_solve 69 = .ok (.isub, 1) := by decide +kernel
theorem dX0_solve_70 : decode cX0_solve 70 = .ok (.istore 4, 2) := by decide +kernel
theorem dX0_solve_72 : decode cX0_solve 72 = .ok (.iload 4, 2) := by decide +kernel
theorem dX0_solve_74 : decode cX0_solve 74 = .ok (.ifCond .lt 46, 3) := by decide +kernel
theorem dX0_solve_77 : decode cX0_solve 77 = .ok (.iconst 0, 1) := by decide +kernel
theorem dX0_solve_78 : decode cX0_solve 78 = .ok (.istore 5, 2) := by decide +kernel
theorem dX0_solve_80 : decode cX0_solve 80 = .ok (.iload 5, 2) := by decide +kernel
theorem dX0_solve_82 : decode cX0_solve 82 = .ok (.bipush 64, 2) := by decide +kernel
theorem dX0_solve_84 : decode cX0_solve 84 = .ok (.if_icmp .ge 30, 3) := by decide +kernel
theorem dX0_solve_87 : decode cX0_solve 87 = .ok (.aload_n 0, 1) := by decide +kernel
theorem dX0_solve_88 : decode cX0_solve 88 = .ok (.getfield 15, 3) := by decide +kernel
theorem dX0_solve_91 : decode cX0_solve 91 = .ok (.iload 4, 2) := by decide +kernel
theorem dX0_solve_93 : decode cX0_solve 93 = .ok (.bipush 64, 2) := by decide +kernel
theorem dX0_solve_95 : decode cX0_solve 95 = .ok (.imul, 1) := by decide +kernel
theorem dX0_solve_96 : decode cX0_solve 96 = .ok (.iload 5, 2) := by decide +kernel
theorem dX0_solve_98 : decode cX0_solve 98 = .ok (.iadd, 1) := by decide +kernel
theorem dX0_solve_99 : decode cX0_solve 99 = .ok (.aload_n 0, 1) := by decide +kernel
theorem dX0_solve_100 : decode cX0_solve 100 = .ok (.iload 4, 2) := by decide +kernel
theorem dX0_solve_102 : decode cX0_solve 102 = .ok (.iload 5, 2) := by decide +kernel
theorem dX0_solve_104 : decode cX0_solve 104 = .ok (.invokevirtual 37, 3) := by decide +kernel
theorem dX0_solve_107 : decode cX0_solve 107 = .ok (.iastore, 1) := by decide +kernel
theorem dX0_solve_108 : decode cX0_solve 108 = .ok (.iinc 5 1, 3) := by decide +kernel
theorem dX0_solve_111 : decode cX0_solve 111 = .ok (.goto (-31), 3) := by decide +kernel
theorem dX0_solve_114 : decode cX0_solve 114 = .ok (.iinc 4 (-1), 3) := by decide +kernel
theorem dX0_solve_117 : decode cX0_solve 117 = .ok (.goto (-45), 3) := by decide +kernel
theorem dX0_solve_120 : decode cX0_solve 120 = .ok (.return_, 1) := by decide +kernel
theorem dX0_leastFor_0 : decode cX0_leastFor 0 = .ok (.aload_n 0, 1) := by decide +kernel
theorem dX0_leastFor_1 : decode cX0_leastFor 1 = .ok (.iload_n 1, 1) := by decide +kernel
theorem dX0_leastFor_2 : decode cX0_leastFor 2 = .ok (.iload_n 2, 1) := by decide +kernel
theorem dX0_leastFor_3 : decode cX0_leastFor 3 = .ok (.aload_n 0, 1) := by decide +kernel
theorem dX0_leastFor_4 : decode cX0_leastFor 4 = .ok (.getfield 22, 3) := by decide +kernel
theorem dX0_leastFor_7 : decode cX0_leastFor 7 = .ok (.invokevirtual 40, 3) := by decide +kernel
theorem dX0_leastFor_10 : decode cX0_leastFor 10 = .ok (.istore_n 3, 1) := by decide +kernel
theorem dX0_leastFor_11 : decode cX0_leastFor 11 = .ok (.iconst 0, 1) := by decide +kernel
theorem dX0_leastFor_12 : decode cX0_leastFor 12 = .ok (.istore 4, 2) := by decide +kernel
theorem dX0_leastFor_14 : decode cX0_leastFor 14 = .ok (.iload 4, 2) := by decide +kernel
theorem dX0_leastFor_16 : decode cX0_leastFor 16 = .ok (.aload_n 0, 1) := by decide +kernel
theorem dX0_leastFor_17 : decode cX0_leastFor 17 = .ok (.getfield 22, 3) := by decide +kernel
theorem dX0_leastFor_20 : decode cX0_leastFor 20 = .ok (.if_icmp .ge 22, 3) := by decide +kernel
theorem dX0_leastFor_23 : decode cX0_leastFor 23 = .ok (.iload_n 3, 1) := by decide +kernel
theorem dX0_leastFor_24 : decode cX0_leastFor 24 = .ok (.aload_n 0, 1) := by decide +kernel
theorem dX0_leastFor_25 : decode cX0_leastFor 25 = .ok (.iload_n 1, 1) := by decide +kernel
theorem dX0_leastFor_26 : decode cX0_leastFor 26 = .ok (.iload_n 2, 1) := by decide +kernel
theorem dX0_leastFor_27 : decode cX0_leastFor 27 = .ok (.iload 4, 2) := by decide +kernel
theorem dX0_leastFor_29 : decode cX0_leastFor 29 = .ok (.invokevirtual 40, 3) := by decide +kernel
theorem dX0_leastFor_32 : decode cX0_leastFor 32 = .ok (.invokestatic 28, 3) := by decide +kernel
theorem dX0_leastFor_35 : decode cX0_leastFor 35 = .ok (.istore_n 3, 1) := by decide +kernel
theorem dX0_leastFor_36 : decode cX0_leastFor 36 = .ok (.iinc 4 1, 3) := by decide +kernel
theorem dX0_leastFor_39 : decode cX0_leastFor 39 = .ok (.goto (-25), 3) := by decide +kernel
theorem dX0_leastFor_42 : decode cX0_leastFor 42 = .ok (.iload_n 3, 1) := by decide +kernel
theorem dX0_leastFor_43 : decode cX0_leastFor 43 = .ok (.ireturn, 1) := by decide +kernel
theorem dX0_costWith_0 : decode cX0_costWith 0 = .ok (.iload_n 1, 1) := by decide +kernel
theorem dX0_costWith_1 : decode cX0_costWith 1 = .ok (.iconst 1, 1) := by decide +kernel
theorem dX0_costWith_2 : decode cX0_costWith 2 = .ok (.iadd, 1) := by decide +kernel
theorem dX0_costWith_3 : decode cX0_costWith 3 = .ok (.bipush 64, 2) := by decide +kernel
theorem dX0_costWith_5 : decode cX0_costWith 5 = .ok (.imul, 1) := by decide +kernel
theorem dX0_costWith_6 : decode cX0_costWith 6 = .ok (.istore 4, 2) := by decide +kernel
theorem dX0_costWith_8 : decode cX0_costWith 8 = .ok (.iload_n 3, 1) := by decide +kernel
theorem dX0_costWith_9 : decode cX0_costWith 9 = .ok (.aload_n 0, 1) := by decide +kernel
theorem dX0_costWith_10 : decode cX0_costWith 10 = .ok (.getfield 22, 3) := by decide +kernel
theorem dX0_costWith_13 : decode cX0_costWith 13 = .ok (.if_icmp .lt 18, 3) := by decide +kernel
theorem dX0_costWith_16 : decode cX0_costWith 16 = .ok (.aload_n 0, 1) := by decide +kernel
theorem dX0_costWith_17 : decode cX0_costWith 17 = .ok (.getfield 25, 3) := by decide +kernel
theorem dX0_costWith_20 : decode cX0_costWith 20 = .ok (.aload_n 0, 1) := by decide +kernel
theorem dX0_costWith_21 : decode cX0_costWith 21 = .ok (.getfield 15, 3) := by decide +kernel
theorem dX0_costWith_24 : decode cX0_costWith 24 = .ok (.iload 4, 2) := by decide +kernel
theorem dX0_costWith_26 : decode cX0_costWith 26 = .ok (.iload_n 2, 1) := by decide +kernel
theorem dX0_costWith_27 : decode cX0_costWith 27 = .ok (.iadd, 1) := by decide +kernel
theorem dX0_costWith_28 : decode cX0_costWith 28 = .ok (.iaload, 1) := by decide +kernel
theorem dX0_costWith_29 : decode cX0_costWith 29 = .ok (.iadd, 1) := by decide +kernel
theorem dX0_costWith_30 : decode cX0_costWith 30 = .ok (.ireturn, 1) := by decide +kernel
theorem dX0_costWith_31 : decode cX0_costWith 31 = .ok (.iload_n 2, 1) := by decide +kernel
theorem dX0_costWith_32 : decode cX0_costWith 32 = .ok (.iconst 1, 1) := by decide +kernel
theorem dX0_costWith_33 : decode cX0_costWith 33 = .ok (.iload_n 3, 1) := by decide +kernel
theorem dX0_costWith_34 : decode cX0_costWith 34 = .ok (.ishl, 1) := by decide +kernel
theorem dX0_costWith_35 : decode cX0_costWith 35 = .ok (.iand, 1) := by decide +kernel
theorem dX0_costWith_36 : decode cX0_costWith 36 = .ok (.ifCond .eq 6, 3) := by decide +kernel
theorem dX0_costWith_39 : decode cX0_costWith 39 = .ok (.ldc 44, 2) := by decide +kernel
theorem dX0_costWith_41 : decode cX0_costWith 41 = .ok (.ireturn, 1) := by decide +kernel
theorem dX0_costWith_42 : decode cX0_costWith 42 = .ok (.aload_n 0, 1) := by decide +kernel
theorem dX0_costWith_43 : decode cX0_costWith 43 = .ok (.getfield 9, 3) := by decide +kernel
theorem dX0_costWith_46 : decode cX0_costWith 46 = .ok (.iload_n 1, 1) := by decide +kernel
theorem dX0_costWith_47 : decode cX0_costWith 47 = .ok (.bipush 6, 2) := by decide +kernel
theorem dX0_costWith_49 : decode cX0_costWith 49 = .ok (.imul, 1) := by decide +kernel
theorem dX0_costWith_50 : decode cX0_costWith 50 = .ok (.iload_n 3, 1) := by decide +kernel
theorem dX0_costWith_51 : decode cX0_costWith 51 = .ok (.iadd, 1) := by decide +kernel
theorem dX0_costWith_52 : decode cX0_costWith 52 = .ok (.iaload, 1) := by decide +kernel
theorem dX0_costWith_53 : decode cX0_costWith 53 = .ok (.aload_n 0, 1) := by decide +kernel
theorem dX0_costWith_54 : decode cX0_costWith 54 = .ok (.getfield 15, 3) := by decide +kernel
theorem dX0_costWith_57 : decode cX0_costWith 57 = .ok (.iload 4, 2) := by decide +kernel
theorem dX0_costWith_59 : decode cX0_costWith 59 = .ok (.iload_n 2, 1) := by decide +kernel
theorem dX0_costWith_60 : decode cX0_costWith 60 = .ok (.iconst 1, 1) := by decide +kernel
theorem dX0_costWith_61 : decode cX0_costWith 61 = .ok (.iload_n 3, 1) := by decide +kernel
theorem dX0_costWith_62 : decode cX0_costWith 62 = .ok (.ishl, 1) := by decide +kernel
theorem dX0_costWith_63 : decode cX0_costWith 63 = .ok (.ior, 1) := by decide +kernel
theorem dX0_costWith_64 : decode cX0_costWith 64 = .ok (.iadd, 1) := by decide +kernel
theorem dX0_costWith_65 : decode cX0_costWith 65 = .ok (.iaload, 1) := by decide +kernel
theorem dX0_costWith_66 : decode cX0_costWith 66 = .ok (.iadd, 1) := by decide +kernel
theorem dX0_costWith_67 : decode cX0_costWith 67 = .ok (.ireturn, 1) := by decide +kernel
theorem dX0_leastCost_0 : decode cX0_leastCost 0 = .ok (.aload_n 0, 1) := by decide +kernel
theorem dX0_leastCost_1 : decode cX0_leastCost 1 = .ok (.getfield 15, 3) := by decide +kernel
theorem dX0_leastCost_4 : decode cX0_leastCost 4 = .ok (.iconst 0, 1) := by decide +kernel
theorem dX0_leastCost_5 : decode cX0_leastCost 5 = .ok (.iaload, 1) := by decide +kernel
theorem dX0_leastCost_6 : decode cX0_leastCost 6 = .ok (.ireturn, 1) := by decide +kernel
theorem dX0_ringDigits_0 : decode cX0_ringDigits 0 = .ok (.iconst 0, 1) := by decide +kernel
theorem dX0_ringDigits_1 : decode cX0_ringDigits 1 = .ok (.istore_n 1, 1) := by decide +kernel
theorem dX0_ringDigits_2 : decode cX0_ringDigits 2 = .ok (.iconst 1, 1) := by decide +kernel
theorem dX0_ringDigits_3 : decode cX0_ringDigits 3 = .ok (.istore_n 2, 1) := by decide +kernel
theorem dX0_ringDigits_4 : decode cX0_ringDigits 4 = .ok (.iconst 0, 1) := by decide +kernel
theorem dX0_ringDigits_5 : decode cX0_ringDigits 5 = .ok (.istore_n 3, 1) := by decide +kernel
theorem dX0_ringDigits_6 : decode cX0_ringDigits 6 = .ok (.iconst 0, 1) := by decide +kernel
theorem dX0_ringDigits_7 : decode cX0_ringDigits 7 = .ok (.istore 4, 2) := by decide +kernel
theorem dX0_ringDigits_9 : decode cX0_ringDigits 9 = .ok (.iload 4, 2) := by decide +kernel
theorem dX0_ringDigits_11 : decode cX0_ringDigits 11 = .ok (.aload_n 0, 1) := by decide +kernel
theorem dX0_ringDigits_12 : decode cX0_ringDigits 12 = .ok (.getfield 18, 3) := by decide +kernel
theorem dX0_ringDigits_15 : decode cX0_ringDigits 15 = .ok (.if_icmp .ge 64, 3) := by decide +kernel
theorem dX0_ringDigits_18 : decode cX0_ringDigits 18 = .ok (.aload_n 0, 1) := by decide +kernel
theorem dX0_ringDigits_19 : decode cX0_ringDigits 19 = .ok (.iload 4, 2) := by decide +kernel
theorem dX0_ringDigits_21 : decode cX0_ringDigits 21 = .ok (.iload_n 3, 1) := by decide +kernel
theorem dX0_ringDigits_22 : decode cX0_ringDigits 22 = .ok (.invokevirtual 45, 3) := by decide +kernel
theorem dX0_ringDigits_25 : decode cX0_ringDigits 25 = .ok (.istore 5, 2) := by decide +kernel
theorem dX0_ringDigits_27 : decode cX0_ringDigits 27 = .ok (.iload_n 1, 1) := by decide +kernel
theorem dX0_ringDigits_28 : decode cX0_ringDigits 28 = .ok (.iload_n 2, 1) := by decide +kernel
theorem dX0_ringDigits_29 : decode cX0_ringDigits 29 = .ok (.iload 5, 2) := by decide +kernel
theorem dX0_ringDigits_31 : decode cX0_ringDigits 31 = .ok (.aload_n 0, 1) := by decide +kernel
theorem dX0_ringDigits_32 : decode cX0_ringDigits 32 = .ok (.getfield 22, 3) := by decide +kernel
theorem dX0_ringDigits_35 : decode cX0_ringDigits 35 = .ok (.if_icmp .ge 8, 3) := by decide +kernel
theorem dX0_ringDigits_38 : decode cX0_ringDigits 38 = .ok (.iload 5, 2) := by decide +kernel
theorem dX0_ringDigits_40 : decode cX0_ringDigits 40 = .ok (.goto 5, 3) := by decide +kernel
theorem dX0_ringDigits_43 : decode cX0_ringDigits 43 = .ok (.bipush 9, 2) := by decide +kernel
theorem dX0_ringDigits_45 : decode cX0_ringDigits 45 = .ok (.imul, 1) := by decide +kernel
theorem dX0_ringDigits_46 : decode cX0_ringDigits 46 = .ok (.iadd, 1) := by decide +kernel
theorem dX0_ringDigits_47 : decode cX0_ringDigits 47 = .ok (.istore_n 1, 1) := by decide +kernel
theorem dX0_ringDigits_48 : decode cX0_ringDigits 48 = .ok (.iload_n 2, 1) := by decide +kernel
theorem dX0_ringDigits_49 : decode cX0_ringDigits 49 = .ok (.bipush 10, 2) := by decide +kernel
theorem dX0_ringDigits_51 : decode cX0_ringDigits 51 = .ok (.imul, 1) := by decide +kernel
theorem dX0_ringDigits_52 : decode cX0_ringDigits 52 = .ok (.istore_n 2, 1) := by decide +kernel
theorem dX0_ringDigits_53 : decode cX0_ringDigits 53 = .ok (.iload_n 3, 1) := by decide +kernel
theorem dX0_ringDigits_54 : decode cX0_ringDigits 54 = .ok (.iload 5, 2) := by decide +kernel
theorem dX0_ringDigits_56 : decode cX0_ringDigits 56 = .ok (.aload_n 0, 1) := by decide +kernel
theorem dX0_ringDigits_57 : decode cX0_ringDigits 57 = .ok (.getfield 22, 3) := by decide +kernel
theorem dX0_ringDigits_60 : decode cX0_ringDigits 60 = .ok (.if_icmp .ge 10, 3) := by decide +kernel
theorem dX0_ringDigits_63 : decode cX0_ringDigits 63 = .ok (.iconst 1, 1) := by decide +kernel
theorem dX0_ringDigits_64 : decode cX0_ringDigits 64 = .ok (.iload 5, 2) := by decide +kernel
theorem dX0_ringDigits_66 : decode cX0_ringDigits 66 = .ok (.ishl, 1) := by decide +kernel
theorem dX0_ringDigits_67 : decode cX0_ringDigits 67 = .ok (.goto 4, 3) := by decide +kernel
theorem dX0_ringDigits_70 : decode cX0_ringDigits 70 = .ok (.iconst 0, 1) := by decide +kernel
theorem dX0_ringDigits_71 : decode cX0_ringDigits 71 = .ok (.ior, 1) := by decide +kernel
theorem dX0_ringDigits_72 : decode cX0_ringDigits 72 = .ok (.istore_n 3, 1) := by decide +kernel
theorem dX0_ringDigits_73 : decode cX0_ringDigits 73 = .ok (.iinc 4 1, 3) := by decide +kernel
theorem dX0_ringDigits_76 : decode cX0_ringDigits 76 = .ok (.goto (-67), 3) := by decide +kernel
theorem dX0_ringDigits_79 : decode cX0_ringDigits 79 = .ok (.iload_n 1, 1) := by decide +kernel
theorem dX0_ringDigits_80 : decode cX0_ringDigits 80 = .ok (.ireturn, 1) := by decide +kernel
theorem dX0_firstBest_0 : decode cX0_firstBest 0 = .ok (.iconst 0, 1) := by decide +kernel
theorem dX0_firstBest_1 : decode cX0_firstBest 1 = .ok (.istore_n 3, 1) := by decide +kernel
theorem dX0_firstBest_2 : decode cX0_firstBest 2 = .ok (.iload_n 3, 1) := by decide +kernel
theorem dX0_firstBest_3 : decode cX0_firstBest 3 = .ok (.aload_n 0, 1) := by decide +kernel
theorem dX0_firstBest_4 : decode cX0_firstBest 4 = .ok (.getfield 22, 3) := by decide +kernel
theorem dX0_firstBest_7 : decode cX0_firstBest 7 = .ok (.if_icmp .ge 32, 3) := by decide +kernel
theorem dX0_firstBest_10 : decode cX0_firstBest 10 = .ok (.aload_n 0, 1) := by decide +kernel
theorem dX0_firstBest_11 : decode cX0_firstBest 11 = .ok (.iload_n 1, 1) := by decide +kernel
theorem dX0_firstBest_12 : decode cX0_firstBest 12 = .ok (.iload_n 2, 1) := by decide +kernel
theorem dX0_firstBest_13 : decode cX0_firstBest 13 = .ok (.iload_n 3, 1) := by decide +kernel
theorem dX0_firstBest_14 : decode cX0_firstBest 14 = .ok (.invokevirtual 40, 3) := by decide +kernel
theorem dX0_firstBest_17 : decode cX0_firstBest 17 = .ok (.aload_n 0, 1) := by decide +kernel
theorem dX0_firstBest_18 : decode cX0_firstBest 18 = .ok (.getfield 15, 3) := by decide +kernel
theorem dX0_firstBest_21 : decode cX0_firstBest 21 = .ok (.iload_n 1, 1) := by decide +kernel
theorem dX0_firstBest_22 : decode cX0_firstBest 22 = .ok (.bipush 64, 2) := by decide +kernel
theorem dX0_firstBest_24 : decode cX0_firstBest 24 = .ok (.imul, 1) := by decide +kernel
theorem dX0_firstBest_25 : decode cX0_firstBest 25 = .ok (.iload_n 2, 1) := by decide +kernel
theorem dX0_firstBest_26 : decode cX0_firstBest 26 = .ok (.iadd, 1) := by decide +kernel
theorem dX0_firstBest_27 : decode cX0_firstBest 27 = .ok (.iaload, 1) := by decide +kernel
theorem dX0_firstBest_28 : decode cX0_firstBest 28 = .ok (.if_icmp .ne 5, 3) := by decide +kernel
theorem dX0_firstBest_31 : decode cX0_firstBest 31 = .ok (.iload_n 3, 1) := by decide +kernel
theorem dX0_firstBest_32 : decode cX0_firstBest 32 = .ok (.ireturn, 1) := by decide +kernel
theorem dX0_firstBest_33 : decode cX0_firstBest 33 = .ok (.iinc 3 1, 3) := by decide +kernel
theorem dX0_firstBest_36 : decode cX0_firstBest 36 = .ok (.goto (-34), 3) := by decide +kernel
theorem dX0_firstBest_39 : decode cX0_firstBest 39 = .ok (.aload_n 0, 1) := by decide +kernel
theorem dX0_firstBest_40 : decode cX0_firstBest 40 = .ok (.getfield 22, 3) := by decide +kernel
theorem dX0_firstBest_43 : decode cX0_firstBest 43 = .ok (.ireturn, 1) := by decide +kernel
theorem dX1_init_0 : decode cX1_init 0 = .ok (.aload_n 0, 1) := by decide +kernel
theorem dX1_init_1 : decode cX1_init 1 = .ok (.invokespecial 3, 3) := by decide +kernel
theorem dX1_init_4 : decode cX1_init 4 = .ok (.aload_n 0, 1) := by decide +kernel
theorem dX1_init_5 : decode cX1_init 5 = .ok (.bipush 25, 2) := by decide +kernel
theorem dX1_init_7 : decode cX1_init 7 = .ok (.newarray .int, 2) := by decide +kernel
theorem dX1_init_9 : decode cX1_init 9 = .ok (.putfield 9, 3) := by decide +kernel
theorem dX1_init_12 : decode cX1_init 12 = .ok (.aload_n 0, 1) := by decide +kernel
theorem dX1_init_13 : decode cX1_init 13 = .ok (.bipush 25, 2) := by decide +kernel
theorem dX1_init_15 : decode cX1_init 15 = .ok (.newarray .int, 2) := by decide +kernel
theorem dX1_init_17 : decode cX1_init 17 = .ok (.putfield 15, 3) := by decide +kernel
theorem dX1_init_20 : decode cX1_init 20 = .ok (.aload_n 0, 1) := by decide +kernel
theorem dX1_init_21 : decode cX1_init 21 = .ok (.iconst 0, 1) := by decide +kernel
theorem dX1_init_22 : decode cX1_init 22 = .ok (.putfield 18, 3) := by decide +kernel
theorem dX1_init_25 : decode cX1_init 25 = .ok (.aload_n 0, 1) := by decide +kernel
theorem dX1_init_26 : decode cX1_init 26 = .ok (.iconst 0, 1) := by decide +kernel
theorem dX1_init_27 : decode cX1_init 27 = .ok (.putfield 22, 3) := by decide +kernel
theorem dX1_init_30 : decode cX1_init 30 = .ok (.aload_n 0, 1) := by decide +kernel
theorem dX1_init_31 : decode cX1_init 31 = .ok (.iconst 0, 1) := by decide +kernel
theorem dX1_init_32 : decode cX1_init 32 = .ok (.putfield 25, 3) := by decide +kernel
theorem dX1_init_35 : decode cX1_init 35 = .ok (.aload_n 0, 1) := by decide +kernel
theorem dX1_init_36 : decode cX1_init 36 = .ok (.iconst 0, 1) := by decide +kernel
theorem dX1_init_37 : decode cX1_init 37 = .ok (.putfield 28, 3) := by decide +kernel
theorem dX1_init_40 : decode cX1_init 40 = .ok (.aload_n 0, 1) := by decide +kernel
theorem dX1_init_41 : decode cX1_init 41 = .ok (.bipush (-9), 2) := by decide +kernel
theorem dX1_init_43 : decode cX1_init 43 = .ok (.putfield 31, 3) := by decide +kernel
theorem dX1_init_46 : decode cX1_init 46 = .ok (.return_, 1) := by decide +kernel
theorem dX1_weigh_0 : decode cX1_weigh 0 = .ok (.aload_n 0, 1) := by decide +kernel
theorem dX1_weigh_1 : decode cX1_weigh 1 = .ok (.iconst 0, 1) := by decide +kernel
theorem dX1_weigh_2 : decode cX1_weigh 2 = .ok (.aload_n 1, 1) := by decide +kernel
theorem dX1_weigh_3 : decode cX1_weigh 3 = .ok (.getfield 34, 3) := by decide +kernel
theorem dX1_weigh_6 : decode cX1_weigh 6 = .ok (.iconst 2, 1) := by decide +kernel
theorem dX1_weigh_7 : decode cX1_weigh 7 = .ok (.isub, 1) := by decide +kernel
theorem dX1_weigh_8 : decode cX1_weigh 8 = .ok (.invokestatic 39, 3) := by decide +kernel
theorem dX1_weigh_11 : decode cX1_weigh 11 = .ok (.putfield 18, 3) := by decide +kernel
theorem dX1_weigh_14 : decode cX1_weigh 14 = .ok (.aload_n 0, 1) := by decide +kernel
theorem dX1_weigh_15 : decode cX1_weigh 15 = .ok (.bipush 99, 2) := by decide +kernel
theorem dX1_weigh_17 : decode cX1_weigh 17 = .ok (.aload_n 1, 1) := by decide +kernel
theorem dX1_weigh_18 : decode cX1_weigh 18 = .ok (.getfield 34, 3) := by decide +kernel
theorem dX1_weigh_21 : decode cX1_weigh 21 = .ok (.iconst 2, 1) := by decide +kernel
theorem dX1_weigh_22 : decode cX1_weigh 22 = .ok (.iadd, 1) := by decide +kernel
theorem dX1_weigh_23 : decode cX1_weigh 23 = .ok (.invokestatic 45, 3) := by decide +kernel
theorem dX1_weigh_26 : decode cX1_weigh 26 = .ok (.putfield 22, 3) := by decide +kernel
theorem dX1_weigh_29 : decode cX1_weigh 29 = .ok (.aload_n 0, 1) := by decide +kernel
theorem dX1_weigh_30 : decode cX1_weigh 30 = .ok (.iconst 0, 1) := by decide +kernel
theorem dX1_weigh_31 : decode cX1_weigh 31 = .ok (.aload_n 2, 1) := by decide +kernel
theorem dX1_weigh_32 : decode cX1_weigh 32 = .ok (.getfield 34, 3) := by decide +kernel
theorem dX1_weigh_35 : decode cX1_weigh 35 = .ok (.iconst 2, 1) := by decide +kernel
theorem dX1_weigh_36 : decode cX1_weigh 36 = .ok (.isub, 1) := by decide +kernel
theorem dX1_weigh_37 : decode cX1_weigh 37 = .ok (.invokestatic 39, 3) := by decide +kernel
theorem dX1_weigh_40 : decode cX1_weigh 40 = .ok (.putfield 25, 3) := by decide +kernel
theorem dX1_weigh_43 : decode cX1_weigh 43 = .ok (.aload_n 0, 1) := by decide +kernel
theorem dX1_weigh_44 : decode cX1_weigh 44 = .ok (.bipush 99, 2) := by decide +kernel
theorem dX1_weigh_46 : decode cX1_weigh 46 = .ok (.aload_n 2, 1) := by decide +kernel
theorem dX1_weigh_47 : decode cX1_weigh 47 = .ok (.getfield 34, 3) := by decide +kernel
theorem dX1_weigh_50 : decode cX1_weigh 50 = .ok (.iconst 2, 1) := by decide +kernel
theorem dX1_weigh_51 : decode cX1_weigh 51 = .ok (.iadd, 1) := by decide +kernel
theorem dX1_weigh_52 : decode cX1_weigh 52 = .ok (.invokestatic 45, 3) := by decide +kernel
theorem dX1_weigh_55 : decode cX1_weigh 55 = .ok (.putfield 28, 3) := by decide +kernel
theorem dX1_weigh_58 : decode cX1_weigh 58 = .ok (.aload_n 0, 1) := by decide +kernel
theorem dX1_weigh_59 : decode cX1_weigh 59 = .ok (.getfield 18, 3) := by decide +kernel
theorem dX1_weigh_62 : decode cX1_weigh 62 = .ok (.istore 4, 2) := by decide +kernel
theorem dX1_weigh_64 : decode cX1_weigh 64 = .ok (.iload 4, 2) := by decide +kernel
theorem dX1_weigh_66 : decode cX1_weigh 66 = .ok (.aload_n 0, 1) := by decide +kernel
theorem dX1_weigh_67 : decode cX1_weigh 67 = .ok (.getfield 22, 3) := by decide +kernel
theorem dX1_weigh_70 : decode cX1_weigh 70 = .ok (.if_icmp .gt 92, 3) := by decide +kernel
theorem dX1_weigh_73 : decode cX1_weigh 73 = .ok (.aload_n 0, 1) := by decide +kernel
theorem dX1_weigh_74 : decode cX1_weigh 74 = .ok (.getfield 25, 3) := by decide +kernel
theorem dX1_weigh_77 : decode cX1_weigh 77 = .ok (.istore 5, 2) := by decide +kernel
theorem dX1_weigh_79 : decode cX1_weigh 79 = .ok (.iload 5, 2) := by decide +kernel
theorem dX1_weigh_81 : decode cX1_weigh 81 = .ok (.aload_n 0, 1) := by decide +kernel
theorem dX1_weigh_82 : decode cX1_weigh 82 = .ok (.getfield 28, 3) := by decide +kernel
theorem dX1_weigh_85 : decode cX1_weigh 85 = .ok (.if_icmp .gt 71, 3) := by decide +kernel
theorem dX1_weigh_88 : decode cX1_weigh 88 = .ok (.bipush 50, 2) := by decide +kernel
theorem dX1_weigh_90 : decode cX1_weigh 90 = .ok (.aload_n 1, 1) := by decide +kernel
theorem dX1_weigh_91 : decode cX1_weigh 91 = .ok (.iload 4, 2) := by decide +kernel
theorem dX1_weigh_93 : decode cX1_weigh 93 = .ok (.aload_n 2, 1) := by decide +kernel
theorem dX1_weigh_94 : decode cX1_weigh 94 = .ok (.iload 5, 2) := by decide +kernel
theorem dX1_weigh_96 : decode cX1_weigh 96 = .ok (.aload_n 3, 1) := by decide +kernel
theorem dX1_weigh_97 : decode cX1_weigh 97 = .ok (.invokevirtual 48, 3) := by decide +kernel
theorem dX1_weigh_100 : decode cX1_weigh 100 = .ok (.invokestatic 52, 3) := by decide +kernel
theorem dX1_weigh_103 : decode cX1_weigh 103 = .ok (.imul, 1) := by decide +kernel
theorem dX1_weigh_104 : decode cX1_weigh 104 = .ok (.istore 6, 2) := by decide +kernel
theorem dX1_weigh_106 : decode cX1_weigh 106 = .ok (.aload_n 0, 1) := by decide +kernel
theorem dX1_weigh_107 : decode cX1_weigh 107 = .ok (.iload 4, 2) := by decide +kernel
theorem dX1_weigh_109 : decode cX1_weigh 109 = .ok (.iload 5, 2) := by decide +kernel
theorem dX1_weigh_111 : decode cX1_weigh 111 = .ok (.invokevirtual 58, 3) := by decide +kernel
theorem dX1_weigh_114 : decode cX1_weigh 114 = .ok (.istore 7, 2) := by decide +kernel
theorem dX1_weigh_116 : decode cX1_weigh 116 = .ok (.aload_n 0, 1) := by decide +kernel
theorem dX1_weigh_117 : decode cX1_weigh 117 = .ok (.getfield 9, 3) := by decide +kernel
theorem dX1_weigh_120 : decode cX1_weigh 120 = .ok (.iload 7, 2) := by decide +kernel
theorem dX1_weigh_122 : decode cX1_weigh 122 = .ok (.aload_n 1, 1) := by decide +kernel
theorem dX1_weigh_123 : decode cX1_weigh 123 = .ok (.iload 4, 2) := by decide +kernel
theorem dX1_weigh_125 : decode cX1_weigh 125 = .ok (.aload_n 3, 1) := by decide +kernel
theorem dX1_weigh_126 : decode cX1_weigh 126 = .ok (.invokestatic 61, 3) := by decide +kernel
theorem dX1_weigh_129 : decode cX1_weigh 129 = .ok (.iload 6, 2) := by decide +kernel
theorem dX1_weigh_131 : decode cX1_weigh 131 = .ok (.isub, 1) := by decide +kernel
theorem dX1_weigh_132 : decode cX1_weigh 132 = .ok (.iastore, 1) := by decide +kernel
theorem dX1_weigh_133 : decode cX1_weigh 133 = .ok (.aload_n 0, 1) := by decide +kernel
theorem dX1_weigh_134 : decode cX1_weigh 134 = .ok (.getfield 15, 3) := by decide +kernel
theorem dX1_weigh_137 : decode cX1_weigh 137 = .ok (.iload 7, 2) := by decide +kernel
theorem dX1_weigh_139 : decode cX1_weigh 139 = .ok (.aload_n 2, 1) := by decide +kernel
theorem dX1_weigh_140 : decode cX1_weigh 140 = .ok (.iload 5, 2) := by decide +kernel
theorem dX1_weigh_142 : decode cX1_weigh 142 = .ok (.aload_n 3, 1) := by decide +kernel
theorem dX1_weigh_143 : decode cX1_weigh 143 = .ok (.invokestatic 61, 3) := by decide +kernel
theorem dX1_weigh_146 : decode cX1_weigh 146 = .ok (.iload 6, 2) := by decide +kernel
theorem dX1_weigh_148 : decode cX1_weigh 148 = .ok (.isub, 1) := by decide +kernel
theorem dX1_weigh_149 : decode cX1_weigh 149 = .ok (.iastore, 1) := by decide +kernel
theorem dX1_weigh_150 : decode cX1_weigh 150 = .ok (.iinc 5 1, 3) := by decide +kernel
theorem dX1_weigh_153 : decode cX1_weigh 153 = .ok (.goto (-74), 3) := by decide +kernel
theorem dX1_weigh_156 : decode cX1_weigh 156 = .ok (.iinc 4 1, 3) := by decide +kernel
theorem dX1_weigh_159 : decode cX1_weigh 159 = .ok (.goto (-95), 3) := by decide +kernel
theorem dX1_weigh_162 : decode cX1_weigh 162 = .ok (.aload_n 0, 1) := by decide +kernel
theorem dX1_weigh_163 : decode cX1_weigh 163 = .ok (.aload_n 0, 1) := by decide +kernel
theorem dX1_weigh_164 : decode cX1_weigh 164 = .ok (.invokevirtual 65, 3) := by decide +kernel
theorem dX1_weigh_167 : decode cX1_weigh 167 = .ok (.putfield 31, 3) := by decide +kernel
theorem dX1_weigh_170 : decode cX1_weigh 170 = .ok (.return_, 1) := by decide +kernel
theorem dX1_worthAlone_0 : decode cX1_worthAlone 0 = .ok (.bipush (-99), 2) := by decide +kernel
theorem dX1_worthAlone_2 : decode cX1_worthAlone 2 = .ok (.aload_n 0, 1) := by decide +kernel
theorem dX1_worthAlone_3 : decode cX1_worthAlone 3 = .ok (.iload_n 1, 1) := by decide +kernel
theorem dX1_worthAlone_4 : decode cX1_worthAlone 4 = .ok (.aload_n 2, 1) := by decide +kernel
theorem dX1_worthAlone_5 : decode cX1_worthAlone 5 = .ok (.invokevirtual 69, 3) := by decide +kernel
theorem dX1_worthAlone_8 : decode cX1_worthAlone 8 = .ok (.invokestatic 52, 3) := by decide +kernel
theorem dX1_worthAlone_11 : decode cX1_worthAlone 11 = .ok (.imul, 1) := by decide +kernel
theorem dX1_worthAlone_12 : decode cX1_worthAlone 12 = .ok (.istore_n 3, 1) := by decide +kernel
theorem dX1_worthAlone_13 : decode cX1_worthAlone 13 = .ok (.iconst 0, 1) := by decide +kernel
theorem dX1_worthAlone_14 : decode cX1_worthAlone 14 = .ok (.istore 4, 2) := by decide +kernel
theorem dX1_worthAlone_16 : decode cX1_worthAlone 16 = .ok (.iload 4, 2) := by decide +kernel
theorem dX1_worthAlone_18 : decode cX1_worthAlone 18 = .ok (.aload_n 2, 1) := by decide +kernel
theorem dX1_worthAlone_19 : decode cX1_worthAlone 19 = .ok (.arraylength, 1) := by decide +kernel
theorem dX1_worthAlone_20 : decode cX1_worthAlone 20 = .ok (.if_icmp .ge 21, 3) := by decide +kernel
theorem dX1_worthAlone_23 : decode cX1_worthAlone 23 = .ok (.iload_n 3, 1) := by decide +kernel
theorem dX1_worthAlone_24 : decode cX1_worthAlone 24 = .ok (.aload_n 0, 1) := by decide +kernel
theorem dX1_worthAlone_25 : decode cX1_worthAlone 25 = .ok (.iload_n 1, 1) := by decide +kernel
theorem dX1_worthAlone_26 : decode cX1_worthAlone 26 = .ok (.aload_n 2, 1) := by decide +kernel
theorem dX1_worthAlone_27 : decode cX1_worthAlone 27 = .ok (.iload 4, 2) := by decide +kernel
theorem dX1_worthAlone_29 : decode cX1_worthAlone 29 = .ok (.iaload, 1) := by decide +kernel
theorem dX1_worthAlone_30 : decode cX1_worthAlone 30 = .ok (.invokevirtual 73, 3) := by decide +kernel
theorem dX1_worthAlone_33 : decode cX1_worthAlone 33 = .ok (.iadd, 1) := by decide +kernel
theorem dX1_worthAlone_34 : decode cX1_worthAlone 34 = .ok (.istore_n 3, 1) := by decide +kernel
theorem dX1_worthAlone_35 : decode cX1_worthAlone 35 = .ok (.iinc 4 1, 3) := by decide +kernel
theorem dX1_worthAlone_38 : decode cX1_worthAlone 38 = .ok (.goto (-22), 3) := by decide +kernel
theorem dX1_worthAlone_41 : decode cX1_worthAlone 41 = .ok (.iload_n 3, 1) := by decide +kernel
theorem dX1_worthAlone_42 : decode cX1_worthAlone 42 = .ok (.ireturn, 1) := by decide +kernel
theorem dX1_pairOf_0 : decode cX1_pairOf 0 = .ok (.iload_n 1, 1) := by decide +kernel
theorem dX1_pairOf_1 : decode cX1_pairOf 1 = .ok (.aload_n 0, 1) := by decide +kernel
theorem dX1_pairOf_2 : decode cX1_pairOf 2 = .ok (.getfield 18, 3) := by decide +kernel
theorem dX1_pairOf_5 : decode cX1_pairOf 5 = .ok (.isub, 1) := by decide +kernel
theorem dX1_pairOf_6 : decode cX1_pairOf 6 = .ok (.iconst 5, 1) := by decide +kernel
theorem dX1_pairOf_7 : decode cX1_pairOf 7 = .ok (.imul, 1) := by decide +kernel
theorem dX1_pairOf_8 : decode cX1_pairOf 8 = .ok (.iload_n 2, 1) := by decide +kernel
theorem dX1_pairOf_9 : decode cX1_pairOf 9 = .ok (.iadd, 1) := by decide +kernel
theorem dX1_pairOf_10 : decode cX1_pairOf 10 = .ok (.aload_n 0, 1) := by decide +kernel
theorem dX1_pairOf_11 : decode cX1_pairOf 11 = .ok (.getfield 25, 3) := by decide +kernel
theorem dX1_pairOf_14 : decode cX1_pairOf 14 = .ok (.isub, 1) := by decide +kernel
theorem dX1_pairOf_15 : decode cX1_pairOf 15 = .ok (.istore_n 3, 1) := by decide +kernel
theorem dX1_pairOf_16 : decode cX1_pairOf 16 = .ok (.iload_n 3, 1) := by decide +kernel
theorem dX1_pairOf_17 : decode cX1_pairOf 17 = .ok (.ifCond .lt 16, 3) := by decide +kernel
theorem dX1_pairOf_20 : decode cX1_pairOf 20 = .ok (.iload_n 3, 1) := by decide +kernel
theorem dX1_pairOf_21 : decode cX1_pairOf 21 = .ok (.aload_n 0, 1) := by decide +kernel
theorem dX1_pairOf_22 : decode cX1_pairOf 22 = .ok (.getfield 9, 3) := by decide +kernel
theorem dX1_pairOf_25 : decode cX1_pairOf 25 = .ok (.arraylength, 1) := by decide +kernel
theorem dX1_pairOf_26 : decode cX1_pairOf 26 = .ok (.if_icmp .ge 7, 3) := by decide +kernel
theorem dX1_pairOf_29 : decode cX1_pairOf 29 = .ok (.iload_n 3, 1) := by decide +kernel
theorem dX1_pairOf_30 : decode cX1_pairOf 30 = .ok (.goto 4, 3) := by decide +kernel
theorem dX1_pairOf_33 : decode cX1_pairOf 33 = .ok (.iconst 0, 1) := by decide +kernel
theorem dX1_pairOf_34 : decode cX1_pairOf 34 = .ok (.ireturn, 1) := by decide +kernel
theorem dX1_firstSettled_0 : decode cX1_firstSettled 0 = .ok (.aload_n 0, 1) := by decide +kernel
theorem dX1_firstSettled_1 : decode cX1_firstSettled 1 = .ok (.getfield 18, 3) := by decide +kernel
theorem dX1_firstSettled_4 : decode cX1_firstSettled 4 = .ok (.istore_n 1, 1) := by decide +kernel
theorem dX1_firstSettled_5 : decode cX1_firstSettled 5 = .ok (.iload_n 1, 1) := by decide +kernel
theorem dX1_firstSettled_6 : decode cX1_firstSettled 6 = .ok (.aload_n 0, 1) := by decide +kernel
theorem dX1_firstSettled_7 : decode cX1_firstSettled 7 = .ok (.getfield 22, 3) := by decide +kernel
theorem dX1_firstSettled_10 : decode cX1_firstSettled 10 = .ok (.if_icmp .gt 44, 3) := by decide +kernel
theorem dX1_firstSettled_13 : decode cX1_firstSettled 13 = .ok (.aload_n 0, 1) := by decide +kernel
theorem dX1_firstSettled_14 : decode cX1_firstSettled 14 = .ok (.getfield 25, 3) := by decide +kernel
theorem dX1_firstSettled_17 : decode cX1_firstSettled 17 = .ok (.istore_n 2, 1) := by decide +kernel
theorem dX1_firstSettled_18 : decode cX1_firstSettled 18 = .ok (.iload_n 2, 1) := by decide +kernel
theorem dX1_firstSettled_19 : decode cX1_firstSettled 19 = .ok (.aload_n 0, 1) := by decide +kernel
theorem dX1_firstSettled_20 : decode cX1_firstSettled 20 = .ok (.getfield 28, 3) := by decide +kernel
theorem dX1_firstSettled_23 : decode cX1_firstSettled 23 = .ok (.if_icmp .gt 25, 3) := by decide +kernel
theorem dX1_firstSettled_26 : decode cX1_firstSettled 26 = .ok (.aload_n 0, 1) := by decide +kernel
theorem dX1_firstSettled_27 : decode cX1_firstSettled 27 = .ok (.iload_n 1, 1) := by decide +kernel
theorem dX1_firstSettled_28 : decode cX1_firstSettled 28 = .ok (.iload_n 2, 1) := by decide +kernel
theorem dX1_firstSettled_29 : decode cX1_firstSettled 29 = .ok (.invokevirtual 76, 3) := by decide +kernel
theorem dX1_firstSettled_32 : decode cX1_firstSettled 32 = .ok (.ifCond .eq 10, 3) := by decide +kernel
theorem dX1_firstSettled_35 : decode cX1_firstSettled 35 = .ok (.aload_n 0, 1) := by decide +kernel
theorem dX1_firstSettled_36 : decode cX1_firstSettled 36 = .ok (.iload_n 1, 1) := by decide +kernel
theorem dX1_firstSettled_37 : decode cX1_firstSettled 37 = .ok (.iload_n 2, 1) := by decide +kernel
theorem dX1_firstSettled_38 : decode cX1_firstSettled 38 = .ok (.invokevirtual 58, 3) := by decide +kernel
theorem dX1_firstSettled_41 : decode cX1_firstSettled 41 = .ok (.ireturn, 1) := by decide +kernel
theorem dX1_firstSettled_42 : decode cX1_firstSettled 42 = .ok (.iinc 2 1, 3) := by decide +kernel
theorem dX1_firstSettled_45 : decode cX1_firstSettled 45 = .ok (.goto (-27), 3) := by decide +kernel
theorem dX1_firstSettled_48 : decode cX1_firstSettled 48 = .ok (.iinc 1 1, 3) := by decide +kernel
theorem dX1_firstSettled_51 : decode cX1_firstSettled 51 = .ok (.goto (-46), 3) := by decide +kernel
theorem dX1_firstSettled_54 : decode cX1_firstSettled 54 = .ok (.bipush (-9), 2) := by decide +kernel
theorem dX1_firstSettled_56 : decode cX1_firstSettled 56 = .ok (.ireturn, 1) := by decide +kernel
theorem dX1_isSettled_0 : decode cX1_isSettled 0 = .ok (.aload_n 0, 1) := by decide +kernel
theorem dX1_isSettled_1 : decode cX1_isSettled 1 = .ok (.iload_n 1, 1) := by decide +kernel
theorem dX1_isSettled_2 : decode cX1_isSettled 2 = .ok (.iload_n 2, 1) := by decide +kernel
theorem dX1_isSettled_3 : decode cX1_isSettled 3 = .ok (.invokevirtual 58, 3) := by decide +kernel
theorem dX1_isSettled_6 : decode cX1_isSettled 6 = .ok (.istore_n 3, 1) := by decide +kernel
theorem dX1_isSettled_7 : decode cX1_isSettled 7 = .ok (.aload_n 0, 1) := by decide +kernel
theorem dX1_isSettled_8 : decode cX1_isSettled 8 = .ok (.getfield 18, 3) := by decide +kernel
theorem dX1_isSettled_11 : decode cX1_isSettled 11 = .ok (.istore 4, 2) := by decide +kernel
theorem dX1_isSettled_13 : decode cX1_isSettled 13 = .ok (.iload 4, 2) := by decide +kernel
theorem dX1_isSettled_15 : decode cX1_isSettled 15 = .ok (.aload_n 0, 1) := by decide +kernel
theorem dX1_isSettled_16 : decode cX1_isSettled 16 = .ok (.getfield 22, 3) := by decide +kernel
theorem dX1_isSettled_19 : decode cX1_isSettled 19 = .ok (.if_icmp .gt 32, 3) := by decide +kernel
theorem dX1_isSettled_22 : decode cX1_isSettled 22 = .ok (.aload_n 0, 1) := by decide +kernel
theorem dX1_isSettled_23 : decode cX1_isSettled 23 = .ok (.getfield 9, 3) := by decide +kernel
theorem dX1_isSettled_26 : decode cX1_isSettled 26 = .ok (.aload_n 0, 1) := by decide +kernel
theorem dX1_isSettled_27 : decode cX1_isSettled 27 = .ok (.iload 4, 2) := by decide +kernel
theorem dX1_isSettled_29 : decode cX1_isSettled 29 = .ok (.iload_n 2, 1) := by decide +kernel
theorem dX1_isSettled_30 : decode cX1_isSettled 30 = .ok (.invokevirtual 58, 3) := by decide +kernel
theorem dX1_isSettled_33 : decode cX1_isSettled 33 = .ok (.iaload, 1) := by decide +kernel
theorem dX1_isSettled_34 : decode cX1_isSettled 34 = .ok (.aload_n 0, 1) := by decide +kernel
theorem dX1_isSettled_35 : decode cX1_isSettled 35 = .ok (.getfield 9, 3) := by decide +kernel
theorem dX1_isSettled_38 : decode cX1_isSettled 38 = .ok (.iload_n 3, 1) := by decide +kernel
theorem dX1_isSettled_39 : decode cX1_isSettled 39 = .ok (.iaload, 1) := by decide +kernel
theorem dX1_isSettled_40 : decode cX1_isSettled 40 = .ok (.if_icmp .le 5, 3) := by decide +kernel
theorem dX1_isSettled_43 : decode cX1_isSettled 43 = .ok (.iconst 0, 1) := by decide +kernel
theorem dX1_isSettled_44 : decode cX1_isSettled 44 = .ok (.ireturn, 1) := by decide +kernel
theorem dX1_isSettled_45 : decode cX1_isSettled 45 = .ok (.iinc 4 1, 3) := by decide +kernel
theorem dX1_isSettled_48 : decode cX1_isSettled 48 = .ok (.goto (-35), 3) := by decide +kernel
theorem dX1_isSettled_51 : decode cX1_isSettled 51 = .ok (.aload_n 0, 1) := by decide +kernel
theorem dX1_isSettled_52 : decode cX1_isSettled 52 = .ok (.getfield 25, 3) := by decide +kernel
theorem dX1_isSettled_55 : decode cX1_isSettled 55 = .ok (.istore 4, 2) := by decide +kernel
theorem dX1_isSettled_57 : decode cX1_isSettled 57 = .ok (.iload 4, 2) := by decide +kernel
theorem dX1_isSettled_59 : decode cX1_isSettled 59 = .ok (.aload_n 0, 1) := by decide +kernel
theorem dX1_isSettled_60 : decode cX1_isSettled 60 = .ok (.getfield 28, 3) := by decide +kernel
theorem dX1_isSettled_63 : decode cX1_isSettled 63 = .ok (.if_icmp .gt 32, 3) := by decide +kernel
theorem dX1_isSettled_66 : decode cX1_isSettled 66 = .ok (.aload_n 0, 1) := by decide +kernel
theorem dX1_isSettled_67 : decode cX1_isSettled 67 = .ok (.getfield 15, 3) := by decide +kernel
theorem dX1_isSettled_70 : decode cX1_isSettled 70 = .ok (.aload_n 0, 1) := by decide +kernel
theorem dX1_isSettled_71 : decode cX1_isSettled 71 = .ok (.iload_n 1, 1) := by decide +kernel
theorem dX1_isSettled_72 : decode cX1_isSettled 72 = .ok (.iload 4, 2) := by decide +kernel
theorem dX1_isSettled_74 : decode cX1_isSettled 74 = .ok (.invokevirtual 58, 3) := by decide +kernel
theorem dX1_isSettled_77 : decode cX1_isSettled 77 = .ok (.iaload, 1) := by decide +kernel
theorem dX1_isSettled_78 : decode cX1_isSettled 78 = .ok (.aload_n 0, 1) := by decide +kernel
theorem dX1_isSettled_79 : decode cX1_isSettled 79 = .ok (.getfield 15, 3) := by decide +kernel
theorem dX1_isSettled_82 : decode cX1_isSettled 82 = .ok (.iload_n 3, 1) := by decide +kernel
theorem dX1_isSettled_83 : decode cX1_isSettled 83 = .ok (.iaload, 1) := by decide +kernel
theorem dX1_isSettled_84 : decode cX1_isSettled 84 = .ok (.if_icmp .le 5, 3) := by decide +kernel
theorem dX1_isSettled_87 : decode cX1_isSettled 87 = .ok (.iconst 0, 1) := by decide +kernel
theorem dX1_isSettled_88 : decode cX1_isSettled 88 = .ok (.ireturn, 1) := by decide +kernel
theorem dX1_isSettled_89 : decode cX1_isSettled 89 = .ok (.iinc 4 1, 3) := by decide +kernel
theorem dX1_isSettled_92 : decode cX1_isSettled 92 = .ok (.goto (-35), 3) := by decide +kernel
theorem dX1_isSettled_95 : decode cX1_isSettled 95 = .ok (.iconst 1, 1) := by decide +kernel
theorem dX1_isSettled_96 : decode cX1_isSettled 96 = .ok (.ireturn, 1) := by decide +kernel
theorem dX1_firstLength_0 : decode cX1_firstLength 0 = .ok (.aload_n 0, 1) := by decide +kernel
theorem dX1_firstLength_1 : decode cX1_firstLength 1 = .ok (.getfield 31, 3) := by decide +kernel
theorem dX1_firstLength_4 : decode cX1_firstLength 4 = .ok (.bipush (-9), 2) := by decide +kernel
theorem dX1_firstLength_6 : decode cX1_firstLength 6 = .ok (.if_icmp .ne 8, 3) := by decide +kernel
theorem dX1_firstLength_9 : decode cX1_firstLength 9 = .ok (.bipush (-9), 2) := by decide +kernel
theorem dX1_firstLength_11 : decode cX1_firstLength 11 = .ok (.goto 14, 3) := by decide +kernel
theorem dX1_firstLength_14 : decode cX1_firstLength 14 = .ok (.aload_n 0, 1) := by decide +kernel
theorem dX1_firstLength_15 : decode cX1_firstLength 15 = .ok (.getfield 18, 3) := by decide +kernel
theorem dX1_firstLength_18 : decode cX1_firstLength 18 = .ok (.aload_n 0, 1) := by decide +kernel
theorem dX1_firstLength_19 : decode cX1_firstLength 19 = .ok (.getfield 31, 3) := by decide +kernel
theorem dX1_firstLength_22 : decode cX1_firstLength 22 = .ok (.iconst 5, 1) := by decide +kernel
theorem dX1_firstLength_23 : decode cX1_firstLength 23 = .ok (.idiv, 1) := by decide +kernel
theorem dX1_firstLength_24 : decode cX1_firstLength 24 = .ok (.iadd, 1) := by decide +kernel
theorem dX1_firstLength_25 : decode cX1_firstLength 25 = .ok (.ireturn, 1) := by decide +kernel
theorem dX1_otherLength_0 : decode cX1_otherLength 0 = .ok (.aload_n 0, 1) := by decide +kernel
theorem dX1_otherLength_1 : decode cX1_otherLength 1 = .ok (.getfield 31, 3) := by decide +kernel
theorem dX1_otherLength_4 : decode cX1_otherLength 4 = .ok (.bipush (-9), 2) := by decide +kernel
theorem dX1_otherLength_6 : decode cX1_otherLength 6 = .ok (.if_icmp .ne 8, 3) := by decide +kernel
theorem dX1_otherLength_9 : decode cX1_otherLength 9 = .ok (.bipush (-9), 2) := by decide +kernel
theorem dX1_otherLength_11 : decode cX1_otherLength 11 = .ok (.goto 14, 3) := by decide +kernel
theorem dX1_otherLength_14 : decode cX1_otherLength 14 = .ok (.aload_n 0, 1) := by decide +kernel
theorem dX1_otherLength_15 : decode cX1_otherLength 15 = .ok (.getfield 25, 3) := by decide +kernel
theorem dX1_otherLength_18 : decode cX1_otherLength 18 = .ok (.aload_n 0, 1) := by decide +kernel
theorem dX1_otherLength_19 : decode cX1_otherLength 19 = .ok (.getfield 31, 3) := by decide +kernel
theorem dX1_otherLength_22 : decode cX1_otherLength 22 = .ok (.iconst 5, 1) := by decide +kernel
theorem dX1_otherLength_23 : decode cX1_otherLength 23 = .ok (.irem, 1) := by decide +kernel
theorem dX1_otherLength_24 : decode cX1_otherLength 24 = .ok (.iadd, 1) := by decide +kernel
theorem dX1_otherLength_25 : decode cX1_otherLength 25 = .ok (.ireturn, 1) := by decide +kernel
theorem dX2_init_0 : decode cX2_init 0 = .ok (.aload_n 0, 1) := by decide +kernel
theorem dX2_init_1 : decode cX2_init 1 = .ok (.invokespecial 3, 3) := by decide +kernel
theorem dX2_init_4 : decode cX2_init 4 = .ok (.aload_n 0, 1) := by decide +kernel
theorem dX2_init_5 : decode cX2_init 5 = .ok (.bipush 12, 2) := by decide +kernel
theorem dX2_init_7 : decode cX2_init 7 = .ok (.newarray .int, 2) := by decide +kernel
theorem dX2_init_9 : decode cX2_init 9 = .ok (.putfield 9, 3) := by decide +kernel
theorem dX2_init_12 : decode cX2_init 12 = .ok (.aload_n 0, 1) := by decide +kernel
theorem dX2_init_13 : decode cX2_init 13 = .ok (.bipush 12, 2) := by decide +kernel
theorem dX2_init_15 : decode cX2_init 15 = .ok (.newarray .int, 2) := by decide +kernel
theorem dX2_init_17 : decode cX2_init 17 = .ok (.putfield 15, 3) := by decide +kernel
theorem dX2_init_20 : decode cX2_init 20 = .ok (.aload_n 0, 1) := by decide +kernel
theorem dX2_init_21 : decode cX2_init 21 = .ok (.bipush 12, 2) := by decide +kernel
theorem dX2_init_23 : decode cX2_init 23 = .ok (.newarray .int, 2) := by decide +kernel
theorem dX2_init_25 : decode cX2_init 25 = .ok (.putfield 18, 3) := by decide +kernel
theorem dX2_init_28 : decode cX2_init 28 = .ok (.aload_n 0, 1) := by decide +kernel
theorem dX2_init_29 : decode cX2_init 29 = .ok (.bipush 35, 2) := by decide +kernel
theorem dX2_init_31 : decode cX2_init 31 = .ok (.newarray .int, 2) := by decide +kernel
theorem dX2_init_33 : decode cX2_init 33 = .ok (.putfield 21, 3) := by decide +kernel
theorem dX2_init_36 : decode cX2_init 36 = .ok (.aload_n 0, 1) := by decide +kernel
theorem dX2_init_37 : decode cX2_init 37 = .ok (.bipush 6, 2) := by decide +kernel
theorem dX2_init_39 : decode cX2_init 39 = .ok (.newarray .int, 2) := by decide +kernel
theorem dX2_init_41 : decode cX2_init 41 = .ok (.putfield 24, 3) := by decide +kernel
theorem dX2_init_44 : decode cX2_init 44 = .ok (.aload_n 0, 1) := by decide +kernel
theorem dX2_init_45 : decode cX2_init 45 = .ok (.iconst 0, 1) := by decide +kernel
theorem dX2_init_46 : decode cX2_init 46 = .ok (.putfield 27, 3) := by decide +kernel
theorem dX2_init_49 : decode cX2_init 49 = .ok (.aload_n 0, 1) := by decide +kernel
theorem dX2_init_50 : decode cX2_init 50 = .ok (.iconst 0, 1) := by decide +kernel
theorem dX2_init_51 : decode cX2_init 51 = .ok (.putfield 31, 3) := by decide +kernel
theorem dX2_init_54 : decode cX2_init 54 = .ok (.aload_n 0, 1) := by decide +kernel
theorem dX2_init_55 : decode cX2_init 55 = .ok (.iconst 0, 1) := by decide +kernel
theorem dX2_init_56 : decode cX2_init 56 = .ok (.putfield 34, 3) := by decide +kernel
theorem dX2_init_59 : decode cX2_init 59 = .ok (.aload_n 0, 1) := by decide +kernel
theorem dX2_init_60 : decode cX2_init 60 = .ok (.bipush 60, 2) := by decide +kernel
theorem dX2_init_62 : decode cX2_init 62 = .ok (.putfield 37, 3) := by decide +kernel
theorem dX2_init_65 : decode cX2_init 65 = .ok (.aload_n 0, 1) := by decide +kernel
theorem dX2_init_66 : decode cX2_init 66 = .ok (.iconst 2, 1) := by decide +kernel
theorem dX2_init_67 : decode cX2_init 67 = .ok (.putfield 40, 3) := by decide +kernel
theorem dX2_init_70 : decode cX2_init 70 = .ok (.aload_n 0, 1) := by decide +kernel
theorem dX2_init_71 : decode cX2_init 71 = .ok (.iconst 0, 1) := by decide +kernel
theorem dX2_init_72 : decode cX2_init 72 = .ok (.putfield 43, 3) := by decide +kernel
theorem dX2_init_75 : decode cX2_init 75 = .ok (.aload_n 0, 1) := by decide +kernel
theorem dX2_init_76 : decode cX2_init 76 = .ok (.iconst 0, 1) := by decide +kernel
theorem dX2_init_77 : decode cX2_init 77 = .ok (.putfield 46, 3) := by decide +kernel
theorem dX2_init_80 : decode cX2_init 80 = .ok (.aload_n 0, 1) := by decide +kernel
theorem dX2_init_81 : decode cX2_init 81 = .ok (.getfield 9, 3) := by decide +kernel
theorem dX2_init_84 : decode cX2_init 84 = .ok (.bipush 20, 2) := by decide +kernel
theorem dX2_init_86 : decode cX2_init 86 = .ok (.invokestatic 49, 3) := by decide +kernel
theorem dX2_init_89 : decode cX2_init 89 = .ok (.return_, 1) := by decide +kernel
theorem dX2_copyFrom_0 : decode cX2_copyFrom 0 = .ok (.aload_n 1, 1) := by decide +kernel
theorem dX2_copyFrom_1 : decode cX2_copyFrom 1 = .ok (.getfield 9, 3) := by decide +kernel
theorem dX2_copyFrom_4 : decode cX2_copyFrom 4 = .ok (.aload_n 0, 1) := by decide +kernel
theorem dX2_copyFrom_5 : decode cX2_copyFrom 5 = .ok (.getfield 9, 3) := by decide +kernel
theorem dX2_copyFrom_8 : decode cX2_copyFrom 8 = .ok (.invokestatic 55, 3) := by decide +kernel
theorem dX2_copyFrom_11 : decode cX2_copyFrom 11 = .ok (.aload_n 1, 1) := by decide +kernel
theorem dX2_copyFrom_12 : decode cX2_copyFrom 12 = .ok (.getfield 15, 3) := by decide +kernel
theorem dX2_copyFrom_15 : decode cX2_copyFrom 15 = .ok (.aload_n 0, 1) := by decide +kernel
theorem dX2_copyFrom_16 : decode cX2_copyFrom 16 = .ok (.getfield 15, 3) := by decide +kernel
theorem dX2_copyFrom_19 : decode cX2_copyFrom 19 = .ok (.invokestatic 55, 3) := by decide +kernel
theorem dX2_copyFrom_22 : decode cX2_copyFrom 22 = .ok (.aload_n 1, 1) := by decide +kernel
theorem dX2_copyFrom_23 : decode cX2_copyFrom 23 = .ok (.getfield 18, 3) := by decide +kernel
theorem dX2_copyFrom_26 : decode cX2_copyFrom 26 = .ok (.aload_n 0, 1) := by decide +kernel
theorem dX2_copyFrom_27 : decode cX2_copyFrom 27 = .ok (.getfield 18, 3) := by decide +kernel
theorem dX2_copyFrom_30 : decode cX2_copyFrom 30 = .ok (.invokestatic 55, 3) := by decide +kernel
theorem dX2_copyFrom_33 : decode cX2_copyFrom 33 = .ok (.aload_n 1, 1) := by decide +kernel
theorem dX2_copyFrom_34 : decode cX2_copyFrom 34 = .ok (.getfield 21, 3) := by decide +kernel
theorem dX2_copyFrom_37 : decode cX2_copyFrom 37 = .ok (.aload_n 0, 1) := by decide +kernel
theorem dX2_copyFrom_38 : decode cX2_copyFrom 38 = .ok (.getfield 21, 3) := by decide +kernel
theorem dX2_copyFrom_41 : decode cX2_copyFrom 41 = .ok (.invokestatic 55, 3) := by decide +kernel
theorem dX2_copyFrom_44 : decode cX2_copyFrom 44 = .ok (.aload_n 1, 1) := by decide +kernel
theorem dX2_copyFrom_45 : decode cX2_copyFrom 45 = .ok (.getfield 24, 3) := by decide +kernel
theorem dX2_copyFrom_48 : decode cX2_copyFrom 48 = .ok (.aload_n 0, 1) := by decide +kernel
theorem dX2_copyFrom_49 : decode cX2_copyFrom 49 = .ok (.getfield 24, 3) := by decide +kernel
theorem dX2_copyFrom_52 : decode cX2_copyFrom 52 = .ok (.invokestatic 55, 3) := by decide +kernel
theorem dX2_copyFrom_55 : decode cX2_copyFrom 55 = .ok (.aload_n 0, 1) := by decide +kernel
theorem dX2_copyFrom_56 : decode cX2_copyFrom 56 = .ok (.aload_n 1, 1) := by decide +kernel
theorem dX2_copyFrom_57 : decode cX2_copyFrom 57 = .ok (.getfield 27, 3) := by decide +kernel
theorem dX2_copyFrom_60 : decode cX2_copyFrom 60 = .ok (.putfield 27, 3) := by decide +kernel
theorem dX2_copyFrom_63 : decode cX2_copyFrom 63 = .ok (.aload_n 0, 1) := by decide +kernel
theorem dX2_copyFrom_64 : decode cX2_copyFrom 64 = .ok (.aload_n 1, 1) := by decide +kernel
theorem dX2_copyFrom_65 : decode cX2_copyFrom 65 = .ok (.getfield 31, 3) := by decide +kernel
theorem dX2_copyFrom_68 : decode cX2_copyFrom 68 = .ok (.putfield 31, 3) := by decide +kernel
theorem dX2_copyFrom_71 : decode cX2_copyFrom 71 = .ok (.aload_n 0, 1) := by decide +kernel
theorem dX2_copyFrom_72 : decode cX2_copyFrom 72 = .ok (.aload_n 1, 1) := by decide +kernel
theorem dX2_copyFrom_73 : decode cX2_copyFrom 73 = .ok (.getfield 34, 3) := by decide +kernel
theorem dX2_copyFrom_76 : decode cX2_copyFrom 76 = .ok (.putfield 34, 3) := by decide +kernel
theorem dX2_copyFrom_79 : decode cX2_copyFrom 79 = .ok (.aload_n 0, 1) := by decide +kernel
theorem dX2_copyFrom_80 : decode cX2_copyFrom 80 = .ok (.aload_n 1, 1) := by decide +kernel
theorem dX2_copyFrom_81 : decode cX2_copyFrom 81 = .ok (.getfield 37, 3) := by decide +kernel
theorem dX2_copyFrom_84 : decode cX2_copyFrom 84 = .ok (.putfield 37, 3) := by decide +kernel
theorem dX2_copyFrom_87 : decode cX2_copyFrom 87 = .ok (.aload_n 0, 1) := by decide +kernel
theorem dX2_copyFrom_88 : decode cX2_copyFrom 88 = .ok (.aload_n 1, 1) := by decide +kernel
theorem dX2_copyFrom_89 : decode cX2_copyFrom 89 = .ok (.getfield 40, 3) := by decide +kernel
theorem dX2_copyFrom_92 : decode cX2_copyFrom 92 = .ok (.putfield 40, 3) := by decide +kernel
theorem dX2_copyFrom_95 : decode cX2_copyFrom 95 = .ok (.aload_n 0, 1) := by decide +kernel
theorem dX2_copyFrom_96 : decode cX2_copyFrom 96 = .ok (.aload_n 1, 1) := by decide +kernel
theorem dX2_copyFrom_97 : decode cX2_copyFrom 97 = .ok (.getfield 43, 3) := by decide +kernel
theorem dX2_copyFrom_100 : decode cX2_copyFrom 100 = .ok (.putfield 43, 3) := by decide +kernel
theorem dX2_copyFrom_103 : decode cX2_copyFrom 103 = .ok (.aload_n 0, 1) := by decide +kernel
theorem dX2_copyFrom_104 : decode cX2_copyFrom 104 = .ok (.aload_n 1, 1) := by decide +kernel
theorem dX2_copyFrom_105 : decode cX2_copyFrom 105 = .ok (.getfield 46, 3) := by decide +kernel
theorem dX2_copyFrom_108 : decode cX2_copyFrom 108 = .ok (.putfield 46, 3) := by decide +kernel
theorem dX2_copyFrom_111 : decode cX2_copyFrom 111 = .ok (.return_, 1) := by decide +kernel
theorem dX2_copyCells_0 : decode cX2_copyCells 0 = .ok (.aload_n 0, 1) := by decide +kernel
theorem dX2_copyCells_1 : decode cX2_copyCells 1 = .ok (.iconst 0, 1) := by decide +kernel
theorem dX2_copyCells_2 : decode cX2_copyCells 2 = .ok (.aload_n 1, 1) := by decide +kernel
theorem dX2_copyCells_3 : decode cX2_copyCells 3 = .ok (.iconst 0, 1) := by decide +kernel
theorem dX2_copyCells_4 : decode cX2_copyCells 4 = .ok (.aload_n 0, 1) := by decide +kernel
theorem dX2_copyCells_5 : decode cX2_copyCells 5 = .ok (.arraylength, 1) := by decide +kernel
theorem dX2_copyCells_6 : decode cX2_copyCells 6 = .ok (.aload_n 1, 1) := by decide +kernel
theorem dX2_copyCells_7 : decode cX2_copyCells 7 = .ok (.arraylength, 1) := by decide +kernel
theorem dX2_copyCells_8 : decode cX2_copyCells 8 = .ok (.invokestatic 59, 3) := by decide +kernel
theorem dX2_copyCells_11 : decode cX2_copyCells 11 = .ok (.invokestatic 65, 3) := by decide +kernel
theorem dX2_copyCells_14 : decode cX2_copyCells 14 = .ok (.return_, 1) := by decide +kernel
theorem dX2_cellAt_0 : decode cX2_cellAt 0 = .ok (.iload_n 1, 1) := by decide +kernel
theorem dX2_cellAt_1 : decode cX2_cellAt 1 = .ok (.ifCond .lt 15, 3) := by decide +kernel
theorem dX2_cellAt_4 : decode cX2_cellAt 4 = .ok (.iload_n 1, 1) := by decide +kernel
theorem dX2_cellAt_5 : decode cX2_cellAt 5 = .ok (.aload_n 0, 1) := by decide +kernel
theorem dX2_cellAt_6 : decode cX2_cellAt 6 = .ok (.arraylength, 1) := by decide +kernel
theorem dX2_cellAt_7 : decode cX2_cellAt 7 = .ok (.if_icmp .ge 9, 3) := by decide +kernel
theorem dX2_cellAt_10 : decode cX2_cellAt 10 = .ok (.aload_n 0, 1) := by decide +kernel
theorem dX2_cellAt_11 : decode cX2_cellAt 11 = .ok (.iload_n 1, 1) := by decide +kernel
theorem dX2_cellAt_12 : decode cX2_cellAt 12 = .ok (.iaload, 1) := by decide +kernel
theorem dX2_cellAt_13 : decode cX2_cellAt 13 = .ok (.goto 4, 3) := by decide +kernel
theorem dX2_cellAt_16 : decode cX2_cellAt 16 = .ok (.iconst 0, 1) := by decide +kernel
theorem dX2_cellAt_17 : decode cX2_cellAt 17 = .ok (.ireturn, 1) := by decide +kernel
theorem dX2_setCell_0 : decode cX2_setCell 0 = .ok (.iload_n 1, 1) := by decide +kernel
theorem dX2_setCell_1 : decode cX2_setCell 1 = .ok (.ifCond .lt 13, 3) := by decide +kernel
theorem dX2_setCell_4 : decode cX2_setCell 4 = .ok (.iload_n 1, 1) := by decide +kernel
theorem dX2_setCell_5 : decode cX2_setCell 5 = .ok (.aload_n 0, 1) := by decide +kernel
theorem dX2_setCell_6 : decode cX2_setCell 6 = .ok (.arraylength, 1) := by decide +kernel
theorem dX2_setCell_7 : decode cX2_setCell 7 = .ok (.if_icmp .ge 7, 3) := by decide +kernel
theorem dX2_setCell_10 : decode cX2_setCell 10 = .ok (.aload_n 0, 1) := by decide +kernel
theorem dX2_setCell_11 : decode cX2_setCell 11 = .ok (.iload_n 1, 1) := by decide +kernel
theorem dX2_setCell_12 : decode cX2_setCell 12 = .ok (.iload_n 2, 1) := by decide +kernel
theorem dX2_setCell_13 : decode cX2_setCell 13 = .ok (.iastore, 1) := by decide +kernel
theorem dX2_setCell_14 : decode cX2_setCell 14 = .ok (.return_, 1) := by decide +kernel
theorem dX2_tideAt_0 : decode cX2_tideAt 0 = .ok (.aload_n 0, 1) := by decide +kernel
theorem dX2_tideAt_1 : decode cX2_tideAt 1 = .ok (.getfield 9, 3) := by decide +kernel
theorem dX2_tideAt_4 : decode cX2_tideAt 4 = .ok (.iload_n 1, 1) := by decide +kernel
theorem dX2_tideAt_5 : decode cX2_tideAt 5 = .ok (.invokestatic 71, 3) := by decide +kernel
theorem dX2_tideAt_8 : decode cX2_tideAt 8 = .ok (.ireturn, 1) := by decide +kernel
theorem dX2_windAt_0 : decode cX2_windAt 0 = .ok (.aload_n 0, 1) := by decide +kernel
theorem dX2_windAt_1 : decode cX2_windAt 1 = .ok (.getfield 15, 3) := by decide +kernel
theorem dX2_windAt_4 : decode cX2_windAt 4 = .ok (.iload_n 1, 1) := by decide +kernel
theorem dX2_windAt_5 : decode cX2_windAt 5 = .ok (.invokestatic 71, 3) := by decide +kernel
theorem dX2_windAt_8 : decode cX2_windAt 8 = .ok (.ireturn, 1) := by decide +kernel
theorem dX2_setTide_0 : decode cX2_setTide 0 = .ok (.aload_n 0, 1) := by decide +kernel
theorem dX2_setTide_1 : decode cX2_setTide 1 = .ok (.getfield 9, 3) := by decide +kernel
theorem dX2_setTide_4 : decode cX2_setTide 4 = .ok (.iload_n 1, 1) := by decide +kernel
theorem dX2_setTide_5 : decode cX2_setTide 5 = .ok (.iload_n 2, 1) := by decide +kernel
theorem dX2_setTide_6 : decode cX2_setTide 6 = .ok (.invokestatic 75, 3) := by decide +kernel
theorem dX2_setTide_9 : decode cX2_setTide 9 = .ok (.return_, 1) := by decide +kernel
theorem dX2_setWind_0 : decode cX2_setWind 0 = .ok (.aload_n 0, 1) := by decide +kernel
theorem dX2_setWind_1 : decode cX2_setWind 1 = .ok (.getfield 15, 3) := by decide +kernel
theorem dX2_setWind_4 : decode cX2_setWind 4 = .ok (.iload_n 1, 1) := by decide +kernel
theorem dX2_setWind_5 : decode cX2_setWind 5 = .ok (.iload_n 2, 1) := by decide +kernel
theorem dX2_setWind_6 : decode cX2_setWind 6 = .ok (.invokestatic 75, 3) := by decide +kernel
theorem dX2_setWind_9 : decode cX2_setWind 9 = .ok (.return_, 1) := by decide +kernel
theorem dX2_hasRing_0 : decode cX2_hasRing 0 = .ok (.iload_n 1, 1) := by decide +kernel
theorem dX2_hasRing_1 : decode cX2_hasRing 1 = .ok (.ifCond .lt 15, 3) := by decide +kernel
theorem dX2_hasRing_4 : decode cX2_hasRing 4 = .ok (.iload_n 1, 1) := by decide +kernel
theorem dX2_hasRing_5 : decode cX2_hasRing 5 = .ok (.aload_n 0, 1) := by decide +kernel
theorem dX2_hasRing_6 : decode cX2_hasRing 6 = .ok (.getfield 27, 3) := by decide +kernel
theorem dX2_hasRing_9 : decode cX2_hasRing 9 = .ok (.if_icmp .ge 7, 3) := by decide +kernel
theorem dX2_hasRing_12 : decode cX2_hasRing 12 = .ok (.iconst 1, 1) := by decide +kernel
theorem dX2_hasRing_13 : decode cX2_hasRing 13 = .ok (.goto 4, 3) := by decide +kernel
theorem dX2_hasRing_16 : decode cX2_hasRing 16 = .ok (.iconst 0, 1) := by decide +kernel
theorem dX2_hasRing_17 : decode cX2_hasRing 17 = .ok (.ireturn, 1) := by decide +kernel
theorem dX2_hasBoat_0 : decode cX2_hasBoat 0 = .ok (.iload_n 1, 1) := by decide +kernel
theorem dX2_hasBoat_1 : decode cX2_hasBoat 1 = .ok (.ifCond .lt 15, 3) := by decide +kernel
theorem dX2_hasBoat_4 : decode cX2_hasBoat 4 = .ok (.iload_n 1, 1) := by decide +kernel
theorem dX2_hasBoat_5 : decode cX2_hasBoat 5 = .ok (.aload_n 0, 1) := by decide +kernel
theorem dX2_hasBoat_6 : decode cX2_hasBoat 6 = .ok (.getfield 31, 3) := by decide +kernel
theorem dX2_hasBoat_9 : decode cX2_hasBoat 9 = .ok (.if_icmp .ge 7, 3) := by decide +kernel
theorem dX2_hasBoat_12 : decode cX2_hasBoat 12 = .ok (.iconst 1, 1) := by decide +kernel
theorem dX2_hasBoat_13 : decode cX2_hasBoat 13 = .ok (.goto 4, 3) := by decide +kernel
theorem dX2_hasBoat_16 : decode cX2_hasBoat 16 = .ok (.iconst 0, 1) := by decide +kernel
theorem dX2_hasBoat_17 : decode cX2_hasBoat 17 = .ok (.ireturn, 1) := by decide +kernel
theorem dX2_hasRamp_0 : decode cX2_hasRamp 0 = .ok (.iload_n 1, 1) := by decide +kernel
theorem dX2_hasRamp_1 : decode cX2_hasRamp 1 = .ok (.ifCond .lt 15, 3) := by decide +kernel
theorem dX2_hasRamp_4 : decode cX2_hasRamp 4 = .ok (.iload_n 1, 1) := by decide +kernel
theorem dX2_hasRamp_5 : decode cX2_hasRamp 5 = .ok (.aload_n 0, 1) := by decide +kernel
theorem dX2_hasRamp_6 : decode cX2_hasRamp 6 = .ok (.getfield 34, 3) := by decide +kernel
theorem dX2_hasRamp_9 : decode cX2_hasRamp 9 = .ok (.if_icmp .ge 7, 3) := by decide +kernel
theorem dX2_hasRamp_12 : decode cX2_hasRamp 12 = .ok (.iconst 1, 1) := by decide +kernel
theorem dX2_hasRamp_13 : decode cX2_hasRamp 13 = .ok (.goto 4, 3) := by decide +kernel
theorem dX2_hasRamp_16 : decode cX2_hasRamp 16 = .ok (.iconst 0, 1) := by decide +kernel
theorem dX2_hasRamp_17 : decode cX2_hasRamp 17 = .ok (.ireturn, 1) := by decide +kernel
theorem dX2_ringCell_0 : decode cX2_ringCell 0 = .ok (.aload_n 0, 1) := by decide +kernel
theorem dX2_ringCell_1 : decode cX2_ringCell 1 = .ok (.getfield 18, 3) := by decide +kernel
theorem dX2_ringCell_4 : decode cX2_ringCell 4 = .ok (.iload_n 1, 1) := by decide +kernel
theorem dX2_ringCell_5 : decode cX2_ringCell 5 = .ok (.iconst 2, 1) := by decide +kernel
theorem dX2_ringCell_6 : decode cX2_ringCell 6 = .ok (.imul, 1) := by decide +kernel
theorem dX2_ringCell_7 : decode cX2_ringCell 7 = .ok (.iload_n 2, 1) := by decide +kernel
theorem dX2_ringCell_8 : decode cX2_ringCell 8 = .ok (.iadd, 1) := by decide +kernel
theorem dX2_ringCell_9 : decode cX2_ringCell 9 = .ok (.invokestatic 71, 3) := by decide +kernel
theorem dX2_ringCell_12 : decode cX2_ringCell 12 = .ok (.ireturn, 1) := by decide +kernel
theorem dX2_boatCell_0 : decode cX2_boatCell 0 = .ok (.aload_n 0, 1) := by decide +kernel
theorem dX2_boatCell_1 : decode cX2_boatCell 1 = .ok (.getfield 21, 3) := by decide +kernel
theorem dX2_boatCell_4 : decode cX2_boatCell 4 = .ok (.iload_n 1, 1) := by decide +kernel
theorem dX2_boatCell_5 : decode cX2_boatCell 5 = .ok (.bipush 7, 2) := by decide +kernel
theorem dX2_boatCell_7 : decode cX2_boatCell 7 = .ok (.imul, 1) := by decide +kernel
theorem dX2_boatCell_8 : decode cX2_boatCell 8 = .ok (.iload_n 2, 1) := by decide +kernel
theorem dX2_boatCell_9 : decode cX2_boatCell 9 = .ok (.iadd, 1) := by decide +kernel
theorem dX2_boatCell_10 : decode cX2_boatCell 10 = .ok (.invokestatic 71, 3) := by decide +kernel
theorem dX2_boatCell_13 : decode cX2_boatCell 13 = .ok (.ireturn, 1) := by decide +kernel
theorem dX2_setBoatCell_0 : decode cX2_setBoatCell 0 = .ok (.aload_n 0, 1) := by decide +kernel
theorem dX2_setBoatCell_1 : decode cX2_setBoatCell 1 = .ok (.getfield 21, 3) := by decide +kernel
theorem dX2_setBoatCell_4 : decode cX2_setBoatCell 4 = .ok (.iload_n 1, 1) := by decide +kernel
theorem dX2_setBoatCell_5 : decode cX2_setBoatCell 5 = .ok (.bipush 7, 2) := by decide +kernel
theorem dX2_setBoatCell_7 : decode cX2_setBoatCell 7 = .ok (.imul, 1) := by decide +kernel
theorem dX2_setBoatCell_8 : decode cX2_setBoatCell 8 = .ok (.iload_n 2, 1) := by decide +kernel
theorem dX2_setBoatCell_9 : decode cX2_setBoatCell 9 = .ok (.iadd, 1) := by decide +kernel
theorem dX2_setBoatCell_10 : decode cX2_setBoatCell 10 = .ok (.iload_n 3, 1) := by decide +kernel
theorem dX2_setBoatCell_11 : decode cX2_setBoatCell 11 = .ok (.invokestatic 75, 3) := by decide +kernel
theorem dX2_setBoatCell_14 : decode cX2_setBoatCell 14 = .ok (.return_, 1) := by decide +kernel
theorem dX2_rampCell_0 : decode cX2_rampCell 0 = .ok (.aload_n 0, 1) := by decide +kernel
theorem dX2_rampCell_1 : decode cX2_rampCell 1 = .ok (.getfield 24, 3) := by decide +kernel
theorem dX2_rampCell_4 : decode cX2_rampCell 4 = .ok (.iload_n 1, 1) := by decide +kernel
theorem dX2_rampCell_5 : decode cX2_rampCell 5 = .ok (.iconst 2, 1) := by decide +kernel
theorem dX2_rampCell_6 : decode cX2_rampCell 6 = .ok (.imul, 1) := by decide +kernel
theorem dX2_rampCell_7 : decode cX2_rampCell 7 = .ok (.iload_n 2, 1) := by decide +kernel
theorem dX2_rampCell_8 : decode cX2_rampCell 8 = .ok (.iadd, 1) := by decide +kernel
theorem dX2_rampCell_9 : decode cX2_rampCell 9 = .ok (.invokestatic 71, 3) := by decide +kernel
theorem dX2_rampCell_12 : decode cX2_rampCell 12 = .ok (.ireturn, 1) := by decide +kernel
theorem dX2_addRing_0 : decode cX2_addRing 0 = .ok (.aload_n 0, 1) := by decide +kernel
theorem dX2_addRing_1 : decode cX2_addRing 1 = .ok (.getfield 18, 3) := by decide +kernel
theorem dX2_addRing_4 : decode cX2_addRing 4 = .ok (.aload_n 0, 1) := by decide +kernel
theorem dX2_addRing_5 : decode cX2_addRing 5 = .ok (.getfield 27, 3) := by decide +kernel
theorem dX2_addRing_8 : decode cX2_addRing 8 = .ok (.iconst 2, 1) := by decide +kernel
theorem dX2_addRing_9 : decode cX2_addRing 9 = .ok (.imul, 1) := by decide +kernel
theorem dX2_addRing_10 : decode cX2_addRing 10 = .ok (.iconst 0, 1) := by decide +kernel
theorem dX2_addRing_11 : decode cX2_addRing 11 = .ok (.iadd, 1) := by decide +kernel
theorem dX2_addRing_12 : decode cX2_addRing 12 = .ok (.iload_n 1, 1) := by decide +kernel
theorem dX2_addRing_13 : decode cX2_addRing 13 = .ok (.invokestatic 75, 3) := by decide +kernel
theorem dX2_addRing_16 : decode cX2_addRing 16 = .ok (.aload_n 0, 1) := by decide +kernel
theorem dX2_addRing_17 : decode cX2_addRing 17 = .ok (.getfield 18, 3) := by decide +kernel
theorem dX2_addRing_20 : decode cX2_addRing 20 = .ok (.aload_n 0, 1) := by decide +kernel
theorem dX2_addRing_21 : decode cX2_addRing 21 = .ok (.getfield 27, 3) := by decide +kernel
theorem dX2_addRing_24 : decode cX2_addRing 24 = .ok (.iconst 2, 1) := by decide +kernel
theorem dX2_addRing_25 : decode cX2_addRing 25 = .ok (.imul, 1) := by decide +kernel
theorem dX2_addRing_26 : decode cX2_addRing 26 = .ok (.iconst 1, 1) := by decide +kernel
theorem dX2_addRing_27 : decode cX2_addRing 27 = .ok (.iadd, 1) := by decide +kernel
theorem dX2_addRing_28 : decode cX2_addRing 28 = .ok (.iload_n 2, 1) := by decide +kernel
theorem dX2_addRing_29 : decode cX2_addRing 29 = .ok (.invokestatic 75, 3) := by decide +kernel
theorem dX2_addRing_32 : decode cX2_addRing 32 = .ok (.aload_n 0, 1) := by decide +kernel
theorem dX2_addRing_33 : decode cX2_addRing 33 = .ok (.dup, 1) := by decide +kernel
theorem dX2_addRing_34 : decode cX2_addRing 34 = .ok (.getfield 27, 3) := by decide +kernel
theorem dX2_addRing_37 : decode cX2_addRing 37 = .ok (.iconst 1, 1) := by decide +kernel
theorem dX2_addRing_38 : decode cX2_addRing 38 = .ok (.iadd, 1) := by decide +kernel
theorem dX2_addRing_39 : decode cX2_addRing 39 = .ok (.putfield 27, 3) := by decide +kernel
theorem dX2_addRing_42 : decode cX2_addRing 42 = .ok (.return_, 1) := by decide +kernel
theorem dX2_addRamp_0 : decode cX2_addRamp 0 = .ok (.aload_n 0, 1) := by decide +kernel
theorem dX2_addRamp_1 : decode cX2_addRamp 1 = .ok (.getfield 24, 3) := by decide +kernel
theorem dX2_addRamp_4 : decode cX2_addRamp 4 = .ok (.aload_n 0, 1) := by decide +kernel
theorem dX2_addRamp_5 : decode cX2_addRamp 5 = .ok (.getfield 34, 3) := by decide +kernel
theorem dX2_addRamp_8 : decode cX2_addRamp 8 = .ok (.iconst 2, 1) := by decide +kernel
theorem dX2_addRamp_9 : decode cX2_addRamp 9 = .ok (.imul, 1) := by decide +kernel
theorem dX2_addRamp_10 : decode cX2_addRamp 10 = .ok (.iconst 0, 1) := by decide +kernel
theorem dX2_addRamp_11 : decode cX2_addRamp 11 = .ok (.iadd, 1) := by decide +kernel
theorem dX2_addRamp_12 : decode cX2_addRamp 12 = .ok (.iload_n 1, 1) := by decide +kernel
theorem dX2_addRamp_13 : decode cX2_addRamp 13 = .ok (.invokestatic 75, 3) := by decide +kernel
theorem dX2_addRamp_16 : decode cX2_addRamp 16 = .ok (.aload_n 0, 1) := by decide +kernel
theorem dX2_addRamp_17 : decode cX2_addRamp 17 = .ok (.getfield 24, 3) := by decide +kernel
theorem dX2_addRamp_20 : decode cX2_addRamp 20 = .ok (.aload_n 0, 1) := by decide +kernel
theorem dX2_addRamp_21 : decode cX2_addRamp 21 = .ok (.getfield 34, 3) := by decide +kernel
theorem dX2_addRamp_24 : decode cX2_addRamp 24 = .ok (.iconst 2, 1) := by decide +kernel
theorem dX2_addRamp_25 : decode cX2_addRamp 25 = .ok (.imul, 1) := by decide +kernel
theorem dX2_addRamp_26 : decode cX2_addRamp 26 = .ok (.iconst 1, 1) := by decide +kernel
theorem dX2_addRamp_27 : decode cX2_addRamp 27 = .ok (.iadd, 1) := by decide +kernel
theorem dX2_addRamp_28 : decode cX2_addRamp 28 = .ok (.iload_n 2, 1) := by decide +kernel
theorem dX2_addRamp_29 : decode cX2_addRamp 29 = .ok (.invokestatic 75, 3) := by decide +kernel
theorem dX2_addRamp_32 : decode cX2_addRamp 32 = .ok (.aload_n 0, 1) := by decide +kernel
theorem dX2_addRamp_33 : decode cX2_addRamp 33 = .ok (.dup, 1) := by decide +kernel
theorem dX2_addRamp_34 : decode cX2_addRamp 34 = .ok (.getfield 34, 3) := by decide +kernel
theorem dX2_addRamp_37 : decode cX2_addRamp 37 = .ok (.iconst 1, 1) := by decide +kernel
theorem dX2_addRamp_38 : decode cX2_addRamp 38 = .ok (.iadd, 1) := by decide +kernel
theorem dX2_addRamp_39 : decode cX2_addRamp 39 = .ok (.putfield 34, 3) := by decide +kernel
theorem dX2_addRamp_42 : decode cX2_addRamp 42 = .ok (.return_, 1) := by decide +kernel
theorem dX2_hoursUnder_0 : decode cX2_hoursUnder 0 = .ok (.iconst 0, 1) := by decide +kernel
theorem dX2_hoursUnder_1 : decode cX2_hoursUnder 1 = .ok (.istore_n 1, 1) := by decide +kernel
theorem dX2_hoursUnder_2 : decode cX2_hoursUnder 2 = .ok (.iconst 0, 1) := by decide +kernel
theorem dX2_hoursUnder_3 : decode cX2_hoursUnder 3 = .ok (.istore_n 2, 1) := by decide +kernel
theorem dX2_hoursUnder_4 : decode cX2_hoursUnder 4 = .ok (.iload_n 2, 1) := by decide +kernel
theorem dX2_hoursUnder_5 : decode cX2_hoursUnder 5 = .ok (.aload_n 0, 1) := by decide +kernel
theorem dX2_hoursUnder_6 : decode cX2_hoursUnder 6 = .ok (.getfield 9, 3) := by decide +kernel
theorem dX2_hoursUnder_9 : decode cX2_hoursUnder 9 = .ok (.arraylength, 1) := by decide +kernel
theorem dX2_hoursUnder_10 : decode cX2_hoursUnder 10 = .ok (.if_icmp .ge 33, 3) := by decide +kernel
theorem dX2_hoursUnder_13 : decode cX2_hoursUnder 13 = .ok (.aload_n 0, 1) := by decide +kernel
theorem dX2_hoursUnder_14 : decode cX2_hoursUnder 14 = .ok (.getfield 9, 3) := by decide +kernel
theorem dX2_hoursUnder_17 : decode cX2_hoursUnder 17 = .ok (.iload_n 2, 1) := by decide +kernel
theorem dX2_hoursUnder_18 : decode cX2_hoursUnder 18 = .ok (.iaload, 1) := by decide +kernel
theorem dX2_hoursUnder_19 : decode cX2_hoursUnder 19 = .ok (.aload_n 0, 1) := by decide +kernel
theorem dX2_hoursUnder_20 : decode cX2_hoursUnder 20 = .ok (.getfield 40, 3) := by decide +kernel
theorem dX2_hoursUnder_23 : decode cX2_hoursUnder 23 = .ok (.iadd, 1) := by decide +kernel
theorem dX2_hoursUnder_24 : decode cX2_hoursUnder 24 = .ok (.aload_n 0, 1) := by decide +kernel
theorem dX2_hoursUnder_25 : decode cX2_hoursUnder 25 = .ok (.getfield 37, 3) := by decide +kernel
theorem dX2_hoursUnder_28 : decode cX2_hoursUnder 28 = .ok (.if_icmp .le 9, 3) := by decide +kernel
theorem dX2_hoursUnder_31 : decode cX2_hoursUnder 31 = .ok (.iload_n 1, 1) := by decide +kernel
theorem dX2_hoursUnder_32 : decode cX2_hoursUnder 32 = .ok (.iconst 1, 1) := by decide +kernel
theorem dX2_hoursUnder_33 : decode cX2_hoursUnder 33 = .ok (.iload_n 2, 1) := by decide +kernel
theorem dX2_hoursUnder_34 : decode cX2_hoursUnder 34 = .ok (.ishl, 1) := by decide +kernel
theorem dX2_hoursUnder_35 : decode cX2_hoursUnder 35 = .ok (.ior, 1) := by decide +kernel
theorem dX2_hoursUnder_36 : decode cX2_hoursUnder 36 = .ok (.istore_n 1, 1) := by decide +kernel
theorem dX2_hoursUnder_37 : decode cX2_hoursUnder 37 = .ok (.iinc 2 1, 3) := by decide +kernel
theorem dX2_hoursUnder_40 : decode cX2_hoursUnder 40 = .ok (.goto (-36), 3) := by decide +kernel
theorem dX2_hoursUnder_43 : decode cX2_hoursUnder 43 = .ok (.iload_n 1, 1) := by decide +kernel
theorem dX2_hoursUnder_44 : decode cX2_hoursUnder 44 = .ok (.ireturn, 1) := by decide +kernel
theorem dX2_firstHourWith_0 : decode cX2_firstHourWith 0 = .ok (.iconst 0, 1) := by decide +kernel
theorem dX2_firstHourWith_1 : decode cX2_firstHourWith 1 = .ok (.istore_n 3, 1) := by decide +kernel
theorem dX2_firstHourWith_2 : decode cX2_firstHourWith 2 = .ok (.iload_n 3, 1) := by decide +kernel
theorem dX2_firstHourWith_3 : decode cX2_firstHourWith 3 = .ok (.bipush 12, 2) := by decide +kernel
theorem dX2_firstHourWith_5 : decode cX2_firstHourWith 5 = .ok (.if_icmp .ge 32, 3) := by decide +kernel
theorem dX2_firstHourWith_8 : decode cX2_firstHourWith 8 = .ok (.iload_n 2, 1) := by decide +kernel
theorem dX2_firstHourWith_9 : decode cX2_firstHourWith 9 = .ok (.iload_n 3, 1) := by decide +kernel
theorem dX2_firstHourWith_10 : decode cX2_firstHourWith 10 = .ok (.iadd, 1) := by decide +kernel
theorem dX2_firstHourWith_11 : decode cX2_firstHourWith 11 = .ok (.bipush 12, 2) := by decide +kernel
theorem dX2_firstHourWith_13 : decode cX2_firstHourWith 13 = .ok (.invokestatic 79, 3) := by decide +kernel
theorem dX2_firstHourWith_16 : decode cX2_firstHourWith 16 = .ok (.istore 4, 2) := by decide +kernel
theorem dX2_firstHourWith_18 : decode cX2_firstHourWith 18 = .ok (.aload_n 0, 1) := by decide +kernel
theorem dX2_firstHourWith_19 : decode cX2_firstHourWith 19 = .ok (.iload 4, 2) := by decide +kernel
theorem dX2_firstHourWith_21 : decode cX2_firstHourWith 21 = .ok (.invokevirtual 82, 3) := by decide +kernel
theorem dX2_firstHourWith_24 : decode cX2_firstHourWith 24 = .ok (.iload_n 1, 1) := by decide +kernel
theorem dX2_firstHourWith_25 : decode cX2_firstHourWith 25 = .ok (.if_icmp .lt 6, 3) := by decide +kernel
theorem dX2_firstHourWith_28 : decode cX2_firstHourWith 28 = .ok (.iload 4, 2) := by decide +kernel
theorem dX2_firstHourWith_30 : decode cX2_firstHourWith 30 = .ok (.ireturn, 1) := by decide +kernel
theorem dX2_firstHourWith_31 : decode cX2_firstHourWith 31 = .ok (.iinc 3 1, 3) := by decide +kernel
theorem dX2_firstHourWith_34 : decode cX2_firstHourWith 34 = .ok (.goto (-32), 3) := by decide +kernel
theorem dX2_firstHourWith_37 : decode cX2_firstHourWith 37 = .ok (.bipush (-9), 2) := by decide +kernel
theorem dX2_firstHourWith_39 : decode cX2_firstHourWith 39 = .ok (.ireturn, 1) := by decide +kernel
theorem dX2_tideOn_0 : decode cX2_tideOn 0 = .ok (.aload_n 0, 1) := by decide +kernel
theorem dX2_tideOn_1 : decode cX2_tideOn 1 = .ok (.iload_n 1, 1) := by decide +kernel
theorem dX2_tideOn_2 : decode cX2_tideOn 2 = .ok (.invokevirtual 82, 3) := by decide +kernel
theorem dX2_tideOn_5 : decode cX2_tideOn 5 = .ok (.istore_n 3, 1) := by decide +kernel
theorem dX2_tideOn_6 : decode cX2_tideOn 6 = .ok (.aload_n 0, 1) := by decide +kernel
theorem dX2_tideOn_7 : decode cX2_tideOn 7 = .ok (.getfield 46, 3) := by decide +kernel
theorem dX2_tideOn_10 : decode cX2_tideOn 10 = .ok (.iload_n 2, 1) := by decide +kernel
theorem dX2_tideOn_11 : decode cX2_tideOn 11 = .ok (.bipush 7, 2) := by decide +kernel
theorem dX2_tideOn_13 : decode cX2_tideOn 13 = .ok (.isub, 1) := by decide +kernel
theorem dX2_tideOn_14 : decode cX2_tideOn 14 = .ok (.invokestatic 86, 3) := by decide +kernel
theorem dX2_tideOn_17 : decode cX2_tideOn 17 = .ok (.imul, 1) := by decide +kernel
theorem dX2_tideOn_18 : decode cX2_tideOn 18 = .ok (.bipush 7, 2) := by decide +kernel
theorem dX2_tideOn_20 : decode cX2_tideOn 20 = .ok (.idiv, 1) := by decide +kernel
theorem dX2_tideOn_21 : decode cX2_tideOn 21 = .ok (.istore 4, 2) := by decide +kernel
theorem dX2_tideOn_23 : decode cX2_tideOn 23 = .ok (.iload_n 3, 1) := by decide +kernel
theorem dX2_tideOn_24 : decode cX2_tideOn 24 = .ok (.bipush 20, 2) := by decide +kernel
theorem dX2_tideOn_26 : decode cX2_tideOn 26 = .ok (.if_icmp .le 13, 3) := by decide +kernel
theorem dX2_tideOn_29 : decode cX2_tideOn 29 = .ok (.bipush 40, 2) := by decide +kernel
theorem dX2_tideOn_31 : decode cX2_tideOn 31 = .ok (.iload_n 3, 1) := by decide +kernel
theorem dX2_tideOn_32 : decode cX2_tideOn 32 = .ok (.iload 4, 2) := by decide +kernel
theorem dX2_tideOn_34 : decode cX2_tideOn 34 = .ok (.iadd, 1) := by decide +kernel
theorem dX2_tideOn_35 : decode cX2_tideOn 35 = .ok (.invokestatic 59, 3) := by decide +kernel
theorem dX2_tideOn_38 : decode cX2_tideOn 38 = .ok (.ireturn, 1) := by decide +kernel
theorem dX2_tideOn_39 : decode cX2_tideOn 39 = .ok (.iload_n 3, 1) := by decide +kernel
theorem dX2_tideOn_40 : decode cX2_tideOn 40 = .ok (.bipush 20, 2) := by decide +kernel
theorem dX2_tideOn_42 : decode cX2_tideOn 42 = .ok (.if_icmp .ge 14, 3) := by decide +kernel
theorem dX2_tideOn_45 : decode cX2_tideOn 45 = .ok (.iconst 0, 1) := by decide +kernel
theorem dX2_tideOn_46 : decode cX2_tideOn 46 = .ok (.iload_n 3, 1) := by decide +kernel
theorem dX2_tideOn_47 : decode cX2_tideOn 47 = .ok (.iload 4, 2) := by decide +kernel
theorem dX2_tideOn_49 : decode cX2_tideOn 49 = .ok (.isub, 1) := by decide +kernel
theorem dX2_tideOn_50 : decode cX2_tideOn 50 = .ok (.invokestatic 89, 3) := by decide +kernel
theorem dX2_tideOn_53 : decode cX2_tideOn 53 = .ok (.goto 4, 3) := by decide +kernel
theorem dX2_tideOn_56 : decode cX2_tideOn 56 = .ok (.iload_n 3, 1) := by decide +kernel
theorem dX2_tideOn_57 : decode cX2_tideOn 57 = .ok (.ireturn, 1) := by decide +kernel
theorem dX2_slopeOf_0 : decode cX2_slopeOf 0 = .ok (.iload_n 2, 1) := by decide +kernel
theorem dX2_slopeOf_1 : decode cX2_slopeOf 1 = .ok (.iconst 1, 1) := by decide +kernel
theorem dX2_slopeOf_2 : decode cX2_slopeOf 2 = .ok (.if_icmp .ge 7, 3) := by decide +kernel
theorem dX2_slopeOf_5 : decode cX2_slopeOf 5 = .ok (.iconst 0, 1) := by decide +kernel
theorem dX2_slopeOf_6 : decode cX2_slopeOf 6 = .ok (.goto 18, 3) := by decide +kernel
theorem dX2_slopeOf_9 : decode cX2_slopeOf 9 = .ok (.bipush 100, 2) := by decide +kernel
theorem dX2_slopeOf_11 : decode cX2_slopeOf 11 = .ok (.aload_n 0, 1) := by decide +kernel
theorem dX2_slopeOf_12 : decode cX2_slopeOf 12 = .ok (.iload_n 3, 1) := by decide +kernel
theorem dX2_slopeOf_13 : decode cX2_slopeOf 13 = .ok (.invokevirtual 82, 3) := by decide +kernel
theorem dX2_slopeOf_16 : decode cX2_slopeOf 16 = .ok (.iload_n 1, 1) := by decide +kernel
theorem dX2_slopeOf_17 : decode cX2_slopeOf 17 = .ok (.isub, 1) := by decide +kernel
theorem dX2_slopeOf_18 : decode cX2_slopeOf 18 = .ok (.invokestatic 86, 3) := by decide +kernel
theorem dX2_slopeOf_21 : decode cX2_slopeOf 21 = .ok (.imul, 1) := by decide +kernel
theorem dX2_slopeOf_22 : decode cX2_slopeOf 22 = .ok (.iload_n 2, 1) := by decide +kernel
theorem dX2_slopeOf_23 : decode cX2_slopeOf 23 = .ok (.idiv, 1) := by decide +kernel
theorem dX2_slopeOf_24 : decode cX2_slopeOf 24 = .ok (.ireturn, 1) := by decide +kernel
theorem dX2_hoursOpen_0 : decode cX2_hoursOpen 0 = .ok (.iconst 0, 1) := by decide +kernel
theorem dX2_hoursOpen_1 : decode cX2_hoursOpen 1 = .ok (.istore 4, 2) := by decide +kernel
theorem dX2_hoursOpen_3 : decode cX2_hoursOpen 3 = .ok (.iconst 0, 1) := by decide +kernel
theorem dX2_hoursOpen_4 : decode cX2_hoursOpen 4 = .ok (.istore 5, 2) := by decide +kernel
theorem dX2_hoursOpen_6 : decode cX2_hoursOpen 6 = .ok (.iload 5, 2) := by decide +kernel
theorem dX2_hoursOpen_8 : decode cX2_hoursOpen 8 = .ok (.bipush 12, 2) := by decide +kernel
theorem dX2_hoursOpen_10 : decode cX2_hoursOpen 10 = .ok (.if_icmp .ge 30, 3) := by decide +kernel
theorem dX2_hoursOpen_13 : decode cX2_hoursOpen 13 = .ok (.aload_n 0, 1) := by decide +kernel
theorem dX2_hoursOpen_14 : decode cX2_hoursOpen 14 = .ok (.iload_n 1, 1) := by decide +kernel
theorem dX2_hoursOpen_15 : decode cX2_hoursOpen 15 = .ok (.iload_n 2, 1) := by decide +kernel
theorem dX2_hoursOpen_16 : decode cX2_hoursOpen 16 = .ok (.iload 5, 2) := by decide +kernel
theorem dX2_hoursOpen_18 : decode cX2_hoursOpen 18 = .ok (.invokevirtual 92, 3) := by decide +kernel
theorem dX2_hoursOpen_21 : decode cX2_hoursOpen 21 = .ok (.iload_n 3, 1) := by decide +kernel
theorem dX2_hoursOpen_22 : decode cX2_hoursOpen 22 = .ok (.if_icmp .gt 12, 3) := by decide +kernel
theorem dX2_hoursOpen_25 : decode cX2_hoursOpen 25 = .ok (.iload 4, 2) := by decide +kernel
theorem dX2_hoursOpen_27 : decode cX2_hoursOpen 27 = .ok (.iconst 1, 1) := by decide +kernel
theorem dX2_hoursOpen_28 : decode cX2_hoursOpen 28 = .ok (.iload 5, 2) := by decide +kernel
theorem dX2_hoursOpen_30 : decode cX2_hoursOpen 30 = .ok (.ishl, 1) := by decide +kernel
theorem dX2_hoursOpen_31 : decode cX2_hoursOpen 31 = .ok (.ior, 1) := by decide +kernel
theorem dX2_hoursOpen_32 : decode cX2_hoursOpen 32 = .ok (.istore 4, 2) := by decide +kernel
theorem dX2_hoursOpen_34 : decode cX2_hoursOpen 34 = .ok (.iinc 5 1, 3) := by decide +kernel
theorem dX2_hoursOpen_37 : decode cX2_hoursOpen 37 = .ok (.goto (-31), 3) := by decide +kernel
theorem dX2_hoursOpen_40 : decode cX2_hoursOpen 40 = .ok (.iload 4, 2) := by decide +kernel
theorem dX2_hoursOpen_42 : decode cX2_hoursOpen 42 = .ok (.ireturn, 1) := by decide +kernel
theorem dX3_init_0 : decode cX3_init 0 = .ok (.aload_n 0, 1) := by decide +kernel
theorem dX3_init_1 : decode cX3_init 1 = .ok (.invokespecial 3, 3) := by decide +kernel
theorem dX3_init_4 : decode cX3_init 4 = .ok (.aload_n 0, 1) := by decide +kernel
theorem dX3_init_5 : decode cX3_init 5 = .ok (.bipush 96, 2) := by decide +kernel
theorem dX3_init_7 : decode cX3_init 7 = .ok (.newarray .int, 2) := by decide +kernel
theorem dX3_init_9 : decode cX3_init 9 = .ok (.putfield 9, 3) := by decide +kernel
theorem dX3_init_12 : decode cX3_init 12 = .ok (.aload_n 0, 1) := by decide +kernel
theorem dX3_init_13 : decode cX3_init 13 = .ok (.iconst 0, 1) := by decide +kernel
theorem dX3_init_14 : decode cX3_init 14 = .ok (.putfield 15, 3) := by decide +kernel
theorem dX3_init_17 : decode cX3_init 17 = .ok (.return_, 1) := by decide +kernel
theorem dX3_append_0 : decode cX3_append 0 = .ok (.aload_n 0, 1) := by decide +kernel
theorem dX3_append_1 : decode cX3_append 1 = .ok (.getfield 15, 3) := by decide +kernel
theorem dX3_append_4 : decode cX3_append 4 = .ok (.ifCond .lt 35, 3) := by decide +kernel
theorem dX3_append_7 : decode cX3_append 7 = .ok (.aload_n 0, 1) := by decide +kernel
theorem dX3_append_8 : decode cX3_append 8 = .ok (.getfield 15, 3) := by decide +kernel
theorem dX3_append_11 : decode cX3_append 11 = .ok (.aload_n 0, 1) := by decide +kernel
theorem dX3_append_12 : decode cX3_append 12 = .ok (.getfield 9, 3) := by decide +kernel
theorem dX3_append_15 : decode cX3_append 15 = .ok (.arraylength, 1) := by decide +kernel
theorem dX3_append_16 : decode cX3_append 16 = .ok (.if_icmp .ge 23, 3) := by decide +kernel
theorem dX3_append_19 : decode cX3_append 19 = .ok (.aload_n 0, 1) := by decide +kernel
theorem dX3_append_20 : decode cX3_append 20 = .ok (.getfield 9, 3) := by decide +kernel
theorem dX3_append_23 : decode cX3_append 23 = .ok (.aload_n 0, 1) := by decide +kernel
theorem dX3_append_24 : decode cX3_append 24 = .ok (.getfield 15, 3) := by decide +kernel
theorem dX3_append_27 : decode cX3_append 27 = .ok (.iload_n 1, 1) := by decide +kernel
theorem dX3_append_28 : decode cX3_append 28 = .ok (.iastore, 1) := by decide +kernel
theorem dX3_append_29 : decode cX3_append 29 = .ok (.aload_n 0, 1) := by decide +kernel
theorem dX3_append_30 : decode cX3_append 30 = .ok (.dup, 1) := by decide +kernel
theorem dX3_append_31 : decode cX3_append 31 = .ok (.getfield 15, 3) := by decide +kernel
theorem dX3_append_34 : decode cX3_append 34 = .ok (.iconst 1, 1) := by decide +kernel
theorem dX3_append_35 : decode cX3_append 35 = .ok (.iadd, 1) := by decide +kernel
theorem dX3_append_36 : decode cX3_append 36 = .ok (.putfield 15, 3) := by decide +kernel
theorem dX3_append_39 : decode cX3_append 39 = .ok (.return_, 1) := by decide +kernel
theorem dX3_letterAt_0 : decode cX3_letterAt 0 = .ok (.iload_n 1, 1) := by decide +kernel
theorem dX3_letterAt_1 : decode cX3_letterAt 1 = .ok (.ifCond .lt 29, 3) := by decide +kernel
theorem dX3_letterAt_4 : decode cX3_letterAt 4 = .ok (.iload_n 1, 1) := by decide +kernel
theorem dX3_letterAt_5 : decode cX3_letterAt 5 = .ok (.aload_n 0, 1) := by decide +kernel
theorem dX3_letterAt_6 : decode cX3_letterAt 6 = .ok (.getfield 15, 3) := by decide +kernel
theorem dX3_letterAt_9 : decode cX3_letterAt 9 = .ok (.if_icmp .ge 21, 3) := by decide +kernel
theorem dX3_letterAt_12 : decode cX3_letterAt 12 = .ok (.iload_n 1, 1) := by decide +kernel
theorem dX3_letterAt_13 : decode cX3_letterAt 13 = .ok (.aload_n 0, 1) := by decide +kernel
theorem dX3_letterAt_14 : decode cX3_letterAt 14 = .ok (.getfield 9, 3) := by decide +kernel
theorem dX3_letterAt_17 : decode cX3_letterAt 17 = .ok (.arraylength, 1) := by decide +kernel
theorem dX3_letterAt_18 : decode cX3_letterAt 18 = .ok (.if_icmp .ge 12, 3) := by decide +kernel
theorem dX3_letterAt_21 : decode cX3_letterAt 21 = .ok (.aload_n 0, 1) := by decide +kernel
theorem dX3_letterAt_22 : decode cX3_letterAt 22 = .ok (.getfield 9, 3) := by decide +kernel
theorem dX3_letterAt_25 : decode cX3_letterAt 25 = .ok (.iload_n 1, 1) := by decide +kernel
theorem dX3_letterAt_26 : decode cX3_letterAt 26 = .ok (.iaload, 1) := by decide +kernel
theorem dX3_letterAt_27 : decode cX3_letterAt 27 = .ok (.goto 4, 3) := by decide +kernel
theorem dX3_letterAt_30 : decode cX3_letterAt 30 = .ok (.iconst 0, 1) := by decide +kernel
theorem dX3_letterAt_31 : decode cX3_letterAt 31 = .ok (.ireturn, 1) := by decide +kernel
theorem dX3_shapeOf_0 : decode cX3_shapeOf 0 = .ok (.iload_n 0, 1) := by decide +kernel
theorem dX3_shapeOf_1 : decode cX3_shapeOf 1 = .ok (.lookupswitch 74 #[(98, 65), (101, 71), (108, 68), (114, 59), (116, 59), (119, 62)], 59) := by decide +kernel
theorem dX3_shapeOf_60 : decode cX3_shapeOf 60 = .ok (.ldc 19, 2) := by decide +kernel
theorem dX3_shapeOf_62 : decode cX3_shapeOf 62 = .ok (.areturn, 1) := by decide +kernel
theorem dX3_shapeOf_63 : decode cX3_shapeOf 63 = .ok (.ldc 21, 2) := by decide +kernel
theorem dX3_shapeOf_65 : decode cX3_shapeOf 65 = .ok (.areturn, 1) := by decide +kernel
theorem dX3_shapeOf_66 : decode cX3_shapeOf 66 = .ok (.ldc 23, 2) := by decide +kernel
theorem dX3_shapeOf_68 : decode cX3_shapeOf 68 = .ok (.areturn, 1) := by decide +kernel
theorem dX3_shapeOf_69 : decode cX3_shapeOf 69 = .ok (.ldc 25, 2) := by decide +kernel
theorem dX3_shapeOf_71 : decode cX3_shapeOf 71 = .ok (.areturn, 1) := by decide +kernel
theorem dX3_shapeOf_72 : decode cX3_shapeOf 72 = .ok (.ldc 27, 2) := by decide +kernel
theorem dX3_shapeOf_74 : decode cX3_shapeOf 74 = .ok (.areturn, 1) := by decide +kernel
theorem dX3_shapeOf_75 : decode cX3_shapeOf 75 = .ok (.ldc 29, 2) := by decide +kernel
theorem dX3_shapeOf_77 : decode cX3_shapeOf 77 = .ok (.areturn, 1) := by decide +kernel
theorem dX3_fits_0 : decode cX3_fits 0 = .ok (.iload_n 1, 1) := by decide +kernel
theorem dX3_fits_1 : decode cX3_fits 1 = .ok (.ifCond .lt 11, 3) := by decide +kernel
theorem dX3_fits_4 : decode cX3_fits 4 = .ok (.iload_n 1, 1) := by decide +kernel
theorem dX3_fits_5 : decode cX3_fits 5 = .ok (.aload_n 0, 1) := by decide +kernel
theorem dX3_fits_6 : decode cX3_fits 6 = .ok (.invokevirtual 31, 3) := by decide +kernel
theorem dX3_fits_9 : decode cX3_fits 9 = .ok (.if_icmp .lt 5, 3) := by decide +kernel
theorem dX3_fits_12 : decode cX3_fits 12 = .ok (.iconst 0, 1) := by decide +kernel
theorem dX3_fits_13 : decode cX3_fits 13 = .ok (.ireturn, 1) := by decide +kernel
theorem dX3_fits_14 : decode cX3_fits 14 = .ok (.aload_n 0, 1) := by decide +kernel
theorem dX3_fits_15 : decode cX3_fits 15 = .ok (.iload_n 1, 1) := by decide +kernel
theorem dX3_fits_16 : decode cX3_fits 16 = .ok (.invokevirtual 37, 3) := by decide +kernel
theorem dX3_fits_19 : decode cX3_fits 19 = .ok (.istore_n 3, 1) := by decide +kernel
theorem dX3_fits_20 : decode cX3_fits 20 = .ok (.iload_n 3, 1) := by decide +kernel
theorem dX3_fits_21 : decode cX3_fits 21 = .ok (.bipush 35, 2) := by decide +kernel
theorem dX3_fits_23 : decode cX3_fits 23 = .ok (.if_icmp .ne 21, 3) := by decide +kernel
theorem dX3_fits_26 : decode cX3_fits 26 = .ok (.iload_n 2, 1) := by decide +kernel
theorem dX3_fits_27 : decode cX3_fits 27 = .ok (.bipush 48, 2) := by decide +kernel
theorem dX3_fits_29 : decode cX3_fits 29 = .ok (.if_icmp .lt 13, 3) := by decide +kernel
theorem dX3_fits_32 : decode cX3_fits 32 = .ok (.iload_n 2, 1) := by decide +kernel
theorem dX3_fits_33 : decode cX3_fits 33 = .ok (.bipush 57, 2) := by decide +kernel
theorem dX3_fits_35 : decode cX3_fits 35 = .ok (.if_icmp .gt 7, 3) := by decide +kernel
theorem dX3_fits_38 : decode cX3_fits 38 = .ok (.iconst 1, 1) := by decide +kernel
theorem dX3_fits_39 : decode cX3_fits 39 = .ok (.goto 4, 3) := by decide +kernel
theorem dX3_fits_42 : decode cX3_fits 42 = .ok (.iconst 0, 1) := by decide +kernel
theorem dX3_fits_43 : decode cX3_fits 43 = .ok (.ireturn, 1) := by decide +kernel
theorem dX3_fits_44 : decode cX3_fits 44 = .ok (.iload_n 3, 1) := by decide +kernel
theorem dX3_fits_45 : decode cX3_fits 45 = .ok (.bipush 43, 2) := by decide +kernel
theorem dX3_fits_47 : decode cX3_fits 47 = .ok (.if_icmp .ne 23, 3) := by decide +kernel
theorem dX3_fits_50 : decode cX3_fits 50 = .ok (.iload_n 2, 1) := by decide +kernel
theorem dX3_fits_51 : decode cX3_fits 51 = .ok (.bipush 43, 2) := by decide +kernel
theorem dX3_fits_53 : decode cX3_fits 53 = .ok (.if_icmp .eq 9, 3) := by decide +kernel
theorem dX3_fits_56 : decode cX3_fits 56 = .ok (.iload_n 2, 1) := by decide +kernel
theorem dX3_fits_57 : decode cX3_fits 57 = .ok (.bipush 45, 2) := by decide +kernel
theorem dX3_fits_59 : decode cX3_fits 59 = .ok (.if_icmp .ne 7, 3) := by decide +kernel
theorem dX3_fits_62 : decode cX3_fits 62 = .ok (.iconst 1, 1) := by decide +kernel
theorem dX3_fits_63 : decode cX3_fits 63 = .ok (.goto 17, 3) := by decide +kernel
theorem dX3_fits_66 : decode cX3_fits 66 = .ok (.iconst 0, 1) := by decide +kernel
theorem dX3_fits_67 : decode cX3_fits 67 = .ok (.goto 13, 3) := by decide +kernel
theorem dX3_fits_70 : decode cX3_fits 70 = .ok (.iload_n 2, 1) := by decide +kernel
theorem dX3_fits_71 : decode cX3_fits 71 = .ok (.iload_n 3, 1) := by decide +kernel
theorem dX3_fits_72 : decode cX3_fits 72 = .ok (.if_icmp .ne 7, 3) := by decide +kernel
theorem dX3_fits_75 : decode cX3_fits 75 = .ok (.iconst 1, 1) := by decide +kernel
theorem dX3_fits_76 : decode cX3_fits 76 = .ok (.goto 4, 3) := by decide +kernel
theorem dX3_fits_79 : decode cX3_fits 79 = .ok (.iconst 0, 1) := by decide +kernel
theorem dX3_fits_80 : decode cX3_fits 80 = .ok (.ireturn, 1) := by decide +kernel
theorem dX3_strangePlace_0 : decode cX3_strangePlace 0 = .ok (.iconst 0, 1) := by decide +kernel
theorem dX3_strangePlace_1 : decode cX3_strangePlace 1 = .ok (.istore_n 1, 1) := by decide +kernel
theorem dX3_strangePlace_2 : decode cX3_strangePlace 2 = .ok (.iconst 0, 1) := by decide +kernel
theorem dX3_strangePlace_3 : decode cX3_strangePlace 3 = .ok (.istore_n 2, 1) := by decide +kernel
theorem dX3_strangePlace_4 : decode cX3_strangePlace 4 = .ok (.iload_n 2, 1) := by decide +kernel
theorem dX3_strangePlace_5 : decode cX3_strangePlace 5 = .ok (.aload_n 0, 1) := by decide +kernel
theorem dX3_strangePlace_6 : decode cX3_strangePlace 6 = .ok (.getfield 15, 3) := by decide +kernel
theorem dX3_strangePlace_9 : decode cX3_strangePlace 9 = .ok (.if_icmp .ge 75, 3) := by decide +kernel
theorem dX3_strangePlace_12 : decode cX3_strangePlace 12 = .ok (.aload_n 0, 1) := by decide +kernel
theorem dX3_strangePlace_13 : decode cX3_strangePlace 13 = .ok (.iload_n 1, 1) := by decide +kernel
theorem dX3_strangePlace_14 : decode cX3_strangePlace 14 = .ok (.invokevirtual 41, 3) := by decide +kernel
theorem dX3_strangePlace_17 : decode cX3_strangePlace 17 = .ok (.invokestatic 45, 3) := by decide +kernel
theorem dX3_strangePlace_20 : decode cX3_strangePlace 20 = .ok (.astore_n 3, 1) := by decide +kernel
theorem dX3_strangePlace_21 : decode cX3_strangePlace 21 = .ok (.iload_n 2, 1) := by decide +kernel
theorem dX3_strangePlace_22 : decode cX3_strangePlace 22 = .ok (.iload_n 1, 1) := by decide +kernel
theorem dX3_strangePlace_23 : decode cX3_strangePlace 23 = .ok (.if_icmp .ne 18, 3) := by decide +kernel
theorem dX3_strangePlace_26 : decode cX3_strangePlace 26 = .ok (.aload_n 3, 1) := by decide +kernel
theorem dX3_strangePlace_27 : decode cX3_strangePlace 27 = .ok (.invokevirtual 49, 3) := by decide +kernel
theorem dX3_strangePlace_30 : decode cX3_strangePlace 30 = .ok (.ifCond .ne 7, 3) := by decide +kernel
theorem dX3_strangePlace_33 : decode cX3_strangePlace 33 = .ok (.iconst 1, 1) := by decide +kernel
theorem dX3_strangePlace_34 : decode cX3_strangePlace 34 = .ok (.goto 21, 3) := by decide +kernel
theorem dX3_strangePlace_37 : decode cX3_strangePlace 37 = .ok (.iconst 0, 1) := by decide +kernel
theorem dX3_strangePlace_38 : decode cX3_strangePlace 38 = .ok (.goto 17, 3) := by decide +kernel
theorem dX3_strangePlace_41 : decode cX3_strangePlace 41 = .ok (.aload_n 3, 1) := by decide +kernel
theorem dX3_strangePlace_42 : decode cX3_strangePlace 42 = .ok (.iload_n 2, 1) := by decide +kernel
theorem dX3_strangePlace_43 : decode cX3_strangePlace 43 = .ok (.iload_n 1, 1) := by decide +kernel
theorem dX3_strangePlace_44 : decode cX3_strangePlace 44 = .ok (.isub, 1) := by decide +kernel
theorem dX3_strangePlace_45 : decode cX3_strangePlace 45 = .ok (.iconst 1, 1) := by decide +kernel
theorem dX3_strangePlace_46 : decode cX3_strangePlace 46 = .ok (.isub, 1) := by decide +kernel
theorem dX3_strangePlace_47 : decode cX3_strangePlace 47 = .ok (.aload_n 0, 1) := by decide +kernel
theorem dX3_strangePlace_48 : decode cX3_strangePlace 48 = .ok (.iload_n 2, 1) := by decide +kernel
theorem dX3_strangePlace_49 : decode cX3_strangePlace 49 = .ok (.invokevirtual 41, 3) := by decide +kernel
theorem dX3_strangePlace_52 : decode cX3_strangePlace 52 = .ok (.invokestatic 53, 3) := by decide +kernel
theorem dX3_strangePlace_55 : decode cX3_strangePlace 55 = .ok (.istore 4, 2) := by decide +kernel
theorem dX3_strangePlace_57 : decode cX3_strangePlace 57 = .ok (.iload 4, 2) := by decide +kernel
theorem dX3_strangePlace_59 : decode cX3_strangePlace 59 = .ok (.ifCond .ne 5, 3) := by decide +kernel
theorem dX3_strangePlace_62 : decode cX3_strangePlace 62 = .ok (.iload_n 2, 1) := by decide +kernel
theorem dX3_strangePlace_63 : decode cX3_strangePlace 63 = .ok (.ireturn, 1) := by decide +kernel
theorem dX3_strangePlace_64 : decode cX3_strangePlace 64 = .ok (.iload_n 2, 1) := by decide +kernel
theorem dX3_strangePlace_65 : decode cX3_strangePlace 65 = .ok (.iload_n 1, 1) := by decide +kernel
theorem dX3_strangePlace_66 : decode cX3_strangePlace 66 = .ok (.isub, 1) := by decide +kernel
theorem dX3_strangePlace_67 : decode cX3_strangePlace 67 = .ok (.aload_n 3, 1) := by decide +kernel
theorem dX3_strangePlace_68 : decode cX3_strangePlace 68 = .ok (.invokevirtual 31, 3) := by decide +kernel
theorem dX3_strangePlace_71 : decode cX3_strangePlace 71 = .ok (.if_icmp .ne 7, 3) := by decide +kernel
theorem dX3_strangePlace_74 : decode cX3_strangePlace 74 = .ok (.iload_n 2, 1) := by decide +kernel
theorem dX3_strangePlace_75 : decode cX3_strangePlace 75 = .ok (.iconst 1, 1) := by decide +kernel
theorem dX3_strangePlace_76 : decode cX3_strangePlace 76 = .ok (.iadd, 1) := by decide +kernel
theorem dX3_strangePlace_77 : decode cX3_strangePlace 77 = .ok (.istore_n 1, 1) := by decide +kernel
theorem dX3_strangePlace_78 : decode cX3_strangePlace 78 = .ok (.iinc 2 1, 3) := by decide +kernel
theorem dX3_strangePlace_81 : decode cX3_strangePlace 81 = .ok (.goto (-77), 3) := by decide +kernel
theorem dX3_strangePlace_84 : decode cX3_strangePlace 84 = .ok (.aload_n 0, 1) := by decide +kernel
theorem dX3_strangePlace_85 : decode cX3_strangePlace 85 = .ok (.getfield 15, 3) := by decide +kernel
theorem dX3_strangePlace_88 : decode cX3_strangePlace 88 = .ok (.ifCond .eq 11, 3) := by decide +kernel
theorem dX3_strangePlace_91 : decode cX3_strangePlace 91 = .ok (.iload_n 1, 1) := by decide +kernel
theorem dX3_strangePlace_92 : decode cX3_strangePlace 92 = .ok (.aload_n 0, 1) := by decide +kernel
theorem dX3_strangePlace_93 : decode cX3_strangePlace 93 = .ok (.getfield 15, 3) := by decide +kernel
theorem dX3_strangePlace_96 : decode cX3_strangePlace 96 = .ok (.if_icmp .ge 10, 3) := by decide +kernel
theorem dX3_strangePlace_99 : decode cX3_strangePlace 99 = .ok (.aload_n 0, 1) := by decide +kernel
theorem dX3_strangePlace_100 : decode cX3_strangePlace 100 = .ok (.getfield 15, 3) := by decide +kernel
theorem dX3_strangePlace_103 : decode cX3_strangePlace 103 = .ok (.goto 5, 3) := by decide +kernel
theorem dX3_strangePlace_106 : decode cX3_strangePlace 106 = .ok (.bipush (-9), 2) := by decide +kernel
theorem dX3_strangePlace_108 : decode cX3_strangePlace 108 = .ok (.ireturn, 1) := by decide +kernel
theorem dX3_statementSize_0 : decode cX3_statementSize 0 = .ok (.iconst 1, 1) := by decide +kernel
theorem dX3_statementSize_1 : decode cX3_statementSize 1 = .ok (.aload_n 0, 1) := by decide +kernel
theorem dX3_statementSize_2 : decode cX3_statementSize 2 = .ok (.iload_n 1, 1) := by decide +kernel
theorem dX3_statementSize_3 : decode cX3_statementSize 3 = .ok (.invokevirtual 41, 3) := by decide +kernel
theorem dX3_statementSize_6 : decode cX3_statementSize 6 = .ok (.invokestatic 45, 3) := by decide +kernel
theorem dX3_statementSize_9 : decode cX3_statementSize 9 = .ok (.invokevirtual 31, 3) := by decide +kernel
theorem dX3_statementSize_12 : decode cX3_statementSize 12 = .ok (.iadd, 1) := by decide +kernel
theorem dX3_statementSize_13 : decode cX3_statementSize 13 = .ok (.ireturn, 1) := by decide +kernel
theorem dX3_numberAt_0 : decode cX3_numberAt 0 = .ok (.iconst 0, 1) := by decide +kernel
theorem dX3_numberAt_1 : decode cX3_numberAt 1 = .ok (.istore_n 3, 1) := by decide +kernel
theorem dX3_numberAt_2 : decode cX3_numberAt 2 = .ok (.iconst 0, 1) := by decide +kernel
theorem dX3_numberAt_3 : decode cX3_numberAt 3 = .ok (.istore 4, 2) := by decide +kernel
theorem dX3_numberAt_5 : decode cX3_numberAt 5 = .ok (.iload 4, 2) := by decide +kernel
theorem dX3_numberAt_7 : decode cX3_numberAt 7 = .ok (.iload_n 2, 1) := by decide +kernel
theorem dX3_numberAt_8 : decode cX3_numberAt 8 = .ok (.if_icmp .ge 26, 3) := by decide +kernel
theorem dX3_numberAt_11 : decode cX3_numberAt 11 = .ok (.iload_n 3, 1) := by decide +kernel
theorem dX3_numberAt_12 : decode cX3_numberAt 12 = .ok (.bipush 10, 2) := by decide +kernel
theorem dX3_numberAt_14 : decode cX3_numberAt 14 = .ok (.imul, 1) := by decide +kernel
theorem dX3_numberAt_15 : decode cX3_numberAt 15 = .ok (.aload_n 0, 1) := by decide +kernel
theorem dX3_numberAt_16 : decode cX3_numberAt 16 = .ok (.iload_n 1, 1) := by decide +kernel
theorem dX3_numberAt_17 : decode cX3_numberAt 17 = .ok (.iload 4, 2) := by decide +kernel
theorem dX3_numberAt_19 : decode cX3_numberAt 19 = .ok (.iadd, 1) := by decide +kernel
theorem dX3_numberAt_20 : decode cX3_numberAt 20 = .ok (.invokevirtual 41, 3) := by decide +kernel
theorem dX3_numberAt_23 : decode cX3_numberAt 23 = .ok (.iadd, 1) := by decide +kernel
theorem dX3_numberAt_24 : decode cX3_numberAt 24 = .ok (.bipush 48, 2) := by decide +kernel
theorem dX3_numberAt_26 : decode cX3_numberAt 26 = .ok (.isub, 1) := by decide +kernel
theorem dX3_numberAt_27 : decode cX3_numberAt 27 = .ok (.istore_n 3, 1) := by decide +kernel
theorem dX3_numberAt_28 : decode cX3_numberAt 28 = .ok (.iinc 4 1, 3) := by decide +kernel
theorem dX3_numberAt_31 : decode cX3_numberAt 31 = .ok (.goto (-26), 3) := by decide +kernel
theorem dX3_numberAt_34 : decode cX3_numberAt 34 = .ok (.iload_n 3, 1) := by decide +kernel
theorem dX3_numberAt_35 : decode cX3_numberAt 35 = .ok (.ireturn, 1) := by decide +kernel
theorem dX3_tellStatement_0 : decode cX3_tellStatement 0 = .ok (.aload_n 0, 1) := by decide +kernel
theorem dX3_tellStatement_1 : decode cX3_tellStatement 1 = .ok (.iload_n 1, 1) := by decide +kernel
theorem dX3_tellStatement_2 : decode cX3_tellStatement 2 = .ok (.invokevirtual 41, 3) := by decide +kernel
theorem dX3_tellStatement_5 : decode cX3_tellStatement 5 = .ok (.lookupswitch 96 #[(98, 78), (108, 87), (114, 69), (116, 51), (119, 60)], 51) := by decide +kernel
theorem dX3_tellStatement_56 : decode cX3_tellStatement 56 = .ok (.aload_n 0, 1) := by decide +kernel
theorem dX3_tellStatement_57 : decode cX3_tellStatement 57 = .ok (.iload_n 1, 1) := by decide +kernel
theorem dX3_tellStatement_58 : decode cX3_tellStatement 58 = .ok (.iconst 1, 1) := by decide +kernel
theorem dX3_tellStatement_59 : decode cX3_tellStatement 59 = .ok (.iadd, 1) := by decide +kernel
theorem dX3_tellStatement_60 : decode cX3_tellStatement 60 = .ok (.aload_n 2, 1) := by decide +kernel
theorem dX3_tellStatement_61 : decode cX3_tellStatement 61 = .ok (.invokevirtual 57, 3) := by decide +kernel
theorem dX3_tellStatement_64 : decode cX3_tellStatement 64 = .ok (.ireturn, 1) := by decide +kernel
theorem dX3_tellStatement_65 : decode cX3_tellStatement 65 = .ok (.aload_n 0, 1) := by decide +kernel
theorem dX3_tellStatement_66 : decode cX3_tellStatement 66 = .ok (.iload_n 1, 1) := by decide +kernel
theorem dX3_tellStatement_67 : decode cX3_tellStatement 67 = .ok (.iconst 1, 1) := by decide +kernel
theorem dX3_tellStatement_68 : decode cX3_tellStatement 68 = .ok (.iadd, 1) := by decide +kernel
theorem dX3_tellStatement_69 : decode cX3_tellStatement 69 = .ok (.aload_n 2, 1) := by decide +kernel
theorem dX3_tellStatement_70 : decode cX3_tellStatement 70 = .ok (.invokevirtual 61, 3) := by decide +kernel
theorem dX3_tellStatement_73 : decode cX3_tellStatement 73 = .ok (.ireturn, 1) := by decide +kernel
theorem dX3_tellStatement_74 : decode cX3_tellStatement 74 = .ok (.aload_n 0, 1) := by decide +kernel
theorem dX3_tellStatement_75 : decode cX3_tellStatement 75 = .ok (.iload_n 1, 1) := by decide +kernel
theorem dX3_tellStatement_76 : decode cX3_tellStatement 76 = .ok (.iconst 1, 1) := by decide +kernel
theorem dX3_tellStatement_77 : decode cX3_tellStatement 77 = .ok (.iadd, 1) := by decide +kernel
theorem dX3_tellStatement_78 : decode cX3_tellStatement 78 = .ok (.aload_n 2, 1) := by decide +kernel
theorem dX3_tellStatement_79 : decode cX3_tellStatement 79 = .ok (.invokevirtual 64, 3) := by decide +kernel
theorem dX3_tellStatement_82 : decode cX3_tellStatement 82 = .ok (.ireturn, 1) := by decide +kernel
theorem dX3_tellStatement_83 : decode cX3_tellStatement 83 = .ok (.aload_n 0, 1) := by decide +kernel
theorem dX3_tellStatement_84 : decode cX3_tellStatement 84 = .ok (.iload_n 1, 1) := by decide +kernel
theorem dX3_tellStatement_85 : decode cX3_tellStatement 85 = .ok (.iconst 1, 1) := by decide +kernel
theorem dX3_tellStatement_86 : decode cX3_tellStatement 86 = .ok (.iadd, 1) := by decide +kernel
theorem dX3_tellStatement_87 : decode cX3_tellStatement 87 = .ok (.aload_n 2, 1) := by decide +kernel
theorem dX3_tellStatement_88 : decode cX3_tellStatement 88 = .ok (.invokevirtual 67, 3) := by decide +kernel
theorem dX3_tellStatement_91 : decode cX3_tellStatement 91 = .ok (.ireturn, 1) := by decide +kernel
theorem dX3_tellStatement_92 : decode cX3_tellStatement 92 = .ok (.aload_n 0, 1) := by decide +kernel
theorem dX3_tellStatement_93 : decode cX3_tellStatement 93 = .ok (.iload_n 1, 1) := by decide +kernel
theorem dX3_tellStatement_94 : decode cX3_tellStatement 94 = .ok (.iconst 1, 1) := by decide +kernel
theorem dX3_tellStatement_95 : decode cX3_tellStatement 95 = .ok (.iadd, 1) := by decide +kernel
theorem dX3_tellStatement_96 : decode cX3_tellStatement 96 = .ok (.aload_n 2, 1) := by decide +kernel
theorem dX3_tellStatement_97 : decode cX3_tellStatement 97 = .ok (.invokevirtual 70, 3) := by decide +kernel
theorem dX3_tellStatement_100 : decode cX3_tellStatement 100 = .ok (.ireturn, 1) := by decide +kernel
theorem dX3_tellStatement_101 : decode cX3_tellStatement 101 = .ok (.aload_n 0, 1) := by decide +kernel
theorem dX3_tellStatement_102 : decode cX3_tellStatement 102 = .ok (.iload_n 1, 1) := by decide +kernel
theorem dX3_tellStatement_103 : decode cX3_tellStatement 103 = .ok (.iconst 1, 1) := by decide +kernel
theorem dX3_tellStatement_104 : decode cX3_tellStatement 104 = .ok (.iadd, 1) := by decide +kernel
theorem dX3_tellStatement_105 : decode cX3_tellStatement 105 = .ok (.aload_n 2, 1) := by decide +kernel
theorem dX3_tellStatement_106 : decode cX3_tellStatement 106 = .ok (.invokevirtual 73, 3) := by decide +kernel
theorem dX3_tellStatement_109 : decode cX3_tellStatement 109 = .ok (.ireturn, 1) := by decide +kernel
theorem dX3_tellTide_0 : decode cX3_tellTide 0 = .ok (.aload_n 0, 1) := by decide +kernel
theorem dX3_tellTide_1 : decode cX3_tellTide 1 = .ok (.iload_n 1, 1) := by decide +kernel
theorem dX3_tellTide_2 : decode cX3_tellTide 2 = .ok (.iconst 2, 1) := by decide +kernel
theorem dX3_tellTide_3 : decode cX3_tellTide 3 = .ok (.invokevirtual 76, 3) := by decide +kernel
theorem dX3_tellTide_6 : decode cX3_tellTide 6 = .ok (.istore_n 3, 1) := by decide +kernel
theorem dX3_tellTide_7 : decode cX3_tellTide 7 = .ok (.aload_n 0, 1) := by decide +kernel
theorem dX3_tellTide_8 : decode cX3_tellTide 8 = .ok (.iload_n 1, 1) := by decide +kernel
theorem dX3_tellTide_9 : decode cX3_tellTide 9 = .ok (.iconst 2, 1) := by decide +kernel
theorem dX3_tellTide_10 : decode cX3_tellTide 10 = .ok (.iadd, 1) := by decide +kernel
theorem dX3_tellTide_11 : decode cX3_tellTide 11 = .ok (.iconst 2, 1) := by decide +kernel
theorem dX3_tellTide_12 : decode cX3_tellTide 12 = .ok (.invokevirtual 76, 3) := by decide +kernel
theorem dX3_tellTide_15 : decode cX3_tellTide 15 = .ok (.istore 4, 2) := by decide +kernel
theorem dX3_tellTide_17 : decode cX3_tellTide 17 = .ok (.iload_n 3, 1) := by decide +kernel
theorem dX3_tellTide_18 : decode cX3_tellTide 18 = .ok (.invokestatic 80, 3) := by decide +kernel
theorem dX3_tellTide_21 : decode cX3_tellTide 21 = .ok (.ifCond .eq 10, 3) := by decide +kernel
theorem dX3_tellTide_24 : decode cX3_tellTide 24 = .ok (.iload 4, 2) := by decide +kernel
theorem dX3_tellTide_26 : decode cX3_tellTide 26 = .ok (.bipush 40, 2) := by decide +kernel
theorem dX3_tellTide_28 : decode cX3_tellTide 28 = .ok (.if_icmp .le 5, 3) := by decide +kernel
theorem dX3_tellTide_31 : decode cX3_tellTide 31 = .ok (.iconst 0, 1) := by decide +kernel
theorem dX3_tellTide_32 : decode cX3_tellTide 32 = .ok (.ireturn, 1) := by decide +kernel
theorem dX3_tellTide_33 : decode cX3_tellTide 33 = .ok (.aload_n 2, 1) := by decide +kernel
theorem dX3_tellTide_34 : decode cX3_tellTide 34 = .ok (.iload_n 3, 1) := by decide +kernel
theorem dX3_tellTide_35 : decode cX3_tellTide 35 = .ok (.iload 4, 2) := by decide +kernel
theorem dX3_tellTide_37 : decode cX3_tellTide 37 = .ok (.invokevirtual 84, 3) := by decide +kernel
theorem dX3_tellTide_40 : decode cX3_tellTide 40 = .ok (.iconst 1, 1) := by decide +kernel
theorem dX3_tellTide_41 : decode cX3_tellTide 41 = .ok (.ireturn, 1) := by decide +kernel
theorem dX3_tellWind_0 : decode cX3_tellWind 0 = .ok (.aload_n 0, 1) := by decide +kernel
theorem dX3_tellWind_1 : decode cX3_tellWind 1 = .ok (.iload_n 1, 1) := by decide +kernel
theorem dX3_tellWind_2 : decode cX3_tellWind 2 = .ok (.iconst 2, 1) := by decide +kernel
theorem dX3_tellWind_3 : decode cX3_tellWind 3 = .ok (.invokevirtual 76, 3) := by decide +kernel
theorem dX3_tellWind_6 : decode cX3_tellWind 6 = .ok (.istore_n 3, 1) := by decide +kernel
theorem dX3_tellWind_7 : decode cX3_tellWind 7 = .ok (.aload_n 0, 1) := by decide +kernel
theorem dX3_tellWind_8 : decode cX3_tellWind 8 = .ok (.iload_n 1, 1) := by decide +kernel
theorem dX3_tellWind_9 : decode cX3_tellWind 9 = .ok (.iconst 3, 1) := by decide +kernel
theorem dX3_tellWind_10 : decode cX3_tellWind 10 = .ok (.iadd, 1) := by decide +kernel
theorem dX3_tellWind_11 : decode cX3_tellWind 11 = .ok (.iconst 1, 1) := by decide +kernel
theorem dX3_tellWind_12 : decode cX3_tellWind 12 = .ok (.invokevirtual 76, 3) := by decide +kernel
theorem dX3_tellWind_15 : decode cX3_tellWind 15 = .ok (.istore 4, 2) := by decide +kernel
theorem dX3_tellWind_17 : decode cX3_tellWind 17 = .ok (.iload_n 3, 1) := by decide +kernel
theorem dX3_tellWind_18 : decode cX3_tellWind 18 = .ok (.invokestatic 80, 3) := by decide +kernel
theorem dX3_tellWind_21 : decode cX3_tellWind 21 = .ok (.ifCond .ne 5, 3) := by decide +kernel
theorem dX3_tellWind_24 : decode cX3_tellWind 24 = .ok (.iconst 0, 1) := by decide +kernel
theorem dX3_tellWind_25 : decode cX3_tellWind 25 = .ok (.ireturn, 1) := by decide +kernel
theorem dX3_tellWind_26 : decode cX3_tellWind 26 = .ok (.aload_n 2, 1) := by decide +kernel
theorem dX3_tellWind_27 : decode cX3_tellWind 27 = .ok (.iload_n 3, 1) := by decide +kernel
theorem dX3_tellWind_28 : decode cX3_tellWind 28 = .ok (.aload_n 0, 1) := by decide +kernel
theorem dX3_tellWind_29 : decode cX3_tellWind 29 = .ok (.iload_n 1, 1) := by decide +kernel
theorem dX3_tellWind_30 : decode cX3_tellWind 30 = .ok (.iconst 2, 1) := by decide +kernel
theorem dX3_tellWind_31 : decode cX3_tellWind 31 = .ok (.iadd, 1) := by decide +kernel
theorem dX3_tellWind_32 : decode cX3_tellWind 32 = .ok (.invokevirtual 41, 3) := by decide +kernel
theorem dX3_tellWind_35 : decode cX3_tellWind 35 = .ok (.bipush 45, 2) := by decide +kernel
theorem dX3_tellWind_37 : decode cX3_tellWind 37 = .ok (.if_icmp .ne 9, 3) := by decide +kernel
theorem dX3_tellWind_40 : decode cX3_tellWind 40 = .ok (.iload 4, 2) := by decide +kernel
theorem dX3_tellWind_42 : decode cX3_tellWind 42 = .ok (.ineg, 1) := by decide +kernel
theorem dX3_tellWind_43 : decode cX3_tellWind 43 = .ok (.goto 5, 3) := by decide +kernel
theorem dX3_tellWind_46 : decode cX3_tellWind 46 = .ok (.iload 4, 2) := by decide +kernel
theorem dX3_tellWind_48 : decode cX3_tellWind 48 = .ok (.invokevirtual 90, 3) := by decide +kernel
theorem dX3_tellWind_51 : decode cX3_tellWind 51 = .ok (.iconst 1, 1) := by decide +kernel
theorem dX3_tellWind_52 : decode cX3_tellWind 52 = .ok (.ireturn, 1) := by decide +kernel
theorem dX3_tellRing_0 : decode cX3_tellRing 0 = .ok (.aload_n 0, 1) := by decide +kernel
theorem dX3_tellRing_1 : decode cX3_tellRing 1 = .ok (.iload_n 1, 1) := by decide +kernel
theorem dX3_tellRing_2 : decode cX3_tellRing 2 = .ok (.iconst 2, 1) := by decide +kernel
theorem dX3_tellRing_3 : decode cX3_tellRing 3 = .ok (.iadd, 1) := by decide +kernel
theorem dX3_tellRing_4 : decode cX3_tellRing 4 = .ok (.iconst 2, 1) := by decide +kernel
theorem dX3_tellRing_5 : decode cX3_tellRing 5 = .ok (.invokevirtual 76, 3) := by decide +kernel
theorem dX3_tellRing_8 : decode cX3_tellRing 8 = .ok (.istore_n 3, 1) := by decide +kernel
theorem dX3_tellRing_9 : decode cX3_tellRing 9 = .ok (.aload_n 2, 1) := by decide +kernel
theorem dX3_tellRing_10 : decode cX3_tellRing 10 = .ok (.getfield 93, 3) := by decide +kernel
theorem dX3_tellRing_13 : decode cX3_tellRing 13 = .ok (.bipush 6, 2) := by decide +kernel
theorem dX3_tellRing_15 : decode cX3_tellRing 15 = .ok (.if_icmp .ge 9, 3) := by decide +kernel
theorem dX3_tellRing_18 : decode cX3_tellRing 18 = .ok (.iload_n 3, 1) := by decide +kernel
theorem dX3_tellRing_19 : decode cX3_tellRing 19 = .ok (.bipush 60, 2) := by decide +kernel
theorem dX3_tellRing_21 : decode cX3_tellRing 21 = .ok (.if_icmp .le 5, 3) := by decide +kernel
theorem dX3_tellRing_24 : decode cX3_tellRing 24 = .ok (.iconst 0, 1) := by decide +kernel
theorem dX3_tellRing_25 : decode cX3_tellRing 25 = .ok (.ireturn, 1) := by decide +kernel
theorem dX3_tellRing_26 : decode cX3_tellRing 26 = .ok (.aload_n 2, 1) := by decide +kernel
theorem dX3_tellRing_27 : decode cX3_tellRing 27 = .ok (.aload_n 0, 1) := by decide +kernel
theorem dX3_tellRing_28 : decode cX3_tellRing 28 = .ok (.iload_n 1, 1) := by decide +kernel
theorem dX3_tellRing_29 : decode cX3_tellRing 29 = .ok (.iconst 2, 1) := by decide +kernel
theorem dX3_tellRing_30 : decode cX3_tellRing 30 = .ok (.invokevirtual 76, 3) := by decide +kernel
theorem dX3_tellRing_33 : decode cX3_tellRing 33 = .ok (.iload_n 3, 1) := by decide +kernel
theorem dX3_tellRing_34 : decode cX3_tellRing 34 = .ok (.invokevirtual 96, 3) := by decide +kernel
theorem dX3_tellRing_37 : decode cX3_tellRing 37 = .ok (.iconst 1, 1) := by decide +kernel
theorem dX3_tellRing_38 : decode cX3_tellRing 38 = .ok (.ireturn, 1) := by decide +kernel
theorem dX3_tellBoat_0 : decode cX3_tellBoat 0 = .ok (.aload_n 0, 1) := by decide +kernel
theorem dX3_tellBoat_1 : decode cX3_tellBoat 1 = .ok (.iload_n 1, 1) := by decide +kernel
theorem dX3_tellBoat_2 : decode cX3_tellBoat 2 = .ok (.iconst 1, 1) := by decide +kernel
theorem dX3_tellBoat_3 : decode cX3_tellBoat 3 = .ok (.invokevirtual 76, 3) := by decide +kernel
theorem dX3_tellBoat_6 : decode cX3_tellBoat 6 = .ok (.istore_n 3, 1) := by decide +kernel
theorem dX3_tellBoat_7 : decode cX3_tellBoat 7 = .ok (.aload_n 0, 1) := by decide +kernel
theorem dX3_tellBoat_8 : decode cX3_tellBoat 8 = .ok (.iload_n 1, 1) := by decide +kernel
theorem dX3_tellBoat_9 : decode cX3_tellBoat 9 = .ok (.iconst 2, 1) := by decide +kernel
theorem dX3_tellBoat_10 : decode cX3_tellBoat 10 = .ok (.iadd, 1) := by decide +kernel
theorem dX3_tellBoat_11 : decode cX3_tellBoat 11 = .ok (.iconst 1, 1) := by decide +kernel
theorem dX3_tellBoat_12 : decode cX3_tellBoat 12 = .ok (.invokevirtual 76, 3) := by decide +kernel
theorem dX3_tellBoat_15 : decode cX3_tellBoat 15 = .ok (.istore 4, 2) := by decide +kernel
theorem dX3_tellBoat_17 : decode cX3_tellBoat 17 = .ok (.aload_n 0, 1) := by decide +kernel
theorem dX3_tellBoat_18 : decode cX3_tellBoat 18 = .ok (.iload_n 1, 1) := by decide +kernel
theorem dX3_tellBoat_19 : decode cX3_tellBoat 19 = .ok (.iconst 3, 1) := by decide +kernel
theorem dX3_tellBoat_20 : decode cX3_tellBoat 20 = .ok (.iadd, 1) := by decide +kernel
theorem dX3_tellBoat_21 : decode cX3_tellBoat 21 = .ok (.iconst 1, 1) := by decide +kernel
theorem dX3_tellBoat_22 : decode cX3_tellBoat 22 = .ok (.invokevirtual 76, 3) := by decide +kernel
theorem dX3_tellBoat_25 : decode cX3_tellBoat 25 = .ok (.istore 5, 2) := by decide +kernel
theorem dX3_tellBoat_27 : decode cX3_tellBoat 27 = .ok (.aload_n 0, 1) := by decide +kernel
theorem dX3_tellBoat_28 : decode cX3_tellBoat 28 = .ok (.iload_n 1, 1) := by decide +kernel
theorem dX3_tellBoat_29 : decode cX3_tellBoat 29 = .ok (.bipush 6, 2) := by decide +kernel
theorem dX3_tellBoat_31 : decode cX3_tellBoat 31 = .ok (.iadd, 1) := by decide +kernel
theorem dX3_tellBoat_32 : decode cX3_tellBoat 32 = .ok (.iconst 2, 1) := by decide +kernel
theorem dX3_tellBoat_33 : decode cX3_tellBoat 33 = .ok (.invokevirtual 76, 3) := by decide +kernel
theorem dX3_tellBoat_36 : decode cX3_tellBoat 36 = .ok (.istore 6, 2) := by decide +kernel
theorem dX3_tellBoat_38 : decode cX3_tellBoat 38 = .ok (.aload_n 2, 1) := by decide +kernel
theorem dX3_tellBoat_39 : decode cX3_tellBoat 39 = .ok (.getfield 99, 3) := by decide +kernel
theorem dX3_tellBoat_42 : decode cX3_tellBoat 42 = .ok (.iconst 5, 1) := by decide +kernel
theorem dX3_tellBoat_43 : decode cX3_tellBoat 43 = .ok (.if_icmp .ge 40, 3) := by decide +kernel
theorem dX3_tellBoat_46 : decode cX3_tellBoat 46 = .ok (.iload_n 3, 1) := by decide +kernel
theorem dX3_tellBoat_47 : decode cX3_tellBoat 47 = .ok (.bipush 6, 2) := by decide +kernel
theorem dX3_tellBoat_49 : decode cX3_tellBoat 49 = .ok (.if_icmp .ge 34, 3) := by decide +kernel
theorem dX3_tellBoat_52 : decode cX3_tellBoat 52 = .ok (.aload_n 2, 1) := by decide +kernel
theorem dX3_tellBoat_53 : decode cX3_tellBoat 53 = .ok (.iload 4, 2) := by decide +kernel
theorem dX3_tellBoat_55 : decode cX3_tellBoat 55 = .ok (.invokevirtual 102, 3) := by decide +kernel
theorem dX3_tellBoat_58 : decode cX3_tellBoat 58 = .ok (.ifCond .eq 25, 3) := by decide +kernel
theorem dX3_tellBoat_61 : decode cX3_tellBoat 61 = .ok (.aload_n 2, 1) := by decide +kernel
theorem dX3_tellBoat_62 : decode cX3_tellBoat 62 = .ok (.iload 5, 2) := by decide +kernel
theorem dX3_tellBoat_64 : decode cX3_tellBoat 64 = .ok (.invokevirtual 102, 3) := by decide +kernel
theorem dX3_tellBoat_67 : decode cX3_tellBoat 67 = .ok (.ifCond .eq 16, 3) := by decide +kernel
theorem dX3_tellBoat_70 : decode cX3_tellBoat 70 = .ok (.iload 6, 2) := by decide +kernel
theorem dX3_tellBoat_72 : decode cX3_tellBoat 72 = .ok (.iconst 1, 1) := by decide +kernel
theorem dX3_tellBoat_73 : decode cX3_tellBoat 73 = .ok (.if_icmp .lt 10, 3) := by decide +kernel
theorem dX3_tellBoat_76 : decode cX3_tellBoat 76 = .ok (.iload 6, 2) := by decide +kernel
theorem dX3_tellBoat_78 : decode cX3_tellBoat 78 = .ok (.bipush 20, 2) := by decide +kernel
theorem dX3_tellBoat_80 : decode cX3_tellBoat 80 = .ok (.if_icmp .le 5, 3) := by decide +kernel
theorem dX3_tellBoat_83 : decode cX3_tellBoat 83 = .ok (.iconst 0, 1) := by decide +kernel
theorem dX3_tellBoat_84 : decode cX3_tellBoat 84 = .ok (.ireturn, 1) := by decide +kernel
theorem dX3_tellBoat_85 : decode cX3_tellBoat 85 = .ok (.aload_n 2, 1) := by decide +kernel
theorem dX3_tellBoat_86 : decode cX3_tellBoat 86 = .ok (.getfield 99, 3) := by decide +kernel
theorem dX3_tellBoat_89 : decode cX3_tellBoat 89 = .ok (.istore 7, 2) := by decide +kernel
theorem dX3_tellBoat_91 : decode cX3_tellBoat 91 = .ok (.aload_n 2, 1) := by decide +kernel
theorem dX3_tellBoat_92 : decode cX3_tellBoat 92 = .ok (.dup, 1) := by decide +kernel
theorem dX3_tellBoat_93 : decode cX3_tellBoat 93 = .ok (.getfield 99, 3) := by decide +kernel
theorem dX3_tellBoat_96 : decode cX3_tellBoat 96 = .ok (.iconst 1, 1) := by decide +kernel
theorem dX3_tellBoat_97 : decode cX3_tellBoat 97 = .ok (.iadd, 1) := by decide +kernel
theorem dX3_tellBoat_98 : decode cX3_tellBoat 98 = .ok (.putfield 99, 3) := by decide +kernel
theorem dX3_tellBoat_101 : decode cX3_tellBoat 101 = .ok (.aload_n 2, 1) := by decide +kernel
theorem dX3_tellBoat_102 : decode cX3_tellBoat 102 = .ok (.iload 7, 2) := by decide +kernel
theorem dX3_tellBoat_104 : decode cX3_tellBoat 104 = .ok (.iconst 0, 1) := by decide +kernel
theorem dX3_tellBoat_105 : decode cX3_tellBoat 105 = .ok (.iload_n 3, 1) := by decide +kernel
theorem dX3_tellBoat_106 : decode cX3_tellBoat 106 = .ok (.invokevirtual 105, 3) := by decide +kernel
theorem dX3_tellBoat_109 : decode cX3_tellBoat 109 = .ok (.aload_n 2, 1) := by decide +kernel
theorem dX3_tellBoat_110 : decode cX3_tellBoat 110 = .ok (.iload 7, 2) := by decide +kernel
theorem dX3_tellBoat_112 : decode cX3_tellBoat 112 = .ok (.iconst 1, 1) := by decide +kernel
theorem dX3_tellBoat_113 : decode cX3_tellBoat 113 = .ok (.aload_n 0, 1) := by decide +kernel
theorem dX3_tellBoat_114 : decode cX3_tellBoat 114 = .ok (.iload_n 1, 1) := by decide +kernel
theorem dX3_tellBoat_115 : decode cX3_tellBoat 115 = .ok (.iconst 1, 1) := by decide +kernel
theorem dX3_tellBoat_116 : decode cX3_tellBoat 116 = .ok (.iadd, 1) := by decide +kernel
theorem dX3_tellBoat_117 : decode cX3_tellBoat 117 = .ok (.iconst 1, 1) := by decide +kernel
theorem dX3_tellBoat_118 : decode cX3_tellBoat 118 = .ok (.invokevirtual 76, 3) := by decide +kernel
theorem dX3_tellBoat_121 : decode cX3_tellBoat 121 = .ok (.invokevirtual 105, 3) := by decide +kernel
theorem dX3_tellBoat_124 : decode cX3_tellBoat 124 = .ok (.aload_n 2, 1) := by decide +kernel
theorem dX3_tellBoat_125 : decode cX3_tellBoat 125 = .ok (.iload 7, 2) := by decide +kernel
theorem dX3_tellBoat_127 : decode cX3_tellBoat 127 = .ok (.iconst 2, 1) := by decide +kernel
theorem dX3_tellBoat_128 : decode cX3_tellBoat 128 = .ok (.iload 4, 2) := by decide +kernel
theorem dX3_tellBoat_130 : decode cX3_tellBoat 130 = .ok (.invokevirtual 105, 3) := by decide +kernel
theorem dX3_tellBoat_133 : decode cX3_tellBoat 133 = .ok (.aload_n 2, 1) := by decide +kernel
theorem dX3_tellBoat_134 : decode cX3_tellBoat 134 = .ok (.iload 7, 2) := by decide +kernel
theorem dX3_tellBoat_136 : decode cX3_tellBoat 136 = .ok (.iconst 3, 1) := by decide +kernel
theorem dX3_tellBoat_137 : decode cX3_tellBoat 137 = .ok (.iload 5, 2) := by decide +kernel
theorem dX3_tellBoat_139 : decode cX3_tellBoat 139 = .ok (.invokevirtual 105, 3) := by decide +kernel
theorem dX3_tellBoat_142 : decode cX3_tellBoat 142 = .ok (.aload_n 2, 1) := by decide +kernel
theorem dX3_tellBoat_143 : decode cX3_tellBoat 143 = .ok (.iload 7, 2) := by decide +kernel
theorem dX3_tellBoat_145 : decode cX3_tellBoat 145 = .ok (.iconst 4, 1) := by decide +kernel
theorem dX3_tellBoat_146 : decode cX3_tellBoat 146 = .ok (.aload_n 0, 1) := by decide +kernel
theorem dX3_tellBoat_147 : decode cX3_tellBoat 147 = .ok (.iload_n 1, 1) := by decide +kernel
theorem dX3_tellBoat_148 : decode cX3_tellBoat 148 = .ok (.iconst 4, 1) := by decide +kernel
theorem dX3_tellBoat_149 : decode cX3_tellBoat 149 = .ok (.iadd, 1) := by decide +kernel
theorem dX3_tellBoat_150 : decode cX3_tellBoat 150 = .ok (.iconst 2, 1) := by decide +kernel
theorem dX3_tellBoat_151 : decode cX3_tellBoat 151 = .ok (.invokevirtual 76, 3) := by decide +kernel
theorem dX3_tellBoat_154 : decode cX3_tellBoat 154 = .ok (.invokevirtual 105, 3) := by decide +kernel
theorem dX3_tellBoat_157 : decode cX3_tellBoat 157 = .ok (.aload_n 2, 1) := by decide +kernel
theorem dX3_tellBoat_158 : decode cX3_tellBoat 158 = .ok (.iload 7, 2) := by decide +kernel
theorem dX3_tellBoat_160 : decode cX3_tellBoat 160 = .ok (.iconst 5, 1) := by decide +kernel
theorem dX3_tellBoat_161 : decode cX3_tellBoat 161 = .ok (.iload 6, 2) := by decide +kernel
theorem dX3_tellBoat_163 : decode cX3_tellBoat 163 = .ok (.invokevirtual 105, 3) := by decide +kernel
theorem dX3_tellBoat_166 : decode cX3_tellBoat 166 = .ok (.aload_n 2, 1) := by decide +kernel
theorem dX3_tellBoat_167 : decode cX3_tellBoat 167 = .ok (.iload 7, 2) := by decide +kernel
theorem dX3_tellBoat_169 : decode cX3_tellBoat 169 = .ok (.bipush 6, 2) := by decide +kernel
theorem dX3_tellBoat_171 : decode cX3_tellBoat 171 = .ok (.aload_n 0, 1) := by decide +kernel
theorem dX3_tellBoat_172 : decode cX3_tellBoat 172 = .ok (.iload_n 1, 1) := by decide +kernel
theorem dX3_tellBoat_173 : decode cX3_tellBoat 173 = .ok (.bipush 8, 2) := by decide +kernel
theorem dX3_tellBoat_175 : decode cX3_tellBoat 175 = .ok (.iadd, 1) := by decide +kernel
theorem dX3_tellBoat_176 : decode cX3_tellBoat 176 = .ok (.iconst 2, 1) := by decide +kernel
theorem dX3_tellBoat_177 : decode cX3_tellBoat 177 = .ok (.invokevirtual 76, 3) := by decide +kernel
theorem dX3_tellBoat_180 : decode cX3_tellBoat 180 = .ok (.invokevirtual 105, 3) := by decide +kernel
theorem dX3_tellBoat_183 : decode cX3_tellBoat 183 = .ok (.iconst 1, 1) := by decide +kernel
theorem dX3_tellBoat_184 : decode cX3_tellBoat 184 = .ok (.ireturn, 1) := by decide +kernel
theorem dX3_tellLength_0 : decode cX3_tellLength 0 = .ok (.aload_n 0, 1) := by decide +kernel
theorem dX3_tellLength_1 : decode cX3_tellLength 1 = .ok (.iload_n 1, 1) := by decide +kernel
theorem dX3_tellLength_2 : decode cX3_tellLength 2 = .ok (.iconst 1, 1) := by decide +kernel
theorem dX3_tellLength_3 : decode cX3_tellLength 3 = .ok (.invokevirtual 76, 3) := by decide +kernel
theorem dX3_tellLength_6 : decode cX3_tellLength 6 = .ok (.istore_n 3, 1) := by decide +kernel
theorem dX3_tellLength_7 : decode cX3_tellLength 7 = .ok (.aload_n 2, 1) := by decide +kernel
theorem dX3_tellLength_8 : decode cX3_tellLength 8 = .ok (.iload_n 3, 1) := by decide +kernel
theorem dX3_tellLength_9 : decode cX3_tellLength 9 = .ok (.invokevirtual 109, 3) := by decide +kernel
theorem dX3_tellLength_12 : decode cX3_tellLength 12 = .ok (.ifCond .ne 5, 3) := by decide +kernel
theorem dX3_tellLength_15 : decode cX3_tellLength 15 = .ok (.iconst 0, 1) := by decide +kernel
theorem dX3_tellLength_16 : decode cX3_tellLength 16 = .ok (.ireturn, 1) := by decide +kernel
theorem dX3_tellLength_17 : decode cX3_tellLength 17 = .ok (.aload_n 2, 1) := by decide +kernel
theorem dX3_tellLength_18 : decode cX3_tellLength 18 = .ok (.iload_n 3, 1) := by decide +kernel
theorem dX3_tellLength_19 : decode cX3_tellLength 19 = .ok (.iconst 4, 1) := by decide +kernel
theorem dX3_tellLength_20 : decode cX3_tellLength 20 = .ok (.aload_n 0, 1) := by decide +kernel
theorem dX3_tellLength_21 : decode cX3_tellLength 21 = .ok (.iload_n 1, 1) := by decide +kernel
theorem dX3_tellLength_22 : decode cX3_tellLength 22 = .ok (.iconst 1, 1) := by decide +kernel
theorem dX3_tellLength_23 : decode cX3_tellLength 23 = .ok (.iadd, 1) := by decide +kernel
theorem dX3_tellLength_24 : decode cX3_tellLength 24 = .ok (.iconst 2, 1) := by decide +kernel
theorem dX3_tellLength_25 : decode cX3_tellLength 25 = .ok (.invokevirtual 76, 3) := by decide +kernel
theorem dX3_tellLength_28 : decode cX3_tellLength 28 = .ok (.invokevirtual 105, 3) := by decide +kernel
theorem dX3_tellLength_31 : decode cX3_tellLength 31 = .ok (.iconst 1, 1) := by decide +kernel
theorem dX3_tellLength_32 : decode cX3_tellLength 32 = .ok (.ireturn, 1) := by decide +kernel
theorem dX3_tellEdge_0 : decode cX3_tellEdge 0 = .ok (.aload_n 0, 1) := by decide +kernel
theorem dX3_tellEdge_1 : decode cX3_tellEdge 1 = .ok (.iload_n 1, 1) := by decide +kernel
theorem dX3_tellEdge_2 : decode cX3_tellEdge 2 = .ok (.iconst 2, 1) := by decide +kernel
theorem dX3_tellEdge_3 : decode cX3_tellEdge 3 = .ok (.invokevirtual 76, 3) := by decide +kernel
theorem dX3_tellEdge_6 : decode cX3_tellEdge 6 = .ok (.istore_n 3, 1) := by decide +kernel
theorem dX3_tellEdge_7 : decode cX3_tellEdge 7 = .ok (.iload_n 3, 1) := by decide +kernel
theorem dX3_tellEdge_8 : decode cX3_tellEdge 8 = .ok (.bipush 60, 2) := by decide +kernel
theorem dX3_tellEdge_10 : decode cX3_tellEdge 10 = .ok (.if_icmp .le 5, 3) := by decide +kernel
theorem dX3_tellEdge_13 : decode cX3_tellEdge 13 = .ok (.iconst 0, 1) := by decide +kernel
theorem dX3_tellEdge_14 : decode cX3_tellEdge 14 = .ok (.ireturn, 1) := by decide +kernel
theorem dX3_tellEdge_15 : decode cX3_tellEdge 15 = .ok (.aload_n 2, 1) := by decide +kernel
theorem dX3_tellEdge_16 : decode cX3_tellEdge 16 = .ok (.iload_n 3, 1) := by decide +kernel
theorem dX3_tellEdge_17 : decode cX3_tellEdge 17 = .ok (.putfield 112, 3) := by decide +kernel
theorem dX3_tellEdge_20 : decode cX3_tellEdge 20 = .ok (.iconst 1, 1) := by decide +kernel
theorem dX3_tellEdge_21 : decode cX3_tellEdge 21 = .ok (.ireturn, 1) := by decide +kernel
theorem dX4_init_0 : decode cX4_init 0 = .ok (.aload_n 0, 1) := by decide +kernel
theorem dX4_init_1 : decode cX4_init 1 = .ok (.invokespecial 3, 3) := by decide +kernel
theorem dX4_init_4 : decode cX4_init 4 = .ok (.aload_n 0, 1) := by decide +kernel
theorem dX4_init_5 : decode cX4_init 5 = .ok (.bipush 12, 2) := by decide +kernel
theorem dX4_init_7 : decode cX4_init 7 = .ok (.newarray .int, 2) := by decide +kernel
theorem dX4_init_9 : decode cX4_init 9 = .ok (.putfield 9, 3) := by decide +kernel
theorem dX4_init_12 : decode cX4_init 12 = .ok (.aload_n 0, 1) := by decide +kernel
theorem dX4_init_13 : decode cX4_init 13 = .ok (.bipush 12, 2) := by decide +kernel
theorem dX4_init_15 : decode cX4_init 15 = .ok (.newarray .int, 2) := by decide +kernel
theorem dX4_init_17 : decode cX4_init 17 = .ok (.putfield 15, 3) := by decide +kernel
theorem dX4_init_20 : decode cX4_init 20 = .ok (.aload_n 0, 1) := by decide +kernel
theorem dX4_init_21 : decode cX4_init 21 = .ok (.sipush 400, 3) := by decide +kernel
theorem dX4_init_24 : decode cX4_init 24 = .ok (.newarray .int, 2) := by decide +kernel
theorem dX4_init_26 : decode cX4_init 26 = .ok (.putfield 18, 3) := by decide +kernel
theorem dX4_init_29 : decode cX4_init 29 = .ok (.aload_n 0, 1) := by decide +kernel
theorem dX4_init_30 : decode cX4_init 30 = .ok (.iconst 4, 1) := by decide +kernel
theorem dX4_init_31 : decode cX4_init 31 = .ok (.newarray .int, 2) := by decide +kernel
theorem dX4_init_33 : decode cX4_init 33 = .ok (.putfield 21, 3) := by decide +kernel
theorem dX4_init_36 : decode cX4_init 36 = .ok (.return_, 1) := by decide +kernel
theorem dX4_measure_0 : decode cX4_measure 0 = .ok (.iconst 0, 1) := by decide +kernel
theorem dX4_measure_1 : decode cX4_measure 1 = .ok (.istore_n 3, 1) := by decide +kernel
theorem dX4_measure_2 : decode cX4_measure 2 = .ok (.iload_n 3, 1) := by decide +kernel
theorem dX4_measure_3 : decode cX4_measure 3 = .ok (.bipush 12, 2) := by decide +kernel
theorem dX4_measure_5 : decode cX4_measure 5 = .ok (.if_icmp .ge 41, 3) := by decide +kernel
theorem dX4_measure_8 : decode cX4_measure 8 = .ok (.iload_n 3, 1) := by decide +kernel
theorem dX4_measure_9 : decode cX4_measure 9 = .ok (.aload_n 2, 1) := by decide +kernel
theorem dX4_measure_10 : decode cX4_measure 10 = .ok (.arraylength, 1) := by decide +kernel
theorem dX4_measure_11 : decode cX4_measure 11 = .ok (.if_icmp .ge 35, 3) := by decide +kernel
theorem dX4_measure_14 : decode cX4_measure 14 = .ok (.aload_n 0, 1) := by decide +kernel
theorem dX4_measure_15 : decode cX4_measure 15 = .ok (.getfield 9, 3) := by decide +kernel
theorem dX4_measure_18 : decode cX4_measure 18 = .ok (.iload_n 3, 1) := by decide +kernel
theorem dX4_measure_19 : decode cX4_measure 19 = .ok (.aload_n 1, 1) := by decide +kernel
theorem dX4_measure_20 : decode cX4_measure 20 = .ok (.aload_n 2, 1) := by decide +kernel
theorem dX4_measure_21 : decode cX4_measure 21 = .ok (.iload_n 3, 1) := by decide +kernel
theorem dX4_measure_22 : decode cX4_measure 22 = .ok (.iaload, 1) := by decide +kernel
theorem dX4_measure_23 : decode cX4_measure 23 = .ok (.invokevirtual 24, 3) := by decide +kernel
theorem dX4_measure_26 : decode cX4_measure 26 = .ok (.iastore, 1) := by decide +kernel
theorem dX4_measure_27 : decode cX4_measure 27 = .ok (.aload_n 0, 1) := by decide +kernel
theorem dX4_measure_28 : decode cX4_measure 28 = .ok (.getfield 15, 3) := by decide +kernel
theorem dX4_measure_31 : decode cX4_measure 31 = .ok (.iload_n 3, 1) := by decide +kernel
theorem dX4_measure_32 : decode cX4_measure 32 = .ok (.aload_n 1, 1) := by decide +kernel
theorem dX4_measure_33 : decode cX4_measure 33 = .ok (.aload_n 2, 1) := by decide +kernel
theorem dX4_measure_34 : decode cX4_measure 34 = .ok (.iload_n 3, 1) := by decide +kernel
theorem dX4_measure_35 : decode cX4_measure 35 = .ok (.iaload, 1) := by decide +kernel
theorem dX4_measure_36 : decode cX4_measure 36 = .ok (.invokevirtual 30, 3) := by decide +kernel
theorem dX4_measure_39 : decode cX4_measure 39 = .ok (.iastore, 1) := by decide +kernel
theorem dX4_measure_40 : decode cX4_measure 40 = .ok (.iinc 3 1, 3) := by decide +kernel
theorem dX4_measure_43 : decode cX4_measure 43 = .ok (.goto (-41), 3) := by decide +kernel
theorem dX4_measure_46 : decode cX4_measure 46 = .ok (.return_, 1) := by decide +kernel
theorem dX4_leastAllDay_0 : decode cX4_leastAllDay 0 = .ok (.aload_n 0, 1) := by decide +kernel
theorem dX4_leastAllDay_1 : decode cX4_leastAllDay 1 = .ok (.iconst 0, 1) := by decide +kernel
theorem dX4_leastAllDay_2 : decode cX4_leastAllDay 2 = .ok (.bipush 12, 2) := by decide +kernel
theorem dX4_leastAllDay_4 : decode cX4_leastAllDay 4 = .ok (.invokevirtual 33, 3) := by decide +kernel
theorem dX4_leastAllDay_7 : decode cX4_leastAllDay 7 = .ok (.ireturn, 1) := by decide +kernel
theorem dX4_greatestAllDay_0 : decode cX4_greatestAllDay 0 = .ok (.aload_n 0, 1) := by decide +kernel
theorem dX4_greatestAllDay_1 : decode cX4_greatestAllDay 1 = .ok (.iconst 0, 1) := by decide +kernel
theorem dX4_greatestAllDay_2 : decode cX4_greatestAllDay 2 = .ok (.bipush 12, 2) := by decide +kernel
theorem dX4_greatestAllDay_4 : decode cX4_greatestAllDay 4 = .ok (.invokevirtual 37, 3) := by decide +kernel
theorem dX4_greatestAllDay_7 : decode cX4_greatestAllDay 7 = .ok (.ireturn, 1) := by decide +kernel
theorem dX4_leastFrom_0 : decode cX4_leastFrom 0 = .ok (.iconst 0, 1) := by decide +kernel
theorem dX4_leastFrom_1 : decode cX4_leastFrom 1 = .ok (.istore_n 3, 1) := by decide +kernel
theorem dX4_leastFrom_2 : decode cX4_leastFrom 2 = .ok (.iconst 0, 1) := by decide +kernel
theorem dX4_leastFrom_3 : decode cX4_leastFrom 3 = .ok (.iload_n 1, 1) := by decide +kernel
theorem dX4_leastFrom_4 : decode cX4_leastFrom 4 = .ok (.invokestatic 40, 3) := by decide +kernel
theorem dX4_leastFrom_7 : decode cX4_leastFrom 7 = .ok (.istore 4, 2) := by decide +kernel
theorem dX4_leastFrom_9 : decode cX4_leastFrom 9 = .ok (.iload 4, 2) := by decide +kernel
theorem dX4_leastFrom_11 : decode cX4_leastFrom 11 = .ok (.iload_n 2, 1) := by decide +kernel
theorem dX4_leastFrom_12 : decode cX4_leastFrom 12 = .ok (.if_icmp .ge 28, 3) := by decide +kernel
theorem dX4_leastFrom_15 : decode cX4_leastFrom 15 = .ok (.iload 4, 2) := by decide +kernel
theorem dX4_leastFrom_17 : decode cX4_leastFrom 17 = .ok (.bipush 12, 2) := by decide +kernel
theorem dX4_leastFrom_19 : decode cX4_leastFrom 19 = .ok (.if_icmp .ge 21, 3) := by decide +kernel
theorem dX4_leastFrom_22 : decode cX4_leastFrom 22 = .ok (.iload_n 3, 1) := by decide +kernel
theorem dX4_leastFrom_23 : decode cX4_leastFrom 23 = .ok (.aload_n 0, 1) := by decide +kernel
theorem dX4_leastFrom_24 : decode cX4_leastFrom 24 = .ok (.getfield 9, 3) := by decide +kernel
theorem dX4_leastFrom_27 : decode cX4_leastFrom 27 = .ok (.iload 4, 2) := by decide +kernel
theorem dX4_leastFrom_29 : decode cX4_leastFrom 29 = .ok (.iaload, 1) := by decide +kernel
theorem dX4_leastFrom_30 : decode cX4_leastFrom 30 = .ok (.invokestatic 40, 3) := by decide +kernel
theorem dX4_leastFrom_33 : decode cX4_leastFrom 33 = .ok (.istore_n 3, 1) := by decide +kernel
theorem dX4_leastFrom_34 : decode cX4_leastFrom 34 = .ok (.iinc 4 1, 3) := by decide +kernel
theorem dX4_leastFrom_37 : decode cX4_leastFrom 37 = .ok (.goto (-28), 3) := by decide +kernel
theorem dX4_leastFrom_40 : decode cX4_leastFrom 40 = .ok (.iload_n 3, 1) := by decide +kernel
theorem dX4_leastFrom_41 : decode cX4_leastFrom 41 = .ok (.ireturn, 1) := by decide +kernel
theorem dX4_greatestFrom_0 : decode cX4_greatestFrom 0 = .ok (.bipush 99, 2) := by decide +kernel
theorem dX4_greatestFrom_2 : decode cX4_greatestFrom 2 = .ok (.istore_n 3, 1) := by decide +kernel
theorem dX4_greatestFrom_3 : decode cX4_greatestFrom 3 = .ok (.iconst 0, 1) := by decide +kernel
theorem dX4_greatestFrom_4 : decode cX4_greatestFrom 4 = .ok (.iload_n 1, 1) := by decide +kernel
theorem dX4_greatestFrom_5 : decode cX4_greatestFrom 5 = .ok (.invokestatic 40, 3) := by decide +kernel
theorem dX4_greatestFrom_8 : decode cX4_greatestFrom 8 = .ok (.istore 4, 2) := by decide +kernel
theorem dX4_greatestFrom_10 : decode cX4_greatestFrom 10 = .ok (.iload 4, 2) := by decide +kernel
theorem dX4_greatestFrom_12 : decode cX4_greatestFrom 12 = .ok (.iload_n 2, 1) := by decide +kernel
theorem dX4_greatestFrom_13 : decode cX4_greatestFrom 13 = .ok (.if_icmp .ge 28, 3) := by decide +kernel
theorem dX4_greatestFrom_16 : decode cX4_greatestFrom 16 = .ok (.iload 4, 2) := by decide +kernel
theorem dX4_greatestFrom_18 : decode cX4_greatestFrom 18 = .ok (.bipush 12, 2) := by decide +kernel
theorem dX4_greatestFrom_20 : decode cX4_greatestFrom 20 = .ok (.if_icmp .ge 21, 3) := by decide +kernel
theorem dX4_greatestFrom_23 : decode cX4_greatestFrom 23 = .ok (.iload_n 3, 1) := by decide +kernel
theorem dX4_greatestFrom_24 : decode cX4_greatestFrom 24 = .ok (.aload_n 0, 1) := by decide +kernel
theorem dX4_greatestFrom_25 : decode cX4_greatestFrom 25 = .ok (.getfield 15, 3) := by decide +kernel
theorem dX4_greatestFrom_28 : decode cX4_greatestFrom 28 = .ok (.iload 4, 2) := by decide +kernel
theorem dX4_greatestFrom_30 : decode cX4_greatestFrom 30 = .ok (.iaload, 1) := by decide +kernel
theorem dX4_greatestFrom_31 : decode cX4_greatestFrom 31 = .ok (.invokestatic 45, 3) := by decide +kernel
theorem dX4_greatestFrom_34 : decode cX4_greatestFrom 34 = .ok (.istore_n 3, 1) := by decide +kernel
theorem dX4_greatestFrom_35 : decode cX4_greatestFrom 35 = .ok (.iinc 4 1, 3) := by decide +kernel
theorem dX4_greatestFrom_38 : decode cX4_greatestFrom 38 = .ok (.goto (-28), 3) := by decide +kernel
theorem dX4_greatestFrom_41 : decode cX4_greatestFrom 41 = .ok (.iload_n 3, 1) := by decide +kernel
theorem dX4_greatestFrom_42 : decode cX4_greatestFrom 42 = .ok (.ireturn, 1) := by decide +kernel
theorem dX4_hoursChanged_0 : decode cX4_hoursChanged 0 = .ok (.iconst 0, 1) := by decide +kernel
theorem dX4_hoursChanged_1 : decode cX4_hoursChanged 1 = .ok (.istore_n 1, 1) := by decide +kernel
theorem dX4_hoursChanged_2 : decode cX4_hoursChanged 2 = .ok (.iconst 0, 1) := by decide +kernel
theorem dX4_hoursChanged_3 : decode cX4_hoursChanged 3 = .ok (.istore_n 2, 1) := by decide +kernel
theorem dX4_hoursChanged_4 : decode cX4_hoursChanged 4 = .ok (.iconst 0, 1) := by decide +kernel
theorem dX4_hoursChanged_5 : decode cX4_hoursChanged 5 = .ok (.istore_n 3, 1) := by decide +kernel
theorem dX4_hoursChanged_6 : decode cX4_hoursChanged 6 = .ok (.iload_n 3, 1) := by decide +kernel
theorem dX4_hoursChanged_7 : decode cX4_hoursChanged 7 = .ok (.bipush 12, 2) := by decide +kernel
theorem dX4_hoursChanged_9 : decode cX4_hoursChanged 9 = .ok (.if_icmp .ge 54, 3) := by decide +kernel
theorem dX4_hoursChanged_12 : decode cX4_hoursChanged 12 = .ok (.aload_n 0, 1) := by decide +kernel
theorem dX4_hoursChanged_13 : decode cX4_hoursChanged 13 = .ok (.getfield 9, 3) := by decide +kernel
theorem dX4_hoursChanged_16 : decode cX4_hoursChanged 16 = .ok (.iload_n 3, 1) := by decide +kernel
theorem dX4_hoursChanged_17 : decode cX4_hoursChanged 17 = .ok (.iaload, 1) := by decide +kernel
theorem dX4_hoursChanged_18 : decode cX4_hoursChanged 18 = .ok (.aload_n 0, 1) := by decide +kernel
theorem dX4_hoursChanged_19 : decode cX4_hoursChanged 19 = .ok (.getfield 15, 3) := by decide +kernel
theorem dX4_hoursChanged_22 : decode cX4_hoursChanged 22 = .ok (.iload_n 3, 1) := by decide +kernel
theorem dX4_hoursChanged_23 : decode cX4_hoursChanged 23 = .ok (.iaload, 1) := by decide +kernel
theorem dX4_hoursChanged_24 : decode cX4_hoursChanged 24 = .ok (.if_icmp .le 6, 3) := by decide +kernel
theorem dX4_hoursChanged_27 : decode cX4_hoursChanged 27 = .ok (.bipush (-9), 2) := by decide +kernel
theorem dX4_hoursChanged_29 : decode cX4_hoursChanged 29 = .ok (.ireturn, 1) := by decide +kernel
theorem dX4_hoursChanged_30 : decode cX4_hoursChanged 30 = .ok (.aload_n 0, 1) := by decide +kernel
theorem dX4_hoursChanged_31 : decode cX4_hoursChanged 31 = .ok (.iload_n 2, 1) := by decide +kernel
theorem dX4_hoursChanged_32 : decode cX4_hoursChanged 32 = .ok (.iload_n 3, 1) := by decide +kernel
theorem dX4_hoursChanged_33 : decode cX4_hoursChanged 33 = .ok (.iconst 1, 1) := by decide +kernel
theorem dX4_hoursChanged_34 : decode cX4_hoursChanged 34 = .ok (.iadd, 1) := by decide +kernel
theorem dX4_hoursChanged_35 : decode cX4_hoursChanged 35 = .ok (.invokevirtual 33, 3) := by decide +kernel
theorem dX4_hoursChanged_38 : decode cX4_hoursChanged 38 = .ok (.aload_n 0, 1) := by decide +kernel
theorem dX4_hoursChanged_39 : decode cX4_hoursChanged 39 = .ok (.iload_n 2, 1) := by decide +kernel
theorem dX4_hoursChanged_40 : decode cX4_hoursChanged 40 = .ok (.iload_n 3, 1) := by decide +kernel
theorem dX4_hoursChanged_41 : decode cX4_hoursChanged 41 = .ok (.iconst 1, 1) := by decide +kernel
theorem dX4_hoursChanged_42 : decode cX4_hoursChanged 42 = .ok (.iadd, 1) := by decide +kernel
theorem dX4_hoursChanged_43 : decode cX4_hoursChanged 43 = .ok (.invokevirtual 37, 3) := by decide +kernel
theorem dX4_hoursChanged_46 : decode cX4_hoursChanged 46 = .ok (.if_icmp .le 11, 3) := by decide +kernel
theorem dX4_hoursChanged_49 : decode cX4_hoursChanged 49 = .ok (.iload_n 1, 1) := by decide +kernel
theorem dX4_hoursChanged_50 : decode cX4_hoursChanged 50 = .ok (.iconst 1, 1) := by decide +kernel
theorem dX4_hoursChanged_51 : decode cX4_hoursChanged 51 = .ok (.iload_n 3, 1) := by decide +kernel
theorem dX4_hoursChanged_52 : decode cX4_hoursChanged 52 = .ok (.ishl, 1) := by decide +kernel
theorem dX4_hoursChanged_53 : decode cX4_hoursChanged 53 = .ok (.ior, 1) := by decide +kernel
theorem dX4_hoursChanged_54 : decode cX4_hoursChanged 54 = .ok (.istore_n 1, 1) := by decide +kernel
theorem dX4_hoursChanged_55 : decode cX4_hoursChanged 55 = .ok (.iload_n 3, 1) := by decide +kernel
theorem dX4_hoursChanged_56 : decode cX4_hoursChanged 56 = .ok (.istore_n 2, 1) := by decide +kernel
theorem dX4_hoursChanged_57 : decode cX4_hoursChanged 57 = .ok (.iinc 3 1, 3) := by decide +kernel
theorem dX4_hoursChanged_60 : decode cX4_hoursChanged 60 = .ok (.goto (-54), 3) := by decide +kernel
theorem dX4_hoursChanged_63 : decode cX4_hoursChanged 63 = .ok (.iload_n 1, 1) := by decide +kernel
theorem dX4_hoursChanged_64 : decode cX4_hoursChanged 64 = .ok (.ireturn, 1) := by decide +kernel
theorem dX4_changesEach_0 : decode cX4_changesEach 0 = .ok (.iconst 0, 1) := by decide +kernel
theorem dX4_changesEach_1 : decode cX4_changesEach 1 = .ok (.istore_n 2, 1) := by decide +kernel
theorem dX4_changesEach_2 : decode cX4_changesEach 2 = .ok (.iconst 0, 1) := by decide +kernel
theorem dX4_changesEach_3 : decode cX4_changesEach 3 = .ok (.istore_n 3, 1) := by decide +kernel
theorem dX4_changesEach_4 : decode cX4_changesEach 4 = .ok (.iconst 0, 1) := by decide +kernel
theorem dX4_changesEach_5 : decode cX4_changesEach 5 = .ok (.istore 4, 2) := by decide +kernel
theorem dX4_changesEach_7 : decode cX4_changesEach 7 = .ok (.iload 4, 2) := by decide +kernel
theorem dX4_changesEach_9 : decode cX4_changesEach 9 = .ok (.bipush 12, 2) := by decide +kernel
theorem dX4_changesEach_11 : decode cX4_changesEach 11 = .ok (.if_icmp .ge 63, 3) := by decide +kernel
theorem dX4_changesEach_14 : decode cX4_changesEach 14 = .ok (.aload_n 0, 1) := by decide +kernel
theorem dX4_changesEach_15 : decode cX4_changesEach 15 = .ok (.iload 4, 2) := by decide +kernel
theorem dX4_changesEach_17 : decode cX4_changesEach 17 = .ok (.iload 4, 2) := by decide +kernel
theorem dX4_changesEach_19 : decode cX4_changesEach 19 = .ok (.iload_n 1, 1) := by decide +kernel
theorem dX4_changesEach_20 : decode cX4_changesEach 20 = .ok (.iadd, 1) := by decide +kernel
theorem dX4_changesEach_21 : decode cX4_changesEach 21 = .ok (.invokevirtual 33, 3) := by decide +kernel
theorem dX4_changesEach_24 : decode cX4_changesEach 24 = .ok (.istore 5, 2) := by decide +kernel
theorem dX4_changesEach_26 : decode cX4_changesEach 26 = .ok (.iload 5, 2) := by decide +kernel
theorem dX4_changesEach_28 : decode cX4_changesEach 28 = .ok (.aload_n 0, 1) := by decide +kernel
theorem dX4_changesEach_29 : decode cX4_changesEach 29 = .ok (.iload 4, 2) := by decide +kernel
theorem dX4_changesEach_31 : decode cX4_changesEach 31 = .ok (.iload 4, 2) := by decide +kernel
theorem dX4_changesEach_33 : decode cX4_changesEach 33 = .ok (.iload_n 1, 1) := by decide +kernel
theorem dX4_changesEach_34 : decode cX4_changesEach 34 = .ok (.iadd, 1) := by decide +kernel
theorem dX4_changesEach_35 : decode cX4_changesEach 35 = .ok (.invokevirtual 37, 3) := by decide +kernel
theorem dX4_changesEach_38 : decode cX4_changesEach 38 = .ok (.if_icmp .le 6, 3) := by decide +kernel
theorem dX4_changesEach_41 : decode cX4_changesEach 41 = .ok (.bipush (-9), 2) := by decide +kernel
theorem dX4_changesEach_43 : decode cX4_changesEach 43 = .ok (.ireturn, 1) := by decide +kernel
theorem dX4_changesEach_44 : decode cX4_changesEach 44 = .ok (.iload 4, 2) := by decide +kernel
theorem dX4_changesEach_46 : decode cX4_changesEach 46 = .ok (.ifCond .le 12, 3) := by decide +kernel
theorem dX4_changesEach_49 : decode cX4_changesEach 49 = .ok (.iload 5, 2) := by decide +kernel
theorem dX4_changesEach_51 : decode cX4_changesEach 51 = .ok (.iload_n 3, 1) := by decide +kernel
theorem dX4_changesEach_52 : decode cX4_changesEach 52 = .ok (.if_icmp .eq 6, 3) := by decide +kernel
theorem dX4_changesEach_55 : decode cX4_changesEach 55 = .ok (.iinc 2 1, 3) := by decide +kernel
theorem dX4_changesEach_58 : decode cX4_changesEach 58 = .ok (.iload 5, 2) := by decide +kernel
theorem dX4_changesEach_60 : decode cX4_changesEach 60 = .ok (.istore_n 3, 1) := by decide +kernel
theorem dX4_changesEach_61 : decode cX4_changesEach 61 = .ok (.iload 4, 2) := by decide +kernel
theorem dX4_changesEach_63 : decode cX4_changesEach 63 = .ok (.iconst 1, 1) := by decide +kernel
theorem dX4_changesEach_64 : decode cX4_changesEach 64 = .ok (.iload_n 1, 1) := by decide +kernel
theorem dX4_changesEach_65 : decode cX4_changesEach 65 = .ok (.invokestatic 40, 3) := by decide +kernel
theorem dX4_changesEach_68 : decode cX4_changesEach 68 = .ok (.iadd, 1) := by decide +kernel
theorem dX4_changesEach_69 : decode cX4_changesEach 69 = .ok (.istore 4, 2) := by decide +kernel
theorem dX4_changesEach_71 : decode cX4_changesEach 71 = .ok (.goto (-64), 3) := by decide +kernel
theorem dX4_changesEach_74 : decode cX4_changesEach 74 = .ok (.iload_n 2, 1) := by decide +kernel
theorem dX4_changesEach_75 : decode cX4_changesEach 75 = .ok (.ireturn, 1) := by decide +kernel
theorem dX4_mostGoodHours_0 : decode cX4_mostGoodHours 0 = .ok (.aload_n 0, 1) := by decide +kernel
theorem dX4_mostGoodHours_1 : decode cX4_mostGoodHours 1 = .ok (.getfield 18, 3) := by decide +kernel
theorem dX4_mostGoodHours_4 : decode cX4_mostGoodHours 4 = .ok (.iconst 0, 1) := by decide +kernel
theorem dX4_mostGoodHours_5 : decode cX4_mostGoodHours 5 = .ok (.invokestatic 48, 3) := by decide +kernel
theorem dX4_mostGoodHours_8 : decode cX4_mostGoodHours 8 = .ok (.aload_n 0, 1) := by decide +kernel
theorem dX4_mostGoodHours_9 : decode cX4_mostGoodHours 9 = .ok (.getfield 21, 3) := by decide +kernel
theorem dX4_mostGoodHours_12 : decode cX4_mostGoodHours 12 = .ok (.iconst 0, 1) := by decide +kernel
theorem dX4_mostGoodHours_13 : decode cX4_mostGoodHours 13 = .ok (.invokestatic 48, 3) := by decide +kernel
theorem dX4_mostGoodHours_16 : decode cX4_mostGoodHours 16 = .ok (.iconst 0, 1) := by decide +kernel
theorem dX4_mostGoodHours_17 : decode cX4_mostGoodHours 17 = .ok (.iload_n 1, 1) := by decide +kernel
theorem dX4_mostGoodHours_18 : decode cX4_mostGoodHours 18 = .ok (.iconst 3, 1) := by decide +kernel
theorem dX4_mostGoodHours_19 : decode cX4_mostGoodHours 19 = .ok (.invokestatic 45, 3) := by decide +kernel
theorem dX4_mostGoodHours_22 : decode cX4_mostGoodHours 22 = .ok (.invokestatic 40, 3) := by decide +kernel
theorem dX4_mostGoodHours_25 : decode cX4_mostGoodHours 25 = .ok (.istore_n 2, 1) := by decide +kernel
theorem dX4_mostGoodHours_26 : decode cX4_mostGoodHours 26 = .ok (.iconst 0, 1) := by decide +kernel
theorem dX4_mostGoodHours_27 : decode cX4_mostGoodHours 27 = .ok (.istore_n 3, 1) := by decide +kernel
theorem dX4_mostGoodHours_28 : decode cX4_mostGoodHours 28 = .ok (.iload_n 3, 1) := by decide +kernel
theorem dX4_mostGoodHours_29 : decode cX4_mostGoodHours 29 = .ok (.bipush 12, 2) := by decide +kernel
theorem dX4_mostGoodHours_31 : decode cX4_mostGoodHours 31 = .ok (.if_icmp .ge 76, 3) := by decide +kernel
theorem dX4_mostGoodHours_34 : decode cX4_mostGoodHours 34 = .ok (.iload_n 2, 1) := by decide +kernel
theorem dX4_mostGoodHours_35 : decode cX4_mostGoodHours 35 = .ok (.istore 4, 2) := by decide +kernel
theorem dX4_mostGoodHours_37 : decode cX4_mostGoodHours 37 = .ok (.iload 4, 2) := by decide +kernel
theorem dX4_mostGoodHours_39 : decode cX4_mostGoodHours 39 = .ok (.ifCond .lt 34, 3) := by decide +kernel
theorem dX4_mostGoodHours_42 : decode cX4_mostGoodHours 42 = .ok (.aload_n 0, 1) := by decide +kernel
theorem dX4_mostGoodHours_43 : decode cX4_mostGoodHours 43 = .ok (.iload_n 3, 1) := by decide +kernel
theorem dX4_mostGoodHours_44 : decode cX4_mostGoodHours 44 = .ok (.iload 4, 2) := by decide +kernel
theorem dX4_mostGoodHours_46 : decode cX4_mostGoodHours 46 = .ok (.iload 4, 2) := by decide +kernel
theorem dX4_mostGoodHours_48 : decode cX4_mostGoodHours 48 = .ok (.ifCond .le 15, 3) := by decide +kernel
theorem dX4_mostGoodHours_51 : decode cX4_mostGoodHours 51 = .ok (.aload_n 0, 1) := by decide +kernel
theorem dX4_mostGoodHours_52 : decode cX4_mostGoodHours 52 = .ok (.getfield 21, 3) := by decide +kernel
theorem dX4_mostGoodHours_55 : decode cX4_mostGoodHours 55 = .ok (.iload 4, 2) := by decide +kernel
theorem dX4_mostGoodHours_57 : decode cX4_mostGoodHours 57 = .ok (.iconst 1, 1) := by decide +kernel
theorem dX4_mostGoodHours_58 : decode cX4_mostGoodHours 58 = .ok (.isub, 1) := by decide +kernel
theorem dX4_mostGoodHours_59 : decode cX4_mostGoodHours 59 = .ok (.iaload, 1) := by decide +kernel
theorem dX4_mostGoodHours_60 : decode cX4_mostGoodHours 60 = .ok (.goto 4, 3) := by decide +kernel
theorem dX4_mostGoodHours_63 : decode cX4_mostGoodHours 63 = .ok (.iconst 0, 1) := by decide +kernel
theorem dX4_mostGoodHours_64 : decode cX4_mostGoodHours 64 = .ok (.invokevirtual 54, 3) := by decide +kernel
theorem dX4_mostGoodHours_67 : decode cX4_mostGoodHours 67 = .ok (.iinc 4 (-1), 3) := by decide +kernel
theorem dX4_mostGoodHours_70 : decode cX4_mostGoodHours 70 = .ok (.goto (-33), 3) := by decide +kernel
theorem dX4_mostGoodHours_73 : decode cX4_mostGoodHours 73 = .ok (.iconst 0, 1) := by decide +kernel
theorem dX4_mostGoodHours_74 : decode cX4_mostGoodHours 74 = .ok (.istore 4, 2) := by decide +kernel
theorem dX4_mostGoodHours_76 : decode cX4_mostGoodHours 76 = .ok (.iload 4, 2) := by decide +kernel
theorem dX4_mostGoodHours_78 : decode cX4_mostGoodHours 78 = .ok (.iload_n 2, 1) := by decide +kernel
theorem dX4_mostGoodHours_79 : decode cX4_mostGoodHours 79 = .ok (.if_icmp .gt 22, 3) := by decide +kernel
theorem dX4_mostGoodHours_82 : decode cX4_mostGoodHours 82 = .ok (.aload_n 0, 1) := by decide +kernel
theorem dX4_mostGoodHours_83 : decode cX4_mostGoodHours 83 = .ok (.getfield 21, 3) := by decide +kernel
theorem dX4_mostGoodHours_86 : decode cX4_mostGoodHours 86 = .ok (.iload 4, 2) := by decide +kernel
theorem dX4_mostGoodHours_88 : decode cX4_mostGoodHours 88 = .ok (.aload_n 0, 1) := by decide +kernel
theorem dX4_mostGoodHours_89 : decode cX4_mostGoodHours 89 = .ok (.iload 4, 2) := by decide +kernel
theorem dX4_mostGoodHours_91 : decode cX4_mostGoodHours 91 = .ok (.invokevirtual 58, 3) := by decide +kernel
theorem dX4_mostGoodHours_94 : decode cX4_mostGoodHours 94 = .ok (.iastore, 1) := by decide +kernel
theorem dX4_mostGoodHours_95 : decode cX4_mostGoodHours 95 = .ok (.iinc 4 1, 3) := by decide +kernel
theorem dX4_mostGoodHours_98 : decode cX4_mostGoodHours 98 = .ok (.goto (-22), 3) := by decide +kernel
theorem dX4_mostGoodHours_101 : decode cX4_mostGoodHours 101 = .ok (.iinc 3 1, 3) := by decide +kernel
theorem dX4_mostGoodHours_104 : decode cX4_mostGoodHours 104 = .ok (.goto (-76), 3) := by decide +kernel
theorem dX4_mostGoodHours_107 : decode cX4_mostGoodHours 107 = .ok (.aload_n 0, 1) := by decide +kernel
theorem dX4_mostGoodHours_108 : decode cX4_mostGoodHours 108 = .ok (.getfield 21, 3) := by decide +kernel
theorem dX4_mostGoodHours_111 : decode cX4_mostGoodHours 111 = .ok (.iload_n 2, 1) := by decide +kernel
theorem dX4_mostGoodHours_112 : decode cX4_mostGoodHours 112 = .ok (.iaload, 1) := by decide +kernel
theorem dX4_mostGoodHours_113 : decode cX4_mostGoodHours 113 = .ok (.ireturn, 1) := by decide +kernel
theorem dX4_keepHour_0 : decode cX4_keepHour 0 = .ok (.iconst 0, 1) := by decide +kernel
theorem dX4_keepHour_1 : decode cX4_keepHour 1 = .ok (.istore 4, 2) := by decide +kernel
theorem dX4_keepHour_3 : decode cX4_keepHour 3 = .ok (.iload 4, 2) := by decide +kernel
theorem dX4_keepHour_5 : decode cX4_keepHour 5 = .ok (.bipush 99, 2) := by decide +kernel
theorem dX4_keepHour_7 : decode cX4_keepHour 7 = .ok (.if_icmp .gt 68, 3) := by decide +kernel
theorem dX4_keepHour_10 : decode cX4_keepHour 10 = .ok (.iload_n 2, 1) := by decide +kernel
theorem dX4_keepHour_11 : decode cX4_keepHour 11 = .ok (.bipush 100, 2) := by decide +kernel
theorem dX4_keepHour_13 : decode cX4_keepHour 13 = .ok (.imul, 1) := by decide +kernel
theorem dX4_keepHour_14 : decode cX4_keepHour 14 = .ok (.iload 4, 2) := by decide +kernel
theorem dX4_keepHour_16 : decode cX4_keepHour 16 = .ok (.iadd, 1) := by decide +kernel
theorem dX4_keepHour_17 : decode cX4_keepHour 17 = .ok (.istore 5, 2) := by decide +kernel
theorem dX4_keepHour_19 : decode cX4_keepHour 19 = .ok (.aload_n 0, 1) := by decide +kernel
theorem dX4_keepHour_20 : decode cX4_keepHour 20 = .ok (.getfield 9, 3) := by decide +kernel
theorem dX4_keepHour_23 : decode cX4_keepHour 23 = .ok (.iload_n 1, 1) := by decide +kernel
theorem dX4_keepHour_24 : decode cX4_keepHour 24 = .ok (.iaload, 1) := by decide +kernel
theorem dX4_keepHour_25 : decode cX4_keepHour 25 = .ok (.iload 4, 2) := by decide +kernel
theorem dX4_keepHour_27 : decode cX4_keepHour 27 = .ok (.if_icmp .gt 18, 3) := by decide +kernel
theorem dX4_keepHour_30 : decode cX4_keepHour 30 = .ok (.iload 4, 2) := by decide +kernel
theorem dX4_keepHour_32 : decode cX4_keepHour 32 = .ok (.aload_n 0, 1) := by decide +kernel
theorem dX4_keepHour_33 : decode cX4_keepHour 33 = .ok (.getfield 15, 3) := by decide +kernel
theorem dX4_keepHour_36 : decode cX4_keepHour 36 = .ok (.iload_n 1, 1) := by decide +kernel
theorem dX4_keepHour_37 : decode cX4_keepHour 37 = .ok (.iaload, 1) := by decide +kernel
theorem dX4_keepHour_38 : decode cX4_keepHour 38 = .ok (.if_icmp .gt 7, 3) := by decide +kernel
theorem dX4_keepHour_41 : decode cX4_keepHour 41 = .ok (.iconst 1, 1) := by decide +kernel
theorem dX4_keepHour_42 : decode cX4_keepHour 42 = .ok (.goto 4, 3) := by decide +kernel
theorem dX4_keepHour_45 : decode cX4_keepHour 45 = .ok (.iconst 0, 1) := by decide +kernel
theorem dX4_keepHour_46 : decode cX4_keepHour 46 = .ok (.istore 6, 2) := by decide +kernel
theorem dX4_keepHour_48 : decode cX4_keepHour 48 = .ok (.aload_n 0, 1) := by decide +kernel
theorem dX4_keepHour_49 : decode cX4_keepHour 49 = .ok (.getfield 18, 3) := by decide +kernel
theorem dX4_keepHour_52 : decode cX4_keepHour 52 = .ok (.iload 5, 2) := by decide +kernel
theorem dX4_keepHour_54 : decode cX4_keepHour 54 = .ok (.aload_n 0, 1) := by decide +kernel
theorem dX4_keepHour_55 : decode cX4_keepHour 55 = .ok (.getfield 18, 3) := by decide +kernel
theorem dX4_keepHour_58 : decode cX4_keepHour 58 = .ok (.iload 5, 2) := by decide +kernel
theorem dX4_keepHour_60 : decode cX4_keepHour 60 = .ok (.iaload, 1) := by decide +kernel
theorem dX4_keepHour_61 : decode cX4_keepHour 61 = .ok (.iload_n 3, 1) := by decide +kernel
theorem dX4_keepHour_62 : decode cX4_keepHour 62 = .ok (.invokestatic 40, 3) := by decide +kernel
theorem dX4_keepHour_65 : decode cX4_keepHour 65 = .ok (.iload 6, 2) := by decide +kernel
theorem dX4_keepHour_67 : decode cX4_keepHour 67 = .ok (.iadd, 1) := by decide +kernel
theorem dX4_keepHour_68 : decode cX4_keepHour 68 = .ok (.iastore, 1) := by decide +kernel
theorem dX4_keepHour_69 : decode cX4_keepHour 69 = .ok (.iinc 4 1, 3) := by decide +kernel
theorem dX4_keepHour_72 : decode cX4_keepHour 72 = .ok (.goto (-69), 3) := by decide +kernel
theorem dX4_keepHour_75 : decode cX4_keepHour 75 = .ok (.return_, 1) := by decide +kernel
theorem dX4_bestKept_0 : decode cX4_bestKept 0 = .ok (.iconst 0, 1) := by decide +kernel
theorem dX4_bestKept_1 : decode cX4_bestKept 1 = .ok (.istore_n 2, 1) := by decide +kernel
theorem dX4_bestKept_2 : decode cX4_bestKept 2 = .ok (.iconst 0, 1) := by decide +kernel
theorem dX4_bestKept_3 : decode cX4_bestKept 3 = .ok (.istore_n 3, 1) := by decide +kernel
theorem dX4_bestKept_4 : decode cX4_bestKept 4 = .ok (.iload_n 3, 1) := by decide +kernel
theorem dX4_bestKept_5 : decode cX4_bestKept 5 = .ok (.bipush 99, 2) := by decide +kernel
theorem dX4_bestKept_7 : decode cX4_bestKept 7 = .ok (.if_icmp .gt 25, 3) := by decide +kernel
theorem dX4_bestKept_10 : decode cX4_bestKept 10 = .ok (.iload_n 2, 1) := by decide +kernel
theorem dX4_bestKept_11 : decode cX4_bestKept 11 = .ok (.aload_n 0, 1) := by decide +kernel
theorem dX4_bestKept_12 : decode cX4_bestKept 12 = .ok (.getfield 18, 3) := by decide +kernel
theorem dX4_bestKept_15 : decode cX4_bestKept 15 = .ok (.iload_n 1, 1) := by decide +kernel
theorem dX4_bestKept_16 : decode cX4_bestKept 16 = .ok (.bipush 100, 2) := by decide +kernel
theorem dX4_bestKept_18 : decode cX4_bestKept 18 = .ok (.imul, 1) := by decide +kernel
theorem dX4_bestKept_19 : decode cX4_bestKept 19 = .ok (.iload_n 3, 1) := by decide +kernel
theorem dX4_bestKept_20 : decode cX4_bestKept 20 = .ok (.iadd, 1) := by decide +kernel
theorem dX4_bestKept_21 : decode cX4_bestKept 21 = .ok (.iaload, 1) := by decide +kernel
theorem dX4_bestKept_22 : decode cX4_bestKept 22 = .ok (.invokestatic 40, 3) := by decide +kernel
theorem dX4_bestKept_25 : decode cX4_bestKept 25 = .ok (.istore_n 2, 1) := by decide +kernel
theorem dX4_bestKept_26 : decode cX4_bestKept 26 = .ok (.iinc 3 1, 3) := by decide +kernel
theorem dX4_bestKept_29 : decode cX4_bestKept 29 = .ok (.goto (-25), 3) := by decide +kernel
theorem dX4_bestKept_32 : decode cX4_bestKept 32 = .ok (.iload_n 2, 1) := by decide +kernel
theorem dX4_bestKept_33 : decode cX4_bestKept 33 = .ok (.ireturn, 1) := by decide +kernel
theorem dX5_init_0 : decode cX5_init 0 = .ok (.aload_n 0, 1) := by decide +kernel
theorem dX5_init_1 : decode cX5_init 1 = .ok (.invokespecial 3, 3) := by decide +kernel
theorem dX5_init_4 : decode cX5_init 4 = .ok (.aload_n 0, 1) := by decide +kernel
theorem dX5_init_5 : decode cX5_init 5 = .ok (.iconst 0, 1) := by decide +kernel
theorem dX5_init_6 : decode cX5_init 6 = .ok (.putfield 9, 3) := by decide +kernel
theorem dX5_init_9 : decode cX5_init 9 = .ok (.aload_n 0, 1) := by decide +kernel
theorem dX5_init_10 : decode cX5_init 10 = .ok (.iconst 0, 1) := by decide +kernel
theorem dX5_init_11 : decode cX5_init 11 = .ok (.putfield 15, 3) := by decide +kernel
theorem dX5_init_14 : decode cX5_init 14 = .ok (.aload_n 0, 1) := by decide +kernel
theorem dX5_init_15 : decode cX5_init 15 = .ok (.iconst 0, 1) := by decide +kernel
theorem dX5_init_16 : decode cX5_init 16 = .ok (.putfield 18, 3) := by decide +kernel
theorem dX5_init_19 : decode cX5_init 19 = .ok (.aload_n 0, 1) := by decide +kernel
theorem dX5_init_20 : decode cX5_init 20 = .ok (.iconst 0, 1) := by decide +kernel
theorem dX5_init_21 : decode cX5_init 21 = .ok (.putfield 21, 3) := by decide +kernel
theorem dX5_init_24 : decode cX5_init 24 = .ok (.aload_n 0, 1) := by decide +kernel
theorem dX5_init_25 : decode cX5_init 25 = .ok (.iconst 0, 1) := by decide +kernel
theorem dX5_init_26 : decode cX5_init 26 = .ok (.putfield 24, 3) := by decide +kernel
theorem dX5_init_29 : decode cX5_init 29 = .ok (.aload_n 0, 1) := by decide +kernel
theorem dX5_init_30 : decode cX5_init 30 = .ok (.iconst 0, 1) := by decide +kernel
theorem dX5_init_31 : decode cX5_init 31 = .ok (.putfield 27, 3) := by decide +kernel
theorem dX5_init_34 : decode cX5_init 34 = .ok (.aload_n 0, 1) := by decide +kernel
theorem dX5_init_35 : decode cX5_init 35 = .ok (.iconst 0, 1) := by decide +kernel
theorem dX5_init_36 : decode cX5_init 36 = .ok (.putfield 30, 3) := by decide +kernel
theorem dX5_init_39 : decode cX5_init 39 = .ok (.aload_n 0, 1) := by decide +kernel
theorem dX5_init_40 : decode cX5_init 40 = .ok (.iconst 0, 1) := by decide +kernel
theorem dX5_init_41 : decode cX5_init 41 = .ok (.putfield 33, 3) := by decide +kernel
theorem dX5_init_44 : decode cX5_init 44 = .ok (.aload_n 0, 1) := by decide +kernel
theorem dX5_init_45 : decode cX5_init 45 = .ok (.iconst 0, 1) := by decide +kernel
theorem dX5_init_46 : decode cX5_init 46 = .ok (.putfield 36, 3) := by decide +kernel
theorem dX5_init_49 : decode cX5_init 49 = .ok (.return_, 1) := by decide +kernel
theorem dX5_load_0 : decode cX5_load 0 = .ok (.aload_n 0, 1) := by decide +kernel
theorem dX5_load_1 : decode cX5_load 1 = .ok (.aload_n 1, 1) := by decide +kernel
theorem dX5_load_2 : decode cX5_load 2 = .ok (.iload_n 2, 1) := by decide +kernel
theorem dX5_load_3 : decode cX5_load 3 = .ok (.iconst 0, 1) := by decide +kernel
theorem dX5_load_4 : decode cX5_load 4 = .ok (.invokevirtual 39, 3) := by decide +kernel
theorem dX5_load_7 : decode cX5_load 7 = .ok (.putfield 9, 3) := by decide +kernel
theorem dX5_load_10 : decode cX5_load 10 = .ok (.aload_n 0, 1) := by decide +kernel
theorem dX5_load_11 : decode cX5_load 11 = .ok (.aload_n 1, 1) := by decide +kernel
theorem dX5_load_12 : decode cX5_load 12 = .ok (.iload_n 2, 1) := by decide +kernel
theorem dX5_load_13 : decode cX5_load 13 = .ok (.iconst 1, 1) := by decide +kernel
theorem dX5_load_14 : decode cX5_load 14 = .ok (.invokevirtual 39, 3) := by decide +kernel
theorem dX5_load_17 : decode cX5_load 17 = .ok (.putfield 15, 3) := by decide +kernel
theorem dX5_load_20 : decode cX5_load 20 = .ok (.aload_n 0, 1) := by decide +kernel
theorem dX5_load_21 : decode cX5_load 21 = .ok (.aload_n 1, 1) := by decide +kernel
theorem dX5_load_22 : decode cX5_load 22 = .ok (.aload_n 1, 1) := by decide +kernel
theorem dX5_load_23 : decode cX5_load 23 = .ok (.iload_n 2, 1) := by decide +kernel
theorem dX5_load_24 : decode cX5_load 24 = .ok (.iconst 2, 1) := by decide +kernel
theorem dX5_load_25 : decode cX5_load 25 = .ok (.invokevirtual 39, 3) := by decide +kernel
theorem dX5_load_28 : decode cX5_load 28 = .ok (.invokevirtual 45, 3) := by decide +kernel
theorem dX5_load_31 : decode cX5_load 31 = .ok (.aload_n 0, 1) := by decide +kernel
theorem dX5_load_32 : decode cX5_load 32 = .ok (.aload_n 1, 1) := by decide +kernel
theorem dX5_load_33 : decode cX5_load 33 = .ok (.aload_n 1, 1) := by decide +kernel
theorem dX5_load_34 : decode cX5_load 34 = .ok (.iload_n 2, 1) := by decide +kernel
theorem dX5_load_35 : decode cX5_load 35 = .ok (.iconst 3, 1) := by decide +kernel
theorem dX5_load_36 : decode cX5_load 36 = .ok (.invokevirtual 39, 3) := by decide +kernel
theorem dX5_load_39 : decode cX5_load 39 = .ok (.iconst 0, 1) := by decide +kernel
theorem dX5_load_40 : decode cX5_load 40 = .ok (.invokevirtual 49, 3) := by decide +kernel
theorem dX5_load_43 : decode cX5_load 43 = .ok (.putfield 24, 3) := by decide +kernel
theorem dX5_load_46 : decode cX5_load 46 = .ok (.aload_n 0, 1) := by decide +kernel
theorem dX5_load_47 : decode cX5_load 47 = .ok (.aload_n 1, 1) := by decide +kernel
theorem dX5_load_48 : decode cX5_load 48 = .ok (.iload_n 2, 1) := by decide +kernel
theorem dX5_load_49 : decode cX5_load 49 = .ok (.iconst 4, 1) := by decide +kernel
theorem dX5_load_50 : decode cX5_load 50 = .ok (.invokevirtual 39, 3) := by decide +kernel
theorem dX5_load_53 : decode cX5_load 53 = .ok (.putfield 27, 3) := by decide +kernel
theorem dX5_load_56 : decode cX5_load 56 = .ok (.aload_n 0, 1) := by decide +kernel
theorem dX5_load_57 : decode cX5_load 57 = .ok (.aload_n 1, 1) := by decide +kernel
theorem dX5_load_58 : decode cX5_load 58 = .ok (.iload_n 2, 1) := by decide +kernel
theorem dX5_load_59 : decode cX5_load 59 = .ok (.iconst 5, 1) := by decide +kernel
theorem dX5_load_60 : decode cX5_load 60 = .ok (.invokevirtual 39, 3) := by decide +kernel
theorem dX5_load_63 : decode cX5_load 63 = .ok (.putfield 30, 3) := by decide +kernel
theorem dX5_load_66 : decode cX5_load 66 = .ok (.aload_n 0, 1) := by decide +kernel
theorem dX5_load_67 : decode cX5_load 67 = .ok (.aload_n 1, 1) := by decide +kernel
theorem dX5_load_68 : decode cX5_load 68 = .ok (.iload_n 2, 1) := by decide +kernel
theorem dX5_load_69 : decode cX5_load 69 = .ok (.bipush 6, 2) := by decide +kernel
theorem dX5_load_71 : decode cX5_load 71 = .ok (.invokevirtual 39, 3) := by decide +kernel
theorem dX5_load_74 : decode cX5_load 74 = .ok (.putfield 33, 3) := by decide +kernel
theorem dX5_load_77 : decode cX5_load 77 = .ok (.aload_n 0, 1) := by decide +kernel
theorem dX5_load_78 : decode cX5_load 78 = .ok (.aload_n 1, 1) := by decide +kernel
theorem dX5_load_79 : decode cX5_load 79 = .ok (.getfield 52, 3) := by decide +kernel
theorem dX5_load_82 : decode cX5_load 82 = .ok (.putfield 36, 3) := by decide +kernel
theorem dX5_load_85 : decode cX5_load 85 = .ok (.return_, 1) := by decide +kernel
theorem dX5_moveTo_0 : decode cX5_moveTo 0 = .ok (.aload_n 0, 1) := by decide +kernel
theorem dX5_moveTo_1 : decode cX5_moveTo 1 = .ok (.aload_n 1, 1) := by decide +kernel
theorem dX5_moveTo_2 : decode cX5_moveTo 2 = .ok (.iload_n 2, 1) := by decide +kernel
theorem dX5_moveTo_3 : decode cX5_moveTo 3 = .ok (.iconst 0, 1) := by decide +kernel
theorem dX5_moveTo_4 : decode cX5_moveTo 4 = .ok (.invokevirtual 49, 3) := by decide +kernel
theorem dX5_moveTo_7 : decode cX5_moveTo 7 = .ok (.putfield 18, 3) := by decide +kernel
theorem dX5_moveTo_10 : decode cX5_moveTo 10 = .ok (.aload_n 0, 1) := by decide +kernel
theorem dX5_moveTo_11 : decode cX5_moveTo 11 = .ok (.aload_n 1, 1) := by decide +kernel
theorem dX5_moveTo_12 : decode cX5_moveTo 12 = .ok (.iload_n 2, 1) := by decide +kernel
theorem dX5_moveTo_13 : decode cX5_moveTo 13 = .ok (.iconst 1, 1) := by decide +kernel
theorem dX5_moveTo_14 : decode cX5_moveTo 14 = .ok (.invokevirtual 49, 3) := by decide +kernel
theorem dX5_moveTo_17 : decode cX5_moveTo 17 = .ok (.putfield 21, 3) := by decide +kernel
theorem dX5_moveTo_20 : decode cX5_moveTo 20 = .ok (.return_, 1) := by decide +kernel
theorem dX5_squareNeeded_0 : decode cX5_squareNeeded 0 = .ok (.aload_n 0, 1) := by decide +kernel
theorem dX5_squareNeeded_1 : decode cX5_squareNeeded 1 = .ok (.getfield 21, 3) := by decide +kernel
theorem dX5_squareNeeded_4 : decode cX5_squareNeeded 4 = .ok (.iload_n 1, 1) := by decide +kernel
theorem dX5_squareNeeded_5 : decode cX5_squareNeeded 5 = .ok (.isub, 1) := by decide +kernel
theorem dX5_squareNeeded_6 : decode cX5_squareNeeded 6 = .ok (.aload_n 0, 1) := by decide +kernel
theorem dX5_squareNeeded_7 : decode cX5_squareNeeded 7 = .ok (.getfield 36, 3) := by decide +kernel
theorem dX5_squareNeeded_10 : decode cX5_squareNeeded 10 = .ok (.isub, 1) := by decide +kernel
theorem dX5_squareNeeded_11 : decode cX5_squareNeeded 11 = .ok (.invokestatic 53, 3) := by decide +kernel
theorem dX5_squareNeeded_14 : decode cX5_squareNeeded 14 = .ok (.istore_n 2, 1) := by decide +kernel
theorem dX5_squareNeeded_15 : decode cX5_squareNeeded 15 = .ok (.iload_n 2, 1) := by decide +kernel
theorem dX5_squareNeeded_16 : decode cX5_squareNeeded 16 = .ok (.iload_n 2, 1) := by decide +kernel
theorem dX5_squareNeeded_17 : decode cX5_squareNeeded 17 = .ok (.imul, 1) := by decide +kernel
theorem dX5_squareNeeded_18 : decode cX5_squareNeeded 18 = .ok (.istore_n 3, 1) := by decide +kernel
theorem dX5_squareNeeded_19 : decode cX5_squareNeeded 19 = .ok (.aload_n 0, 1) := by decide +kernel
theorem dX5_squareNeeded_20 : decode cX5_squareNeeded 20 = .ok (.getfield 9, 3) := by decide +kernel
theorem dX5_squareNeeded_23 : decode cX5_squareNeeded 23 = .ok (.tableswitch 90 1 5 #[33, 90, 40, 59, 76], 33) := by decide +kernel
theorem dX5_squareNeeded_56 : decode cX5_squareNeeded 56 = .ok (.iload_n 3, 1) := by decide +kernel
theorem dX5_squareNeeded_57 : decode cX5_squareNeeded 57 = .ok (.aload_n 0, 1) := by decide +kernel
theorem dX5_squareNeeded_58 : decode cX5_squareNeeded 58 = .ok (.invokevirtual 59, 3) := by decide +kernel
theorem dX5_squareNeeded_61 : decode cX5_squareNeeded 61 = .ok (.iadd, 1) := by decide +kernel
theorem dX5_squareNeeded_62 : decode cX5_squareNeeded 62 = .ok (.ireturn, 1) := by decide +kernel
theorem dX5_squareNeeded_63 : decode cX5_squareNeeded 63 = .ok (.iload_n 1, 1) := by decide +kernel
theorem dX5_squareNeeded_64 : decode cX5_squareNeeded 64 = .ok (.aload_n 0, 1) := by decide +kernel
theorem dX5_squareNeeded_65 : decode cX5_squareNeeded 65 = .ok (.getfield 36, 3) := by decide +kernel
theorem dX5_squareNeeded_68 : decode cX5_squareNeeded 68 = .ok (.iadd, 1) := by decide +kernel
theorem dX5_squareNeeded_69 : decode cX5_squareNeeded 69 = .ok (.aload_n 0, 1) := by decide +kernel
theorem dX5_squareNeeded_70 : decode cX5_squareNeeded 70 = .ok (.getfield 21, 3) := by decide +kernel
theorem dX5_squareNeeded_73 : decode cX5_squareNeeded 73 = .ok (.if_icmp .gt 7, 3) := by decide +kernel
theorem dX5_squareNeeded_76 : decode cX5_squareNeeded 76 = .ok (.iconst 0, 1) := by decide +kernel
theorem dX5_squareNeeded_77 : decode cX5_squareNeeded 77 = .ok (.goto 4, 3) := by decide +kernel
theorem dX5_squareNeeded_80 : decode cX5_squareNeeded 80 = .ok (.iload_n 3, 1) := by decide +kernel
theorem dX5_squareNeeded_81 : decode cX5_squareNeeded 81 = .ok (.ireturn, 1) := by decide +kernel
theorem dX5_squareNeeded_82 : decode cX5_squareNeeded 82 = .ok (.iload_n 3, 1) := by decide +kernel
theorem dX5_squareNeeded_83 : decode cX5_squareNeeded 83 = .ok (.aload_n 0, 1) := by decide +kernel
theorem dX5_squareNeeded_84 : decode cX5_squareNeeded 84 = .ok (.invokevirtual 59, 3) := by decide +kernel
theorem dX5_squareNeeded_87 : decode cX5_squareNeeded 87 = .ok (.iadd, 1) := by decide +kernel
theorem dX5_squareNeeded_88 : decode cX5_squareNeeded 88 = .ok (.aload_n 0, 1) := by decide +kernel
theorem dX5_squareNeeded_89 : decode cX5_squareNeeded 89 = .ok (.getfield 15, 3) := by decide +kernel
theorem dX5_squareNeeded_92 : decode cX5_squareNeeded 92 = .ok (.aload_n 0, 1) := by decide +kernel
theorem dX5_squareNeeded_93 : decode cX5_squareNeeded 93 = .ok (.getfield 15, 3) := by decide +kernel
theorem dX5_squareNeeded_96 : decode cX5_squareNeeded 96 = .ok (.imul, 1) := by decide +kernel
theorem dX5_squareNeeded_97 : decode cX5_squareNeeded 97 = .ok (.iadd, 1) := by decide +kernel
theorem dX5_squareNeeded_98 : decode cX5_squareNeeded 98 = .ok (.ireturn, 1) := by decide +kernel
theorem dX5_squareNeeded_99 : decode cX5_squareNeeded 99 = .ok (.iload_n 1, 1) := by decide +kernel
theorem dX5_squareNeeded_100 : decode cX5_squareNeeded 100 = .ok (.aload_n 0, 1) := by decide +kernel
theorem dX5_squareNeeded_101 : decode cX5_squareNeeded 101 = .ok (.getfield 15, 3) := by decide +kernel
theorem dX5_squareNeeded_104 : decode cX5_squareNeeded 104 = .ok (.if_icmp .gt 7, 3) := by decide +kernel
theorem dX5_squareNeeded_107 : decode cX5_squareNeeded 107 = .ok (.iconst 0, 1) := by decide +kernel
theorem dX5_squareNeeded_108 : decode cX5_squareNeeded 108 = .ok (.goto 4, 3) := by decide +kernel
theorem dX5_squareNeeded_111 : decode cX5_squareNeeded 111 = .ok (.iload_n 3, 1) := by decide +kernel
theorem dX5_squareNeeded_112 : decode cX5_squareNeeded 112 = .ok (.ireturn, 1) := by decide +kernel
theorem dX5_squareNeeded_113 : decode cX5_squareNeeded 113 = .ok (.iload_n 3, 1) := by decide +kernel
theorem dX5_squareNeeded_114 : decode cX5_squareNeeded 114 = .ok (.ireturn, 1) := by decide +kernel
theorem dX5_halfApartSquare_0 : decode cX5_halfApartSquare 0 = .ok (.aload_n 0, 1) := by decide +kernel
theorem dX5_halfApartSquare_1 : decode cX5_halfApartSquare 1 = .ok (.getfield 18, 3) := by decide +kernel
theorem dX5_halfApartSquare_4 : decode cX5_halfApartSquare 4 = .ok (.aload_n 0, 1) := by decide +kernel
theorem dX5_halfApartSquare_5 : decode cX5_halfApartSquare 5 = .ok (.getfield 24, 3) := by decide +kernel
theorem dX5_halfApartSquare_8 : decode cX5_halfApartSquare 8 = .ok (.isub, 1) := by decide +kernel
theorem dX5_halfApartSquare_9 : decode cX5_halfApartSquare 9 = .ok (.iconst 2, 1) := by decide +kernel
theorem dX5_halfApartSquare_10 : decode cX5_halfApartSquare 10 = .ok (.idiv, 1) := by decide +kernel
theorem dX5_halfApartSquare_11 : decode cX5_halfApartSquare 11 = .ok (.istore_n 1, 1) := by decide +kernel
theorem dX5_halfApartSquare_12 : decode cX5_halfApartSquare 12 = .ok (.iload_n 1, 1) := by decide +kernel
theorem dX5_halfApartSquare_13 : decode cX5_halfApartSquare 13 = .ok (.iload_n 1, 1) := by decide +kernel
theorem dX5_halfApartSquare_14 : decode cX5_halfApartSquare 14 = .ok (.imul, 1) := by decide +kernel
theorem dX5_halfApartSquare_15 : decode cX5_halfApartSquare 15 = .ok (.ireturn, 1) := by decide +kernel
theorem dX5_leastAt_0 : decode cX5_leastAt 0 = .ok (.aload_n 0, 1) := by decide +kernel
theorem dX5_leastAt_1 : decode cX5_leastAt 1 = .ok (.iload_n 1, 1) := by decide +kernel
theorem dX5_leastAt_2 : decode cX5_leastAt 2 = .ok (.invokevirtual 63, 3) := by decide +kernel
theorem dX5_leastAt_5 : decode cX5_leastAt 5 = .ok (.istore_n 2, 1) := by decide +kernel
theorem dX5_leastAt_6 : decode cX5_leastAt 6 = .ok (.iload_n 2, 1) := by decide +kernel
theorem dX5_leastAt_7 : decode cX5_leastAt 7 = .ok (.invokestatic 66, 3) := by decide +kernel
theorem dX5_leastAt_10 : decode cX5_leastAt 10 = .ok (.istore_n 3, 1) := by decide +kernel
theorem dX5_leastAt_11 : decode cX5_leastAt 11 = .ok (.iload_n 3, 1) := by decide +kernel
theorem dX5_leastAt_12 : decode cX5_leastAt 12 = .ok (.iload_n 3, 1) := by decide +kernel
theorem dX5_leastAt_13 : decode cX5_leastAt 13 = .ok (.imul, 1) := by decide +kernel
theorem dX5_leastAt_14 : decode cX5_leastAt 14 = .ok (.iload_n 2, 1) := by decide +kernel
theorem dX5_leastAt_15 : decode cX5_leastAt 15 = .ok (.if_icmp .ge 9, 3) := by decide +kernel
theorem dX5_leastAt_18 : decode cX5_leastAt 18 = .ok (.iload_n 3, 1) := by decide +kernel
theorem dX5_leastAt_19 : decode cX5_leastAt 19 = .ok (.iconst 1, 1) := by decide +kernel
theorem dX5_leastAt_20 : decode cX5_leastAt 20 = .ok (.iadd, 1) := by decide +kernel
theorem dX5_leastAt_21 : decode cX5_leastAt 21 = .ok (.goto 4, 3) := by decide +kernel
theorem dX5_leastAt_24 : decode cX5_leastAt 24 = .ok (.iload_n 3, 1) := by decide +kernel
theorem dX5_leastAt_25 : decode cX5_leastAt 25 = .ok (.ireturn, 1) := by decide +kernel
theorem dX5_leastFor_0 : decode cX5_leastFor 0 = .ok (.iconst 0, 1) := by decide +kernel
theorem dX5_leastFor_1 : decode cX5_leastFor 1 = .ok (.istore_n 2, 1) := by decide +kernel
theorem dX5_leastFor_2 : decode cX5_leastFor 2 = .ok (.iconst 0, 1) := by decide +kernel
theorem dX5_leastFor_3 : decode cX5_leastFor 3 = .ok (.istore_n 3, 1) := by decide +kernel
theorem dX5_leastFor_4 : decode cX5_leastFor 4 = .ok (.iload_n 3, 1) := by decide +kernel
theorem dX5_leastFor_5 : decode cX5_leastFor 5 = .ok (.aload_n 1, 1) := by decide +kernel
theorem dX5_leastFor_6 : decode cX5_leastFor 6 = .ok (.arraylength, 1) := by decide +kernel
theorem dX5_leastFor_7 : decode cX5_leastFor 7 = .ok (.if_icmp .ge 21, 3) := by decide +kernel
theorem dX5_leastFor_10 : decode cX5_leastFor 10 = .ok (.iload_n 2, 1) := by decide +kernel
theorem dX5_leastFor_11 : decode cX5_leastFor 11 = .ok (.aload_n 0, 1) := by decide +kernel
theorem dX5_leastFor_12 : decode cX5_leastFor 12 = .ok (.aload_n 1, 1) := by decide +kernel
theorem dX5_leastFor_13 : decode cX5_leastFor 13 = .ok (.iload_n 3, 1) := by decide +kernel
theorem dX5_leastFor_14 : decode cX5_leastFor 14 = .ok (.iaload, 1) := by decide +kernel
theorem dX5_leastFor_15 : decode cX5_leastFor 15 = .ok (.invokevirtual 69, 3) := by decide +kernel
theorem dX5_leastFor_18 : decode cX5_leastFor 18 = .ok (.invokestatic 72, 3) := by decide +kernel
theorem dX5_leastFor_21 : decode cX5_leastFor 21 = .ok (.istore_n 2, 1) := by decide +kernel
theorem dX5_leastFor_22 : decode cX5_leastFor 22 = .ok (.iinc 3 1, 3) := by decide +kernel
theorem dX5_leastFor_25 : decode cX5_leastFor 25 = .ok (.goto (-21), 3) := by decide +kernel
theorem dX5_leastFor_28 : decode cX5_leastFor 28 = .ok (.iload_n 2, 1) := by decide +kernel
theorem dX5_leastFor_29 : decode cX5_leastFor 29 = .ok (.ireturn, 1) := by decide +kernel
theorem dX5_hangs_0 : decode cX5_hangs 0 = .ok (.iload_n 1, 1) := by decide +kernel
theorem dX5_hangs_1 : decode cX5_hangs 1 = .ok (.iload_n 1, 1) := by decide +kernel
theorem dX5_hangs_2 : decode cX5_hangs 2 = .ok (.imul, 1) := by decide +kernel
theorem dX5_hangs_3 : decode cX5_hangs 3 = .ok (.aload_n 0, 1) := by decide +kernel
theorem dX5_hangs_4 : decode cX5_hangs 4 = .ok (.iload_n 2, 1) := by decide +kernel
theorem dX5_hangs_5 : decode cX5_hangs 5 = .ok (.invokevirtual 63, 3) := by decide +kernel
theorem dX5_hangs_8 : decode cX5_hangs 8 = .ok (.if_icmp .ge 7, 3) := by decide +kernel
theorem dX5_hangs_11 : decode cX5_hangs 11 = .ok (.iconst 1, 1) := by decide +kernel
theorem dX5_hangs_12 : decode cX5_hangs 12 = .ok (.goto 4, 3) := by decide +kernel
theorem dX5_hangs_15 : decode cX5_hangs 15 = .ok (.iconst 0, 1) := by decide +kernel
theorem dX5_hangs_16 : decode cX5_hangs 16 = .ok (.ireturn, 1) := by decide +kernel
theorem dX5_hangingWith_0 : decode cX5_hangingWith 0 = .ok (.iconst 0, 1) := by decide +kernel
theorem dX5_hangingWith_1 : decode cX5_hangingWith 1 = .ok (.istore_n 3, 1) := by decide +kernel
theorem dX5_hangingWith_2 : decode cX5_hangingWith 2 = .ok (.iconst 0, 1) := by decide +kernel
theorem dX5_hangingWith_3 : decode cX5_hangingWith 3 = .ok (.istore 4, 2) := by decide +kernel
theorem dX5_hangingWith_5 : decode cX5_hangingWith 5 = .ok (.iload 4, 2) := by decide +kernel
theorem dX5_hangingWith_7 : decode cX5_hangingWith 7 = .ok (.aload_n 2, 1) := by decide +kernel
theorem dX5_hangingWith_8 : decode cX5_hangingWith 8 = .ok (.arraylength, 1) := by decide +kernel
theorem dX5_hangingWith_9 : decode cX5_hangingWith 9 = .ok (.if_icmp .ge 28, 3) := by decide +kernel
theorem dX5_hangingWith_12 : decode cX5_hangingWith 12 = .ok (.aload_n 0, 1) := by decide +kernel
theorem dX5_hangingWith_13 : decode cX5_hangingWith 13 = .ok (.iload_n 1, 1) := by decide +kernel
theorem dX5_hangingWith_14 : decode cX5_hangingWith 14 = .ok (.aload_n 2, 1) := by decide +kernel
theorem dX5_hangingWith_15 : decode cX5_hangingWith 15 = .ok (.iload 4, 2) := by decide +kernel
theorem dX5_hangingWith_17 : decode cX5_hangingWith 17 = .ok (.iaload, 1) := by decide +kernel
theorem dX5_hangingWith_18 : decode cX5_hangingWith 18 = .ok (.invokevirtual 75, 3) := by decide +kernel
theorem dX5_hangingWith_21 : decode cX5_hangingWith 21 = .ok (.ifCond .eq 10, 3) := by decide +kernel
theorem dX5_hangingWith_24 : decode cX5_hangingWith 24 = .ok (.iload_n 3, 1) := by decide +kernel
theorem dX5_hangingWith_25 : decode cX5_hangingWith 25 = .ok (.iconst 1, 1) := by decide +kernel
theorem dX5_hangingWith_26 : decode cX5_hangingWith 26 = .ok (.iload 4, 2) := by decide +kernel
theorem dX5_hangingWith_28 : decode cX5_hangingWith 28 = .ok (.ishl, 1) := by decide +kernel
theorem dX5_hangingWith_29 : decode cX5_hangingWith 29 = .ok (.ior, 1) := by decide +kernel
theorem dX5_hangingWith_30 : decode cX5_hangingWith 30 = .ok (.istore_n 3, 1) := by decide +kernel
theorem dX5_hangingWith_31 : decode cX5_hangingWith 31 = .ok (.iinc 4 1, 3) := by decide +kernel
theorem dX5_hangingWith_34 : decode cX5_hangingWith 34 = .ok (.goto (-29), 3) := by decide +kernel
theorem dX5_hangingWith_37 : decode cX5_hangingWith 37 = .ok (.iload_n 3, 1) := by decide +kernel
theorem dX5_hangingWith_38 : decode cX5_hangingWith 38 = .ok (.ireturn, 1) := by decide +kernel
theorem dX5_hangingHours_0 : decode cX5_hangingHours 0 = .ok (.aload_n 0, 1) := by decide +kernel
theorem dX5_hangingHours_1 : decode cX5_hangingHours 1 = .ok (.aload_n 0, 1) := by decide +kernel
theorem dX5_hangingHours_2 : decode cX5_hangingHours 2 = .ok (.getfield 27, 3) := by decide +kernel
theorem dX5_hangingHours_5 : decode cX5_hangingHours 5 = .ok (.aload_n 1, 1) := by decide +kernel
theorem dX5_hangingHours_6 : decode cX5_hangingHours 6 = .ok (.invokevirtual 79, 3) := by decide +kernel
theorem dX5_hangingHours_9 : decode cX5_hangingHours 9 = .ok (.ireturn, 1) := by decide +kernel
theorem dX5_tooFarHours_0 : decode cX5_tooFarHours 0 = .ok (.iconst 0, 1) := by decide +kernel
theorem dX5_tooFarHours_1 : decode cX5_tooFarHours 1 = .ok (.istore_n 2, 1) := by decide +kernel
theorem dX5_tooFarHours_2 : decode cX5_tooFarHours 2 = .ok (.iconst 0, 1) := by decide +kernel
theorem dX5_tooFarHours_3 : decode cX5_tooFarHours 3 = .ok (.istore_n 3, 1) := by decide +kernel
theorem dX5_tooFarHours_4 : decode cX5_tooFarHours 4 = .ok (.iload_n 3, 1) := by decide +kernel
theorem dX5_tooFarHours_5 : decode cX5_tooFarHours 5 = .ok (.aload_n 1, 1) := by decide +kernel
theorem dX5_tooFarHours_6 : decode cX5_tooFarHours 6 = .ok (.arraylength, 1) := by decide +kernel
theorem dX5_tooFarHours_7 : decode cX5_tooFarHours 7 = .ok (.if_icmp .ge 33, 3) := by decide +kernel
theorem dX5_tooFarHours_10 : decode cX5_tooFarHours 10 = .ok (.aload_n 0, 1) := by decide +kernel
theorem dX5_tooFarHours_11 : decode cX5_tooFarHours 11 = .ok (.aload_n 0, 1) := by decide +kernel
theorem dX5_tooFarHours_12 : decode cX5_tooFarHours 12 = .ok (.getfield 27, 3) := by decide +kernel
theorem dX5_tooFarHours_15 : decode cX5_tooFarHours 15 = .ok (.aload_n 1, 1) := by decide +kernel
theorem dX5_tooFarHours_16 : decode cX5_tooFarHours 16 = .ok (.iload_n 3, 1) := by decide +kernel
theorem dX5_tooFarHours_17 : decode cX5_tooFarHours 17 = .ok (.iaload, 1) := by decide +kernel
theorem dX5_tooFarHours_18 : decode cX5_tooFarHours 18 = .ok (.invokevirtual 83, 3) := by decide +kernel
theorem dX5_tooFarHours_21 : decode cX5_tooFarHours 21 = .ok (.aload_n 0, 1) := by decide +kernel
theorem dX5_tooFarHours_22 : decode cX5_tooFarHours 22 = .ok (.getfield 33, 3) := by decide +kernel
theorem dX5_tooFarHours_25 : decode cX5_tooFarHours 25 = .ok (.if_icmp .le 9, 3) := by decide +kernel
theorem dX5_tooFarHours_28 : decode cX5_tooFarHours 28 = .ok (.iload_n 2, 1) := by decide +kernel
theorem dX5_tooFarHours_29 : decode cX5_tooFarHours 29 = .ok (.iconst 1, 1) := by decide +kernel
theorem dX5_tooFarHours_30 : decode cX5_tooFarHours 30 = .ok (.iload_n 3, 1) := by decide +kernel
theorem dX5_tooFarHours_31 : decode cX5_tooFarHours 31 = .ok (.ishl, 1) := by decide +kernel
theorem dX5_tooFarHours_32 : decode cX5_tooFarHours 32 = .ok (.ior, 1) := by decide +kernel
theorem dX5_tooFarHours_33 : decode cX5_tooFarHours 33 = .ok (.istore_n 2, 1) := by decide +kernel
theorem dX5_tooFarHours_34 : decode cX5_tooFarHours 34 = .ok (.iinc 3 1, 3) := by decide +kernel
theorem dX5_tooFarHours_37 : decode cX5_tooFarHours 37 = .ok (.goto (-33), 3) := by decide +kernel
theorem dX5_tooFarHours_40 : decode cX5_tooFarHours 40 = .ok (.iload_n 2, 1) := by decide +kernel
theorem dX5_tooFarHours_41 : decode cX5_tooFarHours 41 = .ok (.ireturn, 1) := by decide +kernel
theorem dX5_reach_0 : decode cX5_reach 0 = .ok (.iload_n 1, 1) := by decide +kernel
theorem dX5_reach_1 : decode cX5_reach 1 = .ok (.iload_n 1, 1) := by decide +kernel
theorem dX5_reach_2 : decode cX5_reach 2 = .ok (.imul, 1) := by decide +kernel
theorem dX5_reach_3 : decode cX5_reach 3 = .ok (.aload_n 0, 1) := by decide +kernel
theorem dX5_reach_4 : decode cX5_reach 4 = .ok (.iload_n 2, 1) := by decide +kernel
theorem dX5_reach_5 : decode cX5_reach 5 = .ok (.invokevirtual 63, 3) := by decide +kernel
theorem dX5_reach_8 : decode cX5_reach 8 = .ok (.isub, 1) := by decide +kernel
theorem dX5_reach_9 : decode cX5_reach 9 = .ok (.istore_n 3, 1) := by decide +kernel
theorem dX5_reach_10 : decode cX5_reach 10 = .ok (.iload_n 3, 1) := by decide +kernel
theorem dX5_reach_11 : decode cX5_reach 11 = .ok (.ifCond .ge 5, 3) := by decide +kernel
theorem dX5_reach_14 : decode cX5_reach 14 = .ok (.iconst 0, 1) := by decide +kernel
theorem dX5_reach_15 : decode cX5_reach 15 = .ok (.ireturn, 1) := by decide +kernel
theorem dX5_reach_16 : decode cX5_reach 16 = .ok (.iload_n 3, 1) := by decide +kernel
theorem dX5_reach_17 : decode cX5_reach 17 = .ok (.invokestatic 66, 3) := by decide +kernel
theorem dX5_reach_20 : decode cX5_reach 20 = .ok (.istore 4, 2) := by decide +kernel
theorem dX5_reach_22 : decode cX5_reach 22 = .ok (.aload_n 0, 1) := by decide +kernel
theorem dX5_reach_23 : decode cX5_reach 23 = .ok (.getfield 9, 3) := by decide +kernel
theorem dX5_reach_26 : decode cX5_reach 26 = .ok (.tableswitch 75 1 5 #[34, 39, 46, 34, 56], 34) := by decide +kernel
theorem dX5_reach_60 : decode cX5_reach 60 = .ok (.iload 4, 2) := by decide +kernel
theorem dX5_reach_62 : decode cX5_reach 62 = .ok (.iconst 2, 1) := by decide +kernel
theorem dX5_reach_63 : decode cX5_reach 63 = .ok (.idiv, 1) := by decide +kernel
theorem dX5_reach_64 : decode cX5_reach 64 = .ok (.ireturn, 1) := by decide +kernel
theorem dX5_reach_65 : decode cX5_reach 65 = .ok (.iconst 3, 1) := by decide +kernel
theorem dX5_reach_66 : decode cX5_reach 66 = .ok (.iload 4, 2) := by decide +kernel
theorem dX5_reach_68 : decode cX5_reach 68 = .ok (.imul, 1) := by decide +kernel
theorem dX5_reach_69 : decode cX5_reach 69 = .ok (.iconst 4, 1) := by decide +kernel
theorem dX5_reach_70 : decode cX5_reach 70 = .ok (.idiv, 1) := by decide +kernel
theorem dX5_reach_71 : decode cX5_reach 71 = .ok (.ireturn, 1) := by decide +kernel
theorem dX5_reach_72 : decode cX5_reach 72 = .ok (.iload 4, 2) := by decide +kernel
theorem dX5_reach_74 : decode cX5_reach 74 = .ok (.aload_n 0, 1) := by decide +kernel
theorem dX5_reach_75 : decode cX5_reach 75 = .ok (.getfield 15, 3) := by decide +kernel
theorem dX5_reach_78 : decode cX5_reach 78 = .ok (.invokestatic 86, 3) := by decide +kernel
theorem dX5_reach_81 : decode cX5_reach 81 = .ok (.ireturn, 1) := by decide +kernel
theorem dX5_reach_82 : decode cX5_reach 82 = .ok (.iload_n 2, 1) := by decide +kernel
theorem dX5_reach_83 : decode cX5_reach 83 = .ok (.aload_n 0, 1) := by decide +kernel
theorem dX5_reach_84 : decode cX5_reach 84 = .ok (.getfield 15, 3) := by decide +kernel
theorem dX5_reach_87 : decode cX5_reach 87 = .ok (.if_icmp .gt 7, 3) := by decide +kernel
theorem dX5_reach_90 : decode cX5_reach 90 = .ok (.iconst 0, 1) := by decide +kernel
theorem dX5_reach_91 : decode cX5_reach 91 = .ok (.goto 9, 3) := by decide +kernel
theorem dX5_reach_94 : decode cX5_reach 94 = .ok (.iconst 3, 1) := by decide +kernel
theorem dX5_reach_95 : decode cX5_reach 95 = .ok (.iload 4, 2) := by decide +kernel
theorem dX5_reach_97 : decode cX5_reach 97 = .ok (.imul, 1) := by decide +kernel
theorem dX5_reach_98 : decode cX5_reach 98 = .ok (.iconst 4, 1) := by decide +kernel
theorem dX5_reach_99 : decode cX5_reach 99 = .ok (.idiv, 1) := by decide +kernel
theorem dX5_reach_100 : decode cX5_reach 100 = .ok (.ireturn, 1) := by decide +kernel
theorem dX5_reach_101 : decode cX5_reach 101 = .ok (.iload 4, 2) := by decide +kernel
theorem dX5_reach_103 : decode cX5_reach 103 = .ok (.ireturn, 1) := by decide +kernel
theorem dX5_greatestAt_0 : decode cX5_greatestAt 0 = .ok (.iconst 0, 1) := by decide +kernel
theorem dX5_greatestAt_1 : decode cX5_greatestAt 1 = .ok (.istore_n 2, 1) := by decide +kernel
theorem dX5_greatestAt_2 : decode cX5_greatestAt 2 = .ok (.bipush 64, 2) := by decide +kernel
theorem dX5_greatestAt_4 : decode cX5_greatestAt 4 = .ok (.istore_n 3, 1) := by decide +kernel
theorem dX5_greatestAt_5 : decode cX5_greatestAt 5 = .ok (.iload_n 3, 1) := by decide +kernel
theorem dX5_greatestAt_6 : decode cX5_greatestAt 6 = .ok (.ifCond .le 39, 3) := by decide +kernel
theorem dX5_greatestAt_9 : decode cX5_greatestAt 9 = .ok (.iload_n 2, 1) := by decide +kernel
theorem dX5_greatestAt_10 : decode cX5_greatestAt 10 = .ok (.iload_n 3, 1) := by decide +kernel
theorem dX5_greatestAt_11 : decode cX5_greatestAt 11 = .ok (.iadd, 1) := by decide +kernel
theorem dX5_greatestAt_12 : decode cX5_greatestAt 12 = .ok (.istore 4, 2) := by decide +kernel
theorem dX5_greatestAt_14 : decode cX5_greatestAt 14 = .ok (.iload 4, 2) := by decide +kernel
theorem dX5_greatestAt_16 : decode cX5_greatestAt 16 = .ok (.bipush 99, 2) := by decide +kernel
theorem dX5_greatestAt_18 : decode cX5_greatestAt 18 = .ok (.if_icmp .gt 20, 3) := by decide +kernel
theorem dX5_greatestAt_21 : decode cX5_greatestAt 21 = .ok (.aload_n 0, 1) := by decide +kernel
theorem dX5_greatestAt_22 : decode cX5_greatestAt 22 = .ok (.iload 4, 2) := by decide +kernel
theorem dX5_greatestAt_24 : decode cX5_greatestAt 24 = .ok (.iload_n 1, 1) := by decide +kernel
theorem dX5_greatestAt_25 : decode cX5_greatestAt 25 = .ok (.invokevirtual 83, 3) := by decide +kernel
theorem dX5_greatestAt_28 : decode cX5_greatestAt 28 = .ok (.aload_n 0, 1) := by decide +kernel
theorem dX5_greatestAt_29 : decode cX5_greatestAt 29 = .ok (.getfield 33, 3) := by decide +kernel
theorem dX5_greatestAt_32 : decode cX5_greatestAt 32 = .ok (.if_icmp .gt 6, 3) := by decide +kernel
theorem dX5_greatestAt_35 : decode cX5_greatestAt 35 = .ok (.iload 4, 2) := by decide +kernel
theorem dX5_greatestAt_37 : decode cX5_greatestAt 37 = .ok (.istore_n 2, 1) := by decide +kernel
theorem dX5_greatestAt_38 : decode cX5_greatestAt 38 = .ok (.iload_n 3, 1) := by decide +kernel
theorem dX5_greatestAt_39 : decode cX5_greatestAt 39 = .ok (.iconst 2, 1) := by decide +kernel
theorem dX5_greatestAt_40 : decode cX5_greatestAt 40 = .ok (.idiv, 1) := by decide +kernel
theorem dX5_greatestAt_41 : decode cX5_greatestAt 41 = .ok (.istore_n 3, 1) := by decide +kernel
theorem dX5_greatestAt_42 : decode cX5_greatestAt 42 = .ok (.goto (-37), 3) := by decide +kernel
theorem dX5_greatestAt_45 : decode cX5_greatestAt 45 = .ok (.iload_n 2, 1) := by decide +kernel
theorem dX5_greatestAt_46 : decode cX5_greatestAt 46 = .ok (.ireturn, 1) := by decide +kernel
theorem dX5_stillMiddle_0 : decode cX5_stillMiddle 0 = .ok (.aload_n 0, 1) := by decide +kernel
theorem dX5_stillMiddle_1 : decode cX5_stillMiddle 1 = .ok (.getfield 9, 3) := by decide +kernel
theorem dX5_stillMiddle_4 : decode cX5_stillMiddle 4 = .ok (.iconst 1, 1) := by decide +kernel
theorem dX5_stillMiddle_5 : decode cX5_stillMiddle 5 = .ok (.if_icmp .eq 11, 3) := by decide +kernel
theorem dX5_stillMiddle_8 : decode cX5_stillMiddle 8 = .ok (.aload_n 0, 1) := by decide +kernel
theorem dX5_stillMiddle_9 : decode cX5_stillMiddle 9 = .ok (.getfield 9, 3) := by decide +kernel
theorem dX5_stillMiddle_12 : decode cX5_stillMiddle 12 = .ok (.iconst 4, 1) := by decide +kernel
theorem dX5_stillMiddle_13 : decode cX5_stillMiddle 13 = .ok (.if_icmp .ne 17, 3) := by decide +kernel
theorem dX5_stillMiddle_16 : decode cX5_stillMiddle 16 = .ok (.aload_n 0, 1) := by decide +kernel
theorem dX5_stillMiddle_17 : decode cX5_stillMiddle 17 = .ok (.getfield 18, 3) := by decide +kernel
theorem dX5_stillMiddle_20 : decode cX5_stillMiddle 20 = .ok (.aload_n 0, 1) := by decide +kernel
theorem dX5_stillMiddle_21 : decode cX5_stillMiddle 21 = .ok (.getfield 24, 3) := by decide +kernel
theorem dX5_stillMiddle_24 : decode cX5_stillMiddle 24 = .ok (.iadd, 1) := by decide +kernel
theorem dX5_stillMiddle_25 : decode cX5_stillMiddle 25 = .ok (.iconst 2, 1) := by decide +kernel
theorem dX5_stillMiddle_26 : decode cX5_stillMiddle 26 = .ok (.idiv, 1) := by decide +kernel
theorem dX5_stillMiddle_27 : decode cX5_stillMiddle 27 = .ok (.goto 7, 3) := by decide +kernel
theorem dX5_stillMiddle_30 : decode cX5_stillMiddle 30 = .ok (.aload_n 0, 1) := by decide +kernel
theorem dX5_stillMiddle_31 : decode cX5_stillMiddle 31 = .ok (.getfield 18, 3) := by decide +kernel
theorem dX5_stillMiddle_34 : decode cX5_stillMiddle 34 = .ok (.ireturn, 1) := by decide +kernel
theorem dX5_blownMiddle_0 : decode cX5_blownMiddle 0 = .ok (.aload_n 0, 1) := by decide +kernel
theorem dX5_blownMiddle_1 : decode cX5_blownMiddle 1 = .ok (.aload_n 0, 1) := by decide +kernel
theorem dX5_blownMiddle_2 : decode cX5_blownMiddle 2 = .ok (.getfield 27, 3) := by decide +kernel
theorem dX5_blownMiddle_5 : decode cX5_blownMiddle 5 = .ok (.iload_n 1, 1) := by decide +kernel
theorem dX5_blownMiddle_6 : decode cX5_blownMiddle 6 = .ok (.invokevirtual 83, 3) := by decide +kernel
theorem dX5_blownMiddle_9 : decode cX5_blownMiddle 9 = .ok (.istore_n 3, 1) := by decide +kernel
theorem dX5_blownMiddle_10 : decode cX5_blownMiddle 10 = .ok (.aload_n 0, 1) := by decide +kernel
theorem dX5_blownMiddle_11 : decode cX5_blownMiddle 11 = .ok (.invokevirtual 89, 3) := by decide +kernel
theorem dX5_blownMiddle_14 : decode cX5_blownMiddle 14 = .ok (.iload_n 3, 1) := by decide +kernel
theorem dX5_blownMiddle_15 : decode cX5_blownMiddle 15 = .ok (.ineg, 1) := by decide +kernel
theorem dX5_blownMiddle_16 : decode cX5_blownMiddle 16 = .ok (.iload_n 3, 1) := by decide +kernel
theorem dX5_blownMiddle_17 : decode cX5_blownMiddle 17 = .ok (.iload_n 2, 1) := by decide +kernel
theorem dX5_blownMiddle_18 : decode cX5_blownMiddle 18 = .ok (.invokestatic 86, 3) := by decide +kernel
theorem dX5_blownMiddle_21 : decode cX5_blownMiddle 21 = .ok (.invokestatic 72, 3) := by decide +kernel
theorem dX5_blownMiddle_24 : decode cX5_blownMiddle 24 = .ok (.iadd, 1) := by decide +kernel
theorem dX5_blownMiddle_25 : decode cX5_blownMiddle 25 = .ok (.ireturn, 1) := by decide +kernel
theorem dX5_touching_0 : decode cX5_touching 0 = .ok (.iconst 0, 1) := by decide +kernel
theorem dX5_touching_1 : decode cX5_touching 1 = .ok (.istore 5, 2) := by decide +kernel
theorem dX5_touching_3 : decode cX5_touching 3 = .ok (.iconst 0, 1) := by decide +kernel
theorem dX5_touching_4 : decode cX5_touching 4 = .ok (.istore 6, 2) := by decide +kernel
theorem dX5_touching_6 : decode cX5_touching 6 = .ok (.iload 6, 2) := by decide +kernel
theorem dX5_touching_8 : decode cX5_touching 8 = .ok (.aload 4, 2) := by decide +kernel
theorem dX5_touching_10 : decode cX5_touching 10 = .ok (.arraylength, 1) := by decide +kernel
theorem dX5_touching_11 : decode cX5_touching 11 = .ok (.if_icmp .ge 33, 3) := by decide +kernel
theorem dX5_touching_14 : decode cX5_touching 14 = .ok (.aload_n 0, 1) := by decide +kernel
theorem dX5_touching_15 : decode cX5_touching 15 = .ok (.iload_n 1, 1) := by decide +kernel
theorem dX5_touching_16 : decode cX5_touching 16 = .ok (.aload_n 2, 1) := by decide +kernel
theorem dX5_touching_17 : decode cX5_touching 17 = .ok (.iload_n 3, 1) := by decide +kernel
theorem dX5_touching_18 : decode cX5_touching 18 = .ok (.aload 4, 2) := by decide +kernel
theorem dX5_touching_20 : decode cX5_touching 20 = .ok (.iload 6, 2) := by decide +kernel
theorem dX5_touching_22 : decode cX5_touching 22 = .ok (.iaload, 1) := by decide +kernel
theorem dX5_touching_23 : decode cX5_touching 23 = .ok (.invokevirtual 92, 3) := by decide +kernel
theorem dX5_touching_26 : decode cX5_touching 26 = .ok (.ifCond .eq 12, 3) := by decide +kernel
theorem dX5_touching_29 : decode cX5_touching 29 = .ok (.iload 5, 2) := by decide +kernel
theorem dX5_touching_31 : decode cX5_touching 31 = .ok (.iconst 1, 1) := by decide +kernel
theorem dX5_touching_32 : decode cX5_touching 32 = .ok (.iload 6, 2) := by decide +kernel
theorem dX5_touching_34 : decode cX5_touching 34 = .ok (.ishl, 1) := by decide +kernel
theorem dX5_touching_35 : decode cX5_touching 35 = .ok (.ior, 1) := by decide +kernel
theorem dX5_touching_36 : decode cX5_touching 36 = .ok (.istore 5, 2) := by decide +kernel
theorem dX5_touching_38 : decode cX5_touching 38 = .ok (.iinc 6 1, 3) := by decide +kernel
theorem dX5_touching_41 : decode cX5_touching 41 = .ok (.goto (-35), 3) := by decide +kernel
theorem dX5_touching_44 : decode cX5_touching 44 = .ok (.iload 5, 2) := by decide +kernel
theorem dX5_touching_46 : decode cX5_touching 46 = .ok (.ireturn, 1) := by decide +kernel
theorem dX5_touchesAt_0 : decode cX5_touchesAt 0 = .ok (.aload_n 0, 1) := by decide +kernel
theorem dX5_touchesAt_1 : decode cX5_touchesAt 1 = .ok (.iload_n 1, 1) := by decide +kernel
theorem dX5_touchesAt_2 : decode cX5_touchesAt 2 = .ok (.iload 4, 2) := by decide +kernel
theorem dX5_touchesAt_4 : decode cX5_touchesAt 4 = .ok (.invokevirtual 75, 3) := by decide +kernel
theorem dX5_touchesAt_7 : decode cX5_touchesAt 7 = .ok (.ifCond .ne 13, 3) := by decide +kernel
theorem dX5_touchesAt_10 : decode cX5_touchesAt 10 = .ok (.aload_n 2, 1) := by decide +kernel
theorem dX5_touchesAt_11 : decode cX5_touchesAt 11 = .ok (.iload_n 3, 1) := by decide +kernel
theorem dX5_touchesAt_12 : decode cX5_touchesAt 12 = .ok (.iload 4, 2) := by decide +kernel
theorem dX5_touchesAt_14 : decode cX5_touchesAt 14 = .ok (.invokevirtual 75, 3) := by decide +kernel
theorem dX5_touchesAt_17 : decode cX5_touchesAt 17 = .ok (.ifCond .eq 5, 3) := by decide +kernel
theorem dX5_touchesAt_20 : decode cX5_touchesAt 20 = .ok (.iconst 0, 1) := by decide +kernel
theorem dX5_touchesAt_21 : decode cX5_touchesAt 21 = .ok (.ireturn, 1) := by decide +kernel
theorem dX5_touchesAt_22 : decode cX5_touchesAt 22 = .ok (.aload_n 0, 1) := by decide +kernel
theorem dX5_touchesAt_23 : decode cX5_touchesAt 23 = .ok (.iload_n 1, 1) := by decide +kernel
theorem dX5_touchesAt_24 : decode cX5_touchesAt 24 = .ok (.iload 4, 2) := by decide +kernel
theorem dX5_touchesAt_26 : decode cX5_touchesAt 26 = .ok (.invokevirtual 83, 3) := by decide +kernel
theorem dX5_touchesAt_29 : decode cX5_touchesAt 29 = .ok (.istore 5, 2) := by decide +kernel
theorem dX5_touchesAt_31 : decode cX5_touchesAt 31 = .ok (.aload_n 2, 1) := by decide +kernel
theorem dX5_touchesAt_32 : decode cX5_touchesAt 32 = .ok (.iload_n 3, 1) := by decide +kernel
theorem dX5_touchesAt_33 : decode cX5_touchesAt 33 = .ok (.iload 4, 2) := by decide +kernel
theorem dX5_touchesAt_35 : decode cX5_touchesAt 35 = .ok (.invokevirtual 83, 3) := by decide +kernel
theorem dX5_touchesAt_38 : decode cX5_touchesAt 38 = .ok (.istore 6, 2) := by decide +kernel
theorem dX5_touchesAt_40 : decode cX5_touchesAt 40 = .ok (.aload_n 0, 1) := by decide +kernel
theorem dX5_touchesAt_41 : decode cX5_touchesAt 41 = .ok (.invokevirtual 89, 3) := by decide +kernel
theorem dX5_touchesAt_44 : decode cX5_touchesAt 44 = .ok (.istore 7, 2) := by decide +kernel
theorem dX5_touchesAt_46 : decode cX5_touchesAt 46 = .ok (.aload_n 2, 1) := by decide +kernel
theorem dX5_touchesAt_47 : decode cX5_touchesAt 47 = .ok (.invokevirtual 89, 3) := by decide +kernel
theorem dX5_touchesAt_50 : decode cX5_touchesAt 50 = .ok (.istore 8, 2) := by decide +kernel
theorem dX5_touchesAt_52 : decode cX5_touchesAt 52 = .ok (.iload 7, 2) := by decide +kernel
theorem dX5_touchesAt_54 : decode cX5_touchesAt 54 = .ok (.iload 5, 2) := by decide +kernel
theorem dX5_touchesAt_56 : decode cX5_touchesAt 56 = .ok (.isub, 1) := by decide +kernel
theorem dX5_touchesAt_57 : decode cX5_touchesAt 57 = .ok (.iload 8, 2) := by decide +kernel
theorem dX5_touchesAt_59 : decode cX5_touchesAt 59 = .ok (.iload 6, 2) := by decide +kernel
theorem dX5_touchesAt_61 : decode cX5_touchesAt 61 = .ok (.iadd, 1) := by decide +kernel
theorem dX5_touchesAt_62 : decode cX5_touchesAt 62 = .ok (.aload_n 2, 1) := by decide +kernel
theorem dX5_touchesAt_63 : decode cX5_touchesAt 63 = .ok (.getfield 30, 3) := by decide +kernel
theorem dX5_touchesAt_66 : decode cX5_touchesAt 66 = .ok (.iadd, 1) := by decide +kernel
theorem dX5_touchesAt_67 : decode cX5_touchesAt 67 = .ok (.if_icmp .gt 25, 3) := by decide +kernel
theorem dX5_touchesAt_70 : decode cX5_touchesAt 70 = .ok (.iload 8, 2) := by decide +kernel
theorem dX5_touchesAt_72 : decode cX5_touchesAt 72 = .ok (.iload 6, 2) := by decide +kernel
theorem dX5_touchesAt_74 : decode cX5_touchesAt 74 = .ok (.isub, 1) := by decide +kernel
theorem dX5_touchesAt_75 : decode cX5_touchesAt 75 = .ok (.iload 7, 2) := by decide +kernel
theorem dX5_touchesAt_77 : decode cX5_touchesAt 77 = .ok (.iload 5, 2) := by decide +kernel
theorem dX5_touchesAt_79 : decode cX5_touchesAt 79 = .ok (.iadd, 1) := by decide +kernel
theorem dX5_touchesAt_80 : decode cX5_touchesAt 80 = .ok (.aload_n 0, 1) := by decide +kernel
theorem dX5_touchesAt_81 : decode cX5_touchesAt 81 = .ok (.getfield 30, 3) := by decide +kernel
theorem dX5_touchesAt_84 : decode cX5_touchesAt 84 = .ok (.iadd, 1) := by decide +kernel
theorem dX5_touchesAt_85 : decode cX5_touchesAt 85 = .ok (.if_icmp .gt 7, 3) := by decide +kernel
theorem dX5_touchesAt_88 : decode cX5_touchesAt 88 = .ok (.iconst 1, 1) := by decide +kernel
theorem dX5_touchesAt_89 : decode cX5_touchesAt 89 = .ok (.goto 4, 3) := by decide +kernel
theorem dX5_touchesAt_92 : decode cX5_touchesAt 92 = .ok (.iconst 0, 1) := by decide +kernel
theorem dX5_touchesAt_93 : decode cX5_touchesAt 93 = .ok (.ireturn, 1) := by decide +kernel
theorem dX6_init_0 : decode cX6_init 0 = .ok (.aload_n 0, 1) := by decide +kernel
theorem dX6_init_1 : decode cX6_init 1 = .ok (.invokespecial 3, 3) := by decide +kernel
theorem dX6_init_4 : decode cX6_init 4 = .ok (.aload_n 0, 1) := by decide +kernel
theorem dX6_init_5 : decode cX6_init 5 = .ok (.bipush 12, 2) := by decide +kernel
theorem dX6_init_7 : decode cX6_init 7 = .ok (.newarray .int, 2) := by decide +kernel
theorem dX6_init_9 : decode cX6_init 9 = .ok (.putfield 9, 3) := by decide +kernel
theorem dX6_init_12 : decode cX6_init 12 = .ok (.aload_n 0, 1) := by decide +kernel
theorem dX6_init_13 : decode cX6_init 13 = .ok (.iconst 0, 1) := by decide +kernel
theorem dX6_init_14 : decode cX6_init 14 = .ok (.putfield 15, 3) := by decide +kernel
theorem dX6_init_17 : decode cX6_init 17 = .ok (.return_, 1) := by decide +kernel
theorem dX6_append_0 : decode cX6_append 0 = .ok (.aload_n 0, 1) := by decide +kernel
theorem dX6_append_1 : decode cX6_append 1 = .ok (.getfield 15, 3) := by decide +kernel
theorem dX6_append_4 : decode cX6_append 4 = .ok (.ifCond .lt 35, 3) := by decide +kernel
theorem dX6_append_7 : decode cX6_append 7 = .ok (.aload_n 0, 1) := by decide +kernel
theorem dX6_append_8 : decode cX6_append 8 = .ok (.getfield 15, 3) := by decide +kernel
theorem dX6_append_11 : decode cX6_append 11 = .ok (.aload_n 0, 1) := by decide +kernel
theorem dX6_append_12 : decode cX6_append 12 = .ok (.getfield 9, 3) := by decide +kernel
theorem dX6_append_15 : decode cX6_append 15 = .ok (.arraylength, 1) := by decide +kernel
theorem dX6_append_16 : decode cX6_append 16 = .ok (.if_icmp .ge 23, 3) := by decide +kernel
theorem dX6_append_19 : decode cX6_append 19 = .ok (.aload_n 0, 1) := by decide +kernel
theorem dX6_append_20 : decode cX6_append 20 = .ok (.getfield 9, 3) := by decide +kernel
theorem dX6_append_23 : decode cX6_append 23 = .ok (.aload_n 0, 1) := by decide +kernel
theorem dX6_append_24 : decode cX6_append 24 = .ok (.getfield 15, 3) := by decide +kernel
theorem dX6_append_27 : decode cX6_append 27 = .ok (.iload_n 1, 1) := by decide +kernel
theorem dX6_append_28 : decode cX6_append 28 = .ok (.iastore, 1) := by decide +kernel
theorem dX6_append_29 : decode cX6_append 29 = .ok (.aload_n 0, 1) := by decide +kernel
theorem dX6_append_30 : decode cX6_append 30 = .ok (.dup, 1) := by decide +kernel
theorem dX6_append_31 : decode cX6_append 31 = .ok (.getfield 15, 3) := by decide +kernel
theorem dX6_append_34 : decode cX6_append 34 = .ok (.iconst 1, 1) := by decide +kernel
theorem dX6_append_35 : decode cX6_append 35 = .ok (.iadd, 1) := by decide +kernel
theorem dX6_append_36 : decode cX6_append 36 = .ok (.putfield 15, 3) := by decide +kernel
theorem dX6_append_39 : decode cX6_append 39 = .ok (.return_, 1) := by decide +kernel
theorem dX6_at_0 : decode cX6_at 0 = .ok (.iload_n 1, 1) := by decide +kernel
theorem dX6_at_1 : decode cX6_at 1 = .ok (.ifCond .lt 29, 3) := by decide +kernel
theorem dX6_at_4 : decode cX6_at 4 = .ok (.iload_n 1, 1) := by decide +kernel
theorem dX6_at_5 : decode cX6_at 5 = .ok (.aload_n 0, 1) := by decide +kernel
theorem dX6_at_6 : decode cX6_at 6 = .ok (.getfield 15, 3) := by decide +kernel
theorem dX6_at_9 : decode cX6_at 9 = .ok (.if_icmp .ge 21, 3) := by decide +kernel
theorem dX6_at_12 : decode cX6_at 12 = .ok (.iload_n 1, 1) := by decide +kernel
theorem dX6_at_13 : decode cX6_at 13 = .ok (.aload_n 0, 1) := by decide +kernel
theorem dX6_at_14 : decode cX6_at 14 = .ok (.getfield 9, 3) := by decide +kernel
theorem dX6_at_17 : decode cX6_at 17 = .ok (.arraylength, 1) := by decide +kernel
theorem dX6_at_18 : decode cX6_at 18 = .ok (.if_icmp .ge 12, 3) := by decide +kernel
theorem dX6_at_21 : decode cX6_at 21 = .ok (.aload_n 0, 1) := by decide +kernel
theorem dX6_at_22 : decode cX6_at 22 = .ok (.getfield 9, 3) := by decide +kernel
theorem dX6_at_25 : decode cX6_at 25 = .ok (.iload_n 1, 1) := by decide +kernel
theorem dX6_at_26 : decode cX6_at 26 = .ok (.iaload, 1) := by decide +kernel
theorem dX6_at_27 : decode cX6_at 27 = .ok (.goto 4, 3) := by decide +kernel
theorem dX6_at_30 : decode cX6_at 30 = .ok (.iconst 0, 1) := by decide +kernel
theorem dX6_at_31 : decode cX6_at 31 = .ok (.ireturn, 1) := by decide +kernel
theorem dX6_greatest_0 : decode cX6_greatest 0 = .ok (.bipush (-9), 2) := by decide +kernel
theorem dX6_greatest_2 : decode cX6_greatest 2 = .ok (.istore_n 1, 1) := by decide +kernel
theorem dX6_greatest_3 : decode cX6_greatest 3 = .ok (.iconst 0, 1) := by decide +kernel
theorem dX6_greatest_4 : decode cX6_greatest 4 = .ok (.istore_n 2, 1) := by decide +kernel
theorem dX6_greatest_5 : decode cX6_greatest 5 = .ok (.iload_n 2, 1) := by decide +kernel
theorem dX6_greatest_6 : decode cX6_greatest 6 = .ok (.aload_n 0, 1) := by decide +kernel
theorem dX6_greatest_7 : decode cX6_greatest 7 = .ok (.getfield 15, 3) := by decide +kernel
theorem dX6_greatest_10 : decode cX6_greatest 10 = .ok (.if_icmp .ge 19, 3) := by decide +kernel
theorem dX6_greatest_13 : decode cX6_greatest 13 = .ok (.iload_n 1, 1) := by decide +kernel
theorem dX6_greatest_14 : decode cX6_greatest 14 = .ok (.aload_n 0, 1) := by decide +kernel
theorem dX6_greatest_15 : decode cX6_greatest 15 = .ok (.iload_n 2, 1) := by decide +kernel
theorem dX6_greatest_16 : decode cX6_greatest 16 = .ok (.invokevirtual 19, 3) := by decide +kernel
theorem dX6_greatest_19 : decode cX6_greatest 19 = .ok (.invokestatic 23, 3) := by decide +kernel
theorem dX6_greatest_22 : decode cX6_greatest 22 = .ok (.istore_n 1, 1) := by decide +kernel
theorem dX6_greatest_23 : decode cX6_greatest 23 = .ok (.iinc 2 1, 3) := by decide +kernel
theorem dX6_greatest_26 : decode cX6_greatest 26 = .ok (.goto (-21), 3) := by decide +kernel
theorem dX6_greatest_29 : decode cX6_greatest 29 = .ok (.iload_n 1, 1) := by decide +kernel
theorem dX6_greatest_30 : decode cX6_greatest 30 = .ok (.ireturn, 1) := by decide +kernel
theorem dX7_init_0 : decode cX7_init 0 = .ok (.aload_n 0, 1) := by decide +kernel
theorem dX7_init_1 : decode cX7_init 1 = .ok (.invokespecial 3, 3) := by decide +kernel
theorem dX7_init_4 : decode cX7_init 4 = .ok (.aload_n 0, 1) := by decide +kernel
theorem dX7_init_5 : decode cX7_init 5 = .ok (.bipush 8, 2) := by decide +kernel
theorem dX7_init_7 : decode cX7_init 7 = .ok (.newarray .int, 2) := by decide +kernel
theorem dX7_init_9 : decode cX7_init 9 = .ok (.putfield 9, 3) := by decide +kernel
theorem dX7_init_12 : decode cX7_init 12 = .ok (.aload_n 0, 1) := by decide +kernel
theorem dX7_init_13 : decode cX7_init 13 = .ok (.bipush 8, 2) := by decide +kernel
theorem dX7_init_15 : decode cX7_init 15 = .ok (.newarray .int, 2) := by decide +kernel
theorem dX7_init_17 : decode cX7_init 17 = .ok (.putfield 15, 3) := by decide +kernel
theorem dX7_init_20 : decode cX7_init 20 = .ok (.aload_n 0, 1) := by decide +kernel
theorem dX7_init_21 : decode cX7_init 21 = .ok (.iconst 0, 1) := by decide +kernel
theorem dX7_init_22 : decode cX7_init 22 = .ok (.putfield 18, 3) := by decide +kernel
theorem dX7_init_25 : decode cX7_init 25 = .ok (.return_, 1) := by decide +kernel
theorem dX7_push_0 : decode cX7_push 0 = .ok (.aload_n 0, 1) := by decide +kernel
theorem dX7_push_1 : decode cX7_push 1 = .ok (.getfield 18, 3) := by decide +kernel
theorem dX7_push_4 : decode cX7_push 4 = .ok (.bipush 8, 2) := by decide +kernel
theorem dX7_push_6 : decode cX7_push 6 = .ok (.if_icmp .lt 39, 3) := by decide +kernel
theorem dX7_push_9 : decode cX7_push 9 = .ok (.aload_n 0, 1) := by decide +kernel
theorem dX7_push_10 : decode cX7_push 10 = .ok (.getfield 9, 3) := by decide +kernel
theorem dX7_push_13 : decode cX7_push 13 = .ok (.iconst 1, 1) := by decide +kernel
theorem dX7_push_14 : decode cX7_push 14 = .ok (.aload_n 0, 1) := by decide +kernel
theorem dX7_push_15 : decode cX7_push 15 = .ok (.getfield 9, 3) := by decide +kernel
theorem dX7_push_18 : decode cX7_push 18 = .ok (.iconst 0, 1) := by decide +kernel
theorem dX7_push_19 : decode cX7_push 19 = .ok (.bipush 7, 2) := by decide +kernel
theorem dX7_push_21 : decode cX7_push 21 = .ok (.invokestatic 22, 3) := by decide +kernel
theorem dX7_push_24 : decode cX7_push 24 = .ok (.aload_n 0, 1) := by decide +kernel
theorem dX7_push_25 : decode cX7_push 25 = .ok (.getfield 15, 3) := by decide +kernel
theorem dX7_push_28 : decode cX7_push 28 = .ok (.iconst 1, 1) := by decide +kernel
theorem dX7_push_29 : decode cX7_push 29 = .ok (.aload_n 0, 1) := by decide +kernel
theorem dX7_push_30 : decode cX7_push 30 = .ok (.getfield 15, 3) := by decide +kernel
theorem dX7_push_33 : decode cX7_push 33 = .ok (.iconst 0, 1) := by decide +kernel
theorem dX7_push_34 : decode cX7_push 34 = .ok (.bipush 7, 2) := by decide +kernel
theorem dX7_push_36 : decode cX7_push 36 = .ok (.invokestatic 22, 3) := by decide +kernel
theorem dX7_push_39 : decode cX7_push 39 = .ok (.aload_n 0, 1) := by decide +kernel
theorem dX7_push_40 : decode cX7_push 40 = .ok (.bipush 7, 2) := by decide +kernel
theorem dX7_push_42 : decode cX7_push 42 = .ok (.putfield 18, 3) := by decide +kernel
theorem dX7_push_45 : decode cX7_push 45 = .ok (.aload_n 0, 1) := by decide +kernel
theorem dX7_push_46 : decode cX7_push 46 = .ok (.getfield 18, 3) := by decide +kernel
theorem dX7_push_49 : decode cX7_push 49 = .ok (.ifCond .lt 57, 3) := by decide +kernel
theorem dX7_push_52 : decode cX7_push 52 = .ok (.aload_n 0, 1) := by decide +kernel
theorem dX7_push_53 : decode cX7_push 53 = .ok (.getfield 18, 3) := by decide +kernel
theorem dX7_push_56 : decode cX7_push 56 = .ok (.aload_n 0, 1) := by decide +kernel
theorem dX7_push_57 : decode cX7_push 57 = .ok (.getfield 9, 3) := by decide +kernel
theorem dX7_push_60 : decode cX7_push 60 = .ok (.arraylength, 1) := by decide +kernel
theorem dX7_push_61 : decode cX7_push 61 = .ok (.if_icmp .ge 45, 3) := by decide +kernel
theorem dX7_push_64 : decode cX7_push 64 = .ok (.aload_n 0, 1) := by decide +kernel
theorem dX7_push_65 : decode cX7_push 65 = .ok (.getfield 18, 3) := by decide +kernel
theorem dX7_push_68 : decode cX7_push 68 = .ok (.aload_n 0, 1) := by decide +kernel
theorem dX7_push_69 : decode cX7_push 69 = .ok (.getfield 15, 3) := by decide +kernel
theorem dX7_push_72 : decode cX7_push 72 = .ok (.arraylength, 1) := by decide +kernel
theorem dX7_push_73 : decode cX7_push 73 = .ok (.if_icmp .ge 33, 3) := by decide +kernel
theorem dX7_push_76 : decode cX7_push 76 = .ok (.aload_n 0, 1) := by decide +kernel
theorem dX7_push_77 : decode cX7_push 77 = .ok (.getfield 9, 3) := by decide +kernel
theorem dX7_push_80 : decode cX7_push 80 = .ok (.aload_n 0, 1) := by decide +kernel
theorem dX7_push_81 : decode cX7_push 81 = .ok (.getfield 18, 3) := by decide +kernel
theorem dX7_push_84 : decode cX7_push 84 = .ok (.iload_n 1, 1) := by decide +kernel
theorem dX7_push_85 : decode cX7_push 85 = .ok (.iastore, 1) := by decide +kernel
theorem dX7_push_86 : decode cX7_push 86 = .ok (.aload_n 0, 1) := by decide +kernel
theorem dX7_push_87 : decode cX7_push 87 = .ok (.getfield 15, 3) := by decide +kernel
theorem dX7_push_90 : decode cX7_push 90 = .ok (.aload_n 0, 1) := by decide +kernel
theorem dX7_push_91 : decode cX7_push 91 = .ok (.getfield 18, 3) := by decide +kernel
theorem dX7_push_94 : decode cX7_push 94 = .ok (.iload_n 2, 1) := by decide +kernel
theorem dX7_push_95 : decode cX7_push 95 = .ok (.iastore, 1) := by decide +kernel
theorem dX7_push_96 : decode cX7_push 96 = .ok (.aload_n 0, 1) := by decide +kernel
theorem dX7_push_97 : decode cX7_push 97 = .ok (.dup, 1) := by decide +kernel
theorem dX7_push_98 : decode cX7_push 98 = .ok (.getfield 18, 3) := by decide +kernel
theorem dX7_push_101 : decode cX7_push 101 = .ok (.iconst 1, 1) := by decide +kernel
theorem dX7_push_102 : decode cX7_push 102 = .ok (.iadd, 1) := by decide +kernel
theorem dX7_push_103 : decode cX7_push 103 = .ok (.putfield 18, 3) := by decide +kernel
theorem dX7_push_106 : decode cX7_push 106 = .ok (.return_, 1) := by decide +kernel
theorem dX7_lastBoat_0 : decode cX7_lastBoat 0 = .ok (.aload_n 0, 1) := by decide +kernel
theorem dX7_lastBoat_1 : decode cX7_lastBoat 1 = .ok (.getfield 18, 3) := by decide +kernel
theorem dX7_lastBoat_4 : decode cX7_lastBoat 4 = .ok (.iconst 1, 1) := by decide +kernel
theorem dX7_lastBoat_5 : decode cX7_lastBoat 5 = .ok (.if_icmp .lt 29, 3) := by decide +kernel
theorem dX7_lastBoat_8 : decode cX7_lastBoat 8 = .ok (.aload_n 0, 1) := by decide +kernel
theorem dX7_lastBoat_9 : decode cX7_lastBoat 9 = .ok (.getfield 18, 3) := by decide +kernel
theorem dX7_lastBoat_12 : decode cX7_lastBoat 12 = .ok (.aload_n 0, 1) := by decide +kernel
theorem dX7_lastBoat_13 : decode cX7_lastBoat 13 = .ok (.getfield 9, 3) := by decide +kernel
theorem dX7_lastBoat_16 : decode cX7_lastBoat 16 = .ok (.arraylength, 1) := by decide +kernel
theorem dX7_lastBoat_17 : decode cX7_lastBoat 17 = .ok (.if_icmp .gt 17, 3) := by decide +kernel
theorem dX7_lastBoat_20 : decode cX7_lastBoat 20 = .ok (.aload_n 0, 1) := by decide +kernel
theorem dX7_lastBoat_21 : decode cX7_lastBoat 21 = .ok (.getfield 9, 3) := by decide +kernel
theorem dX7_lastBoat_24 : decode cX7_lastBoat 24 = .ok (.aload_n 0, 1) := by decide +kernel
theorem dX7_lastBoat_25 : decode cX7_lastBoat 25 = .ok (.getfield 18, 3) := by decide +kernel
theorem dX7_lastBoat_28 : decode cX7_lastBoat 28 = .ok (.iconst 1, 1) := by decide +kernel
theorem dX7_lastBoat_29 : decode cX7_lastBoat 29 = .ok (.isub, 1) := by decide +kernel
theorem dX7_lastBoat_30 : decode cX7_lastBoat 30 = .ok (.iaload, 1) := by decide +kernel
theorem dX7_lastBoat_31 : decode cX7_lastBoat 31 = .ok (.goto 4, 3) := by decide +kernel
theorem dX7_lastBoat_34 : decode cX7_lastBoat 34 = .ok (.iconst 0, 1) := by decide +kernel
theorem dX7_lastBoat_35 : decode cX7_lastBoat 35 = .ok (.ireturn, 1) := by decide +kernel
theorem dX7_lastLength_0 : decode cX7_lastLength 0 = .ok (.aload_n 0, 1) := by decide +kernel
theorem dX7_lastLength_1 : decode cX7_lastLength 1 = .ok (.getfield 18, 3) := by decide +kernel
theorem dX7_lastLength_4 : decode cX7_lastLength 4 = .ok (.iconst 1, 1) := by decide +kernel
theorem dX7_lastLength_5 : decode cX7_lastLength 5 = .ok (.if_icmp .lt 29, 3) := by decide +kernel
theorem dX7_lastLength_8 : decode cX7_lastLength 8 = .ok (.aload_n 0, 1) := by decide +kernel
theorem dX7_lastLength_9 : decode cX7_lastLength 9 = .ok (.getfield 18, 3) := by decide +kernel
theorem dX7_lastLength_12 : decode cX7_lastLength 12 = .ok (.aload_n 0, 1) := by decide +kernel
theorem dX7_lastLength_13 : decode cX7_lastLength 13 = .ok (.getfield 15, 3) := by decide +kernel
theorem dX7_lastLength_16 : decode cX7_lastLength 16 = .ok (.arraylength, 1) := by decide +kernel
theorem dX7_lastLength_17 : decode cX7_lastLength 17 = .ok (.if_icmp .gt 17, 3) := by decide +kernel
theorem dX7_lastLength_20 : decode cX7_lastLength 20 = .ok (.aload_n 0, 1) := by decide +kernel
theorem dX7_lastLength_21 : decode cX7_lastLength 21 = .ok (.getfield 15, 3) := by decide +kernel
theorem dX7_lastLength_24 : decode cX7_lastLength 24 = .ok (.aload_n 0, 1) := by decide +kernel
theorem dX7_lastLength_25 : decode cX7_lastLength 25 = .ok (.getfield 18, 3) := by decide +kernel
theorem dX7_lastLength_28 : decode cX7_lastLength 28 = .ok (.iconst 1, 1) := by decide +kernel
theorem dX7_lastLength_29 : decode cX7_lastLength 29 = .ok (.isub, 1) := by decide +kernel
theorem dX7_lastLength_30 : decode cX7_lastLength 30 = .ok (.iaload, 1) := by decide +kernel
theorem dX7_lastLength_31 : decode cX7_lastLength 31 = .ok (.goto 4, 3) := by decide +kernel
theorem dX7_lastLength_34 : decode cX7_lastLength 34 = .ok (.iconst 0, 1) := by decide +kernel
theorem dX7_lastLength_35 : decode cX7_lastLength 35 = .ok (.ireturn, 1) := by decide +kernel
theorem dJ6_compare_7cf53_0 : decode cJ6_compare_7cf53 0 = .ok (.iload_n 0, 1) := by decide +kernel
theorem dJ6_compare_7cf53_1 : decode cJ6_compare_7cf53 1 = .ok (.iload_n 1, 1) := by decide +kernel
theorem dJ6_compare_7cf53_2 : decode cJ6_compare_7cf53 2 = .ok (.if_icmp .ge 7, 3) := by decide +kernel
theorem dJ6_compare_7cf53_5 : decode cJ6_compare_7cf53 5 = .ok (.iconst (-1), 1) := by decide +kernel
theorem dJ6_compare_7cf53_6 : decode cJ6_compare_7cf53 6 = .ok (.goto 13, 3) := by decide +kernel
theorem dJ6_compare_7cf53_9 : decode cJ6_compare_7cf53 9 = .ok (.iload_n 0, 1) := by decide +kernel
theorem dJ6_compare_7cf53_10 : decode cJ6_compare_7cf53 10 = .ok (.iload_n 1, 1) := by decide +kernel
theorem dJ6_compare_7cf53_11 : decode cJ6_compare_7cf53 11 = .ok (.if_icmp .ne 7, 3) := by decide +kernel
theorem dJ6_compare_7cf53_14 : decode cJ6_compare_7cf53 14 = .ok (.iconst 0, 1) := by decide +kernel
theorem dJ6_compare_7cf53_15 : decode cJ6_compare_7cf53 15 = .ok (.goto 4, 3) := by decide +kernel
theorem dJ6_compare_7cf53_18 : decode cJ6_compare_7cf53 18 = .ok (.iconst 1, 1) := by decide +kernel
theorem dJ6_compare_7cf53_19 : decode cJ6_compare_7cf53 19 = .ok (.ireturn, 1) := by decide +kernel
theorem dJ6_bitCount_0f7a4_0 : decode cJ6_bitCount_0f7a4 0 = .ok (.iload_n 0, 1) := by decide +kernel
theorem dJ6_bitCount_0f7a4_1 : decode cJ6_bitCount_0f7a4 1 = .ok (.iload_n 0, 1) := by decide +kernel
theorem dJ6_bitCount_0f7a4_2 : decode cJ6_bitCount_0f7a4 2 = .ok (.iconst 1, 1) := by decide +kernel
theorem dJ6_bitCount_0f7a4_3 : decode cJ6_bitCount_0f7a4 3 = .ok (.iushr, 1) := by decide +kernel
theorem dJ6_bitCount_0f7a4_4 : decode cJ6_bitCount_0f7a4 4 = .ok (.ldc_w 265, 3) := by decide +kernel
theorem dJ6_bitCount_0f7a4_7 : decode cJ6_bitCount_0f7a4 7 = .ok (.iand, 1) := by decide +kernel
theorem dJ6_bitCount_0f7a4_8 : decode cJ6_bitCount_0f7a4 8 = .ok (.isub, 1) := by decide +kernel
theorem dJ6_bitCount_0f7a4_9 : decode cJ6_bitCount_0f7a4 9 = .ok (.istore_n 0, 1) := by decide +kernel
theorem dJ6_bitCount_0f7a4_10 : decode cJ6_bitCount_0f7a4 10 = .ok (.iload_n 0, 1) := by decide +kernel
theorem dJ6_bitCount_0f7a4_11 : decode cJ6_bitCount_0f7a4 11 = .ok (.ldc_w 266, 3) := by decide +kernel
theorem dJ6_bitCount_0f7a4_14 : decode cJ6_bitCount_0f7a4 14 = .ok (.iand, 1) := by decide +kernel
theorem dJ6_bitCount_0f7a4_15 : decode cJ6_bitCount_0f7a4 15 = .ok (.iload_n 0, 1) := by decide +kernel
theorem dJ6_bitCount_0f7a4_16 : decode cJ6_bitCount_0f7a4 16 = .ok (.iconst 2, 1) := by decide +kernel
theorem dJ6_bitCount_0f7a4_17 : decode cJ6_bitCount_0f7a4 17 = .ok (.iushr, 1) := by decide +kernel
theorem dJ6_bitCount_0f7a4_18 : decode cJ6_bitCount_0f7a4 18 = .ok (.ldc_w 266, 3) := by decide +kernel
theorem dJ6_bitCount_0f7a4_21 : decode cJ6_bitCount_0f7a4 21 = .ok (.iand, 1) := by decide +kernel
theorem dJ6_bitCount_0f7a4_22 : decode cJ6_bitCount_0f7a4 22 = .ok (.iadd, 1) := by decide +kernel
theorem dJ6_bitCount_0f7a4_23 : decode cJ6_bitCount_0f7a4 23 = .ok (.istore_n 0, 1) := by decide +kernel
theorem dJ6_bitCount_0f7a4_24 : decode cJ6_bitCount_0f7a4 24 = .ok (.iload_n 0, 1) := by decide +kernel
theorem dJ6_bitCount_0f7a4_25 : decode cJ6_bitCount_0f7a4 25 = .ok (.iload_n 0, 1) := by decide +kernel
theorem dJ6_bitCount_0f7a4_26 : decode cJ6_bitCount_0f7a4 26 = .ok (.iconst 4, 1) := by decide +kernel
theorem dJ6_bitCount_0f7a4_27 : decode cJ6_bitCount_0f7a4 27 = .ok (.iushr, 1) := by decide +kernel
theorem dJ6_bitCount_0f7a4_28 : decode cJ6_bitCount_0f7a4 28 = .ok (.iadd, 1) := by decide +kernel
theorem dJ6_bitCount_0f7a4_29 : decode cJ6_bitCount_0f7a4 29 = .ok (.ldc_w 267, 3) := by decide +kernel
theorem dJ6_bitCount_0f7a4_32 : decode cJ6_bitCount_0f7a4 32 = .ok (.iand, 1) := by decide +kernel
theorem dJ6_bitCount_0f7a4_33 : decode cJ6_bitCount_0f7a4 33 = .ok (.istore_n 0, 1) := by decide +kernel
theorem dJ6_bitCount_0f7a4_34 : decode cJ6_bitCount_0f7a4 34 = .ok (.iload_n 0, 1) := by decide +kernel
theorem dJ6_bitCount_0f7a4_35 : decode cJ6_bitCount_0f7a4 35 = .ok (.iload_n 0, 1) := by decide +kernel
theorem dJ6_bitCount_0f7a4_36 : decode cJ6_bitCount_0f7a4 36 = .ok (.bipush 8, 2) := by decide +kernel
theorem dJ6_bitCount_0f7a4_38 : decode cJ6_bitCount_0f7a4 38 = .ok (.iushr, 1) := by decide +kernel
theorem dJ6_bitCount_0f7a4_39 : decode cJ6_bitCount_0f7a4 39 = .ok (.iadd, 1) := by decide +kernel
theorem dJ6_bitCount_0f7a4_40 : decode cJ6_bitCount_0f7a4 40 = .ok (.istore_n 0, 1) := by decide +kernel
theorem dJ6_bitCount_0f7a4_41 : decode cJ6_bitCount_0f7a4 41 = .ok (.iload_n 0, 1) := by decide +kernel
theorem dJ6_bitCount_0f7a4_42 : decode cJ6_bitCount_0f7a4 42 = .ok (.iload_n 0, 1) := by decide +kernel
theorem dJ6_bitCount_0f7a4_43 : decode cJ6_bitCount_0f7a4 43 = .ok (.bipush 16, 2) := by decide +kernel
theorem dJ6_bitCount_0f7a4_45 : decode cJ6_bitCount_0f7a4 45 = .ok (.iushr, 1) := by decide +kernel
theorem dJ6_bitCount_0f7a4_46 : decode cJ6_bitCount_0f7a4 46 = .ok (.iadd, 1) := by decide +kernel
theorem dJ6_bitCount_0f7a4_47 : decode cJ6_bitCount_0f7a4 47 = .ok (.istore_n 0, 1) := by decide +kernel
theorem dJ6_bitCount_0f7a4_48 : decode cJ6_bitCount_0f7a4 48 = .ok (.iload_n 0, 1) := by decide +kernel
theorem dJ6_bitCount_0f7a4_49 : decode cJ6_bitCount_0f7a4 49 = .ok (.bipush 63, 2) := by decide +kernel
theorem dJ6_bitCount_0f7a4_51 : decode cJ6_bitCount_0f7a4 51 = .ok (.iand, 1) := by decide +kernel
theorem dJ6_bitCount_0f7a4_52 : decode cJ6_bitCount_0f7a4 52 = .ok (.ireturn, 1) := by decide +kernel
theorem dJ9_floorMod_7cf53_0 : decode cJ9_floorMod_7cf53 0 = .ok (.iload_n 0, 1) := by decide +kernel
theorem dJ9_floorMod_7cf53_1 : decode cJ9_floorMod_7cf53 1 = .ok (.iload_n 1, 1) := by decide +kernel
theorem dJ9_floorMod_7cf53_2 : decode cJ9_floorMod_7cf53 2 = .ok (.irem, 1) := by decide +kernel
theorem dJ9_floorMod_7cf53_3 : decode cJ9_floorMod_7cf53 3 = .ok (.istore_n 2, 1) := by decide +kernel
theorem dJ9_floorMod_7cf53_4 : decode cJ9_floorMod_7cf53 4 = .ok (.iload_n 0, 1) := by decide +kernel
theorem dJ9_floorMod_7cf53_5 : decode cJ9_floorMod_7cf53 5 = .ok (.iload_n 1, 1) := by decide +kernel
theorem dJ9_floorMod_7cf53_6 : decode cJ9_floorMod_7cf53 6 = .ok (.ixor, 1) := by decide +kernel
theorem dJ9_floorMod_7cf53_7 : decode cJ9_floorMod_7cf53 7 = .ok (.ifCond .ge 11, 3) := by decide +kernel
theorem dJ9_floorMod_7cf53_10 : decode cJ9_floorMod_7cf53 10 = .ok (.iload_n 2, 1) := by decide +kernel
theorem dJ9_floorMod_7cf53_11 : decode cJ9_floorMod_7cf53 11 = .ok (.ifCond .eq 7, 3) := by decide +kernel
theorem dJ9_floorMod_7cf53_14 : decode cJ9_floorMod_7cf53 14 = .ok (.iload_n 2, 1) := by decide +kernel
theorem dJ9_floorMod_7cf53_15 : decode cJ9_floorMod_7cf53 15 = .ok (.iload_n 1, 1) := by decide +kernel
theorem dJ9_floorMod_7cf53_16 : decode cJ9_floorMod_7cf53 16 = .ok (.iadd, 1) := by decide +kernel
theorem dJ9_floorMod_7cf53_17 : decode cJ9_floorMod_7cf53 17 = .ok (.ireturn, 1) := by decide +kernel
theorem dJ9_floorMod_7cf53_18 : decode cJ9_floorMod_7cf53 18 = .ok (.iload_n 2, 1) := by decide +kernel
theorem dJ9_floorMod_7cf53_19 : decode cJ9_floorMod_7cf53 19 = .ok (.ireturn, 1) := by decide +kernel
theorem dJ9_abs_0f7a4_0 : decode cJ9_abs_0f7a4 0 = .ok (.iload_n 0, 1) := by decide +kernel
theorem dJ9_abs_0f7a4_1 : decode cJ9_abs_0f7a4 1 = .ok (.ifCond .ge 8, 3) := by decide +kernel
theorem dJ9_abs_0f7a4_4 : decode cJ9_abs_0f7a4 4 = .ok (.iload_n 0, 1) := by decide +kernel
theorem dJ9_abs_0f7a4_5 : decode cJ9_abs_0f7a4 5 = .ok (.ineg, 1) := by decide +kernel
theorem dJ9_abs_0f7a4_6 : decode cJ9_abs_0f7a4 6 = .ok (.goto 4, 3) := by decide +kernel
theorem dJ9_abs_0f7a4_9 : decode cJ9_abs_0f7a4 9 = .ok (.iload_n 0, 1) := by decide +kernel
theorem dJ9_abs_0f7a4_10 : decode cJ9_abs_0f7a4 10 = .ok (.ireturn, 1) := by decide +kernel
theorem dJ9_max_7cf53_0 : decode cJ9_max_7cf53 0 = .ok (.iload_n 0, 1) := by decide +kernel
theorem dJ9_max_7cf53_1 : decode cJ9_max_7cf53 1 = .ok (.iload_n 1, 1) := by decide +kernel
theorem dJ9_max_7cf53_2 : decode cJ9_max_7cf53 2 = .ok (.if_icmp .lt 7, 3) := by decide +kernel
theorem dJ9_max_7cf53_5 : decode cJ9_max_7cf53 5 = .ok (.iload_n 0, 1) := by decide +kernel
theorem dJ9_max_7cf53_6 : decode cJ9_max_7cf53 6 = .ok (.goto 4, 3) := by decide +kernel
theorem dJ9_max_7cf53_9 : decode cJ9_max_7cf53 9 = .ok (.iload_n 1, 1) := by decide +kernel
theorem dJ9_max_7cf53_10 : decode cJ9_max_7cf53 10 = .ok (.ireturn, 1) := by decide +kernel
theorem dJ9_min_7cf53_0 : decode cJ9_min_7cf53 0 = .ok (.iload_n 0, 1) := by decide +kernel
theorem dJ9_min_7cf53_1 : decode cJ9_min_7cf53 1 = .ok (.iload_n 1, 1) := by decide +kernel
theorem dJ9_min_7cf53_2 : decode cJ9_min_7cf53 2 = .ok (.if_icmp .gt 7, 3) := by decide +kernel
theorem dJ9_min_7cf53_5 : decode cJ9_min_7cf53 5 = .ok (.iload_n 0, 1) := by decide +kernel
theorem dJ9_min_7cf53_6 : decode cJ9_min_7cf53 6 = .ok (.goto 4, 3) := by decide +kernel
theorem dJ9_min_7cf53_9 : decode cJ9_min_7cf53 9 = .ok (.iload_n 1, 1) := by decide +kernel
theorem dJ9_min_7cf53_10 : decode cJ9_min_7cf53 10 = .ok (.ireturn, 1) := by decide +kernel
theorem dJ0_length_8abf5_0 : decode cJ0_length_8abf5 0 = .ok (.aload_n 0, 1) := by decide +kernel
theorem dJ0_length_8abf5_1 : decode cJ0_length_8abf5 1 = .ok (.getfield 9, 3) := by decide +kernel
theorem dJ0_length_8abf5_4 : decode cJ0_length_8abf5 4 = .ok (.arraylength, 1) := by decide +kernel
theorem dJ0_length_8abf5_5 : decode cJ0_length_8abf5 5 = .ok (.aload_n 0, 1) := by decide +kernel
theorem dJ0_length_8abf5_6 : decode cJ0_length_8abf5 6 = .ok (.invokevirtual 335, 3) := by decide +kernel
theorem dJ0_length_8abf5_9 : decode cJ0_length_8abf5 9 = .ok (.ishr, 1) := by decide +kernel
theorem dJ0_length_8abf5_10 : decode cJ0_length_8abf5 10 = .ok (.ireturn, 1) := by decide +kernel
theorem dJ0_isEmpty_aae02_0 : decode cJ0_isEmpty_aae02 0 = .ok (.aload_n 0, 1) := by decide +kernel
theorem dJ0_isEmpty_aae02_1 : decode cJ0_isEmpty_aae02 1 = .ok (.getfield 9, 3) := by decide +kernel
theorem dJ0_isEmpty_aae02_4 : decode cJ0_isEmpty_aae02 4 = .ok (.arraylength, 1) := by decide +kernel
theorem dJ0_isEmpty_aae02_5 : decode cJ0_isEmpty_aae02 5 = .ok (.ifCond .ne 7, 3) := by decide +kernel
theorem dJ0_isEmpty_aae02_8 : decode cJ0_isEmpty_aae02 8 = .ok (.iconst 1, 1) := by decide +kernel
theorem dJ0_isEmpty_aae02_9 : decode cJ0_isEmpty_aae02 9 = .ok (.goto 4, 3) := by decide +kernel
theorem dJ0_isEmpty_aae02_12 : decode cJ0_isEmpty_aae02 12 = .ok (.iconst 0, 1) := by decide +kernel
theorem dJ0_isEmpty_aae02_13 : decode cJ0_isEmpty_aae02 13 = .ok (.ireturn, 1) := by decide +kernel
theorem dJ0_charAt_5068e_0 : decode cJ0_charAt_5068e 0 = .ok (.aload_n 0, 1) := by decide +kernel
theorem dJ0_charAt_5068e_1 : decode cJ0_charAt_5068e 1 = .ok (.invokevirtual 492, 3) := by decide +kernel
theorem dJ0_charAt_5068e_4 : decode cJ0_charAt_5068e 4 = .ok (.ifCond .eq 12, 3) := by decide +kernel
theorem dJ0_charAt_5068e_7 : decode cJ0_charAt_5068e 7 = .ok (.aload_n 0, 1) := by decide +kernel
theorem dJ0_charAt_5068e_8 : decode cJ0_charAt_5068e 8 = .ok (.getfield 9, 3) := by decide +kernel
theorem dJ0_charAt_5068e_11 : decode cJ0_charAt_5068e 11 = .ok (.iload_n 1, 1) := by decide +kernel
theorem dJ0_charAt_5068e_12 : decode cJ0_charAt_5068e 12 = .ok (.invokestatic 495, 3) := by decide +kernel
theorem dJ0_charAt_5068e_15 : decode cJ0_charAt_5068e 15 = .ok (.ireturn, 1) := by decide +kernel
theorem dJ0_charAt_5068e_16 : decode cJ0_charAt_5068e 16 = .ok (.aload_n 0, 1) := by decide +kernel
theorem dJ0_charAt_5068e_17 : decode cJ0_charAt_5068e 17 = .ok (.getfield 9, 3) := by decide +kernel
theorem dJ0_charAt_5068e_20 : decode cJ0_charAt_5068e 20 = .ok (.iload_n 1, 1) := by decide +kernel
theorem dJ0_charAt_5068e_21 : decode cJ0_charAt_5068e 21 = .ok (.invokestatic 498, 3) := by decide +kernel
theorem dJ0_charAt_5068e_24 : decode cJ0_charAt_5068e 24 = .ok (.ireturn, 1) := by decide +kernel
theorem dJ0_coder_7d493_0 : decode cJ0_coder_7d493 0 = .ok (.getstatic 38, 3) := by decide +kernel
theorem dJ0_coder_7d493_3 : decode cJ0_coder_7d493 3 = .ok (.ifCond .eq 10, 3) := by decide +kernel
theorem dJ0_coder_7d493_6 : decode cJ0_coder_7d493 6 = .ok (.aload_n 0, 1) := by decide +kernel
theorem dJ0_coder_7d493_7 : decode cJ0_coder_7d493 7 = .ok (.getfield 15, 3) := by decide +kernel
theorem dJ0_coder_7d493_10 : decode cJ0_coder_7d493 10 = .ok (.goto 4, 3) := by decide +kernel
theorem dJ0_coder_7d493_13 : decode cJ0_coder_7d493 13 = .ok (.iconst 1, 1) := by decide +kernel
theorem dJ0_coder_7d493_14 : decode cJ0_coder_7d493 14 = .ok (.ireturn, 1) := by decide +kernel
theorem dJ0_isLatin1_aae02_0 : decode cJ0_isLatin1_aae02 0 = .ok (.getstatic 38, 3) := by decide +kernel
theorem dJ0_isLatin1_aae02_3 : decode cJ0_isLatin1_aae02 3 = .ok (.ifCond .eq 14, 3) := by decide +kernel
theorem dJ0_isLatin1_aae02_6 : decode cJ0_isLatin1_aae02 6 = .ok (.aload_n 0, 1) := by decide +kernel
theorem dJ0_isLatin1_aae02_7 : decode cJ0_isLatin1_aae02 7 = .ok (.getfield 15, 3) := by decide +kernel
theorem dJ0_isLatin1_aae02_10 : decode cJ0_isLatin1_aae02 10 = .ok (.ifCond .ne 7, 3) := by decide +kernel
theorem dJ0_isLatin1_aae02_13 : decode cJ0_isLatin1_aae02 13 = .ok (.iconst 1, 1) := by decide +kernel
theorem dJ0_isLatin1_aae02_14 : decode cJ0_isLatin1_aae02 14 = .ok (.goto 4, 3) := by decide +kernel
theorem dJ0_isLatin1_aae02_17 : decode cJ0_isLatin1_aae02 17 = .ok (.iconst 0, 1) := by decide +kernel
theorem dJ0_isLatin1_aae02_18 : decode cJ0_isLatin1_aae02 18 = .ok (.ireturn, 1) := by decide +kernel
theorem dJ0_checkIndex_df160_0 : decode cJ0_checkIndex_df160 0 = .ok (.iload_n 0, 1) := by decide +kernel
theorem dJ0_checkIndex_df160_1 : decode cJ0_checkIndex_df160 1 = .ok (.iload_n 1, 1) := by decide +kernel
theorem dJ0_checkIndex_df160_2 : decode cJ0_checkIndex_df160 2 = .ok (.getstatic 1053, 3) := by decide +kernel
theorem dJ0_checkIndex_df160_5 : decode cJ0_checkIndex_df160 5 = .ok (.invokestatic 1059, 3) := by decide +kernel
theorem dJ0_checkIndex_df160_8 : decode cJ0_checkIndex_df160 8 = .ok (.pop, 1) := by decide +kernel
theorem dJ0_checkIndex_df160_9 : decode cJ0_checkIndex_df160 9 = .ok (.return_, 1) := by decide +kernel
theorem dJ1_charAt_3b067_0 : decode cJ1_charAt_3b067 0 = .ok (.iload_n 1, 1) := by decide +kernel
theorem dJ1_charAt_3b067_1 : decode cJ1_charAt_3b067 1 = .ok (.aload_n 0, 1) := by decide +kernel
theorem dJ1_charAt_3b067_2 : decode cJ1_charAt_3b067 2 = .ok (.arraylength, 1) := by decide +kernel
theorem dJ1_charAt_3b067_3 : decode cJ1_charAt_3b067 3 = .ok (.invokestatic 9, 3) := by decide +kernel
theorem dJ1_charAt_3b067_6 : decode cJ1_charAt_3b067 6 = .ok (.aload_n 0, 1) := by decide +kernel
theorem dJ1_charAt_3b067_7 : decode cJ1_charAt_3b067 7 = .ok (.iload_n 1, 1) := by decide +kernel
theorem dJ1_charAt_3b067_8 : decode cJ1_charAt_3b067 8 = .ok (.baload, 1) := by decide +kernel
theorem dJ1_charAt_3b067_9 : decode cJ1_charAt_3b067 9 = .ok (.sipush 255, 3) := by decide +kernel
theorem dJ1_charAt_3b067_12 : decode cJ1_charAt_3b067 12 = .ok (.iand, 1) := by decide +kernel
theorem dJ1_charAt_3b067_13 : decode cJ1_charAt_3b067 13 = .ok (.i2c, 1) := by decide +kernel
theorem dJ1_charAt_3b067_14 : decode cJ1_charAt_3b067 14 = .ok (.ireturn, 1) := by decide +kernel
theorem dJ2_getChar_3b067_0 : decode cJ2_getChar_3b067 0 = .ok (.getstatic 44, 3) := by decide +kernel
theorem dJ2_getChar_3b067_3 : decode cJ2_getChar_3b067 3 = .ok (.ifCond .ne 25, 3) := by decide +kernel
theorem dJ2_getChar_3b067_6 : decode cJ2_getChar_3b067 6 = .ok (.iload_n 1, 1) := by decide +kernel
theorem dJ2_getChar_3b067_7 : decode cJ2_getChar_3b067 7 = .ok (.ifCond .lt 11, 3) := by decide +kernel
theorem dJ2_getChar_3b067_10 : decode cJ2_getChar_3b067 10 = .ok (.iload_n 1, 1) := by decide +kernel
theorem dJ2_getChar_3b067_11 : decode cJ2_getChar_3b067 11 = .ok (.aload_n 0, 1) := by decide +kernel
theorem dJ2_getChar_3b067_12 : decode cJ2_getChar_3b067 12 = .ok (.invokestatic 48, 3) := by decide +kernel
theorem dJ2_getChar_3b067_15 : decode cJ2_getChar_3b067 15 = .ok (.if_icmp .lt 13, 3) := by decide +kernel
theorem dJ2_getChar_3b067_18 : decode cJ2_getChar_3b067 18 = .ok (.new 52, 3) := by decide +kernel
theorem dJ2_getChar_3b067_21 : decode cJ2_getChar_3b067 21 = .ok (.dup, 1) := by decide +kernel
theorem dJ2_getChar_3b067_22 : decode cJ2_getChar_3b067 22 = .ok (.ldc 54, 2) := by decide +kernel
theorem dJ2_getChar_3b067_24 : decode cJ2_getChar_3b067 24 = .ok (.invokespecial 56, 3) := by decide +kernel
theorem dJ2_getChar_3b067_27 : decode cJ2_getChar_3b067 27 = .ok (.athrow, 1) := by decide +kernel
theorem dJ2_getChar_3b067_28 : decode cJ2_getChar_3b067 28 = .ok (.iload_n 1, 1) := by decide +kernel
theorem dJ2_getChar_3b067_29 : decode cJ2_getChar_3b067 29 = .ok (.iconst 1, 1) := by decide +kernel
theorem dJ2_getChar_3b067_30 : decode cJ2_getChar_3b067 30 = .ok (.ishl, 1) := by decide +kernel
theorem dJ2_getChar_3b067_31 : decode cJ2_getChar_3b067 31 = .ok (.istore_n 1, 1) := by decide +kernel
theorem dJ2_getChar_3b067_32 : decode cJ2_getChar_3b067 32 = .ok (.aload_n 0, 1) := by decide +kernel
theorem dJ2_getChar_3b067_33 : decode cJ2_getChar_3b067 33 = .ok (.iload_n 1, 1) := by decide +kernel
theorem dJ2_getChar_3b067_34 : decode cJ2_getChar_3b067 34 = .ok (.iinc 1 1, 3) := by decide +kernel
theorem dJ2_getChar_3b067_37 : decode cJ2_getChar_3b067 37 = .ok (.baload, 1) := by decide +kernel
theorem dJ2_getChar_3b067_38 : decode cJ2_getChar_3b067 38 = .ok (.sipush 255, 3) := by decide +kernel
theorem dJ2_getChar_3b067_41 : decode cJ2_getChar_3b067 41 = .ok (.iand, 1) := by decide +kernel
theorem dJ2_getChar_3b067_42 : decode cJ2_getChar_3b067 42 = .ok (.getstatic 59, 3) := by decide +kernel
theorem dJ2_getChar_3b067_45 : decode cJ2_getChar_3b067 45 = .ok (.ishl, 1) := by decide +kernel
theorem dJ2_getChar_3b067_46 : decode cJ2_getChar_3b067 46 = .ok (.aload_n 0, 1) := by decide +kernel
theorem dJ2_getChar_3b067_47 : decode cJ2_getChar_3b067 47 = .ok (.iload_n 1, 1) := by decide +kernel
theorem dJ2_getChar_3b067_48 : decode cJ2_getChar_3b067 48 = .ok (.baload, 1) := by decide +kernel
theorem dJ2_getChar_3b067_49 : decode cJ2_getChar_3b067 49 = .ok (.sipush 255, 3) := by decide +kernel
theorem dJ2_getChar_3b067_52 : decode cJ2_getChar_3b067 52 = .ok (.iand, 1) := by decide +kernel
theorem dJ2_getChar_3b067_53 : decode cJ2_getChar_3b067 53 = .ok (.getstatic 63, 3) := by decide +kernel
theorem dJ2_getChar_3b067_56 : decode cJ2_getChar_3b067 56 = .ok (.ishl, 1) := by decide +kernel
theorem dJ2_getChar_3b067_57 : decode cJ2_getChar_3b067 57 = .ok (.ior, 1) := by decide +kernel
theorem dJ2_getChar_3b067_58 : decode cJ2_getChar_3b067 58 = .ok (.i2c, 1) := by decide +kernel
theorem dJ2_getChar_3b067_59 : decode cJ2_getChar_3b067 59 = .ok (.ireturn, 1) := by decide +kernel
theorem dJ2_length_9d52b_0 : decode cJ2_length_9d52b 0 = .ok (.aload_n 0, 1) := by decide +kernel
theorem dJ2_length_9d52b_1 : decode cJ2_length_9d52b 1 = .ok (.arraylength, 1) := by decide +kernel
theorem dJ2_length_9d52b_2 : decode cJ2_length_9d52b 2 = .ok (.iconst 1, 1) := by decide +kernel
theorem dJ2_length_9d52b_3 : decode cJ2_length_9d52b 3 = .ok (.ishr, 1) := by decide +kernel
theorem dJ2_length_9d52b_4 : decode cJ2_length_9d52b 4 = .ok (.ireturn, 1) := by decide +kernel
theorem dJ2_charAt_3b067_0 : decode cJ2_charAt_3b067 0 = .ok (.iload_n 1, 1) := by decide +kernel
theorem dJ2_charAt_3b067_1 : decode cJ2_charAt_3b067 1 = .ok (.aload_n 0, 1) := by decide +kernel
theorem dJ2_charAt_3b067_2 : decode cJ2_charAt_3b067 2 = .ok (.invokestatic 67, 3) := by decide +kernel
theorem dJ2_charAt_3b067_5 : decode cJ2_charAt_3b067 5 = .ok (.aload_n 0, 1) := by decide +kernel
theorem dJ2_charAt_3b067_6 : decode cJ2_charAt_3b067 6 = .ok (.iload_n 1, 1) := by decide +kernel
theorem dJ2_charAt_3b067_7 : decode cJ2_charAt_3b067 7 = .ok (.invokestatic 71, 3) := by decide +kernel
theorem dJ2_charAt_3b067_10 : decode cJ2_charAt_3b067 10 = .ok (.ireturn, 1) := by decide +kernel
theorem dJ2_checkIndex_2214a_0 : decode cJ2_checkIndex_2214a 0 = .ok (.iload_n 0, 1) := by decide +kernel
theorem dJ2_checkIndex_2214a_1 : decode cJ2_checkIndex_2214a 1 = .ok (.aload_n 1, 1) := by decide +kernel
theorem dJ2_checkIndex_2214a_2 : decode cJ2_checkIndex_2214a 2 = .ok (.invokestatic 48, 3) := by decide +kernel
theorem dJ2_checkIndex_2214a_5 : decode cJ2_checkIndex_2214a 5 = .ok (.invokestatic 414, 3) := by decide +kernel
theorem dJ2_checkIndex_2214a_8 : decode cJ2_checkIndex_2214a 8 = .ok (.return_, 1) := by decide +kernel
theorem dJ7_fill_53178_0 : decode cJ7_fill_53178 0 = .ok (.iconst 0, 1) := by decide +kernel
theorem dJ7_fill_53178_1 : decode cJ7_fill_53178 1 = .ok (.istore_n 2, 1) := by decide +kernel
theorem dJ7_fill_53178_2 : decode cJ7_fill_53178 2 = .ok (.aload_n 0, 1) := by decide +kernel
theorem dJ7_fill_53178_3 : decode cJ7_fill_53178 3 = .ok (.arraylength, 1) := by decide +kernel
theorem dJ7_fill_53178_4 : decode cJ7_fill_53178 4 = .ok (.istore_n 3, 1) := by decide +kernel
theorem dJ7_fill_53178_5 : decode cJ7_fill_53178 5 = .ok (.iload_n 2, 1) := by decide +kernel
theorem dJ7_fill_53178_6 : decode cJ7_fill_53178 6 = .ok (.iload_n 3, 1) := by decide +kernel
theorem dJ7_fill_53178_7 : decode cJ7_fill_53178 7 = .ok (.if_icmp .ge 13, 3) := by decide +kernel
theorem dJ7_fill_53178_10 : decode cJ7_fill_53178 10 = .ok (.aload_n 0, 1) := by decide +kernel
theorem dJ7_fill_53178_11 : decode cJ7_fill_53178 11 = .ok (.iload_n 2, 1) := by decide +kernel
theorem dJ7_fill_53178_12 : decode cJ7_fill_53178 12 = .ok (.iload_n 1, 1) := by decide +kernel
theorem dJ7_fill_53178_13 : decode cJ7_fill_53178 13 = .ok (.iastore, 1) := by decide +kernel
theorem dJ7_fill_53178_14 : decode cJ7_fill_53178 14 = .ok (.iinc 2 1, 3) := by decide +kernel
theorem dJ7_fill_53178_17 : decode cJ7_fill_53178 17 = .ok (.goto (-12), 3) := by decide +kernel
theorem dJ7_fill_53178_20 : decode cJ7_fill_53178 20 = .ok (.return_, 1) := by decide +kernel
theorem dJ3_checkIndex_8e157_0 : decode cJ3_checkIndex_8e157 0 = .ok (.iload_n 0, 1) := by decide +kernel
theorem dJ3_checkIndex_8e157_1 : decode cJ3_checkIndex_8e157 1 = .ok (.ifCond .lt 8, 3) := by decide +kernel
theorem dJ3_checkIndex_8e157_4 : decode cJ3_checkIndex_8e157 4 = .ok (.iload_n 0, 1) := by decide +kernel
theorem dJ3_checkIndex_8e157_5 : decode cJ3_checkIndex_8e157 5 = .ok (.iload_n 1, 1) := by decide +kernel
theorem dJ3_checkIndex_8e157_6 : decode cJ3_checkIndex_8e157 6 = .ok (.if_icmp .lt 10, 3) := by decide +kernel
theorem dJ3_checkIndex_8e157_9 : decode cJ3_checkIndex_8e157 9 = .ok (.aload_n 2, 1) := by decide +kernel
theorem dJ3_checkIndex_8e157_10 : decode cJ3_checkIndex_8e157 10 = .ok (.iload_n 0, 1) := by decide +kernel
theorem dJ3_checkIndex_8e157_11 : decode cJ3_checkIndex_8e157 11 = .ok (.iload_n 1, 1) := by decide +kernel
theorem dJ3_checkIndex_8e157_12 : decode cJ3_checkIndex_8e157 12 = .ok (.invokestatic 95, 3) := by decide +kernel
theorem dJ3_checkIndex_8e157_15 : decode cJ3_checkIndex_8e157 15 = .ok (.athrow, 1) := by decide +kernel
theorem dJ3_checkIndex_8e157_16 : decode cJ3_checkIndex_8e157 16 = .ok (.iload_n 0, 1) := by decide +kernel
theorem dJ3_checkIndex_8e157_17 : decode cJ3_checkIndex_8e157 17 = .ok (.ireturn, 1) := by decide +kernel
