theorem dX8_init_0 : decode cX8_init 0 = .ok (.aload_n 0, 1) := by decide +kernel
theorem dX8_init_1 : decode cX8_init 1 = .ok (.invokespecial 1, 3) := by decide +kernel
theorem dX8_init_4 : decode cX8_init 4 = .ok (.aload_n 0, 1) := by decide +kernel
theorem dX8_init_5 : decode cX8_init 5 = .ok (.new 7, 3) := by decide +kernel
theorem dX8_init_8 : decode cX8_init 8 = .ok (.dup, 1) := by decide +kernel
theorem dX8_init_9 : decode cX8_init 9 = .ok (.invokespecial 9, 3) := by decide +kernel
theorem dX8_init_12 : decode cX8_init 12 = .ok (.putfield 10, 3) := by decide +kernel
theorem dX8_init_15 : decode cX8_init 15 = .ok (.aload_n 0, 1) := by decide +kernel
theorem dX8_init_16 : decode cX8_init 16 = .ok (.new 7, 3) := by decide +kernel
theorem dX8_init_19 : decode cX8_init 19 = .ok (.dup, 1) := by decide +kernel
theorem dX8_init_20 : decode cX8_init 20 = .ok (.invokespecial 9, 3) := by decide +kernel
theorem dX8_init_23 : decode cX8_init 23 = .ok (.putfield 16, 3) := by decide +kernel
theorem dX8_init_26 : decode cX8_init 26 = .ok (.aload_n 0, 1) := by decide +kernel
theorem dX8_init_27 : decode cX8_init 27 = .ok (.new 7, 3) := by decide +kernel
theorem dX8_init_30 : decode cX8_init 30 = .ok (.dup, 1) := by decide +kernel
theorem dX8_init_31 : decode cX8_init 31 = .ok (.invokespecial 9, 3) := by decide +kernel
theorem dX8_init_34 : decode cX8_init 34 = .ok (.putfield 19, 3) := by decide +kernel
theorem dX8_init_37 : decode cX8_init 37 = .ok (.aload_n 0, 1) := by decide +kernel
theorem dX8_init_38 : decode cX8_init 38 = .ok (.iconst 0, 1) := by decide +kernel
theorem dX8_init_39 : decode cX8_init 39 = .ok (.putfield 22, 3) := by decide +kernel
theorem dX8_init_42 : decode cX8_init 42 = .ok (.aload_n 0, 1) := by decide +kernel
theorem dX8_init_43 : decode cX8_init 43 = .ok (.new 26, 3) := by decide +kernel
theorem dX8_init_46 : decode cX8_init 46 = .ok (.dup, 1) := by decide +kernel
theorem dX8_init_47 : decode cX8_init 47 = .ok (.invokespecial 28, 3) := by decide +kernel
theorem dX8_init_50 : decode cX8_init 50 = .ok (.putfield 29, 3) := by decide +kernel
theorem dX8_init_53 : decode cX8_init 53 = .ok (.aload_n 0, 1) := by decide +kernel
theorem dX8_init_54 : decode cX8_init 54 = .ok (.new 33, 3) := by decide +kernel
theorem dX8_init_57 : decode cX8_init 57 = .ok (.dup, 1) := by decide +kernel
theorem dX8_init_58 : decode cX8_init 58 = .ok (.invokespecial 35, 3) := by decide +kernel
theorem dX8_init_61 : decode cX8_init 61 = .ok (.putfield 36, 3) := by decide +kernel
theorem dX8_init_64 : decode cX8_init 64 = .ok (.aload_n 0, 1) := by decide +kernel
theorem dX8_init_65 : decode cX8_init 65 = .ok (.new 40, 3) := by decide +kernel
theorem dX8_init_68 : decode cX8_init 68 = .ok (.dup, 1) := by decide +kernel
theorem dX8_init_69 : decode cX8_init 69 = .ok (.invokespecial 42, 3) := by decide +kernel
theorem dX8_init_72 : decode cX8_init 72 = .ok (.putfield 43, 3) := by decide +kernel
theorem dX8_init_75 : decode cX8_init 75 = .ok (.aload_n 0, 1) := by decide +kernel
theorem dX8_init_76 : decode cX8_init 76 = .ok (.bipush 7, 2) := by decide +kernel
theorem dX8_init_78 : decode cX8_init 78 = .ok (.newarray .int, 2) := by decide +kernel
theorem dX8_init_80 : decode cX8_init 80 = .ok (.putfield 47, 3) := by decide +kernel
theorem dX8_init_83 : decode cX8_init 83 = .ok (.aload_n 0, 1) := by decide +kernel
theorem dX8_init_84 : decode cX8_init 84 = .ok (.new 51, 3) := by decide +kernel
theorem dX8_init_87 : decode cX8_init 87 = .ok (.dup, 1) := by decide +kernel
theorem dX8_init_88 : decode cX8_init 88 = .ok (.invokespecial 53, 3) := by decide +kernel
theorem dX8_init_91 : decode cX8_init 91 = .ok (.putfield 54, 3) := by decide +kernel
theorem dX8_init_94 : decode cX8_init 94 = .ok (.aload_n 0, 1) := by decide +kernel
theorem dX8_init_95 : decode cX8_init 95 = .ok (.new 51, 3) := by decide +kernel
theorem dX8_init_98 : decode cX8_init 98 = .ok (.dup, 1) := by decide +kernel
theorem dX8_init_99 : decode cX8_init 99 = .ok (.invokespecial 53, 3) := by decide +kernel
theorem dX8_init_102 : decode cX8_init 102 = .ok (.putfield 58, 3) := by decide +kernel
theorem dX8_init_105 : decode cX8_init 105 = .ok (.aload_n 0, 1) := by decide +kernel
theorem dX8_init_106 : decode cX8_init 106 = .ok (.new 61, 3) := by decide +kernel
theorem dX8_init_109 : decode cX8_init 109 = .ok (.dup, 1) := by decide +kernel
theorem dX8_init_110 : decode cX8_init 110 = .ok (.invokespecial 63, 3) := by decide +kernel
theorem dX8_init_113 : decode cX8_init 113 = .ok (.putfield 64, 3) := by decide +kernel
theorem dX8_init_116 : decode cX8_init 116 = .ok (.aload_n 0, 1) := by decide +kernel
theorem dX8_init_117 : decode cX8_init 117 = .ok (.new 68, 3) := by decide +kernel
theorem dX8_init_120 : decode cX8_init 120 = .ok (.dup, 1) := by decide +kernel
theorem dX8_init_121 : decode cX8_init 121 = .ok (.invokespecial 70, 3) := by decide +kernel
theorem dX8_init_124 : decode cX8_init 124 = .ok (.putfield 71, 3) := by decide +kernel
theorem dX8_init_127 : decode cX8_init 127 = .ok (.aload_n 0, 1) := by decide +kernel
theorem dX8_init_128 : decode cX8_init 128 = .ok (.new 75, 3) := by decide +kernel
theorem dX8_init_131 : decode cX8_init 131 = .ok (.dup, 1) := by decide +kernel
theorem dX8_init_132 : decode cX8_init 132 = .ok (.invokespecial 77, 3) := by decide +kernel
theorem dX8_init_135 : decode cX8_init 135 = .ok (.putfield 78, 3) := by decide +kernel
theorem dX8_init_138 : decode cX8_init 138 = .ok (.aload_n 0, 1) := by decide +kernel
theorem dX8_init_139 : decode cX8_init 139 = .ok (.iconst 5, 1) := by decide +kernel
theorem dX8_init_140 : decode cX8_init 140 = .ok (.newarray .int, 2) := by decide +kernel
theorem dX8_init_142 : decode cX8_init 142 = .ok (.putfield 82, 3) := by decide +kernel
theorem dX8_init_145 : decode cX8_init 145 = .ok (.return_, 1) := by decide +kernel
theorem dX8_feed_0 : decode cX8_feed 0 = .ok (.iload_n 1, 1) := by decide +kernel
theorem dX8_feed_1 : decode cX8_feed 1 = .ok (.ifCond .ge 10, 3) := by decide +kernel
theorem dX8_feed_4 : decode cX8_feed 4 = .ok (.aload_n 0, 1) := by decide +kernel
theorem dX8_feed_5 : decode cX8_feed 5 = .ok (.bipush (-4), 2) := by decide +kernel
theorem dX8_feed_7 : decode cX8_feed 7 = .ok (.invokevirtual 85, 3) := by decide +kernel
theorem dX8_feed_10 : decode cX8_feed 10 = .ok (.ireturn, 1) := by decide +kernel
theorem dX8_feed_11 : decode cX8_feed 11 = .ok (.iload_n 1, 1) := by decide +kernel
theorem dX8_feed_12 : decode cX8_feed 12 = .ok (.sipush 255, 3) := by decide +kernel
theorem dX8_feed_15 : decode cX8_feed 15 = .ok (.if_icmp .gt 15, 3) := by decide +kernel
theorem dX8_feed_18 : decode cX8_feed 18 = .ok (.aload_n 0, 1) := by decide +kernel
theorem dX8_feed_19 : decode cX8_feed 19 = .ok (.getfield 29, 3) := by decide +kernel
theorem dX8_feed_22 : decode cX8_feed 22 = .ok (.getfield 89, 3) := by decide +kernel
theorem dX8_feed_25 : decode cX8_feed 25 = .ok (.bipush 96, 2) := by decide +kernel
theorem dX8_feed_27 : decode cX8_feed 27 = .ok (.if_icmp .lt 10, 3) := by decide +kernel
theorem dX8_feed_30 : decode cX8_feed 30 = .ok (.aload_n 0, 1) := by decide +kernel
theorem dX8_feed_31 : decode cX8_feed 31 = .ok (.bipush (-6), 2) := by decide +kernel
theorem dX8_feed_33 : decode cX8_feed 33 = .ok (.invokevirtual 85, 3) := by decide +kernel
theorem dX8_feed_36 : decode cX8_feed 36 = .ok (.ireturn, 1) := by decide +kernel
theorem dX8_feed_37 : decode cX8_feed 37 = .ok (.aload_n 0, 1) := by decide +kernel
theorem dX8_feed_38 : decode cX8_feed 38 = .ok (.getfield 29, 3) := by decide +kernel
theorem dX8_feed_41 : decode cX8_feed 41 = .ok (.iload_n 1, 1) := by decide +kernel
theorem dX8_feed_42 : decode cX8_feed 42 = .ok (.invokevirtual 93, 3) := by decide +kernel
theorem dX8_feed_45 : decode cX8_feed 45 = .ok (.aload_n 0, 1) := by decide +kernel
theorem dX8_feed_46 : decode cX8_feed 46 = .ok (.getfield 29, 3) := by decide +kernel
theorem dX8_feed_49 : decode cX8_feed 49 = .ok (.getfield 89, 3) := by decide +kernel
theorem dX8_feed_52 : decode cX8_feed 52 = .ok (.ireturn, 1) := by decide +kernel
theorem dX8_quay_0 : decode cX8_quay 0 = .ok (.aload_n 0, 1) := by decide +kernel
theorem dX8_quay_1 : decode cX8_quay 1 = .ok (.getfield 29, 3) := by decide +kernel
theorem dX8_quay_4 : decode cX8_quay 4 = .ok (.invokevirtual 97, 3) := by decide +kernel
theorem dX8_quay_7 : decode cX8_quay 7 = .ok (.istore_n 1, 1) := by decide +kernel
theorem dX8_quay_8 : decode cX8_quay 8 = .ok (.iload_n 1, 1) := by decide +kernel
theorem dX8_quay_9 : decode cX8_quay 9 = .ok (.bipush (-9), 2) := by decide +kernel
theorem dX8_quay_11 : decode cX8_quay 11 = .ok (.if_icmp .ne 10, 3) := by decide +kernel
theorem dX8_quay_14 : decode cX8_quay 14 = .ok (.aload_n 0, 1) := by decide +kernel
theorem dX8_quay_15 : decode cX8_quay 15 = .ok (.invokevirtual 101, 3) := by decide +kernel
theorem dX8_quay_18 : decode cX8_quay 18 = .ok (.goto 8, 3) := by decide +kernel
theorem dX8_quay_21 : decode cX8_quay 21 = .ok (.sipush (-1000), 3) := by decide +kernel
theorem dX8_quay_24 : decode cX8_quay 24 = .ok (.iload_n 1, 1) := by decide +kernel
theorem dX8_quay_25 : decode cX8_quay 25 = .ok (.isub, 1) := by decide +kernel
theorem dX8_quay_26 : decode cX8_quay 26 = .ok (.istore_n 2, 1) := by decide +kernel
theorem dX8_quay_27 : decode cX8_quay 27 = .ok (.aload_n 0, 1) := by decide +kernel
theorem dX8_quay_28 : decode cX8_quay 28 = .ok (.getfield 29, 3) := by decide +kernel
theorem dX8_quay_31 : decode cX8_quay 31 = .ok (.iconst 0, 1) := by decide +kernel
theorem dX8_quay_32 : decode cX8_quay 32 = .ok (.putfield 89, 3) := by decide +kernel
theorem dX8_quay_35 : decode cX8_quay 35 = .ok (.iload_n 2, 1) := by decide +kernel
theorem dX8_quay_36 : decode cX8_quay 36 = .ok (.ireturn, 1) := by decide +kernel
theorem dX8_takeStatements_0 : decode cX8_takeStatements 0 = .ok (.aload_n 0, 1) := by decide +kernel
theorem dX8_takeStatements_1 : decode cX8_takeStatements 1 = .ok (.getfield 19, 3) := by decide +kernel
theorem dX8_takeStatements_4 : decode cX8_takeStatements 4 = .ok (.aload_n 0, 1) := by decide +kernel
theorem dX8_takeStatements_5 : decode cX8_takeStatements 5 = .ok (.getfield 10, 3) := by decide +kernel
theorem dX8_takeStatements_8 : decode cX8_takeStatements 8 = .ok (.invokevirtual 104, 3) := by decide +kernel
theorem dX8_takeStatements_11 : decode cX8_takeStatements 11 = .ok (.iconst 0, 1) := by decide +kernel
theorem dX8_takeStatements_12 : decode cX8_takeStatements 12 = .ok (.istore_n 1, 1) := by decide +kernel
theorem dX8_takeStatements_13 : decode cX8_takeStatements 13 = .ok (.iconst 0, 1) := by decide +kernel
theorem dX8_takeStatements_14 : decode cX8_takeStatements 14 = .ok (.istore_n 2, 1) := by decide +kernel
theorem dX8_takeStatements_15 : decode cX8_takeStatements 15 = .ok (.iload_n 2, 1) := by decide +kernel
theorem dX8_takeStatements_16 : decode cX8_takeStatements 16 = .ok (.aload_n 0, 1) := by decide +kernel
theorem dX8_takeStatements_17 : decode cX8_takeStatements 17 = .ok (.getfield 29, 3) := by decide +kernel
theorem dX8_takeStatements_20 : decode cX8_takeStatements 20 = .ok (.getfield 89, 3) := by decide +kernel
theorem dX8_takeStatements_23 : decode cX8_takeStatements 23 = .ok (.if_icmp .ge 47, 3) := by decide +kernel
theorem dX8_takeStatements_26 : decode cX8_takeStatements 26 = .ok (.iload_n 1, 1) := by decide +kernel
theorem dX8_takeStatements_27 : decode cX8_takeStatements 27 = .ok (.bipush 96, 2) := by decide +kernel
theorem dX8_takeStatements_29 : decode cX8_takeStatements 29 = .ok (.if_icmp .ge 41, 3) := by decide +kernel
theorem dX8_takeStatements_32 : decode cX8_takeStatements 32 = .ok (.aload_n 0, 1) := by decide +kernel
theorem dX8_takeStatements_33 : decode cX8_takeStatements 33 = .ok (.getfield 29, 3) := by decide +kernel
theorem dX8_takeStatements_36 : decode cX8_takeStatements 36 = .ok (.iload_n 2, 1) := by decide +kernel
theorem dX8_takeStatements_37 : decode cX8_takeStatements 37 = .ok (.aload_n 0, 1) := by decide +kernel
theorem dX8_takeStatements_38 : decode cX8_takeStatements 38 = .ok (.getfield 19, 3) := by decide +kernel
theorem dX8_takeStatements_41 : decode cX8_takeStatements 41 = .ok (.invokevirtual 108, 3) := by decide +kernel
theorem dX8_takeStatements_44 : decode cX8_takeStatements 44 = .ok (.ifCond .ne 9, 3) := by decide +kernel
theorem dX8_takeStatements_47 : decode cX8_takeStatements 47 = .ok (.sipush (-2000), 3) := by decide +kernel
theorem dX8_takeStatements_50 : decode cX8_takeStatements 50 = .ok (.iload_n 2, 1) := by decide +kernel
theorem dX8_takeStatements_51 : decode cX8_takeStatements 51 = .ok (.isub, 1) := by decide +kernel
theorem dX8_takeStatements_52 : decode cX8_takeStatements 52 = .ok (.ireturn, 1) := by decide +kernel
theorem dX8_takeStatements_53 : decode cX8_takeStatements 53 = .ok (.iload_n 2, 1) := by decide +kernel
theorem dX8_takeStatements_54 : decode cX8_takeStatements 54 = .ok (.aload_n 0, 1) := by decide +kernel
theorem dX8_takeStatements_55 : decode cX8_takeStatements 55 = .ok (.getfield 29, 3) := by decide +kernel
theorem dX8_takeStatements_58 : decode cX8_takeStatements 58 = .ok (.iload_n 2, 1) := by decide +kernel
theorem dX8_takeStatements_59 : decode cX8_takeStatements 59 = .ok (.invokevirtual 112, 3) := by decide +kernel
theorem dX8_takeStatements_62 : decode cX8_takeStatements 62 = .ok (.iadd, 1) := by decide +kernel
theorem dX8_takeStatements_63 : decode cX8_takeStatements 63 = .ok (.istore_n 2, 1) := by decide +kernel
theorem dX8_takeStatements_64 : decode cX8_takeStatements 64 = .ok (.iinc 1 1, 3) := by decide +kernel
theorem dX8_takeStatements_67 : decode cX8_takeStatements 67 = .ok (.goto (-52), 3) := by decide +kernel
theorem dX8_takeStatements_70 : decode cX8_takeStatements 70 = .ok (.aload_n 0, 1) := by decide +kernel
theorem dX8_takeStatements_71 : decode cX8_takeStatements 71 = .ok (.getfield 10, 3) := by decide +kernel
theorem dX8_takeStatements_74 : decode cX8_takeStatements 74 = .ok (.aload_n 0, 1) := by decide +kernel
theorem dX8_takeStatements_75 : decode cX8_takeStatements 75 = .ok (.getfield 19, 3) := by decide +kernel
theorem dX8_takeStatements_78 : decode cX8_takeStatements 78 = .ok (.invokevirtual 104, 3) := by decide +kernel
theorem dX8_takeStatements_81 : decode cX8_takeStatements 81 = .ok (.aload_n 0, 1) := by decide +kernel
theorem dX8_takeStatements_82 : decode cX8_takeStatements 82 = .ok (.getfield 43, 3) := by decide +kernel
theorem dX8_takeStatements_85 : decode cX8_takeStatements 85 = .ok (.iconst 0, 1) := by decide +kernel
theorem dX8_takeStatements_86 : decode cX8_takeStatements 86 = .ok (.putfield 115, 3) := by decide +kernel
theorem dX8_takeStatements_89 : decode cX8_takeStatements 89 = .ok (.iload_n 1, 1) := by decide +kernel
theorem dX8_takeStatements_90 : decode cX8_takeStatements 90 = .ok (.ireturn, 1) := by decide +kernel
theorem dX8_tide_0 : decode cX8_tide 0 = .ok (.iload_n 1, 1) := by decide +kernel
theorem dX8_tide_1 : decode cX8_tide 1 = .ok (.invokestatic 116, 3) := by decide +kernel
theorem dX8_tide_4 : decode cX8_tide 4 = .ok (.ifCond .eq 14, 3) := by decide +kernel
theorem dX8_tide_7 : decode cX8_tide 7 = .ok (.aload_n 0, 1) := by decide +kernel
theorem dX8_tide_8 : decode cX8_tide 8 = .ok (.getfield 10, 3) := by decide +kernel
theorem dX8_tide_11 : decode cX8_tide 11 = .ok (.iload_n 1, 1) := by decide +kernel
theorem dX8_tide_12 : decode cX8_tide 12 = .ok (.invokevirtual 120, 3) := by decide +kernel
theorem dX8_tide_15 : decode cX8_tide 15 = .ok (.goto 8, 3) := by decide +kernel
theorem dX8_tide_18 : decode cX8_tide 18 = .ok (.aload_n 0, 1) := by decide +kernel
theorem dX8_tide_19 : decode cX8_tide 19 = .ok (.iconst (-1), 1) := by decide +kernel
theorem dX8_tide_20 : decode cX8_tide 20 = .ok (.invokevirtual 85, 3) := by decide +kernel
theorem dX8_tide_23 : decode cX8_tide 23 = .ok (.ireturn, 1) := by decide +kernel
theorem dX8_wind_0 : decode cX8_wind 0 = .ok (.iload_n 1, 1) := by decide +kernel
theorem dX8_wind_1 : decode cX8_wind 1 = .ok (.invokestatic 116, 3) := by decide +kernel
theorem dX8_wind_4 : decode cX8_wind 4 = .ok (.ifCond .eq 14, 3) := by decide +kernel
theorem dX8_wind_7 : decode cX8_wind 7 = .ok (.aload_n 0, 1) := by decide +kernel
theorem dX8_wind_8 : decode cX8_wind 8 = .ok (.getfield 10, 3) := by decide +kernel
theorem dX8_wind_11 : decode cX8_wind 11 = .ok (.iload_n 1, 1) := by decide +kernel
theorem dX8_wind_12 : decode cX8_wind 12 = .ok (.invokevirtual 123, 3) := by decide +kernel
theorem dX8_wind_15 : decode cX8_wind 15 = .ok (.goto 8, 3) := by decide +kernel
theorem dX8_wind_18 : decode cX8_wind 18 = .ok (.aload_n 0, 1) := by decide +kernel
theorem dX8_wind_19 : decode cX8_wind 19 = .ok (.iconst (-1), 1) := by decide +kernel
theorem dX8_wind_20 : decode cX8_wind 20 = .ok (.invokevirtual 126, 3) := by decide +kernel
theorem dX8_wind_23 : decode cX8_wind 23 = .ok (.ireturn, 1) := by decide +kernel
theorem dX8_rises_0 : decode cX8_rises 0 = .ok (.iload_n 1, 1) := by decide +kernel
theorem dX8_rises_1 : decode cX8_rises 1 = .ok (.invokestatic 116, 3) := by decide +kernel
theorem dX8_rises_4 : decode cX8_rises 4 = .ok (.ifCond .ne 9, 3) := by decide +kernel
theorem dX8_rises_7 : decode cX8_rises 7 = .ok (.aload_n 0, 1) := by decide +kernel
theorem dX8_rises_8 : decode cX8_rises 8 = .ok (.iconst (-1), 1) := by decide +kernel
theorem dX8_rises_9 : decode cX8_rises 9 = .ok (.invokevirtual 85, 3) := by decide +kernel
theorem dX8_rises_12 : decode cX8_rises 12 = .ok (.ireturn, 1) := by decide +kernel
theorem dX8_rises_13 : decode cX8_rises 13 = .ok (.iload_n 2, 1) := by decide +kernel
theorem dX8_rises_14 : decode cX8_rises 14 = .ok (.ifCond .ge 10, 3) := by decide +kernel
theorem dX8_rises_17 : decode cX8_rises 17 = .ok (.aload_n 0, 1) := by decide +kernel
theorem dX8_rises_18 : decode cX8_rises 18 = .ok (.bipush (-4), 2) := by decide +kernel
theorem dX8_rises_20 : decode cX8_rises 20 = .ok (.invokevirtual 85, 3) := by decide +kernel
theorem dX8_rises_23 : decode cX8_rises 23 = .ok (.ireturn, 1) := by decide +kernel
theorem dX8_rises_24 : decode cX8_rises 24 = .ok (.iload_n 2, 1) := by decide +kernel
theorem dX8_rises_25 : decode cX8_rises 25 = .ok (.bipush 40, 2) := by decide +kernel
theorem dX8_rises_27 : decode cX8_rises 27 = .ok (.if_icmp .le 10, 3) := by decide +kernel
theorem dX8_rises_30 : decode cX8_rises 30 = .ok (.aload_n 0, 1) := by decide +kernel
theorem dX8_rises_31 : decode cX8_rises 31 = .ok (.bipush (-6), 2) := by decide +kernel
theorem dX8_rises_33 : decode cX8_rises 33 = .ok (.invokevirtual 85, 3) := by decide +kernel
theorem dX8_rises_36 : decode cX8_rises 36 = .ok (.ireturn, 1) := by decide +kernel
theorem dX8_rises_37 : decode cX8_rises 37 = .ok (.aload_n 0, 1) := by decide +kernel
theorem dX8_rises_38 : decode cX8_rises 38 = .ok (.getfield 10, 3) := by decide +kernel
theorem dX8_rises_41 : decode cX8_rises 41 = .ok (.iload_n 1, 1) := by decide +kernel
theorem dX8_rises_42 : decode cX8_rises 42 = .ok (.invokevirtual 120, 3) := by decide +kernel
theorem dX8_rises_45 : decode cX8_rises 45 = .ok (.istore_n 3, 1) := by decide +kernel
theorem dX8_rises_46 : decode cX8_rises 46 = .ok (.aload_n 0, 1) := by decide +kernel
theorem dX8_rises_47 : decode cX8_rises 47 = .ok (.getfield 10, 3) := by decide +kernel
theorem dX8_rises_50 : decode cX8_rises 50 = .ok (.iload_n 1, 1) := by decide +kernel
theorem dX8_rises_51 : decode cX8_rises 51 = .ok (.iload_n 2, 1) := by decide +kernel
theorem dX8_rises_52 : decode cX8_rises 52 = .ok (.invokevirtual 129, 3) := by decide +kernel
theorem dX8_rises_55 : decode cX8_rises 55 = .ok (.iload_n 3, 1) := by decide +kernel
theorem dX8_rises_56 : decode cX8_rises 56 = .ok (.ireturn, 1) := by decide +kernel
theorem dX8_ring_0 : decode cX8_ring 0 = .ok (.aload_n 0, 1) := by decide +kernel
theorem dX8_ring_1 : decode cX8_ring 1 = .ok (.getfield 10, 3) := by decide +kernel
theorem dX8_ring_4 : decode cX8_ring 4 = .ok (.iload_n 1, 1) := by decide +kernel
theorem dX8_ring_5 : decode cX8_ring 5 = .ok (.invokevirtual 133, 3) := by decide +kernel
theorem dX8_ring_8 : decode cX8_ring 8 = .ok (.ifCond .ne 9, 3) := by decide +kernel
theorem dX8_ring_11 : decode cX8_ring 11 = .ok (.aload_n 0, 1) := by decide +kernel
theorem dX8_ring_12 : decode cX8_ring 12 = .ok (.iconst (-1), 1) := by decide +kernel
theorem dX8_ring_13 : decode cX8_ring 13 = .ok (.invokevirtual 85, 3) := by decide +kernel
theorem dX8_ring_16 : decode cX8_ring 16 = .ok (.ireturn, 1) := by decide +kernel
theorem dX8_ring_17 : decode cX8_ring 17 = .ok (.iload_n 2, 1) := by decide +kernel
theorem dX8_ring_18 : decode cX8_ring 18 = .ok (.ifCond .lt 8, 3) := by decide +kernel
theorem dX8_ring_21 : decode cX8_ring 21 = .ok (.iload_n 2, 1) := by decide +kernel
theorem dX8_ring_22 : decode cX8_ring 22 = .ok (.iconst 2, 1) := by decide +kernel
theorem dX8_ring_23 : decode cX8_ring 23 = .ok (.if_icmp .lt 10, 3) := by decide +kernel
theorem dX8_ring_26 : decode cX8_ring 26 = .ok (.aload_n 0, 1) := by decide +kernel
theorem dX8_ring_27 : decode cX8_ring 27 = .ok (.bipush (-2), 2) := by decide +kernel
theorem dX8_ring_29 : decode cX8_ring 29 = .ok (.invokevirtual 85, 3) := by decide +kernel
theorem dX8_ring_32 : decode cX8_ring 32 = .ok (.ireturn, 1) := by decide +kernel
theorem dX8_ring_33 : decode cX8_ring 33 = .ok (.aload_n 0, 1) := by decide +kernel
theorem dX8_ring_34 : decode cX8_ring 34 = .ok (.getfield 10, 3) := by decide +kernel
theorem dX8_ring_37 : decode cX8_ring 37 = .ok (.iload_n 1, 1) := by decide +kernel
theorem dX8_ring_38 : decode cX8_ring 38 = .ok (.iload_n 2, 1) := by decide +kernel
theorem dX8_ring_39 : decode cX8_ring 39 = .ok (.invokevirtual 136, 3) := by decide +kernel
theorem dX8_ring_42 : decode cX8_ring 42 = .ok (.ireturn, 1) := by decide +kernel
theorem dX8_boat_0 : decode cX8_boat 0 = .ok (.aload_n 0, 1) := by decide +kernel
theorem dX8_boat_1 : decode cX8_boat 1 = .ok (.getfield 10, 3) := by decide +kernel
theorem dX8_boat_4 : decode cX8_boat 4 = .ok (.iload_n 1, 1) := by decide +kernel
theorem dX8_boat_5 : decode cX8_boat 5 = .ok (.invokevirtual 140, 3) := by decide +kernel
theorem dX8_boat_8 : decode cX8_boat 8 = .ok (.ifCond .ne 9, 3) := by decide +kernel
theorem dX8_boat_11 : decode cX8_boat 11 = .ok (.aload_n 0, 1) := by decide +kernel
theorem dX8_boat_12 : decode cX8_boat 12 = .ok (.iconst (-1), 1) := by decide +kernel
theorem dX8_boat_13 : decode cX8_boat 13 = .ok (.invokevirtual 85, 3) := by decide +kernel
theorem dX8_boat_16 : decode cX8_boat 16 = .ok (.ireturn, 1) := by decide +kernel
theorem dX8_boat_17 : decode cX8_boat 17 = .ok (.iload_n 2, 1) := by decide +kernel
theorem dX8_boat_18 : decode cX8_boat 18 = .ok (.ifCond .lt 9, 3) := by decide +kernel
theorem dX8_boat_21 : decode cX8_boat 21 = .ok (.iload_n 2, 1) := by decide +kernel
theorem dX8_boat_22 : decode cX8_boat 22 = .ok (.bipush 7, 2) := by decide +kernel
theorem dX8_boat_24 : decode cX8_boat 24 = .ok (.if_icmp .lt 10, 3) := by decide +kernel
theorem dX8_boat_27 : decode cX8_boat 27 = .ok (.aload_n 0, 1) := by decide +kernel
theorem dX8_boat_28 : decode cX8_boat 28 = .ok (.bipush (-2), 2) := by decide +kernel
theorem dX8_boat_30 : decode cX8_boat 30 = .ok (.invokevirtual 85, 3) := by decide +kernel
theorem dX8_boat_33 : decode cX8_boat 33 = .ok (.ireturn, 1) := by decide +kernel
theorem dX8_boat_34 : decode cX8_boat 34 = .ok (.aload_n 0, 1) := by decide +kernel
theorem dX8_boat_35 : decode cX8_boat 35 = .ok (.getfield 10, 3) := by decide +kernel
theorem dX8_boat_38 : decode cX8_boat 38 = .ok (.iload_n 1, 1) := by decide +kernel
theorem dX8_boat_39 : decode cX8_boat 39 = .ok (.iload_n 2, 1) := by decide +kernel
theorem dX8_boat_40 : decode cX8_boat 40 = .ok (.invokevirtual 143, 3) := by decide +kernel
theorem dX8_boat_43 : decode cX8_boat 43 = .ok (.ireturn, 1) := by decide +kernel
theorem dX8_pay_0 : decode cX8_pay 0 = .ok (.aload_n 0, 1) := by decide +kernel
theorem dX8_pay_1 : decode cX8_pay 1 = .ok (.getfield 10, 3) := by decide +kernel
theorem dX8_pay_4 : decode cX8_pay 4 = .ok (.iload_n 1, 1) := by decide +kernel
theorem dX8_pay_5 : decode cX8_pay 5 = .ok (.invokevirtual 140, 3) := by decide +kernel
theorem dX8_pay_8 : decode cX8_pay 8 = .ok (.ifCond .ne 9, 3) := by decide +kernel
theorem dX8_pay_11 : decode cX8_pay 11 = .ok (.aload_n 0, 1) := by decide +kernel
theorem dX8_pay_12 : decode cX8_pay 12 = .ok (.iconst (-1), 1) := by decide +kernel
theorem dX8_pay_13 : decode cX8_pay 13 = .ok (.invokevirtual 85, 3) := by decide +kernel
theorem dX8_pay_16 : decode cX8_pay 16 = .ok (.ireturn, 1) := by decide +kernel
theorem dX8_pay_17 : decode cX8_pay 17 = .ok (.iload_n 2, 1) := by decide +kernel
theorem dX8_pay_18 : decode cX8_pay 18 = .ok (.ifCond .ge 10, 3) := by decide +kernel
theorem dX8_pay_21 : decode cX8_pay 21 = .ok (.aload_n 0, 1) := by decide +kernel
theorem dX8_pay_22 : decode cX8_pay 22 = .ok (.bipush (-4), 2) := by decide +kernel
theorem dX8_pay_24 : decode cX8_pay 24 = .ok (.invokevirtual 85, 3) := by decide +kernel
theorem dX8_pay_27 : decode cX8_pay 27 = .ok (.ireturn, 1) := by decide +kernel
theorem dX8_pay_28 : decode cX8_pay 28 = .ok (.iload_n 2, 1) := by decide +kernel
theorem dX8_pay_29 : decode cX8_pay 29 = .ok (.bipush 99, 2) := by decide +kernel
theorem dX8_pay_31 : decode cX8_pay 31 = .ok (.if_icmp .le 10, 3) := by decide +kernel
theorem dX8_pay_34 : decode cX8_pay 34 = .ok (.aload_n 0, 1) := by decide +kernel
theorem dX8_pay_35 : decode cX8_pay 35 = .ok (.bipush (-6), 2) := by decide +kernel
theorem dX8_pay_37 : decode cX8_pay 37 = .ok (.invokevirtual 85, 3) := by decide +kernel
theorem dX8_pay_40 : decode cX8_pay 40 = .ok (.ireturn, 1) := by decide +kernel
theorem dX8_pay_41 : decode cX8_pay 41 = .ok (.aload_n 0, 1) := by decide +kernel
theorem dX8_pay_42 : decode cX8_pay 42 = .ok (.getfield 10, 3) := by decide +kernel
theorem dX8_pay_45 : decode cX8_pay 45 = .ok (.iload_n 1, 1) := by decide +kernel
theorem dX8_pay_46 : decode cX8_pay 46 = .ok (.iconst 4, 1) := by decide +kernel
theorem dX8_pay_47 : decode cX8_pay 47 = .ok (.invokevirtual 143, 3) := by decide +kernel
theorem dX8_pay_50 : decode cX8_pay 50 = .ok (.istore_n 3, 1) := by decide +kernel
theorem dX8_pay_51 : decode cX8_pay 51 = .ok (.aload_n 0, 1) := by decide +kernel
theorem dX8_pay_52 : decode cX8_pay 52 = .ok (.getfield 43, 3) := by decide +kernel
theorem dX8_pay_55 : decode cX8_pay 55 = .ok (.iload_n 1, 1) := by decide +kernel
theorem dX8_pay_56 : decode cX8_pay 56 = .ok (.iload_n 3, 1) := by decide +kernel
theorem dX8_pay_57 : decode cX8_pay 57 = .ok (.invokevirtual 146, 3) := by decide +kernel
theorem dX8_pay_60 : decode cX8_pay 60 = .ok (.aload_n 0, 1) := by decide +kernel
theorem dX8_pay_61 : decode cX8_pay 61 = .ok (.getfield 10, 3) := by decide +kernel
theorem dX8_pay_64 : decode cX8_pay 64 = .ok (.iload_n 1, 1) := by decide +kernel
theorem dX8_pay_65 : decode cX8_pay 65 = .ok (.iconst 4, 1) := by decide +kernel
theorem dX8_pay_66 : decode cX8_pay 66 = .ok (.iload_n 2, 1) := by decide +kernel
theorem dX8_pay_67 : decode cX8_pay 67 = .ok (.invokevirtual 149, 3) := by decide +kernel
theorem dX8_pay_70 : decode cX8_pay 70 = .ok (.iload_n 3, 1) := by decide +kernel
theorem dX8_pay_71 : decode cX8_pay 71 = .ok (.ireturn, 1) := by decide +kernel
theorem dX8_tie_0 : decode cX8_tie 0 = .ok (.aload_n 0, 1) := by decide +kernel
theorem dX8_tie_1 : decode cX8_tie 1 = .ok (.getfield 10, 3) := by decide +kernel
theorem dX8_tie_4 : decode cX8_tie 4 = .ok (.iload_n 1, 1) := by decide +kernel
theorem dX8_tie_5 : decode cX8_tie 5 = .ok (.invokevirtual 140, 3) := by decide +kernel
theorem dX8_tie_8 : decode cX8_tie 8 = .ok (.ifCond .eq 14, 3) := by decide +kernel
theorem dX8_tie_11 : decode cX8_tie 11 = .ok (.aload_n 0, 1) := by decide +kernel
theorem dX8_tie_12 : decode cX8_tie 12 = .ok (.getfield 10, 3) := by decide +kernel
theorem dX8_tie_15 : decode cX8_tie 15 = .ok (.iload_n 2, 1) := by decide +kernel
theorem dX8_tie_16 : decode cX8_tie 16 = .ok (.invokevirtual 133, 3) := by decide +kernel
theorem dX8_tie_19 : decode cX8_tie 19 = .ok (.ifCond .ne 9, 3) := by decide +kernel
theorem dX8_tie_22 : decode cX8_tie 22 = .ok (.aload_n 0, 1) := by decide +kernel
theorem dX8_tie_23 : decode cX8_tie 23 = .ok (.iconst (-1), 1) := by decide +kernel
theorem dX8_tie_24 : decode cX8_tie 24 = .ok (.invokevirtual 85, 3) := by decide +kernel
theorem dX8_tie_27 : decode cX8_tie 27 = .ok (.ireturn, 1) := by decide +kernel
theorem dX8_tie_28 : decode cX8_tie 28 = .ok (.aload_n 0, 1) := by decide +kernel
theorem dX8_tie_29 : decode cX8_tie 29 = .ok (.getfield 10, 3) := by decide +kernel
theorem dX8_tie_32 : decode cX8_tie 32 = .ok (.iload_n 1, 1) := by decide +kernel
theorem dX8_tie_33 : decode cX8_tie 33 = .ok (.iconst 2, 1) := by decide +kernel
theorem dX8_tie_34 : decode cX8_tie 34 = .ok (.invokevirtual 143, 3) := by decide +kernel
theorem dX8_tie_37 : decode cX8_tie 37 = .ok (.istore_n 3, 1) := by decide +kernel
theorem dX8_tie_38 : decode cX8_tie 38 = .ok (.aload_n 0, 1) := by decide +kernel
theorem dX8_tie_39 : decode cX8_tie 39 = .ok (.getfield 10, 3) := by decide +kernel
theorem dX8_tie_42 : decode cX8_tie 42 = .ok (.iload_n 1, 1) := by decide +kernel
theorem dX8_tie_43 : decode cX8_tie 43 = .ok (.iconst 2, 1) := by decide +kernel
theorem dX8_tie_44 : decode cX8_tie 44 = .ok (.iload_n 2, 1) := by decide +kernel
theorem dX8_tie_45 : decode cX8_tie 45 = .ok (.invokevirtual 149, 3) := by decide +kernel
theorem dX8_tie_48 : decode cX8_tie 48 = .ok (.aload_n 0, 1) := by decide +kernel
theorem dX8_tie_49 : decode cX8_tie 49 = .ok (.getfield 43, 3) := by decide +kernel
theorem dX8_tie_52 : decode cX8_tie 52 = .ok (.iconst 0, 1) := by decide +kernel
theorem dX8_tie_53 : decode cX8_tie 53 = .ok (.putfield 115, 3) := by decide +kernel
theorem dX8_tie_56 : decode cX8_tie 56 = .ok (.iload_n 3, 1) := by decide +kernel
theorem dX8_tie_57 : decode cX8_tie 57 = .ok (.ireturn, 1) := by decide +kernel
theorem dX8_set_0 : decode cX8_set 0 = .ok (.iload_n 1, 1) := by decide +kernel
theorem dX8_set_1 : decode cX8_set 1 = .ok (.iconst 2, 1) := by decide +kernel
theorem dX8_set_2 : decode cX8_set 2 = .ok (.invokestatic 153, 3) := by decide +kernel
theorem dX8_set_5 : decode cX8_set 5 = .ok (.ifCond .ne 10, 3) := by decide +kernel
theorem dX8_set_8 : decode cX8_set 8 = .ok (.aload_n 0, 1) := by decide +kernel
theorem dX8_set_9 : decode cX8_set 9 = .ok (.bipush (-2), 2) := by decide +kernel
theorem dX8_set_11 : decode cX8_set 11 = .ok (.invokevirtual 85, 3) := by decide +kernel
theorem dX8_set_14 : decode cX8_set 14 = .ok (.ireturn, 1) := by decide +kernel
theorem dX8_set_15 : decode cX8_set 15 = .ok (.iload_n 2, 1) := by decide +kernel
theorem dX8_set_16 : decode cX8_set 16 = .ok (.ifCond .ge 10, 3) := by decide +kernel
theorem dX8_set_19 : decode cX8_set 19 = .ok (.aload_n 0, 1) := by decide +kernel
theorem dX8_set_20 : decode cX8_set 20 = .ok (.bipush (-4), 2) := by decide +kernel
theorem dX8_set_22 : decode cX8_set 22 = .ok (.invokevirtual 85, 3) := by decide +kernel
theorem dX8_set_25 : decode cX8_set 25 = .ok (.ireturn, 1) := by decide +kernel
theorem dX8_set_26 : decode cX8_set 26 = .ok (.iload_n 2, 1) := by decide +kernel
theorem dX8_set_27 : decode cX8_set 27 = .ok (.iload_n 1, 1) := by decide +kernel
theorem dX8_set_28 : decode cX8_set 28 = .ok (.ifCond .ne 8, 3) := by decide +kernel
theorem dX8_set_31 : decode cX8_set 31 = .ok (.bipush 60, 2) := by decide +kernel
theorem dX8_set_33 : decode cX8_set 33 = .ok (.goto 5, 3) := by decide +kernel
theorem dX8_set_36 : decode cX8_set 36 = .ok (.bipush 9, 2) := by decide +kernel
theorem dX8_set_38 : decode cX8_set 38 = .ok (.if_icmp .le 10, 3) := by decide +kernel
theorem dX8_set_41 : decode cX8_set 41 = .ok (.aload_n 0, 1) := by decide +kernel
theorem dX8_set_42 : decode cX8_set 42 = .ok (.bipush (-6), 2) := by decide +kernel
theorem dX8_set_44 : decode cX8_set 44 = .ok (.invokevirtual 85, 3) := by decide +kernel
theorem dX8_set_47 : decode cX8_set 47 = .ok (.ireturn, 1) := by decide +kernel
theorem dX8_set_48 : decode cX8_set 48 = .ok (.iload_n 1, 1) := by decide +kernel
theorem dX8_set_49 : decode cX8_set 49 = .ok (.ifCond .ne 13, 3) := by decide +kernel
theorem dX8_set_52 : decode cX8_set 52 = .ok (.aload_n 0, 1) := by decide +kernel
theorem dX8_set_53 : decode cX8_set 53 = .ok (.getfield 10, 3) := by decide +kernel
theorem dX8_set_56 : decode cX8_set 56 = .ok (.getfield 157, 3) := by decide +kernel
theorem dX8_set_59 : decode cX8_set 59 = .ok (.goto 10, 3) := by decide +kernel
theorem dX8_set_62 : decode cX8_set 62 = .ok (.aload_n 0, 1) := by decide +kernel
theorem dX8_set_63 : decode cX8_set 63 = .ok (.getfield 10, 3) := by decide +kernel
theorem dX8_set_66 : decode cX8_set 66 = .ok (.getfield 160, 3) := by decide +kernel
theorem dX8_set_69 : decode cX8_set 69 = .ok (.istore_n 3, 1) := by decide +kernel
theorem dX8_set_70 : decode cX8_set 70 = .ok (.iload_n 1, 1) := by decide +kernel
theorem dX8_set_71 : decode cX8_set 71 = .ok (.ifCond .ne 14, 3) := by decide +kernel
theorem dX8_set_74 : decode cX8_set 74 = .ok (.aload_n 0, 1) := by decide +kernel
theorem dX8_set_75 : decode cX8_set 75 = .ok (.getfield 10, 3) := by decide +kernel
theorem dX8_set_78 : decode cX8_set 78 = .ok (.iload_n 2, 1) := by decide +kernel
theorem dX8_set_79 : decode cX8_set 79 = .ok (.putfield 157, 3) := by decide +kernel
theorem dX8_set_82 : decode cX8_set 82 = .ok (.goto 11, 3) := by decide +kernel
theorem dX8_set_85 : decode cX8_set 85 = .ok (.aload_n 0, 1) := by decide +kernel
theorem dX8_set_86 : decode cX8_set 86 = .ok (.getfield 10, 3) := by decide +kernel
theorem dX8_set_89 : decode cX8_set 89 = .ok (.iload_n 2, 1) := by decide +kernel
theorem dX8_set_90 : decode cX8_set 90 = .ok (.putfield 160, 3) := by decide +kernel
theorem dX8_set_93 : decode cX8_set 93 = .ok (.iload_n 3, 1) := by decide +kernel
theorem dX8_set_94 : decode cX8_set 94 = .ok (.ireturn, 1) := by decide +kernel
theorem dX8_hour_0 : decode cX8_hour 0 = .ok (.aload_n 0, 1) := by decide +kernel
theorem dX8_hour_1 : decode cX8_hour 1 = .ok (.getfield 10, 3) := by decide +kernel
theorem dX8_hour_4 : decode cX8_hour 4 = .ok (.aload_n 0, 1) := by decide +kernel
theorem dX8_hour_5 : decode cX8_hour 5 = .ok (.getfield 10, 3) := by decide +kernel
theorem dX8_hour_8 : decode cX8_hour 8 = .ok (.getfield 163, 3) := by decide +kernel
theorem dX8_hour_11 : decode cX8_hour 11 = .ok (.iconst 1, 1) := by decide +kernel
theorem dX8_hour_12 : decode cX8_hour 12 = .ok (.iadd, 1) := by decide +kernel
theorem dX8_hour_13 : decode cX8_hour 13 = .ok (.bipush 12, 2) := by decide +kernel
theorem dX8_hour_15 : decode cX8_hour 15 = .ok (.irem, 1) := by decide +kernel
theorem dX8_hour_16 : decode cX8_hour 16 = .ok (.putfield 163, 3) := by decide +kernel
theorem dX8_hour_19 : decode cX8_hour 19 = .ok (.aload_n 0, 1) := by decide +kernel
theorem dX8_hour_20 : decode cX8_hour 20 = .ok (.getfield 10, 3) := by decide +kernel
theorem dX8_hour_23 : decode cX8_hour 23 = .ok (.getfield 163, 3) := by decide +kernel
theorem dX8_hour_26 : decode cX8_hour 26 = .ok (.ireturn, 1) := by decide +kernel
theorem dX8_needs_0 : decode cX8_needs 0 = .ok (.aload_n 0, 1) := by decide +kernel
theorem dX8_needs_1 : decode cX8_needs 1 = .ok (.getfield 10, 3) := by decide +kernel
theorem dX8_needs_4 : decode cX8_needs 4 = .ok (.iload_n 1, 1) := by decide +kernel
theorem dX8_needs_5 : decode cX8_needs 5 = .ok (.invokevirtual 140, 3) := by decide +kernel
theorem dX8_needs_8 : decode cX8_needs 8 = .ok (.ifCond .eq 10, 3) := by decide +kernel
theorem dX8_needs_11 : decode cX8_needs 11 = .ok (.iload_n 2, 1) := by decide +kernel
theorem dX8_needs_12 : decode cX8_needs 12 = .ok (.invokestatic 116, 3) := by decide +kernel
theorem dX8_needs_15 : decode cX8_needs 15 = .ok (.ifCond .ne 9, 3) := by decide +kernel
theorem dX8_needs_18 : decode cX8_needs 18 = .ok (.aload_n 0, 1) := by decide +kernel
theorem dX8_needs_19 : decode cX8_needs 19 = .ok (.iconst (-1), 1) := by decide +kernel
theorem dX8_needs_20 : decode cX8_needs 20 = .ok (.invokevirtual 85, 3) := by decide +kernel
theorem dX8_needs_23 : decode cX8_needs 23 = .ok (.ireturn, 1) := by decide +kernel
theorem dX8_needs_24 : decode cX8_needs 24 = .ok (.aload_n 0, 1) := by decide +kernel
theorem dX8_needs_25 : decode cX8_needs 25 = .ok (.getfield 54, 3) := by decide +kernel
theorem dX8_needs_28 : decode cX8_needs 28 = .ok (.aload_n 0, 1) := by decide +kernel
theorem dX8_needs_29 : decode cX8_needs 29 = .ok (.getfield 10, 3) := by decide +kernel
theorem dX8_needs_32 : decode cX8_needs 32 = .ok (.iload_n 1, 1) := by decide +kernel
theorem dX8_needs_33 : decode cX8_needs 33 = .ok (.invokevirtual 166, 3) := by decide +kernel
theorem dX8_needs_36 : decode cX8_needs 36 = .ok (.aload_n 0, 1) := by decide +kernel
theorem dX8_needs_37 : decode cX8_needs 37 = .ok (.getfield 54, 3) := by decide +kernel
theorem dX8_needs_40 : decode cX8_needs 40 = .ok (.aload_n 0, 1) := by decide +kernel
theorem dX8_needs_41 : decode cX8_needs 41 = .ok (.getfield 10, 3) := by decide +kernel
theorem dX8_needs_44 : decode cX8_needs 44 = .ok (.iload_n 2, 1) := by decide +kernel
theorem dX8_needs_45 : decode cX8_needs 45 = .ok (.invokevirtual 120, 3) := by decide +kernel
theorem dX8_needs_48 : decode cX8_needs 48 = .ok (.invokevirtual 170, 3) := by decide +kernel
theorem dX8_needs_51 : decode cX8_needs 51 = .ok (.ireturn, 1) := by decide +kernel
theorem dX8_out_0 : decode cX8_out 0 = .ok (.aload_n 0, 1) := by decide +kernel
theorem dX8_out_1 : decode cX8_out 1 = .ok (.getfield 10, 3) := by decide +kernel
theorem dX8_out_4 : decode cX8_out 4 = .ok (.iload_n 1, 1) := by decide +kernel
theorem dX8_out_5 : decode cX8_out 5 = .ok (.invokevirtual 140, 3) := by decide +kernel
theorem dX8_out_8 : decode cX8_out 8 = .ok (.ifCond .eq 10, 3) := by decide +kernel
theorem dX8_out_11 : decode cX8_out 11 = .ok (.iload_n 2, 1) := by decide +kernel
theorem dX8_out_12 : decode cX8_out 12 = .ok (.invokestatic 116, 3) := by decide +kernel
theorem dX8_out_15 : decode cX8_out 15 = .ok (.ifCond .ne 9, 3) := by decide +kernel
theorem dX8_out_18 : decode cX8_out 18 = .ok (.aload_n 0, 1) := by decide +kernel
theorem dX8_out_19 : decode cX8_out 19 = .ok (.iconst (-1), 1) := by decide +kernel
theorem dX8_out_20 : decode cX8_out 20 = .ok (.invokevirtual 85, 3) := by decide +kernel
theorem dX8_out_23 : decode cX8_out 23 = .ok (.ireturn, 1) := by decide +kernel
theorem dX8_out_24 : decode cX8_out 24 = .ok (.aload_n 0, 1) := by decide +kernel
theorem dX8_out_25 : decode cX8_out 25 = .ok (.getfield 54, 3) := by decide +kernel
theorem dX8_out_28 : decode cX8_out 28 = .ok (.aload_n 0, 1) := by decide +kernel
theorem dX8_out_29 : decode cX8_out 29 = .ok (.getfield 10, 3) := by decide +kernel
theorem dX8_out_32 : decode cX8_out 32 = .ok (.iload_n 1, 1) := by decide +kernel
theorem dX8_out_33 : decode cX8_out 33 = .ok (.invokevirtual 166, 3) := by decide +kernel
theorem dX8_out_36 : decode cX8_out 36 = .ok (.aload_n 0, 1) := by decide +kernel
theorem dX8_out_37 : decode cX8_out 37 = .ok (.getfield 54, 3) := by decide +kernel
theorem dX8_out_40 : decode cX8_out 40 = .ok (.aload_n 0, 1) := by decide +kernel
theorem dX8_out_41 : decode cX8_out 41 = .ok (.getfield 54, 3) := by decide +kernel
theorem dX8_out_44 : decode cX8_out 44 = .ok (.getfield 173, 3) := by decide +kernel
theorem dX8_out_47 : decode cX8_out 47 = .ok (.aload_n 0, 1) := by decide +kernel
theorem dX8_out_48 : decode cX8_out 48 = .ok (.getfield 10, 3) := by decide +kernel
theorem dX8_out_51 : decode cX8_out 51 = .ok (.iload_n 2, 1) := by decide +kernel
theorem dX8_out_52 : decode cX8_out 52 = .ok (.invokevirtual 120, 3) := by decide +kernel
theorem dX8_out_55 : decode cX8_out 55 = .ok (.invokevirtual 176, 3) := by decide +kernel
theorem dX8_out_58 : decode cX8_out 58 = .ok (.ireturn, 1) := by decide +kernel
theorem dX8_lies_0 : decode cX8_lies 0 = .ok (.aload_n 0, 1) := by decide +kernel
theorem dX8_lies_1 : decode cX8_lies 1 = .ok (.getfield 10, 3) := by decide +kernel
theorem dX8_lies_4 : decode cX8_lies 4 = .ok (.iload_n 1, 1) := by decide +kernel
theorem dX8_lies_5 : decode cX8_lies 5 = .ok (.invokevirtual 140, 3) := by decide +kernel
theorem dX8_lies_8 : decode cX8_lies 8 = .ok (.ifCond .eq 10, 3) := by decide +kernel
theorem dX8_lies_11 : decode cX8_lies 11 = .ok (.iload_n 2, 1) := by decide +kernel
theorem dX8_lies_12 : decode cX8_lies 12 = .ok (.invokestatic 116, 3) := by decide +kernel
theorem dX8_lies_15 : decode cX8_lies 15 = .ok (.ifCond .ne 9, 3) := by decide +kernel
theorem dX8_lies_18 : decode cX8_lies 18 = .ok (.aload_n 0, 1) := by decide +kernel
theorem dX8_lies_19 : decode cX8_lies 19 = .ok (.iconst (-1), 1) := by decide +kernel
theorem dX8_lies_20 : decode cX8_lies 20 = .ok (.invokevirtual 126, 3) := by decide +kernel
theorem dX8_lies_23 : decode cX8_lies 23 = .ok (.ireturn, 1) := by decide +kernel
theorem dX8_lies_24 : decode cX8_lies 24 = .ok (.iload_n 3, 1) := by decide +kernel
theorem dX8_lies_25 : decode cX8_lies 25 = .ok (.iconst 3, 1) := by decide +kernel
theorem dX8_lies_26 : decode cX8_lies 26 = .ok (.invokestatic 153, 3) := by decide +kernel
theorem dX8_lies_29 : decode cX8_lies 29 = .ok (.ifCond .ne 10, 3) := by decide +kernel
theorem dX8_lies_32 : decode cX8_lies 32 = .ok (.aload_n 0, 1) := by decide +kernel
theorem dX8_lies_33 : decode cX8_lies 33 = .ok (.bipush (-2), 2) := by decide +kernel
theorem dX8_lies_35 : decode cX8_lies 35 = .ok (.invokevirtual 126, 3) := by decide +kernel
theorem dX8_lies_38 : decode cX8_lies 38 = .ok (.ireturn, 1) := by decide +kernel
theorem dX8_lies_39 : decode cX8_lies 39 = .ok (.aload_n 0, 1) := by decide +kernel
theorem dX8_lies_40 : decode cX8_lies 40 = .ok (.getfield 54, 3) := by decide +kernel
theorem dX8_lies_43 : decode cX8_lies 43 = .ok (.aload_n 0, 1) := by decide +kernel
theorem dX8_lies_44 : decode cX8_lies 44 = .ok (.getfield 10, 3) := by decide +kernel
theorem dX8_lies_47 : decode cX8_lies 47 = .ok (.iload_n 1, 1) := by decide +kernel
theorem dX8_lies_48 : decode cX8_lies 48 = .ok (.invokevirtual 166, 3) := by decide +kernel
theorem dX8_lies_51 : decode cX8_lies 51 = .ok (.aload_n 0, 1) := by decide +kernel
theorem dX8_lies_52 : decode cX8_lies 52 = .ok (.getfield 54, 3) := by decide +kernel
theorem dX8_lies_55 : decode cX8_lies 55 = .ok (.aload_n 0, 1) := by decide +kernel
theorem dX8_lies_56 : decode cX8_lies 56 = .ok (.getfield 54, 3) := by decide +kernel
theorem dX8_lies_59 : decode cX8_lies 59 = .ok (.getfield 173, 3) := by decide +kernel
theorem dX8_lies_62 : decode cX8_lies 62 = .ok (.aload_n 0, 1) := by decide +kernel
theorem dX8_lies_63 : decode cX8_lies 63 = .ok (.getfield 10, 3) := by decide +kernel
theorem dX8_lies_66 : decode cX8_lies 66 = .ok (.iload_n 2, 1) := by decide +kernel
theorem dX8_lies_67 : decode cX8_lies 67 = .ok (.invokevirtual 120, 3) := by decide +kernel
theorem dX8_lies_70 : decode cX8_lies 70 = .ok (.invokevirtual 176, 3) := by decide +kernel
theorem dX8_lies_73 : decode cX8_lies 73 = .ok (.istore 4, 2) := by decide +kernel
theorem dX8_lies_75 : decode cX8_lies 75 = .ok (.iload_n 3, 1) := by decide +kernel
theorem dX8_lies_76 : decode cX8_lies 76 = .ok (.ifCond .ne 14, 3) := by decide +kernel
theorem dX8_lies_79 : decode cX8_lies 79 = .ok (.aload_n 0, 1) := by decide +kernel
theorem dX8_lies_80 : decode cX8_lies 80 = .ok (.getfield 54, 3) := by decide +kernel
theorem dX8_lies_83 : decode cX8_lies 83 = .ok (.invokevirtual 179, 3) := by decide +kernel
theorem dX8_lies_86 : decode cX8_lies 86 = .ok (.iload 4, 2) := by decide +kernel
theorem dX8_lies_88 : decode cX8_lies 88 = .ok (.isub, 1) := by decide +kernel
theorem dX8_lies_89 : decode cX8_lies 89 = .ok (.ireturn, 1) := by decide +kernel
theorem dX8_lies_90 : decode cX8_lies 90 = .ok (.iload_n 3, 1) := by decide +kernel
theorem dX8_lies_91 : decode cX8_lies 91 = .ok (.iconst 1, 1) := by decide +kernel
theorem dX8_lies_92 : decode cX8_lies 92 = .ok (.if_icmp .ne 22, 3) := by decide +kernel
theorem dX8_lies_95 : decode cX8_lies 95 = .ok (.aload_n 0, 1) := by decide +kernel
theorem dX8_lies_96 : decode cX8_lies 96 = .ok (.getfield 54, 3) := by decide +kernel
theorem dX8_lies_99 : decode cX8_lies 99 = .ok (.invokevirtual 179, 3) := by decide +kernel
theorem dX8_lies_102 : decode cX8_lies 102 = .ok (.iload 4, 2) := by decide +kernel
theorem dX8_lies_104 : decode cX8_lies 104 = .ok (.iadd, 1) := by decide +kernel
theorem dX8_lies_105 : decode cX8_lies 105 = .ok (.aload_n 0, 1) := by decide +kernel
theorem dX8_lies_106 : decode cX8_lies 106 = .ok (.getfield 54, 3) := by decide +kernel
theorem dX8_lies_109 : decode cX8_lies 109 = .ok (.getfield 182, 3) := by decide +kernel
theorem dX8_lies_112 : decode cX8_lies 112 = .ok (.iadd, 1) := by decide +kernel
theorem dX8_lies_113 : decode cX8_lies 113 = .ok (.ireturn, 1) := by decide +kernel
theorem dX8_lies_114 : decode cX8_lies 114 = .ok (.aload_n 0, 1) := by decide +kernel
theorem dX8_lies_115 : decode cX8_lies 115 = .ok (.getfield 54, 3) := by decide +kernel
theorem dX8_lies_118 : decode cX8_lies 118 = .ok (.aload_n 0, 1) := by decide +kernel
theorem dX8_lies_119 : decode cX8_lies 119 = .ok (.getfield 10, 3) := by decide +kernel
theorem dX8_lies_122 : decode cX8_lies 122 = .ok (.iload_n 2, 1) := by decide +kernel
theorem dX8_lies_123 : decode cX8_lies 123 = .ok (.invokevirtual 120, 3) := by decide +kernel
theorem dX8_lies_126 : decode cX8_lies 126 = .ok (.aload_n 0, 1) := by decide +kernel
theorem dX8_lies_127 : decode cX8_lies 127 = .ok (.getfield 10, 3) := by decide +kernel
theorem dX8_lies_130 : decode cX8_lies 130 = .ok (.iload_n 2, 1) := by decide +kernel
theorem dX8_lies_131 : decode cX8_lies 131 = .ok (.invokevirtual 123, 3) := by decide +kernel
theorem dX8_lies_134 : decode cX8_lies 134 = .ok (.invokevirtual 185, 3) := by decide +kernel
theorem dX8_lies_137 : decode cX8_lies 137 = .ok (.ireturn, 1) := by decide +kernel
theorem dX8_hours_0 : decode cX8_hours 0 = .ok (.aload_n 0, 1) := by decide +kernel
theorem dX8_hours_1 : decode cX8_hours 1 = .ok (.getfield 10, 3) := by decide +kernel
theorem dX8_hours_4 : decode cX8_hours 4 = .ok (.iload_n 1, 1) := by decide +kernel
theorem dX8_hours_5 : decode cX8_hours 5 = .ok (.invokevirtual 140, 3) := by decide +kernel
theorem dX8_hours_8 : decode cX8_hours 8 = .ok (.ifCond .ne 9, 3) := by decide +kernel
theorem dX8_hours_11 : decode cX8_hours 11 = .ok (.aload_n 0, 1) := by decide +kernel
theorem dX8_hours_12 : decode cX8_hours 12 = .ok (.iconst (-1), 1) := by decide +kernel
theorem dX8_hours_13 : decode cX8_hours 13 = .ok (.invokevirtual 85, 3) := by decide +kernel
theorem dX8_hours_16 : decode cX8_hours 16 = .ok (.ireturn, 1) := by decide +kernel
theorem dX8_hours_17 : decode cX8_hours 17 = .ok (.aload_n 0, 1) := by decide +kernel
theorem dX8_hours_18 : decode cX8_hours 18 = .ok (.getfield 54, 3) := by decide +kernel
theorem dX8_hours_21 : decode cX8_hours 21 = .ok (.aload_n 0, 1) := by decide +kernel
theorem dX8_hours_22 : decode cX8_hours 22 = .ok (.getfield 10, 3) := by decide +kernel
theorem dX8_hours_25 : decode cX8_hours 25 = .ok (.iload_n 1, 1) := by decide +kernel
theorem dX8_hours_26 : decode cX8_hours 26 = .ok (.invokevirtual 166, 3) := by decide +kernel
theorem dX8_hours_29 : decode cX8_hours 29 = .ok (.iload_n 2, 1) := by decide +kernel
theorem dX8_hours_30 : decode cX8_hours 30 = .ok (.tableswitch 112 0 3 #[30, 45, 60, 68], 30) := by decide +kernel
theorem dX8_hours_60 : decode cX8_hours 60 = .ok (.aload_n 0, 1) := by decide +kernel
theorem dX8_hours_61 : decode cX8_hours 61 = .ok (.getfield 54, 3) := by decide +kernel
theorem dX8_hours_64 : decode cX8_hours 64 = .ok (.aload_n 0, 1) := by decide +kernel
theorem dX8_hours_65 : decode cX8_hours 65 = .ok (.getfield 10, 3) := by decide +kernel
theorem dX8_hours_68 : decode cX8_hours 68 = .ok (.getfield 188, 3) := by decide +kernel
theorem dX8_hours_71 : decode cX8_hours 71 = .ok (.invokevirtual 191, 3) := by decide +kernel
theorem dX8_hours_74 : decode cX8_hours 74 = .ok (.ireturn, 1) := by decide +kernel
theorem dX8_hours_75 : decode cX8_hours 75 = .ok (.aload_n 0, 1) := by decide +kernel
theorem dX8_hours_76 : decode cX8_hours 76 = .ok (.getfield 54, 3) := by decide +kernel
theorem dX8_hours_79 : decode cX8_hours 79 = .ok (.aload_n 0, 1) := by decide +kernel
theorem dX8_hours_80 : decode cX8_hours 80 = .ok (.getfield 10, 3) := by decide +kernel
theorem dX8_hours_83 : decode cX8_hours 83 = .ok (.getfield 188, 3) := by decide +kernel
theorem dX8_hours_86 : decode cX8_hours 86 = .ok (.invokevirtual 195, 3) := by decide +kernel
theorem dX8_hours_89 : decode cX8_hours 89 = .ok (.ireturn, 1) := by decide +kernel
theorem dX8_hours_90 : decode cX8_hours 90 = .ok (.aload_n 0, 1) := by decide +kernel
theorem dX8_hours_91 : decode cX8_hours 91 = .ok (.getfield 10, 3) := by decide +kernel
theorem dX8_hours_94 : decode cX8_hours 94 = .ok (.invokevirtual 198, 3) := by decide +kernel
theorem dX8_hours_97 : decode cX8_hours 97 = .ok (.ireturn, 1) := by decide +kernel
theorem dX8_hours_98 : decode cX8_hours 98 = .ok (.sipush 4095, 3) := by decide +kernel
theorem dX8_hours_101 : decode cX8_hours 101 = .ok (.aload_n 0, 1) := by decide +kernel
theorem dX8_hours_102 : decode cX8_hours 102 = .ok (.getfield 54, 3) := by decide +kernel
theorem dX8_hours_105 : decode cX8_hours 105 = .ok (.aload_n 0, 1) := by decide +kernel
theorem dX8_hours_106 : decode cX8_hours 106 = .ok (.getfield 10, 3) := by decide +kernel
theorem dX8_hours_109 : decode cX8_hours 109 = .ok (.getfield 188, 3) := by decide +kernel
theorem dX8_hours_112 : decode cX8_hours 112 = .ok (.invokevirtual 191, 3) := by decide +kernel
theorem dX8_hours_115 : decode cX8_hours 115 = .ok (.aload_n 0, 1) := by decide +kernel
theorem dX8_hours_116 : decode cX8_hours 116 = .ok (.getfield 54, 3) := by decide +kernel
theorem dX8_hours_119 : decode cX8_hours 119 = .ok (.aload_n 0, 1) := by decide +kernel
theorem dX8_hours_120 : decode cX8_hours 120 = .ok (.getfield 10, 3) := by decide +kernel
theorem dX8_hours_123 : decode cX8_hours 123 = .ok (.getfield 188, 3) := by decide +kernel
theorem dX8_hours_126 : decode cX8_hours 126 = .ok (.invokevirtual 195, 3) := by decide +kernel
theorem dX8_hours_129 : decode cX8_hours 129 = .ok (.ior, 1) := by decide +kernel
theorem dX8_hours_130 : decode cX8_hours 130 = .ok (.aload_n 0, 1) := by decide +kernel
theorem dX8_hours_131 : decode cX8_hours 131 = .ok (.getfield 10, 3) := by decide +kernel
theorem dX8_hours_134 : decode cX8_hours 134 = .ok (.invokevirtual 198, 3) := by decide +kernel
theorem dX8_hours_137 : decode cX8_hours 137 = .ok (.ior, 1) := by decide +kernel
theorem dX8_hours_138 : decode cX8_hours 138 = .ok (.iconst (-1), 1) := by decide +kernel
theorem dX8_hours_139 : decode cX8_hours 139 = .ok (.ixor, 1) := by decide +kernel
theorem dX8_hours_140 : decode cX8_hours 140 = .ok (.iand, 1) := by decide +kernel
theorem dX8_hours_141 : decode cX8_hours 141 = .ok (.ireturn, 1) := by decide +kernel
theorem dX8_hours_142 : decode cX8_hours 142 = .ok (.aload_n 0, 1) := by decide +kernel
theorem dX8_hours_143 : decode cX8_hours 143 = .ok (.bipush (-2), 2) := by decide +kernel
theorem dX8_hours_145 : decode cX8_hours 145 = .ok (.invokevirtual 85, 3) := by decide +kernel
theorem dX8_hours_148 : decode cX8_hours 148 = .ok (.ireturn, 1) := by decide +kernel
theorem dX8_length_0 : decode cX8_length 0 = .ok (.aload_n 0, 1) := by decide +kernel
theorem dX8_length_1 : decode cX8_length 1 = .ok (.getfield 10, 3) := by decide +kernel
theorem dX8_length_4 : decode cX8_length 4 = .ok (.iload_n 1, 1) := by decide +kernel
theorem dX8_length_5 : decode cX8_length 5 = .ok (.invokevirtual 140, 3) := by decide +kernel
theorem dX8_length_8 : decode cX8_length 8 = .ok (.ifCond .ne 9, 3) := by decide +kernel
theorem dX8_length_11 : decode cX8_length 11 = .ok (.aload_n 0, 1) := by decide +kernel
theorem dX8_length_12 : decode cX8_length 12 = .ok (.iconst (-1), 1) := by decide +kernel
theorem dX8_length_13 : decode cX8_length 13 = .ok (.invokevirtual 85, 3) := by decide +kernel
theorem dX8_length_16 : decode cX8_length 16 = .ok (.ireturn, 1) := by decide +kernel
theorem dX8_length_17 : decode cX8_length 17 = .ok (.iload_n 2, 1) := by decide +kernel
theorem dX8_length_18 : decode cX8_length 18 = .ok (.iconst 3, 1) := by decide +kernel
theorem dX8_length_19 : decode cX8_length 19 = .ok (.invokestatic 153, 3) := by decide +kernel
theorem dX8_length_22 : decode cX8_length 22 = .ok (.ifCond .ne 10, 3) := by decide +kernel
theorem dX8_length_25 : decode cX8_length 25 = .ok (.aload_n 0, 1) := by decide +kernel
theorem dX8_length_26 : decode cX8_length 26 = .ok (.bipush (-2), 2) := by decide +kernel
theorem dX8_length_28 : decode cX8_length 28 = .ok (.invokevirtual 85, 3) := by decide +kernel
theorem dX8_length_31 : decode cX8_length 31 = .ok (.ireturn, 1) := by decide +kernel
theorem dX8_length_32 : decode cX8_length 32 = .ok (.aload_n 0, 1) := by decide +kernel
theorem dX8_length_33 : decode cX8_length 33 = .ok (.getfield 54, 3) := by decide +kernel
theorem dX8_length_36 : decode cX8_length 36 = .ok (.aload_n 0, 1) := by decide +kernel
theorem dX8_length_37 : decode cX8_length 37 = .ok (.getfield 10, 3) := by decide +kernel
theorem dX8_length_40 : decode cX8_length 40 = .ok (.iload_n 1, 1) := by decide +kernel
theorem dX8_length_41 : decode cX8_length 41 = .ok (.invokevirtual 166, 3) := by decide +kernel
theorem dX8_length_44 : decode cX8_length 44 = .ok (.aload_n 0, 1) := by decide +kernel
theorem dX8_length_45 : decode cX8_length 45 = .ok (.getfield 64, 3) := by decide +kernel
theorem dX8_length_48 : decode cX8_length 48 = .ok (.aload_n 0, 1) := by decide +kernel
theorem dX8_length_49 : decode cX8_length 49 = .ok (.getfield 54, 3) := by decide +kernel
theorem dX8_length_52 : decode cX8_length 52 = .ok (.aload_n 0, 1) := by decide +kernel
theorem dX8_length_53 : decode cX8_length 53 = .ok (.getfield 10, 3) := by decide +kernel
theorem dX8_length_56 : decode cX8_length 56 = .ok (.getfield 188, 3) := by decide +kernel
theorem dX8_length_59 : decode cX8_length 59 = .ok (.invokevirtual 201, 3) := by decide +kernel
theorem dX8_length_62 : decode cX8_length 62 = .ok (.iload_n 2, 1) := by decide +kernel
theorem dX8_length_63 : decode cX8_length 63 = .ok (.ifCond .ne 14, 3) := by decide +kernel
theorem dX8_length_66 : decode cX8_length 66 = .ok (.aload_n 0, 1) := by decide +kernel
theorem dX8_length_67 : decode cX8_length 67 = .ok (.getfield 64, 3) := by decide +kernel
theorem dX8_length_70 : decode cX8_length 70 = .ok (.invokevirtual 205, 3) := by decide +kernel
theorem dX8_length_73 : decode cX8_length 73 = .ok (.invokestatic 208, 3) := by decide +kernel
theorem dX8_length_76 : decode cX8_length 76 = .ok (.ireturn, 1) := by decide +kernel
theorem dX8_length_77 : decode cX8_length 77 = .ok (.iload_n 2, 1) := by decide +kernel
theorem dX8_length_78 : decode cX8_length 78 = .ok (.iconst 1, 1) := by decide +kernel
theorem dX8_length_79 : decode cX8_length 79 = .ok (.if_icmp .ne 11, 3) := by decide +kernel
theorem dX8_length_82 : decode cX8_length 82 = .ok (.aload_n 0, 1) := by decide +kernel
theorem dX8_length_83 : decode cX8_length 83 = .ok (.getfield 64, 3) := by decide +kernel
theorem dX8_length_86 : decode cX8_length 86 = .ok (.invokevirtual 211, 3) := by decide +kernel
theorem dX8_length_89 : decode cX8_length 89 = .ok (.ireturn, 1) := by decide +kernel
theorem dX8_length_90 : decode cX8_length 90 = .ok (.aload_n 0, 1) := by decide +kernel
theorem dX8_length_91 : decode cX8_length 91 = .ok (.getfield 10, 3) := by decide +kernel
theorem dX8_length_94 : decode cX8_length 94 = .ok (.invokevirtual 198, 3) := by decide +kernel
theorem dX8_length_97 : decode cX8_length 97 = .ok (.ifCond .eq 5, 3) := by decide +kernel
theorem dX8_length_100 : decode cX8_length 100 = .ok (.iconst 0, 1) := by decide +kernel
theorem dX8_length_101 : decode cX8_length 101 = .ok (.ireturn, 1) := by decide +kernel
theorem dX8_length_102 : decode cX8_length 102 = .ok (.iconst 0, 1) := by decide +kernel
theorem dX8_length_103 : decode cX8_length 103 = .ok (.aload_n 0, 1) := by decide +kernel
theorem dX8_length_104 : decode cX8_length 104 = .ok (.getfield 64, 3) := by decide +kernel
theorem dX8_length_107 : decode cX8_length 107 = .ok (.invokevirtual 211, 3) := by decide +kernel
theorem dX8_length_110 : decode cX8_length 110 = .ok (.aload_n 0, 1) := by decide +kernel
theorem dX8_length_111 : decode cX8_length 111 = .ok (.getfield 64, 3) := by decide +kernel
theorem dX8_length_114 : decode cX8_length 114 = .ok (.invokevirtual 205, 3) := by decide +kernel
theorem dX8_length_117 : decode cX8_length 117 = .ok (.isub, 1) := by decide +kernel
theorem dX8_length_118 : decode cX8_length 118 = .ok (.iconst 1, 1) := by decide +kernel
theorem dX8_length_119 : decode cX8_length 119 = .ok (.iadd, 1) := by decide +kernel
theorem dX8_length_120 : decode cX8_length 120 = .ok (.invokestatic 214, 3) := by decide +kernel
theorem dX8_length_123 : decode cX8_length 123 = .ok (.ireturn, 1) := by decide +kernel
theorem dX8_tended_0 : decode cX8_tended 0 = .ok (.aload_n 0, 1) := by decide +kernel
theorem dX8_tended_1 : decode cX8_tended 1 = .ok (.getfield 10, 3) := by decide +kernel
theorem dX8_tended_4 : decode cX8_tended 4 = .ok (.iload_n 1, 1) := by decide +kernel
theorem dX8_tended_5 : decode cX8_tended 5 = .ok (.invokevirtual 140, 3) := by decide +kernel
theorem dX8_tended_8 : decode cX8_tended 8 = .ok (.ifCond .ne 9, 3) := by decide +kernel
theorem dX8_tended_11 : decode cX8_tended 11 = .ok (.aload_n 0, 1) := by decide +kernel
theorem dX8_tended_12 : decode cX8_tended 12 = .ok (.iconst (-1), 1) := by decide +kernel
theorem dX8_tended_13 : decode cX8_tended 13 = .ok (.invokevirtual 85, 3) := by decide +kernel
theorem dX8_tended_16 : decode cX8_tended 16 = .ok (.ireturn, 1) := by decide +kernel
theorem dX8_tended_17 : decode cX8_tended 17 = .ok (.iload_n 2, 1) := by decide +kernel
theorem dX8_tended_18 : decode cX8_tended 18 = .ok (.iconst 2, 1) := by decide +kernel
theorem dX8_tended_19 : decode cX8_tended 19 = .ok (.invokestatic 153, 3) := by decide +kernel
theorem dX8_tended_22 : decode cX8_tended 22 = .ok (.ifCond .ne 10, 3) := by decide +kernel
theorem dX8_tended_25 : decode cX8_tended 25 = .ok (.aload_n 0, 1) := by decide +kernel
theorem dX8_tended_26 : decode cX8_tended 26 = .ok (.bipush (-2), 2) := by decide +kernel
theorem dX8_tended_28 : decode cX8_tended 28 = .ok (.invokevirtual 85, 3) := by decide +kernel
theorem dX8_tended_31 : decode cX8_tended 31 = .ok (.ireturn, 1) := by decide +kernel
theorem dX8_tended_32 : decode cX8_tended 32 = .ok (.aload_n 0, 1) := by decide +kernel
theorem dX8_tended_33 : decode cX8_tended 33 = .ok (.getfield 54, 3) := by decide +kernel
theorem dX8_tended_36 : decode cX8_tended 36 = .ok (.aload_n 0, 1) := by decide +kernel
theorem dX8_tended_37 : decode cX8_tended 37 = .ok (.getfield 10, 3) := by decide +kernel
theorem dX8_tended_40 : decode cX8_tended 40 = .ok (.iload_n 1, 1) := by decide +kernel
theorem dX8_tended_41 : decode cX8_tended 41 = .ok (.invokevirtual 166, 3) := by decide +kernel
theorem dX8_tended_44 : decode cX8_tended 44 = .ok (.aload_n 0, 1) := by decide +kernel
theorem dX8_tended_45 : decode cX8_tended 45 = .ok (.getfield 64, 3) := by decide +kernel
theorem dX8_tended_48 : decode cX8_tended 48 = .ok (.aload_n 0, 1) := by decide +kernel
theorem dX8_tended_49 : decode cX8_tended 49 = .ok (.getfield 54, 3) := by decide +kernel
theorem dX8_tended_52 : decode cX8_tended 52 = .ok (.aload_n 0, 1) := by decide +kernel
theorem dX8_tended_53 : decode cX8_tended 53 = .ok (.getfield 10, 3) := by decide +kernel
theorem dX8_tended_56 : decode cX8_tended 56 = .ok (.getfield 188, 3) := by decide +kernel
theorem dX8_tended_59 : decode cX8_tended 59 = .ok (.invokevirtual 201, 3) := by decide +kernel
theorem dX8_tended_62 : decode cX8_tended 62 = .ok (.aload_n 0, 1) := by decide +kernel
theorem dX8_tended_63 : decode cX8_tended 63 = .ok (.getfield 64, 3) := by decide +kernel
theorem dX8_tended_66 : decode cX8_tended 66 = .ok (.invokevirtual 219, 3) := by decide +kernel
theorem dX8_tended_69 : decode cX8_tended 69 = .ok (.istore_n 3, 1) := by decide +kernel
theorem dX8_tended_70 : decode cX8_tended 70 = .ok (.iload_n 2, 1) := by decide +kernel
theorem dX8_tended_71 : decode cX8_tended 71 = .ok (.ifCond .ne 16, 3) := by decide +kernel
theorem dX8_tended_74 : decode cX8_tended 74 = .ok (.iload_n 3, 1) := by decide +kernel
theorem dX8_tended_75 : decode cX8_tended 75 = .ok (.bipush (-9), 2) := by decide +kernel
theorem dX8_tended_77 : decode cX8_tended 77 = .ok (.if_icmp .eq 10, 3) := by decide +kernel
theorem dX8_tended_80 : decode cX8_tended 80 = .ok (.iload_n 3, 1) := by decide +kernel
theorem dX8_tended_81 : decode cX8_tended 81 = .ok (.invokestatic 222, 3) := by decide +kernel
theorem dX8_tended_84 : decode cX8_tended 84 = .ok (.goto 4, 3) := by decide +kernel
theorem dX8_tended_87 : decode cX8_tended 87 = .ok (.iload_n 3, 1) := by decide +kernel
theorem dX8_tended_88 : decode cX8_tended 88 = .ok (.ireturn, 1) := by decide +kernel
theorem dX8_slack_0 : decode cX8_slack 0 = .ok (.aload_n 0, 1) := by decide +kernel
theorem dX8_slack_1 : decode cX8_slack 1 = .ok (.getfield 10, 3) := by decide +kernel
theorem dX8_slack_4 : decode cX8_slack 4 = .ok (.iload_n 1, 1) := by decide +kernel
theorem dX8_slack_5 : decode cX8_slack 5 = .ok (.invokevirtual 140, 3) := by decide +kernel
theorem dX8_slack_8 : decode cX8_slack 8 = .ok (.ifCond .ne 9, 3) := by decide +kernel
theorem dX8_slack_11 : decode cX8_slack 11 = .ok (.aload_n 0, 1) := by decide +kernel
theorem dX8_slack_12 : decode cX8_slack 12 = .ok (.iconst (-1), 1) := by decide +kernel
theorem dX8_slack_13 : decode cX8_slack 13 = .ok (.invokevirtual 126, 3) := by decide +kernel
theorem dX8_slack_16 : decode cX8_slack 16 = .ok (.ireturn, 1) := by decide +kernel
theorem dX8_slack_17 : decode cX8_slack 17 = .ok (.aload_n 0, 1) := by decide +kernel
theorem dX8_slack_18 : decode cX8_slack 18 = .ok (.getfield 54, 3) := by decide +kernel
theorem dX8_slack_21 : decode cX8_slack 21 = .ok (.aload_n 0, 1) := by decide +kernel
theorem dX8_slack_22 : decode cX8_slack 22 = .ok (.getfield 10, 3) := by decide +kernel
theorem dX8_slack_25 : decode cX8_slack 25 = .ok (.iload_n 1, 1) := by decide +kernel
theorem dX8_slack_26 : decode cX8_slack 26 = .ok (.invokevirtual 166, 3) := by decide +kernel
theorem dX8_slack_29 : decode cX8_slack 29 = .ok (.aload_n 0, 1) := by decide +kernel
theorem dX8_slack_30 : decode cX8_slack 30 = .ok (.getfield 54, 3) := by decide +kernel
theorem dX8_slack_33 : decode cX8_slack 33 = .ok (.getfield 173, 3) := by decide +kernel
theorem dX8_slack_36 : decode cX8_slack 36 = .ok (.aload_n 0, 1) := by decide +kernel
theorem dX8_slack_37 : decode cX8_slack 37 = .ok (.getfield 54, 3) := by decide +kernel
theorem dX8_slack_40 : decode cX8_slack 40 = .ok (.aload_n 0, 1) := by decide +kernel
theorem dX8_slack_41 : decode cX8_slack 41 = .ok (.getfield 10, 3) := by decide +kernel
theorem dX8_slack_44 : decode cX8_slack 44 = .ok (.getfield 188, 3) := by decide +kernel
theorem dX8_slack_47 : decode cX8_slack 47 = .ok (.invokevirtual 227, 3) := by decide +kernel
theorem dX8_slack_50 : decode cX8_slack 50 = .ok (.isub, 1) := by decide +kernel
theorem dX8_slack_51 : decode cX8_slack 51 = .ok (.ireturn, 1) := by decide +kernel
theorem dX8_saves_0 : decode cX8_saves 0 = .ok (.aload_n 0, 1) := by decide +kernel
theorem dX8_saves_1 : decode cX8_saves 1 = .ok (.getfield 10, 3) := by decide +kernel
theorem dX8_saves_4 : decode cX8_saves 4 = .ok (.iload_n 1, 1) := by decide +kernel
theorem dX8_saves_5 : decode cX8_saves 5 = .ok (.invokevirtual 140, 3) := by decide +kernel
theorem dX8_saves_8 : decode cX8_saves 8 = .ok (.ifCond .ne 9, 3) := by decide +kernel
theorem dX8_saves_11 : decode cX8_saves 11 = .ok (.aload_n 0, 1) := by decide +kernel
theorem dX8_saves_12 : decode cX8_saves 12 = .ok (.iconst (-1), 1) := by decide +kernel
theorem dX8_saves_13 : decode cX8_saves 13 = .ok (.invokevirtual 126, 3) := by decide +kernel
theorem dX8_saves_16 : decode cX8_saves 16 = .ok (.ireturn, 1) := by decide +kernel
theorem dX8_saves_17 : decode cX8_saves 17 = .ok (.iload_n 2, 1) := by decide +kernel
theorem dX8_saves_18 : decode cX8_saves 18 = .ok (.bipush 6, 2) := by decide +kernel
theorem dX8_saves_20 : decode cX8_saves 20 = .ok (.invokestatic 153, 3) := by decide +kernel
theorem dX8_saves_23 : decode cX8_saves 23 = .ok (.ifCond .ne 10, 3) := by decide +kernel
theorem dX8_saves_26 : decode cX8_saves 26 = .ok (.aload_n 0, 1) := by decide +kernel
theorem dX8_saves_27 : decode cX8_saves 27 = .ok (.bipush (-2), 2) := by decide +kernel
theorem dX8_saves_29 : decode cX8_saves 29 = .ok (.invokevirtual 126, 3) := by decide +kernel
theorem dX8_saves_32 : decode cX8_saves 32 = .ok (.ireturn, 1) := by decide +kernel
theorem dX8_saves_33 : decode cX8_saves 33 = .ok (.aload_n 0, 1) := by decide +kernel
theorem dX8_saves_34 : decode cX8_saves 34 = .ok (.getfield 54, 3) := by decide +kernel
theorem dX8_saves_37 : decode cX8_saves 37 = .ok (.aload_n 0, 1) := by decide +kernel
theorem dX8_saves_38 : decode cX8_saves 38 = .ok (.getfield 10, 3) := by decide +kernel
theorem dX8_saves_41 : decode cX8_saves 41 = .ok (.iload_n 1, 1) := by decide +kernel
theorem dX8_saves_42 : decode cX8_saves 42 = .ok (.invokevirtual 166, 3) := by decide +kernel
theorem dX8_saves_45 : decode cX8_saves 45 = .ok (.aload_n 0, 1) := by decide +kernel
theorem dX8_saves_46 : decode cX8_saves 46 = .ok (.getfield 54, 3) := by decide +kernel
theorem dX8_saves_49 : decode cX8_saves 49 = .ok (.iconst 0, 1) := by decide +kernel
theorem dX8_saves_50 : decode cX8_saves 50 = .ok (.putfield 230, 3) := by decide +kernel
theorem dX8_saves_53 : decode cX8_saves 53 = .ok (.bipush 99, 2) := by decide +kernel
theorem dX8_saves_55 : decode cX8_saves 55 = .ok (.aload_n 0, 1) := by decide +kernel
theorem dX8_saves_56 : decode cX8_saves 56 = .ok (.getfield 54, 3) := by decide +kernel
theorem dX8_saves_59 : decode cX8_saves 59 = .ok (.aload_n 0, 1) := by decide +kernel
theorem dX8_saves_60 : decode cX8_saves 60 = .ok (.getfield 10, 3) := by decide +kernel
theorem dX8_saves_63 : decode cX8_saves 63 = .ok (.getfield 188, 3) := by decide +kernel
theorem dX8_saves_66 : decode cX8_saves 66 = .ok (.invokevirtual 227, 3) := by decide +kernel
theorem dX8_saves_69 : decode cX8_saves 69 = .ok (.invokestatic 233, 3) := by decide +kernel
theorem dX8_saves_72 : decode cX8_saves 72 = .ok (.istore_n 3, 1) := by decide +kernel
theorem dX8_saves_73 : decode cX8_saves 73 = .ok (.aload_n 0, 1) := by decide +kernel
theorem dX8_saves_74 : decode cX8_saves 74 = .ok (.getfield 54, 3) := by decide +kernel
theorem dX8_saves_77 : decode cX8_saves 77 = .ok (.iload_n 2, 1) := by decide +kernel
theorem dX8_saves_78 : decode cX8_saves 78 = .ok (.putfield 230, 3) := by decide +kernel
theorem dX8_saves_81 : decode cX8_saves 81 = .ok (.iload_n 3, 1) := by decide +kernel
theorem dX8_saves_82 : decode cX8_saves 82 = .ok (.bipush 99, 2) := by decide +kernel
theorem dX8_saves_84 : decode cX8_saves 84 = .ok (.aload_n 0, 1) := by decide +kernel
theorem dX8_saves_85 : decode cX8_saves 85 = .ok (.getfield 54, 3) := by decide +kernel
theorem dX8_saves_88 : decode cX8_saves 88 = .ok (.aload_n 0, 1) := by decide +kernel
theorem dX8_saves_89 : decode cX8_saves 89 = .ok (.getfield 10, 3) := by decide +kernel
theorem dX8_saves_92 : decode cX8_saves 92 = .ok (.getfield 188, 3) := by decide +kernel
theorem dX8_saves_95 : decode cX8_saves 95 = .ok (.invokevirtual 227, 3) := by decide +kernel
theorem dX8_saves_98 : decode cX8_saves 98 = .ok (.invokestatic 233, 3) := by decide +kernel
theorem dX8_saves_101 : decode cX8_saves 101 = .ok (.isub, 1) := by decide +kernel
theorem dX8_saves_102 : decode cX8_saves 102 = .ok (.ireturn, 1) := by decide +kernel
theorem dX8_touch_0 : decode cX8_touch 0 = .ok (.aload_n 0, 1) := by decide +kernel
theorem dX8_touch_1 : decode cX8_touch 1 = .ok (.iload_n 1, 1) := by decide +kernel
theorem dX8_touch_2 : decode cX8_touch 2 = .ok (.iload_n 2, 1) := by decide +kernel
theorem dX8_touch_3 : decode cX8_touch 3 = .ok (.invokevirtual 236, 3) := by decide +kernel
theorem dX8_touch_6 : decode cX8_touch 6 = .ok (.ifCond .ne 9, 3) := by decide +kernel
theorem dX8_touch_9 : decode cX8_touch 9 = .ok (.aload_n 0, 1) := by decide +kernel
theorem dX8_touch_10 : decode cX8_touch 10 = .ok (.iconst (-1), 1) := by decide +kernel
theorem dX8_touch_11 : decode cX8_touch 11 = .ok (.invokevirtual 85, 3) := by decide +kernel
theorem dX8_touch_14 : decode cX8_touch 14 = .ok (.ireturn, 1) := by decide +kernel
theorem dX8_touch_15 : decode cX8_touch 15 = .ok (.aload_n 0, 1) := by decide +kernel
theorem dX8_touch_16 : decode cX8_touch 16 = .ok (.getfield 54, 3) := by decide +kernel
theorem dX8_touch_19 : decode cX8_touch 19 = .ok (.aload_n 0, 1) := by decide +kernel
theorem dX8_touch_20 : decode cX8_touch 20 = .ok (.getfield 10, 3) := by decide +kernel
theorem dX8_touch_23 : decode cX8_touch 23 = .ok (.iload_n 1, 1) := by decide +kernel
theorem dX8_touch_24 : decode cX8_touch 24 = .ok (.invokevirtual 166, 3) := by decide +kernel
theorem dX8_touch_27 : decode cX8_touch 27 = .ok (.aload_n 0, 1) := by decide +kernel
theorem dX8_touch_28 : decode cX8_touch 28 = .ok (.getfield 58, 3) := by decide +kernel
theorem dX8_touch_31 : decode cX8_touch 31 = .ok (.aload_n 0, 1) := by decide +kernel
theorem dX8_touch_32 : decode cX8_touch 32 = .ok (.getfield 10, 3) := by decide +kernel
theorem dX8_touch_35 : decode cX8_touch 35 = .ok (.iload_n 2, 1) := by decide +kernel
theorem dX8_touch_36 : decode cX8_touch 36 = .ok (.invokevirtual 166, 3) := by decide +kernel
theorem dX8_touch_39 : decode cX8_touch 39 = .ok (.aload_n 0, 1) := by decide +kernel
theorem dX8_touch_40 : decode cX8_touch 40 = .ok (.getfield 54, 3) := by decide +kernel
theorem dX8_touch_43 : decode cX8_touch 43 = .ok (.aload_n 0, 1) := by decide +kernel
theorem dX8_touch_44 : decode cX8_touch 44 = .ok (.getfield 54, 3) := by decide +kernel
theorem dX8_touch_47 : decode cX8_touch 47 = .ok (.getfield 173, 3) := by decide +kernel
theorem dX8_touch_50 : decode cX8_touch 50 = .ok (.aload_n 0, 1) := by decide +kernel
theorem dX8_touch_51 : decode cX8_touch 51 = .ok (.getfield 58, 3) := by decide +kernel
theorem dX8_touch_54 : decode cX8_touch 54 = .ok (.aload_n 0, 1) := by decide +kernel
theorem dX8_touch_55 : decode cX8_touch 55 = .ok (.getfield 58, 3) := by decide +kernel
theorem dX8_touch_58 : decode cX8_touch 58 = .ok (.getfield 173, 3) := by decide +kernel
theorem dX8_touch_61 : decode cX8_touch 61 = .ok (.aload_n 0, 1) := by decide +kernel
theorem dX8_touch_62 : decode cX8_touch 62 = .ok (.getfield 10, 3) := by decide +kernel
theorem dX8_touch_65 : decode cX8_touch 65 = .ok (.getfield 188, 3) := by decide +kernel
theorem dX8_touch_68 : decode cX8_touch 68 = .ok (.invokevirtual 239, 3) := by decide +kernel
theorem dX8_touch_71 : decode cX8_touch 71 = .ok (.ireturn, 1) := by decide +kernel
theorem dX8_clear_0 : decode cX8_clear 0 = .ok (.aload_n 0, 1) := by decide +kernel
theorem dX8_clear_1 : decode cX8_clear 1 = .ok (.iload_n 1, 1) := by decide +kernel
theorem dX8_clear_2 : decode cX8_clear 2 = .ok (.iload_n 2, 1) := by decide +kernel
theorem dX8_clear_3 : decode cX8_clear 3 = .ok (.invokevirtual 236, 3) := by decide +kernel
theorem dX8_clear_6 : decode cX8_clear 6 = .ok (.ifCond .ne 9, 3) := by decide +kernel
theorem dX8_clear_9 : decode cX8_clear 9 = .ok (.aload_n 0, 1) := by decide +kernel
theorem dX8_clear_10 : decode cX8_clear 10 = .ok (.iconst (-1), 1) := by decide +kernel
theorem dX8_clear_11 : decode cX8_clear 11 = .ok (.invokevirtual 85, 3) := by decide +kernel
theorem dX8_clear_14 : decode cX8_clear 14 = .ok (.ireturn, 1) := by decide +kernel
theorem dX8_clear_15 : decode cX8_clear 15 = .ok (.aload_n 0, 1) := by decide +kernel
theorem dX8_clear_16 : decode cX8_clear 16 = .ok (.getfield 54, 3) := by decide +kernel
theorem dX8_clear_19 : decode cX8_clear 19 = .ok (.aload_n 0, 1) := by decide +kernel
theorem dX8_clear_20 : decode cX8_clear 20 = .ok (.getfield 10, 3) := by decide +kernel
theorem dX8_clear_23 : decode cX8_clear 23 = .ok (.iload_n 1, 1) := by decide +kernel
theorem dX8_clear_24 : decode cX8_clear 24 = .ok (.invokevirtual 166, 3) := by decide +kernel
theorem dX8_clear_27 : decode cX8_clear 27 = .ok (.aload_n 0, 1) := by decide +kernel
theorem dX8_clear_28 : decode cX8_clear 28 = .ok (.getfield 58, 3) := by decide +kernel
theorem dX8_clear_31 : decode cX8_clear 31 = .ok (.aload_n 0, 1) := by decide +kernel
theorem dX8_clear_32 : decode cX8_clear 32 = .ok (.getfield 10, 3) := by decide +kernel
theorem dX8_clear_35 : decode cX8_clear 35 = .ok (.iload_n 2, 1) := by decide +kernel
theorem dX8_clear_36 : decode cX8_clear 36 = .ok (.invokevirtual 166, 3) := by decide +kernel
theorem dX8_clear_39 : decode cX8_clear 39 = .ok (.bipush (-9), 2) := by decide +kernel
theorem dX8_clear_41 : decode cX8_clear 41 = .ok (.istore_n 3, 1) := by decide +kernel
theorem dX8_clear_42 : decode cX8_clear 42 = .ok (.bipush 13, 2) := by decide +kernel
theorem dX8_clear_44 : decode cX8_clear 44 = .ok (.istore 4, 2) := by decide +kernel
theorem dX8_clear_46 : decode cX8_clear 46 = .ok (.aload_n 0, 1) := by decide +kernel
theorem dX8_clear_47 : decode cX8_clear 47 = .ok (.getfield 54, 3) := by decide +kernel
theorem dX8_clear_50 : decode cX8_clear 50 = .ok (.aload_n 0, 1) := by decide +kernel
theorem dX8_clear_51 : decode cX8_clear 51 = .ok (.getfield 10, 3) := by decide +kernel
theorem dX8_clear_54 : decode cX8_clear 54 = .ok (.getfield 188, 3) := by decide +kernel
theorem dX8_clear_57 : decode cX8_clear 57 = .ok (.invokevirtual 227, 3) := by decide +kernel
theorem dX8_clear_60 : decode cX8_clear 60 = .ok (.istore 5, 2) := by decide +kernel
theorem dX8_clear_62 : decode cX8_clear 62 = .ok (.iload 5, 2) := by decide +kernel
theorem dX8_clear_64 : decode cX8_clear 64 = .ok (.bipush 99, 2) := by decide +kernel
theorem dX8_clear_66 : decode cX8_clear 66 = .ok (.if_icmp .gt 55, 3) := by decide +kernel
theorem dX8_clear_69 : decode cX8_clear 69 = .ok (.aload_n 0, 1) := by decide +kernel
theorem dX8_clear_70 : decode cX8_clear 70 = .ok (.getfield 54, 3) := by decide +kernel
theorem dX8_clear_73 : decode cX8_clear 73 = .ok (.iload 5, 2) := by decide +kernel
theorem dX8_clear_75 : decode cX8_clear 75 = .ok (.aload_n 0, 1) := by decide +kernel
theorem dX8_clear_76 : decode cX8_clear 76 = .ok (.getfield 58, 3) := by decide +kernel
theorem dX8_clear_79 : decode cX8_clear 79 = .ok (.aload_n 0, 1) := by decide +kernel
theorem dX8_clear_80 : decode cX8_clear 80 = .ok (.getfield 58, 3) := by decide +kernel
theorem dX8_clear_83 : decode cX8_clear 83 = .ok (.getfield 173, 3) := by decide +kernel
theorem dX8_clear_86 : decode cX8_clear 86 = .ok (.aload_n 0, 1) := by decide +kernel
theorem dX8_clear_87 : decode cX8_clear 87 = .ok (.getfield 10, 3) := by decide +kernel
theorem dX8_clear_90 : decode cX8_clear 90 = .ok (.getfield 188, 3) := by decide +kernel
theorem dX8_clear_93 : decode cX8_clear 93 = .ok (.invokevirtual 239, 3) := by decide +kernel
theorem dX8_clear_96 : decode cX8_clear 96 = .ok (.invokestatic 222, 3) := by decide +kernel
theorem dX8_clear_99 : decode cX8_clear 99 = .ok (.istore 6, 2) := by decide +kernel
theorem dX8_clear_101 : decode cX8_clear 101 = .ok (.iload 6, 2) := by decide +kernel
theorem dX8_clear_103 : decode cX8_clear 103 = .ok (.iload 4, 2) := by decide +kernel
theorem dX8_clear_105 : decode cX8_clear 105 = .ok (.if_icmp .ge 10, 3) := by decide +kernel
theorem dX8_clear_108 : decode cX8_clear 108 = .ok (.iload 6, 2) := by decide +kernel
theorem dX8_clear_110 : decode cX8_clear 110 = .ok (.istore 4, 2) := by decide +kernel
theorem dX8_clear_112 : decode cX8_clear 112 = .ok (.iload 5, 2) := by decide +kernel
theorem dX8_clear_114 : decode cX8_clear 114 = .ok (.istore_n 3, 1) := by decide +kernel
theorem dX8_clear_115 : decode cX8_clear 115 = .ok (.iinc 5 1, 3) := by decide +kernel
theorem dX8_clear_118 : decode cX8_clear 118 = .ok (.goto (-56), 3) := by decide +kernel
theorem dX8_clear_121 : decode cX8_clear 121 = .ok (.iload_n 3, 1) := by decide +kernel
theorem dX8_clear_122 : decode cX8_clear 122 = .ok (.ireturn, 1) := by decide +kernel
theorem dX8_crossed_0 : decode cX8_crossed 0 = .ok (.iload_n 1, 1) := by decide +kernel
theorem dX8_crossed_1 : decode cX8_crossed 1 = .ok (.invokestatic 116, 3) := by decide +kernel
theorem dX8_crossed_4 : decode cX8_crossed 4 = .ok (.ifCond .ne 9, 3) := by decide +kernel
theorem dX8_crossed_7 : decode cX8_crossed 7 = .ok (.aload_n 0, 1) := by decide +kernel
theorem dX8_crossed_8 : decode cX8_crossed 8 = .ok (.iconst (-1), 1) := by decide +kernel
theorem dX8_crossed_9 : decode cX8_crossed 9 = .ok (.invokevirtual 85, 3) := by decide +kernel
theorem dX8_crossed_12 : decode cX8_crossed 12 = .ok (.ireturn, 1) := by decide +kernel
theorem dX8_crossed_13 : decode cX8_crossed 13 = .ok (.iconst 0, 1) := by decide +kernel
theorem dX8_crossed_14 : decode cX8_crossed 14 = .ok (.istore_n 2, 1) := by decide +kernel
theorem dX8_crossed_15 : decode cX8_crossed 15 = .ok (.iconst 0, 1) := by decide +kernel
theorem dX8_crossed_16 : decode cX8_crossed 16 = .ok (.istore_n 3, 1) := by decide +kernel
theorem dX8_crossed_17 : decode cX8_crossed 17 = .ok (.iload_n 3, 1) := by decide +kernel
theorem dX8_crossed_18 : decode cX8_crossed 18 = .ok (.aload_n 0, 1) := by decide +kernel
theorem dX8_crossed_19 : decode cX8_crossed 19 = .ok (.getfield 10, 3) := by decide +kernel
theorem dX8_crossed_22 : decode cX8_crossed 22 = .ok (.getfield 243, 3) := by decide +kernel
theorem dX8_crossed_25 : decode cX8_crossed 25 = .ok (.if_icmp .ge 46, 3) := by decide +kernel
theorem dX8_crossed_28 : decode cX8_crossed 28 = .ok (.iload_n 3, 1) := by decide +kernel
theorem dX8_crossed_29 : decode cX8_crossed 29 = .ok (.iconst 1, 1) := by decide +kernel
theorem dX8_crossed_30 : decode cX8_crossed 30 = .ok (.iadd, 1) := by decide +kernel
theorem dX8_crossed_31 : decode cX8_crossed 31 = .ok (.istore 4, 2) := by decide +kernel
theorem dX8_crossed_33 : decode cX8_crossed 33 = .ok (.iload 4, 2) := by decide +kernel
theorem dX8_crossed_35 : decode cX8_crossed 35 = .ok (.aload_n 0, 1) := by decide +kernel
theorem dX8_crossed_36 : decode cX8_crossed 36 = .ok (.getfield 10, 3) := by decide +kernel
theorem dX8_crossed_39 : decode cX8_crossed 39 = .ok (.getfield 243, 3) := by decide +kernel
theorem dX8_crossed_42 : decode cX8_crossed 42 = .ok (.if_icmp .ge 23, 3) := by decide +kernel
theorem dX8_crossed_45 : decode cX8_crossed 45 = .ok (.aload_n 0, 1) := by decide +kernel
theorem dX8_crossed_46 : decode cX8_crossed 46 = .ok (.iload_n 3, 1) := by decide +kernel
theorem dX8_crossed_47 : decode cX8_crossed 47 = .ok (.iload 4, 2) := by decide +kernel
theorem dX8_crossed_49 : decode cX8_crossed 49 = .ok (.iload_n 1, 1) := by decide +kernel
theorem dX8_crossed_50 : decode cX8_crossed 50 = .ok (.invokevirtual 246, 3) := by decide +kernel
theorem dX8_crossed_53 : decode cX8_crossed 53 = .ok (.ifCond .eq 6, 3) := by decide +kernel
theorem dX8_crossed_56 : decode cX8_crossed 56 = .ok (.iinc 2 1, 3) := by decide +kernel
theorem dX8_crossed_59 : decode cX8_crossed 59 = .ok (.iinc 4 1, 3) := by decide +kernel
theorem dX8_crossed_62 : decode cX8_crossed 62 = .ok (.goto (-29), 3) := by decide +kernel
theorem dX8_crossed_65 : decode cX8_crossed 65 = .ok (.iinc 3 1, 3) := by decide +kernel
theorem dX8_crossed_68 : decode cX8_crossed 68 = .ok (.goto (-51), 3) := by decide +kernel
theorem dX8_crossed_71 : decode cX8_crossed 71 = .ok (.iload_n 2, 1) := by decide +kernel
theorem dX8_crossed_72 : decode cX8_crossed 72 = .ok (.ireturn, 1) := by decide +kernel
theorem dX8_areCrossed_0 : decode cX8_areCrossed 0 = .ok (.aload_n 0, 1) := by decide +kernel
theorem dX8_areCrossed_1 : decode cX8_areCrossed 1 = .ok (.getfield 54, 3) := by decide +kernel
theorem dX8_areCrossed_4 : decode cX8_areCrossed 4 = .ok (.aload_n 0, 1) := by decide +kernel
theorem dX8_areCrossed_5 : decode cX8_areCrossed 5 = .ok (.getfield 10, 3) := by decide +kernel
theorem dX8_areCrossed_8 : decode cX8_areCrossed 8 = .ok (.iload_n 1, 1) := by decide +kernel
theorem dX8_areCrossed_9 : decode cX8_areCrossed 9 = .ok (.invokevirtual 166, 3) := by decide +kernel
theorem dX8_areCrossed_12 : decode cX8_areCrossed 12 = .ok (.aload_n 0, 1) := by decide +kernel
theorem dX8_areCrossed_13 : decode cX8_areCrossed 13 = .ok (.getfield 58, 3) := by decide +kernel
theorem dX8_areCrossed_16 : decode cX8_areCrossed 16 = .ok (.aload_n 0, 1) := by decide +kernel
theorem dX8_areCrossed_17 : decode cX8_areCrossed 17 = .ok (.getfield 10, 3) := by decide +kernel
theorem dX8_areCrossed_20 : decode cX8_areCrossed 20 = .ok (.iload_n 2, 1) := by decide +kernel
theorem dX8_areCrossed_21 : decode cX8_areCrossed 21 = .ok (.invokevirtual 166, 3) := by decide +kernel
theorem dX8_areCrossed_24 : decode cX8_areCrossed 24 = .ok (.aload_n 0, 1) := by decide +kernel
theorem dX8_areCrossed_25 : decode cX8_areCrossed 25 = .ok (.getfield 10, 3) := by decide +kernel
theorem dX8_areCrossed_28 : decode cX8_areCrossed 28 = .ok (.iload_n 3, 1) := by decide +kernel
theorem dX8_areCrossed_29 : decode cX8_areCrossed 29 = .ok (.invokevirtual 120, 3) := by decide +kernel
theorem dX8_areCrossed_32 : decode cX8_areCrossed 32 = .ok (.istore 4, 2) := by decide +kernel
theorem dX8_areCrossed_34 : decode cX8_areCrossed 34 = .ok (.aload_n 0, 1) := by decide +kernel
theorem dX8_areCrossed_35 : decode cX8_areCrossed 35 = .ok (.getfield 10, 3) := by decide +kernel
theorem dX8_areCrossed_38 : decode cX8_areCrossed 38 = .ok (.iload_n 3, 1) := by decide +kernel
theorem dX8_areCrossed_39 : decode cX8_areCrossed 39 = .ok (.invokevirtual 123, 3) := by decide +kernel
theorem dX8_areCrossed_42 : decode cX8_areCrossed 42 = .ok (.istore 5, 2) := by decide +kernel
theorem dX8_areCrossed_44 : decode cX8_areCrossed 44 = .ok (.aload_n 0, 1) := by decide +kernel
theorem dX8_areCrossed_45 : decode cX8_areCrossed 45 = .ok (.getfield 54, 3) := by decide +kernel
theorem dX8_areCrossed_48 : decode cX8_areCrossed 48 = .ok (.getfield 250, 3) := by decide +kernel
theorem dX8_areCrossed_51 : decode cX8_areCrossed 51 = .ok (.aload_n 0, 1) := by decide +kernel
theorem dX8_areCrossed_52 : decode cX8_areCrossed 52 = .ok (.getfield 58, 3) := by decide +kernel
theorem dX8_areCrossed_55 : decode cX8_areCrossed 55 = .ok (.getfield 250, 3) := by decide +kernel
theorem dX8_areCrossed_58 : decode cX8_areCrossed 58 = .ok (.invokestatic 253, 3) := by decide +kernel
theorem dX8_areCrossed_61 : decode cX8_areCrossed 61 = .ok (.istore 6, 2) := by decide +kernel
theorem dX8_areCrossed_63 : decode cX8_areCrossed 63 = .ok (.aload_n 0, 1) := by decide +kernel
theorem dX8_areCrossed_64 : decode cX8_areCrossed 64 = .ok (.getfield 54, 3) := by decide +kernel
theorem dX8_areCrossed_67 : decode cX8_areCrossed 67 = .ok (.iload 4, 2) := by decide +kernel
theorem dX8_areCrossed_69 : decode cX8_areCrossed 69 = .ok (.iload 5, 2) := by decide +kernel
theorem dX8_areCrossed_71 : decode cX8_areCrossed 71 = .ok (.invokevirtual 185, 3) := by decide +kernel
theorem dX8_areCrossed_74 : decode cX8_areCrossed 74 = .ok (.aload_n 0, 1) := by decide +kernel
theorem dX8_areCrossed_75 : decode cX8_areCrossed 75 = .ok (.getfield 58, 3) := by decide +kernel
theorem dX8_areCrossed_78 : decode cX8_areCrossed 78 = .ok (.iload 4, 2) := by decide +kernel
theorem dX8_areCrossed_80 : decode cX8_areCrossed 80 = .ok (.iload 5, 2) := by decide +kernel
theorem dX8_areCrossed_82 : decode cX8_areCrossed 82 = .ok (.invokevirtual 185, 3) := by decide +kernel
theorem dX8_areCrossed_85 : decode cX8_areCrossed 85 = .ok (.invokestatic 253, 3) := by decide +kernel
theorem dX8_areCrossed_88 : decode cX8_areCrossed 88 = .ok (.istore 7, 2) := by decide +kernel
theorem dX8_areCrossed_90 : decode cX8_areCrossed 90 = .ok (.iload 6, 2) := by decide +kernel
theorem dX8_areCrossed_92 : decode cX8_areCrossed 92 = .ok (.ifCond .ge 8, 3) := by decide +kernel
theorem dX8_areCrossed_95 : decode cX8_areCrossed 95 = .ok (.iload 7, 2) := by decide +kernel
theorem dX8_areCrossed_97 : decode cX8_areCrossed 97 = .ok (.ifCond .gt 13, 3) := by decide +kernel
theorem dX8_areCrossed_100 : decode cX8_areCrossed 100 = .ok (.iload 6, 2) := by decide +kernel
theorem dX8_areCrossed_102 : decode cX8_areCrossed 102 = .ok (.ifCond .le 12, 3) := by decide +kernel
theorem dX8_areCrossed_105 : decode cX8_areCrossed 105 = .ok (.iload 7, 2) := by decide +kernel
theorem dX8_areCrossed_107 : decode cX8_areCrossed 107 = .ok (.ifCond .ge 7, 3) := by decide +kernel
theorem dX8_areCrossed_110 : decode cX8_areCrossed 110 = .ok (.iconst 1, 1) := by decide +kernel
theorem dX8_areCrossed_111 : decode cX8_areCrossed 111 = .ok (.goto 4, 3) := by decide +kernel
theorem dX8_areCrossed_114 : decode cX8_areCrossed 114 = .ok (.iconst 0, 1) := by decide +kernel
theorem dX8_areCrossed_115 : decode cX8_areCrossed 115 = .ok (.ireturn, 1) := by decide +kernel
theorem dX8_skippers_0 : decode cX8_skippers 0 = .ok (.aload_n 0, 1) := by decide +kernel
theorem dX8_skippers_1 : decode cX8_skippers 1 = .ok (.iload_n 1, 1) := by decide +kernel
theorem dX8_skippers_2 : decode cX8_skippers 2 = .ok (.iload_n 2, 1) := by decide +kernel
theorem dX8_skippers_3 : decode cX8_skippers 3 = .ok (.invokevirtual 236, 3) := by decide +kernel
theorem dX8_skippers_6 : decode cX8_skippers 6 = .ok (.ifCond .ne 9, 3) := by decide +kernel
theorem dX8_skippers_9 : decode cX8_skippers 9 = .ok (.aload_n 0, 1) := by decide +kernel
theorem dX8_skippers_10 : decode cX8_skippers 10 = .ok (.iconst (-1), 1) := by decide +kernel
theorem dX8_skippers_11 : decode cX8_skippers 11 = .ok (.invokevirtual 85, 3) := by decide +kernel
theorem dX8_skippers_14 : decode cX8_skippers 14 = .ok (.ireturn, 1) := by decide +kernel
theorem dX8_skippers_15 : decode cX8_skippers 15 = .ok (.iload_n 3, 1) := by decide +kernel
theorem dX8_skippers_16 : decode cX8_skippers 16 = .ok (.iconst 2, 1) := by decide +kernel
theorem dX8_skippers_17 : decode cX8_skippers 17 = .ok (.invokestatic 153, 3) := by decide +kernel
theorem dX8_skippers_20 : decode cX8_skippers 20 = .ok (.ifCond .ne 10, 3) := by decide +kernel
theorem dX8_skippers_23 : decode cX8_skippers 23 = .ok (.aload_n 0, 1) := by decide +kernel
theorem dX8_skippers_24 : decode cX8_skippers 24 = .ok (.bipush (-2), 2) := by decide +kernel
theorem dX8_skippers_26 : decode cX8_skippers 26 = .ok (.invokevirtual 85, 3) := by decide +kernel
theorem dX8_skippers_29 : decode cX8_skippers 29 = .ok (.ireturn, 1) := by decide +kernel
theorem dX8_skippers_30 : decode cX8_skippers 30 = .ok (.aload_n 0, 1) := by decide +kernel
theorem dX8_skippers_31 : decode cX8_skippers 31 = .ok (.getfield 54, 3) := by decide +kernel
theorem dX8_skippers_34 : decode cX8_skippers 34 = .ok (.aload_n 0, 1) := by decide +kernel
theorem dX8_skippers_35 : decode cX8_skippers 35 = .ok (.getfield 10, 3) := by decide +kernel
theorem dX8_skippers_38 : decode cX8_skippers 38 = .ok (.iload_n 1, 1) := by decide +kernel
theorem dX8_skippers_39 : decode cX8_skippers 39 = .ok (.invokevirtual 166, 3) := by decide +kernel
theorem dX8_skippers_42 : decode cX8_skippers 42 = .ok (.aload_n 0, 1) := by decide +kernel
theorem dX8_skippers_43 : decode cX8_skippers 43 = .ok (.getfield 58, 3) := by decide +kernel
theorem dX8_skippers_46 : decode cX8_skippers 46 = .ok (.aload_n 0, 1) := by decide +kernel
theorem dX8_skippers_47 : decode cX8_skippers 47 = .ok (.getfield 10, 3) := by decide +kernel
theorem dX8_skippers_50 : decode cX8_skippers 50 = .ok (.iload_n 2, 1) := by decide +kernel
theorem dX8_skippers_51 : decode cX8_skippers 51 = .ok (.invokevirtual 166, 3) := by decide +kernel
theorem dX8_skippers_54 : decode cX8_skippers 54 = .ok (.aload_n 0, 1) := by decide +kernel
theorem dX8_skippers_55 : decode cX8_skippers 55 = .ok (.getfield 78, 3) := by decide +kernel
theorem dX8_skippers_58 : decode cX8_skippers 58 = .ok (.aload_n 0, 1) := by decide +kernel
theorem dX8_skippers_59 : decode cX8_skippers 59 = .ok (.getfield 54, 3) := by decide +kernel
theorem dX8_skippers_62 : decode cX8_skippers 62 = .ok (.aload_n 0, 1) := by decide +kernel
theorem dX8_skippers_63 : decode cX8_skippers 63 = .ok (.getfield 58, 3) := by decide +kernel
theorem dX8_skippers_66 : decode cX8_skippers 66 = .ok (.aload_n 0, 1) := by decide +kernel
theorem dX8_skippers_67 : decode cX8_skippers 67 = .ok (.getfield 10, 3) := by decide +kernel
theorem dX8_skippers_70 : decode cX8_skippers 70 = .ok (.getfield 188, 3) := by decide +kernel
theorem dX8_skippers_73 : decode cX8_skippers 73 = .ok (.invokevirtual 256, 3) := by decide +kernel
theorem dX8_skippers_76 : decode cX8_skippers 76 = .ok (.iload_n 3, 1) := by decide +kernel
theorem dX8_skippers_77 : decode cX8_skippers 77 = .ok (.ifCond .ne 13, 3) := by decide +kernel
theorem dX8_skippers_80 : decode cX8_skippers 80 = .ok (.aload_n 0, 1) := by decide +kernel
theorem dX8_skippers_81 : decode cX8_skippers 81 = .ok (.getfield 78, 3) := by decide +kernel
theorem dX8_skippers_84 : decode cX8_skippers 84 = .ok (.invokevirtual 260, 3) := by decide +kernel
theorem dX8_skippers_87 : decode cX8_skippers 87 = .ok (.goto 10, 3) := by decide +kernel
theorem dX8_skippers_90 : decode cX8_skippers 90 = .ok (.aload_n 0, 1) := by decide +kernel
theorem dX8_skippers_91 : decode cX8_skippers 91 = .ok (.getfield 78, 3) := by decide +kernel
theorem dX8_skippers_94 : decode cX8_skippers 94 = .ok (.invokevirtual 263, 3) := by decide +kernel
theorem dX8_skippers_97 : decode cX8_skippers 97 = .ok (.ireturn, 1) := by decide +kernel
theorem dX8_alongside_0 : decode cX8_alongside 0 = .ok (.iload_n 1, 1) := by decide +kernel
theorem dX8_alongside_1 : decode cX8_alongside 1 = .ok (.iconst 3, 1) := by decide +kernel
theorem dX8_alongside_2 : decode cX8_alongside 2 = .ok (.invokestatic 153, 3) := by decide +kernel
theorem dX8_alongside_5 : decode cX8_alongside 5 = .ok (.ifCond .ne 10, 3) := by decide +kernel
theorem dX8_alongside_8 : decode cX8_alongside 8 = .ok (.aload_n 0, 1) := by decide +kernel
theorem dX8_alongside_9 : decode cX8_alongside 9 = .ok (.bipush (-2), 2) := by decide +kernel
theorem dX8_alongside_11 : decode cX8_alongside 11 = .ok (.invokevirtual 85, 3) := by decide +kernel
theorem dX8_alongside_14 : decode cX8_alongside 14 = .ok (.ireturn, 1) := by decide +kernel
theorem dX8_alongside_15 : decode cX8_alongside 15 = .ok (.aload_n 0, 1) := by decide +kernel
theorem dX8_alongside_16 : decode cX8_alongside 16 = .ok (.getfield 10, 3) := by decide +kernel
theorem dX8_alongside_19 : decode cX8_alongside 19 = .ok (.getfield 243, 3) := by decide +kernel
theorem dX8_alongside_22 : decode cX8_alongside 22 = .ok (.ifCond .eq 32, 3) := by decide +kernel
theorem dX8_alongside_25 : decode cX8_alongside 25 = .ok (.aload_n 0, 1) := by decide +kernel
theorem dX8_alongside_26 : decode cX8_alongside 26 = .ok (.getfield 36, 3) := by decide +kernel
theorem dX8_alongside_29 : decode cX8_alongside 29 = .ok (.getfield 266, 3) := by decide +kernel
theorem dX8_alongside_32 : decode cX8_alongside 32 = .ok (.aload_n 0, 1) := by decide +kernel
theorem dX8_alongside_33 : decode cX8_alongside 33 = .ok (.getfield 10, 3) := by decide +kernel
theorem dX8_alongside_36 : decode cX8_alongside 36 = .ok (.getfield 243, 3) := by decide +kernel
theorem dX8_alongside_39 : decode cX8_alongside 39 = .ok (.if_icmp .ne 15, 3) := by decide +kernel
theorem dX8_alongside_42 : decode cX8_alongside 42 = .ok (.aload_n 0, 1) := by decide +kernel
theorem dX8_alongside_43 : decode cX8_alongside 43 = .ok (.getfield 36, 3) := by decide +kernel
theorem dX8_alongside_46 : decode cX8_alongside 46 = .ok (.invokevirtual 267, 3) := by decide +kernel
theorem dX8_alongside_49 : decode cX8_alongside 49 = .ok (.bipush 12, 2) := by decide +kernel
theorem dX8_alongside_51 : decode cX8_alongside 51 = .ok (.if_icmp .le 10, 3) := by decide +kernel
theorem dX8_alongside_54 : decode cX8_alongside 54 = .ok (.aload_n 0, 1) := by decide +kernel
theorem dX8_alongside_55 : decode cX8_alongside 55 = .ok (.bipush (-3), 2) := by decide +kernel
theorem dX8_alongside_57 : decode cX8_alongside 57 = .ok (.invokevirtual 85, 3) := by decide +kernel
theorem dX8_alongside_60 : decode cX8_alongside 60 = .ok (.ireturn, 1) := by decide +kernel
theorem dX8_alongside_61 : decode cX8_alongside 61 = .ok (.iload_n 1, 1) := by decide +kernel
theorem dX8_alongside_62 : decode cX8_alongside 62 = .ok (.ifCond .ne 12, 3) := by decide +kernel
theorem dX8_alongside_65 : decode cX8_alongside 65 = .ok (.aload_n 0, 1) := by decide +kernel
theorem dX8_alongside_66 : decode cX8_alongside 66 = .ok (.invokevirtual 270, 3) := by decide +kernel
theorem dX8_alongside_69 : decode cX8_alongside 69 = .ok (.aload_n 0, 1) := by decide +kernel
theorem dX8_alongside_70 : decode cX8_alongside 70 = .ok (.invokevirtual 273, 3) := by decide +kernel
theorem dX8_alongside_73 : decode cX8_alongside 73 = .ok (.ireturn, 1) := by decide +kernel
theorem dX8_alongside_74 : decode cX8_alongside 74 = .ok (.aload_n 0, 1) := by decide +kernel
theorem dX8_alongside_75 : decode cX8_alongside 75 = .ok (.invokevirtual 276, 3) := by decide +kernel
theorem dX8_alongside_78 : decode cX8_alongside 78 = .ok (.iload_n 1, 1) := by decide +kernel
theorem dX8_alongside_79 : decode cX8_alongside 79 = .ok (.iconst 1, 1) := by decide +kernel
theorem dX8_alongside_80 : decode cX8_alongside 80 = .ok (.if_icmp .ne 10, 3) := by decide +kernel
theorem dX8_alongside_83 : decode cX8_alongside 83 = .ok (.aload_n 0, 1) := by decide +kernel
theorem dX8_alongside_84 : decode cX8_alongside 84 = .ok (.invokevirtual 273, 3) := by decide +kernel
theorem dX8_alongside_87 : decode cX8_alongside 87 = .ok (.goto 7, 3) := by decide +kernel
theorem dX8_alongside_90 : decode cX8_alongside 90 = .ok (.aload_n 0, 1) := by decide +kernel
theorem dX8_alongside_91 : decode cX8_alongside 91 = .ok (.invokevirtual 279, 3) := by decide +kernel
theorem dX8_alongside_94 : decode cX8_alongside 94 = .ok (.ireturn, 1) := by decide +kernel
theorem dX8_orderByNumber_0 : decode cX8_orderByNumber 0 = .ok (.iconst 0, 1) := by decide +kernel
theorem dX8_orderByNumber_1 : decode cX8_orderByNumber 1 = .ok (.istore_n 1, 1) := by decide +kernel
theorem dX8_orderByNumber_2 : decode cX8_orderByNumber 2 = .ok (.iload_n 1, 1) := by decide +kernel
theorem dX8_orderByNumber_3 : decode cX8_orderByNumber 3 = .ok (.iconst 5, 1) := by decide +kernel
theorem dX8_orderByNumber_4 : decode cX8_orderByNumber 4 = .ok (.if_icmp .ge 16, 3) := by decide +kernel
theorem dX8_orderByNumber_7 : decode cX8_orderByNumber 7 = .ok (.aload_n 0, 1) := by decide +kernel
theorem dX8_orderByNumber_8 : decode cX8_orderByNumber 8 = .ok (.getfield 82, 3) := by decide +kernel
theorem dX8_orderByNumber_11 : decode cX8_orderByNumber 11 = .ok (.iload_n 1, 1) := by decide +kernel
theorem dX8_orderByNumber_12 : decode cX8_orderByNumber 12 = .ok (.iload_n 1, 1) := by decide +kernel
theorem dX8_orderByNumber_13 : decode cX8_orderByNumber 13 = .ok (.iastore, 1) := by decide +kernel
theorem dX8_orderByNumber_14 : decode cX8_orderByNumber 14 = .ok (.iinc 1 1, 3) := by decide +kernel
theorem dX8_orderByNumber_17 : decode cX8_orderByNumber 17 = .ok (.goto (-15), 3) := by decide +kernel
theorem dX8_orderByNumber_20 : decode cX8_orderByNumber 20 = .ok (.return_, 1) := by decide +kernel
theorem dX8_orderLatestInmost_0 : decode cX8_orderLatestInmost 0 = .ok (.iconst 0, 1) := by decide +kernel
theorem dX8_orderLatestInmost_1 : decode cX8_orderLatestInmost 1 = .ok (.istore_n 1, 1) := by decide +kernel
theorem dX8_orderLatestInmost_2 : decode cX8_orderLatestInmost 2 = .ok (.bipush 12, 2) := by decide +kernel
theorem dX8_orderLatestInmost_4 : decode cX8_orderLatestInmost 4 = .ok (.istore_n 2, 1) := by decide +kernel
theorem dX8_orderLatestInmost_5 : decode cX8_orderLatestInmost 5 = .ok (.iload_n 2, 1) := by decide +kernel
theorem dX8_orderLatestInmost_6 : decode cX8_orderLatestInmost 6 = .ok (.ifCond .lt 55, 3) := by decide +kernel
theorem dX8_orderLatestInmost_9 : decode cX8_orderLatestInmost 9 = .ok (.iconst 0, 1) := by decide +kernel
theorem dX8_orderLatestInmost_10 : decode cX8_orderLatestInmost 10 = .ok (.istore_n 3, 1) := by decide +kernel
theorem dX8_orderLatestInmost_11 : decode cX8_orderLatestInmost 11 = .ok (.iload_n 3, 1) := by decide +kernel
theorem dX8_orderLatestInmost_12 : decode cX8_orderLatestInmost 12 = .ok (.aload_n 0, 1) := by decide +kernel
theorem dX8_orderLatestInmost_13 : decode cX8_orderLatestInmost 13 = .ok (.getfield 10, 3) := by decide +kernel
theorem dX8_orderLatestInmost_16 : decode cX8_orderLatestInmost 16 = .ok (.getfield 243, 3) := by decide +kernel
theorem dX8_orderLatestInmost_19 : decode cX8_orderLatestInmost 19 = .ok (.if_icmp .ge 36, 3) := by decide +kernel
theorem dX8_orderLatestInmost_22 : decode cX8_orderLatestInmost 22 = .ok (.aload_n 0, 1) := by decide +kernel
theorem dX8_orderLatestInmost_23 : decode cX8_orderLatestInmost 23 = .ok (.getfield 36, 3) := by decide +kernel
theorem dX8_orderLatestInmost_26 : decode cX8_orderLatestInmost 26 = .ok (.iload_n 3, 1) := by decide +kernel
theorem dX8_orderLatestInmost_27 : decode cX8_orderLatestInmost 27 = .ok (.invokevirtual 282, 3) := by decide +kernel
theorem dX8_orderLatestInmost_30 : decode cX8_orderLatestInmost 30 = .ok (.iload_n 2, 1) := by decide +kernel
theorem dX8_orderLatestInmost_31 : decode cX8_orderLatestInmost 31 = .ok (.if_icmp .ne 18, 3) := by decide +kernel
theorem dX8_orderLatestInmost_34 : decode cX8_orderLatestInmost 34 = .ok (.iload_n 1, 1) := by decide +kernel
theorem dX8_orderLatestInmost_35 : decode cX8_orderLatestInmost 35 = .ok (.iconst 5, 1) := by decide +kernel
theorem dX8_orderLatestInmost_36 : decode cX8_orderLatestInmost 36 = .ok (.if_icmp .ge 13, 3) := by decide +kernel
theorem dX8_orderLatestInmost_39 : decode cX8_orderLatestInmost 39 = .ok (.aload_n 0, 1) := by decide +kernel
theorem dX8_orderLatestInmost_40 : decode cX8_orderLatestInmost 40 = .ok (.getfield 82, 3) := by decide +kernel
theorem dX8_orderLatestInmost_43 : decode cX8_orderLatestInmost 43 = .ok (.iload_n 1, 1) := by decide +kernel
theorem dX8_orderLatestInmost_44 : decode cX8_orderLatestInmost 44 = .ok (.iload_n 3, 1) := by decide +kernel
theorem dX8_orderLatestInmost_45 : decode cX8_orderLatestInmost 45 = .ok (.iastore, 1) := by decide +kernel
theorem dX8_orderLatestInmost_46 : decode cX8_orderLatestInmost 46 = .ok (.iinc 1 1, 3) := by decide +kernel
theorem dX8_orderLatestInmost_49 : decode cX8_orderLatestInmost 49 = .ok (.iinc 3 1, 3) := by decide +kernel
theorem dX8_orderLatestInmost_52 : decode cX8_orderLatestInmost 52 = .ok (.goto (-41), 3) := by decide +kernel
theorem dX8_orderLatestInmost_55 : decode cX8_orderLatestInmost 55 = .ok (.iinc 2 (-1), 3) := by decide +kernel
theorem dX8_orderLatestInmost_58 : decode cX8_orderLatestInmost 58 = .ok (.goto (-53), 3) := by decide +kernel
theorem dX8_orderLatestInmost_61 : decode cX8_orderLatestInmost 61 = .ok (.return_, 1) := by decide +kernel
theorem dX8_movesInOrder_0 : decode cX8_movesInOrder 0 = .ok (.iconst 0, 1) := by decide +kernel
theorem dX8_movesInOrder_1 : decode cX8_movesInOrder 1 = .ok (.istore_n 1, 1) := by decide +kernel
theorem dX8_movesInOrder_2 : decode cX8_movesInOrder 2 = .ok (.iconst 0, 1) := by decide +kernel
theorem dX8_movesInOrder_3 : decode cX8_movesInOrder 3 = .ok (.istore_n 2, 1) := by decide +kernel
theorem dX8_movesInOrder_4 : decode cX8_movesInOrder 4 = .ok (.iload_n 2, 1) := by decide +kernel
theorem dX8_movesInOrder_5 : decode cX8_movesInOrder 5 = .ok (.aload_n 0, 1) := by decide +kernel
theorem dX8_movesInOrder_6 : decode cX8_movesInOrder 6 = .ok (.getfield 10, 3) := by decide +kernel
theorem dX8_movesInOrder_9 : decode cX8_movesInOrder 9 = .ok (.getfield 243, 3) := by decide +kernel
theorem dX8_movesInOrder_12 : decode cX8_movesInOrder 12 = .ok (.if_icmp .ge 84, 3) := by decide +kernel
theorem dX8_movesInOrder_15 : decode cX8_movesInOrder 15 = .ok (.iload_n 2, 1) := by decide +kernel
theorem dX8_movesInOrder_16 : decode cX8_movesInOrder 16 = .ok (.iconst 5, 1) := by decide +kernel
theorem dX8_movesInOrder_17 : decode cX8_movesInOrder 17 = .ok (.if_icmp .ge 79, 3) := by decide +kernel
theorem dX8_movesInOrder_20 : decode cX8_movesInOrder 20 = .ok (.aload_n 0, 1) := by decide +kernel
theorem dX8_movesInOrder_21 : decode cX8_movesInOrder 21 = .ok (.getfield 36, 3) := by decide +kernel
theorem dX8_movesInOrder_24 : decode cX8_movesInOrder 24 = .ok (.aload_n 0, 1) := by decide +kernel
theorem dX8_movesInOrder_25 : decode cX8_movesInOrder 25 = .ok (.getfield 82, 3) := by decide +kernel
theorem dX8_movesInOrder_28 : decode cX8_movesInOrder 28 = .ok (.iload_n 2, 1) := by decide +kernel
theorem dX8_movesInOrder_29 : decode cX8_movesInOrder 29 = .ok (.iaload, 1) := by decide +kernel
theorem dX8_movesInOrder_30 : decode cX8_movesInOrder 30 = .ok (.invokevirtual 282, 3) := by decide +kernel
theorem dX8_movesInOrder_33 : decode cX8_movesInOrder 33 = .ok (.istore_n 3, 1) := by decide +kernel
theorem dX8_movesInOrder_34 : decode cX8_movesInOrder 34 = .ok (.iload_n 2, 1) := by decide +kernel
theorem dX8_movesInOrder_35 : decode cX8_movesInOrder 35 = .ok (.iconst 1, 1) := by decide +kernel
theorem dX8_movesInOrder_36 : decode cX8_movesInOrder 36 = .ok (.iadd, 1) := by decide +kernel
theorem dX8_movesInOrder_37 : decode cX8_movesInOrder 37 = .ok (.istore 4, 2) := by decide +kernel
theorem dX8_movesInOrder_39 : decode cX8_movesInOrder 39 = .ok (.iload 4, 2) := by decide +kernel
theorem dX8_movesInOrder_41 : decode cX8_movesInOrder 41 = .ok (.aload_n 0, 1) := by decide +kernel
theorem dX8_movesInOrder_42 : decode cX8_movesInOrder 42 = .ok (.getfield 10, 3) := by decide +kernel
theorem dX8_movesInOrder_45 : decode cX8_movesInOrder 45 = .ok (.getfield 243, 3) := by decide +kernel
theorem dX8_movesInOrder_48 : decode cX8_movesInOrder 48 = .ok (.if_icmp .ge 42, 3) := by decide +kernel
theorem dX8_movesInOrder_51 : decode cX8_movesInOrder 51 = .ok (.iload 4, 2) := by decide +kernel
theorem dX8_movesInOrder_53 : decode cX8_movesInOrder 53 = .ok (.iconst 5, 1) := by decide +kernel
theorem dX8_movesInOrder_54 : decode cX8_movesInOrder 54 = .ok (.if_icmp .ge 36, 3) := by decide +kernel
theorem dX8_movesInOrder_57 : decode cX8_movesInOrder 57 = .ok (.iload_n 3, 1) := by decide +kernel
theorem dX8_movesInOrder_58 : decode cX8_movesInOrder 58 = .ok (.bipush 12, 2) := by decide +kernel
theorem dX8_movesInOrder_60 : decode cX8_movesInOrder 60 = .ok (.if_icmp .eq 24, 3) := by decide +kernel
theorem dX8_movesInOrder_63 : decode cX8_movesInOrder 63 = .ok (.aload_n 0, 1) := by decide +kernel
theorem dX8_movesInOrder_64 : decode cX8_movesInOrder 64 = .ok (.getfield 36, 3) := by decide +kernel
theorem dX8_movesInOrder_67 : decode cX8_movesInOrder 67 = .ok (.aload_n 0, 1) := by decide +kernel
theorem dX8_movesInOrder_68 : decode cX8_movesInOrder 68 = .ok (.getfield 82, 3) := by decide +kernel
theorem dX8_movesInOrder_71 : decode cX8_movesInOrder 71 = .ok (.iload 4, 2) := by decide +kernel
theorem dX8_movesInOrder_73 : decode cX8_movesInOrder 73 = .ok (.iaload, 1) := by decide +kernel
theorem dX8_movesInOrder_74 : decode cX8_movesInOrder 74 = .ok (.invokevirtual 282, 3) := by decide +kernel
theorem dX8_movesInOrder_77 : decode cX8_movesInOrder 77 = .ok (.iload_n 3, 1) := by decide +kernel
theorem dX8_movesInOrder_78 : decode cX8_movesInOrder 78 = .ok (.if_icmp .le 6, 3) := by decide +kernel
theorem dX8_movesInOrder_81 : decode cX8_movesInOrder 81 = .ok (.iinc 1 1, 3) := by decide +kernel
theorem dX8_movesInOrder_84 : decode cX8_movesInOrder 84 = .ok (.iinc 4 1, 3) := by decide +kernel
theorem dX8_movesInOrder_87 : decode cX8_movesInOrder 87 = .ok (.goto (-48), 3) := by decide +kernel
theorem dX8_movesInOrder_90 : decode cX8_movesInOrder 90 = .ok (.iinc 2 1, 3) := by decide +kernel
theorem dX8_movesInOrder_93 : decode cX8_movesInOrder 93 = .ok (.goto (-89), 3) := by decide +kernel
theorem dX8_movesInOrder_96 : decode cX8_movesInOrder 96 = .ok (.iload_n 1, 1) := by decide +kernel
theorem dX8_movesInOrder_97 : decode cX8_movesInOrder 97 = .ok (.ireturn, 1) := by decide +kernel
theorem dX8_orderDigits_0 : decode cX8_orderDigits 0 = .ok (.iconst 0, 1) := by decide +kernel
theorem dX8_orderDigits_1 : decode cX8_orderDigits 1 = .ok (.istore_n 1, 1) := by decide +kernel
theorem dX8_orderDigits_2 : decode cX8_orderDigits 2 = .ok (.aload_n 0, 1) := by decide +kernel
theorem dX8_orderDigits_3 : decode cX8_orderDigits 3 = .ok (.getfield 10, 3) := by decide +kernel
theorem dX8_orderDigits_6 : decode cX8_orderDigits 6 = .ok (.getfield 243, 3) := by decide +kernel
theorem dX8_orderDigits_9 : decode cX8_orderDigits 9 = .ok (.iconst 5, 1) := by decide +kernel
theorem dX8_orderDigits_10 : decode cX8_orderDigits 10 = .ok (.invokestatic 233, 3) := by decide +kernel
theorem dX8_orderDigits_13 : decode cX8_orderDigits 13 = .ok (.iconst 1, 1) := by decide +kernel
theorem dX8_orderDigits_14 : decode cX8_orderDigits 14 = .ok (.isub, 1) := by decide +kernel
theorem dX8_orderDigits_15 : decode cX8_orderDigits 15 = .ok (.istore_n 2, 1) := by decide +kernel
theorem dX8_orderDigits_16 : decode cX8_orderDigits 16 = .ok (.iload_n 2, 1) := by decide +kernel
theorem dX8_orderDigits_17 : decode cX8_orderDigits 17 = .ok (.ifCond .lt 21, 3) := by decide +kernel
theorem dX8_orderDigits_20 : decode cX8_orderDigits 20 = .ok (.iload_n 1, 1) := by decide +kernel
theorem dX8_orderDigits_21 : decode cX8_orderDigits 21 = .ok (.bipush 10, 2) := by decide +kernel
theorem dX8_orderDigits_23 : decode cX8_orderDigits 23 = .ok (.imul, 1) := by decide +kernel
theorem dX8_orderDigits_24 : decode cX8_orderDigits 24 = .ok (.aload_n 0, 1) := by decide +kernel
theorem dX8_orderDigits_25 : decode cX8_orderDigits 25 = .ok (.getfield 82, 3) := by decide +kernel
theorem dX8_orderDigits_28 : decode cX8_orderDigits 28 = .ok (.iload_n 2, 1) := by decide +kernel
theorem dX8_orderDigits_29 : decode cX8_orderDigits 29 = .ok (.iaload, 1) := by decide +kernel
theorem dX8_orderDigits_30 : decode cX8_orderDigits 30 = .ok (.iadd, 1) := by decide +kernel
theorem dX8_orderDigits_31 : decode cX8_orderDigits 31 = .ok (.istore_n 1, 1) := by decide +kernel
theorem dX8_orderDigits_32 : decode cX8_orderDigits 32 = .ok (.iinc 2 (-1), 3) := by decide +kernel
theorem dX8_orderDigits_35 : decode cX8_orderDigits 35 = .ok (.goto (-19), 3) := by decide +kernel
theorem dX8_orderDigits_38 : decode cX8_orderDigits 38 = .ok (.iload_n 1, 1) := by decide +kernel
theorem dX8_orderDigits_39 : decode cX8_orderDigits 39 = .ok (.ireturn, 1) := by decide +kernel
theorem dX8_mud_0 : decode cX8_mud 0 = .ok (.iload_n 1, 1) := by decide +kernel
theorem dX8_mud_1 : decode cX8_mud 1 = .ok (.ifCond .ge 10, 3) := by decide +kernel
theorem dX8_mud_4 : decode cX8_mud 4 = .ok (.aload_n 0, 1) := by decide +kernel
theorem dX8_mud_5 : decode cX8_mud 5 = .ok (.bipush (-4), 2) := by decide +kernel
theorem dX8_mud_7 : decode cX8_mud 7 = .ok (.invokevirtual 85, 3) := by decide +kernel
theorem dX8_mud_10 : decode cX8_mud 10 = .ok (.ireturn, 1) := by decide +kernel
theorem dX8_mud_11 : decode cX8_mud 11 = .ok (.iload_n 1, 1) := by decide +kernel
theorem dX8_mud_12 : decode cX8_mud 12 = .ok (.bipush 40, 2) := by decide +kernel
theorem dX8_mud_14 : decode cX8_mud 14 = .ok (.if_icmp .le 10, 3) := by decide +kernel
theorem dX8_mud_17 : decode cX8_mud 17 = .ok (.aload_n 0, 1) := by decide +kernel
theorem dX8_mud_18 : decode cX8_mud 18 = .ok (.bipush (-6), 2) := by decide +kernel
theorem dX8_mud_20 : decode cX8_mud 20 = .ok (.invokevirtual 85, 3) := by decide +kernel
theorem dX8_mud_23 : decode cX8_mud 23 = .ok (.ireturn, 1) := by decide +kernel
theorem dX8_mud_24 : decode cX8_mud 24 = .ok (.iload_n 2, 1) := by decide +kernel
theorem dX8_mud_25 : decode cX8_mud 25 = .ok (.invokestatic 116, 3) := by decide +kernel
theorem dX8_mud_28 : decode cX8_mud 28 = .ok (.ifCond .ne 9, 3) := by decide +kernel
theorem dX8_mud_31 : decode cX8_mud 31 = .ok (.aload_n 0, 1) := by decide +kernel
theorem dX8_mud_32 : decode cX8_mud 32 = .ok (.iconst (-1), 1) := by decide +kernel
theorem dX8_mud_33 : decode cX8_mud 33 = .ok (.invokevirtual 85, 3) := by decide +kernel
theorem dX8_mud_36 : decode cX8_mud 36 = .ok (.ireturn, 1) := by decide +kernel
theorem dX8_mud_37 : decode cX8_mud 37 = .ok (.aload_n 0, 1) := by decide +kernel
theorem dX8_mud_38 : decode cX8_mud 38 = .ok (.getfield 10, 3) := by decide +kernel
theorem dX8_mud_41 : decode cX8_mud 41 = .ok (.iload_n 1, 1) := by decide +kernel
theorem dX8_mud_42 : decode cX8_mud 42 = .ok (.iconst 1, 1) := by decide +kernel
theorem dX8_mud_43 : decode cX8_mud 43 = .ok (.iadd, 1) := by decide +kernel
theorem dX8_mud_44 : decode cX8_mud 44 = .ok (.iload_n 2, 1) := by decide +kernel
theorem dX8_mud_45 : decode cX8_mud 45 = .ok (.invokevirtual 285, 3) := by decide +kernel
theorem dX8_mud_48 : decode cX8_mud 48 = .ok (.ireturn, 1) := by decide +kernel
theorem dX8_carry_0 : decode cX8_carry 0 = .ok (.iload_n 1, 1) := by decide +kernel
theorem dX8_carry_1 : decode cX8_carry 1 = .ok (.ifCond .ge 10, 3) := by decide +kernel
theorem dX8_carry_4 : decode cX8_carry 4 = .ok (.aload_n 0, 1) := by decide +kernel
theorem dX8_carry_5 : decode cX8_carry 5 = .ok (.bipush (-4), 2) := by decide +kernel
theorem dX8_carry_7 : decode cX8_carry 7 = .ok (.invokevirtual 85, 3) := by decide +kernel
theorem dX8_carry_10 : decode cX8_carry 10 = .ok (.ireturn, 1) := by decide +kernel
theorem dX8_carry_11 : decode cX8_carry 11 = .ok (.iload_n 1, 1) := by decide +kernel
theorem dX8_carry_12 : decode cX8_carry 12 = .ok (.bipush 40, 2) := by decide +kernel
theorem dX8_carry_14 : decode cX8_carry 14 = .ok (.if_icmp .le 10, 3) := by decide +kernel
theorem dX8_carry_17 : decode cX8_carry 17 = .ok (.aload_n 0, 1) := by decide +kernel
theorem dX8_carry_18 : decode cX8_carry 18 = .ok (.bipush (-6), 2) := by decide +kernel
theorem dX8_carry_20 : decode cX8_carry 20 = .ok (.invokevirtual 85, 3) := by decide +kernel
theorem dX8_carry_23 : decode cX8_carry 23 = .ok (.ireturn, 1) := by decide +kernel
theorem dX8_carry_24 : decode cX8_carry 24 = .ok (.iload_n 2, 1) := by decide +kernel
theorem dX8_carry_25 : decode cX8_carry 25 = .ok (.invokestatic 116, 3) := by decide +kernel
theorem dX8_carry_28 : decode cX8_carry 28 = .ok (.ifCond .eq 15, 3) := by decide +kernel
theorem dX8_carry_31 : decode cX8_carry 31 = .ok (.iload_n 3, 1) := by decide +kernel
theorem dX8_carry_32 : decode cX8_carry 32 = .ok (.invokestatic 116, 3) := by decide +kernel
theorem dX8_carry_35 : decode cX8_carry 35 = .ok (.ifCond .eq 8, 3) := by decide +kernel
theorem dX8_carry_38 : decode cX8_carry 38 = .ok (.iload_n 2, 1) := by decide +kernel
theorem dX8_carry_39 : decode cX8_carry 39 = .ok (.iload_n 3, 1) := by decide +kernel
theorem dX8_carry_40 : decode cX8_carry 40 = .ok (.if_icmp .ne 9, 3) := by decide +kernel
theorem dX8_carry_43 : decode cX8_carry 43 = .ok (.aload_n 0, 1) := by decide +kernel
theorem dX8_carry_44 : decode cX8_carry 44 = .ok (.iconst (-1), 1) := by decide +kernel
theorem dX8_carry_45 : decode cX8_carry 45 = .ok (.invokevirtual 85, 3) := by decide +kernel
theorem dX8_carry_48 : decode cX8_carry 48 = .ok (.ireturn, 1) := by decide +kernel
theorem dX8_carry_49 : decode cX8_carry 49 = .ok (.iload_n 1, 1) := by decide +kernel
theorem dX8_carry_50 : decode cX8_carry 50 = .ok (.istore 4, 2) := by decide +kernel
theorem dX8_carry_52 : decode cX8_carry 52 = .ok (.iload_n 3, 1) := by decide +kernel
theorem dX8_carry_53 : decode cX8_carry 53 = .ok (.iload_n 2, 1) := by decide +kernel
theorem dX8_carry_54 : decode cX8_carry 54 = .ok (.isub, 1) := by decide +kernel
theorem dX8_carry_55 : decode cX8_carry 55 = .ok (.bipush 12, 2) := by decide +kernel
theorem dX8_carry_57 : decode cX8_carry 57 = .ok (.invokestatic 288, 3) := by decide +kernel
theorem dX8_carry_60 : decode cX8_carry 60 = .ok (.istore 5, 2) := by decide +kernel
theorem dX8_carry_62 : decode cX8_carry 62 = .ok (.iconst 0, 1) := by decide +kernel
theorem dX8_carry_63 : decode cX8_carry 63 = .ok (.istore 6, 2) := by decide +kernel
theorem dX8_carry_65 : decode cX8_carry 65 = .ok (.iload 6, 2) := by decide +kernel
theorem dX8_carry_67 : decode cX8_carry 67 = .ok (.iload 5, 2) := by decide +kernel
theorem dX8_carry_69 : decode cX8_carry 69 = .ok (.if_icmp .ge 30, 3) := by decide +kernel
theorem dX8_carry_72 : decode cX8_carry 72 = .ok (.iload 4, 2) := by decide +kernel
theorem dX8_carry_74 : decode cX8_carry 74 = .ok (.aload_n 0, 1) := by decide +kernel
theorem dX8_carry_75 : decode cX8_carry 75 = .ok (.getfield 10, 3) := by decide +kernel
theorem dX8_carry_78 : decode cX8_carry 78 = .ok (.iload_n 2, 1) := by decide +kernel
theorem dX8_carry_79 : decode cX8_carry 79 = .ok (.iload 6, 2) := by decide +kernel
theorem dX8_carry_81 : decode cX8_carry 81 = .ok (.iadd, 1) := by decide +kernel
theorem dX8_carry_82 : decode cX8_carry 82 = .ok (.bipush 12, 2) := by decide +kernel
theorem dX8_carry_84 : decode cX8_carry 84 = .ok (.irem, 1) := by decide +kernel
theorem dX8_carry_85 : decode cX8_carry 85 = .ok (.invokevirtual 120, 3) := by decide +kernel
theorem dX8_carry_88 : decode cX8_carry 88 = .ok (.invokestatic 214, 3) := by decide +kernel
theorem dX8_carry_91 : decode cX8_carry 91 = .ok (.istore 4, 2) := by decide +kernel
theorem dX8_carry_93 : decode cX8_carry 93 = .ok (.iinc 6 1, 3) := by decide +kernel
theorem dX8_carry_96 : decode cX8_carry 96 = .ok (.goto (-31), 3) := by decide +kernel
theorem dX8_carry_99 : decode cX8_carry 99 = .ok (.aload_n 0, 1) := by decide +kernel
theorem dX8_carry_100 : decode cX8_carry 100 = .ok (.getfield 10, 3) := by decide +kernel
theorem dX8_carry_103 : decode cX8_carry 103 = .ok (.iload_n 3, 1) := by decide +kernel
theorem dX8_carry_104 : decode cX8_carry 104 = .ok (.invokevirtual 120, 3) := by decide +kernel
theorem dX8_carry_107 : decode cX8_carry 107 = .ok (.iload 4, 2) := by decide +kernel
theorem dX8_carry_109 : decode cX8_carry 109 = .ok (.if_icmp .le 8, 3) := by decide +kernel
theorem dX8_carry_112 : decode cX8_carry 112 = .ok (.iload 4, 2) := by decide +kernel
theorem dX8_carry_114 : decode cX8_carry 114 = .ok (.goto 5, 3) := by decide +kernel
theorem dX8_carry_117 : decode cX8_carry 117 = .ok (.bipush (-9), 2) := by decide +kernel
theorem dX8_carry_119 : decode cX8_carry 119 = .ok (.ireturn, 1) := by decide +kernel
theorem dX8_passes_0 : decode cX8_passes 0 = .ok (.iload_n 1, 1) := by decide +kernel
theorem dX8_passes_1 : decode cX8_passes 1 = .ok (.ifCond .lt 7, 3) := by decide +kernel
theorem dX8_passes_4 : decode cX8_passes 4 = .ok (.iload_n 2, 1) := by decide +kernel
theorem dX8_passes_5 : decode cX8_passes 5 = .ok (.ifCond .ge 10, 3) := by decide +kernel
theorem dX8_passes_8 : decode cX8_passes 8 = .ok (.aload_n 0, 1) := by decide +kernel
theorem dX8_passes_9 : decode cX8_passes 9 = .ok (.bipush (-4), 2) := by decide +kernel
theorem dX8_passes_11 : decode cX8_passes 11 = .ok (.invokevirtual 85, 3) := by decide +kernel
theorem dX8_passes_14 : decode cX8_passes 14 = .ok (.ireturn, 1) := by decide +kernel
theorem dX8_passes_15 : decode cX8_passes 15 = .ok (.iload_n 1, 1) := by decide +kernel
theorem dX8_passes_16 : decode cX8_passes 16 = .ok (.bipush 40, 2) := by decide +kernel
theorem dX8_passes_18 : decode cX8_passes 18 = .ok (.if_icmp .gt 9, 3) := by decide +kernel
theorem dX8_passes_21 : decode cX8_passes 21 = .ok (.iload_n 2, 1) := by decide +kernel
theorem dX8_passes_22 : decode cX8_passes 22 = .ok (.bipush 9, 2) := by decide +kernel
theorem dX8_passes_24 : decode cX8_passes 24 = .ok (.if_icmp .le 10, 3) := by decide +kernel
theorem dX8_passes_27 : decode cX8_passes 27 = .ok (.aload_n 0, 1) := by decide +kernel
theorem dX8_passes_28 : decode cX8_passes 28 = .ok (.bipush (-6), 2) := by decide +kernel
theorem dX8_passes_30 : decode cX8_passes 30 = .ok (.invokevirtual 85, 3) := by decide +kernel
theorem dX8_passes_33 : decode cX8_passes 33 = .ok (.ireturn, 1) := by decide +kernel
theorem dX8_passes_34 : decode cX8_passes 34 = .ok (.iload_n 3, 1) := by decide +kernel
theorem dX8_passes_35 : decode cX8_passes 35 = .ok (.invokestatic 116, 3) := by decide +kernel
theorem dX8_passes_38 : decode cX8_passes 38 = .ok (.ifCond .ne 9, 3) := by decide +kernel
theorem dX8_passes_41 : decode cX8_passes 41 = .ok (.aload_n 0, 1) := by decide +kernel
theorem dX8_passes_42 : decode cX8_passes 42 = .ok (.iconst (-1), 1) := by decide +kernel
theorem dX8_passes_43 : decode cX8_passes 43 = .ok (.invokevirtual 85, 3) := by decide +kernel
theorem dX8_passes_46 : decode cX8_passes 46 = .ok (.ireturn, 1) := by decide +kernel
theorem dX8_passes_47 : decode cX8_passes 47 = .ok (.aload_n 0, 1) := by decide +kernel
theorem dX8_passes_48 : decode cX8_passes 48 = .ok (.getfield 10, 3) := by decide +kernel
theorem dX8_passes_51 : decode cX8_passes 51 = .ok (.iload_n 1, 1) := by decide +kernel
theorem dX8_passes_52 : decode cX8_passes 52 = .ok (.iload_n 2, 1) := by decide +kernel
theorem dX8_passes_53 : decode cX8_passes 53 = .ok (.iadd, 1) := by decide +kernel
theorem dX8_passes_54 : decode cX8_passes 54 = .ok (.iload_n 3, 1) := by decide +kernel
theorem dX8_passes_55 : decode cX8_passes 55 = .ok (.invokevirtual 285, 3) := by decide +kernel
theorem dX8_passes_58 : decode cX8_passes 58 = .ok (.ireturn, 1) := by decide +kernel
theorem dX8_waited_0 : decode cX8_waited 0 = .ok (.iload_n 1, 1) := by decide +kernel
theorem dX8_waited_1 : decode cX8_waited 1 = .ok (.ifCond .lt 7, 3) := by decide +kernel
theorem dX8_waited_4 : decode cX8_waited 4 = .ok (.iload_n 2, 1) := by decide +kernel
theorem dX8_waited_5 : decode cX8_waited 5 = .ok (.ifCond .ge 10, 3) := by decide +kernel
theorem dX8_waited_8 : decode cX8_waited 8 = .ok (.aload_n 0, 1) := by decide +kernel
theorem dX8_waited_9 : decode cX8_waited 9 = .ok (.bipush (-4), 2) := by decide +kernel
theorem dX8_waited_11 : decode cX8_waited 11 = .ok (.invokevirtual 85, 3) := by decide +kernel
theorem dX8_waited_14 : decode cX8_waited 14 = .ok (.ireturn, 1) := by decide +kernel
theorem dX8_waited_15 : decode cX8_waited 15 = .ok (.iload_n 1, 1) := by decide +kernel
theorem dX8_waited_16 : decode cX8_waited 16 = .ok (.bipush 40, 2) := by decide +kernel
theorem dX8_waited_18 : decode cX8_waited 18 = .ok (.if_icmp .gt 9, 3) := by decide +kernel
theorem dX8_waited_21 : decode cX8_waited 21 = .ok (.iload_n 2, 1) := by decide +kernel
theorem dX8_waited_22 : decode cX8_waited 22 = .ok (.bipush 9, 2) := by decide +kernel
theorem dX8_waited_24 : decode cX8_waited 24 = .ok (.if_icmp .le 10, 3) := by decide +kernel
theorem dX8_waited_27 : decode cX8_waited 27 = .ok (.aload_n 0, 1) := by decide +kernel
theorem dX8_waited_28 : decode cX8_waited 28 = .ok (.bipush (-6), 2) := by decide +kernel
theorem dX8_waited_30 : decode cX8_waited 30 = .ok (.invokevirtual 85, 3) := by decide +kernel
theorem dX8_waited_33 : decode cX8_waited 33 = .ok (.ireturn, 1) := by decide +kernel
theorem dX8_waited_34 : decode cX8_waited 34 = .ok (.aload_n 0, 1) := by decide +kernel
theorem dX8_waited_35 : decode cX8_waited 35 = .ok (.getfield 36, 3) := by decide +kernel
theorem dX8_waited_38 : decode cX8_waited 38 = .ok (.invokevirtual 267, 3) := by decide +kernel
theorem dX8_waited_41 : decode cX8_waited 41 = .ok (.bipush 12, 2) := by decide +kernel
theorem dX8_waited_43 : decode cX8_waited 43 = .ok (.if_icmp .lt 10, 3) := by decide +kernel
theorem dX8_waited_46 : decode cX8_waited 46 = .ok (.aload_n 0, 1) := by decide +kernel
theorem dX8_waited_47 : decode cX8_waited 47 = .ok (.bipush (-3), 2) := by decide +kernel
theorem dX8_waited_49 : decode cX8_waited 49 = .ok (.invokevirtual 85, 3) := by decide +kernel
theorem dX8_waited_52 : decode cX8_waited 52 = .ok (.ireturn, 1) := by decide +kernel
theorem dX8_waited_53 : decode cX8_waited 53 = .ok (.iconst 0, 1) := by decide +kernel
theorem dX8_waited_54 : decode cX8_waited 54 = .ok (.istore_n 3, 1) := by decide +kernel
theorem dX8_waited_55 : decode cX8_waited 55 = .ok (.iconst 0, 1) := by decide +kernel
theorem dX8_waited_56 : decode cX8_waited 56 = .ok (.istore 4, 2) := by decide +kernel
theorem dX8_waited_58 : decode cX8_waited 58 = .ok (.iload 4, 2) := by decide +kernel
theorem dX8_waited_60 : decode cX8_waited 60 = .ok (.aload_n 0, 1) := by decide +kernel
theorem dX8_waited_61 : decode cX8_waited 61 = .ok (.getfield 36, 3) := by decide +kernel
theorem dX8_waited_64 : decode cX8_waited 64 = .ok (.getfield 266, 3) := by decide +kernel
theorem dX8_waited_67 : decode cX8_waited 67 = .ok (.if_icmp .ge 57, 3) := by decide +kernel
theorem dX8_waited_70 : decode cX8_waited 70 = .ok (.aload_n 0, 1) := by decide +kernel
theorem dX8_waited_71 : decode cX8_waited 71 = .ok (.getfield 36, 3) := by decide +kernel
theorem dX8_waited_74 : decode cX8_waited 74 = .ok (.iload 4, 2) := by decide +kernel
theorem dX8_waited_76 : decode cX8_waited 76 = .ok (.invokevirtual 282, 3) := by decide +kernel
theorem dX8_waited_79 : decode cX8_waited 79 = .ok (.istore 5, 2) := by decide +kernel
theorem dX8_waited_81 : decode cX8_waited 81 = .ok (.aload_n 0, 1) := by decide +kernel
theorem dX8_waited_82 : decode cX8_waited 82 = .ok (.getfield 10, 3) := by decide +kernel
theorem dX8_waited_85 : decode cX8_waited 85 = .ok (.iload_n 1, 1) := by decide +kernel
theorem dX8_waited_86 : decode cX8_waited 86 = .ok (.iload_n 2, 1) := by decide +kernel
theorem dX8_waited_87 : decode cX8_waited 87 = .ok (.iadd, 1) := by decide +kernel
theorem dX8_waited_88 : decode cX8_waited 88 = .ok (.iload 5, 2) := by decide +kernel
theorem dX8_waited_90 : decode cX8_waited 90 = .ok (.invokevirtual 285, 3) := by decide +kernel
theorem dX8_waited_93 : decode cX8_waited 93 = .ok (.istore 6, 2) := by decide +kernel
theorem dX8_waited_95 : decode cX8_waited 95 = .ok (.iload 6, 2) := by decide +kernel
theorem dX8_waited_97 : decode cX8_waited 97 = .ok (.bipush (-9), 2) := by decide +kernel
theorem dX8_waited_99 : decode cX8_waited 99 = .ok (.if_icmp .ne 6, 3) := by decide +kernel
theorem dX8_waited_102 : decode cX8_waited 102 = .ok (.bipush (-9), 2) := by decide +kernel
theorem dX8_waited_104 : decode cX8_waited 104 = .ok (.ireturn, 1) := by decide +kernel
theorem dX8_waited_105 : decode cX8_waited 105 = .ok (.iload_n 3, 1) := by decide +kernel
theorem dX8_waited_106 : decode cX8_waited 106 = .ok (.iload 6, 2) := by decide +kernel
theorem dX8_waited_108 : decode cX8_waited 108 = .ok (.iload 5, 2) := by decide +kernel
theorem dX8_waited_110 : decode cX8_waited 110 = .ok (.isub, 1) := by decide +kernel
theorem dX8_waited_111 : decode cX8_waited 111 = .ok (.bipush 12, 2) := by decide +kernel
theorem dX8_waited_113 : decode cX8_waited 113 = .ok (.invokestatic 288, 3) := by decide +kernel
theorem dX8_waited_116 : decode cX8_waited 116 = .ok (.iadd, 1) := by decide +kernel
theorem dX8_waited_117 : decode cX8_waited 117 = .ok (.istore_n 3, 1) := by decide +kernel
theorem dX8_waited_118 : decode cX8_waited 118 = .ok (.iinc 4 1, 3) := by decide +kernel
theorem dX8_waited_121 : decode cX8_waited 121 = .ok (.goto (-63), 3) := by decide +kernel
theorem dX8_waited_124 : decode cX8_waited 124 = .ok (.iload_n 3, 1) := by decide +kernel
theorem dX8_waited_125 : decode cX8_waited 125 = .ok (.ireturn, 1) := by decide +kernel
theorem dX8_ramp_0 : decode cX8_ramp 0 = .ok (.iload_n 1, 1) := by decide +kernel
theorem dX8_ramp_1 : decode cX8_ramp 1 = .ok (.ifCond .lt 8, 3) := by decide +kernel
theorem dX8_ramp_4 : decode cX8_ramp 4 = .ok (.iload_n 2, 1) := by decide +kernel
theorem dX8_ramp_5 : decode cX8_ramp 5 = .ok (.iconst 1, 1) := by decide +kernel
theorem dX8_ramp_6 : decode cX8_ramp 6 = .ok (.if_icmp .ge 10, 3) := by decide +kernel
theorem dX8_ramp_9 : decode cX8_ramp 9 = .ok (.aload_n 0, 1) := by decide +kernel
theorem dX8_ramp_10 : decode cX8_ramp 10 = .ok (.bipush (-4), 2) := by decide +kernel
theorem dX8_ramp_12 : decode cX8_ramp 12 = .ok (.invokevirtual 85, 3) := by decide +kernel
theorem dX8_ramp_15 : decode cX8_ramp 15 = .ok (.ireturn, 1) := by decide +kernel
theorem dX8_ramp_16 : decode cX8_ramp 16 = .ok (.iload_n 1, 1) := by decide +kernel
theorem dX8_ramp_17 : decode cX8_ramp 17 = .ok (.bipush 60, 2) := by decide +kernel
theorem dX8_ramp_19 : decode cX8_ramp 19 = .ok (.if_icmp .gt 20, 3) := by decide +kernel
theorem dX8_ramp_22 : decode cX8_ramp 22 = .ok (.iload_n 2, 1) := by decide +kernel
theorem dX8_ramp_23 : decode cX8_ramp 23 = .ok (.bipush 40, 2) := by decide +kernel
theorem dX8_ramp_25 : decode cX8_ramp 25 = .ok (.if_icmp .gt 14, 3) := by decide +kernel
theorem dX8_ramp_28 : decode cX8_ramp 28 = .ok (.aload_n 0, 1) := by decide +kernel
theorem dX8_ramp_29 : decode cX8_ramp 29 = .ok (.getfield 10, 3) := by decide +kernel
theorem dX8_ramp_32 : decode cX8_ramp 32 = .ok (.getfield 291, 3) := by decide +kernel
theorem dX8_ramp_35 : decode cX8_ramp 35 = .ok (.iconst 3, 1) := by decide +kernel
theorem dX8_ramp_36 : decode cX8_ramp 36 = .ok (.if_icmp .lt 10, 3) := by decide +kernel
theorem dX8_ramp_39 : decode cX8_ramp 39 = .ok (.aload_n 0, 1) := by decide +kernel
theorem dX8_ramp_40 : decode cX8_ramp 40 = .ok (.bipush (-6), 2) := by decide +kernel
theorem dX8_ramp_42 : decode cX8_ramp 42 = .ok (.invokevirtual 85, 3) := by decide +kernel
theorem dX8_ramp_45 : decode cX8_ramp 45 = .ok (.ireturn, 1) := by decide +kernel
theorem dX8_ramp_46 : decode cX8_ramp 46 = .ok (.aload_n 0, 1) := by decide +kernel
theorem dX8_ramp_47 : decode cX8_ramp 47 = .ok (.getfield 10, 3) := by decide +kernel
theorem dX8_ramp_50 : decode cX8_ramp 50 = .ok (.iload_n 1, 1) := by decide +kernel
theorem dX8_ramp_51 : decode cX8_ramp 51 = .ok (.iload_n 2, 1) := by decide +kernel
theorem dX8_ramp_52 : decode cX8_ramp 52 = .ok (.invokevirtual 294, 3) := by decide +kernel
theorem dX8_ramp_55 : decode cX8_ramp 55 = .ok (.aload_n 0, 1) := by decide +kernel
theorem dX8_ramp_56 : decode cX8_ramp 56 = .ok (.getfield 10, 3) := by decide +kernel
theorem dX8_ramp_59 : decode cX8_ramp 59 = .ok (.getfield 291, 3) := by decide +kernel
theorem dX8_ramp_62 : decode cX8_ramp 62 = .ok (.iconst 1, 1) := by decide +kernel
theorem dX8_ramp_63 : decode cX8_ramp 63 = .ok (.isub, 1) := by decide +kernel
theorem dX8_ramp_64 : decode cX8_ramp 64 = .ok (.ireturn, 1) := by decide +kernel
theorem dX8_slope_0 : decode cX8_slope 0 = .ok (.aload_n 0, 1) := by decide +kernel
theorem dX8_slope_1 : decode cX8_slope 1 = .ok (.getfield 10, 3) := by decide +kernel
theorem dX8_slope_4 : decode cX8_slope 4 = .ok (.iload_n 1, 1) := by decide +kernel
theorem dX8_slope_5 : decode cX8_slope 5 = .ok (.invokevirtual 297, 3) := by decide +kernel
theorem dX8_slope_8 : decode cX8_slope 8 = .ok (.ifCond .eq 10, 3) := by decide +kernel
theorem dX8_slope_11 : decode cX8_slope 11 = .ok (.iload_n 2, 1) := by decide +kernel
theorem dX8_slope_12 : decode cX8_slope 12 = .ok (.invokestatic 116, 3) := by decide +kernel
theorem dX8_slope_15 : decode cX8_slope 15 = .ok (.ifCond .ne 9, 3) := by decide +kernel
theorem dX8_slope_18 : decode cX8_slope 18 = .ok (.aload_n 0, 1) := by decide +kernel
theorem dX8_slope_19 : decode cX8_slope 19 = .ok (.iconst (-1), 1) := by decide +kernel
theorem dX8_slope_20 : decode cX8_slope 20 = .ok (.invokevirtual 85, 3) := by decide +kernel
theorem dX8_slope_23 : decode cX8_slope 23 = .ok (.ireturn, 1) := by decide +kernel
theorem dX8_slope_24 : decode cX8_slope 24 = .ok (.aload_n 0, 1) := by decide +kernel
theorem dX8_slope_25 : decode cX8_slope 25 = .ok (.getfield 10, 3) := by decide +kernel
theorem dX8_slope_28 : decode cX8_slope 28 = .ok (.aload_n 0, 1) := by decide +kernel
theorem dX8_slope_29 : decode cX8_slope 29 = .ok (.getfield 10, 3) := by decide +kernel
theorem dX8_slope_32 : decode cX8_slope 32 = .ok (.iload_n 1, 1) := by decide +kernel
theorem dX8_slope_33 : decode cX8_slope 33 = .ok (.iconst 0, 1) := by decide +kernel
theorem dX8_slope_34 : decode cX8_slope 34 = .ok (.invokevirtual 300, 3) := by decide +kernel
theorem dX8_slope_37 : decode cX8_slope 37 = .ok (.aload_n 0, 1) := by decide +kernel
theorem dX8_slope_38 : decode cX8_slope 38 = .ok (.getfield 10, 3) := by decide +kernel
theorem dX8_slope_41 : decode cX8_slope 41 = .ok (.iload_n 1, 1) := by decide +kernel
theorem dX8_slope_42 : decode cX8_slope 42 = .ok (.iconst 1, 1) := by decide +kernel
theorem dX8_slope_43 : decode cX8_slope 43 = .ok (.invokevirtual 300, 3) := by decide +kernel
theorem dX8_slope_46 : decode cX8_slope 46 = .ok (.iload_n 2, 1) := by decide +kernel
theorem dX8_slope_47 : decode cX8_slope 47 = .ok (.invokevirtual 303, 3) := by decide +kernel
theorem dX8_slope_50 : decode cX8_slope 50 = .ok (.ireturn, 1) := by decide +kernel
theorem dX8_open_0 : decode cX8_open 0 = .ok (.aload_n 0, 1) := by decide +kernel
theorem dX8_open_1 : decode cX8_open 1 = .ok (.getfield 10, 3) := by decide +kernel
theorem dX8_open_4 : decode cX8_open 4 = .ok (.iload_n 1, 1) := by decide +kernel
theorem dX8_open_5 : decode cX8_open 5 = .ok (.invokevirtual 297, 3) := by decide +kernel
theorem dX8_open_8 : decode cX8_open 8 = .ok (.ifCond .ne 9, 3) := by decide +kernel
theorem dX8_open_11 : decode cX8_open 11 = .ok (.aload_n 0, 1) := by decide +kernel
theorem dX8_open_12 : decode cX8_open 12 = .ok (.iconst (-1), 1) := by decide +kernel
theorem dX8_open_13 : decode cX8_open 13 = .ok (.invokevirtual 85, 3) := by decide +kernel
theorem dX8_open_16 : decode cX8_open 16 = .ok (.ireturn, 1) := by decide +kernel
theorem dX8_open_17 : decode cX8_open 17 = .ok (.iload_n 2, 1) := by decide +kernel
theorem dX8_open_18 : decode cX8_open 18 = .ok (.ifCond .ge 10, 3) := by decide +kernel
theorem dX8_open_21 : decode cX8_open 21 = .ok (.aload_n 0, 1) := by decide +kernel
theorem dX8_open_22 : decode cX8_open 22 = .ok (.bipush (-4), 2) := by decide +kernel
theorem dX8_open_24 : decode cX8_open 24 = .ok (.invokevirtual 85, 3) := by decide +kernel
theorem dX8_open_27 : decode cX8_open 27 = .ok (.ireturn, 1) := by decide +kernel
theorem dX8_open_28 : decode cX8_open 28 = .ok (.iload_n 2, 1) := by decide +kernel
theorem dX8_open_29 : decode cX8_open 29 = .ok (.sipush 999, 3) := by decide +kernel
theorem dX8_open_32 : decode cX8_open 32 = .ok (.if_icmp .le 10, 3) := by decide +kernel
theorem dX8_open_35 : decode cX8_open 35 = .ok (.aload_n 0, 1) := by decide +kernel
theorem dX8_open_36 : decode cX8_open 36 = .ok (.bipush (-6), 2) := by decide +kernel
theorem dX8_open_38 : decode cX8_open 38 = .ok (.invokevirtual 85, 3) := by decide +kernel
theorem dX8_open_41 : decode cX8_open 41 = .ok (.ireturn, 1) := by decide +kernel
theorem dX8_open_42 : decode cX8_open 42 = .ok (.aload_n 0, 1) := by decide +kernel
theorem dX8_open_43 : decode cX8_open 43 = .ok (.getfield 10, 3) := by decide +kernel
theorem dX8_open_46 : decode cX8_open 46 = .ok (.aload_n 0, 1) := by decide +kernel
theorem dX8_open_47 : decode cX8_open 47 = .ok (.getfield 10, 3) := by decide +kernel
theorem dX8_open_50 : decode cX8_open 50 = .ok (.iload_n 1, 1) := by decide +kernel
theorem dX8_open_51 : decode cX8_open 51 = .ok (.iconst 0, 1) := by decide +kernel
theorem dX8_open_52 : decode cX8_open 52 = .ok (.invokevirtual 300, 3) := by decide +kernel
theorem dX8_open_55 : decode cX8_open 55 = .ok (.aload_n 0, 1) := by decide +kernel
theorem dX8_open_56 : decode cX8_open 56 = .ok (.getfield 10, 3) := by decide +kernel
theorem dX8_open_59 : decode cX8_open 59 = .ok (.iload_n 1, 1) := by decide +kernel
theorem dX8_open_60 : decode cX8_open 60 = .ok (.iconst 1, 1) := by decide +kernel
theorem dX8_open_61 : decode cX8_open 61 = .ok (.invokevirtual 300, 3) := by decide +kernel
theorem dX8_open_64 : decode cX8_open 64 = .ok (.iload_n 2, 1) := by decide +kernel
theorem dX8_open_65 : decode cX8_open 65 = .ok (.invokevirtual 307, 3) := by decide +kernel
theorem dX8_open_68 : decode cX8_open 68 = .ok (.ireturn, 1) := by decide +kernel
theorem dX8_bridge_0 : decode cX8_bridge 0 = .ok (.iload_n 1, 1) := by decide +kernel
theorem dX8_bridge_1 : decode cX8_bridge 1 = .ok (.ifCond .lt 11, 3) := by decide +kernel
theorem dX8_bridge_4 : decode cX8_bridge 4 = .ok (.iload_n 2, 1) := by decide +kernel
theorem dX8_bridge_5 : decode cX8_bridge 5 = .ok (.ifCond .lt 7, 3) := by decide +kernel
theorem dX8_bridge_8 : decode cX8_bridge 8 = .ok (.iload_n 3, 1) := by decide +kernel
theorem dX8_bridge_9 : decode cX8_bridge 9 = .ok (.ifCond .ge 10, 3) := by decide +kernel
theorem dX8_bridge_12 : decode cX8_bridge 12 = .ok (.aload_n 0, 1) := by decide +kernel
theorem dX8_bridge_13 : decode cX8_bridge 13 = .ok (.bipush (-4), 2) := by decide +kernel
theorem dX8_bridge_15 : decode cX8_bridge 15 = .ok (.invokevirtual 85, 3) := by decide +kernel
theorem dX8_bridge_18 : decode cX8_bridge 18 = .ok (.ireturn, 1) := by decide +kernel
theorem dX8_bridge_19 : decode cX8_bridge 19 = .ok (.iload_n 1, 1) := by decide +kernel
theorem dX8_bridge_20 : decode cX8_bridge 20 = .ok (.bipush 60, 2) := by decide +kernel
theorem dX8_bridge_22 : decode cX8_bridge 22 = .ok (.if_icmp .gt 16, 3) := by decide +kernel
theorem dX8_bridge_25 : decode cX8_bridge 25 = .ok (.iload_n 2, 1) := by decide +kernel
theorem dX8_bridge_26 : decode cX8_bridge 26 = .ok (.sipush 999, 3) := by decide +kernel
theorem dX8_bridge_29 : decode cX8_bridge 29 = .ok (.if_icmp .gt 9, 3) := by decide +kernel
theorem dX8_bridge_32 : decode cX8_bridge 32 = .ok (.iload_n 3, 1) := by decide +kernel
theorem dX8_bridge_33 : decode cX8_bridge 33 = .ok (.bipush 12, 2) := by decide +kernel
theorem dX8_bridge_35 : decode cX8_bridge 35 = .ok (.if_icmp .le 10, 3) := by decide +kernel
theorem dX8_bridge_38 : decode cX8_bridge 38 = .ok (.aload_n 0, 1) := by decide +kernel
theorem dX8_bridge_39 : decode cX8_bridge 39 = .ok (.bipush (-6), 2) := by decide +kernel
theorem dX8_bridge_41 : decode cX8_bridge 41 = .ok (.invokevirtual 85, 3) := by decide +kernel
theorem dX8_bridge_44 : decode cX8_bridge 44 = .ok (.ireturn, 1) := by decide +kernel
theorem dX8_bridge_45 : decode cX8_bridge 45 = .ok (.iconst 1, 1) := by decide +kernel
theorem dX8_bridge_46 : decode cX8_bridge 46 = .ok (.istore 4, 2) := by decide +kernel
theorem dX8_bridge_48 : decode cX8_bridge 48 = .ok (.iload 4, 2) := by decide +kernel
theorem dX8_bridge_50 : decode cX8_bridge 50 = .ok (.bipush 40, 2) := by decide +kernel
theorem dX8_bridge_52 : decode cX8_bridge 52 = .ok (.if_icmp .gt 30, 3) := by decide +kernel
theorem dX8_bridge_55 : decode cX8_bridge 55 = .ok (.aload_n 0, 1) := by decide +kernel
theorem dX8_bridge_56 : decode cX8_bridge 56 = .ok (.getfield 10, 3) := by decide +kernel
theorem dX8_bridge_59 : decode cX8_bridge 59 = .ok (.iload_n 1, 1) := by decide +kernel
theorem dX8_bridge_60 : decode cX8_bridge 60 = .ok (.iload 4, 2) := by decide +kernel
theorem dX8_bridge_62 : decode cX8_bridge 62 = .ok (.iload_n 2, 1) := by decide +kernel
theorem dX8_bridge_63 : decode cX8_bridge 63 = .ok (.invokevirtual 307, 3) := by decide +kernel
theorem dX8_bridge_66 : decode cX8_bridge 66 = .ok (.invokestatic 222, 3) := by decide +kernel
theorem dX8_bridge_69 : decode cX8_bridge 69 = .ok (.iload_n 3, 1) := by decide +kernel
theorem dX8_bridge_70 : decode cX8_bridge 70 = .ok (.if_icmp .lt 6, 3) := by decide +kernel
theorem dX8_bridge_73 : decode cX8_bridge 73 = .ok (.iload 4, 2) := by decide +kernel
theorem dX8_bridge_75 : decode cX8_bridge 75 = .ok (.ireturn, 1) := by decide +kernel
theorem dX8_bridge_76 : decode cX8_bridge 76 = .ok (.iinc 4 1, 3) := by decide +kernel
theorem dX8_bridge_79 : decode cX8_bridge 79 = .ok (.goto (-31), 3) := by decide +kernel
theorem dX8_bridge_82 : decode cX8_bridge 82 = .ok (.bipush (-9), 2) := by decide +kernel
theorem dX8_bridge_84 : decode cX8_bridge 84 = .ok (.ireturn, 1) := by decide +kernel
theorem dX8_berths_0 : decode cX8_berths 0 = .ok (.iload_n 1, 1) := by decide +kernel
theorem dX8_berths_1 : decode cX8_berths 1 = .ok (.iconst 2, 1) := by decide +kernel
theorem dX8_berths_2 : decode cX8_berths 2 = .ok (.invokestatic 153, 3) := by decide +kernel
theorem dX8_berths_5 : decode cX8_berths 5 = .ok (.ifCond .ne 10, 3) := by decide +kernel
theorem dX8_berths_8 : decode cX8_berths 8 = .ok (.aload_n 0, 1) := by decide +kernel
theorem dX8_berths_9 : decode cX8_berths 9 = .ok (.bipush (-2), 2) := by decide +kernel
theorem dX8_berths_11 : decode cX8_berths 11 = .ok (.invokevirtual 85, 3) := by decide +kernel
theorem dX8_berths_14 : decode cX8_berths 14 = .ok (.ireturn, 1) := by decide +kernel
theorem dX8_berths_15 : decode cX8_berths 15 = .ok (.aload_n 0, 1) := by decide +kernel
theorem dX8_berths_16 : decode cX8_berths 16 = .ok (.getfield 10, 3) := by decide +kernel
theorem dX8_berths_19 : decode cX8_berths 19 = .ok (.getfield 243, 3) := by decide +kernel
theorem dX8_berths_22 : decode cX8_berths 22 = .ok (.ifCond .ne 10, 3) := by decide +kernel
theorem dX8_berths_25 : decode cX8_berths 25 = .ok (.aload_n 0, 1) := by decide +kernel
theorem dX8_berths_26 : decode cX8_berths 26 = .ok (.bipush (-3), 2) := by decide +kernel
theorem dX8_berths_28 : decode cX8_berths 28 = .ok (.invokevirtual 85, 3) := by decide +kernel
theorem dX8_berths_31 : decode cX8_berths 31 = .ok (.ireturn, 1) := by decide +kernel
theorem dX8_berths_32 : decode cX8_berths 32 = .ok (.iconst 0, 1) := by decide +kernel
theorem dX8_berths_33 : decode cX8_berths 33 = .ok (.istore_n 2, 1) := by decide +kernel
theorem dX8_berths_34 : decode cX8_berths 34 = .ok (.iload_n 2, 1) := by decide +kernel
theorem dX8_berths_35 : decode cX8_berths 35 = .ok (.aload_n 0, 1) := by decide +kernel
theorem dX8_berths_36 : decode cX8_berths 36 = .ok (.getfield 10, 3) := by decide +kernel
theorem dX8_berths_39 : decode cX8_berths 39 = .ok (.getfield 243, 3) := by decide +kernel
theorem dX8_berths_42 : decode cX8_berths 42 = .ok (.if_icmp .ge 73, 3) := by decide +kernel
theorem dX8_berths_45 : decode cX8_berths 45 = .ok (.aload_n 0, 1) := by decide +kernel
theorem dX8_berths_46 : decode cX8_berths 46 = .ok (.getfield 54, 3) := by decide +kernel
theorem dX8_berths_49 : decode cX8_berths 49 = .ok (.aload_n 0, 1) := by decide +kernel
theorem dX8_berths_50 : decode cX8_berths 50 = .ok (.getfield 10, 3) := by decide +kernel
theorem dX8_berths_53 : decode cX8_berths 53 = .ok (.iload_n 2, 1) := by decide +kernel
theorem dX8_berths_54 : decode cX8_berths 54 = .ok (.invokevirtual 166, 3) := by decide +kernel
theorem dX8_berths_57 : decode cX8_berths 57 = .ok (.iconst 0, 1) := by decide +kernel
theorem dX8_berths_58 : decode cX8_berths 58 = .ok (.istore_n 3, 1) := by decide +kernel
theorem dX8_berths_59 : decode cX8_berths 59 = .ok (.iload_n 3, 1) := by decide +kernel
theorem dX8_berths_60 : decode cX8_berths 60 = .ok (.aload_n 0, 1) := by decide +kernel
theorem dX8_berths_61 : decode cX8_berths 61 = .ok (.getfield 10, 3) := by decide +kernel
theorem dX8_berths_64 : decode cX8_berths 64 = .ok (.getfield 310, 3) := by decide +kernel
theorem dX8_berths_67 : decode cX8_berths 67 = .ok (.if_icmp .ge 42, 3) := by decide +kernel
theorem dX8_berths_70 : decode cX8_berths 70 = .ok (.aload_n 0, 1) := by decide +kernel
theorem dX8_berths_71 : decode cX8_berths 71 = .ok (.getfield 54, 3) := by decide +kernel
theorem dX8_berths_74 : decode cX8_berths 74 = .ok (.aload_n 0, 1) := by decide +kernel
theorem dX8_berths_75 : decode cX8_berths 75 = .ok (.getfield 10, 3) := by decide +kernel
theorem dX8_berths_78 : decode cX8_berths 78 = .ok (.iload_n 3, 1) := by decide +kernel
theorem dX8_berths_79 : decode cX8_berths 79 = .ok (.invokevirtual 313, 3) := by decide +kernel
theorem dX8_berths_82 : decode cX8_berths 82 = .ok (.aload_n 0, 1) := by decide +kernel
theorem dX8_berths_83 : decode cX8_berths 83 = .ok (.getfield 71, 3) := by decide +kernel
theorem dX8_berths_86 : decode cX8_berths 86 = .ok (.iload_n 2, 1) := by decide +kernel
theorem dX8_berths_87 : decode cX8_berths 87 = .ok (.iload_n 3, 1) := by decide +kernel
theorem dX8_berths_88 : decode cX8_berths 88 = .ok (.aload_n 0, 1) := by decide +kernel
theorem dX8_berths_89 : decode cX8_berths 89 = .ok (.invokevirtual 316, 3) := by decide +kernel
theorem dX8_berths_92 : decode cX8_berths 92 = .ok (.ifCond .eq 7, 3) := by decide +kernel
theorem dX8_berths_95 : decode cX8_berths 95 = .ok (.iconst (-1), 1) := by decide +kernel
theorem dX8_berths_96 : decode cX8_berths 96 = .ok (.goto 4, 3) := by decide +kernel
theorem dX8_berths_99 : decode cX8_berths 99 = .ok (.iconst 0, 1) := by decide +kernel
theorem dX8_berths_100 : decode cX8_berths 100 = .ok (.invokevirtual 320, 3) := by decide +kernel
theorem dX8_berths_103 : decode cX8_berths 103 = .ok (.iinc 3 1, 3) := by decide +kernel
theorem dX8_berths_106 : decode cX8_berths 106 = .ok (.goto (-47), 3) := by decide +kernel
theorem dX8_berths_109 : decode cX8_berths 109 = .ok (.iinc 2 1, 3) := by decide +kernel
theorem dX8_berths_112 : decode cX8_berths 112 = .ok (.goto (-78), 3) := by decide +kernel
theorem dX8_berths_115 : decode cX8_berths 115 = .ok (.aload_n 0, 1) := by decide +kernel
theorem dX8_berths_116 : decode cX8_berths 116 = .ok (.getfield 71, 3) := by decide +kernel
theorem dX8_berths_119 : decode cX8_berths 119 = .ok (.aload_n 0, 1) := by decide +kernel
theorem dX8_berths_120 : decode cX8_berths 120 = .ok (.getfield 10, 3) := by decide +kernel
theorem dX8_berths_123 : decode cX8_berths 123 = .ok (.getfield 243, 3) := by decide +kernel
theorem dX8_berths_126 : decode cX8_berths 126 = .ok (.aload_n 0, 1) := by decide +kernel
theorem dX8_berths_127 : decode cX8_berths 127 = .ok (.getfield 10, 3) := by decide +kernel
theorem dX8_berths_130 : decode cX8_berths 130 = .ok (.getfield 310, 3) := by decide +kernel
theorem dX8_berths_133 : decode cX8_berths 133 = .ok (.iconst 0, 1) := by decide +kernel
theorem dX8_berths_134 : decode cX8_berths 134 = .ok (.invokevirtual 323, 3) := by decide +kernel
theorem dX8_berths_137 : decode cX8_berths 137 = .ok (.iload_n 1, 1) := by decide +kernel
theorem dX8_berths_138 : decode cX8_berths 138 = .ok (.ifCond .ne 14, 3) := by decide +kernel
theorem dX8_berths_141 : decode cX8_berths 141 = .ok (.aload_n 0, 1) := by decide +kernel
theorem dX8_berths_142 : decode cX8_berths 142 = .ok (.getfield 71, 3) := by decide +kernel
theorem dX8_berths_145 : decode cX8_berths 145 = .ok (.invokevirtual 326, 3) := by decide +kernel
theorem dX8_berths_148 : decode cX8_berths 148 = .ok (.ineg, 1) := by decide +kernel
theorem dX8_berths_149 : decode cX8_berths 149 = .ok (.goto 10, 3) := by decide +kernel
theorem dX8_berths_152 : decode cX8_berths 152 = .ok (.aload_n 0, 1) := by decide +kernel
theorem dX8_berths_153 : decode cX8_berths 153 = .ok (.getfield 71, 3) := by decide +kernel
theorem dX8_berths_156 : decode cX8_berths 156 = .ok (.invokevirtual 329, 3) := by decide +kernel
theorem dX8_berths_159 : decode cX8_berths 159 = .ok (.ireturn, 1) := by decide +kernel
theorem dX8_isWellAllDay_0 : decode cX8_isWellAllDay 0 = .ok (.aload_n 0, 1) := by decide +kernel
theorem dX8_isWellAllDay_1 : decode cX8_isWellAllDay 1 = .ok (.getfield 10, 3) := by decide +kernel
theorem dX8_isWellAllDay_4 : decode cX8_isWellAllDay 4 = .ok (.invokevirtual 198, 3) := by decide +kernel
theorem dX8_isWellAllDay_7 : decode cX8_isWellAllDay 7 = .ok (.ifCond .ne 41, 3) := by decide +kernel
theorem dX8_isWellAllDay_10 : decode cX8_isWellAllDay 10 = .ok (.aload_n 0, 1) := by decide +kernel
theorem dX8_isWellAllDay_11 : decode cX8_isWellAllDay 11 = .ok (.getfield 54, 3) := by decide +kernel
theorem dX8_isWellAllDay_14 : decode cX8_isWellAllDay 14 = .ok (.aload_n 0, 1) := by decide +kernel
theorem dX8_isWellAllDay_15 : decode cX8_isWellAllDay 15 = .ok (.getfield 10, 3) := by decide +kernel
theorem dX8_isWellAllDay_18 : decode cX8_isWellAllDay 18 = .ok (.getfield 188, 3) := by decide +kernel
theorem dX8_isWellAllDay_21 : decode cX8_isWellAllDay 21 = .ok (.invokevirtual 191, 3) := by decide +kernel
theorem dX8_isWellAllDay_24 : decode cX8_isWellAllDay 24 = .ok (.ifCond .ne 24, 3) := by decide +kernel
theorem dX8_isWellAllDay_27 : decode cX8_isWellAllDay 27 = .ok (.aload_n 0, 1) := by decide +kernel
theorem dX8_isWellAllDay_28 : decode cX8_isWellAllDay 28 = .ok (.getfield 54, 3) := by decide +kernel
theorem dX8_isWellAllDay_31 : decode cX8_isWellAllDay 31 = .ok (.aload_n 0, 1) := by decide +kernel
theorem dX8_isWellAllDay_32 : decode cX8_isWellAllDay 32 = .ok (.getfield 10, 3) := by decide +kernel
theorem dX8_isWellAllDay_35 : decode cX8_isWellAllDay 35 = .ok (.getfield 188, 3) := by decide +kernel
theorem dX8_isWellAllDay_38 : decode cX8_isWellAllDay 38 = .ok (.invokevirtual 195, 3) := by decide +kernel
theorem dX8_isWellAllDay_41 : decode cX8_isWellAllDay 41 = .ok (.ifCond .ne 7, 3) := by decide +kernel
theorem dX8_isWellAllDay_44 : decode cX8_isWellAllDay 44 = .ok (.iconst 1, 1) := by decide +kernel
theorem dX8_isWellAllDay_45 : decode cX8_isWellAllDay 45 = .ok (.goto 4, 3) := by decide +kernel
theorem dX8_isWellAllDay_48 : decode cX8_isWellAllDay 48 = .ok (.iconst 0, 1) := by decide +kernel
theorem dX8_isWellAllDay_49 : decode cX8_isWellAllDay 49 = .ok (.ireturn, 1) := by decide +kernel
theorem dX8_cheapest_0 : decode cX8_cheapest 0 = .ok (.iload_n 1, 1) := by decide +kernel
theorem dX8_cheapest_1 : decode cX8_cheapest 1 = .ok (.iconst 2, 1) := by decide +kernel
theorem dX8_cheapest_2 : decode cX8_cheapest 2 = .ok (.invokestatic 153, 3) := by decide +kernel
theorem dX8_cheapest_5 : decode cX8_cheapest 5 = .ok (.ifCond .ne 10, 3) := by decide +kernel
theorem dX8_cheapest_8 : decode cX8_cheapest 8 = .ok (.aload_n 0, 1) := by decide +kernel
theorem dX8_cheapest_9 : decode cX8_cheapest 9 = .ok (.bipush (-2), 2) := by decide +kernel
theorem dX8_cheapest_11 : decode cX8_cheapest 11 = .ok (.invokevirtual 85, 3) := by decide +kernel
theorem dX8_cheapest_14 : decode cX8_cheapest 14 = .ok (.ireturn, 1) := by decide +kernel
theorem dX8_cheapest_15 : decode cX8_cheapest 15 = .ok (.aload_n 0, 1) := by decide +kernel
theorem dX8_cheapest_16 : decode cX8_cheapest 16 = .ok (.getfield 10, 3) := by decide +kernel
theorem dX8_cheapest_19 : decode cX8_cheapest 19 = .ok (.getfield 243, 3) := by decide +kernel
theorem dX8_cheapest_22 : decode cX8_cheapest 22 = .ok (.ifCond .ne 10, 3) := by decide +kernel
theorem dX8_cheapest_25 : decode cX8_cheapest 25 = .ok (.aload_n 0, 1) := by decide +kernel
theorem dX8_cheapest_26 : decode cX8_cheapest 26 = .ok (.bipush (-3), 2) := by decide +kernel
theorem dX8_cheapest_28 : decode cX8_cheapest 28 = .ok (.invokevirtual 85, 3) := by decide +kernel
theorem dX8_cheapest_31 : decode cX8_cheapest 31 = .ok (.ireturn, 1) := by decide +kernel
theorem dX8_cheapest_32 : decode cX8_cheapest 32 = .ok (.iconst 0, 1) := by decide +kernel
theorem dX8_cheapest_33 : decode cX8_cheapest 33 = .ok (.istore_n 2, 1) := by decide +kernel
theorem dX8_cheapest_34 : decode cX8_cheapest 34 = .ok (.iload_n 2, 1) := by decide +kernel
theorem dX8_cheapest_35 : decode cX8_cheapest 35 = .ok (.aload_n 0, 1) := by decide +kernel
theorem dX8_cheapest_36 : decode cX8_cheapest 36 = .ok (.getfield 10, 3) := by decide +kernel
theorem dX8_cheapest_39 : decode cX8_cheapest 39 = .ok (.getfield 243, 3) := by decide +kernel
theorem dX8_cheapest_42 : decode cX8_cheapest 42 = .ok (.if_icmp .ge 92, 3) := by decide +kernel
theorem dX8_cheapest_45 : decode cX8_cheapest 45 = .ok (.aload_n 0, 1) := by decide +kernel
theorem dX8_cheapest_46 : decode cX8_cheapest 46 = .ok (.getfield 54, 3) := by decide +kernel
theorem dX8_cheapest_49 : decode cX8_cheapest 49 = .ok (.aload_n 0, 1) := by decide +kernel
theorem dX8_cheapest_50 : decode cX8_cheapest 50 = .ok (.getfield 10, 3) := by decide +kernel
theorem dX8_cheapest_53 : decode cX8_cheapest 53 = .ok (.iload_n 2, 1) := by decide +kernel
theorem dX8_cheapest_54 : decode cX8_cheapest 54 = .ok (.invokevirtual 166, 3) := by decide +kernel
theorem dX8_cheapest_57 : decode cX8_cheapest 57 = .ok (.iconst 0, 1) := by decide +kernel
theorem dX8_cheapest_58 : decode cX8_cheapest 58 = .ok (.istore_n 3, 1) := by decide +kernel
theorem dX8_cheapest_59 : decode cX8_cheapest 59 = .ok (.iload_n 3, 1) := by decide +kernel
theorem dX8_cheapest_60 : decode cX8_cheapest 60 = .ok (.aload_n 0, 1) := by decide +kernel
theorem dX8_cheapest_61 : decode cX8_cheapest 61 = .ok (.getfield 10, 3) := by decide +kernel
theorem dX8_cheapest_64 : decode cX8_cheapest 64 = .ok (.getfield 310, 3) := by decide +kernel
theorem dX8_cheapest_67 : decode cX8_cheapest 67 = .ok (.if_icmp .ge 61, 3) := by decide +kernel
theorem dX8_cheapest_70 : decode cX8_cheapest 70 = .ok (.aload_n 0, 1) := by decide +kernel
theorem dX8_cheapest_71 : decode cX8_cheapest 71 = .ok (.getfield 54, 3) := by decide +kernel
theorem dX8_cheapest_74 : decode cX8_cheapest 74 = .ok (.aload_n 0, 1) := by decide +kernel
theorem dX8_cheapest_75 : decode cX8_cheapest 75 = .ok (.getfield 10, 3) := by decide +kernel
theorem dX8_cheapest_78 : decode cX8_cheapest 78 = .ok (.iload_n 3, 1) := by decide +kernel
theorem dX8_cheapest_79 : decode cX8_cheapest 79 = .ok (.invokevirtual 313, 3) := by decide +kernel
theorem dX8_cheapest_82 : decode cX8_cheapest 82 = .ok (.aload_n 0, 1) := by decide +kernel
theorem dX8_cheapest_83 : decode cX8_cheapest 83 = .ok (.getfield 54, 3) := by decide +kernel
theorem dX8_cheapest_86 : decode cX8_cheapest 86 = .ok (.aload_n 0, 1) := by decide +kernel
theorem dX8_cheapest_87 : decode cX8_cheapest 87 = .ok (.getfield 10, 3) := by decide +kernel
theorem dX8_cheapest_90 : decode cX8_cheapest 90 = .ok (.getfield 188, 3) := by decide +kernel
theorem dX8_cheapest_93 : decode cX8_cheapest 93 = .ok (.invokevirtual 227, 3) := by decide +kernel
theorem dX8_cheapest_96 : decode cX8_cheapest 96 = .ok (.istore 4, 2) := by decide +kernel
theorem dX8_cheapest_98 : decode cX8_cheapest 98 = .ok (.aload_n 0, 1) := by decide +kernel
theorem dX8_cheapest_99 : decode cX8_cheapest 99 = .ok (.getfield 71, 3) := by decide +kernel
theorem dX8_cheapest_102 : decode cX8_cheapest 102 = .ok (.iload_n 2, 1) := by decide +kernel
theorem dX8_cheapest_103 : decode cX8_cheapest 103 = .ok (.iload_n 3, 1) := by decide +kernel
theorem dX8_cheapest_104 : decode cX8_cheapest 104 = .ok (.iload 4, 2) := by decide +kernel
theorem dX8_cheapest_106 : decode cX8_cheapest 106 = .ok (.bipush 99, 2) := by decide +kernel
theorem dX8_cheapest_108 : decode cX8_cheapest 108 = .ok (.if_icmp .le 9, 3) := by decide +kernel
theorem dX8_cheapest_111 : decode cX8_cheapest 111 = .ok (.ldc_w 332, 3) := by decide +kernel
theorem dX8_cheapest_114 : decode cX8_cheapest 114 = .ok (.goto 5, 3) := by decide +kernel
theorem dX8_cheapest_117 : decode cX8_cheapest 117 = .ok (.iload 4, 2) := by decide +kernel
theorem dX8_cheapest_119 : decode cX8_cheapest 119 = .ok (.invokevirtual 320, 3) := by decide +kernel
theorem dX8_cheapest_122 : decode cX8_cheapest 122 = .ok (.iinc 3 1, 3) := by decide +kernel
theorem dX8_cheapest_125 : decode cX8_cheapest 125 = .ok (.goto (-66), 3) := by decide +kernel
theorem dX8_cheapest_128 : decode cX8_cheapest 128 = .ok (.iinc 2 1, 3) := by decide +kernel
theorem dX8_cheapest_131 : decode cX8_cheapest 131 = .ok (.goto (-97), 3) := by decide +kernel
theorem dX8_cheapest_134 : decode cX8_cheapest 134 = .ok (.aload_n 0, 1) := by decide +kernel
theorem dX8_cheapest_135 : decode cX8_cheapest 135 = .ok (.getfield 71, 3) := by decide +kernel
theorem dX8_cheapest_138 : decode cX8_cheapest 138 = .ok (.aload_n 0, 1) := by decide +kernel
theorem dX8_cheapest_139 : decode cX8_cheapest 139 = .ok (.getfield 10, 3) := by decide +kernel
theorem dX8_cheapest_142 : decode cX8_cheapest 142 = .ok (.getfield 243, 3) := by decide +kernel
theorem dX8_cheapest_145 : decode cX8_cheapest 145 = .ok (.aload_n 0, 1) := by decide +kernel
theorem dX8_cheapest_146 : decode cX8_cheapest 146 = .ok (.getfield 10, 3) := by decide +kernel
theorem dX8_cheapest_149 : decode cX8_cheapest 149 = .ok (.getfield 310, 3) := by decide +kernel
theorem dX8_cheapest_152 : decode cX8_cheapest 152 = .ok (.ldc_w 332, 3) := by decide +kernel
theorem dX8_cheapest_155 : decode cX8_cheapest 155 = .ok (.invokevirtual 323, 3) := by decide +kernel
theorem dX8_cheapest_158 : decode cX8_cheapest 158 = .ok (.aload_n 0, 1) := by decide +kernel
theorem dX8_cheapest_159 : decode cX8_cheapest 159 = .ok (.getfield 71, 3) := by decide +kernel
theorem dX8_cheapest_162 : decode cX8_cheapest 162 = .ok (.invokevirtual 326, 3) := by decide +kernel
theorem dX8_cheapest_165 : decode cX8_cheapest 165 = .ok (.ldc_w 332, 3) := by decide +kernel
theorem dX8_cheapest_168 : decode cX8_cheapest 168 = .ok (.if_icmp .lt 6, 3) := by decide +kernel
theorem dX8_cheapest_171 : decode cX8_cheapest 171 = .ok (.bipush (-9), 2) := by decide +kernel
theorem dX8_cheapest_173 : decode cX8_cheapest 173 = .ok (.ireturn, 1) := by decide +kernel
theorem dX8_cheapest_174 : decode cX8_cheapest 174 = .ok (.iload_n 1, 1) := by decide +kernel
theorem dX8_cheapest_175 : decode cX8_cheapest 175 = .ok (.ifCond .ne 13, 3) := by decide +kernel
theorem dX8_cheapest_178 : decode cX8_cheapest 178 = .ok (.aload_n 0, 1) := by decide +kernel
theorem dX8_cheapest_179 : decode cX8_cheapest 179 = .ok (.getfield 71, 3) := by decide +kernel
theorem dX8_cheapest_182 : decode cX8_cheapest 182 = .ok (.invokevirtual 326, 3) := by decide +kernel
theorem dX8_cheapest_185 : decode cX8_cheapest 185 = .ok (.goto 10, 3) := by decide +kernel
theorem dX8_cheapest_188 : decode cX8_cheapest 188 = .ok (.aload_n 0, 1) := by decide +kernel
theorem dX8_cheapest_189 : decode cX8_cheapest 189 = .ok (.getfield 71, 3) := by decide +kernel
theorem dX8_cheapest_192 : decode cX8_cheapest 192 = .ok (.invokevirtual 329, 3) := by decide +kernel
theorem dX8_cheapest_195 : decode cX8_cheapest 195 = .ok (.ireturn, 1) := by decide +kernel
theorem dX8_marks_0 : decode cX8_marks 0 = .ok (.aload_n 0, 1) := by decide +kernel
theorem dX8_marks_1 : decode cX8_marks 1 = .ok (.iload_n 1, 1) := by decide +kernel
theorem dX8_marks_2 : decode cX8_marks 2 = .ok (.iload_n 2, 1) := by decide +kernel
theorem dX8_marks_3 : decode cX8_marks 3 = .ok (.iload_n 3, 1) := by decide +kernel
theorem dX8_marks_4 : decode cX8_marks 4 = .ok (.invokevirtual 333, 3) := by decide +kernel
theorem dX8_marks_7 : decode cX8_marks 7 = .ok (.istore 4, 2) := by decide +kernel
theorem dX8_marks_9 : decode cX8_marks 9 = .ok (.iload 4, 2) := by decide +kernel
theorem dX8_marks_11 : decode cX8_marks 11 = .ok (.ifCond .eq 10, 3) := by decide +kernel
theorem dX8_marks_14 : decode cX8_marks 14 = .ok (.aload_n 0, 1) := by decide +kernel
theorem dX8_marks_15 : decode cX8_marks 15 = .ok (.iload 4, 2) := by decide +kernel
theorem dX8_marks_17 : decode cX8_marks 17 = .ok (.invokevirtual 85, 3) := by decide +kernel
theorem dX8_marks_20 : decode cX8_marks 20 = .ok (.ireturn, 1) := by decide +kernel
theorem dX8_marks_21 : decode cX8_marks 21 = .ok (.aload_n 0, 1) := by decide +kernel
theorem dX8_marks_22 : decode cX8_marks 22 = .ok (.getfield 54, 3) := by decide +kernel
theorem dX8_marks_25 : decode cX8_marks 25 = .ok (.aload_n 0, 1) := by decide +kernel
theorem dX8_marks_26 : decode cX8_marks 26 = .ok (.getfield 10, 3) := by decide +kernel
theorem dX8_marks_29 : decode cX8_marks 29 = .ok (.iload_n 1, 1) := by decide +kernel
theorem dX8_marks_30 : decode cX8_marks 30 = .ok (.invokevirtual 166, 3) := by decide +kernel
theorem dX8_marks_33 : decode cX8_marks 33 = .ok (.iconst 0, 1) := by decide +kernel
theorem dX8_marks_34 : decode cX8_marks 34 = .ok (.istore 5, 2) := by decide +kernel
theorem dX8_marks_36 : decode cX8_marks 36 = .ok (.bipush (-9), 2) := by decide +kernel
theorem dX8_marks_38 : decode cX8_marks 38 = .ok (.istore 6, 2) := by decide +kernel
theorem dX8_marks_40 : decode cX8_marks 40 = .ok (.bipush 99, 2) := by decide +kernel
theorem dX8_marks_42 : decode cX8_marks 42 = .ok (.istore 7, 2) := by decide +kernel
theorem dX8_marks_44 : decode cX8_marks 44 = .ok (.iload 7, 2) := by decide +kernel
theorem dX8_marks_46 : decode cX8_marks 46 = .ok (.ifCond .lt 36, 3) := by decide +kernel
theorem dX8_marks_49 : decode cX8_marks 49 = .ok (.aload_n 0, 1) := by decide +kernel
theorem dX8_marks_50 : decode cX8_marks 50 = .ok (.getfield 54, 3) := by decide +kernel
theorem dX8_marks_53 : decode cX8_marks 53 = .ok (.iload 7, 2) := by decide +kernel
theorem dX8_marks_55 : decode cX8_marks 55 = .ok (.aload_n 0, 1) := by decide +kernel
theorem dX8_marks_56 : decode cX8_marks 56 = .ok (.getfield 10, 3) := by decide +kernel
theorem dX8_marks_59 : decode cX8_marks 59 = .ok (.getfield 188, 3) := by decide +kernel
theorem dX8_marks_62 : decode cX8_marks 62 = .ok (.invokevirtual 336, 3) := by decide +kernel
theorem dX8_marks_65 : decode cX8_marks 65 = .ok (.iload_n 2, 1) := by decide +kernel
theorem dX8_marks_66 : decode cX8_marks 66 = .ok (.if_icmp .ne 10, 3) := by decide +kernel
theorem dX8_marks_69 : decode cX8_marks 69 = .ok (.iinc 5 1, 3) := by decide +kernel
theorem dX8_marks_72 : decode cX8_marks 72 = .ok (.iload 7, 2) := by decide +kernel
theorem dX8_marks_74 : decode cX8_marks 74 = .ok (.istore 6, 2) := by decide +kernel
theorem dX8_marks_76 : decode cX8_marks 76 = .ok (.iinc 7 (-1), 3) := by decide +kernel
theorem dX8_marks_79 : decode cX8_marks 79 = .ok (.goto (-35), 3) := by decide +kernel
theorem dX8_marks_82 : decode cX8_marks 82 = .ok (.iload_n 3, 1) := by decide +kernel
theorem dX8_marks_83 : decode cX8_marks 83 = .ok (.ifCond .ne 8, 3) := by decide +kernel
theorem dX8_marks_86 : decode cX8_marks 86 = .ok (.iload 5, 2) := by decide +kernel
theorem dX8_marks_88 : decode cX8_marks 88 = .ok (.goto 5, 3) := by decide +kernel
theorem dX8_marks_91 : decode cX8_marks 91 = .ok (.iload 6, 2) := by decide +kernel
theorem dX8_marks_93 : decode cX8_marks 93 = .ok (.ireturn, 1) := by decide +kernel
theorem dX8_whose_0 : decode cX8_whose 0 = .ok (.iload_n 1, 1) := by decide +kernel
theorem dX8_whose_1 : decode cX8_whose 1 = .ok (.ifCond .ge 10, 3) := by decide +kernel
theorem dX8_whose_4 : decode cX8_whose 4 = .ok (.aload_n 0, 1) := by decide +kernel
theorem dX8_whose_5 : decode cX8_whose 5 = .ok (.bipush (-4), 2) := by decide +kernel
theorem dX8_whose_7 : decode cX8_whose 7 = .ok (.invokevirtual 85, 3) := by decide +kernel
theorem dX8_whose_10 : decode cX8_whose 10 = .ok (.ireturn, 1) := by decide +kernel
theorem dX8_whose_11 : decode cX8_whose 11 = .ok (.iload_n 1, 1) := by decide +kernel
theorem dX8_whose_12 : decode cX8_whose 12 = .ok (.sipush 4095, 3) := by decide +kernel
theorem dX8_whose_15 : decode cX8_whose 15 = .ok (.if_icmp .le 10, 3) := by decide +kernel
theorem dX8_whose_18 : decode cX8_whose 18 = .ok (.aload_n 0, 1) := by decide +kernel
theorem dX8_whose_19 : decode cX8_whose 19 = .ok (.bipush (-6), 2) := by decide +kernel
theorem dX8_whose_21 : decode cX8_whose 21 = .ok (.invokevirtual 85, 3) := by decide +kernel
theorem dX8_whose_24 : decode cX8_whose 24 = .ok (.ireturn, 1) := by decide +kernel
theorem dX8_whose_25 : decode cX8_whose 25 = .ok (.iconst 0, 1) := by decide +kernel
theorem dX8_whose_26 : decode cX8_whose 26 = .ok (.istore_n 2, 1) := by decide +kernel
theorem dX8_whose_27 : decode cX8_whose 27 = .ok (.iconst 0, 1) := by decide +kernel
theorem dX8_whose_28 : decode cX8_whose 28 = .ok (.istore_n 3, 1) := by decide +kernel
theorem dX8_whose_29 : decode cX8_whose 29 = .ok (.iload_n 3, 1) := by decide +kernel
theorem dX8_whose_30 : decode cX8_whose 30 = .ok (.aload_n 0, 1) := by decide +kernel
theorem dX8_whose_31 : decode cX8_whose 31 = .ok (.getfield 10, 3) := by decide +kernel
theorem dX8_whose_34 : decode cX8_whose 34 = .ok (.getfield 243, 3) := by decide +kernel
theorem dX8_whose_37 : decode cX8_whose 37 = .ok (.if_icmp .ge 45, 3) := by decide +kernel
theorem dX8_whose_40 : decode cX8_whose 40 = .ok (.aload_n 0, 1) := by decide +kernel
theorem dX8_whose_41 : decode cX8_whose 41 = .ok (.getfield 54, 3) := by decide +kernel
theorem dX8_whose_44 : decode cX8_whose 44 = .ok (.aload_n 0, 1) := by decide +kernel
theorem dX8_whose_45 : decode cX8_whose 45 = .ok (.getfield 10, 3) := by decide +kernel
theorem dX8_whose_48 : decode cX8_whose 48 = .ok (.iload_n 3, 1) := by decide +kernel
theorem dX8_whose_49 : decode cX8_whose 49 = .ok (.invokevirtual 166, 3) := by decide +kernel
theorem dX8_whose_52 : decode cX8_whose 52 = .ok (.aload_n 0, 1) := by decide +kernel
theorem dX8_whose_53 : decode cX8_whose 53 = .ok (.getfield 54, 3) := by decide +kernel
theorem dX8_whose_56 : decode cX8_whose 56 = .ok (.aload_n 0, 1) := by decide +kernel
theorem dX8_whose_57 : decode cX8_whose 57 = .ok (.getfield 10, 3) := by decide +kernel
theorem dX8_whose_60 : decode cX8_whose 60 = .ok (.getfield 188, 3) := by decide +kernel
theorem dX8_whose_63 : decode cX8_whose 63 = .ok (.invokevirtual 191, 3) := by decide +kernel
theorem dX8_whose_66 : decode cX8_whose 66 = .ok (.iload_n 1, 1) := by decide +kernel
theorem dX8_whose_67 : decode cX8_whose 67 = .ok (.if_icmp .ne 9, 3) := by decide +kernel
theorem dX8_whose_70 : decode cX8_whose 70 = .ok (.iload_n 2, 1) := by decide +kernel
theorem dX8_whose_71 : decode cX8_whose 71 = .ok (.iconst 1, 1) := by decide +kernel
theorem dX8_whose_72 : decode cX8_whose 72 = .ok (.iload_n 3, 1) := by decide +kernel
theorem dX8_whose_73 : decode cX8_whose 73 = .ok (.ishl, 1) := by decide +kernel
theorem dX8_whose_74 : decode cX8_whose 74 = .ok (.ior, 1) := by decide +kernel
theorem dX8_whose_75 : decode cX8_whose 75 = .ok (.istore_n 2, 1) := by decide +kernel
theorem dX8_whose_76 : decode cX8_whose 76 = .ok (.iinc 3 1, 3) := by decide +kernel
theorem dX8_whose_79 : decode cX8_whose 79 = .ok (.goto (-50), 3) := by decide +kernel
theorem dX8_whose_82 : decode cX8_whose 82 = .ok (.iload_n 2, 1) := by decide +kernel
theorem dX8_whose_83 : decode cX8_whose 83 = .ok (.ireturn, 1) := by decide +kernel
theorem dX8_hung_0 : decode cX8_hung 0 = .ok (.aload_n 0, 1) := by decide +kernel
theorem dX8_hung_1 : decode cX8_hung 1 = .ok (.iload_n 1, 1) := by decide +kernel
theorem dX8_hung_2 : decode cX8_hung 2 = .ok (.iload_n 2, 1) := by decide +kernel
theorem dX8_hung_3 : decode cX8_hung 3 = .ok (.iload_n 3, 1) := by decide +kernel
theorem dX8_hung_4 : decode cX8_hung 4 = .ok (.invokevirtual 333, 3) := by decide +kernel
theorem dX8_hung_7 : decode cX8_hung 7 = .ok (.istore 4, 2) := by decide +kernel
theorem dX8_hung_9 : decode cX8_hung 9 = .ok (.iload 4, 2) := by decide +kernel
theorem dX8_hung_11 : decode cX8_hung 11 = .ok (.ifCond .eq 10, 3) := by decide +kernel
theorem dX8_hung_14 : decode cX8_hung 14 = .ok (.aload_n 0, 1) := by decide +kernel
theorem dX8_hung_15 : decode cX8_hung 15 = .ok (.iload 4, 2) := by decide +kernel
theorem dX8_hung_17 : decode cX8_hung 17 = .ok (.invokevirtual 85, 3) := by decide +kernel
theorem dX8_hung_20 : decode cX8_hung 20 = .ok (.ireturn, 1) := by decide +kernel
theorem dX8_hung_21 : decode cX8_hung 21 = .ok (.aload_n 0, 1) := by decide +kernel
theorem dX8_hung_22 : decode cX8_hung 22 = .ok (.getfield 54, 3) := by decide +kernel
theorem dX8_hung_25 : decode cX8_hung 25 = .ok (.aload_n 0, 1) := by decide +kernel
theorem dX8_hung_26 : decode cX8_hung 26 = .ok (.getfield 10, 3) := by decide +kernel
theorem dX8_hung_29 : decode cX8_hung 29 = .ok (.iload_n 1, 1) := by decide +kernel
theorem dX8_hung_30 : decode cX8_hung 30 = .ok (.invokevirtual 166, 3) := by decide +kernel
theorem dX8_hung_33 : decode cX8_hung 33 = .ok (.iconst 0, 1) := by decide +kernel
theorem dX8_hung_34 : decode cX8_hung 34 = .ok (.istore 5, 2) := by decide +kernel
theorem dX8_hung_36 : decode cX8_hung 36 = .ok (.bipush (-9), 2) := by decide +kernel
theorem dX8_hung_38 : decode cX8_hung 38 = .ok (.istore 6, 2) := by decide +kernel
theorem dX8_hung_40 : decode cX8_hung 40 = .ok (.aload_n 0, 1) := by decide +kernel
theorem dX8_hung_41 : decode cX8_hung 41 = .ok (.getfield 10, 3) := by decide +kernel
theorem dX8_hung_44 : decode cX8_hung 44 = .ok (.getfield 310, 3) := by decide +kernel
theorem dX8_hung_47 : decode cX8_hung 47 = .ok (.iconst 1, 1) := by decide +kernel
theorem dX8_hung_48 : decode cX8_hung 48 = .ok (.isub, 1) := by decide +kernel
theorem dX8_hung_49 : decode cX8_hung 49 = .ok (.istore 7, 2) := by decide +kernel
theorem dX8_hung_51 : decode cX8_hung 51 = .ok (.iload 7, 2) := by decide +kernel
theorem dX8_hung_53 : decode cX8_hung 53 = .ok (.ifCond .lt 70, 3) := by decide +kernel
theorem dX8_hung_56 : decode cX8_hung 56 = .ok (.aload_n 0, 1) := by decide +kernel
theorem dX8_hung_57 : decode cX8_hung 57 = .ok (.getfield 54, 3) := by decide +kernel
theorem dX8_hung_60 : decode cX8_hung 60 = .ok (.aload_n 0, 1) := by decide +kernel
theorem dX8_hung_61 : decode cX8_hung 61 = .ok (.getfield 10, 3) := by decide +kernel
theorem dX8_hung_64 : decode cX8_hung 64 = .ok (.iload 7, 2) := by decide +kernel
theorem dX8_hung_66 : decode cX8_hung 66 = .ok (.invokevirtual 313, 3) := by decide +kernel
theorem dX8_hung_69 : decode cX8_hung 69 = .ok (.bipush 99, 2) := by decide +kernel
theorem dX8_hung_71 : decode cX8_hung 71 = .ok (.istore 8, 2) := by decide +kernel
theorem dX8_hung_73 : decode cX8_hung 73 = .ok (.iload 8, 2) := by decide +kernel
theorem dX8_hung_75 : decode cX8_hung 75 = .ok (.ifCond .lt 42, 3) := by decide +kernel
theorem dX8_hung_78 : decode cX8_hung 78 = .ok (.aload_n 0, 1) := by decide +kernel
theorem dX8_hung_79 : decode cX8_hung 79 = .ok (.getfield 54, 3) := by decide +kernel
theorem dX8_hung_82 : decode cX8_hung 82 = .ok (.iload 8, 2) := by decide +kernel
theorem dX8_hung_84 : decode cX8_hung 84 = .ok (.aload_n 0, 1) := by decide +kernel
theorem dX8_hung_85 : decode cX8_hung 85 = .ok (.getfield 10, 3) := by decide +kernel
theorem dX8_hung_88 : decode cX8_hung 88 = .ok (.getfield 188, 3) := by decide +kernel
theorem dX8_hung_91 : decode cX8_hung 91 = .ok (.invokevirtual 336, 3) := by decide +kernel
theorem dX8_hung_94 : decode cX8_hung 94 = .ok (.iload_n 2, 1) := by decide +kernel
theorem dX8_hung_95 : decode cX8_hung 95 = .ok (.if_icmp .ne 16, 3) := by decide +kernel
theorem dX8_hung_98 : decode cX8_hung 98 = .ok (.iinc 5 1, 3) := by decide +kernel
theorem dX8_hung_101 : decode cX8_hung 101 = .ok (.bipush 100, 2) := by decide +kernel
theorem dX8_hung_103 : decode cX8_hung 103 = .ok (.iload 7, 2) := by decide +kernel
theorem dX8_hung_105 : decode cX8_hung 105 = .ok (.imul, 1) := by decide +kernel
theorem dX8_hung_106 : decode cX8_hung 106 = .ok (.iload 8, 2) := by decide +kernel
theorem dX8_hung_108 : decode cX8_hung 108 = .ok (.iadd, 1) := by decide +kernel
theorem dX8_hung_109 : decode cX8_hung 109 = .ok (.istore 6, 2) := by decide +kernel
theorem dX8_hung_111 : decode cX8_hung 111 = .ok (.iinc 8 (-1), 3) := by decide +kernel
theorem dX8_hung_114 : decode cX8_hung 114 = .ok (.goto (-41), 3) := by decide +kernel
theorem dX8_hung_117 : decode cX8_hung 117 = .ok (.iinc 7 (-1), 3) := by decide +kernel
theorem dX8_hung_120 : decode cX8_hung 120 = .ok (.goto (-69), 3) := by decide +kernel
theorem dX8_hung_123 : decode cX8_hung 123 = .ok (.iload_n 3, 1) := by decide +kernel
theorem dX8_hung_124 : decode cX8_hung 124 = .ok (.ifCond .ne 8, 3) := by decide +kernel
theorem dX8_hung_127 : decode cX8_hung 127 = .ok (.iload 5, 2) := by decide +kernel
theorem dX8_hung_129 : decode cX8_hung 129 = .ok (.goto 5, 3) := by decide +kernel
theorem dX8_hung_132 : decode cX8_hung 132 = .ok (.iload 6, 2) := by decide +kernel
theorem dX8_hung_134 : decode cX8_hung 134 = .ok (.ireturn, 1) := by decide +kernel
theorem dX8_wrongOfMarks_0 : decode cX8_wrongOfMarks 0 = .ok (.aload_n 0, 1) := by decide +kernel
theorem dX8_wrongOfMarks_1 : decode cX8_wrongOfMarks 1 = .ok (.getfield 10, 3) := by decide +kernel
theorem dX8_wrongOfMarks_4 : decode cX8_wrongOfMarks 4 = .ok (.iload_n 1, 1) := by decide +kernel
theorem dX8_wrongOfMarks_5 : decode cX8_wrongOfMarks 5 = .ok (.invokevirtual 140, 3) := by decide +kernel
theorem dX8_wrongOfMarks_8 : decode cX8_wrongOfMarks 8 = .ok (.ifCond .ne 5, 3) := by decide +kernel
theorem dX8_wrongOfMarks_11 : decode cX8_wrongOfMarks 11 = .ok (.iconst (-1), 1) := by decide +kernel
theorem dX8_wrongOfMarks_12 : decode cX8_wrongOfMarks 12 = .ok (.ireturn, 1) := by decide +kernel
theorem dX8_wrongOfMarks_13 : decode cX8_wrongOfMarks 13 = .ok (.iload_n 2, 1) := by decide +kernel
theorem dX8_wrongOfMarks_14 : decode cX8_wrongOfMarks 14 = .ok (.ifCond .ge 6, 3) := by decide +kernel
theorem dX8_wrongOfMarks_17 : decode cX8_wrongOfMarks 17 = .ok (.bipush (-4), 2) := by decide +kernel
theorem dX8_wrongOfMarks_19 : decode cX8_wrongOfMarks 19 = .ok (.ireturn, 1) := by decide +kernel
theorem dX8_wrongOfMarks_20 : decode cX8_wrongOfMarks 20 = .ok (.iload_n 2, 1) := by decide +kernel
theorem dX8_wrongOfMarks_21 : decode cX8_wrongOfMarks 21 = .ok (.sipush 4095, 3) := by decide +kernel
theorem dX8_wrongOfMarks_24 : decode cX8_wrongOfMarks 24 = .ok (.if_icmp .le 6, 3) := by decide +kernel
theorem dX8_wrongOfMarks_27 : decode cX8_wrongOfMarks 27 = .ok (.bipush (-6), 2) := by decide +kernel
theorem dX8_wrongOfMarks_29 : decode cX8_wrongOfMarks 29 = .ok (.ireturn, 1) := by decide +kernel
theorem dX8_wrongOfMarks_30 : decode cX8_wrongOfMarks 30 = .ok (.iload_n 3, 1) := by decide +kernel
theorem dX8_wrongOfMarks_31 : decode cX8_wrongOfMarks 31 = .ok (.iconst 2, 1) := by decide +kernel
theorem dX8_wrongOfMarks_32 : decode cX8_wrongOfMarks 32 = .ok (.invokestatic 153, 3) := by decide +kernel
theorem dX8_wrongOfMarks_35 : decode cX8_wrongOfMarks 35 = .ok (.ifCond .eq 7, 3) := by decide +kernel
theorem dX8_wrongOfMarks_38 : decode cX8_wrongOfMarks 38 = .ok (.iconst 0, 1) := by decide +kernel
theorem dX8_wrongOfMarks_39 : decode cX8_wrongOfMarks 39 = .ok (.goto 5, 3) := by decide +kernel
theorem dX8_wrongOfMarks_42 : decode cX8_wrongOfMarks 42 = .ok (.bipush (-2), 2) := by decide +kernel
theorem dX8_wrongOfMarks_44 : decode cX8_wrongOfMarks 44 = .ok (.ireturn, 1) := by decide +kernel
theorem dX8_row_0 : decode cX8_row 0 = .ok (.iload_n 1, 1) := by decide +kernel
theorem dX8_row_1 : decode cX8_row 1 = .ok (.ifCond .ge 10, 3) := by decide +kernel
theorem dX8_row_4 : decode cX8_row 4 = .ok (.aload_n 0, 1) := by decide +kernel
theorem dX8_row_5 : decode cX8_row 5 = .ok (.bipush (-4), 2) := by decide +kernel
theorem dX8_row_7 : decode cX8_row 7 = .ok (.invokevirtual 85, 3) := by decide +kernel
theorem dX8_row_10 : decode cX8_row 10 = .ok (.ireturn, 1) := by decide +kernel
theorem dX8_row_11 : decode cX8_row 11 = .ok (.iload_n 1, 1) := by decide +kernel
theorem dX8_row_12 : decode cX8_row 12 = .ok (.bipush 99, 2) := by decide +kernel
theorem dX8_row_14 : decode cX8_row 14 = .ok (.if_icmp .gt 15, 3) := by decide +kernel
theorem dX8_row_17 : decode cX8_row 17 = .ok (.aload_n 0, 1) := by decide +kernel
theorem dX8_row_18 : decode cX8_row 18 = .ok (.getfield 36, 3) := by decide +kernel
theorem dX8_row_21 : decode cX8_row 21 = .ok (.getfield 266, 3) := by decide +kernel
theorem dX8_row_24 : decode cX8_row 24 = .ok (.bipush 12, 2) := by decide +kernel
theorem dX8_row_26 : decode cX8_row 26 = .ok (.if_icmp .lt 10, 3) := by decide +kernel
theorem dX8_row_29 : decode cX8_row 29 = .ok (.aload_n 0, 1) := by decide +kernel
theorem dX8_row_30 : decode cX8_row 30 = .ok (.bipush (-6), 2) := by decide +kernel
theorem dX8_row_32 : decode cX8_row 32 = .ok (.invokevirtual 85, 3) := by decide +kernel
theorem dX8_row_35 : decode cX8_row 35 = .ok (.ireturn, 1) := by decide +kernel
theorem dX8_row_36 : decode cX8_row 36 = .ok (.aload_n 0, 1) := by decide +kernel
theorem dX8_row_37 : decode cX8_row 37 = .ok (.getfield 36, 3) := by decide +kernel
theorem dX8_row_40 : decode cX8_row 40 = .ok (.iload_n 1, 1) := by decide +kernel
theorem dX8_row_41 : decode cX8_row 41 = .ok (.invokevirtual 340, 3) := by decide +kernel
theorem dX8_row_44 : decode cX8_row 44 = .ok (.aload_n 0, 1) := by decide +kernel
theorem dX8_row_45 : decode cX8_row 45 = .ok (.getfield 36, 3) := by decide +kernel
theorem dX8_row_48 : decode cX8_row 48 = .ok (.getfield 266, 3) := by decide +kernel
theorem dX8_row_51 : decode cX8_row 51 = .ok (.ireturn, 1) := by decide +kernel
theorem dX8_judge_0 : decode cX8_judge 0 = .ok (.aload_n 0, 1) := by decide +kernel
theorem dX8_judge_1 : decode cX8_judge 1 = .ok (.getfield 10, 3) := by decide +kernel
theorem dX8_judge_4 : decode cX8_judge 4 = .ok (.iload_n 1, 1) := by decide +kernel
theorem dX8_judge_5 : decode cX8_judge 5 = .ok (.invokevirtual 140, 3) := by decide +kernel
theorem dX8_judge_8 : decode cX8_judge 8 = .ok (.ifCond .ne 9, 3) := by decide +kernel
theorem dX8_judge_11 : decode cX8_judge 11 = .ok (.aload_n 0, 1) := by decide +kernel
theorem dX8_judge_12 : decode cX8_judge 12 = .ok (.iconst (-1), 1) := by decide +kernel
theorem dX8_judge_13 : decode cX8_judge 13 = .ok (.invokevirtual 85, 3) := by decide +kernel
theorem dX8_judge_16 : decode cX8_judge 16 = .ok (.ireturn, 1) := by decide +kernel
theorem dX8_judge_17 : decode cX8_judge 17 = .ok (.aload_n 0, 1) := by decide +kernel
theorem dX8_judge_18 : decode cX8_judge 18 = .ok (.getfield 54, 3) := by decide +kernel
theorem dX8_judge_21 : decode cX8_judge 21 = .ok (.aload_n 0, 1) := by decide +kernel
theorem dX8_judge_22 : decode cX8_judge 22 = .ok (.getfield 10, 3) := by decide +kernel
theorem dX8_judge_25 : decode cX8_judge 25 = .ok (.iload_n 1, 1) := by decide +kernel
theorem dX8_judge_26 : decode cX8_judge 26 = .ok (.invokevirtual 166, 3) := by decide +kernel
theorem dX8_judge_29 : decode cX8_judge 29 = .ok (.bipush (-9), 2) := by decide +kernel
theorem dX8_judge_31 : decode cX8_judge 31 = .ok (.istore_n 2, 1) := by decide +kernel
theorem dX8_judge_32 : decode cX8_judge 32 = .ok (.aload_n 0, 1) := by decide +kernel
theorem dX8_judge_33 : decode cX8_judge 33 = .ok (.getfield 36, 3) := by decide +kernel
theorem dX8_judge_36 : decode cX8_judge 36 = .ok (.getfield 266, 3) := by decide +kernel
theorem dX8_judge_39 : decode cX8_judge 39 = .ok (.iconst 1, 1) := by decide +kernel
theorem dX8_judge_40 : decode cX8_judge 40 = .ok (.isub, 1) := by decide +kernel
theorem dX8_judge_41 : decode cX8_judge 41 = .ok (.istore_n 3, 1) := by decide +kernel
theorem dX8_judge_42 : decode cX8_judge 42 = .ok (.iload_n 3, 1) := by decide +kernel
theorem dX8_judge_43 : decode cX8_judge 43 = .ok (.ifCond .lt 59, 3) := by decide +kernel
theorem dX8_judge_46 : decode cX8_judge 46 = .ok (.aload_n 0, 1) := by decide +kernel
theorem dX8_judge_47 : decode cX8_judge 47 = .ok (.getfield 10, 3) := by decide +kernel
theorem dX8_judge_50 : decode cX8_judge 50 = .ok (.aload_n 0, 1) := by decide +kernel
theorem dX8_judge_51 : decode cX8_judge 51 = .ok (.getfield 10, 3) := by decide +kernel
theorem dX8_judge_54 : decode cX8_judge 54 = .ok (.getfield 163, 3) := by decide +kernel
theorem dX8_judge_57 : decode cX8_judge 57 = .ok (.iload_n 3, 1) := by decide +kernel
theorem dX8_judge_58 : decode cX8_judge 58 = .ok (.iadd, 1) := by decide +kernel
theorem dX8_judge_59 : decode cX8_judge 59 = .ok (.bipush 12, 2) := by decide +kernel
theorem dX8_judge_61 : decode cX8_judge 61 = .ok (.irem, 1) := by decide +kernel
theorem dX8_judge_62 : decode cX8_judge 62 = .ok (.invokevirtual 120, 3) := by decide +kernel
theorem dX8_judge_65 : decode cX8_judge 65 = .ok (.istore 4, 2) := by decide +kernel
theorem dX8_judge_67 : decode cX8_judge 67 = .ok (.aload_n 0, 1) := by decide +kernel
theorem dX8_judge_68 : decode cX8_judge 68 = .ok (.getfield 54, 3) := by decide +kernel
theorem dX8_judge_71 : decode cX8_judge 71 = .ok (.aload_n 0, 1) := by decide +kernel
theorem dX8_judge_72 : decode cX8_judge 72 = .ok (.getfield 54, 3) := by decide +kernel
theorem dX8_judge_75 : decode cX8_judge 75 = .ok (.getfield 173, 3) := by decide +kernel
theorem dX8_judge_78 : decode cX8_judge 78 = .ok (.iload 4, 2) := by decide +kernel
theorem dX8_judge_80 : decode cX8_judge 80 = .ok (.invokevirtual 176, 3) := by decide +kernel
theorem dX8_judge_83 : decode cX8_judge 83 = .ok (.aload_n 0, 1) := by decide +kernel
theorem dX8_judge_84 : decode cX8_judge 84 = .ok (.getfield 36, 3) := by decide +kernel
theorem dX8_judge_87 : decode cX8_judge 87 = .ok (.iload_n 3, 1) := by decide +kernel
theorem dX8_judge_88 : decode cX8_judge 88 = .ok (.invokevirtual 282, 3) := by decide +kernel
theorem dX8_judge_91 : decode cX8_judge 91 = .ok (.if_icmp .eq 5, 3) := by decide +kernel
theorem dX8_judge_94 : decode cX8_judge 94 = .ok (.iload_n 3, 1) := by decide +kernel
theorem dX8_judge_95 : decode cX8_judge 95 = .ok (.istore_n 2, 1) := by decide +kernel
theorem dX8_judge_96 : decode cX8_judge 96 = .ok (.iinc 3 (-1), 3) := by decide +kernel
theorem dX8_judge_99 : decode cX8_judge 99 = .ok (.goto (-57), 3) := by decide +kernel
theorem dX8_judge_102 : decode cX8_judge 102 = .ok (.aload_n 0, 1) := by decide +kernel
theorem dX8_judge_103 : decode cX8_judge 103 = .ok (.getfield 36, 3) := by decide +kernel
theorem dX8_judge_106 : decode cX8_judge 106 = .ok (.iconst 0, 1) := by decide +kernel
theorem dX8_judge_107 : decode cX8_judge 107 = .ok (.putfield 266, 3) := by decide +kernel
theorem dX8_judge_110 : decode cX8_judge 110 = .ok (.iload_n 2, 1) := by decide +kernel
theorem dX8_judge_111 : decode cX8_judge 111 = .ok (.ireturn, 1) := by decide +kernel
theorem dX8_drop_0 : decode cX8_drop 0 = .ok (.aload_n 0, 1) := by decide +kernel
theorem dX8_drop_1 : decode cX8_drop 1 = .ok (.getfield 36, 3) := by decide +kernel
theorem dX8_drop_4 : decode cX8_drop 4 = .ok (.getfield 266, 3) := by decide +kernel
theorem dX8_drop_7 : decode cX8_drop 7 = .ok (.istore_n 1, 1) := by decide +kernel
theorem dX8_drop_8 : decode cX8_drop 8 = .ok (.aload_n 0, 1) := by decide +kernel
theorem dX8_drop_9 : decode cX8_drop 9 = .ok (.getfield 36, 3) := by decide +kernel
theorem dX8_drop_12 : decode cX8_drop 12 = .ok (.iconst 0, 1) := by decide +kernel
theorem dX8_drop_13 : decode cX8_drop 13 = .ok (.putfield 266, 3) := by decide +kernel
theorem dX8_drop_16 : decode cX8_drop 16 = .ok (.iload_n 1, 1) := by decide +kernel
theorem dX8_drop_17 : decode cX8_drop 17 = .ok (.ireturn, 1) := by decide +kernel
theorem dX8_seeds_0 : decode cX8_seeds 0 = .ok (.aload_n 0, 1) := by decide +kernel
theorem dX8_seeds_1 : decode cX8_seeds 1 = .ok (.getfield 10, 3) := by decide +kernel
theorem dX8_seeds_4 : decode cX8_seeds 4 = .ok (.iload_n 1, 1) := by decide +kernel
theorem dX8_seeds_5 : decode cX8_seeds 5 = .ok (.invokevirtual 140, 3) := by decide +kernel
theorem dX8_seeds_8 : decode cX8_seeds 8 = .ok (.ifCond .ne 9, 3) := by decide +kernel
theorem dX8_seeds_11 : decode cX8_seeds 11 = .ok (.aload_n 0, 1) := by decide +kernel
theorem dX8_seeds_12 : decode cX8_seeds 12 = .ok (.iconst (-1), 1) := by decide +kernel
theorem dX8_seeds_13 : decode cX8_seeds 13 = .ok (.invokevirtual 85, 3) := by decide +kernel
theorem dX8_seeds_16 : decode cX8_seeds 16 = .ok (.ireturn, 1) := by decide +kernel
theorem dX8_seeds_17 : decode cX8_seeds 17 = .ok (.iload_n 2, 1) := by decide +kernel
theorem dX8_seeds_18 : decode cX8_seeds 18 = .ok (.iconst 1, 1) := by decide +kernel
theorem dX8_seeds_19 : decode cX8_seeds 19 = .ok (.if_icmp .ge 10, 3) := by decide +kernel
theorem dX8_seeds_22 : decode cX8_seeds 22 = .ok (.aload_n 0, 1) := by decide +kernel
theorem dX8_seeds_23 : decode cX8_seeds 23 = .ok (.bipush (-4), 2) := by decide +kernel
theorem dX8_seeds_25 : decode cX8_seeds 25 = .ok (.invokevirtual 85, 3) := by decide +kernel
theorem dX8_seeds_28 : decode cX8_seeds 28 = .ok (.ireturn, 1) := by decide +kernel
theorem dX8_seeds_29 : decode cX8_seeds 29 = .ok (.iload_n 2, 1) := by decide +kernel
theorem dX8_seeds_30 : decode cX8_seeds 30 = .ok (.bipush 20, 2) := by decide +kernel
theorem dX8_seeds_32 : decode cX8_seeds 32 = .ok (.if_icmp .le 10, 3) := by decide +kernel
theorem dX8_seeds_35 : decode cX8_seeds 35 = .ok (.aload_n 0, 1) := by decide +kernel
theorem dX8_seeds_36 : decode cX8_seeds 36 = .ok (.bipush (-6), 2) := by decide +kernel
theorem dX8_seeds_38 : decode cX8_seeds 38 = .ok (.invokevirtual 85, 3) := by decide +kernel
theorem dX8_seeds_41 : decode cX8_seeds 41 = .ok (.ireturn, 1) := by decide +kernel
theorem dX8_seeds_42 : decode cX8_seeds 42 = .ok (.iload 4, 2) := by decide +kernel
theorem dX8_seeds_44 : decode cX8_seeds 44 = .ok (.iconst 2, 1) := by decide +kernel
theorem dX8_seeds_45 : decode cX8_seeds 45 = .ok (.invokestatic 153, 3) := by decide +kernel
theorem dX8_seeds_48 : decode cX8_seeds 48 = .ok (.ifCond .ne 10, 3) := by decide +kernel
theorem dX8_seeds_51 : decode cX8_seeds 51 = .ok (.aload_n 0, 1) := by decide +kernel
theorem dX8_seeds_52 : decode cX8_seeds 52 = .ok (.bipush (-2), 2) := by decide +kernel
theorem dX8_seeds_54 : decode cX8_seeds 54 = .ok (.invokevirtual 85, 3) := by decide +kernel
theorem dX8_seeds_57 : decode cX8_seeds 57 = .ok (.ireturn, 1) := by decide +kernel
theorem dX8_seeds_58 : decode cX8_seeds 58 = .ok (.aload_n 0, 1) := by decide +kernel
theorem dX8_seeds_59 : decode cX8_seeds 59 = .ok (.getfield 54, 3) := by decide +kernel
theorem dX8_seeds_62 : decode cX8_seeds 62 = .ok (.aload_n 0, 1) := by decide +kernel
theorem dX8_seeds_63 : decode cX8_seeds 63 = .ok (.getfield 10, 3) := by decide +kernel
theorem dX8_seeds_66 : decode cX8_seeds 66 = .ok (.iload_n 1, 1) := by decide +kernel
theorem dX8_seeds_67 : decode cX8_seeds 67 = .ok (.invokevirtual 166, 3) := by decide +kernel
theorem dX8_seeds_70 : decode cX8_seeds 70 = .ok (.iload_n 3, 1) := by decide +kernel
theorem dX8_seeds_71 : decode cX8_seeds 71 = .ok (.istore 5, 2) := by decide +kernel
theorem dX8_seeds_73 : decode cX8_seeds 73 = .ok (.iconst 0, 1) := by decide +kernel
theorem dX8_seeds_74 : decode cX8_seeds 74 = .ok (.istore 6, 2) := by decide +kernel
theorem dX8_seeds_76 : decode cX8_seeds 76 = .ok (.iconst 0, 1) := by decide +kernel
theorem dX8_seeds_77 : decode cX8_seeds 77 = .ok (.istore 7, 2) := by decide +kernel
theorem dX8_seeds_79 : decode cX8_seeds 79 = .ok (.iconst 0, 1) := by decide +kernel
theorem dX8_seeds_80 : decode cX8_seeds 80 = .ok (.istore 8, 2) := by decide +kernel
theorem dX8_seeds_82 : decode cX8_seeds 82 = .ok (.iload 8, 2) := by decide +kernel
theorem dX8_seeds_84 : decode cX8_seeds 84 = .ok (.iload_n 2, 1) := by decide +kernel
theorem dX8_seeds_85 : decode cX8_seeds 85 = .ok (.if_icmp .ge 78, 3) := by decide +kernel
theorem dX8_seeds_88 : decode cX8_seeds 88 = .ok (.iload 6, 2) := by decide +kernel
theorem dX8_seeds_90 : decode cX8_seeds 90 = .ok (.istore 9, 2) := by decide +kernel
theorem dX8_seeds_92 : decode cX8_seeds 92 = .ok (.iconst 0, 1) := by decide +kernel
theorem dX8_seeds_93 : decode cX8_seeds 93 = .ok (.istore 10, 2) := by decide +kernel
theorem dX8_seeds_95 : decode cX8_seeds 95 = .ok (.iload 10, 2) := by decide +kernel
theorem dX8_seeds_97 : decode cX8_seeds 97 = .ok (.bipush 12, 2) := by decide +kernel
theorem dX8_seeds_99 : decode cX8_seeds 99 = .ok (.if_icmp .ge 48, 3) := by decide +kernel
theorem dX8_seeds_102 : decode cX8_seeds 102 = .ok (.iload 5, 2) := by decide +kernel
theorem dX8_seeds_104 : decode cX8_seeds 104 = .ok (.ldc_w 341, 3) := by decide +kernel
theorem dX8_seeds_107 : decode cX8_seeds 107 = .ok (.imul, 1) := by decide +kernel
theorem dX8_seeds_108 : decode cX8_seeds 108 = .ok (.sipush 12345, 3) := by decide +kernel
theorem dX8_seeds_111 : decode cX8_seeds 111 = .ok (.iadd, 1) := by decide +kernel
theorem dX8_seeds_112 : decode cX8_seeds 112 = .ok (.istore 5, 2) := by decide +kernel
theorem dX8_seeds_114 : decode cX8_seeds 114 = .ok (.aload_n 0, 1) := by decide +kernel
theorem dX8_seeds_115 : decode cX8_seeds 115 = .ok (.getfield 54, 3) := by decide +kernel
theorem dX8_seeds_118 : decode cX8_seeds 118 = .ok (.aload_n 0, 1) := by decide +kernel
theorem dX8_seeds_119 : decode cX8_seeds 119 = .ok (.getfield 54, 3) := by decide +kernel
theorem dX8_seeds_122 : decode cX8_seeds 122 = .ok (.getfield 173, 3) := by decide +kernel
theorem dX8_seeds_125 : decode cX8_seeds 125 = .ok (.iload 5, 2) := by decide +kernel
theorem dX8_seeds_127 : decode cX8_seeds 127 = .ok (.bipush 41, 2) := by decide +kernel
theorem dX8_seeds_129 : decode cX8_seeds 129 = .ok (.invokestatic 342, 3) := by decide +kernel
theorem dX8_seeds_132 : decode cX8_seeds 132 = .ok (.invokevirtual 345, 3) := by decide +kernel
theorem dX8_seeds_135 : decode cX8_seeds 135 = .ok (.ifCond .eq 6, 3) := by decide +kernel
theorem dX8_seeds_138 : decode cX8_seeds 138 = .ok (.iinc 6 1, 3) := by decide +kernel
theorem dX8_seeds_141 : decode cX8_seeds 141 = .ok (.iinc 10 1, 3) := by decide +kernel
theorem dX8_seeds_144 : decode cX8_seeds 144 = .ok (.goto (-49), 3) := by decide +kernel
theorem dX8_seeds_147 : decode cX8_seeds 147 = .ok (.iload 6, 2) := by decide +kernel
theorem dX8_seeds_149 : decode cX8_seeds 149 = .ok (.iload 9, 2) := by decide +kernel
theorem dX8_seeds_151 : decode cX8_seeds 151 = .ok (.if_icmp .ne 6, 3) := by decide +kernel
theorem dX8_seeds_154 : decode cX8_seeds 154 = .ok (.iinc 7 1, 3) := by decide +kernel
theorem dX8_seeds_157 : decode cX8_seeds 157 = .ok (.iinc 8 1, 3) := by decide +kernel
theorem dX8_seeds_160 : decode cX8_seeds 160 = .ok (.goto (-78), 3) := by decide +kernel
theorem dX8_seeds_163 : decode cX8_seeds 163 = .ok (.iload 4, 2) := by decide +kernel
theorem dX8_seeds_165 : decode cX8_seeds 165 = .ok (.ifCond .ne 8, 3) := by decide +kernel
theorem dX8_seeds_168 : decode cX8_seeds 168 = .ok (.iload 6, 2) := by decide +kernel
theorem dX8_seeds_170 : decode cX8_seeds 170 = .ok (.goto 5, 3) := by decide +kernel
theorem dX8_seeds_173 : decode cX8_seeds 173 = .ok (.iload 7, 2) := by decide +kernel
theorem dX8_seeds_175 : decode cX8_seeds 175 = .ok (.ireturn, 1) := by decide +kernel
theorem dX8_drawBelow_0 : decode cX8_drawBelow 0 = .ok (.iload_n 1, 1) := by decide +kernel
theorem dX8_drawBelow_1 : decode cX8_drawBelow 1 = .ok (.iconst 1, 1) := by decide +kernel
theorem dX8_drawBelow_2 : decode cX8_drawBelow 2 = .ok (.if_icmp .ge 7, 3) := by decide +kernel
theorem dX8_drawBelow_5 : decode cX8_drawBelow 5 = .ok (.iconst 0, 1) := by decide +kernel
theorem dX8_drawBelow_6 : decode cX8_drawBelow 6 = .ok (.goto 14, 3) := by decide +kernel
theorem dX8_drawBelow_9 : decode cX8_drawBelow 9 = .ok (.iload_n 0, 1) := by decide +kernel
theorem dX8_drawBelow_10 : decode cX8_drawBelow 10 = .ok (.ldc_w 348, 3) := by decide +kernel
theorem dX8_drawBelow_13 : decode cX8_drawBelow 13 = .ok (.iand, 1) := by decide +kernel
theorem dX8_drawBelow_14 : decode cX8_drawBelow 14 = .ok (.ldc_w 349, 3) := by decide +kernel
theorem dX8_drawBelow_17 : decode cX8_drawBelow 17 = .ok (.idiv, 1) := by decide +kernel
theorem dX8_drawBelow_18 : decode cX8_drawBelow 18 = .ok (.iload_n 1, 1) := by decide +kernel
theorem dX8_drawBelow_19 : decode cX8_drawBelow 19 = .ok (.irem, 1) := by decide +kernel
theorem dX8_drawBelow_20 : decode cX8_drawBelow 20 = .ok (.ireturn, 1) := by decide +kernel
theorem dX8_back_0 : decode cX8_back 0 = .ok (.aload_n 0, 1) := by decide +kernel
theorem dX8_back_1 : decode cX8_back 1 = .ok (.getfield 43, 3) := by decide +kernel
theorem dX8_back_4 : decode cX8_back 4 = .ok (.getfield 115, 3) := by decide +kernel
theorem dX8_back_7 : decode cX8_back 7 = .ok (.ifCond .ne 10, 3) := by decide +kernel
theorem dX8_back_10 : decode cX8_back 10 = .ok (.aload_n 0, 1) := by decide +kernel
theorem dX8_back_11 : decode cX8_back 11 = .ok (.bipush (-3), 2) := by decide +kernel
theorem dX8_back_13 : decode cX8_back 13 = .ok (.invokevirtual 85, 3) := by decide +kernel
theorem dX8_back_16 : decode cX8_back 16 = .ok (.ireturn, 1) := by decide +kernel
theorem dX8_back_17 : decode cX8_back 17 = .ok (.aload_n 0, 1) := by decide +kernel
theorem dX8_back_18 : decode cX8_back 18 = .ok (.getfield 43, 3) := by decide +kernel
theorem dX8_back_21 : decode cX8_back 21 = .ok (.invokevirtual 350, 3) := by decide +kernel
theorem dX8_back_24 : decode cX8_back 24 = .ok (.istore_n 1, 1) := by decide +kernel
theorem dX8_back_25 : decode cX8_back 25 = .ok (.aload_n 0, 1) := by decide +kernel
theorem dX8_back_26 : decode cX8_back 26 = .ok (.getfield 10, 3) := by decide +kernel
theorem dX8_back_29 : decode cX8_back 29 = .ok (.iload_n 1, 1) := by decide +kernel
theorem dX8_back_30 : decode cX8_back 30 = .ok (.iconst 4, 1) := by decide +kernel
theorem dX8_back_31 : decode cX8_back 31 = .ok (.aload_n 0, 1) := by decide +kernel
theorem dX8_back_32 : decode cX8_back 32 = .ok (.getfield 43, 3) := by decide +kernel
theorem dX8_back_35 : decode cX8_back 35 = .ok (.invokevirtual 353, 3) := by decide +kernel
theorem dX8_back_38 : decode cX8_back 38 = .ok (.invokevirtual 149, 3) := by decide +kernel
theorem dX8_back_41 : decode cX8_back 41 = .ok (.aload_n 0, 1) := by decide +kernel
theorem dX8_back_42 : decode cX8_back 42 = .ok (.getfield 43, 3) := by decide +kernel
theorem dX8_back_45 : decode cX8_back 45 = .ok (.dup, 1) := by decide +kernel
theorem dX8_back_46 : decode cX8_back 46 = .ok (.getfield 115, 3) := by decide +kernel
theorem dX8_back_49 : decode cX8_back 49 = .ok (.iconst 1, 1) := by decide +kernel
theorem dX8_back_50 : decode cX8_back 50 = .ok (.isub, 1) := by decide +kernel
theorem dX8_back_51 : decode cX8_back 51 = .ok (.putfield 115, 3) := by decide +kernel
theorem dX8_back_54 : decode cX8_back 54 = .ok (.iload_n 1, 1) := by decide +kernel
theorem dX8_back_55 : decode cX8_back 55 = .ok (.ireturn, 1) := by decide +kernel
theorem dX8_spring_0 : decode cX8_spring 0 = .ok (.iload_n 1, 1) := by decide +kernel
theorem dX8_spring_1 : decode cX8_spring 1 = .ok (.ifCond .ge 10, 3) := by decide +kernel
theorem dX8_spring_4 : decode cX8_spring 4 = .ok (.aload_n 0, 1) := by decide +kernel
theorem dX8_spring_5 : decode cX8_spring 5 = .ok (.bipush (-4), 2) := by decide +kernel
theorem dX8_spring_7 : decode cX8_spring 7 = .ok (.invokevirtual 85, 3) := by decide +kernel
theorem dX8_spring_10 : decode cX8_spring 10 = .ok (.ireturn, 1) := by decide +kernel
theorem dX8_spring_11 : decode cX8_spring 11 = .ok (.iload_n 1, 1) := by decide +kernel
theorem dX8_spring_12 : decode cX8_spring 12 = .ok (.bipush 9, 2) := by decide +kernel
theorem dX8_spring_14 : decode cX8_spring 14 = .ok (.if_icmp .le 10, 3) := by decide +kernel
theorem dX8_spring_17 : decode cX8_spring 17 = .ok (.aload_n 0, 1) := by decide +kernel
theorem dX8_spring_18 : decode cX8_spring 18 = .ok (.bipush (-6), 2) := by decide +kernel
theorem dX8_spring_20 : decode cX8_spring 20 = .ok (.invokevirtual 85, 3) := by decide +kernel
theorem dX8_spring_23 : decode cX8_spring 23 = .ok (.ireturn, 1) := by decide +kernel
theorem dX8_spring_24 : decode cX8_spring 24 = .ok (.aload_n 0, 1) := by decide +kernel
theorem dX8_spring_25 : decode cX8_spring 25 = .ok (.getfield 10, 3) := by decide +kernel
theorem dX8_spring_28 : decode cX8_spring 28 = .ok (.getfield 356, 3) := by decide +kernel
theorem dX8_spring_31 : decode cX8_spring 31 = .ok (.istore_n 2, 1) := by decide +kernel
theorem dX8_spring_32 : decode cX8_spring 32 = .ok (.aload_n 0, 1) := by decide +kernel
theorem dX8_spring_33 : decode cX8_spring 33 = .ok (.getfield 10, 3) := by decide +kernel
theorem dX8_spring_36 : decode cX8_spring 36 = .ok (.iload_n 1, 1) := by decide +kernel
theorem dX8_spring_37 : decode cX8_spring 37 = .ok (.putfield 356, 3) := by decide +kernel
theorem dX8_spring_40 : decode cX8_spring 40 = .ok (.iload_n 2, 1) := by decide +kernel
theorem dX8_spring_41 : decode cX8_spring 41 = .ok (.ireturn, 1) := by decide +kernel
theorem dX8_swells_0 : decode cX8_swells 0 = .ok (.iload_n 1, 1) := by decide +kernel
theorem dX8_swells_1 : decode cX8_swells 1 = .ok (.invokestatic 116, 3) := by decide +kernel
theorem dX8_swells_4 : decode cX8_swells 4 = .ok (.ifCond .ne 9, 3) := by decide +kernel
theorem dX8_swells_7 : decode cX8_swells 7 = .ok (.aload_n 0, 1) := by decide +kernel
theorem dX8_swells_8 : decode cX8_swells 8 = .ok (.iconst (-1), 1) := by decide +kernel
theorem dX8_swells_9 : decode cX8_swells 9 = .ok (.invokevirtual 85, 3) := by decide +kernel
theorem dX8_swells_12 : decode cX8_swells 12 = .ok (.ireturn, 1) := by decide +kernel
theorem dX8_swells_13 : decode cX8_swells 13 = .ok (.iload_n 2, 1) := by decide +kernel
theorem dX8_swells_14 : decode cX8_swells 14 = .ok (.ifCond .ge 10, 3) := by decide +kernel
theorem dX8_swells_17 : decode cX8_swells 17 = .ok (.aload_n 0, 1) := by decide +kernel
theorem dX8_swells_18 : decode cX8_swells 18 = .ok (.bipush (-4), 2) := by decide +kernel
theorem dX8_swells_20 : decode cX8_swells 20 = .ok (.invokevirtual 85, 3) := by decide +kernel
theorem dX8_swells_23 : decode cX8_swells 23 = .ok (.ireturn, 1) := by decide +kernel
theorem dX8_swells_24 : decode cX8_swells 24 = .ok (.iload_n 2, 1) := by decide +kernel
theorem dX8_swells_25 : decode cX8_swells 25 = .ok (.bipush 14, 2) := by decide +kernel
theorem dX8_swells_27 : decode cX8_swells 27 = .ok (.if_icmp .lt 10, 3) := by decide +kernel
theorem dX8_swells_30 : decode cX8_swells 30 = .ok (.aload_n 0, 1) := by decide +kernel
theorem dX8_swells_31 : decode cX8_swells 31 = .ok (.bipush (-6), 2) := by decide +kernel
theorem dX8_swells_33 : decode cX8_swells 33 = .ok (.invokevirtual 85, 3) := by decide +kernel
theorem dX8_swells_36 : decode cX8_swells 36 = .ok (.ireturn, 1) := by decide +kernel
theorem dX8_swells_37 : decode cX8_swells 37 = .ok (.aload_n 0, 1) := by decide +kernel
theorem dX8_swells_38 : decode cX8_swells 38 = .ok (.getfield 10, 3) := by decide +kernel
theorem dX8_swells_41 : decode cX8_swells 41 = .ok (.iload_n 1, 1) := by decide +kernel
theorem dX8_swells_42 : decode cX8_swells 42 = .ok (.iload_n 2, 1) := by decide +kernel
theorem dX8_swells_43 : decode cX8_swells 43 = .ok (.invokevirtual 359, 3) := by decide +kernel
theorem dX8_swells_46 : decode cX8_swells 46 = .ok (.ireturn, 1) := by decide +kernel
theorem dX8_fortnight_0 : decode cX8_fortnight 0 = .ok (.aload_n 0, 1) := by decide +kernel
theorem dX8_fortnight_1 : decode cX8_fortnight 1 = .ok (.getfield 10, 3) := by decide +kernel
theorem dX8_fortnight_4 : decode cX8_fortnight 4 = .ok (.iload_n 1, 1) := by decide +kernel
theorem dX8_fortnight_5 : decode cX8_fortnight 5 = .ok (.invokevirtual 140, 3) := by decide +kernel
theorem dX8_fortnight_8 : decode cX8_fortnight 8 = .ok (.ifCond .ne 9, 3) := by decide +kernel
theorem dX8_fortnight_11 : decode cX8_fortnight 11 = .ok (.aload_n 0, 1) := by decide +kernel
theorem dX8_fortnight_12 : decode cX8_fortnight 12 = .ok (.iconst (-1), 1) := by decide +kernel
theorem dX8_fortnight_13 : decode cX8_fortnight 13 = .ok (.invokevirtual 85, 3) := by decide +kernel
theorem dX8_fortnight_16 : decode cX8_fortnight 16 = .ok (.ireturn, 1) := by decide +kernel
theorem dX8_fortnight_17 : decode cX8_fortnight 17 = .ok (.iload_n 2, 1) := by decide +kernel
theorem dX8_fortnight_18 : decode cX8_fortnight 18 = .ok (.iconst 3, 1) := by decide +kernel
theorem dX8_fortnight_19 : decode cX8_fortnight 19 = .ok (.invokestatic 153, 3) := by decide +kernel
theorem dX8_fortnight_22 : decode cX8_fortnight 22 = .ok (.ifCond .ne 10, 3) := by decide +kernel
theorem dX8_fortnight_25 : decode cX8_fortnight 25 = .ok (.aload_n 0, 1) := by decide +kernel
theorem dX8_fortnight_26 : decode cX8_fortnight 26 = .ok (.bipush (-2), 2) := by decide +kernel
theorem dX8_fortnight_28 : decode cX8_fortnight 28 = .ok (.invokevirtual 85, 3) := by decide +kernel
theorem dX8_fortnight_31 : decode cX8_fortnight 31 = .ok (.ireturn, 1) := by decide +kernel
theorem dX8_fortnight_32 : decode cX8_fortnight 32 = .ok (.aload_n 0, 1) := by decide +kernel
theorem dX8_fortnight_33 : decode cX8_fortnight 33 = .ok (.getfield 54, 3) := by decide +kernel
theorem dX8_fortnight_36 : decode cX8_fortnight 36 = .ok (.aload_n 0, 1) := by decide +kernel
theorem dX8_fortnight_37 : decode cX8_fortnight 37 = .ok (.getfield 10, 3) := by decide +kernel
theorem dX8_fortnight_40 : decode cX8_fortnight 40 = .ok (.iload_n 1, 1) := by decide +kernel
theorem dX8_fortnight_41 : decode cX8_fortnight 41 = .ok (.invokevirtual 166, 3) := by decide +kernel
theorem dX8_fortnight_44 : decode cX8_fortnight 44 = .ok (.iconst 0, 1) := by decide +kernel
theorem dX8_fortnight_45 : decode cX8_fortnight 45 = .ok (.istore_n 3, 1) := by decide +kernel
theorem dX8_fortnight_46 : decode cX8_fortnight 46 = .ok (.bipush (-9), 2) := by decide +kernel
theorem dX8_fortnight_48 : decode cX8_fortnight 48 = .ok (.istore 4, 2) := by decide +kernel
theorem dX8_fortnight_50 : decode cX8_fortnight 50 = .ok (.iconst 0, 1) := by decide +kernel
theorem dX8_fortnight_51 : decode cX8_fortnight 51 = .ok (.istore 5, 2) := by decide +kernel
theorem dX8_fortnight_53 : decode cX8_fortnight 53 = .ok (.bipush 13, 2) := by decide +kernel
theorem dX8_fortnight_55 : decode cX8_fortnight 55 = .ok (.istore 6, 2) := by decide +kernel
theorem dX8_fortnight_57 : decode cX8_fortnight 57 = .ok (.iload 6, 2) := by decide +kernel
theorem dX8_fortnight_59 : decode cX8_fortnight 59 = .ok (.ifCond .lt 49, 3) := by decide +kernel
theorem dX8_fortnight_62 : decode cX8_fortnight 62 = .ok (.aload_n 0, 1) := by decide +kernel
theorem dX8_fortnight_63 : decode cX8_fortnight 63 = .ok (.iload 6, 2) := by decide +kernel
theorem dX8_fortnight_65 : decode cX8_fortnight 65 = .ok (.invokevirtual 362, 3) := by decide +kernel
theorem dX8_fortnight_68 : decode cX8_fortnight 68 = .ok (.istore 7, 2) := by decide +kernel
theorem dX8_fortnight_70 : decode cX8_fortnight 70 = .ok (.iload 5, 2) := by decide +kernel
theorem dX8_fortnight_72 : decode cX8_fortnight 72 = .ok (.iload 7, 2) := by decide +kernel
theorem dX8_fortnight_74 : decode cX8_fortnight 74 = .ok (.invokestatic 214, 3) := by decide +kernel
theorem dX8_fortnight_77 : decode cX8_fortnight 77 = .ok (.istore 5, 2) := by decide +kernel
theorem dX8_fortnight_79 : decode cX8_fortnight 79 = .ok (.aload_n 0, 1) := by decide +kernel
theorem dX8_fortnight_80 : decode cX8_fortnight 80 = .ok (.getfield 54, 3) := by decide +kernel
theorem dX8_fortnight_83 : decode cX8_fortnight 83 = .ok (.getfield 173, 3) := by decide +kernel
theorem dX8_fortnight_86 : decode cX8_fortnight 86 = .ok (.iload 7, 2) := by decide +kernel
theorem dX8_fortnight_88 : decode cX8_fortnight 88 = .ok (.if_icmp .ge 14, 3) := by decide +kernel
theorem dX8_fortnight_91 : decode cX8_fortnight 91 = .ok (.iload_n 3, 1) := by decide +kernel
theorem dX8_fortnight_92 : decode cX8_fortnight 92 = .ok (.iconst 1, 1) := by decide +kernel
theorem dX8_fortnight_93 : decode cX8_fortnight 93 = .ok (.iload 6, 2) := by decide +kernel
theorem dX8_fortnight_95 : decode cX8_fortnight 95 = .ok (.ishl, 1) := by decide +kernel
theorem dX8_fortnight_96 : decode cX8_fortnight 96 = .ok (.ior, 1) := by decide +kernel
theorem dX8_fortnight_97 : decode cX8_fortnight 97 = .ok (.istore_n 3, 1) := by decide +kernel
theorem dX8_fortnight_98 : decode cX8_fortnight 98 = .ok (.iload 6, 2) := by decide +kernel
theorem dX8_fortnight_100 : decode cX8_fortnight 100 = .ok (.istore 4, 2) := by decide +kernel
theorem dX8_fortnight_102 : decode cX8_fortnight 102 = .ok (.iinc 6 (-1), 3) := by decide +kernel
theorem dX8_fortnight_105 : decode cX8_fortnight 105 = .ok (.goto (-48), 3) := by decide +kernel
theorem dX8_fortnight_108 : decode cX8_fortnight 108 = .ok (.iload_n 2, 1) := by decide +kernel
theorem dX8_fortnight_109 : decode cX8_fortnight 109 = .ok (.ifCond .ne 5, 3) := by decide +kernel
theorem dX8_fortnight_112 : decode cX8_fortnight 112 = .ok (.iload_n 3, 1) := by decide +kernel
theorem dX8_fortnight_113 : decode cX8_fortnight 113 = .ok (.ireturn, 1) := by decide +kernel
theorem dX8_fortnight_114 : decode cX8_fortnight 114 = .ok (.iload_n 2, 1) := by decide +kernel
theorem dX8_fortnight_115 : decode cX8_fortnight 115 = .ok (.iconst 1, 1) := by decide +kernel
theorem dX8_fortnight_116 : decode cX8_fortnight 116 = .ok (.if_icmp .ne 8, 3) := by decide +kernel
theorem dX8_fortnight_119 : decode cX8_fortnight 119 = .ok (.iload 4, 2) := by decide +kernel
theorem dX8_fortnight_121 : decode cX8_fortnight 121 = .ok (.goto 8, 3) := by decide +kernel
theorem dX8_fortnight_124 : decode cX8_fortnight 124 = .ok (.iload 5, 2) := by decide +kernel
theorem dX8_fortnight_126 : decode cX8_fortnight 126 = .ok (.invokestatic 208, 3) := by decide +kernel
theorem dX8_fortnight_129 : decode cX8_fortnight 129 = .ok (.ireturn, 1) := by decide +kernel
theorem dX8_leastOnDay_0 : decode cX8_leastOnDay 0 = .ok (.iconst 0, 1) := by decide +kernel
theorem dX8_leastOnDay_1 : decode cX8_leastOnDay 1 = .ok (.istore_n 2, 1) := by decide +kernel
theorem dX8_leastOnDay_2 : decode cX8_leastOnDay 2 = .ok (.iconst 0, 1) := by decide +kernel
theorem dX8_leastOnDay_3 : decode cX8_leastOnDay 3 = .ok (.istore_n 3, 1) := by decide +kernel
theorem dX8_leastOnDay_4 : decode cX8_leastOnDay 4 = .ok (.iload_n 3, 1) := by decide +kernel
theorem dX8_leastOnDay_5 : decode cX8_leastOnDay 5 = .ok (.bipush 12, 2) := by decide +kernel
theorem dX8_leastOnDay_7 : decode cX8_leastOnDay 7 = .ok (.if_icmp .ge 30, 3) := by decide +kernel
theorem dX8_leastOnDay_10 : decode cX8_leastOnDay 10 = .ok (.iload_n 2, 1) := by decide +kernel
theorem dX8_leastOnDay_11 : decode cX8_leastOnDay 11 = .ok (.aload_n 0, 1) := by decide +kernel
theorem dX8_leastOnDay_12 : decode cX8_leastOnDay 12 = .ok (.getfield 54, 3) := by decide +kernel
theorem dX8_leastOnDay_15 : decode cX8_leastOnDay 15 = .ok (.aload_n 0, 1) := by decide +kernel
theorem dX8_leastOnDay_16 : decode cX8_leastOnDay 16 = .ok (.getfield 10, 3) := by decide +kernel
theorem dX8_leastOnDay_19 : decode cX8_leastOnDay 19 = .ok (.iload_n 3, 1) := by decide +kernel
theorem dX8_leastOnDay_20 : decode cX8_leastOnDay 20 = .ok (.iload_n 1, 1) := by decide +kernel
theorem dX8_leastOnDay_21 : decode cX8_leastOnDay 21 = .ok (.invokevirtual 359, 3) := by decide +kernel
theorem dX8_leastOnDay_24 : decode cX8_leastOnDay 24 = .ok (.invokevirtual 365, 3) := by decide +kernel
theorem dX8_leastOnDay_27 : decode cX8_leastOnDay 27 = .ok (.invokestatic 214, 3) := by decide +kernel
theorem dX8_leastOnDay_30 : decode cX8_leastOnDay 30 = .ok (.istore_n 2, 1) := by decide +kernel
theorem dX8_leastOnDay_31 : decode cX8_leastOnDay 31 = .ok (.iinc 3 1, 3) := by decide +kernel
theorem dX8_leastOnDay_34 : decode cX8_leastOnDay 34 = .ok (.goto (-30), 3) := by decide +kernel
theorem dX8_leastOnDay_37 : decode cX8_leastOnDay 37 = .ok (.iload_n 2, 1) := by decide +kernel
theorem dX8_leastOnDay_38 : decode cX8_leastOnDay 38 = .ok (.ireturn, 1) := by decide +kernel
theorem dX8_watch_0 : decode cX8_watch 0 = .ok (.aload_n 0, 1) := by decide +kernel
theorem dX8_watch_1 : decode cX8_watch 1 = .ok (.getfield 10, 3) := by decide +kernel
theorem dX8_watch_4 : decode cX8_watch 4 = .ok (.iload_n 1, 1) := by decide +kernel
theorem dX8_watch_5 : decode cX8_watch 5 = .ok (.invokevirtual 140, 3) := by decide +kernel
theorem dX8_watch_8 : decode cX8_watch 8 = .ok (.ifCond .ne 9, 3) := by decide +kernel
theorem dX8_watch_11 : decode cX8_watch 11 = .ok (.aload_n 0, 1) := by decide +kernel
theorem dX8_watch_12 : decode cX8_watch 12 = .ok (.iconst (-1), 1) := by decide +kernel
theorem dX8_watch_13 : decode cX8_watch 13 = .ok (.invokevirtual 85, 3) := by decide +kernel
theorem dX8_watch_16 : decode cX8_watch 16 = .ok (.ireturn, 1) := by decide +kernel
theorem dX8_watch_17 : decode cX8_watch 17 = .ok (.iload_n 2, 1) := by decide +kernel
theorem dX8_watch_18 : decode cX8_watch 18 = .ok (.iconst 1, 1) := by decide +kernel
theorem dX8_watch_19 : decode cX8_watch 19 = .ok (.if_icmp .ge 10, 3) := by decide +kernel
theorem dX8_watch_22 : decode cX8_watch 22 = .ok (.aload_n 0, 1) := by decide +kernel
theorem dX8_watch_23 : decode cX8_watch 23 = .ok (.bipush (-4), 2) := by decide +kernel
theorem dX8_watch_25 : decode cX8_watch 25 = .ok (.invokevirtual 85, 3) := by decide +kernel
theorem dX8_watch_28 : decode cX8_watch 28 = .ok (.ireturn, 1) := by decide +kernel
theorem dX8_watch_29 : decode cX8_watch 29 = .ok (.iload_n 2, 1) := by decide +kernel
theorem dX8_watch_30 : decode cX8_watch 30 = .ok (.bipush 6, 2) := by decide +kernel
theorem dX8_watch_32 : decode cX8_watch 32 = .ok (.if_icmp .le 10, 3) := by decide +kernel
theorem dX8_watch_35 : decode cX8_watch 35 = .ok (.aload_n 0, 1) := by decide +kernel
theorem dX8_watch_36 : decode cX8_watch 36 = .ok (.bipush (-6), 2) := by decide +kernel
theorem dX8_watch_38 : decode cX8_watch 38 = .ok (.invokevirtual 85, 3) := by decide +kernel
theorem dX8_watch_41 : decode cX8_watch 41 = .ok (.ireturn, 1) := by decide +kernel
theorem dX8_watch_42 : decode cX8_watch 42 = .ok (.aload_n 0, 1) := by decide +kernel
theorem dX8_watch_43 : decode cX8_watch 43 = .ok (.getfield 54, 3) := by decide +kernel
theorem dX8_watch_46 : decode cX8_watch 46 = .ok (.aload_n 0, 1) := by decide +kernel
theorem dX8_watch_47 : decode cX8_watch 47 = .ok (.getfield 10, 3) := by decide +kernel
theorem dX8_watch_50 : decode cX8_watch 50 = .ok (.iload_n 1, 1) := by decide +kernel
theorem dX8_watch_51 : decode cX8_watch 51 = .ok (.invokevirtual 166, 3) := by decide +kernel
theorem dX8_watch_54 : decode cX8_watch 54 = .ok (.aload_n 0, 1) := by decide +kernel
theorem dX8_watch_55 : decode cX8_watch 55 = .ok (.getfield 64, 3) := by decide +kernel
theorem dX8_watch_58 : decode cX8_watch 58 = .ok (.aload_n 0, 1) := by decide +kernel
theorem dX8_watch_59 : decode cX8_watch 59 = .ok (.getfield 54, 3) := by decide +kernel
theorem dX8_watch_62 : decode cX8_watch 62 = .ok (.aload_n 0, 1) := by decide +kernel
theorem dX8_watch_63 : decode cX8_watch 63 = .ok (.getfield 10, 3) := by decide +kernel
theorem dX8_watch_66 : decode cX8_watch 66 = .ok (.getfield 188, 3) := by decide +kernel
theorem dX8_watch_69 : decode cX8_watch 69 = .ok (.invokevirtual 201, 3) := by decide +kernel
theorem dX8_watch_72 : decode cX8_watch 72 = .ok (.aload_n 0, 1) := by decide +kernel
theorem dX8_watch_73 : decode cX8_watch 73 = .ok (.getfield 64, 3) := by decide +kernel
theorem dX8_watch_76 : decode cX8_watch 76 = .ok (.iload_n 2, 1) := by decide +kernel
theorem dX8_watch_77 : decode cX8_watch 77 = .ok (.invokevirtual 368, 3) := by decide +kernel
theorem dX8_watch_80 : decode cX8_watch 80 = .ok (.ireturn, 1) := by decide +kernel
theorem dX8_seldom_0 : decode cX8_seldom 0 = .ok (.aload_n 0, 1) := by decide +kernel
theorem dX8_seldom_1 : decode cX8_seldom 1 = .ok (.getfield 10, 3) := by decide +kernel
theorem dX8_seldom_4 : decode cX8_seldom 4 = .ok (.iload_n 1, 1) := by decide +kernel
theorem dX8_seldom_5 : decode cX8_seldom 5 = .ok (.invokevirtual 140, 3) := by decide +kernel
theorem dX8_seldom_8 : decode cX8_seldom 8 = .ok (.ifCond .ne 9, 3) := by decide +kernel
theorem dX8_seldom_11 : decode cX8_seldom 11 = .ok (.aload_n 0, 1) := by decide +kernel
theorem dX8_seldom_12 : decode cX8_seldom 12 = .ok (.iconst (-1), 1) := by decide +kernel
theorem dX8_seldom_13 : decode cX8_seldom 13 = .ok (.invokevirtual 85, 3) := by decide +kernel
theorem dX8_seldom_16 : decode cX8_seldom 16 = .ok (.ireturn, 1) := by decide +kernel
theorem dX8_seldom_17 : decode cX8_seldom 17 = .ok (.aload_n 0, 1) := by decide +kernel
theorem dX8_seldom_18 : decode cX8_seldom 18 = .ok (.getfield 54, 3) := by decide +kernel
theorem dX8_seldom_21 : decode cX8_seldom 21 = .ok (.aload_n 0, 1) := by decide +kernel
theorem dX8_seldom_22 : decode cX8_seldom 22 = .ok (.getfield 10, 3) := by decide +kernel
theorem dX8_seldom_25 : decode cX8_seldom 25 = .ok (.iload_n 1, 1) := by decide +kernel
theorem dX8_seldom_26 : decode cX8_seldom 26 = .ok (.invokevirtual 166, 3) := by decide +kernel
theorem dX8_seldom_29 : decode cX8_seldom 29 = .ok (.aload_n 0, 1) := by decide +kernel
theorem dX8_seldom_30 : decode cX8_seldom 30 = .ok (.getfield 64, 3) := by decide +kernel
theorem dX8_seldom_33 : decode cX8_seldom 33 = .ok (.aload_n 0, 1) := by decide +kernel
theorem dX8_seldom_34 : decode cX8_seldom 34 = .ok (.getfield 54, 3) := by decide +kernel
theorem dX8_seldom_37 : decode cX8_seldom 37 = .ok (.aload_n 0, 1) := by decide +kernel
theorem dX8_seldom_38 : decode cX8_seldom 38 = .ok (.getfield 10, 3) := by decide +kernel
theorem dX8_seldom_41 : decode cX8_seldom 41 = .ok (.getfield 188, 3) := by decide +kernel
theorem dX8_seldom_44 : decode cX8_seldom 44 = .ok (.invokevirtual 201, 3) := by decide +kernel
theorem dX8_seldom_47 : decode cX8_seldom 47 = .ok (.bipush 6, 2) := by decide +kernel
theorem dX8_seldom_49 : decode cX8_seldom 49 = .ok (.istore_n 2, 1) := by decide +kernel
theorem dX8_seldom_50 : decode cX8_seldom 50 = .ok (.iload_n 2, 1) := by decide +kernel
theorem dX8_seldom_51 : decode cX8_seldom 51 = .ok (.iconst 1, 1) := by decide +kernel
theorem dX8_seldom_52 : decode cX8_seldom 52 = .ok (.if_icmp .lt 24, 3) := by decide +kernel
theorem dX8_seldom_55 : decode cX8_seldom 55 = .ok (.aload_n 0, 1) := by decide +kernel
theorem dX8_seldom_56 : decode cX8_seldom 56 = .ok (.getfield 64, 3) := by decide +kernel
theorem dX8_seldom_59 : decode cX8_seldom 59 = .ok (.iload_n 2, 1) := by decide +kernel
theorem dX8_seldom_60 : decode cX8_seldom 60 = .ok (.invokevirtual 368, 3) := by decide +kernel
theorem dX8_seldom_63 : decode cX8_seldom 63 = .ok (.bipush (-9), 2) := by decide +kernel
theorem dX8_seldom_65 : decode cX8_seldom 65 = .ok (.if_icmp .eq 5, 3) := by decide +kernel
theorem dX8_seldom_68 : decode cX8_seldom 68 = .ok (.iload_n 2, 1) := by decide +kernel
theorem dX8_seldom_69 : decode cX8_seldom 69 = .ok (.ireturn, 1) := by decide +kernel
theorem dX8_seldom_70 : decode cX8_seldom 70 = .ok (.iinc 2 (-1), 3) := by decide +kernel
theorem dX8_seldom_73 : decode cX8_seldom 73 = .ok (.goto (-23), 3) := by decide +kernel
theorem dX8_seldom_76 : decode cX8_seldom 76 = .ok (.bipush (-9), 2) := by decide +kernel
theorem dX8_seldom_78 : decode cX8_seldom 78 = .ok (.ireturn, 1) := by decide +kernel
theorem dX8_wake_0 : decode cX8_wake 0 = .ok (.aload_n 0, 1) := by decide +kernel
theorem dX8_wake_1 : decode cX8_wake 1 = .ok (.getfield 10, 3) := by decide +kernel
theorem dX8_wake_4 : decode cX8_wake 4 = .ok (.iload_n 1, 1) := by decide +kernel
theorem dX8_wake_5 : decode cX8_wake 5 = .ok (.invokevirtual 140, 3) := by decide +kernel
theorem dX8_wake_8 : decode cX8_wake 8 = .ok (.ifCond .ne 9, 3) := by decide +kernel
theorem dX8_wake_11 : decode cX8_wake 11 = .ok (.aload_n 0, 1) := by decide +kernel
theorem dX8_wake_12 : decode cX8_wake 12 = .ok (.iconst (-1), 1) := by decide +kernel
theorem dX8_wake_13 : decode cX8_wake 13 = .ok (.invokevirtual 85, 3) := by decide +kernel
theorem dX8_wake_16 : decode cX8_wake 16 = .ok (.ireturn, 1) := by decide +kernel
theorem dX8_wake_17 : decode cX8_wake 17 = .ok (.iload_n 2, 1) := by decide +kernel
theorem dX8_wake_18 : decode cX8_wake 18 = .ok (.ifCond .ge 10, 3) := by decide +kernel
theorem dX8_wake_21 : decode cX8_wake 21 = .ok (.aload_n 0, 1) := by decide +kernel
theorem dX8_wake_22 : decode cX8_wake 22 = .ok (.bipush (-4), 2) := by decide +kernel
theorem dX8_wake_24 : decode cX8_wake 24 = .ok (.invokevirtual 85, 3) := by decide +kernel
theorem dX8_wake_27 : decode cX8_wake 27 = .ok (.ireturn, 1) := by decide +kernel
theorem dX8_wake_28 : decode cX8_wake 28 = .ok (.iload_n 2, 1) := by decide +kernel
theorem dX8_wake_29 : decode cX8_wake 29 = .ok (.iconst 3, 1) := by decide +kernel
theorem dX8_wake_30 : decode cX8_wake 30 = .ok (.if_icmp .le 10, 3) := by decide +kernel
theorem dX8_wake_33 : decode cX8_wake 33 = .ok (.aload_n 0, 1) := by decide +kernel
theorem dX8_wake_34 : decode cX8_wake 34 = .ok (.bipush (-6), 2) := by decide +kernel
theorem dX8_wake_36 : decode cX8_wake 36 = .ok (.invokevirtual 85, 3) := by decide +kernel
theorem dX8_wake_39 : decode cX8_wake 39 = .ok (.ireturn, 1) := by decide +kernel
theorem dX8_wake_40 : decode cX8_wake 40 = .ok (.aload_n 0, 1) := by decide +kernel
theorem dX8_wake_41 : decode cX8_wake 41 = .ok (.getfield 54, 3) := by decide +kernel
theorem dX8_wake_44 : decode cX8_wake 44 = .ok (.aload_n 0, 1) := by decide +kernel
theorem dX8_wake_45 : decode cX8_wake 45 = .ok (.getfield 10, 3) := by decide +kernel
theorem dX8_wake_48 : decode cX8_wake 48 = .ok (.iload_n 1, 1) := by decide +kernel
theorem dX8_wake_49 : decode cX8_wake 49 = .ok (.invokevirtual 166, 3) := by decide +kernel
theorem dX8_wake_52 : decode cX8_wake 52 = .ok (.aload_n 0, 1) := by decide +kernel
theorem dX8_wake_53 : decode cX8_wake 53 = .ok (.getfield 64, 3) := by decide +kernel
theorem dX8_wake_56 : decode cX8_wake 56 = .ok (.aload_n 0, 1) := by decide +kernel
theorem dX8_wake_57 : decode cX8_wake 57 = .ok (.getfield 54, 3) := by decide +kernel
theorem dX8_wake_60 : decode cX8_wake 60 = .ok (.aload_n 0, 1) := by decide +kernel
theorem dX8_wake_61 : decode cX8_wake 61 = .ok (.getfield 10, 3) := by decide +kernel
theorem dX8_wake_64 : decode cX8_wake 64 = .ok (.getfield 188, 3) := by decide +kernel
theorem dX8_wake_67 : decode cX8_wake 67 = .ok (.invokevirtual 201, 3) := by decide +kernel
theorem dX8_wake_70 : decode cX8_wake 70 = .ok (.aload_n 0, 1) := by decide +kernel
theorem dX8_wake_71 : decode cX8_wake 71 = .ok (.getfield 64, 3) := by decide +kernel
theorem dX8_wake_74 : decode cX8_wake 74 = .ok (.iload_n 2, 1) := by decide +kernel
theorem dX8_wake_75 : decode cX8_wake 75 = .ok (.invokevirtual 371, 3) := by decide +kernel
theorem dX8_wake_78 : decode cX8_wake 78 = .ok (.ireturn, 1) := by decide +kernel
theorem dX8_image_0 : decode cX8_image 0 = .ok (.aload_n 0, 1) := by decide +kernel
theorem dX8_image_1 : decode cX8_image 1 = .ok (.getfield 16, 3) := by decide +kernel
theorem dX8_image_4 : decode cX8_image 4 = .ok (.aload_n 0, 1) := by decide +kernel
theorem dX8_image_5 : decode cX8_image 5 = .ok (.getfield 10, 3) := by decide +kernel
theorem dX8_image_8 : decode cX8_image 8 = .ok (.invokevirtual 104, 3) := by decide +kernel
theorem dX8_image_11 : decode cX8_image 11 = .ok (.aload_n 0, 1) := by decide +kernel
theorem dX8_image_12 : decode cX8_image 12 = .ok (.iconst 1, 1) := by decide +kernel
theorem dX8_image_13 : decode cX8_image 13 = .ok (.putfield 22, 3) := by decide +kernel
theorem dX8_image_16 : decode cX8_image 16 = .ok (.aload_n 0, 1) := by decide +kernel
theorem dX8_image_17 : decode cX8_image 17 = .ok (.getfield 10, 3) := by decide +kernel
theorem dX8_image_20 : decode cX8_image 20 = .ok (.getfield 163, 3) := by decide +kernel
theorem dX8_image_23 : decode cX8_image 23 = .ok (.ireturn, 1) := by decide +kernel
theorem dX8_restore_0 : decode cX8_restore 0 = .ok (.aload_n 0, 1) := by decide +kernel
theorem dX8_restore_1 : decode cX8_restore 1 = .ok (.getfield 22, 3) := by decide +kernel
theorem dX8_restore_4 : decode cX8_restore 4 = .ok (.ifCond .ne 10, 3) := by decide +kernel
theorem dX8_restore_7 : decode cX8_restore 7 = .ok (.aload_n 0, 1) := by decide +kernel
theorem dX8_restore_8 : decode cX8_restore 8 = .ok (.bipush (-3), 2) := by decide +kernel
theorem dX8_restore_10 : decode cX8_restore 10 = .ok (.invokevirtual 85, 3) := by decide +kernel
theorem dX8_restore_13 : decode cX8_restore 13 = .ok (.ireturn, 1) := by decide +kernel
theorem dX8_restore_14 : decode cX8_restore 14 = .ok (.aload_n 0, 1) := by decide +kernel
theorem dX8_restore_15 : decode cX8_restore 15 = .ok (.getfield 10, 3) := by decide +kernel
theorem dX8_restore_18 : decode cX8_restore 18 = .ok (.aload_n 0, 1) := by decide +kernel
theorem dX8_restore_19 : decode cX8_restore 19 = .ok (.getfield 16, 3) := by decide +kernel
theorem dX8_restore_22 : decode cX8_restore 22 = .ok (.invokevirtual 104, 3) := by decide +kernel
theorem dX8_restore_25 : decode cX8_restore 25 = .ok (.aload_n 0, 1) := by decide +kernel
theorem dX8_restore_26 : decode cX8_restore 26 = .ok (.getfield 43, 3) := by decide +kernel
theorem dX8_restore_29 : decode cX8_restore 29 = .ok (.iconst 0, 1) := by decide +kernel
theorem dX8_restore_30 : decode cX8_restore 30 = .ok (.putfield 115, 3) := by decide +kernel
theorem dX8_restore_33 : decode cX8_restore 33 = .ok (.aload_n 0, 1) := by decide +kernel
theorem dX8_restore_34 : decode cX8_restore 34 = .ok (.getfield 10, 3) := by decide +kernel
theorem dX8_restore_37 : decode cX8_restore 37 = .ok (.getfield 163, 3) := by decide +kernel
theorem dX8_restore_40 : decode cX8_restore 40 = .ok (.ireturn, 1) := by decide +kernel
theorem dX8_count_0 : decode cX8_count 0 = .ok (.iload_n 1, 1) := by decide +kernel
theorem dX8_count_1 : decode cX8_count 1 = .ok (.bipush 11, 2) := by decide +kernel
theorem dX8_count_3 : decode cX8_count 3 = .ok (.if_icmp .lt 21, 3) := by decide +kernel
theorem dX8_count_6 : decode cX8_count 6 = .ok (.iload_n 1, 1) := by decide +kernel
theorem dX8_count_7 : decode cX8_count 7 = .ok (.bipush 16, 2) := by decide +kernel
theorem dX8_count_9 : decode cX8_count 9 = .ok (.if_icmp .gt 15, 3) := by decide +kernel
theorem dX8_count_12 : decode cX8_count 12 = .ok (.aload_n 0, 1) := by decide +kernel
theorem dX8_count_13 : decode cX8_count 13 = .ok (.getfield 47, 3) := by decide +kernel
theorem dX8_count_16 : decode cX8_count 16 = .ok (.iload_n 1, 1) := by decide +kernel
theorem dX8_count_17 : decode cX8_count 17 = .ok (.bipush 11, 2) := by decide +kernel
theorem dX8_count_19 : decode cX8_count 19 = .ok (.isub, 1) := by decide +kernel
theorem dX8_count_20 : decode cX8_count 20 = .ok (.iconst 1, 1) := by decide +kernel
theorem dX8_count_21 : decode cX8_count 21 = .ok (.iadd, 1) := by decide +kernel
theorem dX8_count_22 : decode cX8_count 22 = .ok (.iaload, 1) := by decide +kernel
theorem dX8_count_23 : decode cX8_count 23 = .ok (.ireturn, 1) := by decide +kernel
theorem dX8_count_24 : decode cX8_count 24 = .ok (.iload_n 1, 1) := by decide +kernel
theorem dX8_count_25 : decode cX8_count 25 = .ok (.tableswitch 177 0 17 #[87, 95, 103, 111, 119, 127, 132, 137, 145, 153, 161, 177, 177, 177, 177, 177, 177, 169], 87) := by decide +kernel
theorem dX8_count_112 : decode cX8_count 112 = .ok (.aload_n 0, 1) := by decide +kernel
theorem dX8_count_113 : decode cX8_count 113 = .ok (.getfield 10, 3) := by decide +kernel
theorem dX8_count_116 : decode cX8_count 116 = .ok (.getfield 243, 3) := by decide +kernel
theorem dX8_count_119 : decode cX8_count 119 = .ok (.ireturn, 1) := by decide +kernel
theorem dX8_count_120 : decode cX8_count 120 = .ok (.aload_n 0, 1) := by decide +kernel
theorem dX8_count_121 : decode cX8_count 121 = .ok (.getfield 10, 3) := by decide +kernel
theorem dX8_count_124 : decode cX8_count 124 = .ok (.getfield 310, 3) := by decide +kernel
theorem dX8_count_127 : decode cX8_count 127 = .ok (.ireturn, 1) := by decide +kernel
theorem dX8_count_128 : decode cX8_count 128 = .ok (.aload_n 0, 1) := by decide +kernel
theorem dX8_count_129 : decode cX8_count 129 = .ok (.getfield 10, 3) := by decide +kernel
theorem dX8_count_132 : decode cX8_count 132 = .ok (.getfield 163, 3) := by decide +kernel
theorem dX8_count_135 : decode cX8_count 135 = .ok (.ireturn, 1) := by decide +kernel
theorem dX8_count_136 : decode cX8_count 136 = .ok (.aload_n 0, 1) := by decide +kernel
theorem dX8_count_137 : decode cX8_count 137 = .ok (.getfield 10, 3) := by decide +kernel
theorem dX8_count_140 : decode cX8_count 140 = .ok (.getfield 157, 3) := by decide +kernel
theorem dX8_count_143 : decode cX8_count 143 = .ok (.ireturn, 1) := by decide +kernel
theorem dX8_count_144 : decode cX8_count 144 = .ok (.aload_n 0, 1) := by decide +kernel
theorem dX8_count_145 : decode cX8_count 145 = .ok (.getfield 10, 3) := by decide +kernel
theorem dX8_count_148 : decode cX8_count 148 = .ok (.getfield 160, 3) := by decide +kernel
theorem dX8_count_151 : decode cX8_count 151 = .ok (.ireturn, 1) := by decide +kernel
theorem dX8_count_152 : decode cX8_count 152 = .ok (.aload_n 0, 1) := by decide +kernel
theorem dX8_count_153 : decode cX8_count 153 = .ok (.invokevirtual 374, 3) := by decide +kernel
theorem dX8_count_156 : decode cX8_count 156 = .ok (.ireturn, 1) := by decide +kernel
theorem dX8_count_157 : decode cX8_count 157 = .ok (.aload_n 0, 1) := by decide +kernel
theorem dX8_count_158 : decode cX8_count 158 = .ok (.invokevirtual 377, 3) := by decide +kernel
theorem dX8_count_161 : decode cX8_count 161 = .ok (.ireturn, 1) := by decide +kernel
theorem dX8_count_162 : decode cX8_count 162 = .ok (.aload_n 0, 1) := by decide +kernel
theorem dX8_count_163 : decode cX8_count 163 = .ok (.getfield 29, 3) := by decide +kernel
theorem dX8_count_166 : decode cX8_count 166 = .ok (.getfield 89, 3) := by decide +kernel
theorem dX8_count_169 : decode cX8_count 169 = .ok (.ireturn, 1) := by decide +kernel
theorem dX8_count_170 : decode cX8_count 170 = .ok (.aload_n 0, 1) := by decide +kernel
theorem dX8_count_171 : decode cX8_count 171 = .ok (.getfield 36, 3) := by decide +kernel
theorem dX8_count_174 : decode cX8_count 174 = .ok (.getfield 266, 3) := by decide +kernel
theorem dX8_count_177 : decode cX8_count 177 = .ok (.ireturn, 1) := by decide +kernel
theorem dX8_count_178 : decode cX8_count 178 = .ok (.aload_n 0, 1) := by decide +kernel
theorem dX8_count_179 : decode cX8_count 179 = .ok (.getfield 10, 3) := by decide +kernel
theorem dX8_count_182 : decode cX8_count 182 = .ok (.getfield 356, 3) := by decide +kernel
theorem dX8_count_185 : decode cX8_count 185 = .ok (.ireturn, 1) := by decide +kernel
theorem dX8_count_186 : decode cX8_count 186 = .ok (.aload_n 0, 1) := by decide +kernel
theorem dX8_count_187 : decode cX8_count 187 = .ok (.getfield 10, 3) := by decide +kernel
theorem dX8_count_190 : decode cX8_count 190 = .ok (.getfield 291, 3) := by decide +kernel
theorem dX8_count_193 : decode cX8_count 193 = .ok (.ireturn, 1) := by decide +kernel
theorem dX8_count_194 : decode cX8_count 194 = .ok (.aload_n 0, 1) := by decide +kernel
theorem dX8_count_195 : decode cX8_count 195 = .ok (.getfield 43, 3) := by decide +kernel
theorem dX8_count_198 : decode cX8_count 198 = .ok (.getfield 115, 3) := by decide +kernel
theorem dX8_count_201 : decode cX8_count 201 = .ok (.ireturn, 1) := by decide +kernel
theorem dX8_count_202 : decode cX8_count 202 = .ok (.bipush (-9), 2) := by decide +kernel
theorem dX8_count_204 : decode cX8_count 204 = .ok (.ireturn, 1) := by decide +kernel
theorem dX8_lengthsTogether_0 : decode cX8_lengthsTogether 0 = .ok (.iconst 0, 1) := by decide +kernel
theorem dX8_lengthsTogether_1 : decode cX8_lengthsTogether 1 = .ok (.istore_n 1, 1) := by decide +kernel
theorem dX8_lengthsTogether_2 : decode cX8_lengthsTogether 2 = .ok (.iconst 0, 1) := by decide +kernel
theorem dX8_lengthsTogether_3 : decode cX8_lengthsTogether 3 = .ok (.istore_n 2, 1) := by decide +kernel
theorem dX8_lengthsTogether_4 : decode cX8_lengthsTogether 4 = .ok (.iload_n 2, 1) := by decide +kernel
theorem dX8_lengthsTogether_5 : decode cX8_lengthsTogether 5 = .ok (.aload_n 0, 1) := by decide +kernel
theorem dX8_lengthsTogether_6 : decode cX8_lengthsTogether 6 = .ok (.getfield 10, 3) := by decide +kernel
theorem dX8_lengthsTogether_9 : decode cX8_lengthsTogether 9 = .ok (.getfield 243, 3) := by decide +kernel
theorem dX8_lengthsTogether_12 : decode cX8_lengthsTogether 12 = .ok (.if_icmp .ge 21, 3) := by decide +kernel
theorem dX8_lengthsTogether_15 : decode cX8_lengthsTogether 15 = .ok (.iload_n 1, 1) := by decide +kernel
theorem dX8_lengthsTogether_16 : decode cX8_lengthsTogether 16 = .ok (.aload_n 0, 1) := by decide +kernel
theorem dX8_lengthsTogether_17 : decode cX8_lengthsTogether 17 = .ok (.getfield 10, 3) := by decide +kernel
theorem dX8_lengthsTogether_20 : decode cX8_lengthsTogether 20 = .ok (.iload_n 2, 1) := by decide +kernel
theorem dX8_lengthsTogether_21 : decode cX8_lengthsTogether 21 = .ok (.iconst 4, 1) := by decide +kernel
theorem dX8_lengthsTogether_22 : decode cX8_lengthsTogether 22 = .ok (.invokevirtual 143, 3) := by decide +kernel
theorem dX8_lengthsTogether_25 : decode cX8_lengthsTogether 25 = .ok (.iadd, 1) := by decide +kernel
theorem dX8_lengthsTogether_26 : decode cX8_lengthsTogether 26 = .ok (.istore_n 1, 1) := by decide +kernel
theorem dX8_lengthsTogether_27 : decode cX8_lengthsTogether 27 = .ok (.iinc 2 1, 3) := by decide +kernel
theorem dX8_lengthsTogether_30 : decode cX8_lengthsTogether 30 = .ok (.goto (-26), 3) := by decide +kernel
theorem dX8_lengthsTogether_33 : decode cX8_lengthsTogether 33 = .ok (.iload_n 1, 1) := by decide +kernel
theorem dX8_lengthsTogether_34 : decode cX8_lengthsTogether 34 = .ok (.ireturn, 1) := by decide +kernel
theorem dX8_boatsHangingNow_0 : decode cX8_boatsHangingNow 0 = .ok (.iconst 0, 1) := by decide +kernel
theorem dX8_boatsHangingNow_1 : decode cX8_boatsHangingNow 1 = .ok (.istore_n 1, 1) := by decide +kernel
theorem dX8_boatsHangingNow_2 : decode cX8_boatsHangingNow 2 = .ok (.iconst 0, 1) := by decide +kernel
theorem dX8_boatsHangingNow_3 : decode cX8_boatsHangingNow 3 = .ok (.istore_n 2, 1) := by decide +kernel
theorem dX8_boatsHangingNow_4 : decode cX8_boatsHangingNow 4 = .ok (.iload_n 2, 1) := by decide +kernel
theorem dX8_boatsHangingNow_5 : decode cX8_boatsHangingNow 5 = .ok (.aload_n 0, 1) := by decide +kernel
theorem dX8_boatsHangingNow_6 : decode cX8_boatsHangingNow 6 = .ok (.getfield 10, 3) := by decide +kernel
theorem dX8_boatsHangingNow_9 : decode cX8_boatsHangingNow 9 = .ok (.getfield 243, 3) := by decide +kernel
theorem dX8_boatsHangingNow_12 : decode cX8_boatsHangingNow 12 = .ok (.if_icmp .ge 55, 3) := by decide +kernel
theorem dX8_boatsHangingNow_15 : decode cX8_boatsHangingNow 15 = .ok (.aload_n 0, 1) := by decide +kernel
theorem dX8_boatsHangingNow_16 : decode cX8_boatsHangingNow 16 = .ok (.getfield 54, 3) := by decide +kernel
theorem dX8_boatsHangingNow_19 : decode cX8_boatsHangingNow 19 = .ok (.aload_n 0, 1) := by decide +kernel
theorem dX8_boatsHangingNow_20 : decode cX8_boatsHangingNow 20 = .ok (.getfield 10, 3) := by decide +kernel
theorem dX8_boatsHangingNow_23 : decode cX8_boatsHangingNow 23 = .ok (.iload_n 2, 1) := by decide +kernel
theorem dX8_boatsHangingNow_24 : decode cX8_boatsHangingNow 24 = .ok (.invokevirtual 166, 3) := by decide +kernel
theorem dX8_boatsHangingNow_27 : decode cX8_boatsHangingNow 27 = .ok (.aload_n 0, 1) := by decide +kernel
theorem dX8_boatsHangingNow_28 : decode cX8_boatsHangingNow 28 = .ok (.getfield 54, 3) := by decide +kernel
theorem dX8_boatsHangingNow_31 : decode cX8_boatsHangingNow 31 = .ok (.aload_n 0, 1) := by decide +kernel
theorem dX8_boatsHangingNow_32 : decode cX8_boatsHangingNow 32 = .ok (.getfield 54, 3) := by decide +kernel
theorem dX8_boatsHangingNow_35 : decode cX8_boatsHangingNow 35 = .ok (.getfield 173, 3) := by decide +kernel
theorem dX8_boatsHangingNow_38 : decode cX8_boatsHangingNow 38 = .ok (.aload_n 0, 1) := by decide +kernel
theorem dX8_boatsHangingNow_39 : decode cX8_boatsHangingNow 39 = .ok (.getfield 10, 3) := by decide +kernel
theorem dX8_boatsHangingNow_42 : decode cX8_boatsHangingNow 42 = .ok (.aload_n 0, 1) := by decide +kernel
theorem dX8_boatsHangingNow_43 : decode cX8_boatsHangingNow 43 = .ok (.getfield 10, 3) := by decide +kernel
theorem dX8_boatsHangingNow_46 : decode cX8_boatsHangingNow 46 = .ok (.getfield 163, 3) := by decide +kernel
theorem dX8_boatsHangingNow_49 : decode cX8_boatsHangingNow 49 = .ok (.invokevirtual 120, 3) := by decide +kernel
theorem dX8_boatsHangingNow_52 : decode cX8_boatsHangingNow 52 = .ok (.invokevirtual 345, 3) := by decide +kernel
theorem dX8_boatsHangingNow_55 : decode cX8_boatsHangingNow 55 = .ok (.ifCond .eq 6, 3) := by decide +kernel
theorem dX8_boatsHangingNow_58 : decode cX8_boatsHangingNow 58 = .ok (.iinc 1 1, 3) := by decide +kernel
theorem dX8_boatsHangingNow_61 : decode cX8_boatsHangingNow 61 = .ok (.iinc 2 1, 3) := by decide +kernel
theorem dX8_boatsHangingNow_64 : decode cX8_boatsHangingNow 64 = .ok (.goto (-60), 3) := by decide +kernel
theorem dX8_boatsHangingNow_67 : decode cX8_boatsHangingNow 67 = .ok (.iload_n 1, 1) := by decide +kernel
theorem dX8_boatsHangingNow_68 : decode cX8_boatsHangingNow 68 = .ok (.ireturn, 1) := by decide +kernel
theorem dX8_refused_0 : decode cX8_refused 0 = .ok (.iload_n 1, 1) := by decide +kernel
theorem dX8_refused_1 : decode cX8_refused 1 = .ok (.ineg, 1) := by decide +kernel
theorem dX8_refused_2 : decode cX8_refused 2 = .ok (.ifCond .lt 24, 3) := by decide +kernel
theorem dX8_refused_5 : decode cX8_refused 5 = .ok (.iload_n 1, 1) := by decide +kernel
theorem dX8_refused_6 : decode cX8_refused 6 = .ok (.ineg, 1) := by decide +kernel
theorem dX8_refused_7 : decode cX8_refused 7 = .ok (.aload_n 0, 1) := by decide +kernel
theorem dX8_refused_8 : decode cX8_refused 8 = .ok (.getfield 47, 3) := by decide +kernel
theorem dX8_refused_11 : decode cX8_refused 11 = .ok (.arraylength, 1) := by decide +kernel
theorem dX8_refused_12 : decode cX8_refused 12 = .ok (.if_icmp .ge 14, 3) := by decide +kernel
theorem dX8_refused_15 : decode cX8_refused 15 = .ok (.aload_n 0, 1) := by decide +kernel
theorem dX8_refused_16 : decode cX8_refused 16 = .ok (.getfield 47, 3) := by decide +kernel
theorem dX8_refused_19 : decode cX8_refused 19 = .ok (.iload_n 1, 1) := by decide +kernel
theorem dX8_refused_20 : decode cX8_refused 20 = .ok (.ineg, 1) := by decide +kernel
theorem dX8_refused_21 : decode cX8_refused 21 = .ok (.dup2, 1) := by decide +kernel
theorem dX8_refused_22 : decode cX8_refused 22 = .ok (.iaload, 1) := by decide +kernel
theorem dX8_refused_23 : decode cX8_refused 23 = .ok (.iconst 1, 1) := by decide +kernel
theorem dX8_refused_24 : decode cX8_refused 24 = .ok (.iadd, 1) := by decide +kernel
theorem dX8_refused_25 : decode cX8_refused 25 = .ok (.iastore, 1) := by decide +kernel
theorem dX8_refused_26 : decode cX8_refused 26 = .ok (.iload_n 1, 1) := by decide +kernel
theorem dX8_refused_27 : decode cX8_refused 27 = .ok (.ireturn, 1) := by decide +kernel
theorem dX8_refusedFar_0 : decode cX8_refusedFar 0 = .ok (.ldc_w 380, 3) := by decide +kernel
theorem dX8_refusedFar_3 : decode cX8_refusedFar 3 = .ok (.aload_n 0, 1) := by decide +kernel
theorem dX8_refusedFar_4 : decode cX8_refusedFar 4 = .ok (.iload_n 1, 1) := by decide +kernel
theorem dX8_refusedFar_5 : decode cX8_refusedFar 5 = .ok (.invokevirtual 85, 3) := by decide +kernel
theorem dX8_refusedFar_8 : decode cX8_refusedFar 8 = .ok (.isub, 1) := by decide +kernel
theorem dX8_refusedFar_9 : decode cX8_refusedFar 9 = .ok (.ireturn, 1) := by decide +kernel
theorem dX8_isHour_0 : decode cX8_isHour 0 = .ok (.iload_n 0, 1) := by decide +kernel
theorem dX8_isHour_1 : decode cX8_isHour 1 = .ok (.ifCond .lt 13, 3) := by decide +kernel
theorem dX8_isHour_4 : decode cX8_isHour 4 = .ok (.iload_n 0, 1) := by decide +kernel
theorem dX8_isHour_5 : decode cX8_isHour 5 = .ok (.bipush 12, 2) := by decide +kernel
theorem dX8_isHour_7 : decode cX8_isHour 7 = .ok (.if_icmp .ge 7, 3) := by decide +kernel
theorem dX8_isHour_10 : decode cX8_isHour 10 = .ok (.iconst 1, 1) := by decide +kernel
theorem dX8_isHour_11 : decode cX8_isHour 11 = .ok (.goto 4, 3) := by decide +kernel
theorem dX8_isHour_14 : decode cX8_isHour 14 = .ok (.iconst 0, 1) := by decide +kernel
theorem dX8_isHour_15 : decode cX8_isHour 15 = .ok (.ireturn, 1) := by decide +kernel
theorem dX8_isOneOf_0 : decode cX8_isOneOf 0 = .ok (.iload_n 0, 1) := by decide +kernel
theorem dX8_isOneOf_1 : decode cX8_isOneOf 1 = .ok (.ifCond .lt 12, 3) := by decide +kernel
theorem dX8_isOneOf_4 : decode cX8_isOneOf 4 = .ok (.iload_n 0, 1) := by decide +kernel
theorem dX8_isOneOf_5 : decode cX8_isOneOf 5 = .ok (.iload_n 1, 1) := by decide +kernel
theorem dX8_isOneOf_6 : decode cX8_isOneOf 6 = .ok (.if_icmp .ge 7, 3) := by decide +kernel
theorem dX8_isOneOf_9 : decode cX8_isOneOf 9 = .ok (.iconst 1, 1) := by decide +kernel
theorem dX8_isOneOf_10 : decode cX8_isOneOf 10 = .ok (.goto 4, 3) := by decide +kernel
theorem dX8_isOneOf_13 : decode cX8_isOneOf 13 = .ok (.iconst 0, 1) := by decide +kernel
theorem dX8_isOneOf_14 : decode cX8_isOneOf 14 = .ok (.ireturn, 1) := by decide +kernel
theorem dX8_areTwoBoats_0 : decode cX8_areTwoBoats 0 = .ok (.aload_n 0, 1) := by decide +kernel
theorem dX8_areTwoBoats_1 : decode cX8_areTwoBoats 1 = .ok (.getfield 10, 3) := by decide +kernel
theorem dX8_areTwoBoats_4 : decode cX8_areTwoBoats 4 = .ok (.iload_n 1, 1) := by decide +kernel
theorem dX8_areTwoBoats_5 : decode cX8_areTwoBoats 5 = .ok (.invokevirtual 140, 3) := by decide +kernel
theorem dX8_areTwoBoats_8 : decode cX8_areTwoBoats 8 = .ok (.ifCond .eq 23, 3) := by decide +kernel
theorem dX8_areTwoBoats_11 : decode cX8_areTwoBoats 11 = .ok (.aload_n 0, 1) := by decide +kernel
theorem dX8_areTwoBoats_12 : decode cX8_areTwoBoats 12 = .ok (.getfield 10, 3) := by decide +kernel
theorem dX8_areTwoBoats_15 : decode cX8_areTwoBoats 15 = .ok (.iload_n 2, 1) := by decide +kernel
theorem dX8_areTwoBoats_16 : decode cX8_areTwoBoats 16 = .ok (.invokevirtual 140, 3) := by decide +kernel
theorem dX8_areTwoBoats_19 : decode cX8_areTwoBoats 19 = .ok (.ifCond .eq 12, 3) := by decide +kernel
theorem dX8_areTwoBoats_22 : decode cX8_areTwoBoats 22 = .ok (.iload_n 1, 1) := by decide +kernel
theorem dX8_areTwoBoats_23 : decode cX8_areTwoBoats 23 = .ok (.iload_n 2, 1) := by decide +kernel
theorem dX8_areTwoBoats_24 : decode cX8_areTwoBoats 24 = .ok (.if_icmp .eq 7, 3) := by decide +kernel
theorem dX8_areTwoBoats_27 : decode cX8_areTwoBoats 27 = .ok (.iconst 1, 1) := by decide +kernel
theorem dX8_areTwoBoats_28 : decode cX8_areTwoBoats 28 = .ok (.goto 4, 3) := by decide +kernel
theorem dX8_areTwoBoats_31 : decode cX8_areTwoBoats 31 = .ok (.iconst 0, 1) := by decide +kernel
theorem dX8_areTwoBoats_32 : decode cX8_areTwoBoats 32 = .ok (.ireturn, 1) := by decide +kernel
theorem dX8_lengthOrNone_0 : decode cX8_lengthOrNone 0 = .ok (.iload_n 0, 1) := by decide +kernel
theorem dX8_lengthOrNone_1 : decode cX8_lengthOrNone 1 = .ok (.bipush 99, 2) := by decide +kernel
theorem dX8_lengthOrNone_3 : decode cX8_lengthOrNone 3 = .ok (.if_icmp .le 8, 3) := by decide +kernel
theorem dX8_lengthOrNone_6 : decode cX8_lengthOrNone 6 = .ok (.bipush (-9), 2) := by decide +kernel
theorem dX8_lengthOrNone_8 : decode cX8_lengthOrNone 8 = .ok (.goto 4, 3) := by decide +kernel
theorem dX8_lengthOrNone_11 : decode cX8_lengthOrNone 11 = .ok (.iload_n 0, 1) := by decide +kernel
theorem dX8_lengthOrNone_12 : decode cX8_lengthOrNone 12 = .ok (.ireturn, 1) := by decide +kernel
theorem dX8_rootWithin_0 : decode cX8_rootWithin 0 = .ok (.iconst 0, 1) := by decide +kernel
theorem dX8_rootWithin_1 : decode cX8_rootWithin 1 = .ok (.istore_n 1, 1) := by decide +kernel
theorem dX8_rootWithin_2 : decode cX8_rootWithin 2 = .ok (.bipush 64, 2) := by decide +kernel
theorem dX8_rootWithin_4 : decode cX8_rootWithin 4 = .ok (.istore_n 2, 1) := by decide +kernel
theorem dX8_rootWithin_5 : decode cX8_rootWithin 5 = .ok (.iload_n 2, 1) := by decide +kernel
theorem dX8_rootWithin_6 : decode cX8_rootWithin 6 = .ok (.ifCond .le 25, 3) := by decide +kernel
theorem dX8_rootWithin_9 : decode cX8_rootWithin 9 = .ok (.iload_n 1, 1) := by decide +kernel
theorem dX8_rootWithin_10 : decode cX8_rootWithin 10 = .ok (.iload_n 2, 1) := by decide +kernel
theorem dX8_rootWithin_11 : decode cX8_rootWithin 11 = .ok (.iadd, 1) := by decide +kernel
theorem dX8_rootWithin_12 : decode cX8_rootWithin 12 = .ok (.iload_n 1, 1) := by decide +kernel
theorem dX8_rootWithin_13 : decode cX8_rootWithin 13 = .ok (.iload_n 2, 1) := by decide +kernel
theorem dX8_rootWithin_14 : decode cX8_rootWithin 14 = .ok (.iadd, 1) := by decide +kernel
theorem dX8_rootWithin_15 : decode cX8_rootWithin 15 = .ok (.imul, 1) := by decide +kernel
theorem dX8_rootWithin_16 : decode cX8_rootWithin 16 = .ok (.iload_n 0, 1) := by decide +kernel
theorem dX8_rootWithin_17 : decode cX8_rootWithin 17 = .ok (.if_icmp .gt 7, 3) := by decide +kernel
theorem dX8_rootWithin_20 : decode cX8_rootWithin 20 = .ok (.iload_n 1, 1) := by decide +kernel
theorem dX8_rootWithin_21 : decode cX8_rootWithin 21 = .ok (.iload_n 2, 1) := by decide +kernel
theorem dX8_rootWithin_22 : decode cX8_rootWithin 22 = .ok (.iadd, 1) := by decide +kernel
theorem dX8_rootWithin_23 : decode cX8_rootWithin 23 = .ok (.istore_n 1, 1) := by decide +kernel
theorem dX8_rootWithin_24 : decode cX8_rootWithin 24 = .ok (.iload_n 2, 1) := by decide +kernel
theorem dX8_rootWithin_25 : decode cX8_rootWithin 25 = .ok (.iconst 2, 1) := by decide +kernel
theorem dX8_rootWithin_26 : decode cX8_rootWithin 26 = .ok (.idiv, 1) := by decide +kernel
theorem dX8_rootWithin_27 : decode cX8_rootWithin 27 = .ok (.istore_n 2, 1) := by decide +kernel
theorem dX8_rootWithin_28 : decode cX8_rootWithin 28 = .ok (.goto (-23), 3) := by decide +kernel
theorem dX8_rootWithin_31 : decode cX8_rootWithin 31 = .ok (.iload_n 1, 1) := by decide +kernel
theorem dX8_rootWithin_32 : decode cX8_rootWithin 32 = .ok (.ireturn, 1) := by decide +kernel
