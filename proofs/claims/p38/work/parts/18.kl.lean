/-! code rows of the law and the JDK -/
theorem k_87_0 : COD 87 0 = some (.aload_n 0, 1, 0, 0, 0, 0) := by decide +kernel
theorem k_87_1 : COD 87 1 = some (.invokespecial 1, 3, 1000, 0, 1209, 0) := by decide +kernel
theorem k_87_4 : COD 87 4 = some (.return_, 1, 0, 0, 0, 0) := by decide +kernel
theorem k_116_0 : COD 116 0 = some (.new 7, 3, 11, 0, 1270, 0) := by decide +kernel
theorem k_116_3 : COD 116 3 = some (.dup, 1, 0, 0, 0, 0) := by decide +kernel
theorem k_116_4 : COD 116 4 = some (.invokespecial 9, 3, 162, 0, 1272, 11) := by decide +kernel
theorem k_116_7 : COD 116 7 = some (.aload_n 0, 1, 0, 0, 0, 0) := by decide +kernel
theorem k_116_8 : COD 116 8 = some (.getfield 10, 3, 8, 0, 1210, 0) := by decide +kernel
theorem k_116_11 : COD 116 11 = some (.ifCond .ne 31, 3, 42, 0, 0, 0) := by decide +kernel
theorem k_116_14 : COD 116 14 = some (.new 7, 3, 11, 0, 1270, 0) := by decide +kernel
theorem k_116_17 : COD 116 17 = some (.dup, 1, 0, 0, 0, 0) := by decide +kernel
theorem k_116_18 : COD 116 18 = some (.invokespecial 9, 3, 162, 0, 1272, 11) := by decide +kernel
theorem k_116_21 : COD 116 21 = some (.ldc 16, 2, 103, 0, 1291, 0) := by decide +kernel
theorem k_116_23 : COD 116 23 = some (.invokevirtual 18, 3, 163, 1, 1292, 11) := by decide +kernel
theorem k_116_26 : COD 116 26 = some (.aload_n 0, 1, 0, 0, 0, 0) := by decide +kernel
theorem k_116_27 : COD 116 27 = some (.getfield 22, 3, 8, 1, 1213, 0) := by decide +kernel
theorem k_116_30 : COD 116 30 = some (.invokevirtual 26, 3, 142, 0, 1293, 10) := by decide +kernel
theorem k_116_33 : COD 116 33 = some (.invokevirtual 18, 3, 163, 1, 1292, 11) := by decide +kernel
theorem k_116_36 : COD 116 36 = some (.invokevirtual 32, 3, 165, 0, 1390, 11) := by decide +kernel
theorem k_116_39 : COD 116 39 = some (.goto 41, 3, 80, 0, 0, 0) := by decide +kernel
theorem k_116_42 : COD 116 42 = some (.aload_n 0, 1, 0, 0, 0, 0) := by decide +kernel
theorem k_116_43 : COD 116 43 = some (.getfield 10, 3, 8, 0, 1210, 0) := by decide +kernel
theorem k_116_46 : COD 116 46 = some (.iconst 1, 1, 0, 0, 0, 0) := by decide +kernel
theorem k_116_47 : COD 116 47 = some (.if_icmp .ne 31, 3, 78, 0, 0, 0) := by decide +kernel
theorem k_116_50 : COD 116 50 = some (.new 7, 3, 11, 0, 1270, 0) := by decide +kernel
theorem k_116_53 : COD 116 53 = some (.dup, 1, 0, 0, 0, 0) := by decide +kernel
theorem k_116_54 : COD 116 54 = some (.invokespecial 9, 3, 162, 0, 1272, 11) := by decide +kernel
theorem k_116_57 : COD 116 57 = some (.ldc 35, 2, 133, 0, 1391, 0) := by decide +kernel
theorem k_116_59 : COD 116 59 = some (.invokevirtual 18, 3, 163, 1, 1292, 11) := by decide +kernel
theorem k_116_62 : COD 116 62 = some (.aload_n 0, 1, 0, 0, 0, 0) := by decide +kernel
theorem k_116_63 : COD 116 63 = some (.getfield 22, 3, 8, 1, 1213, 0) := by decide +kernel
theorem k_116_66 : COD 116 66 = some (.invokevirtual 26, 3, 142, 0, 1293, 10) := by decide +kernel
theorem k_116_69 : COD 116 69 = some (.invokevirtual 18, 3, 163, 1, 1292, 11) := by decide +kernel
theorem k_116_72 : COD 116 72 = some (.invokevirtual 32, 3, 165, 0, 1390, 11) := by decide +kernel
theorem k_116_75 : COD 116 75 = some (.goto 5, 3, 80, 0, 0, 0) := by decide +kernel
theorem k_116_78 : COD 116 78 = some (.ldc 37, 2, 134, 0, 1392, 0) := by decide +kernel
theorem k_116_80 : COD 116 80 = some (.invokevirtual 18, 3, 163, 1, 1292, 11) := by decide +kernel
theorem k_116_83 : COD 116 83 = some (.ldc 39, 2, 135, 0, 1393, 0) := by decide +kernel
theorem k_116_85 : COD 116 85 = some (.invokevirtual 18, 3, 163, 1, 1292, 11) := by decide +kernel
theorem k_116_88 : COD 116 88 = some (.aload_n 0, 1, 0, 0, 0, 0) := by decide +kernel
theorem k_116_89 : COD 116 89 = some (.getfield 41, 3, 8, 2, 1216, 0) := by decide +kernel
theorem k_116_92 : COD 116 92 = some (.invokevirtual 26, 3, 142, 0, 1293, 10) := by decide +kernel
theorem k_116_95 : COD 116 95 = some (.invokevirtual 18, 3, 163, 1, 1292, 11) := by decide +kernel
theorem k_116_98 : COD 116 98 = some (.ldc 44, 2, 136, 0, 1394, 0) := by decide +kernel
theorem k_116_100 : COD 116 100 = some (.invokevirtual 18, 3, 163, 1, 1292, 11) := by decide +kernel
theorem k_116_103 : COD 116 103 = some (.aload_n 0, 1, 0, 0, 0, 0) := by decide +kernel
theorem k_116_104 : COD 116 104 = some (.getfield 46, 3, 8, 3, 1219, 0) := by decide +kernel
theorem k_116_107 : COD 116 107 = some (.invokevirtual 26, 3, 142, 0, 1293, 10) := by decide +kernel
theorem k_116_110 : COD 116 110 = some (.invokevirtual 18, 3, 163, 1, 1292, 11) := by decide +kernel
theorem k_116_113 : COD 116 113 = some (.aload_n 0, 1, 0, 0, 0, 0) := by decide +kernel
theorem k_116_114 : COD 116 114 = some (.getfield 49, 3, 8, 4, 1222, 0) := by decide +kernel
theorem k_116_117 : COD 116 117 = some (.ifnonnull 8, 3, 125, 0, 0, 0) := by decide +kernel
theorem k_116_120 : COD 116 120 = some (.ldc 52, 2, 137, 0, 1395, 0) := by decide +kernel
theorem k_116_122 : COD 116 122 = some (.goto 28, 3, 150, 0, 0, 0) := by decide +kernel
theorem k_116_125 : COD 116 125 = some (.new 7, 3, 11, 0, 1270, 0) := by decide +kernel
theorem k_116_128 : COD 116 128 = some (.dup, 1, 0, 0, 0, 0) := by decide +kernel
theorem k_116_129 : COD 116 129 = some (.invokespecial 9, 3, 162, 0, 1272, 11) := by decide +kernel
theorem k_116_132 : COD 116 132 = some (.ldc 54, 2, 138, 0, 1396, 0) := by decide +kernel
theorem k_116_134 : COD 116 134 = some (.invokevirtual 18, 3, 163, 1, 1292, 11) := by decide +kernel
theorem k_116_137 : COD 116 137 = some (.aload_n 0, 1, 0, 0, 0, 0) := by decide +kernel
theorem k_116_138 : COD 116 138 = some (.getfield 49, 3, 8, 4, 1222, 0) := by decide +kernel
theorem k_116_141 : COD 116 141 = some (.invokevirtual 26, 3, 142, 0, 1293, 10) := by decide +kernel
theorem k_116_144 : COD 116 144 = some (.invokevirtual 18, 3, 163, 1, 1292, 11) := by decide +kernel
theorem k_116_147 : COD 116 147 = some (.invokevirtual 32, 3, 165, 0, 1390, 11) := by decide +kernel
theorem k_116_150 : COD 116 150 = some (.invokevirtual 18, 3, 163, 1, 1292, 11) := by decide +kernel
theorem k_116_153 : COD 116 153 = some (.ldc 56, 2, 139, 0, 1397, 0) := by decide +kernel
theorem k_116_155 : COD 116 155 = some (.invokevirtual 18, 3, 163, 1, 1292, 11) := by decide +kernel
theorem k_116_158 : COD 116 158 = some (.invokevirtual 32, 3, 165, 0, 1390, 11) := by decide +kernel
theorem k_116_161 : COD 116 161 = some (.areturn, 1, 0, 0, 0, 0) := by decide +kernel
theorem k_122_0 : COD 122 0 = some (.aload_n 0, 1, 0, 0, 0, 0) := by decide +kernel
theorem k_122_1 : COD 122 1 = some (.invokespecial 1, 3, 1000, 0, 1036, 0) := by decide +kernel
theorem k_122_4 : COD 122 4 = some (.aload_n 0, 1, 0, 0, 0, 0) := by decide +kernel
theorem k_122_5 : COD 122 5 = some (.bipush 16, 2, 0, 0, 0, 0) := by decide +kernel
theorem k_122_7 : COD 122 7 = some (.putfield 7, 3, 9, 0, 1041, 0) := by decide +kernel
theorem k_122_10 : COD 122 10 = some (.aload_n 0, 1, 0, 0, 0, 0) := by decide +kernel
theorem k_122_11 : COD 122 11 = some (.iconst 0, 1, 0, 0, 0, 0) := by decide +kernel
theorem k_122_12 : COD 122 12 = some (.anewarray 13, 3, 8, 0, 1037, 0) := by decide +kernel
theorem k_122_15 : COD 122 15 = some (.putfield 15, 3, 9, 3, 1048, 0) := by decide +kernel
theorem k_122_18 : COD 122 18 = some (.aload_n 0, 1, 0, 0, 0, 0) := by decide +kernel
theorem k_122_19 : COD 122 19 = some (.bipush 32, 2, 0, 0, 0, 0) := by decide +kernel
theorem k_122_21 : COD 122 21 = some (.newarray .int, 2, 0, 0, 0, 0) := by decide +kernel
theorem k_122_23 : COD 122 23 = some (.putfield 19, 3, 9, 4, 1050, 0) := by decide +kernel
theorem k_122_26 : COD 122 26 = some (.aload_n 0, 1, 0, 0, 0, 0) := by decide +kernel
theorem k_122_27 : COD 122 27 = some (.bipush 64, 2, 0, 0, 0, 0) := by decide +kernel
theorem k_122_29 : COD 122 29 = some (.anewarray 23, 3, 7, 0, 1039, 0) := by decide +kernel
theorem k_122_32 : COD 122 32 = some (.putfield 24, 3, 9, 5, 1051, 0) := by decide +kernel
theorem k_122_35 : COD 122 35 = some (.return_, 1, 0, 0, 0, 0) := by decide +kernel
theorem k_123_0 : COD 123 0 = some (.aload_n 0, 1, 0, 0, 0, 0) := by decide +kernel
theorem k_123_1 : COD 123 1 = some (.getfield 24, 3, 9, 5, 1051, 0) := by decide +kernel
theorem k_123_4 : COD 123 4 = some (.iload_n 1, 1, 0, 0, 0, 0) := by decide +kernel
theorem k_123_5 : COD 123 5 = some (.iconst 5, 1, 0, 0, 0, 0) := by decide +kernel
theorem k_123_6 : COD 123 6 = some (.newarray .int, 2, 0, 0, 0, 0) := by decide +kernel
theorem k_123_8 : COD 123 8 = some (.dup, 1, 0, 0, 0, 0) := by decide +kernel
theorem k_123_9 : COD 123 9 = some (.iconst 0, 1, 0, 0, 0, 0) := by decide +kernel
theorem k_123_10 : COD 123 10 = some (.iload_n 2, 1, 0, 0, 0, 0) := by decide +kernel
theorem k_123_11 : COD 123 11 = some (.iastore, 1, 0, 0, 0, 0) := by decide +kernel
theorem k_123_12 : COD 123 12 = some (.dup, 1, 0, 0, 0, 0) := by decide +kernel
theorem k_123_13 : COD 123 13 = some (.iconst 1, 1, 0, 0, 0, 0) := by decide +kernel
theorem k_123_14 : COD 123 14 = some (.iload_n 3, 1, 0, 0, 0, 0) := by decide +kernel
theorem k_123_15 : COD 123 15 = some (.iastore, 1, 0, 0, 0, 0) := by decide +kernel
theorem k_123_16 : COD 123 16 = some (.dup, 1, 0, 0, 0, 0) := by decide +kernel
theorem k_123_17 : COD 123 17 = some (.iconst 2, 1, 0, 0, 0, 0) := by decide +kernel
theorem k_123_18 : COD 123 18 = some (.iconst 0, 1, 0, 0, 0, 0) := by decide +kernel
theorem k_123_19 : COD 123 19 = some (.iastore, 1, 0, 0, 0, 0) := by decide +kernel
theorem k_123_20 : COD 123 20 = some (.dup, 1, 0, 0, 0, 0) := by decide +kernel
theorem k_123_21 : COD 123 21 = some (.iconst 3, 1, 0, 0, 0, 0) := by decide +kernel
theorem k_123_22 : COD 123 22 = some (.iconst 0, 1, 0, 0, 0, 0) := by decide +kernel
theorem k_123_23 : COD 123 23 = some (.iastore, 1, 0, 0, 0, 0) := by decide +kernel
theorem k_123_24 : COD 123 24 = some (.dup, 1, 0, 0, 0, 0) := by decide +kernel
theorem k_123_25 : COD 123 25 = some (.iconst 4, 1, 0, 0, 0, 0) := by decide +kernel
theorem k_123_26 : COD 123 26 = some (.iconst 0, 1, 0, 0, 0, 0) := by decide +kernel
theorem k_123_27 : COD 123 27 = some (.iastore, 1, 0, 0, 0, 0) := by decide +kernel
theorem k_123_28 : COD 123 28 = some (.aastore, 1, 0, 0, 0, 0) := by decide +kernel
theorem k_123_29 : COD 123 29 = some (.iload_n 2, 1, 0, 0, 0, 0) := by decide +kernel
theorem k_123_30 : COD 123 30 = some (.iload_n 3, 1, 0, 0, 0, 0) := by decide +kernel
theorem k_123_31 : COD 123 31 = some (.if_icmp .ne 4, 3, 35, 0, 0, 0) := by decide +kernel
theorem k_123_34 : COD 123 34 = some (.return_, 1, 0, 0, 0, 0) := by decide +kernel
theorem k_123_35 : COD 123 35 = some (.aload_n 0, 1, 0, 0, 0, 0) := by decide +kernel
theorem k_123_36 : COD 123 36 = some (.iconst 2, 1, 0, 0, 0, 0) := by decide +kernel
theorem k_123_37 : COD 123 37 = some (.iload_n 1, 1, 0, 0, 0, 0) := by decide +kernel
theorem k_123_38 : COD 123 38 = some (.imul, 1, 0, 0, 0, 0) := by decide +kernel
theorem k_123_39 : COD 123 39 = some (.iload_n 2, 1, 0, 0, 0, 0) := by decide +kernel
theorem k_123_40 : COD 123 40 = some (.iload_n 2, 1, 0, 0, 0, 0) := by decide +kernel
theorem k_123_41 : COD 123 41 = some (.iload_n 3, 1, 0, 0, 0, 0) := by decide +kernel
theorem k_123_42 : COD 123 42 = some (.iadd, 1, 0, 0, 0, 0) := by decide +kernel
theorem k_123_43 : COD 123 43 = some (.iconst 2, 1, 0, 0, 0, 0) := by decide +kernel
theorem k_123_44 : COD 123 44 = some (.idiv, 1, 0, 0, 0, 0) := by decide +kernel
theorem k_123_45 : COD 123 45 = some (.invokevirtual 28, 3, 123, 3, 1203, 9) := by decide +kernel
theorem k_123_48 : COD 123 48 = some (.aload_n 0, 1, 0, 0, 0, 0) := by decide +kernel
theorem k_123_49 : COD 123 49 = some (.iconst 2, 1, 0, 0, 0, 0) := by decide +kernel
theorem k_123_50 : COD 123 50 = some (.iload_n 1, 1, 0, 0, 0, 0) := by decide +kernel
theorem k_123_51 : COD 123 51 = some (.imul, 1, 0, 0, 0, 0) := by decide +kernel
theorem k_123_52 : COD 123 52 = some (.iconst 1, 1, 0, 0, 0, 0) := by decide +kernel
theorem k_123_53 : COD 123 53 = some (.iadd, 1, 0, 0, 0, 0) := by decide +kernel
theorem k_123_54 : COD 123 54 = some (.iload_n 2, 1, 0, 0, 0, 0) := by decide +kernel
theorem k_123_55 : COD 123 55 = some (.iload_n 3, 1, 0, 0, 0, 0) := by decide +kernel
theorem k_123_56 : COD 123 56 = some (.iadd, 1, 0, 0, 0, 0) := by decide +kernel
theorem k_123_57 : COD 123 57 = some (.iconst 2, 1, 0, 0, 0, 0) := by decide +kernel
theorem k_123_58 : COD 123 58 = some (.idiv, 1, 0, 0, 0, 0) := by decide +kernel
theorem k_123_59 : COD 123 59 = some (.iconst 1, 1, 0, 0, 0, 0) := by decide +kernel
theorem k_123_60 : COD 123 60 = some (.iadd, 1, 0, 0, 0, 0) := by decide +kernel
theorem k_123_61 : COD 123 61 = some (.iload_n 3, 1, 0, 0, 0, 0) := by decide +kernel
theorem k_123_62 : COD 123 62 = some (.invokevirtual 28, 3, 123, 3, 1203, 9) := by decide +kernel
theorem k_123_65 : COD 123 65 = some (.return_, 1, 0, 0, 0, 0) := by decide +kernel
theorem k_124_0 : COD 124 0 = some (.aload_n 0, 1, 0, 0, 0, 0) := by decide +kernel
theorem k_124_1 : COD 124 1 = some (.getfield 24, 3, 9, 5, 1051, 0) := by decide +kernel
theorem k_124_4 : COD 124 4 = some (.iload_n 1, 1, 0, 0, 0, 0) := by decide +kernel
theorem k_124_5 : COD 124 5 = some (.aaload, 1, 0, 0, 0, 0) := by decide +kernel
theorem k_124_6 : COD 124 6 = some (.iconst 2, 1, 0, 0, 0, 0) := by decide +kernel
theorem k_124_7 : COD 124 7 = some (.iaload, 1, 0, 0, 0, 0) := by decide +kernel
theorem k_124_8 : COD 124 8 = some (.iconst 1, 1, 0, 0, 0, 0) := by decide +kernel
theorem k_124_9 : COD 124 9 = some (.if_icmp .eq 14, 3, 23, 0, 0, 0) := by decide +kernel
theorem k_124_12 : COD 124 12 = some (.aload_n 0, 1, 0, 0, 0, 0) := by decide +kernel
theorem k_124_13 : COD 124 13 = some (.getfield 24, 3, 9, 5, 1051, 0) := by decide +kernel
theorem k_124_16 : COD 124 16 = some (.iload_n 1, 1, 0, 0, 0, 0) := by decide +kernel
theorem k_124_17 : COD 124 17 = some (.aaload, 1, 0, 0, 0, 0) := by decide +kernel
theorem k_124_18 : COD 124 18 = some (.iconst 4, 1, 0, 0, 0, 0) := by decide +kernel
theorem k_124_19 : COD 124 19 = some (.iaload, 1, 0, 0, 0, 0) := by decide +kernel
theorem k_124_20 : COD 124 20 = some (.ifCond .eq 7, 3, 27, 0, 0, 0) := by decide +kernel
theorem k_124_23 : COD 124 23 = some (.iconst 1, 1, 0, 0, 0, 0) := by decide +kernel
theorem k_124_24 : COD 124 24 = some (.goto 4, 3, 28, 0, 0, 0) := by decide +kernel
theorem k_124_27 : COD 124 27 = some (.iconst 0, 1, 0, 0, 0, 0) := by decide +kernel
theorem k_124_28 : COD 124 28 = some (.ireturn, 1, 0, 0, 0, 1) := by decide +kernel
theorem k_125_0 : COD 125 0 = some (.iconst 0, 1, 0, 0, 0, 0) := by decide +kernel
theorem k_125_1 : COD 125 1 = some (.istore_n 1, 1, 0, 0, 0, 0) := by decide +kernel
theorem k_125_2 : COD 125 2 = some (.iconst 1, 1, 0, 0, 0, 0) := by decide +kernel
theorem k_125_3 : COD 125 3 = some (.istore_n 2, 1, 0, 0, 0, 0) := by decide +kernel
theorem k_125_4 : COD 125 4 = some (.iload_n 2, 1, 0, 0, 0, 0) := by decide +kernel
theorem k_125_5 : COD 125 5 = some (.bipush 64, 2, 0, 0, 0, 0) := by decide +kernel
theorem k_125_7 : COD 125 7 = some (.if_icmp .ge 34, 3, 41, 0, 0, 0) := by decide +kernel
theorem k_125_10 : COD 125 10 = some (.iload_n 1, 1, 0, 0, 0, 0) := by decide +kernel
theorem k_125_11 : COD 125 11 = some (.aload_n 0, 1, 0, 0, 0, 0) := by decide +kernel
theorem k_125_12 : COD 125 12 = some (.getfield 24, 3, 9, 5, 1051, 0) := by decide +kernel
theorem k_125_15 : COD 125 15 = some (.iload_n 2, 1, 0, 0, 0, 0) := by decide +kernel
theorem k_125_16 : COD 125 16 = some (.aaload, 1, 0, 0, 0, 0) := by decide +kernel
theorem k_125_17 : COD 125 17 = some (.ifnull 15, 3, 32, 0, 0, 0) := by decide +kernel
theorem k_125_20 : COD 125 20 = some (.aload_n 0, 1, 0, 0, 0, 0) := by decide +kernel
theorem k_125_21 : COD 125 21 = some (.iload_n 2, 1, 0, 0, 0, 0) := by decide +kernel
theorem k_125_22 : COD 125 22 = some (.invokevirtual 39, 3, 124, 1, 719, 9) := by decide +kernel
theorem k_125_25 : COD 125 25 = some (.ifCond .eq 7, 3, 32, 0, 0, 0) := by decide +kernel
theorem k_125_28 : COD 125 28 = some (.iconst 1, 1, 0, 0, 0, 0) := by decide +kernel
theorem k_125_29 : COD 125 29 = some (.goto 4, 3, 33, 0, 0, 0) := by decide +kernel
theorem k_125_32 : COD 125 32 = some (.iconst 0, 1, 0, 0, 0, 0) := by decide +kernel
theorem k_125_33 : COD 125 33 = some (.iadd, 1, 0, 0, 0, 0) := by decide +kernel
theorem k_125_34 : COD 125 34 = some (.istore_n 1, 1, 0, 0, 0, 0) := by decide +kernel
theorem k_125_35 : COD 125 35 = some (.iinc 2 1, 3, 0, 0, 0, 0) := by decide +kernel
theorem k_125_38 : COD 125 38 = some (.goto (-34), 3, 4, 0, 0, 0) := by decide +kernel
theorem k_125_41 : COD 125 41 = some (.iload_n 1, 1, 0, 0, 0, 0) := by decide +kernel
theorem k_125_42 : COD 125 42 = some (.ireturn, 1, 0, 0, 0, 0) := by decide +kernel
theorem k_126_0 : COD 126 0 = some (.aload_n 0, 1, 0, 0, 0, 0) := by decide +kernel
theorem k_126_1 : COD 126 1 = some (.getfield 24, 3, 9, 5, 1051, 0) := by decide +kernel
theorem k_126_4 : COD 126 4 = some (.iload_n 1, 1, 0, 0, 0, 0) := by decide +kernel
theorem k_126_5 : COD 126 5 = some (.aaload, 1, 0, 0, 0, 0) := by decide +kernel
theorem k_126_6 : COD 126 6 = some (.iconst 0, 1, 0, 0, 0, 0) := by decide +kernel
theorem k_126_7 : COD 126 7 = some (.iaload, 1, 0, 0, 0, 0) := by decide +kernel
theorem k_126_8 : COD 126 8 = some (.aload_n 0, 1, 0, 0, 0, 0) := by decide +kernel
theorem k_126_9 : COD 126 9 = some (.getfield 24, 3, 9, 5, 1051, 0) := by decide +kernel
theorem k_126_12 : COD 126 12 = some (.iload_n 1, 1, 0, 0, 0, 0) := by decide +kernel
theorem k_126_13 : COD 126 13 = some (.aaload, 1, 0, 0, 0, 0) := by decide +kernel
theorem k_126_14 : COD 126 14 = some (.iconst 1, 1, 0, 0, 0, 0) := by decide +kernel
theorem k_126_15 : COD 126 15 = some (.iaload, 1, 0, 0, 0, 0) := by decide +kernel
theorem k_126_16 : COD 126 16 = some (.if_icmp .ne 10, 3, 26, 0, 0, 0) := by decide +kernel
theorem k_126_19 : COD 126 19 = some (.aload_n 0, 1, 0, 0, 0, 0) := by decide +kernel
theorem k_126_20 : COD 126 20 = some (.getfield 19, 3, 9, 4, 1050, 0) := by decide +kernel
theorem k_126_23 : COD 126 23 = some (.iload_n 2, 1, 0, 0, 0, 0) := by decide +kernel
theorem k_126_24 : COD 126 24 = some (.iaload, 1, 0, 0, 0, 0) := by decide +kernel
theorem k_126_25 : COD 126 25 = some (.ireturn, 1, 0, 0, 0, 0) := by decide +kernel
theorem k_126_26 : COD 126 26 = some (.aload_n 0, 1, 0, 0, 0, 0) := by decide +kernel
theorem k_126_27 : COD 126 27 = some (.iload_n 2, 1, 0, 0, 0, 0) := by decide +kernel
theorem k_126_28 : COD 126 28 = some (.aload_n 0, 1, 0, 0, 0, 0) := by decide +kernel
theorem k_126_29 : COD 126 29 = some (.getfield 24, 3, 9, 5, 1051, 0) := by decide +kernel
theorem k_126_32 : COD 126 32 = some (.iconst 2, 1, 0, 0, 0, 0) := by decide +kernel
theorem k_126_33 : COD 126 33 = some (.iload_n 1, 1, 0, 0, 0, 0) := by decide +kernel
theorem k_126_34 : COD 126 34 = some (.imul, 1, 0, 0, 0, 0) := by decide +kernel
theorem k_126_35 : COD 126 35 = some (.aaload, 1, 0, 0, 0, 0) := by decide +kernel
theorem k_126_36 : COD 126 36 = some (.iconst 1, 1, 0, 0, 0, 0) := by decide +kernel
theorem k_126_37 : COD 126 37 = some (.iaload, 1, 0, 0, 0, 0) := by decide +kernel
theorem k_126_38 : COD 126 38 = some (.if_icmp .gt 9, 3, 47, 0, 0, 0) := by decide +kernel
theorem k_126_41 : COD 126 41 = some (.iconst 2, 1, 0, 0, 0, 0) := by decide +kernel
theorem k_126_42 : COD 126 42 = some (.iload_n 1, 1, 0, 0, 0, 0) := by decide +kernel
theorem k_126_43 : COD 126 43 = some (.imul, 1, 0, 0, 0, 0) := by decide +kernel
theorem k_126_44 : COD 126 44 = some (.goto 8, 3, 52, 0, 0, 0) := by decide +kernel
theorem k_126_47 : COD 126 47 = some (.iconst 2, 1, 0, 0, 0, 0) := by decide +kernel
theorem k_126_48 : COD 126 48 = some (.iload_n 1, 1, 0, 0, 0, 0) := by decide +kernel
theorem k_126_49 : COD 126 49 = some (.imul, 1, 0, 0, 0, 0) := by decide +kernel
theorem k_126_50 : COD 126 50 = some (.iconst 1, 1, 0, 0, 0, 0) := by decide +kernel
theorem k_126_51 : COD 126 51 = some (.iadd, 1, 0, 0, 0, 0) := by decide +kernel
theorem k_126_52 : COD 126 52 = some (.iload_n 2, 1, 0, 0, 0, 0) := by decide +kernel
theorem k_126_53 : COD 126 53 = some (.invokevirtual 43, 3, 126, 2, 732, 9) := by decide +kernel
theorem k_126_56 : COD 126 56 = some (.istore_n 3, 1, 0, 0, 0, 0) := by decide +kernel
theorem k_126_57 : COD 126 57 = some (.aload_n 0, 1, 0, 0, 0, 0) := by decide +kernel
theorem k_126_58 : COD 126 58 = some (.getfield 24, 3, 9, 5, 1051, 0) := by decide +kernel
theorem k_126_61 : COD 126 61 = some (.iload_n 1, 1, 0, 0, 0, 0) := by decide +kernel
theorem k_126_62 : COD 126 62 = some (.aaload, 1, 0, 0, 0, 0) := by decide +kernel
theorem k_126_63 : COD 126 63 = some (.iconst 2, 1, 0, 0, 0, 0) := by decide +kernel
theorem k_126_64 : COD 126 64 = some (.iaload, 1, 0, 0, 0, 0) := by decide +kernel
theorem k_126_65 : COD 126 65 = some (.iconst 1, 1, 0, 0, 0, 0) := by decide +kernel
theorem k_126_66 : COD 126 66 = some (.if_icmp .ne 14, 3, 80, 0, 0, 0) := by decide +kernel
theorem k_126_69 : COD 126 69 = some (.aload_n 0, 1, 0, 0, 0, 0) := by decide +kernel
theorem k_126_70 : COD 126 70 = some (.getfield 24, 3, 9, 5, 1051, 0) := by decide +kernel
theorem k_126_73 : COD 126 73 = some (.iload_n 1, 1, 0, 0, 0, 0) := by decide +kernel
theorem k_126_74 : COD 126 74 = some (.aaload, 1, 0, 0, 0, 0) := by decide +kernel
theorem k_126_75 : COD 126 75 = some (.iconst 3, 1, 0, 0, 0, 0) := by decide +kernel
theorem k_126_76 : COD 126 76 = some (.iaload, 1, 0, 0, 0, 0) := by decide +kernel
theorem k_126_77 : COD 126 77 = some (.goto 4, 3, 81, 0, 0, 0) := by decide +kernel
theorem k_126_80 : COD 126 80 = some (.iload_n 3, 1, 0, 0, 0, 0) := by decide +kernel
theorem k_126_81 : COD 126 81 = some (.aload_n 0, 1, 0, 0, 0, 0) := by decide +kernel
theorem k_126_82 : COD 126 82 = some (.getfield 24, 3, 9, 5, 1051, 0) := by decide +kernel
theorem k_126_85 : COD 126 85 = some (.iload_n 1, 1, 0, 0, 0, 0) := by decide +kernel
theorem k_126_86 : COD 126 86 = some (.aaload, 1, 0, 0, 0, 0) := by decide +kernel
theorem k_126_87 : COD 126 87 = some (.iconst 4, 1, 0, 0, 0, 0) := by decide +kernel
theorem k_126_88 : COD 126 88 = some (.iaload, 1, 0, 0, 0, 0) := by decide +kernel
theorem k_126_89 : COD 126 89 = some (.iadd, 1, 0, 0, 0, 0) := by decide +kernel
theorem k_126_90 : COD 126 90 = some (.ireturn, 1, 0, 0, 0, 0) := by decide +kernel
theorem k_127_0 : COD 127 0 = some (.aload_n 0, 1, 0, 0, 0, 0) := by decide +kernel
theorem k_127_1 : COD 127 1 = some (.iconst 1, 1, 0, 0, 0, 0) := by decide +kernel
theorem k_127_2 : COD 127 2 = some (.iload_n 1, 1, 0, 0, 0, 0) := by decide +kernel
theorem k_127_3 : COD 127 3 = some (.invokevirtual 43, 3, 126, 2, 732, 9) := by decide +kernel
theorem k_127_6 : COD 127 6 = some (.ireturn, 1, 0, 0, 0, 0) := by decide +kernel
theorem k_128_0 : COD 128 0 = some (.lconst 0, 1, 0, 0, 0, 0) := by decide +kernel
theorem k_128_1 : COD 128 1 = some (.lstore_n 2, 1, 0, 0, 0, 0) := by decide +kernel
theorem k_128_2 : COD 128 2 = some (.aload_n 0, 1, 0, 0, 0, 0) := by decide +kernel
theorem k_128_3 : COD 128 3 = some (.getfield 24, 3, 9, 5, 1051, 0) := by decide +kernel
theorem k_128_6 : COD 128 6 = some (.iload_n 1, 1, 0, 0, 0, 0) := by decide +kernel
theorem k_128_7 : COD 128 7 = some (.aaload, 1, 0, 0, 0, 0) := by decide +kernel
theorem k_128_8 : COD 128 8 = some (.iconst 0, 1, 0, 0, 0, 0) := by decide +kernel
theorem k_128_9 : COD 128 9 = some (.iaload, 1, 0, 0, 0, 0) := by decide +kernel
theorem k_128_10 : COD 128 10 = some (.istore 4, 2, 0, 0, 0, 0) := by decide +kernel
theorem k_128_12 : COD 128 12 = some (.iload 4, 2, 0, 0, 0, 0) := by decide +kernel
theorem k_128_14 : COD 128 14 = some (.aload_n 0, 1, 0, 0, 0, 0) := by decide +kernel
theorem k_128_15 : COD 128 15 = some (.getfield 24, 3, 9, 5, 1051, 0) := by decide +kernel
theorem k_128_18 : COD 128 18 = some (.iload_n 1, 1, 0, 0, 0, 0) := by decide +kernel
theorem k_128_19 : COD 128 19 = some (.aaload, 1, 0, 0, 0, 0) := by decide +kernel
theorem k_128_20 : COD 128 20 = some (.iconst 1, 1, 0, 0, 0, 0) := by decide +kernel
theorem k_128_21 : COD 128 21 = some (.iaload, 1, 0, 0, 0, 0) := by decide +kernel
theorem k_128_22 : COD 128 22 = some (.if_icmp .gt 20, 3, 42, 0, 0, 0) := by decide +kernel
theorem k_128_25 : COD 128 25 = some (.lload_n 2, 1, 0, 0, 0, 0) := by decide +kernel
theorem k_128_26 : COD 128 26 = some (.aload_n 0, 1, 0, 0, 0, 0) := by decide +kernel
theorem k_128_27 : COD 128 27 = some (.iload_n 1, 1, 0, 0, 0, 0) := by decide +kernel
theorem k_128_28 : COD 128 28 = some (.iload 4, 2, 0, 0, 0, 0) := by decide +kernel
theorem k_128_30 : COD 128 30 = some (.invokevirtual 43, 3, 126, 2, 732, 9) := by decide +kernel
theorem k_128_33 : COD 128 33 = some (.i2l, 1, 0, 0, 0, 0) := by decide +kernel
theorem k_128_34 : COD 128 34 = some (.ladd, 1, 0, 0, 0, 0) := by decide +kernel
theorem k_128_35 : COD 128 35 = some (.lstore_n 2, 1, 0, 0, 0, 0) := by decide +kernel
theorem k_128_36 : COD 128 36 = some (.iinc 4 1, 3, 0, 0, 0, 0) := by decide +kernel
theorem k_128_39 : COD 128 39 = some (.goto (-27), 3, 12, 0, 0, 0) := by decide +kernel
theorem k_128_42 : COD 128 42 = some (.lload_n 2, 1, 0, 0, 0, 0) := by decide +kernel
theorem k_128_43 : COD 128 43 = some (.lreturn, 1, 0, 0, 0, 0) := by decide +kernel
theorem k_129_0 : COD 129 0 = some (.aload_n 0, 1, 0, 0, 0, 0) := by decide +kernel
theorem k_129_1 : COD 129 1 = some (.iload_n 1, 1, 0, 0, 0, 0) := by decide +kernel
theorem k_129_2 : COD 129 2 = some (.aload_n 0, 1, 0, 0, 0, 0) := by decide +kernel
theorem k_129_3 : COD 129 3 = some (.getfield 24, 3, 9, 5, 1051, 0) := by decide +kernel
theorem k_129_6 : COD 129 6 = some (.iload_n 1, 1, 0, 0, 0, 0) := by decide +kernel
theorem k_129_7 : COD 129 7 = some (.aaload, 1, 0, 0, 0, 0) := by decide +kernel
theorem k_129_8 : COD 129 8 = some (.iconst 0, 1, 0, 0, 0, 0) := by decide +kernel
theorem k_129_9 : COD 129 9 = some (.iaload, 1, 0, 0, 0, 0) := by decide +kernel
theorem k_129_10 : COD 129 10 = some (.invokevirtual 43, 3, 126, 2, 732, 9) := by decide +kernel
theorem k_129_13 : COD 129 13 = some (.istore_n 2, 1, 0, 0, 0, 0) := by decide +kernel
theorem k_129_14 : COD 129 14 = some (.aload_n 0, 1, 0, 0, 0, 0) := by decide +kernel
theorem k_129_15 : COD 129 15 = some (.getfield 24, 3, 9, 5, 1051, 0) := by decide +kernel
theorem k_129_18 : COD 129 18 = some (.iload_n 1, 1, 0, 0, 0, 0) := by decide +kernel
theorem k_129_19 : COD 129 19 = some (.aaload, 1, 0, 0, 0, 0) := by decide +kernel
theorem k_129_20 : COD 129 20 = some (.iconst 0, 1, 0, 0, 0, 0) := by decide +kernel
theorem k_129_21 : COD 129 21 = some (.iaload, 1, 0, 0, 0, 0) := by decide +kernel
theorem k_129_22 : COD 129 22 = some (.istore_n 3, 1, 0, 0, 0, 0) := by decide +kernel
theorem k_129_23 : COD 129 23 = some (.iload_n 3, 1, 0, 0, 0, 0) := by decide +kernel
theorem k_129_24 : COD 129 24 = some (.aload_n 0, 1, 0, 0, 0, 0) := by decide +kernel
theorem k_129_25 : COD 129 25 = some (.getfield 24, 3, 9, 5, 1051, 0) := by decide +kernel
theorem k_129_28 : COD 129 28 = some (.iload_n 1, 1, 0, 0, 0, 0) := by decide +kernel
theorem k_129_29 : COD 129 29 = some (.aaload, 1, 0, 0, 0, 0) := by decide +kernel
theorem k_129_30 : COD 129 30 = some (.iconst 1, 1, 0, 0, 0, 0) := by decide +kernel
theorem k_129_31 : COD 129 31 = some (.iaload, 1, 0, 0, 0, 0) := by decide +kernel
theorem k_129_32 : COD 129 32 = some (.if_icmp .gt 20, 3, 52, 0, 0, 0) := by decide +kernel
theorem k_129_35 : COD 129 35 = some (.iload_n 2, 1, 0, 0, 0, 0) := by decide +kernel
theorem k_129_36 : COD 129 36 = some (.aload_n 0, 1, 0, 0, 0, 0) := by decide +kernel
theorem k_129_37 : COD 129 37 = some (.iload_n 1, 1, 0, 0, 0, 0) := by decide +kernel
theorem k_129_38 : COD 129 38 = some (.iload_n 3, 1, 0, 0, 0, 0) := by decide +kernel
theorem k_129_39 : COD 129 39 = some (.invokevirtual 43, 3, 126, 2, 732, 9) := by decide +kernel
theorem k_129_42 : COD 129 42 = some (.invokestatic 47, 3, 225, 2, 736, 0) := by decide +kernel
theorem k_129_45 : COD 129 45 = some (.istore_n 2, 1, 0, 0, 0, 0) := by decide +kernel
theorem k_129_46 : COD 129 46 = some (.iinc 3 1, 3, 0, 0, 0, 0) := by decide +kernel
theorem k_129_49 : COD 129 49 = some (.goto (-26), 3, 23, 0, 0, 0) := by decide +kernel
theorem k_129_52 : COD 129 52 = some (.iload_n 2, 1, 0, 0, 0, 0) := by decide +kernel
theorem k_129_53 : COD 129 53 = some (.ireturn, 1, 0, 0, 0, 0) := by decide +kernel
theorem k_130_0 : COD 130 0 = some (.aload_n 0, 1, 0, 0, 0, 0) := by decide +kernel
theorem k_130_1 : COD 130 1 = some (.iload_n 1, 1, 0, 0, 0, 0) := by decide +kernel
theorem k_130_2 : COD 130 2 = some (.aload_n 0, 1, 0, 0, 0, 0) := by decide +kernel
theorem k_130_3 : COD 130 3 = some (.getfield 24, 3, 9, 5, 1051, 0) := by decide +kernel
theorem k_130_6 : COD 130 6 = some (.iload_n 1, 1, 0, 0, 0, 0) := by decide +kernel
theorem k_130_7 : COD 130 7 = some (.aaload, 1, 0, 0, 0, 0) := by decide +kernel
theorem k_130_8 : COD 130 8 = some (.iconst 0, 1, 0, 0, 0, 0) := by decide +kernel
theorem k_130_9 : COD 130 9 = some (.iaload, 1, 0, 0, 0, 0) := by decide +kernel
theorem k_130_10 : COD 130 10 = some (.invokevirtual 43, 3, 126, 2, 732, 9) := by decide +kernel
theorem k_130_13 : COD 130 13 = some (.ineg, 1, 0, 0, 0, 0) := by decide +kernel
theorem k_130_14 : COD 130 14 = some (.istore_n 2, 1, 0, 0, 0, 0) := by decide +kernel
theorem k_130_15 : COD 130 15 = some (.aload_n 0, 1, 0, 0, 0, 0) := by decide +kernel
theorem k_130_16 : COD 130 16 = some (.getfield 24, 3, 9, 5, 1051, 0) := by decide +kernel
theorem k_130_19 : COD 130 19 = some (.iload_n 1, 1, 0, 0, 0, 0) := by decide +kernel
theorem k_130_20 : COD 130 20 = some (.aaload, 1, 0, 0, 0, 0) := by decide +kernel
theorem k_130_21 : COD 130 21 = some (.iconst 0, 1, 0, 0, 0, 0) := by decide +kernel
theorem k_130_22 : COD 130 22 = some (.iaload, 1, 0, 0, 0, 0) := by decide +kernel
theorem k_130_23 : COD 130 23 = some (.istore_n 3, 1, 0, 0, 0, 0) := by decide +kernel
theorem k_130_24 : COD 130 24 = some (.iload_n 3, 1, 0, 0, 0, 0) := by decide +kernel
theorem k_130_25 : COD 130 25 = some (.aload_n 0, 1, 0, 0, 0, 0) := by decide +kernel
theorem k_130_26 : COD 130 26 = some (.getfield 24, 3, 9, 5, 1051, 0) := by decide +kernel
theorem k_130_29 : COD 130 29 = some (.iload_n 1, 1, 0, 0, 0, 0) := by decide +kernel
theorem k_130_30 : COD 130 30 = some (.aaload, 1, 0, 0, 0, 0) := by decide +kernel
theorem k_130_31 : COD 130 31 = some (.iconst 1, 1, 0, 0, 0, 0) := by decide +kernel
theorem k_130_32 : COD 130 32 = some (.iaload, 1, 0, 0, 0, 0) := by decide +kernel
theorem k_130_33 : COD 130 33 = some (.if_icmp .gt 21, 3, 54, 0, 0, 0) := by decide +kernel
theorem k_130_36 : COD 130 36 = some (.iload_n 2, 1, 0, 0, 0, 0) := by decide +kernel
theorem k_130_37 : COD 130 37 = some (.aload_n 0, 1, 0, 0, 0, 0) := by decide +kernel
theorem k_130_38 : COD 130 38 = some (.iload_n 1, 1, 0, 0, 0, 0) := by decide +kernel
theorem k_130_39 : COD 130 39 = some (.iload_n 3, 1, 0, 0, 0, 0) := by decide +kernel
theorem k_130_40 : COD 130 40 = some (.invokevirtual 43, 3, 126, 2, 732, 9) := by decide +kernel
theorem k_130_43 : COD 130 43 = some (.ineg, 1, 0, 0, 0, 0) := by decide +kernel
theorem k_130_44 : COD 130 44 = some (.invokestatic 47, 3, 225, 2, 736, 0) := by decide +kernel
theorem k_130_47 : COD 130 47 = some (.istore_n 2, 1, 0, 0, 0, 0) := by decide +kernel
theorem k_130_48 : COD 130 48 = some (.iinc 3 1, 3, 0, 0, 0, 0) := by decide +kernel
theorem k_130_51 : COD 130 51 = some (.goto (-27), 3, 24, 0, 0, 0) := by decide +kernel
theorem k_130_54 : COD 130 54 = some (.iload_n 2, 1, 0, 0, 0, 0) := by decide +kernel
theorem k_130_55 : COD 130 55 = some (.ireturn, 1, 0, 0, 0, 0) := by decide +kernel
theorem k_131_0 : COD 131 0 = some (.iload_n 1, 1, 0, 0, 0, 0) := by decide +kernel
theorem k_131_1 : COD 131 1 = some (.aload_n 0, 1, 0, 0, 0, 0) := by decide +kernel
theorem k_131_2 : COD 131 2 = some (.getfield 7, 3, 9, 0, 1041, 0) := by decide +kernel
theorem k_131_5 : COD 131 5 = some (.irem, 1, 0, 0, 0, 0) := by decide +kernel
theorem k_131_6 : COD 131 6 = some (.aload_n 0, 1, 0, 0, 0, 0) := by decide +kernel
theorem k_131_7 : COD 131 7 = some (.getfield 7, 3, 9, 0, 1041, 0) := by decide +kernel
theorem k_131_10 : COD 131 10 = some (.iadd, 1, 0, 0, 0, 0) := by decide +kernel
theorem k_131_11 : COD 131 11 = some (.aload_n 0, 1, 0, 0, 0, 0) := by decide +kernel
theorem k_131_12 : COD 131 12 = some (.getfield 7, 3, 9, 0, 1041, 0) := by decide +kernel
theorem k_131_15 : COD 131 15 = some (.irem, 1, 0, 0, 0, 0) := by decide +kernel
theorem k_131_16 : COD 131 16 = some (.ireturn, 1, 0, 0, 0, 0) := by decide +kernel
theorem k_132_0 : COD 132 0 = some (.aload_n 0, 1, 0, 0, 0, 0) := by decide +kernel
theorem k_132_1 : COD 132 1 = some (.getfield 24, 3, 9, 5, 1051, 0) := by decide +kernel
theorem k_132_4 : COD 132 4 = some (.iload_n 1, 1, 0, 0, 0, 0) := by decide +kernel
theorem k_132_5 : COD 132 5 = some (.aaload, 1, 0, 0, 0, 0) := by decide +kernel
theorem k_132_6 : COD 132 6 = some (.iconst 0, 1, 0, 0, 0, 0) := by decide +kernel
theorem k_132_7 : COD 132 7 = some (.iaload, 1, 0, 0, 0, 0) := by decide +kernel
theorem k_132_8 : COD 132 8 = some (.aload_n 0, 1, 0, 0, 0, 0) := by decide +kernel
theorem k_132_9 : COD 132 9 = some (.getfield 24, 3, 9, 5, 1051, 0) := by decide +kernel
theorem k_132_12 : COD 132 12 = some (.iload_n 1, 1, 0, 0, 0, 0) := by decide +kernel
theorem k_132_13 : COD 132 13 = some (.aaload, 1, 0, 0, 0, 0) := by decide +kernel
theorem k_132_14 : COD 132 14 = some (.iconst 1, 1, 0, 0, 0, 0) := by decide +kernel
theorem k_132_15 : COD 132 15 = some (.iaload, 1, 0, 0, 0, 0) := by decide +kernel
theorem k_132_16 : COD 132 16 = some (.if_icmp .ne 18, 3, 34, 0, 0, 0) := by decide +kernel
theorem k_132_19 : COD 132 19 = some (.aload_n 0, 1, 0, 0, 0, 0) := by decide +kernel
theorem k_132_20 : COD 132 20 = some (.getfield 19, 3, 9, 4, 1050, 0) := by decide +kernel
theorem k_132_23 : COD 132 23 = some (.aload_n 0, 1, 0, 0, 0, 0) := by decide +kernel
theorem k_132_24 : COD 132 24 = some (.getfield 24, 3, 9, 5, 1051, 0) := by decide +kernel
theorem k_132_27 : COD 132 27 = some (.iload_n 1, 1, 0, 0, 0, 0) := by decide +kernel
theorem k_132_28 : COD 132 28 = some (.aaload, 1, 0, 0, 0, 0) := by decide +kernel
theorem k_132_29 : COD 132 29 = some (.iconst 0, 1, 0, 0, 0, 0) := by decide +kernel
theorem k_132_30 : COD 132 30 = some (.iaload, 1, 0, 0, 0, 0) := by decide +kernel
theorem k_132_31 : COD 132 31 = some (.iload_n 2, 1, 0, 0, 0, 0) := by decide +kernel
theorem k_132_32 : COD 132 32 = some (.iastore, 1, 0, 0, 0, 0) := by decide +kernel
theorem k_132_33 : COD 132 33 = some (.return_, 1, 0, 0, 0, 0) := by decide +kernel
theorem k_132_34 : COD 132 34 = some (.aload_n 0, 1, 0, 0, 0, 0) := by decide +kernel
theorem k_132_35 : COD 132 35 = some (.getfield 24, 3, 9, 5, 1051, 0) := by decide +kernel
theorem k_132_38 : COD 132 38 = some (.iload_n 1, 1, 0, 0, 0, 0) := by decide +kernel
theorem k_132_39 : COD 132 39 = some (.aaload, 1, 0, 0, 0, 0) := by decide +kernel
theorem k_132_40 : COD 132 40 = some (.iconst 2, 1, 0, 0, 0, 0) := by decide +kernel
theorem k_132_41 : COD 132 41 = some (.iconst 1, 1, 0, 0, 0, 0) := by decide +kernel
theorem k_132_42 : COD 132 42 = some (.iastore, 1, 0, 0, 0, 0) := by decide +kernel
theorem k_132_43 : COD 132 43 = some (.aload_n 0, 1, 0, 0, 0, 0) := by decide +kernel
theorem k_132_44 : COD 132 44 = some (.getfield 24, 3, 9, 5, 1051, 0) := by decide +kernel
theorem k_132_47 : COD 132 47 = some (.iload_n 1, 1, 0, 0, 0, 0) := by decide +kernel
theorem k_132_48 : COD 132 48 = some (.aaload, 1, 0, 0, 0, 0) := by decide +kernel
theorem k_132_49 : COD 132 49 = some (.iconst 3, 1, 0, 0, 0, 0) := by decide +kernel
theorem k_132_50 : COD 132 50 = some (.iload_n 2, 1, 0, 0, 0, 0) := by decide +kernel
theorem k_132_51 : COD 132 51 = some (.iastore, 1, 0, 0, 0, 0) := by decide +kernel
theorem k_132_52 : COD 132 52 = some (.aload_n 0, 1, 0, 0, 0, 0) := by decide +kernel
theorem k_132_53 : COD 132 53 = some (.getfield 24, 3, 9, 5, 1051, 0) := by decide +kernel
theorem k_132_56 : COD 132 56 = some (.iload_n 1, 1, 0, 0, 0, 0) := by decide +kernel
theorem k_132_57 : COD 132 57 = some (.aaload, 1, 0, 0, 0, 0) := by decide +kernel
theorem k_132_58 : COD 132 58 = some (.iconst 4, 1, 0, 0, 0, 0) := by decide +kernel
theorem k_132_59 : COD 132 59 = some (.iconst 0, 1, 0, 0, 0, 0) := by decide +kernel
theorem k_132_60 : COD 132 60 = some (.iastore, 1, 0, 0, 0, 0) := by decide +kernel
theorem k_132_61 : COD 132 61 = some (.return_, 1, 0, 0, 0, 0) := by decide +kernel
theorem k_133_0 : COD 133 0 = some (.aload_n 0, 1, 0, 0, 0, 0) := by decide +kernel
theorem k_133_1 : COD 133 1 = some (.getfield 24, 3, 9, 5, 1051, 0) := by decide +kernel
theorem k_133_4 : COD 133 4 = some (.iload_n 1, 1, 0, 0, 0, 0) := by decide +kernel
theorem k_133_5 : COD 133 5 = some (.aaload, 1, 0, 0, 0, 0) := by decide +kernel
theorem k_133_6 : COD 133 6 = some (.iconst 0, 1, 0, 0, 0, 0) := by decide +kernel
theorem k_133_7 : COD 133 7 = some (.iaload, 1, 0, 0, 0, 0) := by decide +kernel
theorem k_133_8 : COD 133 8 = some (.aload_n 0, 1, 0, 0, 0, 0) := by decide +kernel
theorem k_133_9 : COD 133 9 = some (.getfield 24, 3, 9, 5, 1051, 0) := by decide +kernel
theorem k_133_12 : COD 133 12 = some (.iload_n 1, 1, 0, 0, 0, 0) := by decide +kernel
theorem k_133_13 : COD 133 13 = some (.aaload, 1, 0, 0, 0, 0) := by decide +kernel
theorem k_133_14 : COD 133 14 = some (.iconst 1, 1, 0, 0, 0, 0) := by decide +kernel
theorem k_133_15 : COD 133 15 = some (.iaload, 1, 0, 0, 0, 0) := by decide +kernel
theorem k_133_16 : COD 133 16 = some (.if_icmp .ne 23, 3, 39, 0, 0, 0) := by decide +kernel
theorem k_133_19 : COD 133 19 = some (.aload_n 0, 1, 0, 0, 0, 0) := by decide +kernel
theorem k_133_20 : COD 133 20 = some (.getfield 19, 3, 9, 4, 1050, 0) := by decide +kernel
theorem k_133_23 : COD 133 23 = some (.aload_n 0, 1, 0, 0, 0, 0) := by decide +kernel
theorem k_133_24 : COD 133 24 = some (.getfield 24, 3, 9, 5, 1051, 0) := by decide +kernel
theorem k_133_27 : COD 133 27 = some (.iload_n 1, 1, 0, 0, 0, 0) := by decide +kernel
theorem k_133_28 : COD 133 28 = some (.aaload, 1, 0, 0, 0, 0) := by decide +kernel
theorem k_133_29 : COD 133 29 = some (.iconst 0, 1, 0, 0, 0, 0) := by decide +kernel
theorem k_133_30 : COD 133 30 = some (.iaload, 1, 0, 0, 0, 0) := by decide +kernel
theorem k_133_31 : COD 133 31 = some (.dup2, 1, 0, 0, 0, 0) := by decide +kernel
theorem k_133_32 : COD 133 32 = some (.iaload, 1, 0, 0, 0, 0) := by decide +kernel
theorem k_133_33 : COD 133 33 = some (.iload_n 2, 1, 0, 0, 0, 0) := by decide +kernel
theorem k_133_34 : COD 133 34 = some (.iadd, 1, 0, 0, 0, 0) := by decide +kernel
theorem k_133_35 : COD 133 35 = some (.iastore, 1, 0, 0, 0, 0) := by decide +kernel
theorem k_133_36 : COD 133 36 = some (.goto 15, 3, 51, 0, 0, 0) := by decide +kernel
theorem k_133_39 : COD 133 39 = some (.aload_n 0, 1, 0, 0, 0, 0) := by decide +kernel
theorem k_133_40 : COD 133 40 = some (.getfield 24, 3, 9, 5, 1051, 0) := by decide +kernel
theorem k_133_43 : COD 133 43 = some (.iload_n 1, 1, 0, 0, 0, 0) := by decide +kernel
theorem k_133_44 : COD 133 44 = some (.aaload, 1, 0, 0, 0, 0) := by decide +kernel
theorem k_133_45 : COD 133 45 = some (.iconst 4, 1, 0, 0, 0, 0) := by decide +kernel
theorem k_133_46 : COD 133 46 = some (.dup2, 1, 0, 0, 0, 0) := by decide +kernel
theorem k_133_47 : COD 133 47 = some (.iaload, 1, 0, 0, 0, 0) := by decide +kernel
theorem k_133_48 : COD 133 48 = some (.iload_n 2, 1, 0, 0, 0, 0) := by decide +kernel
theorem k_133_49 : COD 133 49 = some (.iadd, 1, 0, 0, 0, 0) := by decide +kernel
theorem k_133_50 : COD 133 50 = some (.iastore, 1, 0, 0, 0, 0) := by decide +kernel
theorem k_133_51 : COD 133 51 = some (.return_, 1, 0, 0, 0, 0) := by decide +kernel
theorem k_134_0 : COD 134 0 = some (.aload_n 0, 1, 0, 0, 0, 0) := by decide +kernel
theorem k_134_1 : COD 134 1 = some (.iload_n 1, 1, 0, 0, 0, 0) := by decide +kernel
theorem k_134_2 : COD 134 2 = some (.invokevirtual 39, 3, 124, 1, 719, 9) := by decide +kernel
theorem k_134_5 : COD 134 5 = some (.ifCond .ne 4, 3, 9, 0, 0, 0) := by decide +kernel
theorem k_134_8 : COD 134 8 = some (.return_, 1, 0, 0, 0, 0) := by decide +kernel
theorem k_134_9 : COD 134 9 = some (.aload_n 0, 1, 0, 0, 0, 0) := by decide +kernel
theorem k_134_10 : COD 134 10 = some (.dup, 1, 0, 0, 0, 0) := by decide +kernel
theorem k_134_11 : COD 134 11 = some (.getfield 36, 3, 9, 2, 1047, 0) := by decide +kernel
theorem k_134_14 : COD 134 14 = some (.iconst 1, 1, 0, 0, 0, 0) := by decide +kernel
theorem k_134_15 : COD 134 15 = some (.iadd, 1, 0, 0, 0, 0) := by decide +kernel
theorem k_134_16 : COD 134 16 = some (.putfield 36, 3, 9, 2, 1047, 0) := by decide +kernel
theorem k_134_19 : COD 134 19 = some (.iconst 0, 1, 0, 0, 0, 0) := by decide +kernel
theorem k_134_20 : COD 134 20 = some (.istore_n 2, 1, 0, 0, 0, 0) := by decide +kernel
theorem k_134_21 : COD 134 21 = some (.iload_n 2, 1, 0, 0, 0, 0) := by decide +kernel
theorem k_134_22 : COD 134 22 = some (.iconst 2, 1, 0, 0, 0, 0) := by decide +kernel
theorem k_134_23 : COD 134 23 = some (.if_icmp .ge 55, 3, 78, 0, 0, 0) := by decide +kernel
theorem k_134_26 : COD 134 26 = some (.aload_n 0, 1, 0, 0, 0, 0) := by decide +kernel
theorem k_134_27 : COD 134 27 = some (.getfield 24, 3, 9, 5, 1051, 0) := by decide +kernel
theorem k_134_30 : COD 134 30 = some (.iload_n 1, 1, 0, 0, 0, 0) := by decide +kernel
theorem k_134_31 : COD 134 31 = some (.aaload, 1, 0, 0, 0, 0) := by decide +kernel
theorem k_134_32 : COD 134 32 = some (.iconst 2, 1, 0, 0, 0, 0) := by decide +kernel
theorem k_134_33 : COD 134 33 = some (.iaload, 1, 0, 0, 0, 0) := by decide +kernel
theorem k_134_34 : COD 134 34 = some (.iconst 1, 1, 0, 0, 0, 0) := by decide +kernel
theorem k_134_35 : COD 134 35 = some (.if_icmp .ne 20, 3, 55, 0, 0, 0) := by decide +kernel
theorem k_134_38 : COD 134 38 = some (.aload_n 0, 1, 0, 0, 0, 0) := by decide +kernel
theorem k_134_39 : COD 134 39 = some (.iconst 2, 1, 0, 0, 0, 0) := by decide +kernel
theorem k_134_40 : COD 134 40 = some (.iload_n 1, 1, 0, 0, 0, 0) := by decide +kernel
theorem k_134_41 : COD 134 41 = some (.imul, 1, 0, 0, 0, 0) := by decide +kernel
theorem k_134_42 : COD 134 42 = some (.iload_n 2, 1, 0, 0, 0, 0) := by decide +kernel
theorem k_134_43 : COD 134 43 = some (.iadd, 1, 0, 0, 0, 0) := by decide +kernel
theorem k_134_44 : COD 134 44 = some (.aload_n 0, 1, 0, 0, 0, 0) := by decide +kernel
theorem k_134_45 : COD 134 45 = some (.getfield 24, 3, 9, 5, 1051, 0) := by decide +kernel
theorem k_134_48 : COD 134 48 = some (.iload_n 1, 1, 0, 0, 0, 0) := by decide +kernel
theorem k_134_49 : COD 134 49 = some (.aaload, 1, 0, 0, 0, 0) := by decide +kernel
theorem k_134_50 : COD 134 50 = some (.iconst 3, 1, 0, 0, 0, 0) := by decide +kernel
theorem k_134_51 : COD 134 51 = some (.iaload, 1, 0, 0, 0, 0) := by decide +kernel
theorem k_134_52 : COD 134 52 = some (.invokevirtual 52, 3, 132, 2, 711, 9) := by decide +kernel
theorem k_134_55 : COD 134 55 = some (.aload_n 0, 1, 0, 0, 0, 0) := by decide +kernel
theorem k_134_56 : COD 134 56 = some (.iconst 2, 1, 0, 0, 0, 0) := by decide +kernel
theorem k_134_57 : COD 134 57 = some (.iload_n 1, 1, 0, 0, 0, 0) := by decide +kernel
theorem k_134_58 : COD 134 58 = some (.imul, 1, 0, 0, 0, 0) := by decide +kernel
theorem k_134_59 : COD 134 59 = some (.iload_n 2, 1, 0, 0, 0, 0) := by decide +kernel
theorem k_134_60 : COD 134 60 = some (.iadd, 1, 0, 0, 0, 0) := by decide +kernel
theorem k_134_61 : COD 134 61 = some (.aload_n 0, 1, 0, 0, 0, 0) := by decide +kernel
theorem k_134_62 : COD 134 62 = some (.getfield 24, 3, 9, 5, 1051, 0) := by decide +kernel
theorem k_134_65 : COD 134 65 = some (.iload_n 1, 1, 0, 0, 0, 0) := by decide +kernel
theorem k_134_66 : COD 134 66 = some (.aaload, 1, 0, 0, 0, 0) := by decide +kernel
theorem k_134_67 : COD 134 67 = some (.iconst 4, 1, 0, 0, 0, 0) := by decide +kernel
theorem k_134_68 : COD 134 68 = some (.iaload, 1, 0, 0, 0, 0) := by decide +kernel
theorem k_134_69 : COD 134 69 = some (.invokevirtual 56, 3, 133, 2, 706, 9) := by decide +kernel
theorem k_134_72 : COD 134 72 = some (.iinc 2 1, 3, 0, 0, 0, 0) := by decide +kernel
theorem k_134_75 : COD 134 75 = some (.goto (-54), 3, 21, 0, 0, 0) := by decide +kernel
theorem k_134_78 : COD 134 78 = some (.aload_n 0, 1, 0, 0, 0, 0) := by decide +kernel
theorem k_134_79 : COD 134 79 = some (.getfield 24, 3, 9, 5, 1051, 0) := by decide +kernel
theorem k_134_82 : COD 134 82 = some (.iload_n 1, 1, 0, 0, 0, 0) := by decide +kernel
theorem k_134_83 : COD 134 83 = some (.aaload, 1, 0, 0, 0, 0) := by decide +kernel
theorem k_134_84 : COD 134 84 = some (.iconst 2, 1, 0, 0, 0, 0) := by decide +kernel
theorem k_134_85 : COD 134 85 = some (.iconst 0, 1, 0, 0, 0, 0) := by decide +kernel
theorem k_134_86 : COD 134 86 = some (.iastore, 1, 0, 0, 0, 0) := by decide +kernel
theorem k_134_87 : COD 134 87 = some (.aload_n 0, 1, 0, 0, 0, 0) := by decide +kernel
theorem k_134_88 : COD 134 88 = some (.getfield 24, 3, 9, 5, 1051, 0) := by decide +kernel
theorem k_134_91 : COD 134 91 = some (.iload_n 1, 1, 0, 0, 0, 0) := by decide +kernel
theorem k_134_92 : COD 134 92 = some (.aaload, 1, 0, 0, 0, 0) := by decide +kernel
theorem k_134_93 : COD 134 93 = some (.iconst 4, 1, 0, 0, 0, 0) := by decide +kernel
theorem k_134_94 : COD 134 94 = some (.iconst 0, 1, 0, 0, 0, 0) := by decide +kernel
theorem k_134_95 : COD 134 95 = some (.iastore, 1, 0, 0, 0, 0) := by decide +kernel
theorem k_134_96 : COD 134 96 = some (.return_, 1, 0, 0, 0, 0) := by decide +kernel
theorem k_135_0 : COD 135 0 = some (.aload_n 0, 1, 0, 0, 0, 0) := by decide +kernel
theorem k_135_1 : COD 135 1 = some (.getfield 24, 3, 9, 5, 1051, 0) := by decide +kernel
theorem k_135_4 : COD 135 4 = some (.iload_n 1, 1, 0, 0, 0, 0) := by decide +kernel
theorem k_135_5 : COD 135 5 = some (.aaload, 1, 0, 0, 0, 0) := by decide +kernel
theorem k_135_6 : COD 135 6 = some (.iconst 1, 1, 0, 0, 0, 0) := by decide +kernel
theorem k_135_7 : COD 135 7 = some (.iaload, 1, 0, 0, 0, 0) := by decide +kernel
theorem k_135_8 : COD 135 8 = some (.iload_n 2, 1, 0, 0, 0, 0) := by decide +kernel
theorem k_135_9 : COD 135 9 = some (.if_icmp .lt 15, 3, 24, 0, 0, 0) := by decide +kernel
theorem k_135_12 : COD 135 12 = some (.aload_n 0, 1, 0, 0, 0, 0) := by decide +kernel
theorem k_135_13 : COD 135 13 = some (.getfield 24, 3, 9, 5, 1051, 0) := by decide +kernel
theorem k_135_16 : COD 135 16 = some (.iload_n 1, 1, 0, 0, 0, 0) := by decide +kernel
theorem k_135_17 : COD 135 17 = some (.aaload, 1, 0, 0, 0, 0) := by decide +kernel
theorem k_135_18 : COD 135 18 = some (.iconst 0, 1, 0, 0, 0, 0) := by decide +kernel
theorem k_135_19 : COD 135 19 = some (.iaload, 1, 0, 0, 0, 0) := by decide +kernel
theorem k_135_20 : COD 135 20 = some (.iload_n 3, 1, 0, 0, 0, 0) := by decide +kernel
theorem k_135_21 : COD 135 21 = some (.if_icmp .le 5, 3, 26, 0, 0, 0) := by decide +kernel
theorem k_135_24 : COD 135 24 = some (.iconst 0, 1, 0, 0, 0, 0) := by decide +kernel
theorem k_135_25 : COD 135 25 = some (.ireturn, 1, 0, 0, 0, 0) := by decide +kernel
theorem k_135_26 : COD 135 26 = some (.aload_n 0, 1, 0, 0, 0, 0) := by decide +kernel
theorem k_135_27 : COD 135 27 = some (.getfield 24, 3, 9, 5, 1051, 0) := by decide +kernel
theorem k_135_30 : COD 135 30 = some (.iload_n 1, 1, 0, 0, 0, 0) := by decide +kernel
theorem k_135_31 : COD 135 31 = some (.aaload, 1, 0, 0, 0, 0) := by decide +kernel
theorem k_135_32 : COD 135 32 = some (.iconst 0, 1, 0, 0, 0, 0) := by decide +kernel
theorem k_135_33 : COD 135 33 = some (.iaload, 1, 0, 0, 0, 0) := by decide +kernel
theorem k_135_34 : COD 135 34 = some (.iload_n 2, 1, 0, 0, 0, 0) := by decide +kernel
theorem k_135_35 : COD 135 35 = some (.if_icmp .lt 42, 3, 77, 0, 0, 0) := by decide +kernel
theorem k_135_38 : COD 135 38 = some (.aload_n 0, 1, 0, 0, 0, 0) := by decide +kernel
theorem k_135_39 : COD 135 39 = some (.getfield 24, 3, 9, 5, 1051, 0) := by decide +kernel
theorem k_135_42 : COD 135 42 = some (.iload_n 1, 1, 0, 0, 0, 0) := by decide +kernel
theorem k_135_43 : COD 135 43 = some (.aaload, 1, 0, 0, 0, 0) := by decide +kernel
theorem k_135_44 : COD 135 44 = some (.iconst 1, 1, 0, 0, 0, 0) := by decide +kernel
theorem k_135_45 : COD 135 45 = some (.iaload, 1, 0, 0, 0, 0) := by decide +kernel
theorem k_135_46 : COD 135 46 = some (.iload_n 3, 1, 0, 0, 0, 0) := by decide +kernel
theorem k_135_47 : COD 135 47 = some (.if_icmp .gt 30, 3, 77, 0, 0, 0) := by decide +kernel
theorem k_135_50 : COD 135 50 = some (.iload 4, 2, 0, 0, 0, 0) := by decide +kernel
theorem k_135_52 : COD 135 52 = some (.ifCond .ne 10, 3, 62, 0, 0, 0) := by decide +kernel
theorem k_135_55 : COD 135 55 = some (.aload_n 0, 1, 0, 0, 0, 0) := by decide +kernel
theorem k_135_56 : COD 135 56 = some (.iload_n 1, 1, 0, 0, 0, 0) := by decide +kernel
theorem k_135_57 : COD 135 57 = some (.iload 5, 2, 0, 0, 0, 0) := by decide +kernel
theorem k_135_59 : COD 135 59 = some (.invokevirtual 56, 3, 133, 2, 706, 9) := by decide +kernel
theorem k_135_62 : COD 135 62 = some (.iload 4, 2, 0, 0, 0, 0) := by decide +kernel
theorem k_135_64 : COD 135 64 = some (.iconst 1, 1, 0, 0, 0, 0) := by decide +kernel
theorem k_135_65 : COD 135 65 = some (.if_icmp .ne 10, 3, 75, 0, 0, 0) := by decide +kernel
theorem k_135_68 : COD 135 68 = some (.aload_n 0, 1, 0, 0, 0, 0) := by decide +kernel
theorem k_135_69 : COD 135 69 = some (.iload_n 1, 1, 0, 0, 0, 0) := by decide +kernel
theorem k_135_70 : COD 135 70 = some (.iload 5, 2, 0, 0, 0, 0) := by decide +kernel
theorem k_135_72 : COD 135 72 = some (.invokevirtual 52, 3, 132, 2, 711, 9) := by decide +kernel
theorem k_135_75 : COD 135 75 = some (.iconst 1, 1, 0, 0, 0, 0) := by decide +kernel
theorem k_135_76 : COD 135 76 = some (.ireturn, 1, 0, 0, 0, 0) := by decide +kernel
theorem k_135_77 : COD 135 77 = some (.aload_n 0, 1, 0, 0, 0, 0) := by decide +kernel
theorem k_135_78 : COD 135 78 = some (.iload_n 1, 1, 0, 0, 0, 0) := by decide +kernel
theorem k_135_79 : COD 135 79 = some (.invokevirtual 59, 3, 134, 1, 715, 9) := by decide +kernel
theorem k_135_82 : COD 135 82 = some (.aload_n 0, 1, 0, 0, 0, 0) := by decide +kernel
theorem k_135_83 : COD 135 83 = some (.iconst 2, 1, 0, 0, 0, 0) := by decide +kernel
theorem k_135_84 : COD 135 84 = some (.iload_n 1, 1, 0, 0, 0, 0) := by decide +kernel
theorem k_135_85 : COD 135 85 = some (.imul, 1, 0, 0, 0, 0) := by decide +kernel
theorem k_135_86 : COD 135 86 = some (.iload_n 2, 1, 0, 0, 0, 0) := by decide +kernel
theorem k_135_87 : COD 135 87 = some (.iload_n 3, 1, 0, 0, 0, 0) := by decide +kernel
theorem k_135_88 : COD 135 88 = some (.iload 4, 2, 0, 0, 0, 0) := by decide +kernel
theorem k_135_90 : COD 135 90 = some (.iload 5, 2, 0, 0, 0, 0) := by decide +kernel
theorem k_135_92 : COD 135 92 = some (.invokevirtual 63, 3, 135, 5, 723, 9) := by decide +kernel
theorem k_135_95 : COD 135 95 = some (.istore 6, 2, 0, 0, 0, 0) := by decide +kernel
theorem k_135_97 : COD 135 97 = some (.iload 6, 2, 0, 0, 0, 0) := by decide +kernel
theorem k_135_99 : COD 135 99 = some (.aload_n 0, 1, 0, 0, 0, 0) := by decide +kernel
theorem k_135_100 : COD 135 100 = some (.iconst 2, 1, 0, 0, 0, 0) := by decide +kernel
theorem k_135_101 : COD 135 101 = some (.iload_n 1, 1, 0, 0, 0, 0) := by decide +kernel
theorem k_135_102 : COD 135 102 = some (.imul, 1, 0, 0, 0, 0) := by decide +kernel
theorem k_135_103 : COD 135 103 = some (.iconst 1, 1, 0, 0, 0, 0) := by decide +kernel
theorem k_135_104 : COD 135 104 = some (.iadd, 1, 0, 0, 0, 0) := by decide +kernel
theorem k_135_105 : COD 135 105 = some (.iload_n 2, 1, 0, 0, 0, 0) := by decide +kernel
theorem k_135_106 : COD 135 106 = some (.iload_n 3, 1, 0, 0, 0, 0) := by decide +kernel
theorem k_135_107 : COD 135 107 = some (.iload 4, 2, 0, 0, 0, 0) := by decide +kernel
theorem k_135_109 : COD 135 109 = some (.iload 5, 2, 0, 0, 0, 0) := by decide +kernel
theorem k_135_111 : COD 135 111 = some (.invokevirtual 63, 3, 135, 5, 723, 9) := by decide +kernel
theorem k_135_114 : COD 135 114 = some (.iadd, 1, 0, 0, 0, 0) := by decide +kernel
theorem k_135_115 : COD 135 115 = some (.ireturn, 1, 0, 0, 0, 0) := by decide +kernel
theorem k_136_0 : COD 136 0 = some (.aload_n 0, 1, 0, 0, 0, 0) := by decide +kernel
theorem k_136_1 : COD 136 1 = some (.iconst 1, 1, 0, 0, 0, 0) := by decide +kernel
theorem k_136_2 : COD 136 2 = some (.invokevirtual 67, 3, 129, 1, 728, 9) := by decide +kernel
theorem k_136_5 : COD 136 5 = some (.iload_n 1, 1, 0, 0, 0, 0) := by decide +kernel
theorem k_136_6 : COD 136 6 = some (.if_icmp .ge 5, 3, 11, 0, 0, 0) := by decide +kernel
theorem k_136_9 : COD 136 9 = some (.iconst (-1), 1, 0, 0, 0, 0) := by decide +kernel
theorem k_136_10 : COD 136 10 = some (.ireturn, 1, 0, 0, 0, 0) := by decide +kernel
theorem k_136_11 : COD 136 11 = some (.iconst 1, 1, 0, 0, 0, 0) := by decide +kernel
theorem k_136_12 : COD 136 12 = some (.istore_n 2, 1, 0, 0, 0, 0) := by decide +kernel
theorem k_136_13 : COD 136 13 = some (.aload_n 0, 1, 0, 0, 0, 0) := by decide +kernel
theorem k_136_14 : COD 136 14 = some (.getfield 24, 3, 9, 5, 1051, 0) := by decide +kernel
theorem k_136_17 : COD 136 17 = some (.iload_n 2, 1, 0, 0, 0, 0) := by decide +kernel
theorem k_136_18 : COD 136 18 = some (.aaload, 1, 0, 0, 0, 0) := by decide +kernel
theorem k_136_19 : COD 136 19 = some (.iconst 0, 1, 0, 0, 0, 0) := by decide +kernel
theorem k_136_20 : COD 136 20 = some (.iaload, 1, 0, 0, 0, 0) := by decide +kernel
theorem k_136_21 : COD 136 21 = some (.aload_n 0, 1, 0, 0, 0, 0) := by decide +kernel
theorem k_136_22 : COD 136 22 = some (.getfield 24, 3, 9, 5, 1051, 0) := by decide +kernel
theorem k_136_25 : COD 136 25 = some (.iload_n 2, 1, 0, 0, 0, 0) := by decide +kernel
theorem k_136_26 : COD 136 26 = some (.aaload, 1, 0, 0, 0, 0) := by decide +kernel
theorem k_136_27 : COD 136 27 = some (.iconst 1, 1, 0, 0, 0, 0) := by decide +kernel
theorem k_136_28 : COD 136 28 = some (.iaload, 1, 0, 0, 0, 0) := by decide +kernel
theorem k_136_29 : COD 136 29 = some (.if_icmp .ge 32, 3, 61, 0, 0, 0) := by decide +kernel
theorem k_136_32 : COD 136 32 = some (.aload_n 0, 1, 0, 0, 0, 0) := by decide +kernel
theorem k_136_33 : COD 136 33 = some (.iload_n 2, 1, 0, 0, 0, 0) := by decide +kernel
theorem k_136_34 : COD 136 34 = some (.invokevirtual 59, 3, 134, 1, 715, 9) := by decide +kernel
theorem k_136_37 : COD 136 37 = some (.iconst 2, 1, 0, 0, 0, 0) := by decide +kernel
theorem k_136_38 : COD 136 38 = some (.iload_n 2, 1, 0, 0, 0, 0) := by decide +kernel
theorem k_136_39 : COD 136 39 = some (.imul, 1, 0, 0, 0, 0) := by decide +kernel
theorem k_136_40 : COD 136 40 = some (.aload_n 0, 1, 0, 0, 0, 0) := by decide +kernel
theorem k_136_41 : COD 136 41 = some (.iconst 2, 1, 0, 0, 0, 0) := by decide +kernel
theorem k_136_42 : COD 136 42 = some (.iload_n 2, 1, 0, 0, 0, 0) := by decide +kernel
theorem k_136_43 : COD 136 43 = some (.imul, 1, 0, 0, 0, 0) := by decide +kernel
theorem k_136_44 : COD 136 44 = some (.invokevirtual 67, 3, 129, 1, 728, 9) := by decide +kernel
theorem k_136_47 : COD 136 47 = some (.iload_n 1, 1, 0, 0, 0, 0) := by decide +kernel
theorem k_136_48 : COD 136 48 = some (.if_icmp .lt 7, 3, 55, 0, 0, 0) := by decide +kernel
theorem k_136_51 : COD 136 51 = some (.iconst 0, 1, 0, 0, 0, 0) := by decide +kernel
theorem k_136_52 : COD 136 52 = some (.goto 4, 3, 56, 0, 0, 0) := by decide +kernel
theorem k_136_55 : COD 136 55 = some (.iconst 1, 1, 0, 0, 0, 0) := by decide +kernel
theorem k_136_56 : COD 136 56 = some (.iadd, 1, 0, 0, 0, 0) := by decide +kernel
theorem k_136_57 : COD 136 57 = some (.istore_n 2, 1, 0, 0, 0, 0) := by decide +kernel
theorem k_136_58 : COD 136 58 = some (.goto (-45), 3, 13, 0, 0, 0) := by decide +kernel
theorem k_136_61 : COD 136 61 = some (.aload_n 0, 1, 0, 0, 0, 0) := by decide +kernel
theorem k_136_62 : COD 136 62 = some (.getfield 24, 3, 9, 5, 1051, 0) := by decide +kernel
theorem k_136_65 : COD 136 65 = some (.iload_n 2, 1, 0, 0, 0, 0) := by decide +kernel
theorem k_136_66 : COD 136 66 = some (.aaload, 1, 0, 0, 0, 0) := by decide +kernel
theorem k_136_67 : COD 136 67 = some (.iconst 0, 1, 0, 0, 0, 0) := by decide +kernel
theorem k_136_68 : COD 136 68 = some (.iaload, 1, 0, 0, 0, 0) := by decide +kernel
theorem k_136_69 : COD 136 69 = some (.ireturn, 1, 0, 0, 0, 0) := by decide +kernel
theorem k_137_0 : COD 137 0 = some (.aload_n 0, 1, 0, 0, 0, 0) := by decide +kernel
theorem k_137_1 : COD 137 1 = some (.getfield 36, 3, 9, 2, 1047, 0) := by decide +kernel
theorem k_137_4 : COD 137 4 = some (.istore_n 2, 1, 0, 0, 0, 0) := by decide +kernel
theorem k_137_5 : COD 137 5 = some (.iconst 0, 1, 0, 0, 0, 0) := by decide +kernel
theorem k_137_6 : COD 137 6 = some (.istore_n 3, 1, 0, 0, 0, 0) := by decide +kernel
theorem k_137_7 : COD 137 7 = some (.iload_n 3, 1, 0, 0, 0, 0) := by decide +kernel
theorem k_137_8 : COD 137 8 = some (.iload_n 1, 1, 0, 0, 0, 0) := by decide +kernel
theorem k_137_9 : COD 137 9 = some (.if_icmp .ge 170, 3, 179, 0, 0, 0) := by decide +kernel
theorem k_137_12 : COD 137 12 = some (.aload_n 0, 1, 0, 0, 0, 0) := by decide +kernel
theorem k_137_13 : COD 137 13 = some (.getfield 15, 3, 9, 3, 1048, 0) := by decide +kernel
theorem k_137_16 : COD 137 16 = some (.astore 4, 2, 0, 0, 0, 0) := by decide +kernel
theorem k_137_18 : COD 137 18 = some (.aload 4, 2, 0, 0, 0, 0) := by decide +kernel
theorem k_137_20 : COD 137 20 = some (.arraylength, 1, 0, 0, 0, 0) := by decide +kernel
theorem k_137_21 : COD 137 21 = some (.istore 5, 2, 0, 0, 0, 0) := by decide +kernel
theorem k_137_23 : COD 137 23 = some (.iconst 0, 1, 0, 0, 0, 0) := by decide +kernel
theorem k_137_24 : COD 137 24 = some (.istore 6, 2, 0, 0, 0, 0) := by decide +kernel
theorem k_137_26 : COD 137 26 = some (.iload 6, 2, 0, 0, 0, 0) := by decide +kernel
theorem k_137_28 : COD 137 28 = some (.iload 5, 2, 0, 0, 0, 0) := by decide +kernel
theorem k_137_30 : COD 137 30 = some (.if_icmp .ge 133, 3, 163, 0, 0, 0) := by decide +kernel
theorem k_137_33 : COD 137 33 = some (.aload 4, 2, 0, 0, 0, 0) := by decide +kernel
theorem k_137_35 : COD 137 35 = some (.iload 6, 2, 0, 0, 0, 0) := by decide +kernel
theorem k_137_37 : COD 137 37 = some (.aaload, 1, 0, 0, 0, 0) := by decide +kernel
theorem k_137_38 : COD 137 38 = some (.astore 7, 2, 0, 0, 0, 0) := by decide +kernel
theorem k_137_40 : COD 137 40 = some (.aload 7, 2, 0, 0, 0, 0) := by decide +kernel
theorem k_137_42 : COD 137 42 = some (.getfield 71, 3, 8, 4, 1224, 0) := by decide +kernel
theorem k_137_45 : COD 137 45 = some (.ifnull 19, 3, 64, 0, 0, 0) := by decide +kernel
theorem k_137_48 : COD 137 48 = some (.aload 7, 2, 0, 0, 0, 0) := by decide +kernel
theorem k_137_50 : COD 137 50 = some (.getfield 71, 3, 8, 4, 1224, 0) := by decide +kernel
theorem k_137_53 : COD 137 53 = some (.aload_n 0, 1, 0, 0, 0, 0) := by decide +kernel
theorem k_137_54 : COD 137 54 = some (.invokevirtual 75, 3, 140, 1, 741, 10) := by decide +kernel
theorem k_137_57 : COD 137 57 = some (.iconst 1, 1, 0, 0, 0, 0) := by decide +kernel
theorem k_137_58 : COD 137 58 = some (.if_icmp .eq 6, 3, 64, 0, 0, 0) := by decide +kernel
theorem k_137_61 : COD 137 61 = some (.goto 96, 3, 157, 0, 0, 0) := by decide +kernel
theorem k_137_64 : COD 137 64 = some (.aload 7, 2, 0, 0, 0, 0) := by decide +kernel
theorem k_137_66 : COD 137 66 = some (.getfield 81, 3, 8, 0, 1212, 0) := by decide +kernel
theorem k_137_69 : COD 137 69 = some (.iconst 2, 1, 0, 0, 0, 0) := by decide +kernel
theorem k_137_70 : COD 137 70 = some (.if_icmp .ne 7, 3, 77, 0, 0, 0) := by decide +kernel
theorem k_137_73 : COD 137 73 = some (.iconst 0, 1, 0, 0, 0, 0) := by decide +kernel
theorem k_137_74 : COD 137 74 = some (.goto 24, 3, 98, 0, 0, 0) := by decide +kernel
theorem k_137_77 : COD 137 77 = some (.sipush (-999), 3, 0, 0, 0, 0) := by decide +kernel
theorem k_137_80 : COD 137 80 = some (.sipush 999, 3, 0, 0, 0, 0) := by decide +kernel
theorem k_137_83 : COD 137 83 = some (.aload 7, 2, 0, 0, 0, 0) := by decide +kernel
theorem k_137_85 : COD 137 85 = some (.getfield 84, 3, 8, 1, 1215, 0) := by decide +kernel
theorem k_137_88 : COD 137 88 = some (.aload_n 0, 1, 0, 0, 0, 0) := by decide +kernel
theorem k_137_89 : COD 137 89 = some (.invokevirtual 75, 3, 140, 1, 741, 10) := by decide +kernel
theorem k_137_92 : COD 137 92 = some (.invokestatic 87, 3, 226, 2, 772, 0) := by decide +kernel
theorem k_137_95 : COD 137 95 = some (.invokestatic 47, 3, 225, 2, 736, 0) := by decide +kernel
theorem k_137_98 : COD 137 98 = some (.istore 8, 2, 0, 0, 0, 0) := by decide +kernel
theorem k_137_100 : COD 137 100 = some (.aload_n 0, 1, 0, 0, 0, 0) := by decide +kernel
theorem k_137_101 : COD 137 101 = some (.aload 7, 2, 0, 0, 0, 0) := by decide +kernel
theorem k_137_103 : COD 137 103 = some (.getfield 90, 3, 8, 2, 1218, 0) := by decide +kernel
theorem k_137_106 : COD 137 106 = some (.aload_n 0, 1, 0, 0, 0, 0) := by decide +kernel
theorem k_137_107 : COD 137 107 = some (.invokevirtual 75, 3, 140, 1, 741, 10) := by decide +kernel
theorem k_137_110 : COD 137 110 = some (.invokevirtual 93, 3, 131, 1, 773, 9) := by decide +kernel
theorem k_137_113 : COD 137 113 = some (.istore 9, 2, 0, 0, 0, 0) := by decide +kernel
theorem k_137_115 : COD 137 115 = some (.aload_n 0, 1, 0, 0, 0, 0) := by decide +kernel
theorem k_137_116 : COD 137 116 = some (.aload 7, 2, 0, 0, 0, 0) := by decide +kernel
theorem k_137_118 : COD 137 118 = some (.getfield 96, 3, 8, 3, 1221, 0) := by decide +kernel
theorem k_137_121 : COD 137 121 = some (.aload_n 0, 1, 0, 0, 0, 0) := by decide +kernel
theorem k_137_122 : COD 137 122 = some (.invokevirtual 75, 3, 140, 1, 741, 10) := by decide +kernel
theorem k_137_125 : COD 137 125 = some (.invokevirtual 93, 3, 131, 1, 773, 9) := by decide +kernel
theorem k_137_128 : COD 137 128 = some (.istore 10, 2, 0, 0, 0, 0) := by decide +kernel
theorem k_137_130 : COD 137 130 = some (.aload_n 0, 1, 0, 0, 0, 0) := by decide +kernel
theorem k_137_131 : COD 137 131 = some (.iconst 1, 1, 0, 0, 0, 0) := by decide +kernel
theorem k_137_132 : COD 137 132 = some (.iload 9, 2, 0, 0, 0, 0) := by decide +kernel
theorem k_137_134 : COD 137 134 = some (.iload 10, 2, 0, 0, 0, 0) := by decide +kernel
theorem k_137_136 : COD 137 136 = some (.invokestatic 87, 3, 226, 2, 772, 0) := by decide +kernel
theorem k_137_139 : COD 137 139 = some (.iload 9, 2, 0, 0, 0, 0) := by decide +kernel
theorem k_137_141 : COD 137 141 = some (.iload 10, 2, 0, 0, 0, 0) := by decide +kernel
theorem k_137_143 : COD 137 143 = some (.invokestatic 47, 3, 225, 2, 736, 0) := by decide +kernel
theorem k_137_146 : COD 137 146 = some (.aload 7, 2, 0, 0, 0, 0) := by decide +kernel
theorem k_137_148 : COD 137 148 = some (.getfield 81, 3, 8, 0, 1212, 0) := by decide +kernel
theorem k_137_151 : COD 137 151 = some (.iload 8, 2, 0, 0, 0, 0) := by decide +kernel
theorem k_137_153 : COD 137 153 = some (.invokevirtual 63, 3, 135, 5, 723, 9) := by decide +kernel
theorem k_137_156 : COD 137 156 = some (.pop, 1, 0, 0, 0, 0) := by decide +kernel
theorem k_137_157 : COD 137 157 = some (.iinc 6 1, 3, 0, 0, 0, 0) := by decide +kernel
theorem k_137_160 : COD 137 160 = some (.goto (-134), 3, 26, 0, 0, 0) := by decide +kernel
theorem k_137_163 : COD 137 163 = some (.aload_n 0, 1, 0, 0, 0, 0) := by decide +kernel
theorem k_137_164 : COD 137 164 = some (.dup, 1, 0, 0, 0, 0) := by decide +kernel
theorem k_137_165 : COD 137 165 = some (.getfield 33, 3, 9, 1, 1044, 0) := by decide +kernel
theorem k_137_168 : COD 137 168 = some (.iconst 1, 1, 0, 0, 0, 0) := by decide +kernel
theorem k_137_169 : COD 137 169 = some (.iadd, 1, 0, 0, 0, 0) := by decide +kernel
theorem k_137_170 : COD 137 170 = some (.putfield 33, 3, 9, 1, 1044, 0) := by decide +kernel
theorem k_137_173 : COD 137 173 = some (.iinc 3 1, 3, 0, 0, 0, 0) := by decide +kernel
theorem k_137_176 : COD 137 176 = some (.goto (-169), 3, 7, 0, 0, 0) := by decide +kernel
theorem k_137_179 : COD 137 179 = some (.aload_n 0, 1, 0, 0, 0, 0) := by decide +kernel
theorem k_137_180 : COD 137 180 = some (.getfield 36, 3, 9, 2, 1047, 0) := by decide +kernel
theorem k_137_183 : COD 137 183 = some (.iload_n 2, 1, 0, 0, 0, 0) := by decide +kernel
theorem k_137_184 : COD 137 184 = some (.isub, 1, 0, 0, 0, 0) := by decide +kernel
theorem k_137_185 : COD 137 185 = some (.ireturn, 1, 0, 0, 0, 0) := by decide +kernel
theorem k_138_0 : COD 138 0 = some (.aload_n 1, 1, 0, 0, 0, 0) := by decide +kernel
theorem k_138_1 : COD 138 1 = some (.invokevirtual 99, 3, 88, 0, 778, 7) := by decide +kernel
theorem k_138_4 : COD 138 4 = some (.aload_n 0, 1, 0, 0, 0, 0) := by decide +kernel
theorem k_138_5 : COD 138 5 = some (.getfield 7, 3, 9, 0, 1041, 0) := by decide +kernel
theorem k_138_8 : COD 138 8 = some (.if_icmp .ne 83, 3, 91, 0, 0, 0) := by decide +kernel
theorem k_138_11 : COD 138 11 = some (.aload_n 1, 1, 0, 0, 0, 0) := by decide +kernel
theorem k_138_12 : COD 138 12 = some (.invokevirtual 105, 3, 89, 0, 779, 7) := by decide +kernel
theorem k_138_15 : COD 138 15 = some (.iconst 2, 1, 0, 0, 0, 0) := by decide +kernel
theorem k_138_16 : COD 138 16 = some (.aload_n 0, 1, 0, 0, 0, 0) := by decide +kernel
theorem k_138_17 : COD 138 17 = some (.getfield 7, 3, 9, 0, 1041, 0) := by decide +kernel
theorem k_138_20 : COD 138 20 = some (.imul, 1, 0, 0, 0, 0) := by decide +kernel
theorem k_138_21 : COD 138 21 = some (.iconst 1, 1, 0, 0, 0, 0) := by decide +kernel
theorem k_138_22 : COD 138 22 = some (.isub, 1, 0, 0, 0, 0) := by decide +kernel
theorem k_138_23 : COD 138 23 = some (.if_icmp .ne 68, 3, 91, 0, 0, 0) := by decide +kernel
theorem k_138_26 : COD 138 26 = some (.aload_n 1, 1, 0, 0, 0, 0) := by decide +kernel
theorem k_138_27 : COD 138 27 = some (.invokevirtual 108, 3, 90, 0, 780, 7) := by decide +kernel
theorem k_138_30 : COD 138 30 = some (.aload_n 0, 1, 0, 0, 0, 0) := by decide +kernel
theorem k_138_31 : COD 138 31 = some (.getfield 15, 3, 9, 3, 1048, 0) := by decide +kernel
theorem k_138_34 : COD 138 34 = some (.arraylength, 1, 0, 0, 0, 0) := by decide +kernel
theorem k_138_35 : COD 138 35 = some (.if_icmp .ne 56, 3, 91, 0, 0, 0) := by decide +kernel
theorem k_138_38 : COD 138 38 = some (.aload_n 1, 1, 0, 0, 0, 0) := by decide +kernel
theorem k_138_39 : COD 138 39 = some (.invokevirtual 110, 3, 91, 0, 781, 7) := by decide +kernel
theorem k_138_42 : COD 138 42 = some (.aload_n 0, 1, 0, 0, 0, 0) := by decide +kernel
theorem k_138_43 : COD 138 43 = some (.getfield 33, 3, 9, 1, 1044, 0) := by decide +kernel
theorem k_138_46 : COD 138 46 = some (.if_icmp .ne 45, 3, 91, 0, 0, 0) := by decide +kernel
theorem k_138_49 : COD 138 49 = some (.aload_n 1, 1, 0, 0, 0, 0) := by decide +kernel
theorem k_138_50 : COD 138 50 = some (.invokevirtual 112, 3, 92, 0, 782, 7) := by decide +kernel
theorem k_138_53 : COD 138 53 = some (.aload_n 0, 1, 0, 0, 0, 0) := by decide +kernel
theorem k_138_54 : COD 138 54 = some (.getfield 36, 3, 9, 2, 1047, 0) := by decide +kernel
theorem k_138_57 : COD 138 57 = some (.if_icmp .ne 34, 3, 91, 0, 0, 0) := by decide +kernel
theorem k_138_60 : COD 138 60 = some (.aload_n 1, 1, 0, 0, 0, 0) := by decide +kernel
theorem k_138_61 : COD 138 61 = some (.invokevirtual 114, 3, 93, 0, 783, 7) := by decide +kernel
theorem k_138_64 : COD 138 64 = some (.aload_n 0, 1, 0, 0, 0, 0) := by decide +kernel
theorem k_138_65 : COD 138 65 = some (.invokevirtual 117, 3, 125, 0, 784, 9) := by decide +kernel
theorem k_138_68 : COD 138 68 = some (.if_icmp .ne 23, 3, 91, 0, 0, 0) := by decide +kernel
theorem k_138_71 : COD 138 71 = some (.aload_n 1, 1, 0, 0, 0, 0) := by decide +kernel
theorem k_138_72 : COD 138 72 = some (.invokevirtual 120, 3, 117, 0, 785, 7) := by decide +kernel
theorem k_138_75 : COD 138 75 = some (.aload_n 0, 1, 0, 0, 0, 0) := by decide +kernel
theorem k_138_76 : COD 138 76 = some (.iconst 1, 1, 0, 0, 0, 0) := by decide +kernel
theorem k_138_77 : COD 138 77 = some (.invokevirtual 124, 3, 128, 1, 786, 9) := by decide +kernel
theorem k_138_80 : COD 138 80 = some (.l2d, 1, 0, 0, 0, 0) := by decide +kernel
theorem k_138_81 : COD 138 81 = some (.aload_n 0, 1, 0, 0, 0, 0) := by decide +kernel
theorem k_138_82 : COD 138 82 = some (.getfield 7, 3, 9, 0, 1041, 0) := by decide +kernel
theorem k_138_85 : COD 138 85 = some (.i2d, 1, 0, 0, 0, 0) := by decide +kernel
theorem k_138_86 : COD 138 86 = some (.ddiv, 1, 0, 0, 0, 0) := by decide +kernel
theorem k_138_87 : COD 138 87 = some (.dcmp .l, 1, 0, 0, 0, 0) := by decide +kernel
theorem k_138_88 : COD 138 88 = some (.ifCond .eq 5, 3, 93, 0, 0, 0) := by decide +kernel
theorem k_138_91 : COD 138 91 = some (.iconst 0, 1, 0, 0, 0, 0) := by decide +kernel
theorem k_138_92 : COD 138 92 = some (.ireturn, 1, 0, 0, 0, 1) := by decide +kernel
theorem k_138_93 : COD 138 93 = some (.iconst 1, 1, 0, 0, 0, 0) := by decide +kernel
theorem k_138_94 : COD 138 94 = some (.istore_n 2, 1, 0, 0, 0, 0) := by decide +kernel
theorem k_138_95 : COD 138 95 = some (.iload_n 2, 1, 0, 0, 0, 0) := by decide +kernel
theorem k_138_96 : COD 138 96 = some (.bipush 64, 2, 0, 0, 0, 0) := by decide +kernel
theorem k_138_98 : COD 138 98 = some (.if_icmp .ge 165, 3, 263, 0, 0, 0) := by decide +kernel
theorem k_138_101 : COD 138 101 = some (.aload_n 0, 1, 0, 0, 0, 0) := by decide +kernel
theorem k_138_102 : COD 138 102 = some (.getfield 24, 3, 9, 5, 1051, 0) := by decide +kernel
theorem k_138_105 : COD 138 105 = some (.iload_n 2, 1, 0, 0, 0, 0) := by decide +kernel
theorem k_138_106 : COD 138 106 = some (.aaload, 1, 0, 0, 0, 0) := by decide +kernel
theorem k_138_107 : COD 138 107 = some (.ifnonnull 6, 3, 113, 0, 0, 0) := by decide +kernel
theorem k_138_110 : COD 138 110 = some (.goto 147, 3, 257, 0, 0, 0) := by decide +kernel
theorem k_138_113 : COD 138 113 = some (.aload_n 1, 1, 0, 0, 0, 0) := by decide +kernel
theorem k_138_114 : COD 138 114 = some (.iload_n 2, 1, 0, 0, 0, 0) := by decide +kernel
theorem k_138_115 : COD 138 115 = some (.invokevirtual 128, 3, 94, 1, 787, 7) := by decide +kernel
theorem k_138_118 : COD 138 118 = some (.aload_n 0, 1, 0, 0, 0, 0) := by decide +kernel
theorem k_138_119 : COD 138 119 = some (.getfield 24, 3, 9, 5, 1051, 0) := by decide +kernel
theorem k_138_122 : COD 138 122 = some (.iload_n 2, 1, 0, 0, 0, 0) := by decide +kernel
theorem k_138_123 : COD 138 123 = some (.aaload, 1, 0, 0, 0, 0) := by decide +kernel
theorem k_138_124 : COD 138 124 = some (.iconst 0, 1, 0, 0, 0, 0) := by decide +kernel
theorem k_138_125 : COD 138 125 = some (.iaload, 1, 0, 0, 0, 0) := by decide +kernel
theorem k_138_126 : COD 138 126 = some (.if_icmp .ne 129, 3, 255, 0, 0, 0) := by decide +kernel
theorem k_138_129 : COD 138 129 = some (.aload_n 1, 1, 0, 0, 0, 0) := by decide +kernel
theorem k_138_130 : COD 138 130 = some (.iload_n 2, 1, 0, 0, 0, 0) := by decide +kernel
theorem k_138_131 : COD 138 131 = some (.invokevirtual 131, 3, 95, 1, 788, 7) := by decide +kernel
theorem k_138_134 : COD 138 134 = some (.aload_n 0, 1, 0, 0, 0, 0) := by decide +kernel
theorem k_138_135 : COD 138 135 = some (.getfield 24, 3, 9, 5, 1051, 0) := by decide +kernel
theorem k_138_138 : COD 138 138 = some (.iload_n 2, 1, 0, 0, 0, 0) := by decide +kernel
theorem k_138_139 : COD 138 139 = some (.aaload, 1, 0, 0, 0, 0) := by decide +kernel
theorem k_138_140 : COD 138 140 = some (.iconst 1, 1, 0, 0, 0, 0) := by decide +kernel
theorem k_138_141 : COD 138 141 = some (.iaload, 1, 0, 0, 0, 0) := by decide +kernel
theorem k_138_142 : COD 138 142 = some (.if_icmp .ne 113, 3, 255, 0, 0, 0) := by decide +kernel
theorem k_138_145 : COD 138 145 = some (.aload_n 1, 1, 0, 0, 0, 0) := by decide +kernel
theorem k_138_146 : COD 138 146 = some (.iload_n 2, 1, 0, 0, 0, 0) := by decide +kernel
theorem k_138_147 : COD 138 147 = some (.invokevirtual 134, 3, 96, 1, 789, 7) := by decide +kernel
theorem k_138_150 : COD 138 150 = some (.aload_n 0, 1, 0, 0, 0, 0) := by decide +kernel
theorem k_138_151 : COD 138 151 = some (.iload_n 2, 1, 0, 0, 0, 0) := by decide +kernel
theorem k_138_152 : COD 138 152 = some (.invokevirtual 124, 3, 128, 1, 786, 9) := by decide +kernel
theorem k_138_155 : COD 138 155 = some (.lcmp, 1, 0, 0, 0, 0) := by decide +kernel
theorem k_138_156 : COD 138 156 = some (.ifCond .ne 99, 3, 255, 0, 0, 0) := by decide +kernel
theorem k_138_159 : COD 138 159 = some (.aload_n 1, 1, 0, 0, 0, 0) := by decide +kernel
theorem k_138_160 : COD 138 160 = some (.iload_n 2, 1, 0, 0, 0, 0) := by decide +kernel
theorem k_138_161 : COD 138 161 = some (.invokevirtual 137, 3, 97, 1, 790, 7) := by decide +kernel
theorem k_138_164 : COD 138 164 = some (.aload_n 0, 1, 0, 0, 0, 0) := by decide +kernel
theorem k_138_165 : COD 138 165 = some (.iload_n 2, 1, 0, 0, 0, 0) := by decide +kernel
theorem k_138_166 : COD 138 166 = some (.invokevirtual 67, 3, 129, 1, 728, 9) := by decide +kernel
theorem k_138_169 : COD 138 169 = some (.if_icmp .ne 86, 3, 255, 0, 0, 0) := by decide +kernel
theorem k_138_172 : COD 138 172 = some (.aload_n 1, 1, 0, 0, 0, 0) := by decide +kernel
theorem k_138_173 : COD 138 173 = some (.iload_n 2, 1, 0, 0, 0, 0) := by decide +kernel
theorem k_138_174 : COD 138 174 = some (.invokevirtual 140, 3, 98, 1, 791, 7) := by decide +kernel
theorem k_138_177 : COD 138 177 = some (.aload_n 0, 1, 0, 0, 0, 0) := by decide +kernel
theorem k_138_178 : COD 138 178 = some (.iload_n 2, 1, 0, 0, 0, 0) := by decide +kernel
theorem k_138_179 : COD 138 179 = some (.invokevirtual 143, 3, 130, 1, 792, 9) := by decide +kernel
theorem k_138_182 : COD 138 182 = some (.ineg, 1, 0, 0, 0, 0) := by decide +kernel
theorem k_138_183 : COD 138 183 = some (.if_icmp .ne 72, 3, 255, 0, 0, 0) := by decide +kernel
theorem k_138_186 : COD 138 186 = some (.aload_n 1, 1, 0, 0, 0, 0) := by decide +kernel
theorem k_138_187 : COD 138 187 = some (.iload_n 2, 1, 0, 0, 0, 0) := by decide +kernel
theorem k_138_188 : COD 138 188 = some (.invokevirtual 146, 3, 99, 1, 793, 7) := by decide +kernel
theorem k_138_191 : COD 138 191 = some (.aload_n 0, 1, 0, 0, 0, 0) := by decide +kernel
theorem k_138_192 : COD 138 192 = some (.getfield 24, 3, 9, 5, 1051, 0) := by decide +kernel
theorem k_138_195 : COD 138 195 = some (.iload_n 2, 1, 0, 0, 0, 0) := by decide +kernel
theorem k_138_196 : COD 138 196 = some (.aaload, 1, 0, 0, 0, 0) := by decide +kernel
theorem k_138_197 : COD 138 197 = some (.iconst 4, 1, 0, 0, 0, 0) := by decide +kernel
theorem k_138_198 : COD 138 198 = some (.iaload, 1, 0, 0, 0, 0) := by decide +kernel
theorem k_138_199 : COD 138 199 = some (.if_icmp .ne 56, 3, 255, 0, 0, 0) := by decide +kernel
theorem k_138_202 : COD 138 202 = some (.aload_n 1, 1, 0, 0, 0, 0) := by decide +kernel
theorem k_138_203 : COD 138 203 = some (.iload_n 2, 1, 0, 0, 0, 0) := by decide +kernel
theorem k_138_204 : COD 138 204 = some (.invokevirtual 149, 3, 100, 1, 794, 7) := by decide +kernel
theorem k_138_207 : COD 138 207 = some (.aload_n 0, 1, 0, 0, 0, 0) := by decide +kernel
theorem k_138_208 : COD 138 208 = some (.getfield 24, 3, 9, 5, 1051, 0) := by decide +kernel
theorem k_138_211 : COD 138 211 = some (.iload_n 2, 1, 0, 0, 0, 0) := by decide +kernel
theorem k_138_212 : COD 138 212 = some (.aaload, 1, 0, 0, 0, 0) := by decide +kernel
theorem k_138_213 : COD 138 213 = some (.iconst 2, 1, 0, 0, 0, 0) := by decide +kernel
theorem k_138_214 : COD 138 214 = some (.iaload, 1, 0, 0, 0, 0) := by decide +kernel
theorem k_138_215 : COD 138 215 = some (.iconst 1, 1, 0, 0, 0, 0) := by decide +kernel
theorem k_138_216 : COD 138 216 = some (.if_icmp .ne 7, 3, 223, 0, 0, 0) := by decide +kernel
theorem k_138_219 : COD 138 219 = some (.iconst 1, 1, 0, 0, 0, 0) := by decide +kernel
theorem k_138_220 : COD 138 220 = some (.goto 4, 3, 224, 0, 0, 0) := by decide +kernel
theorem k_138_223 : COD 138 223 = some (.iconst 0, 1, 0, 0, 0, 0) := by decide +kernel
theorem k_138_224 : COD 138 224 = some (.if_icmp .ne 31, 3, 255, 0, 0, 0) := by decide +kernel
theorem k_138_227 : COD 138 227 = some (.aload_n 0, 1, 0, 0, 0, 0) := by decide +kernel
theorem k_138_228 : COD 138 228 = some (.getfield 24, 3, 9, 5, 1051, 0) := by decide +kernel
theorem k_138_231 : COD 138 231 = some (.iload_n 2, 1, 0, 0, 0, 0) := by decide +kernel
theorem k_138_232 : COD 138 232 = some (.aaload, 1, 0, 0, 0, 0) := by decide +kernel
theorem k_138_233 : COD 138 233 = some (.iconst 2, 1, 0, 0, 0, 0) := by decide +kernel
theorem k_138_234 : COD 138 234 = some (.iaload, 1, 0, 0, 0, 0) := by decide +kernel
theorem k_138_235 : COD 138 235 = some (.iconst 1, 1, 0, 0, 0, 0) := by decide +kernel
theorem k_138_236 : COD 138 236 = some (.if_icmp .ne 21, 3, 257, 0, 0, 0) := by decide +kernel
theorem k_138_239 : COD 138 239 = some (.aload_n 1, 1, 0, 0, 0, 0) := by decide +kernel
theorem k_138_240 : COD 138 240 = some (.iload_n 2, 1, 0, 0, 0, 0) := by decide +kernel
theorem k_138_241 : COD 138 241 = some (.invokevirtual 152, 3, 101, 1, 795, 7) := by decide +kernel
theorem k_138_244 : COD 138 244 = some (.aload_n 0, 1, 0, 0, 0, 0) := by decide +kernel
theorem k_138_245 : COD 138 245 = some (.getfield 24, 3, 9, 5, 1051, 0) := by decide +kernel
theorem k_138_248 : COD 138 248 = some (.iload_n 2, 1, 0, 0, 0, 0) := by decide +kernel
theorem k_138_249 : COD 138 249 = some (.aaload, 1, 0, 0, 0, 0) := by decide +kernel
theorem k_138_250 : COD 138 250 = some (.iconst 3, 1, 0, 0, 0, 0) := by decide +kernel
theorem k_138_251 : COD 138 251 = some (.iaload, 1, 0, 0, 0, 0) := by decide +kernel
theorem k_138_252 : COD 138 252 = some (.if_icmp .eq 5, 3, 257, 0, 0, 0) := by decide +kernel
theorem k_138_255 : COD 138 255 = some (.iconst 0, 1, 0, 0, 0, 0) := by decide +kernel
theorem k_138_256 : COD 138 256 = some (.ireturn, 1, 0, 0, 0, 1) := by decide +kernel
theorem k_138_257 : COD 138 257 = some (.iinc 2 1, 3, 0, 0, 0, 0) := by decide +kernel
theorem k_138_260 : COD 138 260 = some (.goto (-165), 3, 95, 0, 0, 0) := by decide +kernel
theorem k_138_263 : COD 138 263 = some (.iconst 0, 1, 0, 0, 0, 0) := by decide +kernel
theorem k_138_264 : COD 138 264 = some (.istore_n 2, 1, 0, 0, 0, 0) := by decide +kernel
theorem k_138_265 : COD 138 265 = some (.iload_n 2, 1, 0, 0, 0, 0) := by decide +kernel
theorem k_138_266 : COD 138 266 = some (.aload_n 0, 1, 0, 0, 0, 0) := by decide +kernel
theorem k_138_267 : COD 138 267 = some (.getfield 7, 3, 9, 0, 1041, 0) := by decide +kernel
theorem k_138_270 : COD 138 270 = some (.if_icmp .ge 104, 3, 374, 0, 0, 0) := by decide +kernel
theorem k_138_273 : COD 138 273 = some (.iconst 0, 1, 0, 0, 0, 0) := by decide +kernel
theorem k_138_274 : COD 138 274 = some (.istore_n 3, 1, 0, 0, 0, 0) := by decide +kernel
theorem k_138_275 : COD 138 275 = some (.iconst 1, 1, 0, 0, 0, 0) := by decide +kernel
theorem k_138_276 : COD 138 276 = some (.istore 4, 2, 0, 0, 0, 0) := by decide +kernel
theorem k_138_278 : COD 138 278 = some (.iload 4, 2, 0, 0, 0, 0) := by decide +kernel
theorem k_138_280 : COD 138 280 = some (.bipush 64, 2, 0, 0, 0, 0) := by decide +kernel
theorem k_138_282 : COD 138 282 = some (.if_icmp .ge 62, 3, 344, 0, 0, 0) := by decide +kernel
theorem k_138_285 : COD 138 285 = some (.iload_n 3, 1, 0, 0, 0, 0) := by decide +kernel
theorem k_138_286 : COD 138 286 = some (.aload_n 0, 1, 0, 0, 0, 0) := by decide +kernel
theorem k_138_287 : COD 138 287 = some (.getfield 24, 3, 9, 5, 1051, 0) := by decide +kernel
theorem k_138_290 : COD 138 290 = some (.iload 4, 2, 0, 0, 0, 0) := by decide +kernel
theorem k_138_292 : COD 138 292 = some (.aaload, 1, 0, 0, 0, 0) := by decide +kernel
theorem k_138_293 : COD 138 293 = some (.ifnull 42, 3, 335, 0, 0, 0) := by decide +kernel
theorem k_138_296 : COD 138 296 = some (.aload_n 0, 1, 0, 0, 0, 0) := by decide +kernel
theorem k_138_297 : COD 138 297 = some (.getfield 24, 3, 9, 5, 1051, 0) := by decide +kernel
theorem k_138_300 : COD 138 300 = some (.iload 4, 2, 0, 0, 0, 0) := by decide +kernel
theorem k_138_302 : COD 138 302 = some (.aaload, 1, 0, 0, 0, 0) := by decide +kernel
theorem k_138_303 : COD 138 303 = some (.iconst 0, 1, 0, 0, 0, 0) := by decide +kernel
theorem k_138_304 : COD 138 304 = some (.iaload, 1, 0, 0, 0, 0) := by decide +kernel
theorem k_138_305 : COD 138 305 = some (.iload_n 2, 1, 0, 0, 0, 0) := by decide +kernel
theorem k_138_306 : COD 138 306 = some (.if_icmp .gt 29, 3, 335, 0, 0, 0) := by decide +kernel
theorem k_138_309 : COD 138 309 = some (.iload_n 2, 1, 0, 0, 0, 0) := by decide +kernel
theorem k_138_310 : COD 138 310 = some (.aload_n 0, 1, 0, 0, 0, 0) := by decide +kernel
theorem k_138_311 : COD 138 311 = some (.getfield 24, 3, 9, 5, 1051, 0) := by decide +kernel
theorem k_138_314 : COD 138 314 = some (.iload 4, 2, 0, 0, 0, 0) := by decide +kernel
theorem k_138_316 : COD 138 316 = some (.aaload, 1, 0, 0, 0, 0) := by decide +kernel
theorem k_138_317 : COD 138 317 = some (.iconst 1, 1, 0, 0, 0, 0) := by decide +kernel
theorem k_138_318 : COD 138 318 = some (.iaload, 1, 0, 0, 0, 0) := by decide +kernel
theorem k_138_319 : COD 138 319 = some (.if_icmp .gt 16, 3, 335, 0, 0, 0) := by decide +kernel
theorem k_138_322 : COD 138 322 = some (.aload_n 0, 1, 0, 0, 0, 0) := by decide +kernel
theorem k_138_323 : COD 138 323 = some (.iload 4, 2, 0, 0, 0, 0) := by decide +kernel
theorem k_138_325 : COD 138 325 = some (.invokevirtual 39, 3, 124, 1, 719, 9) := by decide +kernel
theorem k_138_328 : COD 138 328 = some (.ifCond .eq 7, 3, 335, 0, 0, 0) := by decide +kernel
theorem k_138_331 : COD 138 331 = some (.iconst 1, 1, 0, 0, 0, 0) := by decide +kernel
theorem k_138_332 : COD 138 332 = some (.goto 4, 3, 336, 0, 0, 0) := by decide +kernel
theorem k_138_335 : COD 138 335 = some (.iconst 0, 1, 0, 0, 0, 0) := by decide +kernel
theorem k_138_336 : COD 138 336 = some (.iadd, 1, 0, 0, 0, 0) := by decide +kernel
theorem k_138_337 : COD 138 337 = some (.istore_n 3, 1, 0, 0, 0, 0) := by decide +kernel
theorem k_138_338 : COD 138 338 = some (.iinc 4 1, 3, 0, 0, 0, 0) := by decide +kernel
theorem k_138_341 : COD 138 341 = some (.goto (-63), 3, 278, 0, 0, 0) := by decide +kernel
theorem k_138_344 : COD 138 344 = some (.aload_n 1, 1, 0, 0, 0, 0) := by decide +kernel
theorem k_138_345 : COD 138 345 = some (.iload_n 2, 1, 0, 0, 0, 0) := by decide +kernel
theorem k_138_346 : COD 138 346 = some (.invokevirtual 155, 3, 102, 1, 796, 7) := by decide +kernel
theorem k_138_349 : COD 138 349 = some (.aload_n 0, 1, 0, 0, 0, 0) := by decide +kernel
theorem k_138_350 : COD 138 350 = some (.iload_n 2, 1, 0, 0, 0, 0) := by decide +kernel
theorem k_138_351 : COD 138 351 = some (.invokevirtual 158, 3, 127, 1, 797, 9) := by decide +kernel
theorem k_138_354 : COD 138 354 = some (.if_icmp .ne 12, 3, 366, 0, 0, 0) := by decide +kernel
theorem k_138_357 : COD 138 357 = some (.aload_n 1, 1, 0, 0, 0, 0) := by decide +kernel
theorem k_138_358 : COD 138 358 = some (.iload_n 2, 1, 0, 0, 0, 0) := by decide +kernel
theorem k_138_359 : COD 138 359 = some (.invokevirtual 161, 3, 103, 1, 798, 7) := by decide +kernel
theorem k_138_362 : COD 138 362 = some (.iload_n 3, 1, 0, 0, 0, 0) := by decide +kernel
theorem k_138_363 : COD 138 363 = some (.if_icmp .eq 5, 3, 368, 0, 0, 0) := by decide +kernel
theorem k_138_366 : COD 138 366 = some (.iconst 0, 1, 0, 0, 0, 0) := by decide +kernel
theorem k_138_367 : COD 138 367 = some (.ireturn, 1, 0, 0, 0, 1) := by decide +kernel
theorem k_138_368 : COD 138 368 = some (.iinc 2 1, 3, 0, 0, 0, 0) := by decide +kernel
theorem k_138_371 : COD 138 371 = some (.goto (-106), 3, 265, 0, 0, 0) := by decide +kernel
theorem k_138_374 : COD 138 374 = some (.iconst 1, 1, 0, 0, 0, 0) := by decide +kernel
theorem k_138_375 : COD 138 375 = some (.ireturn, 1, 0, 0, 0, 1) := by decide +kernel
theorem k_139_0 : COD 139 0 = some (.aload_n 0, 1, 0, 0, 0, 0) := by decide +kernel
theorem k_139_1 : COD 139 1 = some (.invokespecial 1, 3, 1000, 0, 1243, 0) := by decide +kernel
theorem k_139_4 : COD 139 4 = some (.return_, 1, 0, 0, 0, 0) := by decide +kernel
theorem k_140_0 : COD 140 0 = some (.aload_n 0, 1, 0, 0, 0, 0) := by decide +kernel
theorem k_140_1 : COD 140 1 = some (.getfield 7, 3, 10, 0, 1244, 0) := by decide +kernel
theorem k_140_4 : COD 140 4 = some (.tableswitch 202 0 26 #[124, 129, 134, 139, 146, 152, 159, 164, 181, 202, 202, 202, 202, 202, 202, 202, 202, 202, 202, 202, 202, 202, 202, 202, 202, 202, 191], 124, 0, 0, 0, 0) := by decide +kernel
theorem k_140_128 : COD 140 128 = some (.aload_n 0, 1, 0, 0, 0, 0) := by decide +kernel
theorem k_140_129 : COD 140 129 = some (.getfield 13, 3, 10, 1, 1246, 0) := by decide +kernel
theorem k_140_132 : COD 140 132 = some (.ireturn, 1, 0, 0, 0, 0) := by decide +kernel
theorem k_140_133 : COD 140 133 = some (.aload_n 1, 1, 0, 0, 0, 0) := by decide +kernel
theorem k_140_134 : COD 140 134 = some (.getfield 16, 3, 9, 1, 1043, 0) := by decide +kernel
theorem k_140_137 : COD 140 137 = some (.ireturn, 1, 0, 0, 0, 0) := by decide +kernel
theorem k_140_138 : COD 140 138 = some (.aload_n 1, 1, 0, 0, 0, 0) := by decide +kernel
theorem k_140_139 : COD 140 139 = some (.getfield 21, 3, 9, 2, 1045, 0) := by decide +kernel
theorem k_140_142 : COD 140 142 = some (.ireturn, 1, 0, 0, 0, 0) := by decide +kernel
theorem k_140_143 : COD 140 143 = some (.aload_n 1, 1, 0, 0, 0, 0) := by decide +kernel
theorem k_140_144 : COD 140 144 = some (.iconst 1, 1, 0, 0, 0, 0) := by decide +kernel
theorem k_140_145 : COD 140 145 = some (.invokevirtual 24, 3, 128, 1, 745, 9) := by decide +kernel
theorem k_140_148 : COD 140 148 = some (.l2i, 1, 0, 0, 0, 0) := by decide +kernel
theorem k_140_149 : COD 140 149 = some (.ireturn, 1, 0, 0, 0, 0) := by decide +kernel
theorem k_140_150 : COD 140 150 = some (.aload_n 1, 1, 0, 0, 0, 0) := by decide +kernel
theorem k_140_151 : COD 140 151 = some (.iconst 1, 1, 0, 0, 0, 0) := by decide +kernel
theorem k_140_152 : COD 140 152 = some (.invokevirtual 28, 3, 129, 1, 749, 9) := by decide +kernel
theorem k_140_155 : COD 140 155 = some (.ireturn, 1, 0, 0, 0, 0) := by decide +kernel
theorem k_140_156 : COD 140 156 = some (.aload_n 1, 1, 0, 0, 0, 0) := by decide +kernel
theorem k_140_157 : COD 140 157 = some (.iconst 1, 1, 0, 0, 0, 0) := by decide +kernel
theorem k_140_158 : COD 140 158 = some (.invokevirtual 32, 3, 130, 1, 750, 9) := by decide +kernel
theorem k_140_161 : COD 140 161 = some (.ineg, 1, 0, 0, 0, 0) := by decide +kernel
theorem k_140_162 : COD 140 162 = some (.ireturn, 1, 0, 0, 0, 0) := by decide +kernel
theorem k_140_163 : COD 140 163 = some (.aload_n 1, 1, 0, 0, 0, 0) := by decide +kernel
theorem k_140_164 : COD 140 164 = some (.invokevirtual 35, 3, 125, 0, 754, 9) := by decide +kernel
theorem k_140_167 : COD 140 167 = some (.ireturn, 1, 0, 0, 0, 0) := by decide +kernel
theorem k_140_168 : COD 140 168 = some (.aload_n 1, 1, 0, 0, 0, 0) := by decide +kernel
theorem k_140_169 : COD 140 169 = some (.aload_n 1, 1, 0, 0, 0, 0) := by decide +kernel
theorem k_140_170 : COD 140 170 = some (.aload_n 0, 1, 0, 0, 0, 0) := by decide +kernel
theorem k_140_171 : COD 140 171 = some (.getfield 39, 3, 10, 2, 1248, 0) := by decide +kernel
theorem k_140_174 : COD 140 174 = some (.aload_n 1, 1, 0, 0, 0, 0) := by decide +kernel
theorem k_140_175 : COD 140 175 = some (.invokevirtual 43, 3, 140, 1, 758, 10) := by decide +kernel
theorem k_140_178 : COD 140 178 = some (.invokevirtual 47, 3, 131, 1, 759, 9) := by decide +kernel
theorem k_140_181 : COD 140 181 = some (.invokevirtual 50, 3, 127, 1, 763, 9) := by decide +kernel
theorem k_140_184 : COD 140 184 = some (.ireturn, 1, 0, 0, 0, 0) := by decide +kernel
theorem k_140_185 : COD 140 185 = some (.aload_n 0, 1, 0, 0, 0, 0) := by decide +kernel
theorem k_140_186 : COD 140 186 = some (.getfield 39, 3, 10, 2, 1248, 0) := by decide +kernel
theorem k_140_189 : COD 140 189 = some (.aload_n 1, 1, 0, 0, 0, 0) := by decide +kernel
theorem k_140_190 : COD 140 190 = some (.invokevirtual 43, 3, 140, 1, 758, 10) := by decide +kernel
theorem k_140_193 : COD 140 193 = some (.ineg, 1, 0, 0, 0, 0) := by decide +kernel
theorem k_140_194 : COD 140 194 = some (.ireturn, 1, 0, 0, 0, 0) := by decide +kernel
theorem k_140_195 : COD 140 195 = some (.iconst 1, 1, 0, 0, 0, 0) := by decide +kernel
theorem k_140_196 : COD 140 196 = some (.aload_n 0, 1, 0, 0, 0, 0) := by decide +kernel
theorem k_140_197 : COD 140 197 = some (.getfield 39, 3, 10, 2, 1248, 0) := by decide +kernel
theorem k_140_200 : COD 140 200 = some (.aload_n 1, 1, 0, 0, 0, 0) := by decide +kernel
theorem k_140_201 : COD 140 201 = some (.invokevirtual 43, 3, 140, 1, 758, 10) := by decide +kernel
theorem k_140_204 : COD 140 204 = some (.isub, 1, 0, 0, 0, 0) := by decide +kernel
theorem k_140_205 : COD 140 205 = some (.ireturn, 1, 0, 0, 0, 0) := by decide +kernel
theorem k_140_206 : COD 140 206 = some (.aload_n 0, 1, 0, 0, 0, 0) := by decide +kernel
theorem k_140_207 : COD 140 207 = some (.aload_n 0, 1, 0, 0, 0, 0) := by decide +kernel
theorem k_140_208 : COD 140 208 = some (.getfield 39, 3, 10, 2, 1248, 0) := by decide +kernel
theorem k_140_211 : COD 140 211 = some (.aload_n 1, 1, 0, 0, 0, 0) := by decide +kernel
theorem k_140_212 : COD 140 212 = some (.invokevirtual 43, 3, 140, 1, 758, 10) := by decide +kernel
theorem k_140_215 : COD 140 215 = some (.aload_n 0, 1, 0, 0, 0, 0) := by decide +kernel
theorem k_140_216 : COD 140 216 = some (.getfield 53, 3, 10, 3, 1250, 0) := by decide +kernel
theorem k_140_219 : COD 140 219 = some (.aload_n 1, 1, 0, 0, 0, 0) := by decide +kernel
theorem k_140_220 : COD 140 220 = some (.invokevirtual 43, 3, 140, 1, 758, 10) := by decide +kernel
theorem k_140_223 : COD 140 223 = some (.invokevirtual 56, 3, 141, 2, 767, 10) := by decide +kernel
theorem k_140_226 : COD 140 226 = some (.ireturn, 1, 0, 0, 0, 0) := by decide +kernel
theorem k_141_0 : COD 141 0 = some (.aload_n 0, 1, 0, 0, 0, 0) := by decide +kernel
theorem k_141_1 : COD 141 1 = some (.getfield 7, 3, 10, 0, 1244, 0) := by decide +kernel
theorem k_141_4 : COD 141 4 = some (.tableswitch 216 9 27 #[92, 96, 100, 104, 126, 137, 216, 216, 216, 216, 216, 148, 159, 170, 181, 192, 216, 216, 203], 92, 0, 0, 0, 0) := by decide +kernel
theorem k_141_96 : COD 141 96 = some (.iload_n 1, 1, 0, 0, 0, 0) := by decide +kernel
theorem k_141_97 : COD 141 97 = some (.iload_n 2, 1, 0, 0, 0, 0) := by decide +kernel
theorem k_141_98 : COD 141 98 = some (.iadd, 1, 0, 0, 0, 0) := by decide +kernel
theorem k_141_99 : COD 141 99 = some (.ireturn, 1, 0, 0, 0, 0) := by decide +kernel
theorem k_141_100 : COD 141 100 = some (.iload_n 1, 1, 0, 0, 0, 0) := by decide +kernel
theorem k_141_101 : COD 141 101 = some (.iload_n 2, 1, 0, 0, 0, 0) := by decide +kernel
theorem k_141_102 : COD 141 102 = some (.isub, 1, 0, 0, 0, 0) := by decide +kernel
theorem k_141_103 : COD 141 103 = some (.ireturn, 1, 0, 0, 0, 0) := by decide +kernel
theorem k_141_104 : COD 141 104 = some (.iload_n 1, 1, 0, 0, 0, 0) := by decide +kernel
theorem k_141_105 : COD 141 105 = some (.iload_n 2, 1, 0, 0, 0, 0) := by decide +kernel
theorem k_141_106 : COD 141 106 = some (.imul, 1, 0, 0, 0, 0) := by decide +kernel
theorem k_141_107 : COD 141 107 = some (.ireturn, 1, 0, 0, 0, 0) := by decide +kernel
theorem k_141_108 : COD 141 108 = some (.iload_n 2, 1, 0, 0, 0, 0) := by decide +kernel
theorem k_141_109 : COD 141 109 = some (.ifCond .ne 7, 3, 116, 0, 0, 0) := by decide +kernel
theorem k_141_112 : COD 141 112 = some (.iconst 0, 1, 0, 0, 0, 0) := by decide +kernel
theorem k_141_113 : COD 141 113 = some (.goto 16, 3, 129, 0, 0, 0) := by decide +kernel
theorem k_141_116 : COD 141 116 = some (.iload_n 2, 1, 0, 0, 0, 0) := by decide +kernel
theorem k_141_117 : COD 141 117 = some (.iconst (-1), 1, 0, 0, 0, 0) := by decide +kernel
theorem k_141_118 : COD 141 118 = some (.if_icmp .ne 8, 3, 126, 0, 0, 0) := by decide +kernel
theorem k_141_121 : COD 141 121 = some (.iload_n 1, 1, 0, 0, 0, 0) := by decide +kernel
theorem k_141_122 : COD 141 122 = some (.ineg, 1, 0, 0, 0, 0) := by decide +kernel
theorem k_141_123 : COD 141 123 = some (.goto 6, 3, 129, 0, 0, 0) := by decide +kernel
theorem k_141_126 : COD 141 126 = some (.iload_n 1, 1, 0, 0, 0, 0) := by decide +kernel
theorem k_141_127 : COD 141 127 = some (.iload_n 2, 1, 0, 0, 0, 0) := by decide +kernel
theorem k_141_128 : COD 141 128 = some (.idiv, 1, 0, 0, 0, 0) := by decide +kernel
theorem k_141_129 : COD 141 129 = some (.ireturn, 1, 0, 0, 0, 0) := by decide +kernel
theorem k_141_130 : COD 141 130 = some (.iload_n 1, 1, 0, 0, 0, 0) := by decide +kernel
theorem k_141_131 : COD 141 131 = some (.iload_n 2, 1, 0, 0, 0, 0) := by decide +kernel
theorem k_141_132 : COD 141 132 = some (.if_icmp .ge 7, 3, 139, 0, 0, 0) := by decide +kernel
theorem k_141_135 : COD 141 135 = some (.iload_n 1, 1, 0, 0, 0, 0) := by decide +kernel
theorem k_141_136 : COD 141 136 = some (.goto 4, 3, 140, 0, 0, 0) := by decide +kernel
theorem k_141_139 : COD 141 139 = some (.iload_n 2, 1, 0, 0, 0, 0) := by decide +kernel
theorem k_141_140 : COD 141 140 = some (.ireturn, 1, 0, 0, 0, 0) := by decide +kernel
theorem k_141_141 : COD 141 141 = some (.iload_n 1, 1, 0, 0, 0, 0) := by decide +kernel
theorem k_141_142 : COD 141 142 = some (.iload_n 2, 1, 0, 0, 0, 0) := by decide +kernel
theorem k_141_143 : COD 141 143 = some (.if_icmp .ge 7, 3, 150, 0, 0, 0) := by decide +kernel
theorem k_141_146 : COD 141 146 = some (.iload_n 2, 1, 0, 0, 0, 0) := by decide +kernel
theorem k_141_147 : COD 141 147 = some (.goto 4, 3, 151, 0, 0, 0) := by decide +kernel
theorem k_141_150 : COD 141 150 = some (.iload_n 1, 1, 0, 0, 0, 0) := by decide +kernel
theorem k_141_151 : COD 141 151 = some (.ireturn, 1, 0, 0, 0, 0) := by decide +kernel
theorem k_141_152 : COD 141 152 = some (.iload_n 1, 1, 0, 0, 0, 0) := by decide +kernel
theorem k_141_153 : COD 141 153 = some (.iload_n 2, 1, 0, 0, 0, 0) := by decide +kernel
theorem k_141_154 : COD 141 154 = some (.if_icmp .ge 7, 3, 161, 0, 0, 0) := by decide +kernel
theorem k_141_157 : COD 141 157 = some (.iconst 1, 1, 0, 0, 0, 0) := by decide +kernel
theorem k_141_158 : COD 141 158 = some (.goto 4, 3, 162, 0, 0, 0) := by decide +kernel
theorem k_141_161 : COD 141 161 = some (.iconst 0, 1, 0, 0, 0, 0) := by decide +kernel
theorem k_141_162 : COD 141 162 = some (.ireturn, 1, 0, 0, 0, 0) := by decide +kernel
theorem k_141_163 : COD 141 163 = some (.iload_n 1, 1, 0, 0, 0, 0) := by decide +kernel
theorem k_141_164 : COD 141 164 = some (.iload_n 2, 1, 0, 0, 0, 0) := by decide +kernel
theorem k_141_165 : COD 141 165 = some (.if_icmp .le 7, 3, 172, 0, 0, 0) := by decide +kernel
theorem k_141_168 : COD 141 168 = some (.iconst 1, 1, 0, 0, 0, 0) := by decide +kernel
theorem k_141_169 : COD 141 169 = some (.goto 4, 3, 173, 0, 0, 0) := by decide +kernel
theorem k_141_172 : COD 141 172 = some (.iconst 0, 1, 0, 0, 0, 0) := by decide +kernel
theorem k_141_173 : COD 141 173 = some (.ireturn, 1, 0, 0, 0, 0) := by decide +kernel
theorem k_141_174 : COD 141 174 = some (.iload_n 1, 1, 0, 0, 0, 0) := by decide +kernel
theorem k_141_175 : COD 141 175 = some (.iload_n 2, 1, 0, 0, 0, 0) := by decide +kernel
theorem k_141_176 : COD 141 176 = some (.if_icmp .ne 7, 3, 183, 0, 0, 0) := by decide +kernel
theorem k_141_179 : COD 141 179 = some (.iconst 1, 1, 0, 0, 0, 0) := by decide +kernel
theorem k_141_180 : COD 141 180 = some (.goto 4, 3, 184, 0, 0, 0) := by decide +kernel
theorem k_141_183 : COD 141 183 = some (.iconst 0, 1, 0, 0, 0, 0) := by decide +kernel
theorem k_141_184 : COD 141 184 = some (.ireturn, 1, 0, 0, 0, 0) := by decide +kernel
theorem k_141_185 : COD 141 185 = some (.iload_n 1, 1, 0, 0, 0, 0) := by decide +kernel
theorem k_141_186 : COD 141 186 = some (.iload_n 2, 1, 0, 0, 0, 0) := by decide +kernel
theorem k_141_187 : COD 141 187 = some (.if_icmp .le 7, 3, 194, 0, 0, 0) := by decide +kernel
theorem k_141_190 : COD 141 190 = some (.iconst 0, 1, 0, 0, 0, 0) := by decide +kernel
theorem k_141_191 : COD 141 191 = some (.goto 4, 3, 195, 0, 0, 0) := by decide +kernel
theorem k_141_194 : COD 141 194 = some (.iconst 1, 1, 0, 0, 0, 0) := by decide +kernel
theorem k_141_195 : COD 141 195 = some (.ireturn, 1, 0, 0, 0, 0) := by decide +kernel
theorem k_141_196 : COD 141 196 = some (.iload_n 1, 1, 0, 0, 0, 0) := by decide +kernel
theorem k_141_197 : COD 141 197 = some (.iload_n 2, 1, 0, 0, 0, 0) := by decide +kernel
theorem k_141_198 : COD 141 198 = some (.if_icmp .ge 7, 3, 205, 0, 0, 0) := by decide +kernel
theorem k_141_201 : COD 141 201 = some (.iconst 0, 1, 0, 0, 0, 0) := by decide +kernel
theorem k_141_202 : COD 141 202 = some (.goto 4, 3, 206, 0, 0, 0) := by decide +kernel
theorem k_141_205 : COD 141 205 = some (.iconst 1, 1, 0, 0, 0, 0) := by decide +kernel
theorem k_141_206 : COD 141 206 = some (.ireturn, 1, 0, 0, 0, 0) := by decide +kernel
theorem k_141_207 : COD 141 207 = some (.iload_n 1, 1, 0, 0, 0, 0) := by decide +kernel
theorem k_141_208 : COD 141 208 = some (.iload_n 2, 1, 0, 0, 0, 0) := by decide +kernel
theorem k_141_209 : COD 141 209 = some (.iadd, 1, 0, 0, 0, 0) := by decide +kernel
theorem k_141_210 : COD 141 210 = some (.iconst 2, 1, 0, 0, 0, 0) := by decide +kernel
theorem k_141_211 : COD 141 211 = some (.if_icmp .ne 7, 3, 218, 0, 0, 0) := by decide +kernel
theorem k_141_214 : COD 141 214 = some (.iconst 1, 1, 0, 0, 0, 0) := by decide +kernel
theorem k_141_215 : COD 141 215 = some (.goto 4, 3, 219, 0, 0, 0) := by decide +kernel
theorem k_141_218 : COD 141 218 = some (.iconst 0, 1, 0, 0, 0, 0) := by decide +kernel
theorem k_141_219 : COD 141 219 = some (.ireturn, 1, 0, 0, 0, 0) := by decide +kernel
theorem k_141_220 : COD 141 220 = some (.iload_n 1, 1, 0, 0, 0, 0) := by decide +kernel
theorem k_141_221 : COD 141 221 = some (.iload_n 2, 1, 0, 0, 0, 0) := by decide +kernel
theorem k_141_222 : COD 141 222 = some (.iadd, 1, 0, 0, 0, 0) := by decide +kernel
theorem k_141_223 : COD 141 223 = some (.ifCond .le 7, 3, 230, 0, 0, 0) := by decide +kernel
theorem k_141_226 : COD 141 226 = some (.iconst 1, 1, 0, 0, 0, 0) := by decide +kernel
theorem k_141_227 : COD 141 227 = some (.goto 4, 3, 231, 0, 0, 0) := by decide +kernel
theorem k_141_230 : COD 141 230 = some (.iconst 0, 1, 0, 0, 0, 0) := by decide +kernel
theorem k_141_231 : COD 141 231 = some (.ireturn, 1, 0, 0, 0, 0) := by decide +kernel
theorem k_142_0 : COD 142 0 = some (.bipush 7, 2, 0, 0, 0, 0) := by decide +kernel
theorem k_142_2 : COD 142 2 = some (.anewarray 60, 3, 6, 0, 1297, 0) := by decide +kernel
theorem k_142_5 : COD 142 5 = some (.dup, 1, 0, 0, 0, 0) := by decide +kernel
theorem k_142_6 : COD 142 6 = some (.iconst 0, 1, 0, 0, 0, 0) := by decide +kernel
theorem k_142_7 : COD 142 7 = some (.ldc 62, 2, 104, 0, 1299, 0) := by decide +kernel
theorem k_142_9 : COD 142 9 = some (.aastore, 1, 0, 0, 0, 0) := by decide +kernel
theorem k_142_10 : COD 142 10 = some (.dup, 1, 0, 0, 0, 0) := by decide +kernel
theorem k_142_11 : COD 142 11 = some (.iconst 1, 1, 0, 0, 0, 0) := by decide +kernel
theorem k_142_12 : COD 142 12 = some (.ldc 64, 2, 105, 0, 1300, 0) := by decide +kernel
theorem k_142_14 : COD 142 14 = some (.aastore, 1, 0, 0, 0, 0) := by decide +kernel
theorem k_142_15 : COD 142 15 = some (.dup, 1, 0, 0, 0, 0) := by decide +kernel
theorem k_142_16 : COD 142 16 = some (.iconst 2, 1, 0, 0, 0, 0) := by decide +kernel
theorem k_142_17 : COD 142 17 = some (.ldc 66, 2, 106, 0, 1301, 0) := by decide +kernel
theorem k_142_19 : COD 142 19 = some (.aastore, 1, 0, 0, 0, 0) := by decide +kernel
theorem k_142_20 : COD 142 20 = some (.dup, 1, 0, 0, 0, 0) := by decide +kernel
theorem k_142_21 : COD 142 21 = some (.iconst 3, 1, 0, 0, 0, 0) := by decide +kernel
theorem k_142_22 : COD 142 22 = some (.ldc 68, 2, 107, 0, 1302, 0) := by decide +kernel
theorem k_142_24 : COD 142 24 = some (.aastore, 1, 0, 0, 0, 0) := by decide +kernel
theorem k_142_25 : COD 142 25 = some (.dup, 1, 0, 0, 0, 0) := by decide +kernel
theorem k_142_26 : COD 142 26 = some (.iconst 4, 1, 0, 0, 0, 0) := by decide +kernel
theorem k_142_27 : COD 142 27 = some (.ldc 70, 2, 108, 0, 1303, 0) := by decide +kernel
theorem k_142_29 : COD 142 29 = some (.aastore, 1, 0, 0, 0, 0) := by decide +kernel
theorem k_142_30 : COD 142 30 = some (.dup, 1, 0, 0, 0, 0) := by decide +kernel
theorem k_142_31 : COD 142 31 = some (.iconst 5, 1, 0, 0, 0, 0) := by decide +kernel
theorem k_142_32 : COD 142 32 = some (.ldc 72, 2, 109, 0, 1304, 0) := by decide +kernel
theorem k_142_34 : COD 142 34 = some (.aastore, 1, 0, 0, 0, 0) := by decide +kernel
theorem k_142_35 : COD 142 35 = some (.dup, 1, 0, 0, 0, 0) := by decide +kernel
theorem k_142_36 : COD 142 36 = some (.bipush 6, 2, 0, 0, 0, 0) := by decide +kernel
theorem k_142_38 : COD 142 38 = some (.ldc 74, 2, 110, 0, 1305, 0) := by decide +kernel
theorem k_142_40 : COD 142 40 = some (.aastore, 1, 0, 0, 0, 0) := by decide +kernel
theorem k_142_41 : COD 142 41 = some (.astore_n 1, 1, 0, 0, 0, 0) := by decide +kernel
theorem k_142_42 : COD 142 42 = some (.bipush 6, 2, 0, 0, 0, 0) := by decide +kernel
theorem k_142_44 : COD 142 44 = some (.anewarray 60, 3, 6, 0, 1297, 0) := by decide +kernel
theorem k_142_47 : COD 142 47 = some (.dup, 1, 0, 0, 0, 0) := by decide +kernel
theorem k_142_48 : COD 142 48 = some (.iconst 0, 1, 0, 0, 0, 0) := by decide +kernel
theorem k_142_49 : COD 142 49 = some (.ldc 76, 2, 111, 0, 1306, 0) := by decide +kernel
theorem k_142_51 : COD 142 51 = some (.aastore, 1, 0, 0, 0, 0) := by decide +kernel
theorem k_142_52 : COD 142 52 = some (.dup, 1, 0, 0, 0, 0) := by decide +kernel
theorem k_142_53 : COD 142 53 = some (.iconst 1, 1, 0, 0, 0, 0) := by decide +kernel
theorem k_142_54 : COD 142 54 = some (.ldc 78, 2, 112, 0, 1307, 0) := by decide +kernel
theorem k_142_56 : COD 142 56 = some (.aastore, 1, 0, 0, 0, 0) := by decide +kernel
theorem k_142_57 : COD 142 57 = some (.dup, 1, 0, 0, 0, 0) := by decide +kernel
theorem k_142_58 : COD 142 58 = some (.iconst 2, 1, 0, 0, 0, 0) := by decide +kernel
theorem k_142_59 : COD 142 59 = some (.ldc 80, 2, 113, 0, 1308, 0) := by decide +kernel
theorem k_142_61 : COD 142 61 = some (.aastore, 1, 0, 0, 0, 0) := by decide +kernel
theorem k_142_62 : COD 142 62 = some (.dup, 1, 0, 0, 0, 0) := by decide +kernel
theorem k_142_63 : COD 142 63 = some (.iconst 3, 1, 0, 0, 0, 0) := by decide +kernel
theorem k_142_64 : COD 142 64 = some (.ldc 82, 2, 114, 0, 1309, 0) := by decide +kernel
theorem k_142_66 : COD 142 66 = some (.aastore, 1, 0, 0, 0, 0) := by decide +kernel
theorem k_142_67 : COD 142 67 = some (.dup, 1, 0, 0, 0, 0) := by decide +kernel
theorem k_142_68 : COD 142 68 = some (.iconst 4, 1, 0, 0, 0, 0) := by decide +kernel
theorem k_142_69 : COD 142 69 = some (.ldc 84, 2, 115, 0, 1310, 0) := by decide +kernel
theorem k_142_71 : COD 142 71 = some (.aastore, 1, 0, 0, 0, 0) := by decide +kernel
theorem k_142_72 : COD 142 72 = some (.dup, 1, 0, 0, 0, 0) := by decide +kernel
theorem k_142_73 : COD 142 73 = some (.iconst 5, 1, 0, 0, 0, 0) := by decide +kernel
theorem k_142_74 : COD 142 74 = some (.ldc 86, 2, 116, 0, 1311, 0) := by decide +kernel
theorem k_142_76 : COD 142 76 = some (.aastore, 1, 0, 0, 0, 0) := by decide +kernel
theorem k_142_77 : COD 142 77 = some (.astore_n 2, 1, 0, 0, 0, 0) := by decide +kernel
theorem k_142_78 : COD 142 78 = some (.iconst 5, 1, 0, 0, 0, 0) := by decide +kernel
theorem k_142_79 : COD 142 79 = some (.anewarray 60, 3, 6, 0, 1297, 0) := by decide +kernel
theorem k_142_82 : COD 142 82 = some (.dup, 1, 0, 0, 0, 0) := by decide +kernel
theorem k_142_83 : COD 142 83 = some (.iconst 0, 1, 0, 0, 0, 0) := by decide +kernel
theorem k_142_84 : COD 142 84 = some (.ldc 88, 2, 117, 0, 1312, 0) := by decide +kernel
theorem k_142_86 : COD 142 86 = some (.aastore, 1, 0, 0, 0, 0) := by decide +kernel
theorem k_142_87 : COD 142 87 = some (.dup, 1, 0, 0, 0, 0) := by decide +kernel
theorem k_142_88 : COD 142 88 = some (.iconst 1, 1, 0, 0, 0, 0) := by decide +kernel
theorem k_142_89 : COD 142 89 = some (.ldc 90, 2, 118, 0, 1313, 0) := by decide +kernel
theorem k_142_91 : COD 142 91 = some (.aastore, 1, 0, 0, 0, 0) := by decide +kernel
theorem k_142_92 : COD 142 92 = some (.dup, 1, 0, 0, 0, 0) := by decide +kernel
theorem k_142_93 : COD 142 93 = some (.iconst 2, 1, 0, 0, 0, 0) := by decide +kernel
theorem k_142_94 : COD 142 94 = some (.ldc 92, 2, 119, 0, 1314, 0) := by decide +kernel
theorem k_142_96 : COD 142 96 = some (.aastore, 1, 0, 0, 0, 0) := by decide +kernel
theorem k_142_97 : COD 142 97 = some (.dup, 1, 0, 0, 0, 0) := by decide +kernel
theorem k_142_98 : COD 142 98 = some (.iconst 3, 1, 0, 0, 0, 0) := by decide +kernel
theorem k_142_99 : COD 142 99 = some (.ldc 94, 2, 120, 0, 1315, 0) := by decide +kernel
theorem k_142_101 : COD 142 101 = some (.aastore, 1, 0, 0, 0, 0) := by decide +kernel
theorem k_142_102 : COD 142 102 = some (.dup, 1, 0, 0, 0, 0) := by decide +kernel
theorem k_142_103 : COD 142 103 = some (.iconst 4, 1, 0, 0, 0, 0) := by decide +kernel
theorem k_142_104 : COD 142 104 = some (.ldc 96, 2, 121, 0, 1316, 0) := by decide +kernel
theorem k_142_106 : COD 142 106 = some (.aastore, 1, 0, 0, 0, 0) := by decide +kernel
theorem k_142_107 : COD 142 107 = some (.astore_n 3, 1, 0, 0, 0, 0) := by decide +kernel
theorem k_142_108 : COD 142 108 = some (.aload_n 0, 1, 0, 0, 0, 0) := by decide +kernel
theorem k_142_109 : COD 142 109 = some (.getfield 7, 3, 10, 0, 1244, 0) := by decide +kernel
theorem k_142_112 : COD 142 112 = some (.ifCond .ne 31, 3, 143, 0, 0, 0) := by decide +kernel
theorem k_142_115 : COD 142 115 = some (.new 98, 3, 11, 0, 1317, 0) := by decide +kernel
theorem k_142_118 : COD 142 118 = some (.dup, 1, 0, 0, 0, 0) := by decide +kernel
theorem k_142_119 : COD 142 119 = some (.invokespecial 100, 3, 162, 0, 1318, 11) := by decide +kernel
theorem k_142_122 : COD 142 122 = some (.ldc 62, 2, 104, 0, 1299, 0) := by decide +kernel
theorem k_142_124 : COD 142 124 = some (.invokevirtual 101, 3, 163, 1, 1319, 11) := by decide +kernel
theorem k_142_127 : COD 142 127 = some (.aload_n 0, 1, 0, 0, 0, 0) := by decide +kernel
theorem k_142_128 : COD 142 128 = some (.getfield 13, 3, 10, 1, 1246, 0) := by decide +kernel
theorem k_142_131 : COD 142 131 = some (.invokevirtual 105, 3, 164, 1, 1320, 11) := by decide +kernel
theorem k_142_134 : COD 142 134 = some (.ldc 108, 2, 122, 0, 1321, 0) := by decide +kernel
theorem k_142_136 : COD 142 136 = some (.invokevirtual 101, 3, 163, 1, 1319, 11) := by decide +kernel
theorem k_142_139 : COD 142 139 = some (.invokevirtual 110, 3, 165, 0, 1322, 11) := by decide +kernel
theorem k_142_142 : COD 142 142 = some (.areturn, 1, 0, 0, 0, 0) := by decide +kernel
theorem k_142_143 : COD 142 143 = some (.aload_n 0, 1, 0, 0, 0, 0) := by decide +kernel
theorem k_142_144 : COD 142 144 = some (.getfield 7, 3, 10, 0, 1244, 0) := by decide +kernel
theorem k_142_147 : COD 142 147 = some (.bipush 7, 2, 0, 0, 0, 0) := by decide +kernel
theorem k_142_149 : COD 142 149 = some (.if_icmp .ge 10, 3, 159, 0, 0, 0) := by decide +kernel
theorem k_142_152 : COD 142 152 = some (.aload_n 1, 1, 0, 0, 0, 0) := by decide +kernel
theorem k_142_153 : COD 142 153 = some (.aload_n 0, 1, 0, 0, 0, 0) := by decide +kernel
theorem k_142_154 : COD 142 154 = some (.getfield 7, 3, 10, 0, 1244, 0) := by decide +kernel
theorem k_142_157 : COD 142 157 = some (.aaload, 1, 0, 0, 0, 0) := by decide +kernel
theorem k_142_158 : COD 142 158 = some (.areturn, 1, 0, 0, 0, 0) := by decide +kernel
theorem k_142_159 : COD 142 159 = some (.aload_n 0, 1, 0, 0, 0, 0) := by decide +kernel
theorem k_142_160 : COD 142 160 = some (.getfield 7, 3, 10, 0, 1244, 0) := by decide +kernel
theorem k_142_163 : COD 142 163 = some (.bipush 9, 2, 0, 0, 0, 0) := by decide +kernel
theorem k_142_165 : COD 142 165 = some (.if_icmp .ge 48, 3, 213, 0, 0, 0) := by decide +kernel
theorem k_142_168 : COD 142 168 = some (.new 98, 3, 11, 0, 1317, 0) := by decide +kernel
theorem k_142_171 : COD 142 171 = some (.dup, 1, 0, 0, 0, 0) := by decide +kernel
theorem k_142_172 : COD 142 172 = some (.invokespecial 100, 3, 162, 0, 1318, 11) := by decide +kernel
theorem k_142_175 : COD 142 175 = some (.aload_n 0, 1, 0, 0, 0, 0) := by decide +kernel
theorem k_142_176 : COD 142 176 = some (.getfield 7, 3, 10, 0, 1244, 0) := by decide +kernel
theorem k_142_179 : COD 142 179 = some (.bipush 7, 2, 0, 0, 0, 0) := by decide +kernel
theorem k_142_181 : COD 142 181 = some (.if_icmp .ne 8, 3, 189, 0, 0, 0) := by decide +kernel
theorem k_142_184 : COD 142 184 = some (.ldc 114, 2, 123, 0, 1379, 0) := by decide +kernel
theorem k_142_186 : COD 142 186 = some (.goto 5, 3, 191, 0, 0, 0) := by decide +kernel
theorem k_142_189 : COD 142 189 = some (.ldc 116, 2, 124, 0, 1380, 0) := by decide +kernel
theorem k_142_191 : COD 142 191 = some (.invokevirtual 101, 3, 163, 1, 1319, 11) := by decide +kernel
theorem k_142_194 : COD 142 194 = some (.aload_n 0, 1, 0, 0, 0, 0) := by decide +kernel
theorem k_142_195 : COD 142 195 = some (.getfield 39, 3, 10, 2, 1248, 0) := by decide +kernel
theorem k_142_198 : COD 142 198 = some (.invokevirtual 118, 3, 142, 0, 1381, 10) := by decide +kernel
theorem k_142_201 : COD 142 201 = some (.invokevirtual 101, 3, 163, 1, 1319, 11) := by decide +kernel
theorem k_142_204 : COD 142 204 = some (.ldc 121, 2, 125, 0, 1382, 0) := by decide +kernel
theorem k_142_206 : COD 142 206 = some (.invokevirtual 101, 3, 163, 1, 1319, 11) := by decide +kernel
theorem k_142_209 : COD 142 209 = some (.invokevirtual 110, 3, 165, 0, 1322, 11) := by decide +kernel
theorem k_142_212 : COD 142 212 = some (.areturn, 1, 0, 0, 0, 0) := by decide +kernel
theorem k_142_213 : COD 142 213 = some (.aload_n 0, 1, 0, 0, 0, 0) := by decide +kernel
theorem k_142_214 : COD 142 214 = some (.getfield 7, 3, 10, 0, 1244, 0) := by decide +kernel
theorem k_142_217 : COD 142 217 = some (.bipush 13, 2, 0, 0, 0, 0) := by decide +kernel
theorem k_142_219 : COD 142 219 = some (.if_icmp .ge 66, 3, 285, 0, 0, 0) := by decide +kernel
theorem k_142_222 : COD 142 222 = some (.new 98, 3, 11, 0, 1317, 0) := by decide +kernel
theorem k_142_225 : COD 142 225 = some (.dup, 1, 0, 0, 0, 0) := by decide +kernel
theorem k_142_226 : COD 142 226 = some (.invokespecial 100, 3, 162, 0, 1318, 11) := by decide +kernel
theorem k_142_229 : COD 142 229 = some (.ldc 123, 2, 126, 0, 1383, 0) := by decide +kernel
theorem k_142_231 : COD 142 231 = some (.invokevirtual 101, 3, 163, 1, 1319, 11) := by decide +kernel
theorem k_142_234 : COD 142 234 = some (.aload_n 0, 1, 0, 0, 0, 0) := by decide +kernel
theorem k_142_235 : COD 142 235 = some (.getfield 39, 3, 10, 2, 1248, 0) := by decide +kernel
theorem k_142_238 : COD 142 238 = some (.invokevirtual 118, 3, 142, 0, 1381, 10) := by decide +kernel
theorem k_142_241 : COD 142 241 = some (.invokevirtual 101, 3, 163, 1, 1319, 11) := by decide +kernel
theorem k_142_244 : COD 142 244 = some (.ldc 121, 2, 125, 0, 1382, 0) := by decide +kernel
theorem k_142_246 : COD 142 246 = some (.invokevirtual 101, 3, 163, 1, 1319, 11) := by decide +kernel
theorem k_142_249 : COD 142 249 = some (.aload_n 2, 1, 0, 0, 0, 0) := by decide +kernel
theorem k_142_250 : COD 142 250 = some (.aload_n 0, 1, 0, 0, 0, 0) := by decide +kernel
theorem k_142_251 : COD 142 251 = some (.getfield 7, 3, 10, 0, 1244, 0) := by decide +kernel
theorem k_142_254 : COD 142 254 = some (.bipush 9, 2, 0, 0, 0, 0) := by decide +kernel
theorem k_142_256 : COD 142 256 = some (.isub, 1, 0, 0, 0, 0) := by decide +kernel
theorem k_142_257 : COD 142 257 = some (.aaload, 1, 0, 0, 0, 0) := by decide +kernel
theorem k_142_258 : COD 142 258 = some (.invokevirtual 101, 3, 163, 1, 1319, 11) := by decide +kernel
theorem k_142_261 : COD 142 261 = some (.ldc 123, 2, 126, 0, 1383, 0) := by decide +kernel
theorem k_142_263 : COD 142 263 = some (.invokevirtual 101, 3, 163, 1, 1319, 11) := by decide +kernel
theorem k_142_266 : COD 142 266 = some (.aload_n 0, 1, 0, 0, 0, 0) := by decide +kernel
theorem k_142_267 : COD 142 267 = some (.getfield 53, 3, 10, 3, 1250, 0) := by decide +kernel
theorem k_142_270 : COD 142 270 = some (.invokevirtual 118, 3, 142, 0, 1381, 10) := by decide +kernel
theorem k_142_273 : COD 142 273 = some (.invokevirtual 101, 3, 163, 1, 1319, 11) := by decide +kernel
theorem k_142_276 : COD 142 276 = some (.ldc 121, 2, 125, 0, 1382, 0) := by decide +kernel
theorem k_142_278 : COD 142 278 = some (.invokevirtual 101, 3, 163, 1, 1319, 11) := by decide +kernel
theorem k_142_281 : COD 142 281 = some (.invokevirtual 110, 3, 165, 0, 1322, 11) := by decide +kernel
theorem k_142_284 : COD 142 284 = some (.areturn, 1, 0, 0, 0, 0) := by decide +kernel
theorem k_142_285 : COD 142 285 = some (.aload_n 0, 1, 0, 0, 0, 0) := by decide +kernel
theorem k_142_286 : COD 142 286 = some (.getfield 7, 3, 10, 0, 1244, 0) := by decide +kernel
theorem k_142_289 : COD 142 289 = some (.bipush 15, 2, 0, 0, 0, 0) := by decide +kernel
theorem k_142_291 : COD 142 291 = some (.if_icmp .ge 56, 3, 347, 0, 0, 0) := by decide +kernel
theorem k_142_294 : COD 142 294 = some (.new 98, 3, 11, 0, 1317, 0) := by decide +kernel
theorem k_142_297 : COD 142 297 = some (.dup, 1, 0, 0, 0, 0) := by decide +kernel
theorem k_142_298 : COD 142 298 = some (.invokespecial 100, 3, 162, 0, 1318, 11) := by decide +kernel
theorem k_142_301 : COD 142 301 = some (.aload_n 2, 1, 0, 0, 0, 0) := by decide +kernel
theorem k_142_302 : COD 142 302 = some (.aload_n 0, 1, 0, 0, 0, 0) := by decide +kernel
theorem k_142_303 : COD 142 303 = some (.getfield 7, 3, 10, 0, 1244, 0) := by decide +kernel
theorem k_142_306 : COD 142 306 = some (.bipush 9, 2, 0, 0, 0, 0) := by decide +kernel
theorem k_142_308 : COD 142 308 = some (.isub, 1, 0, 0, 0, 0) := by decide +kernel
theorem k_142_309 : COD 142 309 = some (.aaload, 1, 0, 0, 0, 0) := by decide +kernel
theorem k_142_310 : COD 142 310 = some (.invokevirtual 101, 3, 163, 1, 1319, 11) := by decide +kernel
theorem k_142_313 : COD 142 313 = some (.aload_n 0, 1, 0, 0, 0, 0) := by decide +kernel
theorem k_142_314 : COD 142 314 = some (.getfield 39, 3, 10, 2, 1248, 0) := by decide +kernel
theorem k_142_317 : COD 142 317 = some (.invokevirtual 118, 3, 142, 0, 1381, 10) := by decide +kernel
theorem k_142_320 : COD 142 320 = some (.invokevirtual 101, 3, 163, 1, 1319, 11) := by decide +kernel
theorem k_142_323 : COD 142 323 = some (.ldc 125, 2, 127, 0, 1384, 0) := by decide +kernel
theorem k_142_325 : COD 142 325 = some (.invokevirtual 101, 3, 163, 1, 1319, 11) := by decide +kernel
theorem k_142_328 : COD 142 328 = some (.aload_n 0, 1, 0, 0, 0, 0) := by decide +kernel
theorem k_142_329 : COD 142 329 = some (.getfield 53, 3, 10, 3, 1250, 0) := by decide +kernel
theorem k_142_332 : COD 142 332 = some (.invokevirtual 118, 3, 142, 0, 1381, 10) := by decide +kernel
theorem k_142_335 : COD 142 335 = some (.invokevirtual 101, 3, 163, 1, 1319, 11) := by decide +kernel
theorem k_142_338 : COD 142 338 = some (.ldc 121, 2, 125, 0, 1382, 0) := by decide +kernel
theorem k_142_340 : COD 142 340 = some (.invokevirtual 101, 3, 163, 1, 1319, 11) := by decide +kernel
theorem k_142_343 : COD 142 343 = some (.invokevirtual 110, 3, 165, 0, 1322, 11) := by decide +kernel
theorem k_142_346 : COD 142 346 = some (.areturn, 1, 0, 0, 0, 0) := by decide +kernel
theorem k_142_347 : COD 142 347 = some (.aload_n 0, 1, 0, 0, 0, 0) := by decide +kernel
theorem k_142_348 : COD 142 348 = some (.getfield 7, 3, 10, 0, 1244, 0) := by decide +kernel
theorem k_142_351 : COD 142 351 = some (.bipush 25, 2, 0, 0, 0, 0) := by decide +kernel
theorem k_142_353 : COD 142 353 = some (.if_icmp .ge 46, 3, 399, 0, 0, 0) := by decide +kernel
theorem k_142_356 : COD 142 356 = some (.new 98, 3, 11, 0, 1317, 0) := by decide +kernel
theorem k_142_359 : COD 142 359 = some (.dup, 1, 0, 0, 0, 0) := by decide +kernel
theorem k_142_360 : COD 142 360 = some (.invokespecial 100, 3, 162, 0, 1318, 11) := by decide +kernel
theorem k_142_363 : COD 142 363 = some (.aload_n 0, 1, 0, 0, 0, 0) := by decide +kernel
theorem k_142_364 : COD 142 364 = some (.getfield 39, 3, 10, 2, 1248, 0) := by decide +kernel
theorem k_142_367 : COD 142 367 = some (.invokevirtual 118, 3, 142, 0, 1381, 10) := by decide +kernel
theorem k_142_370 : COD 142 370 = some (.invokevirtual 101, 3, 163, 1, 1319, 11) := by decide +kernel
theorem k_142_373 : COD 142 373 = some (.aload_n 3, 1, 0, 0, 0, 0) := by decide +kernel
theorem k_142_374 : COD 142 374 = some (.aload_n 0, 1, 0, 0, 0, 0) := by decide +kernel
theorem k_142_375 : COD 142 375 = some (.getfield 7, 3, 10, 0, 1244, 0) := by decide +kernel
theorem k_142_378 : COD 142 378 = some (.bipush 20, 2, 0, 0, 0, 0) := by decide +kernel
theorem k_142_380 : COD 142 380 = some (.isub, 1, 0, 0, 0, 0) := by decide +kernel
theorem k_142_381 : COD 142 381 = some (.aaload, 1, 0, 0, 0, 0) := by decide +kernel
theorem k_142_382 : COD 142 382 = some (.invokevirtual 101, 3, 163, 1, 1319, 11) := by decide +kernel
theorem k_142_385 : COD 142 385 = some (.aload_n 0, 1, 0, 0, 0, 0) := by decide +kernel
theorem k_142_386 : COD 142 386 = some (.getfield 53, 3, 10, 3, 1250, 0) := by decide +kernel
theorem k_142_389 : COD 142 389 = some (.invokevirtual 118, 3, 142, 0, 1381, 10) := by decide +kernel
theorem k_142_392 : COD 142 392 = some (.invokevirtual 101, 3, 163, 1, 1319, 11) := by decide +kernel
theorem k_142_395 : COD 142 395 = some (.invokevirtual 110, 3, 165, 0, 1322, 11) := by decide +kernel
theorem k_142_398 : COD 142 398 = some (.areturn, 1, 0, 0, 0, 0) := by decide +kernel
theorem k_142_399 : COD 142 399 = some (.aload_n 0, 1, 0, 0, 0, 0) := by decide +kernel
theorem k_142_400 : COD 142 400 = some (.getfield 7, 3, 10, 0, 1244, 0) := by decide +kernel
theorem k_142_403 : COD 142 403 = some (.bipush 26, 2, 0, 0, 0, 0) := by decide +kernel
theorem k_142_405 : COD 142 405 = some (.if_icmp .ne 36, 3, 441, 0, 0, 0) := by decide +kernel
theorem k_142_408 : COD 142 408 = some (.new 98, 3, 11, 0, 1317, 0) := by decide +kernel
theorem k_142_411 : COD 142 411 = some (.dup, 1, 0, 0, 0, 0) := by decide +kernel
theorem k_142_412 : COD 142 412 = some (.invokespecial 100, 3, 162, 0, 1318, 11) := by decide +kernel
theorem k_142_415 : COD 142 415 = some (.ldc 127, 2, 128, 0, 1385, 0) := by decide +kernel
theorem k_142_417 : COD 142 417 = some (.invokevirtual 101, 3, 163, 1, 1319, 11) := by decide +kernel
theorem k_142_420 : COD 142 420 = some (.aload_n 0, 1, 0, 0, 0, 0) := by decide +kernel
theorem k_142_421 : COD 142 421 = some (.getfield 39, 3, 10, 2, 1248, 0) := by decide +kernel
theorem k_142_424 : COD 142 424 = some (.invokevirtual 118, 3, 142, 0, 1381, 10) := by decide +kernel
theorem k_142_427 : COD 142 427 = some (.invokevirtual 101, 3, 163, 1, 1319, 11) := by decide +kernel
theorem k_142_430 : COD 142 430 = some (.ldc 129, 2, 129, 0, 1386, 0) := by decide +kernel
theorem k_142_432 : COD 142 432 = some (.invokevirtual 101, 3, 163, 1, 1319, 11) := by decide +kernel
theorem k_142_435 : COD 142 435 = some (.invokevirtual 110, 3, 165, 0, 1322, 11) := by decide +kernel
theorem k_142_438 : COD 142 438 = some (.goto 72, 3, 510, 0, 0, 0) := by decide +kernel
theorem k_142_441 : COD 142 441 = some (.new 98, 3, 11, 0, 1317, 0) := by decide +kernel
theorem k_142_444 : COD 142 444 = some (.dup, 1, 0, 0, 0, 0) := by decide +kernel
theorem k_142_445 : COD 142 445 = some (.invokespecial 100, 3, 162, 0, 1318, 11) := by decide +kernel
theorem k_142_448 : COD 142 448 = some (.ldc 131, 2, 130, 0, 1387, 0) := by decide +kernel
theorem k_142_450 : COD 142 450 = some (.invokevirtual 101, 3, 163, 1, 1319, 11) := by decide +kernel
theorem k_142_453 : COD 142 453 = some (.aload_n 0, 1, 0, 0, 0, 0) := by decide +kernel
theorem k_142_454 : COD 142 454 = some (.getfield 39, 3, 10, 2, 1248, 0) := by decide +kernel
theorem k_142_457 : COD 142 457 = some (.invokevirtual 118, 3, 142, 0, 1381, 10) := by decide +kernel
theorem k_142_460 : COD 142 460 = some (.invokevirtual 101, 3, 163, 1, 1319, 11) := by decide +kernel
theorem k_142_463 : COD 142 463 = some (.ldc 129, 2, 129, 0, 1386, 0) := by decide +kernel
theorem k_142_465 : COD 142 465 = some (.invokevirtual 101, 3, 163, 1, 1319, 11) := by decide +kernel
theorem k_142_468 : COD 142 468 = some (.aload_n 0, 1, 0, 0, 0, 0) := by decide +kernel
theorem k_142_469 : COD 142 469 = some (.getfield 7, 3, 10, 0, 1244, 0) := by decide +kernel
theorem k_142_472 : COD 142 472 = some (.bipush 27, 2, 0, 0, 0, 0) := by decide +kernel
theorem k_142_474 : COD 142 474 = some (.if_icmp .ne 8, 3, 482, 0, 0, 0) := by decide +kernel
theorem k_142_477 : COD 142 477 = some (.ldc 133, 2, 131, 0, 1388, 0) := by decide +kernel
theorem k_142_479 : COD 142 479 = some (.goto 5, 3, 484, 0, 0, 0) := by decide +kernel
theorem k_142_482 : COD 142 482 = some (.ldc 135, 2, 132, 0, 1389, 0) := by decide +kernel
theorem k_142_484 : COD 142 484 = some (.invokevirtual 101, 3, 163, 1, 1319, 11) := by decide +kernel
theorem k_142_487 : COD 142 487 = some (.ldc 131, 2, 130, 0, 1387, 0) := by decide +kernel
theorem k_142_489 : COD 142 489 = some (.invokevirtual 101, 3, 163, 1, 1319, 11) := by decide +kernel
theorem k_142_492 : COD 142 492 = some (.aload_n 0, 1, 0, 0, 0, 0) := by decide +kernel
theorem k_142_493 : COD 142 493 = some (.getfield 53, 3, 10, 3, 1250, 0) := by decide +kernel
theorem k_142_496 : COD 142 496 = some (.invokevirtual 118, 3, 142, 0, 1381, 10) := by decide +kernel
theorem k_142_499 : COD 142 499 = some (.invokevirtual 101, 3, 163, 1, 1319, 11) := by decide +kernel
theorem k_142_502 : COD 142 502 = some (.ldc 129, 2, 129, 0, 1386, 0) := by decide +kernel
theorem k_142_504 : COD 142 504 = some (.invokevirtual 101, 3, 163, 1, 1319, 11) := by decide +kernel
theorem k_142_507 : COD 142 507 = some (.invokevirtual 110, 3, 165, 0, 1322, 11) := by decide +kernel
theorem k_142_510 : COD 142 510 = some (.areturn, 1, 0, 0, 0, 0) := by decide +kernel
theorem k_143_0 : COD 143 0 = some (.aload_n 0, 1, 0, 0, 0, 0) := by decide +kernel
theorem k_143_1 : COD 143 1 = some (.invokespecial 3, 3, 1000, 0, 1278, 0) := by decide +kernel
theorem k_143_4 : COD 143 4 = some (.getstatic 18, 3, 2, 0, 1115, 0) := by decide +kernel
theorem k_143_7 : COD 143 7 = some (.ifCond .eq 18, 3, 25, 0, 0, 0) := by decide +kernel
theorem k_143_10 : COD 143 10 = some (.aload_n 0, 1, 0, 0, 0, 0) := by decide +kernel
theorem k_143_11 : COD 143 11 = some (.iload_n 1, 1, 0, 0, 0, 0) := by decide +kernel
theorem k_143_12 : COD 143 12 = some (.newarray .byte, 2, 0, 0, 0, 0) := by decide +kernel
theorem k_143_14 : COD 143 14 = some (.putfield 15, 3, 11, 0, 1279, 0) := by decide +kernel
theorem k_143_17 : COD 143 17 = some (.aload_n 0, 1, 0, 0, 0, 0) := by decide +kernel
theorem k_143_18 : COD 143 18 = some (.iconst 0, 1, 0, 0, 0, 0) := by decide +kernel
theorem k_143_19 : COD 143 19 = some (.putfield 22, 3, 11, 1, 1280, 0) := by decide +kernel
theorem k_143_22 : COD 143 22 = some (.goto 16, 3, 38, 0, 0, 0) := by decide +kernel
theorem k_143_25 : COD 143 25 = some (.aload_n 0, 1, 0, 0, 0, 0) := by decide +kernel
theorem k_143_26 : COD 143 26 = some (.iload_n 1, 1, 0, 0, 0, 0) := by decide +kernel
theorem k_143_27 : COD 143 27 = some (.invokestatic 26, 3, 999, 1, 1145, 0) := by decide +kernel
theorem k_143_30 : COD 143 30 = some (.putfield 15, 3, 11, 0, 1279, 0) := by decide +kernel
theorem k_143_33 : COD 143 33 = some (.aload_n 0, 1, 0, 0, 0, 0) := by decide +kernel
theorem k_143_34 : COD 143 34 = some (.iconst 1, 1, 0, 0, 0, 0) := by decide +kernel
theorem k_143_35 : COD 143 35 = some (.putfield 22, 3, 11, 1, 1280, 0) := by decide +kernel
theorem k_143_38 : COD 143 38 = some (.return_, 1, 0, 0, 0, 0) := by decide +kernel
theorem k_144_0 : COD 144 0 = some (.aload_n 0, 1, 0, 0, 0, 0) := by decide +kernel
theorem k_144_1 : COD 144 1 = some (.getfield 79, 3, 11, 3, 1282, 0) := by decide +kernel
theorem k_144_4 : COD 144 4 = some (.ireturn, 1, 0, 0, 0, 0) := by decide +kernel
theorem k_145_0 : COD 145 0 = some (.aload_n 0, 1, 0, 0, 0, 0) := by decide +kernel
theorem k_145_1 : COD 145 1 = some (.getfield 15, 3, 11, 0, 1279, 0) := by decide +kernel
theorem k_145_4 : COD 145 4 = some (.arraylength, 1, 0, 0, 0, 0) := by decide +kernel
theorem k_145_5 : COD 145 5 = some (.aload_n 0, 1, 0, 0, 0, 0) := by decide +kernel
theorem k_145_6 : COD 145 6 = some (.getfield 22, 3, 11, 1, 1280, 0) := by decide +kernel
theorem k_145_9 : COD 145 9 = some (.ishr, 1, 0, 0, 0, 0) := by decide +kernel
theorem k_145_10 : COD 145 10 = some (.istore_n 2, 1, 0, 0, 0, 0) := by decide +kernel
theorem k_145_11 : COD 145 11 = some (.iload_n 1, 1, 0, 0, 0, 0) := by decide +kernel
theorem k_145_12 : COD 145 12 = some (.iload_n 2, 1, 0, 0, 0, 0) := by decide +kernel
theorem k_145_13 : COD 145 13 = some (.isub, 1, 0, 0, 0, 0) := by decide +kernel
theorem k_145_14 : COD 145 14 = some (.ifCond .le 24, 3, 38, 0, 0, 0) := by decide +kernel
theorem k_145_17 : COD 145 17 = some (.aload_n 0, 1, 0, 0, 0, 0) := by decide +kernel
theorem k_145_18 : COD 145 18 = some (.aload_n 0, 1, 0, 0, 0, 0) := by decide +kernel
theorem k_145_19 : COD 145 19 = some (.getfield 15, 3, 11, 0, 1279, 0) := by decide +kernel
theorem k_145_22 : COD 145 22 = some (.aload_n 0, 1, 0, 0, 0, 0) := by decide +kernel
theorem k_145_23 : COD 145 23 = some (.iload_n 1, 1, 0, 0, 0, 0) := by decide +kernel
theorem k_145_24 : COD 145 24 = some (.invokevirtual 104, 3, 146, 1, 1083, 11) := by decide +kernel
theorem k_145_27 : COD 145 27 = some (.aload_n 0, 1, 0, 0, 0, 0) := by decide +kernel
theorem k_145_28 : COD 145 28 = some (.getfield 22, 3, 11, 1, 1280, 0) := by decide +kernel
theorem k_145_31 : COD 145 31 = some (.ishl, 1, 0, 0, 0, 0) := by decide +kernel
theorem k_145_32 : COD 145 32 = some (.invokestatic 108, 3, 168, 2, 1096, 0) := by decide +kernel
theorem k_145_35 : COD 145 35 = some (.putfield 15, 3, 11, 0, 1279, 0) := by decide +kernel
theorem k_145_38 : COD 145 38 = some (.return_, 1, 0, 0, 0, 0) := by decide +kernel
theorem k_146_0 : COD 146 0 = some (.aload_n 0, 1, 0, 0, 0, 0) := by decide +kernel
theorem k_146_1 : COD 146 1 = some (.getfield 15, 3, 11, 0, 1279, 0) := by decide +kernel
theorem k_146_4 : COD 146 4 = some (.arraylength, 1, 0, 0, 0, 0) := by decide +kernel
theorem k_146_5 : COD 146 5 = some (.istore_n 2, 1, 0, 0, 0, 0) := by decide +kernel
theorem k_146_6 : COD 146 6 = some (.iload_n 1, 1, 0, 0, 0, 0) := by decide +kernel
theorem k_146_7 : COD 146 7 = some (.aload_n 0, 1, 0, 0, 0, 0) := by decide +kernel
theorem k_146_8 : COD 146 8 = some (.getfield 22, 3, 11, 1, 1280, 0) := by decide +kernel
theorem k_146_11 : COD 146 11 = some (.ishl, 1, 0, 0, 0, 0) := by decide +kernel
theorem k_146_12 : COD 146 12 = some (.istore_n 3, 1, 0, 0, 0, 0) := by decide +kernel
theorem k_146_13 : COD 146 13 = some (.iload_n 3, 1, 0, 0, 0, 0) := by decide +kernel
theorem k_146_14 : COD 146 14 = some (.iload_n 2, 1, 0, 0, 0, 0) := by decide +kernel
theorem k_146_15 : COD 146 15 = some (.isub, 1, 0, 0, 0, 0) := by decide +kernel
theorem k_146_16 : COD 146 16 = some (.istore 4, 2, 0, 0, 0, 0) := by decide +kernel
theorem k_146_18 : COD 146 18 = some (.iload_n 2, 1, 0, 0, 0, 0) := by decide +kernel
theorem k_146_19 : COD 146 19 = some (.iload 4, 2, 0, 0, 0, 0) := by decide +kernel
theorem k_146_21 : COD 146 21 = some (.iload_n 2, 1, 0, 0, 0, 0) := by decide +kernel
theorem k_146_22 : COD 146 22 = some (.iconst 2, 1, 0, 0, 0, 0) := by decide +kernel
theorem k_146_23 : COD 146 23 = some (.aload_n 0, 1, 0, 0, 0, 0) := by decide +kernel
theorem k_146_24 : COD 146 24 = some (.getfield 22, 3, 11, 1, 1280, 0) := by decide +kernel
theorem k_146_27 : COD 146 27 = some (.ishl, 1, 0, 0, 0, 0) := by decide +kernel
theorem k_146_28 : COD 146 28 = some (.iadd, 1, 0, 0, 0, 0) := by decide +kernel
theorem k_146_29 : COD 146 29 = some (.invokestatic 114, 3, 172, 3, 1087, 0) := by decide +kernel
theorem k_146_32 : COD 146 32 = some (.istore 5, 2, 0, 0, 0, 0) := by decide +kernel
theorem k_146_34 : COD 146 34 = some (.iload 5, 2, 0, 0, 0, 0) := by decide +kernel
theorem k_146_36 : COD 146 36 = some (.ldc 39, 2, 1, 0, 1095, 0) := by decide +kernel
theorem k_146_38 : COD 146 38 = some (.if_icmp .ne 13, 3, 51, 0, 0, 0) := by decide +kernel
theorem k_146_41 : COD 146 41 = some (.new 120, 3, 99, 9, 0, 0) := by decide +kernel
theorem k_146_44 : COD 146 44 = some (.dup, 1, 0, 0, 0, 0) := by decide +kernel
theorem k_146_45 : COD 146 45 = some (.ldc 122, 2, 99, 0, 0, 0) := by decide +kernel
theorem k_146_47 : COD 146 47 = some (.invokespecial 124, 3, 999, 0, 0, 0) := by decide +kernel
theorem k_146_50 : COD 146 50 = some (.athrow, 1, 0, 0, 0, 0) := by decide +kernel
theorem k_146_51 : COD 146 51 = some (.iload 5, 2, 0, 0, 0, 0) := by decide +kernel
theorem k_146_53 : COD 146 53 = some (.aload_n 0, 1, 0, 0, 0, 0) := by decide +kernel
theorem k_146_54 : COD 146 54 = some (.getfield 22, 3, 11, 1, 1280, 0) := by decide +kernel
theorem k_146_57 : COD 146 57 = some (.ishr, 1, 0, 0, 0, 0) := by decide +kernel
theorem k_146_58 : COD 146 58 = some (.ireturn, 1, 0, 0, 0, 0) := by decide +kernel
theorem k_147_0 : COD 147 0 = some (.aload_n 0, 1, 0, 0, 0, 0) := by decide +kernel
theorem k_147_1 : COD 147 1 = some (.invokevirtual 83, 3, 152, 0, 1110, 11) := by decide +kernel
theorem k_147_4 : COD 147 4 = some (.ifCond .ne 4, 3, 8, 0, 0, 0) := by decide +kernel
theorem k_147_7 : COD 147 7 = some (.return_, 1, 0, 0, 0, 0) := by decide +kernel
theorem k_147_8 : COD 147 8 = some (.aload_n 0, 1, 0, 0, 0, 0) := by decide +kernel
theorem k_147_9 : COD 147 9 = some (.getfield 15, 3, 11, 0, 1279, 0) := by decide +kernel
theorem k_147_12 : COD 147 12 = some (.arraylength, 1, 0, 0, 0, 0) := by decide +kernel
theorem k_147_13 : COD 147 13 = some (.invokestatic 26, 3, 999, 1, 1145, 0) := by decide +kernel
theorem k_147_16 : COD 147 16 = some (.astore_n 1, 1, 0, 0, 0, 0) := by decide +kernel
theorem k_147_17 : COD 147 17 = some (.aload_n 0, 1, 0, 0, 0, 0) := by decide +kernel
theorem k_147_18 : COD 147 18 = some (.getfield 15, 3, 11, 0, 1279, 0) := by decide +kernel
theorem k_147_21 : COD 147 21 = some (.iconst 0, 1, 0, 0, 0, 0) := by decide +kernel
theorem k_147_22 : COD 147 22 = some (.aload_n 1, 1, 0, 0, 0, 0) := by decide +kernel
theorem k_147_23 : COD 147 23 = some (.iconst 0, 1, 0, 0, 0, 0) := by decide +kernel
theorem k_147_24 : COD 147 24 = some (.aload_n 0, 1, 0, 0, 0, 0) := by decide +kernel
theorem k_147_25 : COD 147 25 = some (.getfield 79, 3, 11, 3, 1282, 0) := by decide +kernel
theorem k_147_28 : COD 147 28 = some (.invokestatic 125, 3, 167, 5, 1152, 0) := by decide +kernel
theorem k_147_31 : COD 147 31 = some (.aload_n 0, 1, 0, 0, 0, 0) := by decide +kernel
theorem k_147_32 : COD 147 32 = some (.aload_n 1, 1, 0, 0, 0, 0) := by decide +kernel
theorem k_147_33 : COD 147 33 = some (.putfield 15, 3, 11, 0, 1279, 0) := by decide +kernel
theorem k_147_36 : COD 147 36 = some (.aload_n 0, 1, 0, 0, 0, 0) := by decide +kernel
theorem k_147_37 : COD 147 37 = some (.iconst 1, 1, 0, 0, 0, 0) := by decide +kernel
theorem k_147_38 : COD 147 38 = some (.putfield 22, 3, 11, 1, 1280, 0) := by decide +kernel
theorem k_147_41 : COD 147 41 = some (.return_, 1, 0, 0, 0, 0) := by decide +kernel
theorem k_148_0 : COD 148 0 = some (.aload_n 1, 1, 0, 0, 0, 0) := by decide +kernel
theorem k_148_1 : COD 148 1 = some (.ifnonnull 8, 3, 9, 0, 0, 0) := by decide +kernel
theorem k_148_4 : COD 148 4 = some (.aload_n 0, 1, 0, 0, 0, 0) := by decide +kernel
theorem k_148_5 : COD 148 5 = some (.invokevirtual 204, 3, 149, 0, 1075, 11) := by decide +kernel
theorem k_148_8 : COD 148 8 = some (.areturn, 1, 0, 0, 0, 0) := by decide +kernel
theorem k_148_9 : COD 148 9 = some (.aload_n 1, 1, 0, 0, 0, 0) := by decide +kernel
theorem k_148_10 : COD 148 10 = some (.invokevirtual 32, 3, 227, 0, 1131, 12) := by decide +kernel
theorem k_148_13 : COD 148 13 = some (.istore_n 2, 1, 0, 0, 0, 0) := by decide +kernel
theorem k_148_14 : COD 148 14 = some (.aload_n 0, 1, 0, 0, 0, 0) := by decide +kernel
theorem k_148_15 : COD 148 15 = some (.aload_n 0, 1, 0, 0, 0, 0) := by decide +kernel
theorem k_148_16 : COD 148 16 = some (.getfield 79, 3, 11, 3, 1282, 0) := by decide +kernel
theorem k_148_19 : COD 148 19 = some (.iload_n 2, 1, 0, 0, 0, 0) := by decide +kernel
theorem k_148_20 : COD 148 20 = some (.iadd, 1, 0, 0, 0, 0) := by decide +kernel
theorem k_148_21 : COD 148 21 = some (.invokevirtual 100, 3, 145, 1, 1079, 11) := by decide +kernel
theorem k_148_24 : COD 148 24 = some (.aload_n 0, 1, 0, 0, 0, 0) := by decide +kernel
theorem k_148_25 : COD 148 25 = some (.aload_n 0, 1, 0, 0, 0, 0) := by decide +kernel
theorem k_148_26 : COD 148 26 = some (.getfield 79, 3, 11, 3, 1282, 0) := by decide +kernel
theorem k_148_29 : COD 148 29 = some (.aload_n 1, 1, 0, 0, 0, 0) := by decide +kernel
theorem k_148_30 : COD 148 30 = some (.invokevirtual 208, 3, 154, 2, 1132, 11) := by decide +kernel
theorem k_148_33 : COD 148 33 = some (.aload_n 0, 1, 0, 0, 0, 0) := by decide +kernel
theorem k_148_34 : COD 148 34 = some (.dup, 1, 0, 0, 0, 0) := by decide +kernel
theorem k_148_35 : COD 148 35 = some (.getfield 79, 3, 11, 3, 1282, 0) := by decide +kernel
theorem k_148_38 : COD 148 38 = some (.iload_n 2, 1, 0, 0, 0, 0) := by decide +kernel
theorem k_148_39 : COD 148 39 = some (.iadd, 1, 0, 0, 0, 0) := by decide +kernel
theorem k_148_40 : COD 148 40 = some (.putfield 79, 3, 11, 3, 1282, 0) := by decide +kernel
theorem k_148_43 : COD 148 43 = some (.aload_n 0, 1, 0, 0, 0, 0) := by decide +kernel
theorem k_148_44 : COD 148 44 = some (.areturn, 1, 0, 0, 0, 0) := by decide +kernel
theorem k_149_0 : COD 149 0 = some (.aload_n 0, 1, 0, 0, 0, 0) := by decide +kernel
theorem k_149_1 : COD 149 1 = some (.aload_n 0, 1, 0, 0, 0, 0) := by decide +kernel
theorem k_149_2 : COD 149 2 = some (.getfield 79, 3, 11, 3, 1282, 0) := by decide +kernel
theorem k_149_5 : COD 149 5 = some (.iconst 4, 1, 0, 0, 0, 0) := by decide +kernel
theorem k_149_6 : COD 149 6 = some (.iadd, 1, 0, 0, 0, 0) := by decide +kernel
theorem k_149_7 : COD 149 7 = some (.invokevirtual 100, 3, 145, 1, 1079, 11) := by decide +kernel
theorem k_149_10 : COD 149 10 = some (.aload_n 0, 1, 0, 0, 0, 0) := by decide +kernel
theorem k_149_11 : COD 149 11 = some (.getfield 79, 3, 11, 3, 1282, 0) := by decide +kernel
theorem k_149_14 : COD 149 14 = some (.istore_n 1, 1, 0, 0, 0, 0) := by decide +kernel
theorem k_149_15 : COD 149 15 = some (.aload_n 0, 1, 0, 0, 0, 0) := by decide +kernel
theorem k_149_16 : COD 149 16 = some (.getfield 15, 3, 11, 0, 1279, 0) := by decide +kernel
theorem k_149_19 : COD 149 19 = some (.astore_n 2, 1, 0, 0, 0, 0) := by decide +kernel
theorem k_149_20 : COD 149 20 = some (.aload_n 0, 1, 0, 0, 0, 0) := by decide +kernel
theorem k_149_21 : COD 149 21 = some (.invokevirtual 83, 3, 152, 0, 1110, 11) := by decide +kernel
theorem k_149_24 : COD 149 24 = some (.ifCond .eq 38, 3, 62, 0, 0, 0) := by decide +kernel
theorem k_149_27 : COD 149 27 = some (.aload_n 2, 1, 0, 0, 0, 0) := by decide +kernel
theorem k_149_28 : COD 149 28 = some (.iload_n 1, 1, 0, 0, 0, 0) := by decide +kernel
theorem k_149_29 : COD 149 29 = some (.iinc 1 1, 3, 0, 0, 0, 0) := by decide +kernel
theorem k_149_32 : COD 149 32 = some (.bipush 110, 2, 0, 0, 0, 0) := by decide +kernel
theorem k_149_34 : COD 149 34 = some (.bastore, 1, 0, 0, 0, 0) := by decide +kernel
theorem k_149_35 : COD 149 35 = some (.aload_n 2, 1, 0, 0, 0, 0) := by decide +kernel
theorem k_149_36 : COD 149 36 = some (.iload_n 1, 1, 0, 0, 0, 0) := by decide +kernel
theorem k_149_37 : COD 149 37 = some (.iinc 1 1, 3, 0, 0, 0, 0) := by decide +kernel
theorem k_149_40 : COD 149 40 = some (.bipush 117, 2, 0, 0, 0, 0) := by decide +kernel
theorem k_149_42 : COD 149 42 = some (.bastore, 1, 0, 0, 0, 0) := by decide +kernel
theorem k_149_43 : COD 149 43 = some (.aload_n 2, 1, 0, 0, 0, 0) := by decide +kernel
theorem k_149_44 : COD 149 44 = some (.iload_n 1, 1, 0, 0, 0, 0) := by decide +kernel
theorem k_149_45 : COD 149 45 = some (.iinc 1 1, 3, 0, 0, 0, 0) := by decide +kernel
theorem k_149_48 : COD 149 48 = some (.bipush 108, 2, 0, 0, 0, 0) := by decide +kernel
theorem k_149_50 : COD 149 50 = some (.bastore, 1, 0, 0, 0, 0) := by decide +kernel
theorem k_149_51 : COD 149 51 = some (.aload_n 2, 1, 0, 0, 0, 0) := by decide +kernel
theorem k_149_52 : COD 149 52 = some (.iload_n 1, 1, 0, 0, 0, 0) := by decide +kernel
theorem k_149_53 : COD 149 53 = some (.iinc 1 1, 3, 0, 0, 0, 0) := by decide +kernel
theorem k_149_56 : COD 149 56 = some (.bipush 108, 2, 0, 0, 0, 0) := by decide +kernel
theorem k_149_58 : COD 149 58 = some (.bastore, 1, 0, 0, 0, 0) := by decide +kernel
theorem k_149_59 : COD 149 59 = some (.goto 17, 3, 76, 0, 0, 0) := by decide +kernel
theorem k_149_62 : COD 149 62 = some (.aload_n 2, 1, 0, 0, 0, 0) := by decide +kernel
theorem k_149_63 : COD 149 63 = some (.iload_n 1, 1, 0, 0, 0, 0) := by decide +kernel
theorem k_149_64 : COD 149 64 = some (.bipush 110, 2, 0, 0, 0, 0) := by decide +kernel
theorem k_149_66 : COD 149 66 = some (.bipush 117, 2, 0, 0, 0, 0) := by decide +kernel
theorem k_149_68 : COD 149 68 = some (.bipush 108, 2, 0, 0, 0, 0) := by decide +kernel
theorem k_149_70 : COD 149 70 = some (.bipush 108, 2, 0, 0, 0, 0) := by decide +kernel
theorem k_149_72 : COD 149 72 = some (.invokestatic 226, 3, 999, 6, 1116, 0) := by decide +kernel
theorem k_149_75 : COD 149 75 = some (.istore_n 1, 1, 0, 0, 0, 0) := by decide +kernel
theorem k_149_76 : COD 149 76 = some (.aload_n 0, 1, 0, 0, 0, 0) := by decide +kernel
theorem k_149_77 : COD 149 77 = some (.iload_n 1, 1, 0, 0, 0, 0) := by decide +kernel
theorem k_149_78 : COD 149 78 = some (.putfield 79, 3, 11, 3, 1282, 0) := by decide +kernel
theorem k_149_81 : COD 149 81 = some (.aload_n 0, 1, 0, 0, 0, 0) := by decide +kernel
theorem k_149_82 : COD 149 82 = some (.areturn, 1, 0, 0, 0, 0) := by decide +kernel
theorem k_150_0 : COD 150 0 = some (.aload_n 0, 1, 0, 0, 0, 0) := by decide +kernel
theorem k_150_1 : COD 150 1 = some (.getfield 79, 3, 11, 3, 1282, 0) := by decide +kernel
theorem k_150_4 : COD 150 4 = some (.istore_n 2, 1, 0, 0, 0, 0) := by decide +kernel
theorem k_150_5 : COD 150 5 = some (.iload_n 2, 1, 0, 0, 0, 0) := by decide +kernel
theorem k_150_6 : COD 150 6 = some (.iload_n 1, 1, 0, 0, 0, 0) := by decide +kernel
theorem k_150_7 : COD 150 7 = some (.invokestatic 245, 3, 156, 1, 1180, 0) := by decide +kernel
theorem k_150_10 : COD 150 10 = some (.iadd, 1, 0, 0, 0, 0) := by decide +kernel
theorem k_150_11 : COD 150 11 = some (.istore_n 3, 1, 0, 0, 0, 0) := by decide +kernel
theorem k_150_12 : COD 150 12 = some (.aload_n 0, 1, 0, 0, 0, 0) := by decide +kernel
theorem k_150_13 : COD 150 13 = some (.iload_n 3, 1, 0, 0, 0, 0) := by decide +kernel
theorem k_150_14 : COD 150 14 = some (.invokevirtual 100, 3, 145, 1, 1079, 11) := by decide +kernel
theorem k_150_17 : COD 150 17 = some (.aload_n 0, 1, 0, 0, 0, 0) := by decide +kernel
theorem k_150_18 : COD 150 18 = some (.invokevirtual 83, 3, 152, 0, 1110, 11) := by decide +kernel
theorem k_150_21 : COD 150 21 = some (.ifCond .eq 16, 3, 37, 0, 0, 0) := by decide +kernel
theorem k_150_24 : COD 150 24 = some (.iload_n 1, 1, 0, 0, 0, 0) := by decide +kernel
theorem k_150_25 : COD 150 25 = some (.iload_n 3, 1, 0, 0, 0, 0) := by decide +kernel
theorem k_150_26 : COD 150 26 = some (.aload_n 0, 1, 0, 0, 0, 0) := by decide +kernel
theorem k_150_27 : COD 150 27 = some (.getfield 15, 3, 11, 0, 1279, 0) := by decide +kernel
theorem k_150_30 : COD 150 30 = some (.invokestatic 248, 3, 155, 3, 1183, 0) := by decide +kernel
theorem k_150_33 : COD 150 33 = some (.pop, 1, 0, 0, 0, 0) := by decide +kernel
theorem k_150_34 : COD 150 34 = some (.goto 14, 3, 48, 0, 0, 0) := by decide +kernel
theorem k_150_37 : COD 150 37 = some (.iload_n 1, 1, 0, 0, 0, 0) := by decide +kernel
theorem k_150_38 : COD 150 38 = some (.iload_n 2, 1, 0, 0, 0, 0) := by decide +kernel
theorem k_150_39 : COD 150 39 = some (.iload_n 3, 1, 0, 0, 0, 0) := by decide +kernel
theorem k_150_40 : COD 150 40 = some (.aload_n 0, 1, 0, 0, 0, 0) := by decide +kernel
theorem k_150_41 : COD 150 41 = some (.getfield 15, 3, 11, 0, 1279, 0) := by decide +kernel
theorem k_150_44 : COD 150 44 = some (.invokestatic 251, 3, 999, 4, 1190, 0) := by decide +kernel
theorem k_150_47 : COD 150 47 = some (.pop, 1, 0, 0, 0, 0) := by decide +kernel
theorem k_150_48 : COD 150 48 = some (.aload_n 0, 1, 0, 0, 0, 0) := by decide +kernel
theorem k_150_49 : COD 150 49 = some (.iload_n 3, 1, 0, 0, 0, 0) := by decide +kernel
theorem k_150_50 : COD 150 50 = some (.putfield 79, 3, 11, 3, 1282, 0) := by decide +kernel
theorem k_150_53 : COD 150 53 = some (.aload_n 0, 1, 0, 0, 0, 0) := by decide +kernel
theorem k_150_54 : COD 150 54 = some (.areturn, 1, 0, 0, 0, 0) := by decide +kernel
theorem k_151_0 : COD 151 0 = some (.aload_n 0, 1, 0, 0, 0, 0) := by decide +kernel
theorem k_151_1 : COD 151 1 = some (.getfield 15, 3, 11, 0, 1279, 0) := by decide +kernel
theorem k_151_4 : COD 151 4 = some (.areturn, 1, 0, 0, 0, 0) := by decide +kernel
theorem k_152_0 : COD 152 0 = some (.getstatic 18, 3, 2, 0, 1115, 0) := by decide +kernel
theorem k_152_3 : COD 152 3 = some (.ifCond .eq 14, 3, 17, 0, 0, 0) := by decide +kernel
theorem k_152_6 : COD 152 6 = some (.aload_n 0, 1, 0, 0, 0, 0) := by decide +kernel
theorem k_152_7 : COD 152 7 = some (.getfield 22, 3, 11, 1, 1280, 0) := by decide +kernel
theorem k_152_10 : COD 152 10 = some (.ifCond .ne 7, 3, 17, 0, 0, 0) := by decide +kernel
theorem k_152_13 : COD 152 13 = some (.iconst 1, 1, 0, 0, 0, 0) := by decide +kernel
theorem k_152_14 : COD 152 14 = some (.goto 4, 3, 18, 0, 0, 0) := by decide +kernel
theorem k_152_17 : COD 152 17 = some (.iconst 0, 1, 0, 0, 0, 0) := by decide +kernel
theorem k_152_18 : COD 152 18 = some (.ireturn, 1, 0, 0, 0, 1) := by decide +kernel
theorem k_153_0 : COD 153 0 = some (.getstatic 18, 3, 2, 0, 1115, 0) := by decide +kernel
theorem k_153_3 : COD 153 3 = some (.ifCond .eq 18, 3, 21, 0, 0, 0) := by decide +kernel
theorem k_153_6 : COD 153 6 = some (.aload_n 0, 1, 0, 0, 0, 0) := by decide +kernel
theorem k_153_7 : COD 153 7 = some (.getfield 22, 3, 11, 1, 1280, 0) := by decide +kernel
theorem k_153_10 : COD 153 10 = some (.aload_n 1, 1, 0, 0, 0, 0) := by decide +kernel
theorem k_153_11 : COD 153 11 = some (.invokevirtual 40, 3, 229, 0, 1140, 12) := by decide +kernel
theorem k_153_14 : COD 153 14 = some (.if_icmp .eq 7, 3, 21, 0, 0, 0) := by decide +kernel
theorem k_153_17 : COD 153 17 = some (.aload_n 0, 1, 0, 0, 0, 0) := by decide +kernel
theorem k_153_18 : COD 153 18 = some (.invokevirtual 195, 3, 147, 0, 1141, 11) := by decide +kernel
theorem k_153_21 : COD 153 21 = some (.return_, 1, 0, 0, 0, 0) := by decide +kernel
theorem k_154_0 : COD 154 0 = some (.aload_n 0, 1, 0, 0, 0, 0) := by decide +kernel
theorem k_154_1 : COD 154 1 = some (.aload_n 2, 1, 0, 0, 0, 0) := by decide +kernel
theorem k_154_2 : COD 154 2 = some (.invokevirtual 397, 3, 153, 1, 1136, 11) := by decide +kernel
theorem k_154_5 : COD 154 5 = some (.aload_n 2, 1, 0, 0, 0, 0) := by decide +kernel
theorem k_154_6 : COD 154 6 = some (.aload_n 0, 1, 0, 0, 0, 0) := by decide +kernel
theorem k_154_7 : COD 154 7 = some (.getfield 15, 3, 11, 0, 1279, 0) := by decide +kernel
theorem k_154_10 : COD 154 10 = some (.iload_n 1, 1, 0, 0, 0, 0) := by decide +kernel
theorem k_154_11 : COD 154 11 = some (.aload_n 0, 1, 0, 0, 0, 0) := by decide +kernel
theorem k_154_12 : COD 154 12 = some (.getfield 22, 3, 11, 1, 1280, 0) := by decide +kernel
theorem k_154_15 : COD 154 15 = some (.invokevirtual 399, 3, 158, 3, 1167, 12) := by decide +kernel
theorem k_154_18 : COD 154 18 = some (.return_, 1, 0, 0, 0, 0) := by decide +kernel
theorem k_155_0 : COD 155 0 = some (.iload_n 1, 1, 0, 0, 0, 0) := by decide +kernel
theorem k_155_1 : COD 155 1 = some (.istore 5, 2, 0, 0, 0, 0) := by decide +kernel
theorem k_155_3 : COD 155 3 = some (.iload_n 0, 1, 0, 0, 0, 0) := by decide +kernel
theorem k_155_4 : COD 155 4 = some (.ifCond .ge 7, 3, 11, 0, 0, 0) := by decide +kernel
theorem k_155_7 : COD 155 7 = some (.iconst 1, 1, 0, 0, 0, 0) := by decide +kernel
theorem k_155_8 : COD 155 8 = some (.goto 4, 3, 12, 0, 0, 0) := by decide +kernel
theorem k_155_11 : COD 155 11 = some (.iconst 0, 1, 0, 0, 0, 0) := by decide +kernel
theorem k_155_12 : COD 155 12 = some (.istore 6, 2, 0, 0, 0, 0) := by decide +kernel
theorem k_155_14 : COD 155 14 = some (.iload 6, 2, 0, 0, 0, 0) := by decide +kernel
theorem k_155_16 : COD 155 16 = some (.ifCond .ne 6, 3, 22, 0, 0, 0) := by decide +kernel
theorem k_155_19 : COD 155 19 = some (.iload_n 0, 1, 0, 0, 0, 0) := by decide +kernel
theorem k_155_20 : COD 155 20 = some (.ineg, 1, 0, 0, 0, 0) := by decide +kernel
theorem k_155_21 : COD 155 21 = some (.istore_n 0, 1, 0, 0, 0, 0) := by decide +kernel
theorem k_155_22 : COD 155 22 = some (.iload_n 0, 1, 0, 0, 0, 0) := by decide +kernel
theorem k_155_23 : COD 155 23 = some (.bipush (-100), 2, 0, 0, 0, 0) := by decide +kernel
theorem k_155_25 : COD 155 25 = some (.if_icmp .gt 47, 3, 72, 0, 0, 0) := by decide +kernel
theorem k_155_28 : COD 155 28 = some (.iload_n 0, 1, 0, 0, 0, 0) := by decide +kernel
theorem k_155_29 : COD 155 29 = some (.bipush 100, 2, 0, 0, 0, 0) := by decide +kernel
theorem k_155_31 : COD 155 31 = some (.idiv, 1, 0, 0, 0, 0) := by decide +kernel
theorem k_155_32 : COD 155 32 = some (.istore_n 3, 1, 0, 0, 0, 0) := by decide +kernel
theorem k_155_33 : COD 155 33 = some (.iload_n 3, 1, 0, 0, 0, 0) := by decide +kernel
theorem k_155_34 : COD 155 34 = some (.bipush 100, 2, 0, 0, 0, 0) := by decide +kernel
theorem k_155_36 : COD 155 36 = some (.imul, 1, 0, 0, 0, 0) := by decide +kernel
theorem k_155_37 : COD 155 37 = some (.iload_n 0, 1, 0, 0, 0, 0) := by decide +kernel
theorem k_155_38 : COD 155 38 = some (.isub, 1, 0, 0, 0, 0) := by decide +kernel
theorem k_155_39 : COD 155 39 = some (.istore 4, 2, 0, 0, 0, 0) := by decide +kernel
theorem k_155_41 : COD 155 41 = some (.iload_n 3, 1, 0, 0, 0, 0) := by decide +kernel
theorem k_155_42 : COD 155 42 = some (.istore_n 0, 1, 0, 0, 0, 0) := by decide +kernel
theorem k_155_43 : COD 155 43 = some (.aload_n 2, 1, 0, 0, 0, 0) := by decide +kernel
theorem k_155_44 : COD 155 44 = some (.iinc 5 (-1), 3, 0, 0, 0, 0) := by decide +kernel
theorem k_155_47 : COD 155 47 = some (.iload 5, 2, 0, 0, 0, 0) := by decide +kernel
theorem k_155_49 : COD 155 49 = some (.getstatic 83, 3, 1, 0, 1186, 0) := by decide +kernel
theorem k_155_52 : COD 155 52 = some (.iload 4, 2, 0, 0, 0, 0) := by decide +kernel
theorem k_155_54 : COD 155 54 = some (.baload, 1, 0, 0, 0, 0) := by decide +kernel
theorem k_155_55 : COD 155 55 = some (.bastore, 1, 0, 0, 0, 0) := by decide +kernel
theorem k_155_56 : COD 155 56 = some (.aload_n 2, 1, 0, 0, 0, 0) := by decide +kernel
theorem k_155_57 : COD 155 57 = some (.iinc 5 (-1), 3, 0, 0, 0, 0) := by decide +kernel
theorem k_155_60 : COD 155 60 = some (.iload 5, 2, 0, 0, 0, 0) := by decide +kernel
theorem k_155_62 : COD 155 62 = some (.getstatic 87, 3, 4, 0, 1188, 0) := by decide +kernel
theorem k_155_65 : COD 155 65 = some (.iload 4, 2, 0, 0, 0, 0) := by decide +kernel
theorem k_155_67 : COD 155 67 = some (.baload, 1, 0, 0, 0, 0) := by decide +kernel
theorem k_155_68 : COD 155 68 = some (.bastore, 1, 0, 0, 0, 0) := by decide +kernel
theorem k_155_69 : COD 155 69 = some (.goto (-47), 3, 22, 0, 0, 0) := by decide +kernel
theorem k_155_72 : COD 155 72 = some (.aload_n 2, 1, 0, 0, 0, 0) := by decide +kernel
theorem k_155_73 : COD 155 73 = some (.iinc 5 (-1), 3, 0, 0, 0, 0) := by decide +kernel
theorem k_155_76 : COD 155 76 = some (.iload 5, 2, 0, 0, 0, 0) := by decide +kernel
theorem k_155_78 : COD 155 78 = some (.getstatic 83, 3, 1, 0, 1186, 0) := by decide +kernel
theorem k_155_81 : COD 155 81 = some (.iload_n 0, 1, 0, 0, 0, 0) := by decide +kernel
theorem k_155_82 : COD 155 82 = some (.ineg, 1, 0, 0, 0, 0) := by decide +kernel
theorem k_155_83 : COD 155 83 = some (.baload, 1, 0, 0, 0, 0) := by decide +kernel
theorem k_155_84 : COD 155 84 = some (.bastore, 1, 0, 0, 0, 0) := by decide +kernel
theorem k_155_85 : COD 155 85 = some (.iload_n 0, 1, 0, 0, 0, 0) := by decide +kernel
theorem k_155_86 : COD 155 86 = some (.bipush (-9), 2, 0, 0, 0, 0) := by decide +kernel
theorem k_155_88 : COD 155 88 = some (.if_icmp .ge 16, 3, 104, 0, 0, 0) := by decide +kernel
theorem k_155_91 : COD 155 91 = some (.aload_n 2, 1, 0, 0, 0, 0) := by decide +kernel
theorem k_155_92 : COD 155 92 = some (.iinc 5 (-1), 3, 0, 0, 0, 0) := by decide +kernel
theorem k_155_95 : COD 155 95 = some (.iload 5, 2, 0, 0, 0, 0) := by decide +kernel
theorem k_155_97 : COD 155 97 = some (.getstatic 87, 3, 4, 0, 1188, 0) := by decide +kernel
theorem k_155_100 : COD 155 100 = some (.iload_n 0, 1, 0, 0, 0, 0) := by decide +kernel
theorem k_155_101 : COD 155 101 = some (.ineg, 1, 0, 0, 0, 0) := by decide +kernel
theorem k_155_102 : COD 155 102 = some (.baload, 1, 0, 0, 0, 0) := by decide +kernel
theorem k_155_103 : COD 155 103 = some (.bastore, 1, 0, 0, 0, 0) := by decide +kernel
theorem k_155_104 : COD 155 104 = some (.iload 6, 2, 0, 0, 0, 0) := by decide +kernel
theorem k_155_106 : COD 155 106 = some (.ifCond .eq 12, 3, 118, 0, 0, 0) := by decide +kernel
theorem k_155_109 : COD 155 109 = some (.aload_n 2, 1, 0, 0, 0, 0) := by decide +kernel
theorem k_155_110 : COD 155 110 = some (.iinc 5 (-1), 3, 0, 0, 0, 0) := by decide +kernel
theorem k_155_113 : COD 155 113 = some (.iload 5, 2, 0, 0, 0, 0) := by decide +kernel
theorem k_155_115 : COD 155 115 = some (.bipush 45, 2, 0, 0, 0, 0) := by decide +kernel
theorem k_155_117 : COD 155 117 = some (.bastore, 1, 0, 0, 0, 0) := by decide +kernel
theorem k_155_118 : COD 155 118 = some (.iload 5, 2, 0, 0, 0, 0) := by decide +kernel
theorem k_155_120 : COD 155 120 = some (.ireturn, 1, 0, 0, 0, 0) := by decide +kernel
theorem k_156_0 : COD 156 0 = some (.iconst 1, 1, 0, 0, 0, 0) := by decide +kernel
theorem k_156_1 : COD 156 1 = some (.istore_n 1, 1, 0, 0, 0, 0) := by decide +kernel
theorem k_156_2 : COD 156 2 = some (.iload_n 0, 1, 0, 0, 0, 0) := by decide +kernel
theorem k_156_3 : COD 156 3 = some (.ifCond .lt 8, 3, 11, 0, 0, 0) := by decide +kernel
theorem k_156_6 : COD 156 6 = some (.iconst 0, 1, 0, 0, 0, 0) := by decide +kernel
theorem k_156_7 : COD 156 7 = some (.istore_n 1, 1, 0, 0, 0, 0) := by decide +kernel
theorem k_156_8 : COD 156 8 = some (.iload_n 0, 1, 0, 0, 0, 0) := by decide +kernel
theorem k_156_9 : COD 156 9 = some (.ineg, 1, 0, 0, 0, 0) := by decide +kernel
theorem k_156_10 : COD 156 10 = some (.istore_n 0, 1, 0, 0, 0, 0) := by decide +kernel
theorem k_156_11 : COD 156 11 = some (.bipush (-10), 2, 0, 0, 0, 0) := by decide +kernel
theorem k_156_13 : COD 156 13 = some (.istore_n 2, 1, 0, 0, 0, 0) := by decide +kernel
theorem k_156_14 : COD 156 14 = some (.iconst 1, 1, 0, 0, 0, 0) := by decide +kernel
theorem k_156_15 : COD 156 15 = some (.istore_n 3, 1, 0, 0, 0, 0) := by decide +kernel
theorem k_156_16 : COD 156 16 = some (.iload_n 3, 1, 0, 0, 0, 0) := by decide +kernel
theorem k_156_17 : COD 156 17 = some (.bipush 10, 2, 0, 0, 0, 0) := by decide +kernel
theorem k_156_19 : COD 156 19 = some (.if_icmp .ge 23, 3, 42, 0, 0, 0) := by decide +kernel
theorem k_156_22 : COD 156 22 = some (.iload_n 0, 1, 0, 0, 0, 0) := by decide +kernel
theorem k_156_23 : COD 156 23 = some (.iload_n 2, 1, 0, 0, 0, 0) := by decide +kernel
theorem k_156_24 : COD 156 24 = some (.if_icmp .le 7, 3, 31, 0, 0, 0) := by decide +kernel
theorem k_156_27 : COD 156 27 = some (.iload_n 3, 1, 0, 0, 0, 0) := by decide +kernel
theorem k_156_28 : COD 156 28 = some (.iload_n 1, 1, 0, 0, 0, 0) := by decide +kernel
theorem k_156_29 : COD 156 29 = some (.iadd, 1, 0, 0, 0, 0) := by decide +kernel
theorem k_156_30 : COD 156 30 = some (.ireturn, 1, 0, 0, 0, 0) := by decide +kernel
theorem k_156_31 : COD 156 31 = some (.bipush 10, 2, 0, 0, 0, 0) := by decide +kernel
theorem k_156_33 : COD 156 33 = some (.iload_n 2, 1, 0, 0, 0, 0) := by decide +kernel
theorem k_156_34 : COD 156 34 = some (.imul, 1, 0, 0, 0, 0) := by decide +kernel
theorem k_156_35 : COD 156 35 = some (.istore_n 2, 1, 0, 0, 0, 0) := by decide +kernel
theorem k_156_36 : COD 156 36 = some (.iinc 3 1, 3, 0, 0, 0, 0) := by decide +kernel
theorem k_156_39 : COD 156 39 = some (.goto (-23), 3, 16, 0, 0, 0) := by decide +kernel
theorem k_156_42 : COD 156 42 = some (.bipush 10, 2, 0, 0, 0, 0) := by decide +kernel
theorem k_156_44 : COD 156 44 = some (.iload_n 1, 1, 0, 0, 0, 0) := by decide +kernel
theorem k_156_45 : COD 156 45 = some (.iadd, 1, 0, 0, 0, 0) := by decide +kernel
theorem k_156_46 : COD 156 46 = some (.ireturn, 1, 0, 0, 0, 0) := by decide +kernel
theorem k_157_0 : COD 157 0 = some (.aload_n 0, 1, 0, 0, 0, 0) := by decide +kernel
theorem k_157_1 : COD 157 1 = some (.aload_n 1, 1, 0, 0, 0, 0) := by decide +kernel
theorem k_157_2 : COD 157 2 = some (.aconst_null, 1, 0, 0, 0, 0) := by decide +kernel
theorem k_157_3 : COD 157 3 = some (.invokespecial 489, 3, 159, 2, 1331, 12) := by decide +kernel
theorem k_157_6 : COD 157 6 = some (.return_, 1, 0, 0, 0, 0) := by decide +kernel
theorem k_158_0 : COD 158 0 = some (.aload_n 0, 1, 0, 0, 0, 0) := by decide +kernel
theorem k_158_1 : COD 158 1 = some (.invokevirtual 335, 3, 229, 0, 814, 12) := by decide +kernel
theorem k_158_4 : COD 158 4 = some (.iload_n 3, 1, 0, 0, 0, 0) := by decide +kernel
theorem k_158_5 : COD 158 5 = some (.if_icmp .ne 23, 3, 28, 0, 0, 0) := by decide +kernel
theorem k_158_8 : COD 158 8 = some (.aload_n 0, 1, 0, 0, 0, 0) := by decide +kernel
theorem k_158_9 : COD 158 9 = some (.getfield 9, 3, 12, 0, 1368, 0) := by decide +kernel
theorem k_158_12 : COD 158 12 = some (.iconst 0, 1, 0, 0, 0, 0) := by decide +kernel
theorem k_158_13 : COD 158 13 = some (.aload_n 1, 1, 0, 0, 0, 0) := by decide +kernel
theorem k_158_14 : COD 158 14 = some (.iload_n 2, 1, 0, 0, 0, 0) := by decide +kernel
theorem k_158_15 : COD 158 15 = some (.iload_n 3, 1, 0, 0, 0, 0) := by decide +kernel
theorem k_158_16 : COD 158 16 = some (.ishl, 1, 0, 0, 0, 0) := by decide +kernel
theorem k_158_17 : COD 158 17 = some (.aload_n 0, 1, 0, 0, 0, 0) := by decide +kernel
theorem k_158_18 : COD 158 18 = some (.getfield 9, 3, 12, 0, 1368, 0) := by decide +kernel
theorem k_158_21 : COD 158 21 = some (.arraylength, 1, 0, 0, 0, 0) := by decide +kernel
theorem k_158_22 : COD 158 22 = some (.invokestatic 212, 3, 1001, 5, 1171, 0) := by decide +kernel
theorem k_158_25 : COD 158 25 = some (.goto 18, 3, 43, 0, 0, 0) := by decide +kernel
theorem k_158_28 : COD 158 28 = some (.aload_n 0, 1, 0, 0, 0, 0) := by decide +kernel
theorem k_158_29 : COD 158 29 = some (.getfield 9, 3, 12, 0, 1368, 0) := by decide +kernel
theorem k_158_32 : COD 158 32 = some (.iconst 0, 1, 0, 0, 0, 0) := by decide +kernel
theorem k_158_33 : COD 158 33 = some (.aload_n 1, 1, 0, 0, 0, 0) := by decide +kernel
theorem k_158_34 : COD 158 34 = some (.iload_n 2, 1, 0, 0, 0, 0) := by decide +kernel
theorem k_158_35 : COD 158 35 = some (.aload_n 0, 1, 0, 0, 0, 0) := by decide +kernel
theorem k_158_36 : COD 158 36 = some (.getfield 9, 3, 12, 0, 1368, 0) := by decide +kernel
theorem k_158_39 : COD 158 39 = some (.arraylength, 1, 0, 0, 0, 0) := by decide +kernel
theorem k_158_40 : COD 158 40 = some (.invokestatic 106, 3, 167, 5, 1172, 0) := by decide +kernel
theorem k_158_43 : COD 158 43 = some (.return_, 1, 0, 0, 0, 0) := by decide +kernel
theorem k_159_0 : COD 159 0 = some (.aload_n 0, 1, 0, 0, 0, 0) := by decide +kernel
theorem k_159_1 : COD 159 1 = some (.invokespecial 1, 3, 1000, 0, 1334, 0) := by decide +kernel
theorem k_159_4 : COD 159 4 = some (.aload_n 1, 1, 0, 0, 0, 0) := by decide +kernel
theorem k_159_5 : COD 159 5 = some (.invokevirtual 552, 3, 151, 0, 1335, 11) := by decide +kernel
theorem k_159_8 : COD 159 8 = some (.astore_n 3, 1, 0, 0, 0, 0) := by decide +kernel
theorem k_159_9 : COD 159 9 = some (.aload_n 1, 1, 0, 0, 0, 0) := by decide +kernel
theorem k_159_10 : COD 159 10 = some (.invokevirtual 549, 3, 166, 0, 1340, 11) := by decide +kernel
theorem k_159_13 : COD 159 13 = some (.istore 4, 2, 0, 0, 0, 0) := by decide +kernel
theorem k_159_15 : COD 159 15 = some (.aload_n 1, 1, 0, 0, 0, 0) := by decide +kernel
theorem k_159_16 : COD 159 16 = some (.invokevirtual 1047, 3, 152, 0, 1348, 11) := by decide +kernel
theorem k_159_19 : COD 159 19 = some (.ifCond .eq 22, 3, 41, 0, 0, 0) := by decide +kernel
theorem k_159_22 : COD 159 22 = some (.aload_n 0, 1, 0, 0, 0, 0) := by decide +kernel
theorem k_159_23 : COD 159 23 = some (.iconst 0, 1, 0, 0, 0, 0) := by decide +kernel
theorem k_159_24 : COD 159 24 = some (.putfield 15, 3, 12, 1, 1369, 0) := by decide +kernel
theorem k_159_27 : COD 159 27 = some (.aload_n 0, 1, 0, 0, 0, 0) := by decide +kernel
theorem k_159_28 : COD 159 28 = some (.aload_n 3, 1, 0, 0, 0, 0) := by decide +kernel
theorem k_159_29 : COD 159 29 = some (.iconst 0, 1, 0, 0, 0, 0) := by decide +kernel
theorem k_159_30 : COD 159 30 = some (.iload 4, 2, 0, 0, 0, 0) := by decide +kernel
theorem k_159_32 : COD 159 32 = some (.invokestatic 54, 3, 170, 3, 1349, 0) := by decide +kernel
theorem k_159_35 : COD 159 35 = some (.putfield 9, 3, 12, 0, 1368, 0) := by decide +kernel
theorem k_159_38 : COD 159 38 = some (.goto 59, 3, 97, 0, 0, 0) := by decide +kernel
theorem k_159_41 : COD 159 41 = some (.getstatic 38, 3, 2, 0, 818, 0) := by decide +kernel
theorem k_159_44 : COD 159 44 = some (.ifCond .eq 35, 3, 79, 0, 0, 0) := by decide +kernel
theorem k_159_47 : COD 159 47 = some (.aload_n 1, 1, 0, 0, 0, 0) := by decide +kernel
theorem k_159_48 : COD 159 48 = some (.getfield 1048, 3, 11, 2, 1281, 0) := by decide +kernel
theorem k_159_51 : COD 159 51 = some (.ifCond .eq 28, 3, 79, 0, 0, 0) := by decide +kernel
theorem k_159_54 : COD 159 54 = some (.aload_n 0, 1, 0, 0, 0, 0) := by decide +kernel
theorem k_159_55 : COD 159 55 = some (.aload_n 3, 1, 0, 0, 0, 0) := by decide +kernel
theorem k_159_56 : COD 159 56 = some (.iconst 0, 1, 0, 0, 0, 0) := by decide +kernel
theorem k_159_57 : COD 159 57 = some (.iload 4, 2, 0, 0, 0, 0) := by decide +kernel
theorem k_159_59 : COD 159 59 = some (.invokestatic 1051, 3, 999, 3, 1358, 0) := by decide +kernel
theorem k_159_62 : COD 159 62 = some (.putfield 9, 3, 12, 0, 1368, 0) := by decide +kernel
theorem k_159_65 : COD 159 65 = some (.aload_n 0, 1, 0, 0, 0, 0) := by decide +kernel
theorem k_159_66 : COD 159 66 = some (.aload_n 0, 1, 0, 0, 0, 0) := by decide +kernel
theorem k_159_67 : COD 159 67 = some (.getfield 9, 3, 12, 0, 1368, 0) := by decide +kernel
theorem k_159_70 : COD 159 70 = some (.iload 4, 2, 0, 0, 0, 0) := by decide +kernel
theorem k_159_72 : COD 159 72 = some (.invokestatic 47, 3, 999, 2, 1365, 0) := by decide +kernel
theorem k_159_75 : COD 159 75 = some (.putfield 15, 3, 12, 1, 1369, 0) := by decide +kernel
theorem k_159_78 : COD 159 78 = some (.return_, 1, 0, 0, 0, 0) := by decide +kernel
theorem k_159_79 : COD 159 79 = some (.aload_n 0, 1, 0, 0, 0, 0) := by decide +kernel
theorem k_159_80 : COD 159 80 = some (.iconst 1, 1, 0, 0, 0, 0) := by decide +kernel
theorem k_159_81 : COD 159 81 = some (.putfield 15, 3, 12, 1, 1369, 0) := by decide +kernel
theorem k_159_84 : COD 159 84 = some (.aload_n 0, 1, 0, 0, 0, 0) := by decide +kernel
theorem k_159_85 : COD 159 85 = some (.aload_n 3, 1, 0, 0, 0, 0) := by decide +kernel
theorem k_159_86 : COD 159 86 = some (.iconst 0, 1, 0, 0, 0, 0) := by decide +kernel
theorem k_159_87 : COD 159 87 = some (.iload 4, 2, 0, 0, 0, 0) := by decide +kernel
theorem k_159_89 : COD 159 89 = some (.iconst 1, 1, 0, 0, 0, 0) := by decide +kernel
theorem k_159_90 : COD 159 90 = some (.ishl, 1, 0, 0, 0, 0) := by decide +kernel
theorem k_159_91 : COD 159 91 = some (.invokestatic 54, 3, 170, 3, 1349, 0) := by decide +kernel
theorem k_159_94 : COD 159 94 = some (.putfield 9, 3, 12, 0, 1368, 0) := by decide +kernel
theorem k_159_97 : COD 159 97 = some (.return_, 1, 0, 0, 0, 0) := by decide +kernel
theorem k_160_0 : COD 160 0 = some (.iload_n 0, 1, 0, 0, 0, 0) := by decide +kernel
theorem k_160_1 : COD 160 1 = some (.iload_n 1, 1, 0, 0, 0, 0) := by decide +kernel
theorem k_160_2 : COD 160 2 = some (.iload_n 2, 1, 0, 0, 0, 0) := by decide +kernel
theorem k_160_3 : COD 160 3 = some (.getstatic 1053, 3, 3, 0, 834, 0) := by decide +kernel
theorem k_160_6 : COD 160 6 = some (.invokestatic 1065, 3, 175, 4, 1164, 0) := by decide +kernel
theorem k_160_9 : COD 160 9 = some (.ireturn, 1, 0, 0, 0, 0) := by decide +kernel
theorem k_161_0 : COD 161 0 = some (.iload_n 0, 1, 0, 0, 0, 0) := by decide +kernel
theorem k_161_1 : COD 161 1 = some (.iload_n 1, 1, 0, 0, 0, 0) := by decide +kernel
theorem k_161_2 : COD 161 2 = some (.iload_n 2, 1, 0, 0, 0, 0) := by decide +kernel
theorem k_161_3 : COD 161 3 = some (.getstatic 1053, 3, 3, 0, 834, 0) := by decide +kernel
theorem k_161_6 : COD 161 6 = some (.invokestatic 1062, 3, 174, 4, 1125, 0) := by decide +kernel
theorem k_161_9 : COD 161 9 = some (.pop, 1, 0, 0, 0, 0) := by decide +kernel
theorem k_161_10 : COD 161 10 = some (.return_, 1, 0, 0, 0, 0) := by decide +kernel
theorem k_162_0 : COD 162 0 = some (.aload_n 0, 1, 0, 0, 0, 0) := by decide +kernel
theorem k_162_1 : COD 162 1 = some (.bipush 16, 2, 0, 0, 0, 0) := by decide +kernel
theorem k_162_3 : COD 162 3 = some (.invokespecial 1, 3, 143, 1, 1275, 11) := by decide +kernel
theorem k_162_6 : COD 162 6 = some (.return_, 1, 0, 0, 0, 0) := by decide +kernel
theorem k_163_0 : COD 163 0 = some (.aload_n 0, 1, 0, 0, 0, 0) := by decide +kernel
theorem k_163_1 : COD 163 1 = some (.aload_n 1, 1, 0, 0, 0, 0) := by decide +kernel
theorem k_163_2 : COD 163 2 = some (.invokespecial 29, 3, 148, 1, 1071, 11) := by decide +kernel
theorem k_163_5 : COD 163 5 = some (.pop, 1, 0, 0, 0, 0) := by decide +kernel
theorem k_163_6 : COD 163 6 = some (.aload_n 0, 1, 0, 0, 0, 0) := by decide +kernel
theorem k_163_7 : COD 163 7 = some (.areturn, 1, 0, 0, 0, 0) := by decide +kernel
theorem k_164_0 : COD 164 0 = some (.aload_n 0, 1, 0, 0, 0, 0) := by decide +kernel
theorem k_164_1 : COD 164 1 = some (.iload_n 1, 1, 0, 0, 0, 0) := by decide +kernel
theorem k_164_2 : COD 164 2 = some (.invokespecial 53, 3, 150, 1, 1177, 11) := by decide +kernel
theorem k_164_5 : COD 164 5 = some (.pop, 1, 0, 0, 0, 0) := by decide +kernel
theorem k_164_6 : COD 164 6 = some (.aload_n 0, 1, 0, 0, 0, 0) := by decide +kernel
theorem k_164_7 : COD 164 7 = some (.areturn, 1, 0, 0, 0, 0) := by decide +kernel
theorem k_165_0 : COD 165 0 = some (.new 18, 3, 12, 0, 1326, 0) := by decide +kernel
theorem k_165_3 : COD 165 3 = some (.dup, 1, 0, 0, 0, 0) := by decide +kernel
theorem k_165_4 : COD 165 4 = some (.aload_n 0, 1, 0, 0, 0, 0) := by decide +kernel
theorem k_165_5 : COD 165 5 = some (.invokespecial 137, 3, 157, 1, 1328, 12) := by decide +kernel
theorem k_165_8 : COD 165 8 = some (.areturn, 1, 0, 0, 0, 0) := by decide +kernel
theorem k_166_0 : COD 166 0 = some (.aload_n 0, 1, 0, 0, 0, 0) := by decide +kernel
theorem k_166_1 : COD 166 1 = some (.invokespecial 343, 3, 144, 0, 1346, 11) := by decide +kernel
theorem k_166_4 : COD 166 4 = some (.ireturn, 1, 0, 0, 0, 0) := by decide +kernel
theorem k_167_0 : COD 167 0 = some (.aload_n 0, 1, 0, 0, 0, 0) := by decide +kernel
theorem k_167_1 : COD 167 1 = some (.iload_n 1, 1, 0, 0, 0, 0) := by decide +kernel
theorem k_167_2 : COD 167 2 = some (.aload_n 2, 1, 0, 0, 0, 0) := by decide +kernel
theorem k_167_3 : COD 167 3 = some (.iload_n 3, 1, 0, 0, 0, 0) := by decide +kernel
theorem k_167_4 : COD 167 4 = some (.iload 4, 2, 0, 0, 0, 0) := by decide +kernel
theorem k_167_6 : COD 167 6 = some (.invokestatic 240, 3, 999, 5, 1155, 0) := by decide +kernel
theorem k_167_9 : COD 167 9 = some (.return_, 1, 0, 0, 0, 0) := by decide +kernel
theorem k_168_0 : COD 168 0 = some (.iload_n 1, 1, 0, 0, 0, 0) := by decide +kernel
theorem k_168_1 : COD 168 1 = some (.aload_n 0, 1, 0, 0, 0, 0) := by decide +kernel
theorem k_168_2 : COD 168 2 = some (.arraylength, 1, 0, 0, 0, 0) := by decide +kernel
theorem k_168_3 : COD 168 3 = some (.if_icmp .ne 11, 3, 14, 0, 0, 0) := by decide +kernel
theorem k_168_6 : COD 168 6 = some (.aload_n 0, 1, 0, 0, 0, 0) := by decide +kernel
theorem k_168_7 : COD 168 7 = some (.invokevirtual 310, 3, 1002, 0, 1099, 0) := by decide +kernel
theorem k_168_10 : COD 168 10 = some (.checkcast 311, 3, 2, 0, 1105, 0) := by decide +kernel
theorem k_168_13 : COD 168 13 = some (.areturn, 1, 0, 0, 0, 0) := by decide +kernel
theorem k_168_14 : COD 168 14 = some (.iload_n 1, 1, 0, 0, 0, 0) := by decide +kernel
theorem k_168_15 : COD 168 15 = some (.newarray .byte, 2, 0, 0, 0, 0) := by decide +kernel
theorem k_168_17 : COD 168 17 = some (.astore_n 2, 1, 0, 0, 0, 0) := by decide +kernel
theorem k_168_18 : COD 168 18 = some (.aload_n 0, 1, 0, 0, 0, 0) := by decide +kernel
theorem k_168_19 : COD 168 19 = some (.iconst 0, 1, 0, 0, 0, 0) := by decide +kernel
theorem k_168_20 : COD 168 20 = some (.aload_n 2, 1, 0, 0, 0, 0) := by decide +kernel
theorem k_168_21 : COD 168 21 = some (.iconst 0, 1, 0, 0, 0, 0) := by decide +kernel
theorem k_168_22 : COD 168 22 = some (.aload_n 0, 1, 0, 0, 0, 0) := by decide +kernel
theorem k_168_23 : COD 168 23 = some (.arraylength, 1, 0, 0, 0, 0) := by decide +kernel
theorem k_168_24 : COD 168 24 = some (.iload_n 1, 1, 0, 0, 0, 0) := by decide +kernel
theorem k_168_25 : COD 168 25 = some (.invokestatic 304, 3, 226, 2, 1106, 0) := by decide +kernel
theorem k_168_28 : COD 168 28 = some (.invokestatic 150, 3, 1001, 5, 1107, 0) := by decide +kernel
theorem k_168_31 : COD 168 31 = some (.aload_n 2, 1, 0, 0, 0, 0) := by decide +kernel
theorem k_168_32 : COD 168 32 = some (.areturn, 1, 0, 0, 0, 0) := by decide +kernel
theorem k_169_0 : COD 169 0 = some (.iload_n 1, 1, 0, 0, 0, 0) := by decide +kernel
theorem k_169_1 : COD 169 1 = some (.iload_n 0, 1, 0, 0, 0, 0) := by decide +kernel
theorem k_169_2 : COD 169 2 = some (.if_icmp .ge 35, 3, 37, 0, 0, 0) := by decide +kernel
theorem k_169_5 : COD 169 5 = some (.new 43, 3, 99, 9, 0, 0) := by decide +kernel
theorem k_169_8 : COD 169 8 = some (.dup, 1, 0, 0, 0, 0) := by decide +kernel
theorem k_169_9 : COD 169 9 = some (.new 45, 3, 99, 9, 0, 0) := by decide +kernel
theorem k_169_12 : COD 169 12 = some (.dup, 1, 0, 0, 0, 0) := by decide +kernel
theorem k_169_13 : COD 169 13 = some (.invokespecial 47, 3, 999, 0, 0, 0) := by decide +kernel
theorem k_169_16 : COD 169 16 = some (.iload_n 0, 1, 0, 0, 0, 0) := by decide +kernel
theorem k_169_17 : COD 169 17 = some (.invokevirtual 54, 3, 999, 0, 0, 0) := by decide +kernel
theorem k_169_20 : COD 169 20 = some (.ldc_w 337, 3, 99, 0, 0, 0) := by decide +kernel
theorem k_169_23 : COD 169 23 = some (.invokevirtual 50, 3, 999, 0, 0, 0) := by decide +kernel
theorem k_169_26 : COD 169 26 = some (.iload_n 1, 1, 0, 0, 0, 0) := by decide +kernel
theorem k_169_27 : COD 169 27 = some (.invokevirtual 54, 3, 999, 0, 0, 0) := by decide +kernel
theorem k_169_30 : COD 169 30 = some (.invokevirtual 61, 3, 999, 0, 0, 0) := by decide +kernel
theorem k_169_33 : COD 169 33 = some (.invokespecial 65, 3, 999, 0, 0, 0) := by decide +kernel
theorem k_169_36 : COD 169 36 = some (.athrow, 1, 0, 0, 0, 0) := by decide +kernel
theorem k_169_37 : COD 169 37 = some (.return_, 1, 0, 0, 0, 0) := by decide +kernel
theorem k_170_0 : COD 170 0 = some (.iload_n 1, 1, 0, 0, 0, 0) := by decide +kernel
theorem k_170_1 : COD 170 1 = some (.ifCond .ne 9, 3, 10, 0, 0, 0) := by decide +kernel
theorem k_170_4 : COD 170 4 = some (.iload_n 2, 1, 0, 0, 0, 0) := by decide +kernel
theorem k_170_5 : COD 170 5 = some (.aload_n 0, 1, 0, 0, 0, 0) := by decide +kernel
theorem k_170_6 : COD 170 6 = some (.arraylength, 1, 0, 0, 0, 0) := by decide +kernel
theorem k_170_7 : COD 170 7 = some (.if_icmp .eq 10, 3, 17, 0, 0, 0) := by decide +kernel
theorem k_170_10 : COD 170 10 = some (.aload_n 0, 1, 0, 0, 0, 0) := by decide +kernel
theorem k_170_11 : COD 170 11 = some (.iload_n 1, 1, 0, 0, 0, 0) := by decide +kernel
theorem k_170_12 : COD 170 12 = some (.iload_n 2, 1, 0, 0, 0, 0) := by decide +kernel
theorem k_170_13 : COD 170 13 = some (.invokestatic 339, 3, 171, 3, 1352, 0) := by decide +kernel
theorem k_170_16 : COD 170 16 = some (.areturn, 1, 0, 0, 0, 0) := by decide +kernel
theorem k_170_17 : COD 170 17 = some (.aload_n 0, 1, 0, 0, 0, 0) := by decide +kernel
theorem k_170_18 : COD 170 18 = some (.invokevirtual 310, 3, 1002, 0, 1099, 0) := by decide +kernel
theorem k_170_21 : COD 170 21 = some (.checkcast 311, 3, 2, 0, 1105, 0) := by decide +kernel
theorem k_170_24 : COD 170 24 = some (.areturn, 1, 0, 0, 0, 0) := by decide +kernel
theorem k_171_0 : COD 171 0 = some (.iload_n 1, 1, 0, 0, 0, 0) := by decide +kernel
theorem k_171_1 : COD 171 1 = some (.iload_n 2, 1, 0, 0, 0, 0) := by decide +kernel
theorem k_171_2 : COD 171 2 = some (.invokestatic 343, 3, 169, 2, 1355, 0) := by decide +kernel
theorem k_171_5 : COD 171 5 = some (.iload_n 2, 1, 0, 0, 0, 0) := by decide +kernel
theorem k_171_6 : COD 171 6 = some (.iload_n 1, 1, 0, 0, 0, 0) := by decide +kernel
theorem k_171_7 : COD 171 7 = some (.isub, 1, 0, 0, 0, 0) := by decide +kernel
theorem k_171_8 : COD 171 8 = some (.istore_n 3, 1, 0, 0, 0, 0) := by decide +kernel
theorem k_171_9 : COD 171 9 = some (.iload_n 3, 1, 0, 0, 0, 0) := by decide +kernel
theorem k_171_10 : COD 171 10 = some (.newarray .byte, 2, 0, 0, 0, 0) := by decide +kernel
theorem k_171_12 : COD 171 12 = some (.astore 4, 2, 0, 0, 0, 0) := by decide +kernel
theorem k_171_14 : COD 171 14 = some (.aload_n 0, 1, 0, 0, 0, 0) := by decide +kernel
theorem k_171_15 : COD 171 15 = some (.iload_n 1, 1, 0, 0, 0, 0) := by decide +kernel
theorem k_171_16 : COD 171 16 = some (.aload 4, 2, 0, 0, 0, 0) := by decide +kernel
theorem k_171_18 : COD 171 18 = some (.iconst 0, 1, 0, 0, 0, 0) := by decide +kernel
theorem k_171_19 : COD 171 19 = some (.aload_n 0, 1, 0, 0, 0, 0) := by decide +kernel
theorem k_171_20 : COD 171 20 = some (.arraylength, 1, 0, 0, 0, 0) := by decide +kernel
theorem k_171_21 : COD 171 21 = some (.iload_n 1, 1, 0, 0, 0, 0) := by decide +kernel
theorem k_171_22 : COD 171 22 = some (.isub, 1, 0, 0, 0, 0) := by decide +kernel
theorem k_171_23 : COD 171 23 = some (.iload_n 3, 1, 0, 0, 0, 0) := by decide +kernel
theorem k_171_24 : COD 171 24 = some (.invokestatic 304, 3, 226, 2, 1106, 0) := by decide +kernel
theorem k_171_27 : COD 171 27 = some (.invokestatic 150, 3, 1001, 5, 1107, 0) := by decide +kernel
theorem k_171_30 : COD 171 30 = some (.aload 4, 2, 0, 0, 0, 0) := by decide +kernel
theorem k_171_32 : COD 171 32 = some (.areturn, 1, 0, 0, 0, 0) := by decide +kernel
theorem k_172_0 : COD 172 0 = some (.iload_n 0, 1, 0, 0, 0, 0) := by decide +kernel
theorem k_172_1 : COD 172 1 = some (.iload_n 1, 1, 0, 0, 0, 0) := by decide +kernel
theorem k_172_2 : COD 172 2 = some (.iload_n 2, 1, 0, 0, 0, 0) := by decide +kernel
theorem k_172_3 : COD 172 3 = some (.invokestatic 194, 3, 225, 2, 1090, 0) := by decide +kernel
theorem k_172_6 : COD 172 6 = some (.iadd, 1, 0, 0, 0, 0) := by decide +kernel
theorem k_172_7 : COD 172 7 = some (.istore_n 3, 1, 0, 0, 0, 0) := by decide +kernel
theorem k_172_8 : COD 172 8 = some (.iconst 0, 1, 0, 0, 0, 0) := by decide +kernel
theorem k_172_9 : COD 172 9 = some (.iload_n 3, 1, 0, 0, 0, 0) := by decide +kernel
theorem k_172_10 : COD 172 10 = some (.if_icmp .ge 11, 3, 21, 0, 0, 0) := by decide +kernel
theorem k_172_13 : COD 172 13 = some (.iload_n 3, 1, 0, 0, 0, 0) := by decide +kernel
theorem k_172_14 : COD 172 14 = some (.ldc 200, 2, 2, 0, 1091, 0) := by decide +kernel
theorem k_172_16 : COD 172 16 = some (.if_icmp .gt 5, 3, 21, 0, 0, 0) := by decide +kernel
theorem k_172_19 : COD 172 19 = some (.iload_n 3, 1, 0, 0, 0, 0) := by decide +kernel
theorem k_172_20 : COD 172 20 = some (.ireturn, 1, 0, 0, 0, 0) := by decide +kernel
theorem k_172_21 : COD 172 21 = some (.iload_n 0, 1, 0, 0, 0, 0) := by decide +kernel
theorem k_172_22 : COD 172 22 = some (.iload_n 1, 1, 0, 0, 0, 0) := by decide +kernel
theorem k_172_23 : COD 172 23 = some (.invokestatic 201, 3, 173, 2, 1092, 0) := by decide +kernel
theorem k_172_26 : COD 172 26 = some (.ireturn, 1, 0, 0, 0, 0) := by decide +kernel
theorem k_173_0 : COD 173 0 = some (.iload_n 0, 1, 0, 0, 0, 0) := by decide +kernel
theorem k_173_1 : COD 173 1 = some (.iload_n 1, 1, 0, 0, 0, 0) := by decide +kernel
theorem k_173_2 : COD 173 2 = some (.iadd, 1, 0, 0, 0, 0) := by decide +kernel
theorem k_173_3 : COD 173 3 = some (.istore_n 2, 1, 0, 0, 0, 0) := by decide +kernel
theorem k_173_4 : COD 173 4 = some (.iload_n 2, 1, 0, 0, 0, 0) := by decide +kernel
theorem k_173_5 : COD 173 5 = some (.ifCond .ge 44, 3, 49, 0, 0, 0) := by decide +kernel
theorem k_173_8 : COD 173 8 = some (.new 204, 3, 99, 9, 0, 0) := by decide +kernel
theorem k_173_11 : COD 173 11 = some (.dup, 1, 0, 0, 0, 0) := by decide +kernel
theorem k_173_12 : COD 173 12 = some (.new 89, 3, 99, 9, 0, 0) := by decide +kernel
theorem k_173_15 : COD 173 15 = some (.dup, 1, 0, 0, 0, 0) := by decide +kernel
theorem k_173_16 : COD 173 16 = some (.invokespecial 91, 3, 999, 0, 0, 0) := by decide +kernel
theorem k_173_19 : COD 173 19 = some (.ldc 206, 2, 99, 0, 0, 0) := by decide +kernel
theorem k_173_21 : COD 173 21 = some (.invokevirtual 94, 3, 999, 0, 0, 0) := by decide +kernel
theorem k_173_24 : COD 173 24 = some (.iload_n 0, 1, 0, 0, 0, 0) := by decide +kernel
theorem k_173_25 : COD 173 25 = some (.invokevirtual 98, 3, 999, 0, 0, 0) := by decide +kernel
theorem k_173_28 : COD 173 28 = some (.ldc 208, 2, 99, 0, 0, 0) := by decide +kernel
theorem k_173_30 : COD 173 30 = some (.invokevirtual 94, 3, 999, 0, 0, 0) := by decide +kernel
theorem k_173_33 : COD 173 33 = some (.iload_n 1, 1, 0, 0, 0, 0) := by decide +kernel
theorem k_173_34 : COD 173 34 = some (.invokevirtual 98, 3, 999, 0, 0, 0) := by decide +kernel
theorem k_173_37 : COD 173 37 = some (.ldc 210, 2, 99, 0, 0, 0) := by decide +kernel
theorem k_173_39 : COD 173 39 = some (.invokevirtual 94, 3, 999, 0, 0, 0) := by decide +kernel
theorem k_173_42 : COD 173 42 = some (.invokevirtual 101, 3, 999, 0, 0, 0) := by decide +kernel
theorem k_173_45 : COD 173 45 = some (.invokespecial 212, 3, 999, 0, 0, 0) := by decide +kernel
theorem k_173_48 : COD 173 48 = some (.athrow, 1, 0, 0, 0, 0) := by decide +kernel
theorem k_173_49 : COD 173 49 = some (.iload_n 2, 1, 0, 0, 0, 0) := by decide +kernel
theorem k_173_50 : COD 173 50 = some (.ldc 200, 2, 2, 0, 1091, 0) := by decide +kernel
theorem k_173_52 : COD 173 52 = some (.if_icmp .gt 6, 3, 58, 0, 0, 0) := by decide +kernel
theorem k_173_55 : COD 173 55 = some (.ldc 200, 2, 2, 0, 1091, 0) := by decide +kernel
theorem k_173_57 : COD 173 57 = some (.ireturn, 1, 0, 0, 0, 0) := by decide +kernel
theorem k_173_58 : COD 173 58 = some (.iload_n 2, 1, 0, 0, 0, 0) := by decide +kernel
theorem k_173_59 : COD 173 59 = some (.ireturn, 1, 0, 0, 0, 0) := by decide +kernel
theorem k_174_0 : COD 174 0 = some (.iload_n 0, 1, 0, 0, 0, 0) := by decide +kernel
theorem k_174_1 : COD 174 1 = some (.ifCond .lt 13, 3, 14, 0, 0, 0) := by decide +kernel
theorem k_174_4 : COD 174 4 = some (.iload_n 0, 1, 0, 0, 0, 0) := by decide +kernel
theorem k_174_5 : COD 174 5 = some (.iload_n 1, 1, 0, 0, 0, 0) := by decide +kernel
theorem k_174_6 : COD 174 6 = some (.if_icmp .gt 8, 3, 14, 0, 0, 0) := by decide +kernel
theorem k_174_9 : COD 174 9 = some (.iload_n 1, 1, 0, 0, 0, 0) := by decide +kernel
theorem k_174_10 : COD 174 10 = some (.iload_n 2, 1, 0, 0, 0, 0) := by decide +kernel
theorem k_174_11 : COD 174 11 = some (.if_icmp .le 11, 3, 22, 0, 0, 0) := by decide +kernel
theorem k_174_14 : COD 174 14 = some (.aload_n 3, 1, 0, 0, 0, 0) := by decide +kernel
theorem k_174_15 : COD 174 15 = some (.iload_n 0, 1, 0, 0, 0, 0) := by decide +kernel
theorem k_174_16 : COD 174 16 = some (.iload_n 1, 1, 0, 0, 0, 0) := by decide +kernel
theorem k_174_17 : COD 174 17 = some (.iload_n 2, 1, 0, 0, 0, 0) := by decide +kernel
theorem k_174_18 : COD 174 18 = some (.invokestatic 99, 3, 999, 0, 0, 0) := by decide +kernel
theorem k_174_21 : COD 174 21 = some (.athrow, 1, 0, 0, 0, 0) := by decide +kernel
theorem k_174_22 : COD 174 22 = some (.iload_n 0, 1, 0, 0, 0, 0) := by decide +kernel
theorem k_174_23 : COD 174 23 = some (.ireturn, 1, 0, 0, 0, 0) := by decide +kernel
theorem k_175_0 : COD 175 0 = some (.iload_n 2, 1, 0, 0, 0, 0) := by decide +kernel
theorem k_175_1 : COD 175 1 = some (.iload_n 0, 1, 0, 0, 0, 0) := by decide +kernel
theorem k_175_2 : COD 175 2 = some (.ior, 1, 0, 0, 0, 0) := by decide +kernel
theorem k_175_3 : COD 175 3 = some (.iload_n 1, 1, 0, 0, 0, 0) := by decide +kernel
theorem k_175_4 : COD 175 4 = some (.ior, 1, 0, 0, 0, 0) := by decide +kernel
theorem k_175_5 : COD 175 5 = some (.ifCond .lt 10, 3, 15, 0, 0, 0) := by decide +kernel
theorem k_175_8 : COD 175 8 = some (.iload_n 1, 1, 0, 0, 0, 0) := by decide +kernel
theorem k_175_9 : COD 175 9 = some (.iload_n 2, 1, 0, 0, 0, 0) := by decide +kernel
theorem k_175_10 : COD 175 10 = some (.iload_n 0, 1, 0, 0, 0, 0) := by decide +kernel
theorem k_175_11 : COD 175 11 = some (.isub, 1, 0, 0, 0, 0) := by decide +kernel
theorem k_175_12 : COD 175 12 = some (.if_icmp .le 11, 3, 23, 0, 0, 0) := by decide +kernel
theorem k_175_15 : COD 175 15 = some (.aload_n 3, 1, 0, 0, 0, 0) := by decide +kernel
theorem k_175_16 : COD 175 16 = some (.iload_n 0, 1, 0, 0, 0, 0) := by decide +kernel
theorem k_175_17 : COD 175 17 = some (.iload_n 1, 1, 0, 0, 0, 0) := by decide +kernel
theorem k_175_18 : COD 175 18 = some (.iload_n 2, 1, 0, 0, 0, 0) := by decide +kernel
theorem k_175_19 : COD 175 19 = some (.invokestatic 103, 3, 999, 0, 0, 0) := by decide +kernel
theorem k_175_22 : COD 175 22 = some (.athrow, 1, 0, 0, 0, 0) := by decide +kernel
theorem k_175_23 : COD 175 23 = some (.iload_n 0, 1, 0, 0, 0, 0) := by decide +kernel
theorem k_175_24 : COD 175 24 = some (.ireturn, 1, 0, 0, 0, 0) := by decide +kernel
theorem k_176_0 : COD 176 0 = some (.iload_n 0, 1, 0, 0, 0, 0) := by decide +kernel
theorem k_176_1 : COD 176 1 = some (.ldc 7, 2, 1, 0, 802, 0) := by decide +kernel
theorem k_176_3 : COD 176 3 = some (.iand, 1, 0, 0, 0, 0) := by decide +kernel
theorem k_176_4 : COD 176 4 = some (.iload_n 1, 1, 0, 0, 0, 0) := by decide +kernel
theorem k_176_5 : COD 176 5 = some (.irem, 1, 0, 0, 0, 0) := by decide +kernel
theorem k_176_6 : COD 176 6 = some (.ireturn, 1, 0, 0, 0, 0) := by decide +kernel
theorem k_177_0 : COD 177 0 = some (.iload_n 1, 1, 0, 0, 0, 0) := by decide +kernel
theorem k_177_1 : COD 177 1 = some (.aload_n 0, 1, 0, 0, 0, 0) := by decide +kernel
theorem k_177_2 : COD 177 2 = some (.arraylength, 1, 0, 0, 0, 0) := by decide +kernel
theorem k_177_3 : COD 177 3 = some (.if_icmp .ge 9, 3, 12, 0, 0, 0) := by decide +kernel
theorem k_177_6 : COD 177 6 = some (.aload_n 0, 1, 0, 0, 0, 0) := by decide +kernel
theorem k_177_7 : COD 177 7 = some (.iload_n 1, 1, 0, 0, 0, 0) := by decide +kernel
theorem k_177_8 : COD 177 8 = some (.iaload, 1, 0, 0, 0, 0) := by decide +kernel
theorem k_177_9 : COD 177 9 = some (.goto 9, 3, 18, 0, 0, 0) := by decide +kernel
theorem k_177_12 : COD 177 12 = some (.ldc 8, 2, 3, 0, 806, 0) := by decide +kernel
theorem k_177_14 : COD 177 14 = some (.iload_n 1, 1, 0, 0, 0, 0) := by decide +kernel
theorem k_177_15 : COD 177 15 = some (.iconst 3, 1, 0, 0, 0, 0) := by decide +kernel
theorem k_177_16 : COD 177 16 = some (.iadd, 1, 0, 0, 0, 0) := by decide +kernel
theorem k_177_17 : COD 177 17 = some (.imul, 1, 0, 0, 0, 0) := by decide +kernel
theorem k_177_18 : COD 177 18 = some (.ireturn, 1, 0, 0, 0, 0) := by decide +kernel
theorem k_178_0 : COD 178 0 = some (.iconst 5, 1, 0, 0, 0, 0) := by decide +kernel
theorem k_178_1 : COD 178 1 = some (.newarray .int, 2, 0, 0, 0, 0) := by decide +kernel
theorem k_178_3 : COD 178 3 = some (.astore_n 2, 1, 0, 0, 0, 0) := by decide +kernel
theorem k_178_4 : COD 178 4 = some (.iconst 0, 1, 0, 0, 0, 0) := by decide +kernel
theorem k_178_5 : COD 178 5 = some (.istore_n 3, 1, 0, 0, 0, 0) := by decide +kernel
theorem k_178_6 : COD 178 6 = some (.iload_n 3, 1, 0, 0, 0, 0) := by decide +kernel
theorem k_178_7 : COD 178 7 = some (.aload_n 1, 1, 0, 0, 0, 0) := by decide +kernel
theorem k_178_8 : COD 178 8 = some (.invokevirtual 9, 3, 227, 0, 810, 12) := by decide +kernel
theorem k_178_11 : COD 178 11 = some (.if_icmp .ge 108, 3, 119, 0, 0, 0) := by decide +kernel
theorem k_178_14 : COD 178 14 = some (.iconst 0, 1, 0, 0, 0, 0) := by decide +kernel
theorem k_178_15 : COD 178 15 = some (.istore 4, 2, 0, 0, 0, 0) := by decide +kernel
theorem k_178_17 : COD 178 17 = some (.iload 4, 2, 0, 0, 0, 0) := by decide +kernel
theorem k_178_19 : COD 178 19 = some (.iconst 5, 1, 0, 0, 0, 0) := by decide +kernel
theorem k_178_20 : COD 178 20 = some (.if_icmp .ge 73, 3, 93, 0, 0, 0) := by decide +kernel
theorem k_178_23 : COD 178 23 = some (.aload_n 2, 1, 0, 0, 0, 0) := by decide +kernel
theorem k_178_24 : COD 178 24 = some (.iload 4, 2, 0, 0, 0, 0) := by decide +kernel
theorem k_178_26 : COD 178 26 = some (.iconst 0, 1, 0, 0, 0, 0) := by decide +kernel
theorem k_178_27 : COD 178 27 = some (.iastore, 1, 0, 0, 0, 0) := by decide +kernel
theorem k_178_28 : COD 178 28 = some (.iload_n 3, 1, 0, 0, 0, 0) := by decide +kernel
theorem k_178_29 : COD 178 29 = some (.iconst 4, 1, 0, 0, 0, 0) := by decide +kernel
theorem k_178_30 : COD 178 30 = some (.iload 4, 2, 0, 0, 0, 0) := by decide +kernel
theorem k_178_32 : COD 178 32 = some (.imul, 1, 0, 0, 0, 0) := by decide +kernel
theorem k_178_33 : COD 178 33 = some (.iadd, 1, 0, 0, 0, 0) := by decide +kernel
theorem k_178_34 : COD 178 34 = some (.istore 5, 2, 0, 0, 0, 0) := by decide +kernel
theorem k_178_36 : COD 178 36 = some (.iload 5, 2, 0, 0, 0, 0) := by decide +kernel
theorem k_178_38 : COD 178 38 = some (.iload_n 3, 1, 0, 0, 0, 0) := by decide +kernel
theorem k_178_39 : COD 178 39 = some (.iconst 4, 1, 0, 0, 0, 0) := by decide +kernel
theorem k_178_40 : COD 178 40 = some (.iload 4, 2, 0, 0, 0, 0) := by decide +kernel
theorem k_178_42 : COD 178 42 = some (.imul, 1, 0, 0, 0, 0) := by decide +kernel
theorem k_178_43 : COD 178 43 = some (.iadd, 1, 0, 0, 0, 0) := by decide +kernel
theorem k_178_44 : COD 178 44 = some (.iconst 4, 1, 0, 0, 0, 0) := by decide +kernel
theorem k_178_45 : COD 178 45 = some (.iadd, 1, 0, 0, 0, 0) := by decide +kernel
theorem k_178_46 : COD 178 46 = some (.if_icmp .ge 41, 3, 87, 0, 0, 0) := by decide +kernel
theorem k_178_49 : COD 178 49 = some (.aload_n 2, 1, 0, 0, 0, 0) := by decide +kernel
theorem k_178_50 : COD 178 50 = some (.iload 4, 2, 0, 0, 0, 0) := by decide +kernel
theorem k_178_52 : COD 178 52 = some (.aload_n 2, 1, 0, 0, 0, 0) := by decide +kernel
theorem k_178_53 : COD 178 53 = some (.iload 4, 2, 0, 0, 0, 0) := by decide +kernel
theorem k_178_55 : COD 178 55 = some (.iaload, 1, 0, 0, 0, 0) := by decide +kernel
theorem k_178_56 : COD 178 56 = some (.bipush 8, 2, 0, 0, 0, 0) := by decide +kernel
theorem k_178_58 : COD 178 58 = some (.ishl, 1, 0, 0, 0, 0) := by decide +kernel
theorem k_178_59 : COD 178 59 = some (.iload 5, 2, 0, 0, 0, 0) := by decide +kernel
theorem k_178_61 : COD 178 61 = some (.aload_n 1, 1, 0, 0, 0, 0) := by decide +kernel
theorem k_178_62 : COD 178 62 = some (.invokevirtual 9, 3, 227, 0, 810, 12) := by decide +kernel
theorem k_178_65 : COD 178 65 = some (.if_icmp .ge 12, 3, 77, 0, 0, 0) := by decide +kernel
theorem k_178_68 : COD 178 68 = some (.aload_n 1, 1, 0, 0, 0, 0) := by decide +kernel
theorem k_178_69 : COD 178 69 = some (.iload 5, 2, 0, 0, 0, 0) := by decide +kernel
theorem k_178_71 : COD 178 71 = some (.invokevirtual 15, 3, 228, 1, 820, 12) := by decide +kernel
theorem k_178_74 : COD 178 74 = some (.goto 5, 3, 79, 0, 0, 0) := by decide +kernel
theorem k_178_77 : COD 178 77 = some (.bipush 32, 2, 0, 0, 0, 0) := by decide +kernel
theorem k_178_79 : COD 178 79 = some (.ior, 1, 0, 0, 0, 0) := by decide +kernel
theorem k_178_80 : COD 178 80 = some (.iastore, 1, 0, 0, 0, 0) := by decide +kernel
theorem k_178_81 : COD 178 81 = some (.iinc 5 1, 3, 0, 0, 0, 0) := by decide +kernel
theorem k_178_84 : COD 178 84 = some (.goto (-48), 3, 36, 0, 0, 0) := by decide +kernel
theorem k_178_87 : COD 178 87 = some (.iinc 4 1, 3, 0, 0, 0, 0) := by decide +kernel
theorem k_178_90 : COD 178 90 = some (.goto (-73), 3, 17, 0, 0, 0) := by decide +kernel
theorem k_178_93 : COD 178 93 = some (.aload_n 0, 1, 0, 0, 0, 0) := by decide +kernel
theorem k_178_94 : COD 178 94 = some (.aload_n 2, 1, 0, 0, 0, 0) := by decide +kernel
theorem k_178_95 : COD 178 95 = some (.iconst 0, 1, 0, 0, 0, 0) := by decide +kernel
theorem k_178_96 : COD 178 96 = some (.iaload, 1, 0, 0, 0, 0) := by decide +kernel
theorem k_178_97 : COD 178 97 = some (.aload_n 2, 1, 0, 0, 0, 0) := by decide +kernel
theorem k_178_98 : COD 178 98 = some (.iconst 1, 1, 0, 0, 0, 0) := by decide +kernel
theorem k_178_99 : COD 178 99 = some (.iaload, 1, 0, 0, 0, 0) := by decide +kernel
theorem k_178_100 : COD 178 100 = some (.aload_n 2, 1, 0, 0, 0, 0) := by decide +kernel
theorem k_178_101 : COD 178 101 = some (.iconst 2, 1, 0, 0, 0, 0) := by decide +kernel
theorem k_178_102 : COD 178 102 = some (.iaload, 1, 0, 0, 0, 0) := by decide +kernel
theorem k_178_103 : COD 178 103 = some (.aload_n 2, 1, 0, 0, 0, 0) := by decide +kernel
theorem k_178_104 : COD 178 104 = some (.iconst 3, 1, 0, 0, 0, 0) := by decide +kernel
theorem k_178_105 : COD 178 105 = some (.iaload, 1, 0, 0, 0, 0) := by decide +kernel
theorem k_178_106 : COD 178 106 = some (.aload_n 2, 1, 0, 0, 0, 0) := by decide +kernel
theorem k_178_107 : COD 178 107 = some (.iconst 4, 1, 0, 0, 0, 0) := by decide +kernel
theorem k_178_108 : COD 178 108 = some (.iaload, 1, 0, 0, 0, 0) := by decide +kernel
theorem k_178_109 : COD 178 109 = some (.invokevirtual 19, 3, 84, 5, 858, 7) := by decide +kernel
theorem k_178_112 : COD 178 112 = some (.pop, 1, 0, 0, 0, 0) := by decide +kernel
theorem k_178_113 : COD 178 113 = some (.iinc 3 20, 3, 0, 0, 0, 0) := by decide +kernel
theorem k_178_116 : COD 178 116 = some (.goto (-110), 3, 6, 0, 0, 0) := by decide +kernel
theorem k_178_119 : COD 178 119 = some (.aload_n 0, 1, 0, 0, 0, 0) := by decide +kernel
theorem k_178_120 : COD 178 120 = some (.aload_n 1, 1, 0, 0, 0, 0) := by decide +kernel
theorem k_178_121 : COD 178 121 = some (.invokevirtual 9, 3, 227, 0, 810, 12) := by decide +kernel
theorem k_178_124 : COD 178 124 = some (.invokevirtual 25, 3, 85, 1, 871, 7) := by decide +kernel
theorem k_178_127 : COD 178 127 = some (.pop, 1, 0, 0, 0, 0) := by decide +kernel
theorem k_178_128 : COD 178 128 = some (.aload_n 0, 1, 0, 0, 0, 0) := by decide +kernel
theorem k_178_129 : COD 178 129 = some (.invokevirtual 29, 3, 86, 0, 880, 7) := by decide +kernel
theorem k_178_132 : COD 178 132 = some (.ireturn, 1, 0, 0, 0, 0) := by decide +kernel
theorem k_179_0 : COD 179 0 = some (.new 32, 3, 10, 0, 1239, 0) := by decide +kernel
theorem k_179_3 : COD 179 3 = some (.dup, 1, 0, 0, 0, 0) := by decide +kernel
theorem k_179_4 : COD 179 4 = some (.invokespecial 34, 3, 139, 0, 1240, 10) := by decide +kernel
theorem k_179_7 : COD 179 7 = some (.astore_n 2, 1, 0, 0, 0, 0) := by decide +kernel
theorem k_179_8 : COD 179 8 = some (.iload_n 0, 1, 0, 0, 0, 0) := by decide +kernel
theorem k_179_9 : COD 179 9 = some (.bipush 20, 2, 0, 0, 0, 0) := by decide +kernel
theorem k_179_11 : COD 179 11 = some (.invokestatic 35, 3, 176, 2, 799, 0) := by decide +kernel
theorem k_179_14 : COD 179 14 = some (.istore_n 3, 1, 0, 0, 0, 0) := by decide +kernel
theorem k_179_15 : COD 179 15 = some (.aload_n 2, 1, 0, 0, 0, 0) := by decide +kernel
theorem k_179_16 : COD 179 16 = some (.iload_n 3, 1, 0, 0, 0, 0) := by decide +kernel
theorem k_179_17 : COD 179 17 = some (.bipush 6, 2, 0, 0, 0, 0) := by decide +kernel
theorem k_179_19 : COD 179 19 = some (.if_icmp .lt 14, 3, 33, 0, 0, 0) := by decide +kernel
theorem k_179_22 : COD 179 22 = some (.iload_n 1, 1, 0, 0, 0, 0) := by decide +kernel
theorem k_179_23 : COD 179 23 = some (.iconst 1, 1, 0, 0, 0, 0) := by decide +kernel
theorem k_179_24 : COD 179 24 = some (.if_icmp .le 13, 3, 37, 0, 0, 0) := by decide +kernel
theorem k_179_27 : COD 179 27 = some (.iload_n 3, 1, 0, 0, 0, 0) := by decide +kernel
theorem k_179_28 : COD 179 28 = some (.bipush 11, 2, 0, 0, 0, 0) := by decide +kernel
theorem k_179_30 : COD 179 30 = some (.if_icmp .le 7, 3, 37, 0, 0, 0) := by decide +kernel
theorem k_179_33 : COD 179 33 = some (.iconst 0, 1, 0, 0, 0, 0) := by decide +kernel
theorem k_179_34 : COD 179 34 = some (.goto 25, 3, 59, 0, 0, 0) := by decide +kernel
theorem k_179_37 : COD 179 37 = some (.iload_n 3, 1, 0, 0, 0, 0) := by decide +kernel
theorem k_179_38 : COD 179 38 = some (.bipush 12, 2, 0, 0, 0, 0) := by decide +kernel
theorem k_179_40 : COD 179 40 = some (.if_icmp .ge 12, 3, 52, 0, 0, 0) := by decide +kernel
theorem k_179_43 : COD 179 43 = some (.iconst 1, 1, 0, 0, 0, 0) := by decide +kernel
theorem k_179_44 : COD 179 44 = some (.iload_n 3, 1, 0, 0, 0, 0) := by decide +kernel
theorem k_179_45 : COD 179 45 = some (.bipush 6, 2, 0, 0, 0, 0) := by decide +kernel
theorem k_179_47 : COD 179 47 = some (.irem, 1, 0, 0, 0, 0) := by decide +kernel
theorem k_179_48 : COD 179 48 = some (.iadd, 1, 0, 0, 0, 0) := by decide +kernel
theorem k_179_49 : COD 179 49 = some (.goto 10, 3, 59, 0, 0, 0) := by decide +kernel
theorem k_179_52 : COD 179 52 = some (.bipush 7, 2, 0, 0, 0, 0) := by decide +kernel
theorem k_179_54 : COD 179 54 = some (.iload_n 3, 1, 0, 0, 0, 0) := by decide +kernel
theorem k_179_55 : COD 179 55 = some (.bipush 8, 2, 0, 0, 0, 0) := by decide +kernel
theorem k_179_57 : COD 179 57 = some (.irem, 1, 0, 0, 0, 0) := by decide +kernel
theorem k_179_58 : COD 179 58 = some (.iadd, 1, 0, 0, 0, 0) := by decide +kernel
theorem k_179_59 : COD 179 59 = some (.putfield 41, 3, 10, 0, 1245, 0) := by decide +kernel
theorem k_179_62 : COD 179 62 = some (.aload_n 2, 1, 0, 0, 0, 0) := by decide +kernel
theorem k_179_63 : COD 179 63 = some (.iload_n 0, 1, 0, 0, 0, 0) := by decide +kernel
theorem k_179_64 : COD 179 64 = some (.iconst 3, 1, 0, 0, 0, 0) := by decide +kernel
theorem k_179_65 : COD 179 65 = some (.ishr, 1, 0, 0, 0, 0) := by decide +kernel
theorem k_179_66 : COD 179 66 = some (.iload_n 0, 1, 0, 0, 0, 0) := by decide +kernel
theorem k_179_67 : COD 179 67 = some (.bipush 7, 2, 0, 0, 0, 0) := by decide +kernel
theorem k_179_69 : COD 179 69 = some (.ishr, 1, 0, 0, 0, 0) := by decide +kernel
theorem k_179_70 : COD 179 70 = some (.iconst 5, 1, 0, 0, 0, 0) := by decide +kernel
theorem k_179_71 : COD 179 71 = some (.invokestatic 35, 3, 176, 2, 799, 0) := by decide +kernel
theorem k_179_74 : COD 179 74 = some (.ifCond .ne 8, 3, 82, 0, 0, 0) := by decide +kernel
theorem k_179_77 : COD 179 77 = some (.ldc 45, 2, 4, 0, 1261, 0) := by decide +kernel
theorem k_179_79 : COD 179 79 = some (.goto 5, 3, 84, 0, 0, 0) := by decide +kernel
theorem k_179_82 : COD 179 82 = some (.bipush 40, 2, 0, 0, 0, 0) := by decide +kernel
theorem k_179_84 : COD 179 84 = some (.invokestatic 35, 3, 176, 2, 799, 0) := by decide +kernel
theorem k_179_87 : COD 179 87 = some (.putfield 46, 3, 10, 1, 1247, 0) := by decide +kernel
theorem k_179_90 : COD 179 90 = some (.aload_n 2, 1, 0, 0, 0, 0) := by decide +kernel
theorem k_179_91 : COD 179 91 = some (.getfield 41, 3, 10, 0, 1245, 0) := by decide +kernel
theorem k_179_94 : COD 179 94 = some (.bipush 7, 2, 0, 0, 0, 0) := by decide +kernel
theorem k_179_96 : COD 179 96 = some (.if_icmp .lt 18, 3, 114, 0, 0, 0) := by decide +kernel
theorem k_179_99 : COD 179 99 = some (.aload_n 2, 1, 0, 0, 0, 0) := by decide +kernel
theorem k_179_100 : COD 179 100 = some (.iload_n 0, 1, 0, 0, 0, 0) := by decide +kernel
theorem k_179_101 : COD 179 101 = some (.iconst 3, 1, 0, 0, 0, 0) := by decide +kernel
theorem k_179_102 : COD 179 102 = some (.imul, 1, 0, 0, 0, 0) := by decide +kernel
theorem k_179_103 : COD 179 103 = some (.iconst 1, 1, 0, 0, 0, 0) := by decide +kernel
theorem k_179_104 : COD 179 104 = some (.iadd, 1, 0, 0, 0, 0) := by decide +kernel
theorem k_179_105 : COD 179 105 = some (.iload_n 1, 1, 0, 0, 0, 0) := by decide +kernel
theorem k_179_106 : COD 179 106 = some (.iconst 1, 1, 0, 0, 0, 0) := by decide +kernel
theorem k_179_107 : COD 179 107 = some (.iadd, 1, 0, 0, 0, 0) := by decide +kernel
theorem k_179_108 : COD 179 108 = some (.invokestatic 49, 3, 179, 2, 1236, 0) := by decide +kernel
theorem k_179_111 : COD 179 111 = some (.putfield 53, 3, 10, 2, 1249, 0) := by decide +kernel
theorem k_179_114 : COD 179 114 = some (.aload_n 2, 1, 0, 0, 0, 0) := by decide +kernel
theorem k_179_115 : COD 179 115 = some (.getfield 41, 3, 10, 0, 1245, 0) := by decide +kernel
theorem k_179_118 : COD 179 118 = some (.bipush 9, 2, 0, 0, 0, 0) := by decide +kernel
theorem k_179_120 : COD 179 120 = some (.if_icmp .lt 18, 3, 138, 0, 0, 0) := by decide +kernel
theorem k_179_123 : COD 179 123 = some (.aload_n 2, 1, 0, 0, 0, 0) := by decide +kernel
theorem k_179_124 : COD 179 124 = some (.iload_n 0, 1, 0, 0, 0, 0) := by decide +kernel
theorem k_179_125 : COD 179 125 = some (.iconst 5, 1, 0, 0, 0, 0) := by decide +kernel
theorem k_179_126 : COD 179 126 = some (.imul, 1, 0, 0, 0, 0) := by decide +kernel
theorem k_179_127 : COD 179 127 = some (.iconst 2, 1, 0, 0, 0, 0) := by decide +kernel
theorem k_179_128 : COD 179 128 = some (.iadd, 1, 0, 0, 0, 0) := by decide +kernel
theorem k_179_129 : COD 179 129 = some (.iload_n 1, 1, 0, 0, 0, 0) := by decide +kernel
theorem k_179_130 : COD 179 130 = some (.iconst 1, 1, 0, 0, 0, 0) := by decide +kernel
theorem k_179_131 : COD 179 131 = some (.iadd, 1, 0, 0, 0, 0) := by decide +kernel
theorem k_179_132 : COD 179 132 = some (.invokestatic 49, 3, 179, 2, 1236, 0) := by decide +kernel
theorem k_179_135 : COD 179 135 = some (.putfield 57, 3, 10, 3, 1251, 0) := by decide +kernel
theorem k_179_138 : COD 179 138 = some (.aload_n 2, 1, 0, 0, 0, 0) := by decide +kernel
theorem k_179_139 : COD 179 139 = some (.areturn, 1, 0, 0, 0, 0) := by decide +kernel
theorem k_180_0 : COD 180 0 = some (.new 32, 3, 10, 0, 1239, 0) := by decide +kernel
theorem k_180_3 : COD 180 3 = some (.dup, 1, 0, 0, 0, 0) := by decide +kernel
theorem k_180_4 : COD 180 4 = some (.invokespecial 34, 3, 139, 0, 1240, 10) := by decide +kernel
theorem k_180_7 : COD 180 7 = some (.astore_n 2, 1, 0, 0, 0, 0) := by decide +kernel
theorem k_180_8 : COD 180 8 = some (.iload_n 0, 1, 0, 0, 0, 0) := by decide +kernel
theorem k_180_9 : COD 180 9 = some (.iconst 1, 1, 0, 0, 0, 0) := by decide +kernel
theorem k_180_10 : COD 180 10 = some (.ishr, 1, 0, 0, 0, 0) := by decide +kernel
theorem k_180_11 : COD 180 11 = some (.bipush 11, 2, 0, 0, 0, 0) := by decide +kernel
theorem k_180_13 : COD 180 13 = some (.invokestatic 35, 3, 176, 2, 799, 0) := by decide +kernel
theorem k_180_16 : COD 180 16 = some (.istore_n 3, 1, 0, 0, 0, 0) := by decide +kernel
theorem k_180_17 : COD 180 17 = some (.aload_n 2, 1, 0, 0, 0, 0) := by decide +kernel
theorem k_180_18 : COD 180 18 = some (.iload_n 3, 1, 0, 0, 0, 0) := by decide +kernel
theorem k_180_19 : COD 180 19 = some (.bipush 7, 2, 0, 0, 0, 0) := by decide +kernel
theorem k_180_21 : COD 180 21 = some (.if_icmp .lt 8, 3, 29, 0, 0, 0) := by decide +kernel
theorem k_180_24 : COD 180 24 = some (.iload_n 1, 1, 0, 0, 0, 0) := by decide +kernel
theorem k_180_25 : COD 180 25 = some (.iconst 1, 1, 0, 0, 0, 0) := by decide +kernel
theorem k_180_26 : COD 180 26 = some (.if_icmp .le 12, 3, 38, 0, 0, 0) := by decide +kernel
theorem k_180_29 : COD 180 29 = some (.bipush 20, 2, 0, 0, 0, 0) := by decide +kernel
theorem k_180_31 : COD 180 31 = some (.iload_n 3, 1, 0, 0, 0, 0) := by decide +kernel
theorem k_180_32 : COD 180 32 = some (.iconst 5, 1, 0, 0, 0, 0) := by decide +kernel
theorem k_180_33 : COD 180 33 = some (.irem, 1, 0, 0, 0, 0) := by decide +kernel
theorem k_180_34 : COD 180 34 = some (.iadd, 1, 0, 0, 0, 0) := by decide +kernel
theorem k_180_35 : COD 180 35 = some (.goto 9, 3, 44, 0, 0, 0) := by decide +kernel
theorem k_180_38 : COD 180 38 = some (.bipush 26, 2, 0, 0, 0, 0) := by decide +kernel
theorem k_180_40 : COD 180 40 = some (.iload_n 3, 1, 0, 0, 0, 0) := by decide +kernel
theorem k_180_41 : COD 180 41 = some (.iconst 3, 1, 0, 0, 0, 0) := by decide +kernel
theorem k_180_42 : COD 180 42 = some (.irem, 1, 0, 0, 0, 0) := by decide +kernel
theorem k_180_43 : COD 180 43 = some (.iadd, 1, 0, 0, 0, 0) := by decide +kernel
theorem k_180_44 : COD 180 44 = some (.putfield 41, 3, 10, 0, 1245, 0) := by decide +kernel
theorem k_180_47 : COD 180 47 = some (.aload_n 2, 1, 0, 0, 0, 0) := by decide +kernel
theorem k_180_48 : COD 180 48 = some (.getfield 41, 3, 10, 0, 1245, 0) := by decide +kernel
theorem k_180_51 : COD 180 51 = some (.bipush 25, 2, 0, 0, 0, 0) := by decide +kernel
theorem k_180_53 : COD 180 53 = some (.if_icmp .ge 37, 3, 90, 0, 0, 0) := by decide +kernel
theorem k_180_56 : COD 180 56 = some (.aload_n 2, 1, 0, 0, 0, 0) := by decide +kernel
theorem k_180_57 : COD 180 57 = some (.iload_n 0, 1, 0, 0, 0, 0) := by decide +kernel
theorem k_180_58 : COD 180 58 = some (.iconst 3, 1, 0, 0, 0, 0) := by decide +kernel
theorem k_180_59 : COD 180 59 = some (.imul, 1, 0, 0, 0, 0) := by decide +kernel
theorem k_180_60 : COD 180 60 = some (.bipush 7, 2, 0, 0, 0, 0) := by decide +kernel
theorem k_180_62 : COD 180 62 = some (.iadd, 1, 0, 0, 0, 0) := by decide +kernel
theorem k_180_63 : COD 180 63 = some (.iload_n 1, 1, 0, 0, 0, 0) := by decide +kernel
theorem k_180_64 : COD 180 64 = some (.iconst 1, 1, 0, 0, 0, 0) := by decide +kernel
theorem k_180_65 : COD 180 65 = some (.iadd, 1, 0, 0, 0, 0) := by decide +kernel
theorem k_180_66 : COD 180 66 = some (.invokestatic 49, 3, 179, 2, 1236, 0) := by decide +kernel
theorem k_180_69 : COD 180 69 = some (.putfield 53, 3, 10, 2, 1249, 0) := by decide +kernel
theorem k_180_72 : COD 180 72 = some (.aload_n 2, 1, 0, 0, 0, 0) := by decide +kernel
theorem k_180_73 : COD 180 73 = some (.iload_n 0, 1, 0, 0, 0, 0) := by decide +kernel
theorem k_180_74 : COD 180 74 = some (.iconst 5, 1, 0, 0, 0, 0) := by decide +kernel
theorem k_180_75 : COD 180 75 = some (.imul, 1, 0, 0, 0, 0) := by decide +kernel
theorem k_180_76 : COD 180 76 = some (.iconst 1, 1, 0, 0, 0, 0) := by decide +kernel
theorem k_180_77 : COD 180 77 = some (.iadd, 1, 0, 0, 0, 0) := by decide +kernel
theorem k_180_78 : COD 180 78 = some (.iload_n 1, 1, 0, 0, 0, 0) := by decide +kernel
theorem k_180_79 : COD 180 79 = some (.iconst 1, 1, 0, 0, 0, 0) := by decide +kernel
theorem k_180_80 : COD 180 80 = some (.iadd, 1, 0, 0, 0, 0) := by decide +kernel
theorem k_180_81 : COD 180 81 = some (.invokestatic 49, 3, 179, 2, 1236, 0) := by decide +kernel
theorem k_180_84 : COD 180 84 = some (.putfield 57, 3, 10, 3, 1251, 0) := by decide +kernel
theorem k_180_87 : COD 180 87 = some (.goto 43, 3, 130, 0, 0, 0) := by decide +kernel
theorem k_180_90 : COD 180 90 = some (.aload_n 2, 1, 0, 0, 0, 0) := by decide +kernel
theorem k_180_91 : COD 180 91 = some (.iload_n 0, 1, 0, 0, 0, 0) := by decide +kernel
theorem k_180_92 : COD 180 92 = some (.iconst 3, 1, 0, 0, 0, 0) := by decide +kernel
theorem k_180_93 : COD 180 93 = some (.imul, 1, 0, 0, 0, 0) := by decide +kernel
theorem k_180_94 : COD 180 94 = some (.iconst 5, 1, 0, 0, 0, 0) := by decide +kernel
theorem k_180_95 : COD 180 95 = some (.iadd, 1, 0, 0, 0, 0) := by decide +kernel
theorem k_180_96 : COD 180 96 = some (.iload_n 1, 1, 0, 0, 0, 0) := by decide +kernel
theorem k_180_97 : COD 180 97 = some (.iconst 1, 1, 0, 0, 0, 0) := by decide +kernel
theorem k_180_98 : COD 180 98 = some (.iadd, 1, 0, 0, 0, 0) := by decide +kernel
theorem k_180_99 : COD 180 99 = some (.invokestatic 60, 3, 180, 2, 1262, 0) := by decide +kernel
theorem k_180_102 : COD 180 102 = some (.putfield 53, 3, 10, 2, 1249, 0) := by decide +kernel
theorem k_180_105 : COD 180 105 = some (.aload_n 2, 1, 0, 0, 0, 0) := by decide +kernel
theorem k_180_106 : COD 180 106 = some (.getfield 41, 3, 10, 0, 1245, 0) := by decide +kernel
theorem k_180_109 : COD 180 109 = some (.bipush 26, 2, 0, 0, 0, 0) := by decide +kernel
theorem k_180_111 : COD 180 111 = some (.if_icmp .le 19, 3, 130, 0, 0, 0) := by decide +kernel
theorem k_180_114 : COD 180 114 = some (.aload_n 2, 1, 0, 0, 0, 0) := by decide +kernel
theorem k_180_115 : COD 180 115 = some (.iload_n 0, 1, 0, 0, 0, 0) := by decide +kernel
theorem k_180_116 : COD 180 116 = some (.bipush 7, 2, 0, 0, 0, 0) := by decide +kernel
theorem k_180_118 : COD 180 118 = some (.imul, 1, 0, 0, 0, 0) := by decide +kernel
theorem k_180_119 : COD 180 119 = some (.iconst 3, 1, 0, 0, 0, 0) := by decide +kernel
theorem k_180_120 : COD 180 120 = some (.iadd, 1, 0, 0, 0, 0) := by decide +kernel
theorem k_180_121 : COD 180 121 = some (.iload_n 1, 1, 0, 0, 0, 0) := by decide +kernel
theorem k_180_122 : COD 180 122 = some (.iconst 1, 1, 0, 0, 0, 0) := by decide +kernel
theorem k_180_123 : COD 180 123 = some (.iadd, 1, 0, 0, 0, 0) := by decide +kernel
theorem k_180_124 : COD 180 124 = some (.invokestatic 60, 3, 180, 2, 1262, 0) := by decide +kernel
theorem k_180_127 : COD 180 127 = some (.putfield 57, 3, 10, 3, 1251, 0) := by decide +kernel
theorem k_180_130 : COD 180 130 = some (.aload_n 2, 1, 0, 0, 0, 0) := by decide +kernel
theorem k_180_131 : COD 180 131 = some (.areturn, 1, 0, 0, 0, 0) := by decide +kernel
theorem k_181_0 : COD 181 0 = some (.new 63, 3, 9, 0, 1032, 0) := by decide +kernel
theorem k_181_3 : COD 181 3 = some (.dup, 1, 0, 0, 0, 0) := by decide +kernel
theorem k_181_4 : COD 181 4 = some (.invokespecial 65, 3, 122, 0, 1033, 9) := by decide +kernel
theorem k_181_7 : COD 181 7 = some (.astore_n 2, 1, 0, 0, 0, 0) := by decide +kernel
theorem k_181_8 : COD 181 8 = some (.aload_n 0, 1, 0, 0, 0, 0) := by decide +kernel
theorem k_181_9 : COD 181 9 = some (.iconst 0, 1, 0, 0, 0, 0) := by decide +kernel
theorem k_181_10 : COD 181 10 = some (.invokestatic 66, 3, 177, 2, 803, 0) := by decide +kernel
theorem k_181_13 : COD 181 13 = some (.iconst 5, 1, 0, 0, 0, 0) := by decide +kernel
theorem k_181_14 : COD 181 14 = some (.invokestatic 35, 3, 176, 2, 799, 0) := by decide +kernel
theorem k_181_17 : COD 181 17 = some (.ifCond .le 40, 3, 57, 0, 0, 0) := by decide +kernel
theorem k_181_20 : COD 181 20 = some (.aload_n 2, 1, 0, 0, 0, 0) := by decide +kernel
theorem k_181_21 : COD 181 21 = some (.iconst 2, 1, 0, 0, 0, 0) := by decide +kernel
theorem k_181_22 : COD 181 22 = some (.aload_n 0, 1, 0, 0, 0, 0) := by decide +kernel
theorem k_181_23 : COD 181 23 = some (.iconst 0, 1, 0, 0, 0, 0) := by decide +kernel
theorem k_181_24 : COD 181 24 = some (.invokestatic 66, 3, 177, 2, 803, 0) := by decide +kernel
theorem k_181_27 : COD 181 27 = some (.iconst 3, 1, 0, 0, 0, 0) := by decide +kernel
theorem k_181_28 : COD 181 28 = some (.ishr, 1, 0, 0, 0, 0) := by decide +kernel
theorem k_181_29 : COD 181 29 = some (.bipush 31, 2, 0, 0, 0, 0) := by decide +kernel
theorem k_181_31 : COD 181 31 = some (.invokestatic 35, 3, 176, 2, 799, 0) := by decide +kernel
theorem k_181_34 : COD 181 34 = some (.iadd, 1, 0, 0, 0, 0) := by decide +kernel
theorem k_181_35 : COD 181 35 = some (.putfield 70, 3, 9, 0, 1042, 0) := by decide +kernel
theorem k_181_38 : COD 181 38 = some (.aload_n 1, 1, 0, 0, 0, 0) := by decide +kernel
theorem k_181_39 : COD 181 39 = some (.ldc 73, 2, 100, 0, 1066, 0) := by decide +kernel
theorem k_181_41 : COD 181 41 = some (.invokevirtual 75, 3, 163, 1, 1067, 11) := by decide +kernel
theorem k_181_44 : COD 181 44 = some (.aload_n 2, 1, 0, 0, 0, 0) := by decide +kernel
theorem k_181_45 : COD 181 45 = some (.getfield 70, 3, 9, 0, 1042, 0) := by decide +kernel
theorem k_181_48 : COD 181 48 = some (.invokevirtual 81, 3, 164, 1, 1173, 11) := by decide +kernel
theorem k_181_51 : COD 181 51 = some (.ldc 84, 2, 101, 0, 1198, 0) := by decide +kernel
theorem k_181_53 : COD 181 53 = some (.invokevirtual 75, 3, 163, 1, 1067, 11) := by decide +kernel
theorem k_181_56 : COD 181 56 = some (.pop, 1, 0, 0, 0, 0) := by decide +kernel
theorem k_181_57 : COD 181 57 = some (.aload_n 2, 1, 0, 0, 0, 0) := by decide +kernel
theorem k_181_58 : COD 181 58 = some (.iconst 1, 1, 0, 0, 0, 0) := by decide +kernel
theorem k_181_59 : COD 181 59 = some (.iconst 0, 1, 0, 0, 0, 0) := by decide +kernel
theorem k_181_60 : COD 181 60 = some (.aload_n 2, 1, 0, 0, 0, 0) := by decide +kernel
theorem k_181_61 : COD 181 61 = some (.getfield 70, 3, 9, 0, 1042, 0) := by decide +kernel
theorem k_181_64 : COD 181 64 = some (.iconst 1, 1, 0, 0, 0, 0) := by decide +kernel
theorem k_181_65 : COD 181 65 = some (.isub, 1, 0, 0, 0, 0) := by decide +kernel
theorem k_181_66 : COD 181 66 = some (.invokevirtual 86, 3, 123, 3, 1199, 9) := by decide +kernel
theorem k_181_69 : COD 181 69 = some (.aload_n 2, 1, 0, 0, 0, 0) := by decide +kernel
theorem k_181_70 : COD 181 70 = some (.aload_n 0, 1, 0, 0, 0, 0) := by decide +kernel
theorem k_181_71 : COD 181 71 = some (.iconst 1, 1, 0, 0, 0, 0) := by decide +kernel
theorem k_181_72 : COD 181 72 = some (.invokestatic 66, 3, 177, 2, 803, 0) := by decide +kernel
theorem k_181_75 : COD 181 75 = some (.iconst 5, 1, 0, 0, 0, 0) := by decide +kernel
theorem k_181_76 : COD 181 76 = some (.invokestatic 35, 3, 176, 2, 799, 0) := by decide +kernel
theorem k_181_79 : COD 181 79 = some (.anewarray 90, 3, 8, 0, 1204, 0) := by decide +kernel
theorem k_181_82 : COD 181 82 = some (.putfield 92, 3, 9, 3, 1049, 0) := by decide +kernel
theorem k_181_85 : COD 181 85 = some (.iconst 0, 1, 0, 0, 0, 0) := by decide +kernel
theorem k_181_86 : COD 181 86 = some (.istore_n 3, 1, 0, 0, 0, 0) := by decide +kernel
theorem k_181_87 : COD 181 87 = some (.iload_n 3, 1, 0, 0, 0, 0) := by decide +kernel
theorem k_181_88 : COD 181 88 = some (.aload_n 2, 1, 0, 0, 0, 0) := by decide +kernel
theorem k_181_89 : COD 181 89 = some (.getfield 92, 3, 9, 3, 1049, 0) := by decide +kernel
theorem k_181_92 : COD 181 92 = some (.arraylength, 1, 0, 0, 0, 0) := by decide +kernel
theorem k_181_93 : COD 181 93 = some (.if_icmp .ge 169, 3, 262, 0, 0, 0) := by decide +kernel
theorem k_181_96 : COD 181 96 = some (.aload_n 0, 1, 0, 0, 0, 0) := by decide +kernel
theorem k_181_97 : COD 181 97 = some (.iconst 2, 1, 0, 0, 0, 0) := by decide +kernel
theorem k_181_98 : COD 181 98 = some (.iload_n 3, 1, 0, 0, 0, 0) := by decide +kernel
theorem k_181_99 : COD 181 99 = some (.iadd, 1, 0, 0, 0, 0) := by decide +kernel
theorem k_181_100 : COD 181 100 = some (.invokestatic 66, 3, 177, 2, 803, 0) := by decide +kernel
theorem k_181_103 : COD 181 103 = some (.iconst 2, 1, 0, 0, 0, 0) := by decide +kernel
theorem k_181_104 : COD 181 104 = some (.ishr, 1, 0, 0, 0, 0) := by decide +kernel
theorem k_181_105 : COD 181 105 = some (.bipush 19, 2, 0, 0, 0, 0) := by decide +kernel
theorem k_181_107 : COD 181 107 = some (.iload_n 3, 1, 0, 0, 0, 0) := by decide +kernel
theorem k_181_108 : COD 181 108 = some (.imul, 1, 0, 0, 0, 0) := by decide +kernel
theorem k_181_109 : COD 181 109 = some (.iadd, 1, 0, 0, 0, 0) := by decide +kernel
theorem k_181_110 : COD 181 110 = some (.istore 4, 2, 0, 0, 0, 0) := by decide +kernel
theorem k_181_112 : COD 181 112 = some (.new 90, 3, 8, 0, 1204, 0) := by decide +kernel
theorem k_181_115 : COD 181 115 = some (.dup, 1, 0, 0, 0, 0) := by decide +kernel
theorem k_181_116 : COD 181 116 = some (.invokespecial 96, 3, 87, 0, 1206, 8) := by decide +kernel
theorem k_181_119 : COD 181 119 = some (.astore 5, 2, 0, 0, 0, 0) := by decide +kernel
theorem k_181_121 : COD 181 121 = some (.aload 5, 2, 0, 0, 0, 0) := by decide +kernel
theorem k_181_123 : COD 181 123 = some (.iload 4, 2, 0, 0, 0, 0) := by decide +kernel
theorem k_181_125 : COD 181 125 = some (.iconst 5, 1, 0, 0, 0, 0) := by decide +kernel
theorem k_181_126 : COD 181 126 = some (.invokestatic 35, 3, 176, 2, 799, 0) := by decide +kernel
theorem k_181_129 : COD 181 129 = some (.iconst 2, 1, 0, 0, 0, 0) := by decide +kernel
theorem k_181_130 : COD 181 130 = some (.if_icmp .ge 7, 3, 137, 0, 0, 0) := by decide +kernel
theorem k_181_133 : COD 181 133 = some (.iconst 0, 1, 0, 0, 0, 0) := by decide +kernel
theorem k_181_134 : COD 181 134 = some (.goto 18, 3, 152, 0, 0, 0) := by decide +kernel
theorem k_181_137 : COD 181 137 = some (.iload 4, 2, 0, 0, 0, 0) := by decide +kernel
theorem k_181_139 : COD 181 139 = some (.iconst 5, 1, 0, 0, 0, 0) := by decide +kernel
theorem k_181_140 : COD 181 140 = some (.invokestatic 35, 3, 176, 2, 799, 0) := by decide +kernel
theorem k_181_143 : COD 181 143 = some (.iconst 4, 1, 0, 0, 0, 0) := by decide +kernel
theorem k_181_144 : COD 181 144 = some (.if_icmp .ge 7, 3, 151, 0, 0, 0) := by decide +kernel
theorem k_181_147 : COD 181 147 = some (.iconst 1, 1, 0, 0, 0, 0) := by decide +kernel
theorem k_181_148 : COD 181 148 = some (.goto 4, 3, 152, 0, 0, 0) := by decide +kernel
theorem k_181_151 : COD 181 151 = some (.iconst 2, 1, 0, 0, 0, 0) := by decide +kernel
theorem k_181_152 : COD 181 152 = some (.putfield 97, 3, 8, 0, 1211, 0) := by decide +kernel
theorem k_181_155 : COD 181 155 = some (.aload 5, 2, 0, 0, 0, 0) := by decide +kernel
theorem k_181_157 : COD 181 157 = some (.iload 4, 2, 0, 0, 0, 0) := by decide +kernel
theorem k_181_159 : COD 181 159 = some (.iconst 3, 1, 0, 0, 0, 0) := by decide +kernel
theorem k_181_160 : COD 181 160 = some (.ishr, 1, 0, 0, 0, 0) := by decide +kernel
theorem k_181_161 : COD 181 161 = some (.iconst 1, 1, 0, 0, 0, 0) := by decide +kernel
theorem k_181_162 : COD 181 162 = some (.invokestatic 49, 3, 179, 2, 1236, 0) := by decide +kernel
theorem k_181_165 : COD 181 165 = some (.putfield 100, 3, 8, 1, 1214, 0) := by decide +kernel
theorem k_181_168 : COD 181 168 = some (.aload 5, 2, 0, 0, 0, 0) := by decide +kernel
theorem k_181_170 : COD 181 170 = some (.iload 4, 2, 0, 0, 0, 0) := by decide +kernel
theorem k_181_172 : COD 181 172 = some (.iconst 4, 1, 0, 0, 0, 0) := by decide +kernel
theorem k_181_173 : COD 181 173 = some (.ishr, 1, 0, 0, 0, 0) := by decide +kernel
theorem k_181_174 : COD 181 174 = some (.iconst 2, 1, 0, 0, 0, 0) := by decide +kernel
theorem k_181_175 : COD 181 175 = some (.invokestatic 49, 3, 179, 2, 1236, 0) := by decide +kernel
theorem k_181_178 : COD 181 178 = some (.putfield 103, 3, 8, 2, 1217, 0) := by decide +kernel
theorem k_181_181 : COD 181 181 = some (.aload 5, 2, 0, 0, 0, 0) := by decide +kernel
theorem k_181_183 : COD 181 183 = some (.iload 4, 2, 0, 0, 0, 0) := by decide +kernel
theorem k_181_185 : COD 181 185 = some (.bipush 6, 2, 0, 0, 0, 0) := by decide +kernel
theorem k_181_187 : COD 181 187 = some (.ishr, 1, 0, 0, 0, 0) := by decide +kernel
theorem k_181_188 : COD 181 188 = some (.iload 4, 2, 0, 0, 0, 0) := by decide +kernel
theorem k_181_190 : COD 181 190 = some (.iconst 5, 1, 0, 0, 0, 0) := by decide +kernel
theorem k_181_191 : COD 181 191 = some (.ishr, 1, 0, 0, 0, 0) := by decide +kernel
theorem k_181_192 : COD 181 192 = some (.iconst 2, 1, 0, 0, 0, 0) := by decide +kernel
theorem k_181_193 : COD 181 193 = some (.invokestatic 35, 3, 176, 2, 799, 0) := by decide +kernel
theorem k_181_196 : COD 181 196 = some (.iconst 1, 1, 0, 0, 0, 0) := by decide +kernel
theorem k_181_197 : COD 181 197 = some (.iadd, 1, 0, 0, 0, 0) := by decide +kernel
theorem k_181_198 : COD 181 198 = some (.invokestatic 49, 3, 179, 2, 1236, 0) := by decide +kernel
theorem k_181_201 : COD 181 201 = some (.putfield 106, 3, 8, 3, 1220, 0) := by decide +kernel
theorem k_181_204 : COD 181 204 = some (.aload 5, 2, 0, 0, 0, 0) := by decide +kernel
theorem k_181_206 : COD 181 206 = some (.iload 4, 2, 0, 0, 0, 0) := by decide +kernel
theorem k_181_208 : COD 181 208 = some (.bipush 7, 2, 0, 0, 0, 0) := by decide +kernel
theorem k_181_210 : COD 181 210 = some (.ishr, 1, 0, 0, 0, 0) := by decide +kernel
theorem k_181_211 : COD 181 211 = some (.iconst 2, 1, 0, 0, 0, 0) := by decide +kernel
theorem k_181_212 : COD 181 212 = some (.invokestatic 35, 3, 176, 2, 799, 0) := by decide +kernel
theorem k_181_215 : COD 181 215 = some (.ifCond .ne 7, 3, 222, 0, 0, 0) := by decide +kernel
theorem k_181_218 : COD 181 218 = some (.aconst_null, 1, 0, 0, 0, 0) := by decide +kernel
theorem k_181_219 : COD 181 219 = some (.goto 11, 3, 230, 0, 0, 0) := by decide +kernel
theorem k_181_222 : COD 181 222 = some (.iload 4, 2, 0, 0, 0, 0) := by decide +kernel
theorem k_181_224 : COD 181 224 = some (.iconst 2, 1, 0, 0, 0, 0) := by decide +kernel
theorem k_181_225 : COD 181 225 = some (.ishr, 1, 0, 0, 0, 0) := by decide +kernel
theorem k_181_226 : COD 181 226 = some (.iconst 1, 1, 0, 0, 0, 0) := by decide +kernel
theorem k_181_227 : COD 181 227 = some (.invokestatic 60, 3, 180, 2, 1262, 0) := by decide +kernel
theorem k_181_230 : COD 181 230 = some (.putfield 109, 3, 8, 4, 1223, 0) := by decide +kernel
theorem k_181_233 : COD 181 233 = some (.aload_n 2, 1, 0, 0, 0, 0) := by decide +kernel
theorem k_181_234 : COD 181 234 = some (.getfield 92, 3, 9, 3, 1049, 0) := by decide +kernel
theorem k_181_237 : COD 181 237 = some (.iload_n 3, 1, 0, 0, 0, 0) := by decide +kernel
theorem k_181_238 : COD 181 238 = some (.aload 5, 2, 0, 0, 0, 0) := by decide +kernel
theorem k_181_240 : COD 181 240 = some (.aastore, 1, 0, 0, 0, 0) := by decide +kernel
theorem k_181_241 : COD 181 241 = some (.aload_n 1, 1, 0, 0, 0, 0) := by decide +kernel
theorem k_181_242 : COD 181 242 = some (.ldc 111, 2, 102, 0, 1265, 0) := by decide +kernel
theorem k_181_244 : COD 181 244 = some (.invokevirtual 75, 3, 163, 1, 1067, 11) := by decide +kernel
theorem k_181_247 : COD 181 247 = some (.aload 5, 2, 0, 0, 0, 0) := by decide +kernel
theorem k_181_249 : COD 181 249 = some (.invokevirtual 113, 3, 116, 0, 1266, 8) := by decide +kernel
theorem k_181_252 : COD 181 252 = some (.invokevirtual 75, 3, 163, 1, 1067, 11) := by decide +kernel
theorem k_181_255 : COD 181 255 = some (.pop, 1, 0, 0, 0, 0) := by decide +kernel
theorem k_181_256 : COD 181 256 = some (.iinc 3 1, 3, 0, 0, 0, 0) := by decide +kernel
theorem k_181_259 : COD 181 259 = some (.goto (-172), 3, 87, 0, 0, 0) := by decide +kernel
theorem k_181_262 : COD 181 262 = some (.aload_n 2, 1, 0, 0, 0, 0) := by decide +kernel
theorem k_181_263 : COD 181 263 = some (.areturn, 1, 0, 0, 0, 0) := by decide +kernel
theorem k_182_0 : COD 182 0 = some (.iload_n 2, 1, 0, 0, 0, 0) := by decide +kernel
theorem k_182_1 : COD 182 1 = some (.iconst 3, 1, 0, 0, 0, 0) := by decide +kernel
theorem k_182_2 : COD 182 2 = some (.ishr, 1, 0, 0, 0, 0) := by decide +kernel
theorem k_182_3 : COD 182 3 = some (.aload_n 1, 1, 0, 0, 0, 0) := by decide +kernel
theorem k_182_4 : COD 182 4 = some (.getfield 70, 3, 9, 0, 1042, 0) := by decide +kernel
theorem k_182_7 : COD 182 7 = some (.invokestatic 35, 3, 176, 2, 799, 0) := by decide +kernel
theorem k_182_10 : COD 182 10 = some (.istore_n 3, 1, 0, 0, 0, 0) := by decide +kernel
theorem k_182_11 : COD 182 11 = some (.iload_n 2, 1, 0, 0, 0, 0) := by decide +kernel
theorem k_182_12 : COD 182 12 = some (.iconst 5, 1, 0, 0, 0, 0) := by decide +kernel
theorem k_182_13 : COD 182 13 = some (.ishr, 1, 0, 0, 0, 0) := by decide +kernel
theorem k_182_14 : COD 182 14 = some (.aload_n 1, 1, 0, 0, 0, 0) := by decide +kernel
theorem k_182_15 : COD 182 15 = some (.getfield 70, 3, 9, 0, 1042, 0) := by decide +kernel
theorem k_182_18 : COD 182 18 = some (.invokestatic 35, 3, 176, 2, 799, 0) := by decide +kernel
theorem k_182_21 : COD 182 21 = some (.istore 4, 2, 0, 0, 0, 0) := by decide +kernel
theorem k_182_23 : COD 182 23 = some (.iload_n 3, 1, 0, 0, 0, 0) := by decide +kernel
theorem k_182_24 : COD 182 24 = some (.iload 4, 2, 0, 0, 0, 0) := by decide +kernel
theorem k_182_26 : COD 182 26 = some (.invokestatic 117, 3, 226, 2, 1401, 0) := by decide +kernel
theorem k_182_29 : COD 182 29 = some (.istore 5, 2, 0, 0, 0, 0) := by decide +kernel
theorem k_182_31 : COD 182 31 = some (.iload_n 3, 1, 0, 0, 0, 0) := by decide +kernel
theorem k_182_32 : COD 182 32 = some (.iload 4, 2, 0, 0, 0, 0) := by decide +kernel
theorem k_182_34 : COD 182 34 = some (.invokestatic 122, 3, 225, 2, 1402, 0) := by decide +kernel
theorem k_182_37 : COD 182 37 = some (.istore 6, 2, 0, 0, 0, 0) := by decide +kernel
theorem k_182_39 : COD 182 39 = some (.iload_n 2, 1, 0, 0, 0, 0) := by decide +kernel
theorem k_182_40 : COD 182 40 = some (.bipush 13, 2, 0, 0, 0, 0) := by decide +kernel
theorem k_182_42 : COD 182 42 = some (.invokestatic 35, 3, 176, 2, 799, 0) := by decide +kernel
theorem k_182_45 : COD 182 45 = some (.tableswitch 505 0 9 #[55, 55, 55, 130, 130, 192, 192, 309, 378, 413], 55, 0, 0, 0, 0) := by decide +kernel
theorem k_182_100 : COD 182 100 = some (.iload_n 2, 1, 0, 0, 0, 0) := by decide +kernel
theorem k_182_101 : COD 182 101 = some (.bipush 8, 2, 0, 0, 0, 0) := by decide +kernel
theorem k_182_103 : COD 182 103 = some (.ishr, 1, 0, 0, 0, 0) := by decide +kernel
theorem k_182_104 : COD 182 104 = some (.iconst 4, 1, 0, 0, 0, 0) := by decide +kernel
theorem k_182_105 : COD 182 105 = some (.invokestatic 35, 3, 176, 2, 799, 0) := by decide +kernel
theorem k_182_108 : COD 182 108 = some (.ifCond .ne 22, 3, 130, 0, 0, 0) := by decide +kernel
theorem k_182_111 : COD 182 111 = some (.sipush 999, 3, 0, 0, 0, 0) := by decide +kernel
theorem k_182_114 : COD 182 114 = some (.sipush 1998, 3, 0, 0, 0, 0) := by decide +kernel
theorem k_182_117 : COD 182 117 = some (.iload_n 2, 1, 0, 0, 0, 0) := by decide +kernel
theorem k_182_118 : COD 182 118 = some (.bipush 9, 2, 0, 0, 0, 0) := by decide +kernel
theorem k_182_120 : COD 182 120 = some (.ishr, 1, 0, 0, 0, 0) := by decide +kernel
theorem k_182_121 : COD 182 121 = some (.iconst 2, 1, 0, 0, 0, 0) := by decide +kernel
theorem k_182_122 : COD 182 122 = some (.invokestatic 35, 3, 176, 2, 799, 0) := by decide +kernel
theorem k_182_125 : COD 182 125 = some (.imul, 1, 0, 0, 0, 0) := by decide +kernel
theorem k_182_126 : COD 182 126 = some (.isub, 1, 0, 0, 0, 0) := by decide +kernel
theorem k_182_127 : COD 182 127 = some (.goto 15, 3, 142, 0, 0, 0) := by decide +kernel
theorem k_182_130 : COD 182 130 = some (.iload_n 2, 1, 0, 0, 0, 0) := by decide +kernel
theorem k_182_131 : COD 182 131 = some (.bipush 6, 2, 0, 0, 0, 0) := by decide +kernel
theorem k_182_133 : COD 182 133 = some (.ishr, 1, 0, 0, 0, 0) := by decide +kernel
theorem k_182_134 : COD 182 134 = some (.bipush 41, 2, 0, 0, 0, 0) := by decide +kernel
theorem k_182_136 : COD 182 136 = some (.invokestatic 35, 3, 176, 2, 799, 0) := by decide +kernel
theorem k_182_139 : COD 182 139 = some (.bipush 20, 2, 0, 0, 0, 0) := by decide +kernel
theorem k_182_141 : COD 182 141 = some (.isub, 1, 0, 0, 0, 0) := by decide +kernel
theorem k_182_142 : COD 182 142 = some (.istore 7, 2, 0, 0, 0, 0) := by decide +kernel
theorem k_182_144 : COD 182 144 = some (.aload_n 0, 1, 0, 0, 0, 0) := by decide +kernel
theorem k_182_145 : COD 182 145 = some (.iload 5, 2, 0, 0, 0, 0) := by decide +kernel
theorem k_182_147 : COD 182 147 = some (.iload 6, 2, 0, 0, 0, 0) := by decide +kernel
theorem k_182_149 : COD 182 149 = some (.iload 7, 2, 0, 0, 0, 0) := by decide +kernel
theorem k_182_151 : COD 182 151 = some (.invokevirtual 125, 3, 110, 3, 574, 7) := by decide +kernel
theorem k_182_154 : COD 182 154 = some (.aload_n 1, 1, 0, 0, 0, 0) := by decide +kernel
theorem k_182_155 : COD 182 155 = some (.iconst 1, 1, 0, 0, 0, 0) := by decide +kernel
theorem k_182_156 : COD 182 156 = some (.iload 5, 2, 0, 0, 0, 0) := by decide +kernel
theorem k_182_158 : COD 182 158 = some (.iload 6, 2, 0, 0, 0, 0) := by decide +kernel
theorem k_182_160 : COD 182 160 = some (.iconst 0, 1, 0, 0, 0, 0) := by decide +kernel
theorem k_182_161 : COD 182 161 = some (.iload 7, 2, 0, 0, 0, 0) := by decide +kernel
theorem k_182_163 : COD 182 163 = some (.invokevirtual 129, 3, 135, 5, 702, 9) := by decide +kernel
theorem k_182_166 : COD 182 166 = some (.if_icmp .ne 7, 3, 173, 0, 0, 0) := by decide +kernel
theorem k_182_169 : COD 182 169 = some (.iconst 1, 1, 0, 0, 0, 0) := by decide +kernel
theorem k_182_170 : COD 182 170 = some (.goto 4, 3, 174, 0, 0, 0) := by decide +kernel
theorem k_182_173 : COD 182 173 = some (.iconst 0, 1, 0, 0, 0, 0) := by decide +kernel
theorem k_182_174 : COD 182 174 = some (.ireturn, 1, 0, 0, 0, 1) := by decide +kernel
theorem k_182_175 : COD 182 175 = some (.iload_n 2, 1, 0, 0, 0, 0) := by decide +kernel
theorem k_182_176 : COD 182 176 = some (.bipush 6, 2, 0, 0, 0, 0) := by decide +kernel
theorem k_182_178 : COD 182 178 = some (.ishr, 1, 0, 0, 0, 0) := by decide +kernel
theorem k_182_179 : COD 182 179 = some (.bipush 61, 2, 0, 0, 0, 0) := by decide +kernel
theorem k_182_181 : COD 182 181 = some (.invokestatic 35, 3, 176, 2, 799, 0) := by decide +kernel
theorem k_182_184 : COD 182 184 = some (.bipush 30, 2, 0, 0, 0, 0) := by decide +kernel
theorem k_182_186 : COD 182 186 = some (.isub, 1, 0, 0, 0, 0) := by decide +kernel
theorem k_182_187 : COD 182 187 = some (.istore 7, 2, 0, 0, 0, 0) := by decide +kernel
theorem k_182_189 : COD 182 189 = some (.aload_n 1, 1, 0, 0, 0, 0) := by decide +kernel
theorem k_182_190 : COD 182 190 = some (.iconst 1, 1, 0, 0, 0, 0) := by decide +kernel
theorem k_182_191 : COD 182 191 = some (.invokevirtual 132, 3, 128, 1, 1403, 9) := by decide +kernel
theorem k_182_194 : COD 182 194 = some (.lstore 8, 2, 0, 0, 0, 0) := by decide +kernel
theorem k_182_196 : COD 182 196 = some (.aload_n 1, 1, 0, 0, 0, 0) := by decide +kernel
theorem k_182_197 : COD 182 197 = some (.iconst 1, 1, 0, 0, 0, 0) := by decide +kernel
theorem k_182_198 : COD 182 198 = some (.iload 5, 2, 0, 0, 0, 0) := by decide +kernel
theorem k_182_200 : COD 182 200 = some (.iload 6, 2, 0, 0, 0, 0) := by decide +kernel
theorem k_182_202 : COD 182 202 = some (.iconst 1, 1, 0, 0, 0, 0) := by decide +kernel
theorem k_182_203 : COD 182 203 = some (.iload 7, 2, 0, 0, 0, 0) := by decide +kernel
theorem k_182_205 : COD 182 205 = some (.invokevirtual 129, 3, 135, 5, 702, 9) := by decide +kernel
theorem k_182_208 : COD 182 208 = some (.pop, 1, 0, 0, 0, 0) := by decide +kernel
theorem k_182_209 : COD 182 209 = some (.aload_n 0, 1, 0, 0, 0, 0) := by decide +kernel
theorem k_182_210 : COD 182 210 = some (.iload 5, 2, 0, 0, 0, 0) := by decide +kernel
theorem k_182_212 : COD 182 212 = some (.iload 6, 2, 0, 0, 0, 0) := by decide +kernel
theorem k_182_214 : COD 182 214 = some (.iload 7, 2, 0, 0, 0, 0) := by decide +kernel
theorem k_182_216 : COD 182 216 = some (.invokevirtual 136, 3, 111, 3, 597, 7) := by decide +kernel
theorem k_182_219 : COD 182 219 = some (.aload_n 1, 1, 0, 0, 0, 0) := by decide +kernel
theorem k_182_220 : COD 182 220 = some (.iconst 1, 1, 0, 0, 0, 0) := by decide +kernel
theorem k_182_221 : COD 182 221 = some (.invokevirtual 132, 3, 128, 1, 1403, 9) := by decide +kernel
theorem k_182_224 : COD 182 224 = some (.lload 8, 2, 0, 0, 0, 0) := by decide +kernel
theorem k_182_226 : COD 182 226 = some (.lsub, 1, 0, 0, 0, 0) := by decide +kernel
theorem k_182_227 : COD 182 227 = some (.lcmp, 1, 0, 0, 0, 0) := by decide +kernel
theorem k_182_228 : COD 182 228 = some (.ifCond .ne 7, 3, 235, 0, 0, 0) := by decide +kernel
theorem k_182_231 : COD 182 231 = some (.iconst 1, 1, 0, 0, 0, 0) := by decide +kernel
theorem k_182_232 : COD 182 232 = some (.goto 4, 3, 236, 0, 0, 0) := by decide +kernel
theorem k_182_235 : COD 182 235 = some (.iconst 0, 1, 0, 0, 0, 0) := by decide +kernel
theorem k_182_236 : COD 182 236 = some (.ireturn, 1, 0, 0, 0, 1) := by decide +kernel
theorem k_182_237 : COD 182 237 = some (.aload_n 1, 1, 0, 0, 0, 0) := by decide +kernel
theorem k_182_238 : COD 182 238 = some (.iconst 1, 1, 0, 0, 0, 0) := by decide +kernel
theorem k_182_239 : COD 182 239 = some (.iload 5, 2, 0, 0, 0, 0) := by decide +kernel
theorem k_182_241 : COD 182 241 = some (.iload 6, 2, 0, 0, 0, 0) := by decide +kernel
theorem k_182_243 : COD 182 243 = some (.iconst 2, 1, 0, 0, 0, 0) := by decide +kernel
theorem k_182_244 : COD 182 244 = some (.iconst 0, 1, 0, 0, 0, 0) := by decide +kernel
theorem k_182_245 : COD 182 245 = some (.invokevirtual 129, 3, 135, 5, 702, 9) := by decide +kernel
theorem k_182_248 : COD 182 248 = some (.pop, 1, 0, 0, 0, 0) := by decide +kernel
theorem k_182_249 : COD 182 249 = some (.lconst 0, 1, 0, 0, 0, 0) := by decide +kernel
theorem k_182_250 : COD 182 250 = some (.lstore 7, 2, 0, 0, 0, 0) := by decide +kernel
theorem k_182_252 : COD 182 252 = some (.aload_n 1, 1, 0, 0, 0, 0) := by decide +kernel
theorem k_182_253 : COD 182 253 = some (.iload 5, 2, 0, 0, 0, 0) := by decide +kernel
theorem k_182_255 : COD 182 255 = some (.invokevirtual 140, 3, 127, 1, 1404, 9) := by decide +kernel
theorem k_182_258 : COD 182 258 = some (.istore 9, 2, 0, 0, 0, 0) := by decide +kernel
theorem k_182_260 : COD 182 260 = some (.iload 5, 2, 0, 0, 0, 0) := by decide +kernel
theorem k_182_262 : COD 182 262 = some (.istore 10, 2, 0, 0, 0, 0) := by decide +kernel
theorem k_182_264 : COD 182 264 = some (.iload 10, 2, 0, 0, 0, 0) := by decide +kernel
theorem k_182_266 : COD 182 266 = some (.iload 6, 2, 0, 0, 0, 0) := by decide +kernel
theorem k_182_268 : COD 182 268 = some (.if_icmp .gt 34, 3, 302, 0, 0, 0) := by decide +kernel
theorem k_182_271 : COD 182 271 = some (.lload 7, 2, 0, 0, 0, 0) := by decide +kernel
theorem k_182_273 : COD 182 273 = some (.aload_n 1, 1, 0, 0, 0, 0) := by decide +kernel
theorem k_182_274 : COD 182 274 = some (.iload 10, 2, 0, 0, 0, 0) := by decide +kernel
theorem k_182_276 : COD 182 276 = some (.invokevirtual 140, 3, 127, 1, 1404, 9) := by decide +kernel
theorem k_182_279 : COD 182 279 = some (.i2l, 1, 0, 0, 0, 0) := by decide +kernel
theorem k_182_280 : COD 182 280 = some (.ladd, 1, 0, 0, 0, 0) := by decide +kernel
theorem k_182_281 : COD 182 281 = some (.lstore 7, 2, 0, 0, 0, 0) := by decide +kernel
theorem k_182_283 : COD 182 283 = some (.iload 9, 2, 0, 0, 0, 0) := by decide +kernel
theorem k_182_285 : COD 182 285 = some (.aload_n 1, 1, 0, 0, 0, 0) := by decide +kernel
theorem k_182_286 : COD 182 286 = some (.iload 10, 2, 0, 0, 0, 0) := by decide +kernel
theorem k_182_288 : COD 182 288 = some (.invokevirtual 140, 3, 127, 1, 1404, 9) := by decide +kernel
theorem k_182_291 : COD 182 291 = some (.invokestatic 122, 3, 225, 2, 1402, 0) := by decide +kernel
theorem k_182_294 : COD 182 294 = some (.istore 9, 2, 0, 0, 0, 0) := by decide +kernel
theorem k_182_296 : COD 182 296 = some (.iinc 10 1, 3, 0, 0, 0, 0) := by decide +kernel
theorem k_182_299 : COD 182 299 = some (.goto (-35), 3, 264, 0, 0, 0) := by decide +kernel
theorem k_182_302 : COD 182 302 = some (.iload_n 2, 1, 0, 0, 0, 0) := by decide +kernel
theorem k_182_303 : COD 182 303 = some (.bipush 7, 2, 0, 0, 0, 0) := by decide +kernel
theorem k_182_305 : COD 182 305 = some (.ishr, 1, 0, 0, 0, 0) := by decide +kernel
theorem k_182_306 : COD 182 306 = some (.iconst 2, 1, 0, 0, 0, 0) := by decide +kernel
theorem k_182_307 : COD 182 307 = some (.invokestatic 35, 3, 176, 2, 799, 0) := by decide +kernel
theorem k_182_310 : COD 182 310 = some (.ifCond .ne 25, 3, 335, 0, 0, 0) := by decide +kernel
theorem k_182_313 : COD 182 313 = some (.aload_n 0, 1, 0, 0, 0, 0) := by decide +kernel
theorem k_182_314 : COD 182 314 = some (.iload 5, 2, 0, 0, 0, 0) := by decide +kernel
theorem k_182_316 : COD 182 316 = some (.iload 6, 2, 0, 0, 0, 0) := by decide +kernel
theorem k_182_318 : COD 182 318 = some (.invokevirtual 143, 3, 105, 2, 546, 7) := by decide +kernel
theorem k_182_321 : COD 182 321 = some (.lload 7, 2, 0, 0, 0, 0) := by decide +kernel
theorem k_182_323 : COD 182 323 = some (.lcmp, 1, 0, 0, 0, 0) := by decide +kernel
theorem k_182_324 : COD 182 324 = some (.ifCond .ne 7, 3, 331, 0, 0, 0) := by decide +kernel
theorem k_182_327 : COD 182 327 = some (.iconst 1, 1, 0, 0, 0, 0) := by decide +kernel
theorem k_182_328 : COD 182 328 = some (.goto 25, 3, 353, 0, 0, 0) := by decide +kernel
theorem k_182_331 : COD 182 331 = some (.iconst 0, 1, 0, 0, 0, 0) := by decide +kernel
theorem k_182_332 : COD 182 332 = some (.goto 21, 3, 353, 0, 0, 0) := by decide +kernel
theorem k_182_335 : COD 182 335 = some (.aload_n 0, 1, 0, 0, 0, 0) := by decide +kernel
theorem k_182_336 : COD 182 336 = some (.iload 5, 2, 0, 0, 0, 0) := by decide +kernel
theorem k_182_338 : COD 182 338 = some (.iload 6, 2, 0, 0, 0, 0) := by decide +kernel
theorem k_182_340 : COD 182 340 = some (.invokevirtual 147, 3, 106, 2, 550, 7) := by decide +kernel
theorem k_182_343 : COD 182 343 = some (.iload 9, 2, 0, 0, 0, 0) := by decide +kernel
theorem k_182_345 : COD 182 345 = some (.if_icmp .ne 7, 3, 352, 0, 0, 0) := by decide +kernel
theorem k_182_348 : COD 182 348 = some (.iconst 1, 1, 0, 0, 0, 0) := by decide +kernel
theorem k_182_349 : COD 182 349 = some (.goto 4, 3, 353, 0, 0, 0) := by decide +kernel
theorem k_182_352 : COD 182 352 = some (.iconst 0, 1, 0, 0, 0, 0) := by decide +kernel
theorem k_182_353 : COD 182 353 = some (.ireturn, 1, 0, 0, 0, 1) := by decide +kernel
theorem k_182_354 : COD 182 354 = some (.aload_n 1, 1, 0, 0, 0, 0) := by decide +kernel
theorem k_182_355 : COD 182 355 = some (.iconst 1, 1, 0, 0, 0, 0) := by decide +kernel
theorem k_182_356 : COD 182 356 = some (.iload 5, 2, 0, 0, 0, 0) := by decide +kernel
theorem k_182_358 : COD 182 358 = some (.iload 6, 2, 0, 0, 0, 0) := by decide +kernel
theorem k_182_360 : COD 182 360 = some (.iconst 2, 1, 0, 0, 0, 0) := by decide +kernel
theorem k_182_361 : COD 182 361 = some (.iconst 0, 1, 0, 0, 0, 0) := by decide +kernel
theorem k_182_362 : COD 182 362 = some (.invokevirtual 129, 3, 135, 5, 702, 9) := by decide +kernel
theorem k_182_365 : COD 182 365 = some (.pop, 1, 0, 0, 0, 0) := by decide +kernel
theorem k_182_366 : COD 182 366 = some (.aload_n 1, 1, 0, 0, 0, 0) := by decide +kernel
theorem k_182_367 : COD 182 367 = some (.iload 5, 2, 0, 0, 0, 0) := by decide +kernel
theorem k_182_369 : COD 182 369 = some (.invokevirtual 140, 3, 127, 1, 1404, 9) := by decide +kernel
theorem k_182_372 : COD 182 372 = some (.istore 7, 2, 0, 0, 0, 0) := by decide +kernel
theorem k_182_374 : COD 182 374 = some (.iload 5, 2, 0, 0, 0, 0) := by decide +kernel
theorem k_182_376 : COD 182 376 = some (.istore 8, 2, 0, 0, 0, 0) := by decide +kernel
theorem k_182_378 : COD 182 378 = some (.iload 8, 2, 0, 0, 0, 0) := by decide +kernel
theorem k_182_380 : COD 182 380 = some (.iload 6, 2, 0, 0, 0, 0) := by decide +kernel
theorem k_182_382 : COD 182 382 = some (.if_icmp .gt 22, 3, 404, 0, 0, 0) := by decide +kernel
theorem k_182_385 : COD 182 385 = some (.iload 7, 2, 0, 0, 0, 0) := by decide +kernel
theorem k_182_387 : COD 182 387 = some (.aload_n 1, 1, 0, 0, 0, 0) := by decide +kernel
theorem k_182_388 : COD 182 388 = some (.iload 8, 2, 0, 0, 0, 0) := by decide +kernel
theorem k_182_390 : COD 182 390 = some (.invokevirtual 140, 3, 127, 1, 1404, 9) := by decide +kernel
theorem k_182_393 : COD 182 393 = some (.invokestatic 117, 3, 226, 2, 1401, 0) := by decide +kernel
theorem k_182_396 : COD 182 396 = some (.istore 7, 2, 0, 0, 0, 0) := by decide +kernel
theorem k_182_398 : COD 182 398 = some (.iinc 8 1, 3, 0, 0, 0, 0) := by decide +kernel
theorem k_182_401 : COD 182 401 = some (.goto (-23), 3, 378, 0, 0, 0) := by decide +kernel
theorem k_182_404 : COD 182 404 = some (.aload_n 0, 1, 0, 0, 0, 0) := by decide +kernel
theorem k_182_405 : COD 182 405 = some (.iload 5, 2, 0, 0, 0, 0) := by decide +kernel
theorem k_182_407 : COD 182 407 = some (.iload 6, 2, 0, 0, 0, 0) := by decide +kernel
theorem k_182_409 : COD 182 409 = some (.invokevirtual 150, 3, 107, 2, 554, 7) := by decide +kernel
theorem k_182_412 : COD 182 412 = some (.iload 7, 2, 0, 0, 0, 0) := by decide +kernel
theorem k_182_414 : COD 182 414 = some (.if_icmp .ne 7, 3, 421, 0, 0, 0) := by decide +kernel
theorem k_182_417 : COD 182 417 = some (.iconst 1, 1, 0, 0, 0, 0) := by decide +kernel
theorem k_182_418 : COD 182 418 = some (.goto 4, 3, 422, 0, 0, 0) := by decide +kernel
theorem k_182_421 : COD 182 421 = some (.iconst 0, 1, 0, 0, 0, 0) := by decide +kernel
theorem k_182_422 : COD 182 422 = some (.ireturn, 1, 0, 0, 0, 1) := by decide +kernel
theorem k_182_423 : COD 182 423 = some (.iload_n 2, 1, 0, 0, 0, 0) := by decide +kernel
theorem k_182_424 : COD 182 424 = some (.bipush 6, 2, 0, 0, 0, 0) := by decide +kernel
theorem k_182_426 : COD 182 426 = some (.ishr, 1, 0, 0, 0, 0) := by decide +kernel
theorem k_182_427 : COD 182 427 = some (.bipush 51, 2, 0, 0, 0, 0) := by decide +kernel
theorem k_182_429 : COD 182 429 = some (.invokestatic 35, 3, 176, 2, 799, 0) := by decide +kernel
theorem k_182_432 : COD 182 432 = some (.bipush 25, 2, 0, 0, 0, 0) := by decide +kernel
theorem k_182_434 : COD 182 434 = some (.isub, 1, 0, 0, 0, 0) := by decide +kernel
theorem k_182_435 : COD 182 435 = some (.istore 7, 2, 0, 0, 0, 0) := by decide +kernel
theorem k_182_437 : COD 182 437 = some (.aload_n 0, 1, 0, 0, 0, 0) := by decide +kernel
theorem k_182_438 : COD 182 438 = some (.iload 7, 2, 0, 0, 0, 0) := by decide +kernel
theorem k_182_440 : COD 182 440 = some (.invokevirtual 153, 3, 108, 1, 558, 7) := by decide +kernel
theorem k_182_443 : COD 182 443 = some (.aload_n 1, 1, 0, 0, 0, 0) := by decide +kernel
theorem k_182_444 : COD 182 444 = some (.iload 7, 2, 0, 0, 0, 0) := by decide +kernel
theorem k_182_446 : COD 182 446 = some (.invokevirtual 156, 3, 136, 1, 724, 9) := by decide +kernel
theorem k_182_449 : COD 182 449 = some (.if_icmp .ne 7, 3, 456, 0, 0, 0) := by decide +kernel
theorem k_182_452 : COD 182 452 = some (.iconst 1, 1, 0, 0, 0, 0) := by decide +kernel
theorem k_182_453 : COD 182 453 = some (.goto 4, 3, 457, 0, 0, 0) := by decide +kernel
theorem k_182_456 : COD 182 456 = some (.iconst 0, 1, 0, 0, 0, 0) := by decide +kernel
theorem k_182_457 : COD 182 457 = some (.ireturn, 1, 0, 0, 0, 1) := by decide +kernel
theorem k_182_458 : COD 182 458 = some (.iload_n 2, 1, 0, 0, 0, 0) := by decide +kernel
theorem k_182_459 : COD 182 459 = some (.bipush 7, 2, 0, 0, 0, 0) := by decide +kernel
theorem k_182_461 : COD 182 461 = some (.ishr, 1, 0, 0, 0, 0) := by decide +kernel
theorem k_182_462 : COD 182 462 = some (.iconst 3, 1, 0, 0, 0, 0) := by decide +kernel
theorem k_182_463 : COD 182 463 = some (.invokestatic 35, 3, 176, 2, 799, 0) := by decide +kernel
theorem k_182_466 : COD 182 466 = some (.ifCond .le 5, 3, 471, 0, 0, 0) := by decide +kernel
theorem k_182_469 : COD 182 469 = some (.iconst 1, 1, 0, 0, 0, 0) := by decide +kernel
theorem k_182_470 : COD 182 470 = some (.ireturn, 1, 0, 0, 0, 1) := by decide +kernel
theorem k_182_471 : COD 182 471 = some (.aload_n 1, 1, 0, 0, 0, 0) := by decide +kernel
theorem k_182_472 : COD 182 472 = some (.getfield 158, 3, 9, 2, 1046, 0) := by decide +kernel
theorem k_182_475 : COD 182 475 = some (.istore 7, 2, 0, 0, 0, 0) := by decide +kernel
theorem k_182_477 : COD 182 477 = some (.iconst 1, 1, 0, 0, 0, 0) := by decide +kernel
theorem k_182_478 : COD 182 478 = some (.istore 8, 2, 0, 0, 0, 0) := by decide +kernel
theorem k_182_480 : COD 182 480 = some (.iload 8, 2, 0, 0, 0, 0) := by decide +kernel
theorem k_182_482 : COD 182 482 = some (.bipush 64, 2, 0, 0, 0, 0) := by decide +kernel
theorem k_182_484 : COD 182 484 = some (.if_icmp .ge 46, 3, 530, 0, 0, 0) := by decide +kernel
theorem k_182_487 : COD 182 487 = some (.aload_n 1, 1, 0, 0, 0, 0) := by decide +kernel
theorem k_182_488 : COD 182 488 = some (.getfield 161, 3, 9, 5, 1052, 0) := by decide +kernel
theorem k_182_491 : COD 182 491 = some (.iload 8, 2, 0, 0, 0, 0) := by decide +kernel
theorem k_182_493 : COD 182 493 = some (.aaload, 1, 0, 0, 0, 0) := by decide +kernel
theorem k_182_494 : COD 182 494 = some (.ifnull 30, 3, 524, 0, 0, 0) := by decide +kernel
theorem k_182_497 : COD 182 497 = some (.aload_n 1, 1, 0, 0, 0, 0) := by decide +kernel
theorem k_182_498 : COD 182 498 = some (.getfield 161, 3, 9, 5, 1052, 0) := by decide +kernel
theorem k_182_501 : COD 182 501 = some (.iload 8, 2, 0, 0, 0, 0) := by decide +kernel
theorem k_182_503 : COD 182 503 = some (.aaload, 1, 0, 0, 0, 0) := by decide +kernel
theorem k_182_504 : COD 182 504 = some (.iconst 0, 1, 0, 0, 0, 0) := by decide +kernel
theorem k_182_505 : COD 182 505 = some (.iaload, 1, 0, 0, 0, 0) := by decide +kernel
theorem k_182_506 : COD 182 506 = some (.aload_n 1, 1, 0, 0, 0, 0) := by decide +kernel
theorem k_182_507 : COD 182 507 = some (.getfield 161, 3, 9, 5, 1052, 0) := by decide +kernel
theorem k_182_510 : COD 182 510 = some (.iload 8, 2, 0, 0, 0, 0) := by decide +kernel
theorem k_182_512 : COD 182 512 = some (.aaload, 1, 0, 0, 0, 0) := by decide +kernel
theorem k_182_513 : COD 182 513 = some (.iconst 1, 1, 0, 0, 0, 0) := by decide +kernel
theorem k_182_514 : COD 182 514 = some (.iaload, 1, 0, 0, 0, 0) := by decide +kernel
theorem k_182_515 : COD 182 515 = some (.if_icmp .ge 9, 3, 524, 0, 0, 0) := by decide +kernel
theorem k_182_518 : COD 182 518 = some (.aload_n 1, 1, 0, 0, 0, 0) := by decide +kernel
theorem k_182_519 : COD 182 519 = some (.iload 8, 2, 0, 0, 0, 0) := by decide +kernel
theorem k_182_521 : COD 182 521 = some (.invokevirtual 165, 3, 134, 1, 1405, 9) := by decide +kernel
theorem k_182_524 : COD 182 524 = some (.iinc 8 1, 3, 0, 0, 0, 0) := by decide +kernel
theorem k_182_527 : COD 182 527 = some (.goto (-47), 3, 480, 0, 0, 0) := by decide +kernel
theorem k_182_530 : COD 182 530 = some (.aload_n 0, 1, 0, 0, 0, 0) := by decide +kernel
theorem k_182_531 : COD 182 531 = some (.invokevirtual 169, 3, 109, 0, 566, 7) := by decide +kernel
theorem k_182_534 : COD 182 534 = some (.aload_n 1, 1, 0, 0, 0, 0) := by decide +kernel
theorem k_182_535 : COD 182 535 = some (.getfield 158, 3, 9, 2, 1046, 0) := by decide +kernel
theorem k_182_538 : COD 182 538 = some (.iload 7, 2, 0, 0, 0, 0) := by decide +kernel
theorem k_182_540 : COD 182 540 = some (.isub, 1, 0, 0, 0, 0) := by decide +kernel
theorem k_182_541 : COD 182 541 = some (.if_icmp .ne 7, 3, 548, 0, 0, 0) := by decide +kernel
theorem k_182_544 : COD 182 544 = some (.iconst 1, 1, 0, 0, 0, 0) := by decide +kernel
theorem k_182_545 : COD 182 545 = some (.goto 4, 3, 549, 0, 0, 0) := by decide +kernel
theorem k_182_548 : COD 182 548 = some (.iconst 0, 1, 0, 0, 0, 0) := by decide +kernel
theorem k_182_549 : COD 182 549 = some (.ireturn, 1, 0, 0, 0, 1) := by decide +kernel
theorem k_182_550 : COD 182 550 = some (.iconst 1, 1, 0, 0, 0, 0) := by decide +kernel
theorem k_182_551 : COD 182 551 = some (.iload_n 2, 1, 0, 0, 0, 0) := by decide +kernel
theorem k_182_552 : COD 182 552 = some (.bipush 6, 2, 0, 0, 0, 0) := by decide +kernel
theorem k_182_554 : COD 182 554 = some (.ishr, 1, 0, 0, 0, 0) := by decide +kernel
theorem k_182_555 : COD 182 555 = some (.iconst 3, 1, 0, 0, 0, 0) := by decide +kernel
theorem k_182_556 : COD 182 556 = some (.invokestatic 35, 3, 176, 2, 799, 0) := by decide +kernel
theorem k_182_559 : COD 182 559 = some (.iadd, 1, 0, 0, 0, 0) := by decide +kernel
theorem k_182_560 : COD 182 560 = some (.istore 7, 2, 0, 0, 0, 0) := by decide +kernel
theorem k_182_562 : COD 182 562 = some (.aload_n 0, 1, 0, 0, 0, 0) := by decide +kernel
theorem k_182_563 : COD 182 563 = some (.iload 7, 2, 0, 0, 0, 0) := by decide +kernel
theorem k_182_565 : COD 182 565 = some (.invokevirtual 172, 3, 112, 1, 601, 7) := by decide +kernel
theorem k_182_568 : COD 182 568 = some (.aload_n 1, 1, 0, 0, 0, 0) := by decide +kernel
theorem k_182_569 : COD 182 569 = some (.iload 7, 2, 0, 0, 0, 0) := by decide +kernel
theorem k_182_571 : COD 182 571 = some (.invokevirtual 175, 3, 137, 1, 737, 9) := by decide +kernel
theorem k_182_574 : COD 182 574 = some (.if_icmp .ne 7, 3, 581, 0, 0, 0) := by decide +kernel
theorem k_182_577 : COD 182 577 = some (.iconst 1, 1, 0, 0, 0, 0) := by decide +kernel
theorem k_182_578 : COD 182 578 = some (.goto 4, 3, 582, 0, 0, 0) := by decide +kernel
theorem k_182_581 : COD 182 581 = some (.iconst 0, 1, 0, 0, 0, 0) := by decide +kernel
theorem k_182_582 : COD 182 582 = some (.ireturn, 1, 0, 0, 0, 1) := by decide +kernel
theorem k_183_0 : COD 183 0 = some (.aload_n 0, 1, 0, 0, 0, 0) := by decide +kernel
theorem k_183_1 : COD 183 1 = some (.invokevirtual 191, 3, 88, 0, 318, 7) := by decide +kernel
theorem k_183_4 : COD 183 4 = some (.newarray .int, 2, 0, 0, 0, 0) := by decide +kernel
theorem k_183_6 : COD 183 6 = some (.astore_n 1, 1, 0, 0, 0, 0) := by decide +kernel
theorem k_183_7 : COD 183 7 = some (.iconst 0, 1, 0, 0, 0, 0) := by decide +kernel
theorem k_183_8 : COD 183 8 = some (.istore_n 2, 1, 0, 0, 0, 0) := by decide +kernel
theorem k_183_9 : COD 183 9 = some (.iload_n 2, 1, 0, 0, 0, 0) := by decide +kernel
theorem k_183_10 : COD 183 10 = some (.aload_n 1, 1, 0, 0, 0, 0) := by decide +kernel
theorem k_183_11 : COD 183 11 = some (.arraylength, 1, 0, 0, 0, 0) := by decide +kernel
theorem k_183_12 : COD 183 12 = some (.if_icmp .ge 17, 3, 29, 0, 0, 0) := by decide +kernel
theorem k_183_15 : COD 183 15 = some (.aload_n 1, 1, 0, 0, 0, 0) := by decide +kernel
theorem k_183_16 : COD 183 16 = some (.iload_n 2, 1, 0, 0, 0, 0) := by decide +kernel
theorem k_183_17 : COD 183 17 = some (.aload_n 0, 1, 0, 0, 0, 0) := by decide +kernel
theorem k_183_18 : COD 183 18 = some (.iload_n 2, 1, 0, 0, 0, 0) := by decide +kernel
theorem k_183_19 : COD 183 19 = some (.invokevirtual 257, 3, 102, 1, 466, 7) := by decide +kernel
theorem k_183_22 : COD 183 22 = some (.iastore, 1, 0, 0, 0, 0) := by decide +kernel
theorem k_183_23 : COD 183 23 = some (.iinc 2 1, 3, 0, 0, 0, 0) := by decide +kernel
theorem k_183_26 : COD 183 26 = some (.goto (-17), 3, 9, 0, 0, 0) := by decide +kernel
theorem k_183_29 : COD 183 29 = some (.aload_n 1, 1, 0, 0, 0, 0) := by decide +kernel
theorem k_183_30 : COD 183 30 = some (.areturn, 1, 0, 0, 0, 0) := by decide +kernel
theorem k_184_0 : COD 184 0 = some (.iconst 0, 1, 0, 0, 0, 0) := by decide +kernel
theorem k_184_1 : COD 184 1 = some (.istore_n 2, 1, 0, 0, 0, 0) := by decide +kernel
theorem k_184_2 : COD 184 2 = some (.iload_n 2, 1, 0, 0, 0, 0) := by decide +kernel
theorem k_184_3 : COD 184 3 = some (.aload_n 0, 1, 0, 0, 0, 0) := by decide +kernel
theorem k_184_4 : COD 184 4 = some (.arraylength, 1, 0, 0, 0, 0) := by decide +kernel
theorem k_184_5 : COD 184 5 = some (.if_icmp .ge 20, 3, 25, 0, 0, 0) := by decide +kernel
theorem k_184_8 : COD 184 8 = some (.aload_n 0, 1, 0, 0, 0, 0) := by decide +kernel
theorem k_184_9 : COD 184 9 = some (.iload_n 2, 1, 0, 0, 0, 0) := by decide +kernel
theorem k_184_10 : COD 184 10 = some (.iaload, 1, 0, 0, 0, 0) := by decide +kernel
theorem k_184_11 : COD 184 11 = some (.aload_n 1, 1, 0, 0, 0, 0) := by decide +kernel
theorem k_184_12 : COD 184 12 = some (.iload_n 2, 1, 0, 0, 0, 0) := by decide +kernel
theorem k_184_13 : COD 184 13 = some (.iaload, 1, 0, 0, 0, 0) := by decide +kernel
theorem k_184_14 : COD 184 14 = some (.if_icmp .eq 5, 3, 19, 0, 0, 0) := by decide +kernel
theorem k_184_17 : COD 184 17 = some (.iconst 0, 1, 0, 0, 0, 0) := by decide +kernel
theorem k_184_18 : COD 184 18 = some (.ireturn, 1, 0, 0, 0, 1) := by decide +kernel
theorem k_184_19 : COD 184 19 = some (.iinc 2 1, 3, 0, 0, 0, 0) := by decide +kernel
theorem k_184_22 : COD 184 22 = some (.goto (-20), 3, 2, 0, 0, 0) := by decide +kernel
theorem k_184_25 : COD 184 25 = some (.aload_n 0, 1, 0, 0, 0, 0) := by decide +kernel
theorem k_184_26 : COD 184 26 = some (.arraylength, 1, 0, 0, 0, 0) := by decide +kernel
theorem k_184_27 : COD 184 27 = some (.aload_n 1, 1, 0, 0, 0, 0) := by decide +kernel
theorem k_184_28 : COD 184 28 = some (.arraylength, 1, 0, 0, 0, 0) := by decide +kernel
theorem k_184_29 : COD 184 29 = some (.if_icmp .ne 7, 3, 36, 0, 0, 0) := by decide +kernel
theorem k_184_32 : COD 184 32 = some (.iconst 1, 1, 0, 0, 0, 0) := by decide +kernel
theorem k_184_33 : COD 184 33 = some (.goto 4, 3, 37, 0, 0, 0) := by decide +kernel
theorem k_184_36 : COD 184 36 = some (.iconst 0, 1, 0, 0, 0, 0) := by decide +kernel
theorem k_184_37 : COD 184 37 = some (.ireturn, 1, 0, 0, 0, 1) := by decide +kernel
theorem k_185_0 : COD 185 0 = some (.lconst 0, 1, 0, 0, 0, 0) := by decide +kernel
theorem k_185_1 : COD 185 1 = some (.lstore_n 3, 1, 0, 0, 0, 0) := by decide +kernel
theorem k_185_2 : COD 185 2 = some (.iload_n 1, 1, 0, 0, 0, 0) := by decide +kernel
theorem k_185_3 : COD 185 3 = some (.istore 5, 2, 0, 0, 0, 0) := by decide +kernel
theorem k_185_5 : COD 185 5 = some (.iload 5, 2, 0, 0, 0, 0) := by decide +kernel
theorem k_185_7 : COD 185 7 = some (.iload_n 2, 1, 0, 0, 0, 0) := by decide +kernel
theorem k_185_8 : COD 185 8 = some (.if_icmp .gt 17, 3, 25, 0, 0, 0) := by decide +kernel
theorem k_185_11 : COD 185 11 = some (.lload_n 3, 1, 0, 0, 0, 0) := by decide +kernel
theorem k_185_12 : COD 185 12 = some (.aload_n 0, 1, 0, 0, 0, 0) := by decide +kernel
theorem k_185_13 : COD 185 13 = some (.iload 5, 2, 0, 0, 0, 0) := by decide +kernel
theorem k_185_15 : COD 185 15 = some (.iaload, 1, 0, 0, 0, 0) := by decide +kernel
theorem k_185_16 : COD 185 16 = some (.i2l, 1, 0, 0, 0, 0) := by decide +kernel
theorem k_185_17 : COD 185 17 = some (.ladd, 1, 0, 0, 0, 0) := by decide +kernel
theorem k_185_18 : COD 185 18 = some (.lstore_n 3, 1, 0, 0, 0, 0) := by decide +kernel
theorem k_185_19 : COD 185 19 = some (.iinc 5 1, 3, 0, 0, 0, 0) := by decide +kernel
theorem k_185_22 : COD 185 22 = some (.goto (-17), 3, 5, 0, 0, 0) := by decide +kernel
theorem k_185_25 : COD 185 25 = some (.lload_n 3, 1, 0, 0, 0, 0) := by decide +kernel
theorem k_185_26 : COD 185 26 = some (.lreturn, 1, 0, 0, 0, 0) := by decide +kernel
theorem k_186_0 : COD 186 0 = some (.iconst 0, 1, 0, 0, 0, 0) := by decide +kernel
theorem k_186_1 : COD 186 1 = some (.istore_n 2, 1, 0, 0, 0, 0) := by decide +kernel
theorem k_186_2 : COD 186 2 = some (.iload_n 1, 1, 0, 0, 0, 0) := by decide +kernel
theorem k_186_3 : COD 186 3 = some (.istore_n 3, 1, 0, 0, 0, 0) := by decide +kernel
theorem k_186_4 : COD 186 4 = some (.aload_n 0, 1, 0, 0, 0, 0) := by decide +kernel
theorem k_186_5 : COD 186 5 = some (.iload_n 3, 1, 0, 0, 0, 0) := by decide +kernel
theorem k_186_6 : COD 186 6 = some (.invokevirtual 220, 3, 94, 1, 346, 7) := by decide +kernel
theorem k_186_9 : COD 186 9 = some (.aload_n 0, 1, 0, 0, 0, 0) := by decide +kernel
theorem k_186_10 : COD 186 10 = some (.iload_n 3, 1, 0, 0, 0, 0) := by decide +kernel
theorem k_186_11 : COD 186 11 = some (.invokevirtual 223, 3, 95, 1, 422, 7) := by decide +kernel
theorem k_186_14 : COD 186 14 = some (.if_icmp .ge 34, 3, 48, 0, 0, 0) := by decide +kernel
theorem k_186_17 : COD 186 17 = some (.iload_n 2, 1, 0, 0, 0, 0) := by decide +kernel
theorem k_186_18 : COD 186 18 = some (.aload_n 0, 1, 0, 0, 0, 0) := by decide +kernel
theorem k_186_19 : COD 186 19 = some (.iload_n 3, 1, 0, 0, 0, 0) := by decide +kernel
theorem k_186_20 : COD 186 20 = some (.invokevirtual 213, 3, 100, 1, 442, 7) := by decide +kernel
theorem k_186_23 : COD 186 23 = some (.ifCond .ne 11, 3, 34, 0, 0, 0) := by decide +kernel
theorem k_186_26 : COD 186 26 = some (.aload_n 0, 1, 0, 0, 0, 0) := by decide +kernel
theorem k_186_27 : COD 186 27 = some (.iload_n 3, 1, 0, 0, 0, 0) := by decide +kernel
theorem k_186_28 : COD 186 28 = some (.invokevirtual 217, 3, 99, 1, 438, 7) := by decide +kernel
theorem k_186_31 : COD 186 31 = some (.ifCond .eq 7, 3, 38, 0, 0, 0) := by decide +kernel
theorem k_186_34 : COD 186 34 = some (.iconst 1, 1, 0, 0, 0, 0) := by decide +kernel
theorem k_186_35 : COD 186 35 = some (.goto 4, 3, 39, 0, 0, 0) := by decide +kernel
theorem k_186_38 : COD 186 38 = some (.iconst 0, 1, 0, 0, 0, 0) := by decide +kernel
theorem k_186_39 : COD 186 39 = some (.iadd, 1, 0, 0, 0, 0) := by decide +kernel
theorem k_186_40 : COD 186 40 = some (.istore_n 2, 1, 0, 0, 0, 0) := by decide +kernel
theorem k_186_41 : COD 186 41 = some (.iload_n 3, 1, 0, 0, 0, 0) := by decide +kernel
theorem k_186_42 : COD 186 42 = some (.iconst 2, 1, 0, 0, 0, 0) := by decide +kernel
theorem k_186_43 : COD 186 43 = some (.imul, 1, 0, 0, 0, 0) := by decide +kernel
theorem k_186_44 : COD 186 44 = some (.istore_n 3, 1, 0, 0, 0, 0) := by decide +kernel
theorem k_186_45 : COD 186 45 = some (.goto (-41), 3, 4, 0, 0, 0) := by decide +kernel
theorem k_186_48 : COD 186 48 = some (.iload_n 2, 1, 0, 0, 0, 0) := by decide +kernel
theorem k_186_49 : COD 186 49 = some (.ireturn, 1, 0, 0, 0, 0) := by decide +kernel
theorem k_224_0 : COD 224 0 = some (.iload_n 0, 1, 0, 0, 0, 0) := by decide +kernel
theorem k_224_1 : COD 224 1 = some (.iload_n 1, 1, 0, 0, 0, 0) := by decide +kernel
theorem k_224_2 : COD 224 2 = some (.irem, 1, 0, 0, 0, 0) := by decide +kernel
theorem k_224_3 : COD 224 3 = some (.istore_n 2, 1, 0, 0, 0, 0) := by decide +kernel
theorem k_224_4 : COD 224 4 = some (.iload_n 0, 1, 0, 0, 0, 0) := by decide +kernel
theorem k_224_5 : COD 224 5 = some (.iload_n 1, 1, 0, 0, 0, 0) := by decide +kernel
theorem k_224_6 : COD 224 6 = some (.ixor, 1, 0, 0, 0, 0) := by decide +kernel
theorem k_224_7 : COD 224 7 = some (.ifCond .ge 11, 3, 18, 0, 0, 0) := by decide +kernel
theorem k_224_10 : COD 224 10 = some (.iload_n 2, 1, 0, 0, 0, 0) := by decide +kernel
theorem k_224_11 : COD 224 11 = some (.ifCond .eq 7, 3, 18, 0, 0, 0) := by decide +kernel
theorem k_224_14 : COD 224 14 = some (.iload_n 2, 1, 0, 0, 0, 0) := by decide +kernel
theorem k_224_15 : COD 224 15 = some (.iload_n 1, 1, 0, 0, 0, 0) := by decide +kernel
theorem k_224_16 : COD 224 16 = some (.iadd, 1, 0, 0, 0, 0) := by decide +kernel
theorem k_224_17 : COD 224 17 = some (.ireturn, 1, 0, 0, 0, 0) := by decide +kernel
theorem k_224_18 : COD 224 18 = some (.iload_n 2, 1, 0, 0, 0, 0) := by decide +kernel
theorem k_224_19 : COD 224 19 = some (.ireturn, 1, 0, 0, 0, 0) := by decide +kernel
theorem k_225_0 : COD 225 0 = some (.iload_n 0, 1, 0, 0, 0, 0) := by decide +kernel
theorem k_225_1 : COD 225 1 = some (.iload_n 1, 1, 0, 0, 0, 0) := by decide +kernel
theorem k_225_2 : COD 225 2 = some (.if_icmp .lt 7, 3, 9, 0, 0, 0) := by decide +kernel
theorem k_225_5 : COD 225 5 = some (.iload_n 0, 1, 0, 0, 0, 0) := by decide +kernel
theorem k_225_6 : COD 225 6 = some (.goto 4, 3, 10, 0, 0, 0) := by decide +kernel
theorem k_225_9 : COD 225 9 = some (.iload_n 1, 1, 0, 0, 0, 0) := by decide +kernel
theorem k_225_10 : COD 225 10 = some (.ireturn, 1, 0, 0, 0, 0) := by decide +kernel
theorem k_226_0 : COD 226 0 = some (.iload_n 0, 1, 0, 0, 0, 0) := by decide +kernel
theorem k_226_1 : COD 226 1 = some (.iload_n 1, 1, 0, 0, 0, 0) := by decide +kernel
theorem k_226_2 : COD 226 2 = some (.if_icmp .gt 7, 3, 9, 0, 0, 0) := by decide +kernel
theorem k_226_5 : COD 226 5 = some (.iload_n 0, 1, 0, 0, 0, 0) := by decide +kernel
theorem k_226_6 : COD 226 6 = some (.goto 4, 3, 10, 0, 0, 0) := by decide +kernel
theorem k_226_9 : COD 226 9 = some (.iload_n 1, 1, 0, 0, 0, 0) := by decide +kernel
theorem k_226_10 : COD 226 10 = some (.ireturn, 1, 0, 0, 0, 0) := by decide +kernel
theorem k_227_0 : COD 227 0 = some (.aload_n 0, 1, 0, 0, 0, 0) := by decide +kernel
theorem k_227_1 : COD 227 1 = some (.getfield 9, 3, 12, 0, 1368, 0) := by decide +kernel
theorem k_227_4 : COD 227 4 = some (.arraylength, 1, 0, 0, 0, 0) := by decide +kernel
theorem k_227_5 : COD 227 5 = some (.aload_n 0, 1, 0, 0, 0, 0) := by decide +kernel
theorem k_227_6 : COD 227 6 = some (.invokevirtual 335, 3, 229, 0, 814, 12) := by decide +kernel
theorem k_227_9 : COD 227 9 = some (.ishr, 1, 0, 0, 0, 0) := by decide +kernel
theorem k_227_10 : COD 227 10 = some (.ireturn, 1, 0, 0, 0, 0) := by decide +kernel
theorem k_228_0 : COD 228 0 = some (.aload_n 0, 1, 0, 0, 0, 0) := by decide +kernel
theorem k_228_1 : COD 228 1 = some (.invokevirtual 492, 3, 230, 0, 824, 12) := by decide +kernel
theorem k_228_4 : COD 228 4 = some (.ifCond .eq 12, 3, 16, 0, 0, 0) := by decide +kernel
theorem k_228_7 : COD 228 7 = some (.aload_n 0, 1, 0, 0, 0, 0) := by decide +kernel
theorem k_228_8 : COD 228 8 = some (.getfield 9, 3, 12, 0, 1368, 0) := by decide +kernel
theorem k_228_11 : COD 228 11 = some (.iload_n 1, 1, 0, 0, 0, 0) := by decide +kernel
theorem k_228_12 : COD 228 12 = some (.invokestatic 495, 3, 232, 2, 828, 0) := by decide +kernel
theorem k_228_15 : COD 228 15 = some (.ireturn, 1, 0, 0, 0, 3) := by decide +kernel
theorem k_228_16 : COD 228 16 = some (.aload_n 0, 1, 0, 0, 0, 0) := by decide +kernel
theorem k_228_17 : COD 228 17 = some (.getfield 9, 3, 12, 0, 1368, 0) := by decide +kernel
theorem k_228_20 : COD 228 20 = some (.iload_n 1, 1, 0, 0, 0, 0) := by decide +kernel
theorem k_228_21 : COD 228 21 = some (.invokestatic 498, 3, 999, 2, 839, 0) := by decide +kernel
theorem k_228_24 : COD 228 24 = some (.ireturn, 1, 0, 0, 0, 3) := by decide +kernel
theorem k_229_0 : COD 229 0 = some (.getstatic 38, 3, 2, 0, 818, 0) := by decide +kernel
theorem k_229_3 : COD 229 3 = some (.ifCond .eq 10, 3, 13, 0, 0, 0) := by decide +kernel
theorem k_229_6 : COD 229 6 = some (.aload_n 0, 1, 0, 0, 0, 0) := by decide +kernel
theorem k_229_7 : COD 229 7 = some (.getfield 15, 3, 12, 1, 1369, 0) := by decide +kernel
theorem k_229_10 : COD 229 10 = some (.goto 4, 3, 14, 0, 0, 0) := by decide +kernel
theorem k_229_13 : COD 229 13 = some (.iconst 1, 1, 0, 0, 0, 0) := by decide +kernel
theorem k_229_14 : COD 229 14 = some (.ireturn, 1, 0, 0, 0, 2) := by decide +kernel
theorem k_230_0 : COD 230 0 = some (.getstatic 38, 3, 2, 0, 818, 0) := by decide +kernel
theorem k_230_3 : COD 230 3 = some (.ifCond .eq 14, 3, 17, 0, 0, 0) := by decide +kernel
theorem k_230_6 : COD 230 6 = some (.aload_n 0, 1, 0, 0, 0, 0) := by decide +kernel
theorem k_230_7 : COD 230 7 = some (.getfield 15, 3, 12, 1, 1369, 0) := by decide +kernel
theorem k_230_10 : COD 230 10 = some (.ifCond .ne 7, 3, 17, 0, 0, 0) := by decide +kernel
theorem k_230_13 : COD 230 13 = some (.iconst 1, 1, 0, 0, 0, 0) := by decide +kernel
theorem k_230_14 : COD 230 14 = some (.goto 4, 3, 18, 0, 0, 0) := by decide +kernel
theorem k_230_17 : COD 230 17 = some (.iconst 0, 1, 0, 0, 0, 0) := by decide +kernel
theorem k_230_18 : COD 230 18 = some (.ireturn, 1, 0, 0, 0, 1) := by decide +kernel
theorem k_231_0 : COD 231 0 = some (.iload_n 0, 1, 0, 0, 0, 0) := by decide +kernel
theorem k_231_1 : COD 231 1 = some (.iload_n 1, 1, 0, 0, 0, 0) := by decide +kernel
theorem k_231_2 : COD 231 2 = some (.getstatic 1053, 3, 3, 0, 834, 0) := by decide +kernel
theorem k_231_5 : COD 231 5 = some (.invokestatic 1059, 3, 233, 3, 836, 0) := by decide +kernel
theorem k_231_8 : COD 231 8 = some (.pop, 1, 0, 0, 0, 0) := by decide +kernel
theorem k_231_9 : COD 231 9 = some (.return_, 1, 0, 0, 0, 0) := by decide +kernel
theorem k_232_0 : COD 232 0 = some (.iload_n 1, 1, 0, 0, 0, 0) := by decide +kernel
theorem k_232_1 : COD 232 1 = some (.aload_n 0, 1, 0, 0, 0, 0) := by decide +kernel
theorem k_232_2 : COD 232 2 = some (.arraylength, 1, 0, 0, 0, 0) := by decide +kernel
theorem k_232_3 : COD 232 3 = some (.invokestatic 9, 3, 231, 2, 831, 12) := by decide +kernel
theorem k_232_6 : COD 232 6 = some (.aload_n 0, 1, 0, 0, 0, 0) := by decide +kernel
theorem k_232_7 : COD 232 7 = some (.iload_n 1, 1, 0, 0, 0, 0) := by decide +kernel
theorem k_232_8 : COD 232 8 = some (.baload, 1, 0, 0, 0, 0) := by decide +kernel
theorem k_232_9 : COD 232 9 = some (.sipush 255, 3, 0, 0, 0, 0) := by decide +kernel
theorem k_232_12 : COD 232 12 = some (.iand, 1, 0, 0, 0, 0) := by decide +kernel
theorem k_232_13 : COD 232 13 = some (.i2c, 1, 0, 0, 0, 0) := by decide +kernel
theorem k_232_14 : COD 232 14 = some (.ireturn, 1, 0, 0, 0, 3) := by decide +kernel
theorem k_233_0 : COD 233 0 = some (.iload_n 0, 1, 0, 0, 0, 0) := by decide +kernel
theorem k_233_1 : COD 233 1 = some (.ifCond .lt 8, 3, 9, 0, 0, 0) := by decide +kernel
theorem k_233_4 : COD 233 4 = some (.iload_n 0, 1, 0, 0, 0, 0) := by decide +kernel
theorem k_233_5 : COD 233 5 = some (.iload_n 1, 1, 0, 0, 0, 0) := by decide +kernel
theorem k_233_6 : COD 233 6 = some (.if_icmp .lt 10, 3, 16, 0, 0, 0) := by decide +kernel
theorem k_233_9 : COD 233 9 = some (.aload_n 2, 1, 0, 0, 0, 0) := by decide +kernel
theorem k_233_10 : COD 233 10 = some (.iload_n 0, 1, 0, 0, 0, 0) := by decide +kernel
theorem k_233_11 : COD 233 11 = some (.iload_n 1, 1, 0, 0, 0, 0) := by decide +kernel
theorem k_233_12 : COD 233 12 = some (.invokestatic 95, 3, 999, 0, 0, 0) := by decide +kernel
theorem k_233_15 : COD 233 15 = some (.athrow, 1, 0, 0, 0, 0) := by decide +kernel
theorem k_233_16 : COD 233 16 = some (.iload_n 0, 1, 0, 0, 0, 0) := by decide +kernel
theorem k_233_17 : COD 233 17 = some (.ireturn, 1, 0, 0, 0, 0) := by decide +kernel
theorem k_257_0 : COD 257 0 = some (.new 20, 3, 7, 0, 58, 0) := by decide +kernel
theorem k_257_3 : COD 257 3 = some (.dup, 1, 0, 0, 0, 0) := by decide +kernel
theorem k_257_4 : COD 257 4 = some (.invokespecial 178, 3, 83, 0, 60, 7) := by decide +kernel
theorem k_257_7 : COD 257 7 = some (.astore_n 1, 1, 0, 0, 0, 0) := by decide +kernel
theorem k_257_8 : COD 257 8 = some (.new 76, 3, 11, 0, 1418, 0) := by decide +kernel
theorem k_257_11 : COD 257 11 = some (.dup, 1, 0, 0, 0, 0) := by decide +kernel
theorem k_257_12 : COD 257 12 = some (.invokespecial 179, 3, 162, 0, 1419, 11) := by decide +kernel
theorem k_257_15 : COD 257 15 = some (.astore_n 2, 1, 0, 0, 0, 0) := by decide +kernel
theorem k_257_16 : COD 257 16 = some (.aload_n 0, 1, 0, 0, 0, 0) := by decide +kernel
theorem k_257_17 : COD 257 17 = some (.aload_n 2, 1, 0, 0, 0, 0) := by decide +kernel
theorem k_257_18 : COD 257 18 = some (.invokestatic 180, 3, 181, 2, 1029, 0) := by decide +kernel
theorem k_257_21 : COD 257 21 = some (.astore_n 3, 1, 0, 0, 0, 0) := by decide +kernel
theorem k_257_22 : COD 257 22 = some (.aload_n 1, 1, 0, 0, 0, 0) := by decide +kernel
theorem k_257_23 : COD 257 23 = some (.aload_n 2, 1, 0, 0, 0, 0) := by decide +kernel
theorem k_257_24 : COD 257 24 = some (.invokevirtual 184, 3, 165, 0, 1420, 11) := by decide +kernel
theorem k_257_27 : COD 257 27 = some (.invokestatic 187, 3, 178, 2, 807, 0) := by decide +kernel
theorem k_257_30 : COD 257 30 = some (.ifCond .eq 5, 3, 35, 0, 0, 0) := by decide +kernel
theorem k_257_33 : COD 257 33 = some (.iconst 0, 1, 0, 0, 0, 0) := by decide +kernel
theorem k_257_34 : COD 257 34 = some (.ireturn, 1, 0, 0, 0, 1) := by decide +kernel
theorem k_257_35 : COD 257 35 = some (.aload_n 1, 1, 0, 0, 0, 0) := by decide +kernel
theorem k_257_36 : COD 257 36 = some (.invokevirtual 191, 3, 88, 0, 318, 7) := by decide +kernel
theorem k_257_39 : COD 257 39 = some (.istore 4, 2, 0, 0, 0, 0) := by decide +kernel
theorem k_257_41 : COD 257 41 = some (.iconst 0, 1, 0, 0, 0, 0) := by decide +kernel
theorem k_257_42 : COD 257 42 = some (.istore 5, 2, 0, 0, 0, 0) := by decide +kernel
theorem k_257_44 : COD 257 44 = some (.iload 5, 2, 0, 0, 0, 0) := by decide +kernel
theorem k_257_46 : COD 257 46 = some (.bipush 8, 2, 0, 0, 0, 0) := by decide +kernel
theorem k_257_48 : COD 257 48 = some (.if_icmp .ge 1190, 3, 1238, 0, 0, 0) := by decide +kernel
theorem k_257_51 : COD 257 51 = some (.aload_n 0, 1, 0, 0, 0, 0) := by decide +kernel
theorem k_257_52 : COD 257 52 = some (.iconst 2, 1, 0, 0, 0, 0) := by decide +kernel
theorem k_257_53 : COD 257 53 = some (.iload 5, 2, 0, 0, 0, 0) := by decide +kernel
theorem k_257_55 : COD 257 55 = some (.iadd, 1, 0, 0, 0, 0) := by decide +kernel
theorem k_257_56 : COD 257 56 = some (.invokestatic 66, 3, 177, 2, 803, 0) := by decide +kernel
theorem k_257_59 : COD 257 59 = some (.iconst 1, 1, 0, 0, 0, 0) := by decide +kernel
theorem k_257_60 : COD 257 60 = some (.ishr, 1, 0, 0, 0, 0) := by decide +kernel
theorem k_257_61 : COD 257 61 = some (.bipush 53, 2, 0, 0, 0, 0) := by decide +kernel
theorem k_257_63 : COD 257 63 = some (.iload 5, 2, 0, 0, 0, 0) := by decide +kernel
theorem k_257_65 : COD 257 65 = some (.imul, 1, 0, 0, 0, 0) := by decide +kernel
theorem k_257_66 : COD 257 66 = some (.iadd, 1, 0, 0, 0, 0) := by decide +kernel
theorem k_257_67 : COD 257 67 = some (.istore 6, 2, 0, 0, 0, 0) := by decide +kernel
theorem k_257_69 : COD 257 69 = some (.aload_n 1, 1, 0, 0, 0, 0) := by decide +kernel
theorem k_257_70 : COD 257 70 = some (.aload_n 3, 1, 0, 0, 0, 0) := by decide +kernel
theorem k_257_71 : COD 257 71 = some (.iload 6, 2, 0, 0, 0, 0) := by decide +kernel
theorem k_257_73 : COD 257 73 = some (.invokestatic 194, 3, 182, 3, 1398, 0) := by decide +kernel
theorem k_257_76 : COD 257 76 = some (.ifCond .ne 5, 3, 81, 0, 0, 0) := by decide +kernel
theorem k_257_79 : COD 257 79 = some (.iconst 0, 1, 0, 0, 0, 0) := by decide +kernel
theorem k_257_80 : COD 257 80 = some (.ireturn, 1, 0, 0, 0, 1) := by decide +kernel
theorem k_257_81 : COD 257 81 = some (.aload_n 1, 1, 0, 0, 0, 0) := by decide +kernel
theorem k_257_82 : COD 257 82 = some (.invokevirtual 198, 3, 118, 0, 672, 7) := by decide +kernel
theorem k_257_85 : COD 257 85 = some (.lstore 7, 2, 0, 0, 0, 0) := by decide +kernel
theorem k_257_87 : COD 257 87 = some (.aload_n 1, 1, 0, 0, 0, 0) := by decide +kernel
theorem k_257_88 : COD 257 88 = some (.invokestatic 202, 3, 183, 1, 1406, 0) := by decide +kernel
theorem k_257_91 : COD 257 91 = some (.astore 9, 2, 0, 0, 0, 0) := by decide +kernel
theorem k_257_93 : COD 257 93 = some (.lconst 0, 1, 0, 0, 0, 0) := by decide +kernel
theorem k_257_94 : COD 257 94 = some (.lstore 10, 2, 0, 0, 0, 0) := by decide +kernel
theorem k_257_96 : COD 257 96 = some (.iconst 0, 1, 0, 0, 0, 0) := by decide +kernel
theorem k_257_97 : COD 257 97 = some (.istore 12, 2, 0, 0, 0, 0) := by decide +kernel
theorem k_257_99 : COD 257 99 = some (.iload 12, 2, 0, 0, 0, 0) := by decide +kernel
theorem k_257_101 : COD 257 101 = some (.iload 4, 2, 0, 0, 0, 0) := by decide +kernel
theorem k_257_103 : COD 257 103 = some (.if_icmp .ge 20, 3, 123, 0, 0, 0) := by decide +kernel
theorem k_257_106 : COD 257 106 = some (.lload 10, 2, 0, 0, 0, 0) := by decide +kernel
theorem k_257_108 : COD 257 108 = some (.aload 9, 2, 0, 0, 0, 0) := by decide +kernel
theorem k_257_110 : COD 257 110 = some (.iload 12, 2, 0, 0, 0, 0) := by decide +kernel
theorem k_257_112 : COD 257 112 = some (.iaload, 1, 0, 0, 0, 0) := by decide +kernel
theorem k_257_113 : COD 257 113 = some (.i2l, 1, 0, 0, 0, 0) := by decide +kernel
theorem k_257_114 : COD 257 114 = some (.ladd, 1, 0, 0, 0, 0) := by decide +kernel
theorem k_257_115 : COD 257 115 = some (.lstore 10, 2, 0, 0, 0, 0) := by decide +kernel
theorem k_257_117 : COD 257 117 = some (.iinc 12 1, 3, 0, 0, 0, 0) := by decide +kernel
theorem k_257_120 : COD 257 120 = some (.goto (-21), 3, 99, 0, 0, 0) := by decide +kernel
theorem k_257_123 : COD 257 123 = some (.lload 10, 2, 0, 0, 0, 0) := by decide +kernel
theorem k_257_125 : COD 257 125 = some (.aload_n 1, 1, 0, 0, 0, 0) := by decide +kernel
theorem k_257_126 : COD 257 126 = some (.iconst 1, 1, 0, 0, 0, 0) := by decide +kernel
theorem k_257_127 : COD 257 127 = some (.invokevirtual 206, 3, 96, 1, 426, 7) := by decide +kernel
theorem k_257_130 : COD 257 130 = some (.lcmp, 1, 0, 0, 0, 0) := by decide +kernel
theorem k_257_131 : COD 257 131 = some (.ifCond .ne 18, 3, 149, 0, 0, 0) := by decide +kernel
theorem k_257_134 : COD 257 134 = some (.aload_n 1, 1, 0, 0, 0, 0) := by decide +kernel
theorem k_257_135 : COD 257 135 = some (.invokevirtual 209, 3, 117, 0, 668, 7) := by decide +kernel
theorem k_257_138 : COD 257 138 = some (.lload 10, 2, 0, 0, 0, 0) := by decide +kernel
theorem k_257_140 : COD 257 140 = some (.l2d, 1, 0, 0, 0, 0) := by decide +kernel
theorem k_257_141 : COD 257 141 = some (.iload 4, 2, 0, 0, 0, 0) := by decide +kernel
theorem k_257_143 : COD 257 143 = some (.i2d, 1, 0, 0, 0, 0) := by decide +kernel
theorem k_257_144 : COD 257 144 = some (.ddiv, 1, 0, 0, 0, 0) := by decide +kernel
theorem k_257_145 : COD 257 145 = some (.dcmp .l, 1, 0, 0, 0, 0) := by decide +kernel
theorem k_257_146 : COD 257 146 = some (.ifCond .eq 5, 3, 151, 0, 0, 0) := by decide +kernel
theorem k_257_149 : COD 257 149 = some (.iconst 0, 1, 0, 0, 0, 0) := by decide +kernel
theorem k_257_150 : COD 257 150 = some (.ireturn, 1, 0, 0, 0, 1) := by decide +kernel
theorem k_257_151 : COD 257 151 = some (.iconst 0, 1, 0, 0, 0, 0) := by decide +kernel
theorem k_257_152 : COD 257 152 = some (.istore 12, 2, 0, 0, 0, 0) := by decide +kernel
theorem k_257_154 : COD 257 154 = some (.iconst 1, 1, 0, 0, 0, 0) := by decide +kernel
theorem k_257_155 : COD 257 155 = some (.istore 13, 2, 0, 0, 0, 0) := by decide +kernel
theorem k_257_157 : COD 257 157 = some (.iload 13, 2, 0, 0, 0, 0) := by decide +kernel
theorem k_257_159 : COD 257 159 = some (.bipush 64, 2, 0, 0, 0, 0) := by decide +kernel
theorem k_257_161 : COD 257 161 = some (.if_icmp .ge 370, 3, 531, 0, 0, 0) := by decide +kernel
theorem k_257_164 : COD 257 164 = some (.aload_n 3, 1, 0, 0, 0, 0) := by decide +kernel
theorem k_257_165 : COD 257 165 = some (.getfield 161, 3, 9, 5, 1052, 0) := by decide +kernel
theorem k_257_168 : COD 257 168 = some (.iload 13, 2, 0, 0, 0, 0) := by decide +kernel
theorem k_257_170 : COD 257 170 = some (.aaload, 1, 0, 0, 0, 0) := by decide +kernel
theorem k_257_171 : COD 257 171 = some (.ifnonnull 6, 3, 177, 0, 0, 0) := by decide +kernel
theorem k_257_174 : COD 257 174 = some (.goto 351, 3, 525, 0, 0, 0) := by decide +kernel
theorem k_257_177 : COD 257 177 = some (.aload_n 1, 1, 0, 0, 0, 0) := by decide +kernel
theorem k_257_178 : COD 257 178 = some (.iload 13, 2, 0, 0, 0, 0) := by decide +kernel
theorem k_257_180 : COD 257 180 = some (.invokevirtual 213, 3, 100, 1, 442, 7) := by decide +kernel
theorem k_257_183 : COD 257 183 = some (.ifCond .ne 12, 3, 195, 0, 0, 0) := by decide +kernel
theorem k_257_186 : COD 257 186 = some (.aload_n 1, 1, 0, 0, 0, 0) := by decide +kernel
theorem k_257_187 : COD 257 187 = some (.iload 13, 2, 0, 0, 0, 0) := by decide +kernel
theorem k_257_189 : COD 257 189 = some (.invokevirtual 217, 3, 99, 1, 438, 7) := by decide +kernel
theorem k_257_192 : COD 257 192 = some (.ifCond .eq 7, 3, 199, 0, 0, 0) := by decide +kernel
theorem k_257_195 : COD 257 195 = some (.iconst 1, 1, 0, 0, 0, 0) := by decide +kernel
theorem k_257_196 : COD 257 196 = some (.goto 4, 3, 200, 0, 0, 0) := by decide +kernel
theorem k_257_199 : COD 257 199 = some (.iconst 0, 1, 0, 0, 0, 0) := by decide +kernel
theorem k_257_200 : COD 257 200 = some (.istore 14, 2, 0, 0, 0, 0) := by decide +kernel
theorem k_257_202 : COD 257 202 = some (.iload 12, 2, 0, 0, 0, 0) := by decide +kernel
theorem k_257_204 : COD 257 204 = some (.iload 14, 2, 0, 0, 0, 0) := by decide +kernel
theorem k_257_206 : COD 257 206 = some (.ifCond .eq 7, 3, 213, 0, 0, 0) := by decide +kernel
theorem k_257_209 : COD 257 209 = some (.iconst 1, 1, 0, 0, 0, 0) := by decide +kernel
theorem k_257_210 : COD 257 210 = some (.goto 4, 3, 214, 0, 0, 0) := by decide +kernel
theorem k_257_213 : COD 257 213 = some (.iconst 0, 1, 0, 0, 0, 0) := by decide +kernel
theorem k_257_214 : COD 257 214 = some (.iadd, 1, 0, 0, 0, 0) := by decide +kernel
theorem k_257_215 : COD 257 215 = some (.istore 12, 2, 0, 0, 0, 0) := by decide +kernel
theorem k_257_217 : COD 257 217 = some (.aload_n 1, 1, 0, 0, 0, 0) := by decide +kernel
theorem k_257_218 : COD 257 218 = some (.iload 13, 2, 0, 0, 0, 0) := by decide +kernel
theorem k_257_220 : COD 257 220 = some (.invokevirtual 220, 3, 94, 1, 346, 7) := by decide +kernel
theorem k_257_223 : COD 257 223 = some (.istore 15, 2, 0, 0, 0, 0) := by decide +kernel
theorem k_257_225 : COD 257 225 = some (.aload_n 1, 1, 0, 0, 0, 0) := by decide +kernel
theorem k_257_226 : COD 257 226 = some (.iload 13, 2, 0, 0, 0, 0) := by decide +kernel
theorem k_257_228 : COD 257 228 = some (.invokevirtual 223, 3, 95, 1, 422, 7) := by decide +kernel
theorem k_257_231 : COD 257 231 = some (.istore 16, 2, 0, 0, 0, 0) := by decide +kernel
theorem k_257_233 : COD 257 233 = some (.iload 15, 2, 0, 0, 0, 0) := by decide +kernel
theorem k_257_235 : COD 257 235 = some (.iload 16, 2, 0, 0, 0, 0) := by decide +kernel
theorem k_257_237 : COD 257 237 = some (.if_icmp .ne 42, 3, 279, 0, 0, 0) := by decide +kernel
theorem k_257_240 : COD 257 240 = some (.iload 14, 2, 0, 0, 0, 0) := by decide +kernel
theorem k_257_242 : COD 257 242 = some (.ifCond .ne 35, 3, 277, 0, 0, 0) := by decide +kernel
theorem k_257_245 : COD 257 245 = some (.aload_n 1, 1, 0, 0, 0, 0) := by decide +kernel
theorem k_257_246 : COD 257 246 = some (.iload 13, 2, 0, 0, 0, 0) := by decide +kernel
theorem k_257_248 : COD 257 248 = some (.invokevirtual 206, 3, 96, 1, 426, 7) := by decide +kernel
theorem k_257_251 : COD 257 251 = some (.aload_n 1, 1, 0, 0, 0, 0) := by decide +kernel
theorem k_257_252 : COD 257 252 = some (.iload 13, 2, 0, 0, 0, 0) := by decide +kernel
theorem k_257_254 : COD 257 254 = some (.invokevirtual 226, 3, 97, 1, 430, 7) := by decide +kernel
theorem k_257_257 : COD 257 257 = some (.i2l, 1, 0, 0, 0, 0) := by decide +kernel
theorem k_257_258 : COD 257 258 = some (.lcmp, 1, 0, 0, 0, 0) := by decide +kernel
theorem k_257_259 : COD 257 259 = some (.ifCond .ne 18, 3, 277, 0, 0, 0) := by decide +kernel
theorem k_257_262 : COD 257 262 = some (.aload_n 1, 1, 0, 0, 0, 0) := by decide +kernel
theorem k_257_263 : COD 257 263 = some (.iload 13, 2, 0, 0, 0, 0) := by decide +kernel
theorem k_257_265 : COD 257 265 = some (.invokevirtual 226, 3, 97, 1, 430, 7) := by decide +kernel
theorem k_257_268 : COD 257 268 = some (.aload_n 1, 1, 0, 0, 0, 0) := by decide +kernel
theorem k_257_269 : COD 257 269 = some (.iload 13, 2, 0, 0, 0, 0) := by decide +kernel
theorem k_257_271 : COD 257 271 = some (.invokevirtual 229, 3, 98, 1, 434, 7) := by decide +kernel
theorem k_257_274 : COD 257 274 = some (.if_icmp .eq 251, 3, 525, 0, 0, 0) := by decide +kernel
theorem k_257_277 : COD 257 277 = some (.iconst 0, 1, 0, 0, 0, 0) := by decide +kernel
theorem k_257_278 : COD 257 278 = some (.ireturn, 1, 0, 0, 0, 1) := by decide +kernel
theorem k_257_279 : COD 257 279 = some (.aload_n 1, 1, 0, 0, 0, 0) := by decide +kernel
theorem k_257_280 : COD 257 280 = some (.iconst 2, 1, 0, 0, 0, 0) := by decide +kernel
theorem k_257_281 : COD 257 281 = some (.iload 13, 2, 0, 0, 0, 0) := by decide +kernel
theorem k_257_283 : COD 257 283 = some (.imul, 1, 0, 0, 0, 0) := by decide +kernel
theorem k_257_284 : COD 257 284 = some (.invokevirtual 220, 3, 94, 1, 346, 7) := by decide +kernel
theorem k_257_287 : COD 257 287 = some (.iload 15, 2, 0, 0, 0, 0) := by decide +kernel
theorem k_257_289 : COD 257 289 = some (.if_icmp .ne 41, 3, 330, 0, 0, 0) := by decide +kernel
theorem k_257_292 : COD 257 292 = some (.aload_n 1, 1, 0, 0, 0, 0) := by decide +kernel
theorem k_257_293 : COD 257 293 = some (.iconst 2, 1, 0, 0, 0, 0) := by decide +kernel
theorem k_257_294 : COD 257 294 = some (.iload 13, 2, 0, 0, 0, 0) := by decide +kernel
theorem k_257_296 : COD 257 296 = some (.imul, 1, 0, 0, 0, 0) := by decide +kernel
theorem k_257_297 : COD 257 297 = some (.iconst 1, 1, 0, 0, 0, 0) := by decide +kernel
theorem k_257_298 : COD 257 298 = some (.iadd, 1, 0, 0, 0, 0) := by decide +kernel
theorem k_257_299 : COD 257 299 = some (.invokevirtual 223, 3, 95, 1, 422, 7) := by decide +kernel
theorem k_257_302 : COD 257 302 = some (.iload 16, 2, 0, 0, 0, 0) := by decide +kernel
theorem k_257_304 : COD 257 304 = some (.if_icmp .ne 26, 3, 330, 0, 0, 0) := by decide +kernel
theorem k_257_307 : COD 257 307 = some (.aload_n 1, 1, 0, 0, 0, 0) := by decide +kernel
theorem k_257_308 : COD 257 308 = some (.iconst 2, 1, 0, 0, 0, 0) := by decide +kernel
theorem k_257_309 : COD 257 309 = some (.iload 13, 2, 0, 0, 0, 0) := by decide +kernel
theorem k_257_311 : COD 257 311 = some (.imul, 1, 0, 0, 0, 0) := by decide +kernel
theorem k_257_312 : COD 257 312 = some (.iconst 1, 1, 0, 0, 0, 0) := by decide +kernel
theorem k_257_313 : COD 257 313 = some (.iadd, 1, 0, 0, 0, 0) := by decide +kernel
theorem k_257_314 : COD 257 314 = some (.invokevirtual 220, 3, 94, 1, 346, 7) := by decide +kernel
theorem k_257_317 : COD 257 317 = some (.aload_n 1, 1, 0, 0, 0, 0) := by decide +kernel
theorem k_257_318 : COD 257 318 = some (.iconst 2, 1, 0, 0, 0, 0) := by decide +kernel
theorem k_257_319 : COD 257 319 = some (.iload 13, 2, 0, 0, 0, 0) := by decide +kernel
theorem k_257_321 : COD 257 321 = some (.imul, 1, 0, 0, 0, 0) := by decide +kernel
theorem k_257_322 : COD 257 322 = some (.invokevirtual 223, 3, 95, 1, 422, 7) := by decide +kernel
theorem k_257_325 : COD 257 325 = some (.iconst 1, 1, 0, 0, 0, 0) := by decide +kernel
theorem k_257_326 : COD 257 326 = some (.iadd, 1, 0, 0, 0, 0) := by decide +kernel
theorem k_257_327 : COD 257 327 = some (.if_icmp .eq 5, 3, 332, 0, 0, 0) := by decide +kernel
theorem k_257_330 : COD 257 330 = some (.iconst 0, 1, 0, 0, 0, 0) := by decide +kernel
theorem k_257_331 : COD 257 331 = some (.ireturn, 1, 0, 0, 0, 1) := by decide +kernel
theorem k_257_332 : COD 257 332 = some (.iload 14, 2, 0, 0, 0, 0) := by decide +kernel
theorem k_257_334 : COD 257 334 = some (.ifCond .ne 94, 3, 428, 0, 0, 0) := by decide +kernel
theorem k_257_337 : COD 257 337 = some (.aload_n 1, 1, 0, 0, 0, 0) := by decide +kernel
theorem k_257_338 : COD 257 338 = some (.iload 13, 2, 0, 0, 0, 0) := by decide +kernel
theorem k_257_340 : COD 257 340 = some (.invokevirtual 206, 3, 96, 1, 426, 7) := by decide +kernel
theorem k_257_343 : COD 257 343 = some (.aload_n 1, 1, 0, 0, 0, 0) := by decide +kernel
theorem k_257_344 : COD 257 344 = some (.iconst 2, 1, 0, 0, 0, 0) := by decide +kernel
theorem k_257_345 : COD 257 345 = some (.iload 13, 2, 0, 0, 0, 0) := by decide +kernel
theorem k_257_347 : COD 257 347 = some (.imul, 1, 0, 0, 0, 0) := by decide +kernel
theorem k_257_348 : COD 257 348 = some (.invokevirtual 206, 3, 96, 1, 426, 7) := by decide +kernel
theorem k_257_351 : COD 257 351 = some (.aload_n 1, 1, 0, 0, 0, 0) := by decide +kernel
theorem k_257_352 : COD 257 352 = some (.iconst 2, 1, 0, 0, 0, 0) := by decide +kernel
theorem k_257_353 : COD 257 353 = some (.iload 13, 2, 0, 0, 0, 0) := by decide +kernel
theorem k_257_355 : COD 257 355 = some (.imul, 1, 0, 0, 0, 0) := by decide +kernel
theorem k_257_356 : COD 257 356 = some (.iconst 1, 1, 0, 0, 0, 0) := by decide +kernel
theorem k_257_357 : COD 257 357 = some (.iadd, 1, 0, 0, 0, 0) := by decide +kernel
theorem k_257_358 : COD 257 358 = some (.invokevirtual 206, 3, 96, 1, 426, 7) := by decide +kernel
theorem k_257_361 : COD 257 361 = some (.ladd, 1, 0, 0, 0, 0) := by decide +kernel
theorem k_257_362 : COD 257 362 = some (.lcmp, 1, 0, 0, 0, 0) := by decide +kernel
theorem k_257_363 : COD 257 363 = some (.ifCond .ne 63, 3, 426, 0, 0, 0) := by decide +kernel
theorem k_257_366 : COD 257 366 = some (.aload_n 1, 1, 0, 0, 0, 0) := by decide +kernel
theorem k_257_367 : COD 257 367 = some (.iload 13, 2, 0, 0, 0, 0) := by decide +kernel
theorem k_257_369 : COD 257 369 = some (.invokevirtual 226, 3, 97, 1, 430, 7) := by decide +kernel
theorem k_257_372 : COD 257 372 = some (.aload_n 1, 1, 0, 0, 0, 0) := by decide +kernel
theorem k_257_373 : COD 257 373 = some (.iconst 2, 1, 0, 0, 0, 0) := by decide +kernel
theorem k_257_374 : COD 257 374 = some (.iload 13, 2, 0, 0, 0, 0) := by decide +kernel
theorem k_257_376 : COD 257 376 = some (.imul, 1, 0, 0, 0, 0) := by decide +kernel
theorem k_257_377 : COD 257 377 = some (.invokevirtual 226, 3, 97, 1, 430, 7) := by decide +kernel
theorem k_257_380 : COD 257 380 = some (.aload_n 1, 1, 0, 0, 0, 0) := by decide +kernel
theorem k_257_381 : COD 257 381 = some (.iconst 2, 1, 0, 0, 0, 0) := by decide +kernel
theorem k_257_382 : COD 257 382 = some (.iload 13, 2, 0, 0, 0, 0) := by decide +kernel
theorem k_257_384 : COD 257 384 = some (.imul, 1, 0, 0, 0, 0) := by decide +kernel
theorem k_257_385 : COD 257 385 = some (.iconst 1, 1, 0, 0, 0, 0) := by decide +kernel
theorem k_257_386 : COD 257 386 = some (.iadd, 1, 0, 0, 0, 0) := by decide +kernel
theorem k_257_387 : COD 257 387 = some (.invokevirtual 226, 3, 97, 1, 430, 7) := by decide +kernel
theorem k_257_390 : COD 257 390 = some (.invokestatic 122, 3, 225, 2, 1402, 0) := by decide +kernel
theorem k_257_393 : COD 257 393 = some (.if_icmp .ne 33, 3, 426, 0, 0, 0) := by decide +kernel
theorem k_257_396 : COD 257 396 = some (.aload_n 1, 1, 0, 0, 0, 0) := by decide +kernel
theorem k_257_397 : COD 257 397 = some (.iload 13, 2, 0, 0, 0, 0) := by decide +kernel
theorem k_257_399 : COD 257 399 = some (.invokevirtual 229, 3, 98, 1, 434, 7) := by decide +kernel
theorem k_257_402 : COD 257 402 = some (.aload_n 1, 1, 0, 0, 0, 0) := by decide +kernel
theorem k_257_403 : COD 257 403 = some (.iconst 2, 1, 0, 0, 0, 0) := by decide +kernel
theorem k_257_404 : COD 257 404 = some (.iload 13, 2, 0, 0, 0, 0) := by decide +kernel
theorem k_257_406 : COD 257 406 = some (.imul, 1, 0, 0, 0, 0) := by decide +kernel
theorem k_257_407 : COD 257 407 = some (.invokevirtual 229, 3, 98, 1, 434, 7) := by decide +kernel
theorem k_257_410 : COD 257 410 = some (.aload_n 1, 1, 0, 0, 0, 0) := by decide +kernel
theorem k_257_411 : COD 257 411 = some (.iconst 2, 1, 0, 0, 0, 0) := by decide +kernel
theorem k_257_412 : COD 257 412 = some (.iload 13, 2, 0, 0, 0, 0) := by decide +kernel
theorem k_257_414 : COD 257 414 = some (.imul, 1, 0, 0, 0, 0) := by decide +kernel
theorem k_257_415 : COD 257 415 = some (.iconst 1, 1, 0, 0, 0, 0) := by decide +kernel
theorem k_257_416 : COD 257 416 = some (.iadd, 1, 0, 0, 0, 0) := by decide +kernel
theorem k_257_417 : COD 257 417 = some (.invokevirtual 229, 3, 98, 1, 434, 7) := by decide +kernel
theorem k_257_420 : COD 257 420 = some (.invokestatic 117, 3, 226, 2, 1401, 0) := by decide +kernel
theorem k_257_423 : COD 257 423 = some (.if_icmp .eq 5, 3, 428, 0, 0, 0) := by decide +kernel
theorem k_257_426 : COD 257 426 = some (.iconst 0, 1, 0, 0, 0, 0) := by decide +kernel
theorem k_257_427 : COD 257 427 = some (.ireturn, 1, 0, 0, 0, 1) := by decide +kernel
theorem k_257_428 : COD 257 428 = some (.aload_n 1, 1, 0, 0, 0, 0) := by decide +kernel
theorem k_257_429 : COD 257 429 = some (.iload 13, 2, 0, 0, 0, 0) := by decide +kernel
theorem k_257_431 : COD 257 431 = some (.invokevirtual 213, 3, 100, 1, 442, 7) := by decide +kernel
theorem k_257_434 : COD 257 434 = some (.ifCond .eq 42, 3, 476, 0, 0, 0) := by decide +kernel
theorem k_257_437 : COD 257 437 = some (.aload_n 1, 1, 0, 0, 0, 0) := by decide +kernel
theorem k_257_438 : COD 257 438 = some (.iload 13, 2, 0, 0, 0, 0) := by decide +kernel
theorem k_257_440 : COD 257 440 = some (.invokevirtual 226, 3, 97, 1, 430, 7) := by decide +kernel
theorem k_257_443 : COD 257 443 = some (.aload_n 1, 1, 0, 0, 0, 0) := by decide +kernel
theorem k_257_444 : COD 257 444 = some (.iload 13, 2, 0, 0, 0, 0) := by decide +kernel
theorem k_257_446 : COD 257 446 = some (.invokevirtual 232, 3, 101, 1, 446, 7) := by decide +kernel
theorem k_257_449 : COD 257 449 = some (.aload_n 1, 1, 0, 0, 0, 0) := by decide +kernel
theorem k_257_450 : COD 257 450 = some (.iload 13, 2, 0, 0, 0, 0) := by decide +kernel
theorem k_257_452 : COD 257 452 = some (.invokevirtual 217, 3, 99, 1, 438, 7) := by decide +kernel
theorem k_257_455 : COD 257 455 = some (.iadd, 1, 0, 0, 0, 0) := by decide +kernel
theorem k_257_456 : COD 257 456 = some (.if_icmp .ne 18, 3, 474, 0, 0, 0) := by decide +kernel
theorem k_257_459 : COD 257 459 = some (.aload_n 1, 1, 0, 0, 0, 0) := by decide +kernel
theorem k_257_460 : COD 257 460 = some (.iload 13, 2, 0, 0, 0, 0) := by decide +kernel
theorem k_257_462 : COD 257 462 = some (.invokevirtual 229, 3, 98, 1, 434, 7) := by decide +kernel
theorem k_257_465 : COD 257 465 = some (.aload_n 1, 1, 0, 0, 0, 0) := by decide +kernel
theorem k_257_466 : COD 257 466 = some (.iload 13, 2, 0, 0, 0, 0) := by decide +kernel
theorem k_257_468 : COD 257 468 = some (.invokevirtual 226, 3, 97, 1, 430, 7) := by decide +kernel
theorem k_257_471 : COD 257 471 = some (.if_icmp .eq 5, 3, 476, 0, 0, 0) := by decide +kernel
theorem k_257_474 : COD 257 474 = some (.iconst 0, 1, 0, 0, 0, 0) := by decide +kernel
theorem k_257_475 : COD 257 475 = some (.ireturn, 1, 0, 0, 0, 1) := by decide +kernel
theorem k_257_476 : COD 257 476 = some (.aload_n 1, 1, 0, 0, 0, 0) := by decide +kernel
theorem k_257_477 : COD 257 477 = some (.iload 15, 2, 0, 0, 0, 0) := by decide +kernel
theorem k_257_479 : COD 257 479 = some (.invokevirtual 235, 3, 103, 1, 479, 7) := by decide +kernel
theorem k_257_482 : COD 257 482 = some (.iload 14, 2, 0, 0, 0, 0) := by decide +kernel
theorem k_257_484 : COD 257 484 = some (.ifCond .eq 7, 3, 491, 0, 0, 0) := by decide +kernel
theorem k_257_487 : COD 257 487 = some (.iconst 1, 1, 0, 0, 0, 0) := by decide +kernel
theorem k_257_488 : COD 257 488 = some (.goto 4, 3, 492, 0, 0, 0) := by decide +kernel
theorem k_257_491 : COD 257 491 = some (.iconst 0, 1, 0, 0, 0, 0) := by decide +kernel
theorem k_257_492 : COD 257 492 = some (.aload_n 1, 1, 0, 0, 0, 0) := by decide +kernel
theorem k_257_493 : COD 257 493 = some (.iconst 2, 1, 0, 0, 0, 0) := by decide +kernel
theorem k_257_494 : COD 257 494 = some (.iload 13, 2, 0, 0, 0, 0) := by decide +kernel
theorem k_257_496 : COD 257 496 = some (.imul, 1, 0, 0, 0, 0) := by decide +kernel
theorem k_257_497 : COD 257 497 = some (.invokestatic 238, 3, 186, 2, 1415, 0) := by decide +kernel
theorem k_257_500 : COD 257 500 = some (.iadd, 1, 0, 0, 0, 0) := by decide +kernel
theorem k_257_501 : COD 257 501 = some (.if_icmp .ne 24, 3, 525, 0, 0, 0) := by decide +kernel
theorem k_257_504 : COD 257 504 = some (.aload_n 1, 1, 0, 0, 0, 0) := by decide +kernel
theorem k_257_505 : COD 257 505 = some (.iload 13, 2, 0, 0, 0, 0) := by decide +kernel
theorem k_257_507 : COD 257 507 = some (.invokevirtual 206, 3, 96, 1, 426, 7) := by decide +kernel
theorem k_257_510 : COD 257 510 = some (.aload 9, 2, 0, 0, 0, 0) := by decide +kernel
theorem k_257_512 : COD 257 512 = some (.iload 15, 2, 0, 0, 0, 0) := by decide +kernel
theorem k_257_514 : COD 257 514 = some (.iload 16, 2, 0, 0, 0, 0) := by decide +kernel
theorem k_257_516 : COD 257 516 = some (.invokestatic 242, 3, 185, 3, 1412, 0) := by decide +kernel
theorem k_257_519 : COD 257 519 = some (.lcmp, 1, 0, 0, 0, 0) := by decide +kernel
theorem k_257_520 : COD 257 520 = some (.ifCond .eq 5, 3, 525, 0, 0, 0) := by decide +kernel
theorem k_257_523 : COD 257 523 = some (.iconst 0, 1, 0, 0, 0, 0) := by decide +kernel
theorem k_257_524 : COD 257 524 = some (.ireturn, 1, 0, 0, 0, 1) := by decide +kernel
theorem k_257_525 : COD 257 525 = some (.iinc 13 1, 3, 0, 0, 0, 0) := by decide +kernel
theorem k_257_528 : COD 257 528 = some (.goto (-371), 3, 157, 0, 0, 0) := by decide +kernel
theorem k_257_531 : COD 257 531 = some (.iload 12, 2, 0, 0, 0, 0) := by decide +kernel
theorem k_257_533 : COD 257 533 = some (.aload_n 1, 1, 0, 0, 0, 0) := by decide +kernel
theorem k_257_534 : COD 257 534 = some (.invokevirtual 245, 3, 93, 0, 326, 7) := by decide +kernel
theorem k_257_537 : COD 257 537 = some (.if_icmp .eq 5, 3, 542, 0, 0, 0) := by decide +kernel
theorem k_257_540 : COD 257 540 = some (.iconst 0, 1, 0, 0, 0, 0) := by decide +kernel
theorem k_257_541 : COD 257 541 = some (.ireturn, 1, 0, 0, 0, 1) := by decide +kernel
theorem k_257_542 : COD 257 542 = some (.iconst 1, 1, 0, 0, 0, 0) := by decide +kernel
theorem k_257_543 : COD 257 543 = some (.iload 6, 2, 0, 0, 0, 0) := by decide +kernel
theorem k_257_545 : COD 257 545 = some (.iconst 4, 1, 0, 0, 0, 0) := by decide +kernel
theorem k_257_546 : COD 257 546 = some (.ishr, 1, 0, 0, 0, 0) := by decide +kernel
theorem k_257_547 : COD 257 547 = some (.iconst 3, 1, 0, 0, 0, 0) := by decide +kernel
theorem k_257_548 : COD 257 548 = some (.invokestatic 35, 3, 176, 2, 799, 0) := by decide +kernel
theorem k_257_551 : COD 257 551 = some (.iadd, 1, 0, 0, 0, 0) := by decide +kernel
theorem k_257_552 : COD 257 552 = some (.istore 13, 2, 0, 0, 0, 0) := by decide +kernel
theorem k_257_554 : COD 257 554 = some (.aload_n 1, 1, 0, 0, 0, 0) := by decide +kernel
theorem k_257_555 : COD 257 555 = some (.iload 13, 2, 0, 0, 0, 0) := by decide +kernel
theorem k_257_557 : COD 257 557 = some (.invokevirtual 248, 3, 113, 1, 656, 7) := by decide +kernel
theorem k_257_560 : COD 257 560 = some (.lstore 14, 2, 0, 0, 0, 0) := by decide +kernel
theorem k_257_562 : COD 257 562 = some (.aload_n 1, 1, 0, 0, 0, 0) := by decide +kernel
theorem k_257_563 : COD 257 563 = some (.iload 13, 2, 0, 0, 0, 0) := by decide +kernel
theorem k_257_565 : COD 257 565 = some (.invokevirtual 251, 3, 114, 1, 660, 7) := by decide +kernel
theorem k_257_568 : COD 257 568 = some (.istore 16, 2, 0, 0, 0, 0) := by decide +kernel
theorem k_257_570 : COD 257 570 = some (.iload 6, 2, 0, 0, 0, 0) := by decide +kernel
theorem k_257_572 : COD 257 572 = some (.iconst 5, 1, 0, 0, 0, 0) := by decide +kernel
theorem k_257_573 : COD 257 573 = some (.ishr, 1, 0, 0, 0, 0) := by decide +kernel
theorem k_257_574 : COD 257 574 = some (.iload 4, 2, 0, 0, 0, 0) := by decide +kernel
theorem k_257_576 : COD 257 576 = some (.invokestatic 35, 3, 176, 2, 799, 0) := by decide +kernel
theorem k_257_579 : COD 257 579 = some (.istore 17, 2, 0, 0, 0, 0) := by decide +kernel
theorem k_257_581 : COD 257 581 = some (.iload 6, 2, 0, 0, 0, 0) := by decide +kernel
theorem k_257_583 : COD 257 583 = some (.bipush 6, 2, 0, 0, 0, 0) := by decide +kernel
theorem k_257_585 : COD 257 585 = some (.ishr, 1, 0, 0, 0, 0) := by decide +kernel
theorem k_257_586 : COD 257 586 = some (.bipush 41, 2, 0, 0, 0, 0) := by decide +kernel
theorem k_257_588 : COD 257 588 = some (.invokestatic 35, 3, 176, 2, 799, 0) := by decide +kernel
theorem k_257_591 : COD 257 591 = some (.bipush 10, 2, 0, 0, 0, 0) := by decide +kernel
theorem k_257_593 : COD 257 593 = some (.isub, 1, 0, 0, 0, 0) := by decide +kernel
theorem k_257_594 : COD 257 594 = some (.istore 18, 2, 0, 0, 0, 0) := by decide +kernel
theorem k_257_596 : COD 257 596 = some (.aload_n 1, 1, 0, 0, 0, 0) := by decide +kernel
theorem k_257_597 : COD 257 597 = some (.iload 17, 2, 0, 0, 0, 0) := by decide +kernel
theorem k_257_599 : COD 257 599 = some (.iload 18, 2, 0, 0, 0, 0) := by decide +kernel
theorem k_257_601 : COD 257 601 = some (.invokevirtual 254, 3, 115, 2, 664, 7) := by decide +kernel
theorem k_257_604 : COD 257 604 = some (.istore 19, 2, 0, 0, 0, 0) := by decide +kernel
theorem k_257_606 : COD 257 606 = some (.iload 19, 2, 0, 0, 0, 0) := by decide +kernel
theorem k_257_608 : COD 257 608 = some (.ifCond .ne 7, 3, 615, 0, 0, 0) := by decide +kernel
theorem k_257_611 : COD 257 611 = some (.iconst 1, 1, 0, 0, 0, 0) := by decide +kernel
theorem k_257_612 : COD 257 612 = some (.goto 4, 3, 616, 0, 0, 0) := by decide +kernel
theorem k_257_615 : COD 257 615 = some (.iconst 0, 1, 0, 0, 0, 0) := by decide +kernel
theorem k_257_616 : COD 257 616 = some (.aload 9, 2, 0, 0, 0, 0) := by decide +kernel
theorem k_257_618 : COD 257 618 = some (.iload 17, 2, 0, 0, 0, 0) := by decide +kernel
theorem k_257_620 : COD 257 620 = some (.iaload, 1, 0, 0, 0, 0) := by decide +kernel
theorem k_257_621 : COD 257 621 = some (.iload 18, 2, 0, 0, 0, 0) := by decide +kernel
theorem k_257_623 : COD 257 623 = some (.if_icmp .lt 7, 3, 630, 0, 0, 0) := by decide +kernel
theorem k_257_626 : COD 257 626 = some (.iconst 1, 1, 0, 0, 0, 0) := by decide +kernel
theorem k_257_627 : COD 257 627 = some (.goto 4, 3, 631, 0, 0, 0) := by decide +kernel
theorem k_257_630 : COD 257 630 = some (.iconst 0, 1, 0, 0, 0, 0) := by decide +kernel
theorem k_257_631 : COD 257 631 = some (.if_icmp .ne 13, 3, 644, 0, 0, 0) := by decide +kernel
theorem k_257_634 : COD 257 634 = some (.aload_n 1, 1, 0, 0, 0, 0) := by decide +kernel
theorem k_257_635 : COD 257 635 = some (.invokevirtual 198, 3, 118, 0, 672, 7) := by decide +kernel
theorem k_257_638 : COD 257 638 = some (.lload 7, 2, 0, 0, 0, 0) := by decide +kernel
theorem k_257_640 : COD 257 640 = some (.lcmp, 1, 0, 0, 0, 0) := by decide +kernel
theorem k_257_641 : COD 257 641 = some (.ifCond .eq 5, 3, 646, 0, 0, 0) := by decide +kernel
theorem k_257_644 : COD 257 644 = some (.iconst 0, 1, 0, 0, 0, 0) := by decide +kernel
theorem k_257_645 : COD 257 645 = some (.ireturn, 1, 0, 0, 0, 1) := by decide +kernel
theorem k_257_646 : COD 257 646 = some (.iconst 0, 1, 0, 0, 0, 0) := by decide +kernel
theorem k_257_647 : COD 257 647 = some (.istore 20, 2, 0, 0, 0, 0) := by decide +kernel
theorem k_257_649 : COD 257 649 = some (.iload 20, 2, 0, 0, 0, 0) := by decide +kernel
theorem k_257_651 : COD 257 651 = some (.iload 13, 2, 0, 0, 0, 0) := by decide +kernel
theorem k_257_653 : COD 257 653 = some (.if_icmp .ge 85, 3, 738, 0, 0, 0) := by decide +kernel
theorem k_257_656 : COD 257 656 = some (.iload 19, 2, 0, 0, 0, 0) := by decide +kernel
theorem k_257_658 : COD 257 658 = some (.ifCond .lt 41, 3, 699, 0, 0, 0) := by decide +kernel
theorem k_257_661 : COD 257 661 = some (.iload 20, 2, 0, 0, 0, 0) := by decide +kernel
theorem k_257_663 : COD 257 663 = some (.iload 19, 2, 0, 0, 0, 0) := by decide +kernel
theorem k_257_665 : COD 257 665 = some (.if_icmp .gt 34, 3, 699, 0, 0, 0) := by decide +kernel
theorem k_257_668 : COD 257 668 = some (.aload_n 1, 1, 0, 0, 0, 0) := by decide +kernel
theorem k_257_669 : COD 257 669 = some (.iload 17, 2, 0, 0, 0, 0) := by decide +kernel
theorem k_257_671 : COD 257 671 = some (.invokevirtual 257, 3, 102, 1, 466, 7) := by decide +kernel
theorem k_257_674 : COD 257 674 = some (.iload 18, 2, 0, 0, 0, 0) := by decide +kernel
theorem k_257_676 : COD 257 676 = some (.if_icmp .lt 7, 3, 683, 0, 0, 0) := by decide +kernel
theorem k_257_679 : COD 257 679 = some (.iconst 1, 1, 0, 0, 0, 0) := by decide +kernel
theorem k_257_680 : COD 257 680 = some (.goto 4, 3, 684, 0, 0, 0) := by decide +kernel
theorem k_257_683 : COD 257 683 = some (.iconst 0, 1, 0, 0, 0, 0) := by decide +kernel
theorem k_257_684 : COD 257 684 = some (.iload 20, 2, 0, 0, 0, 0) := by decide +kernel
theorem k_257_686 : COD 257 686 = some (.iload 19, 2, 0, 0, 0, 0) := by decide +kernel
theorem k_257_688 : COD 257 688 = some (.if_icmp .ne 7, 3, 695, 0, 0, 0) := by decide +kernel
theorem k_257_691 : COD 257 691 = some (.iconst 1, 1, 0, 0, 0, 0) := by decide +kernel
theorem k_257_692 : COD 257 692 = some (.goto 4, 3, 696, 0, 0, 0) := by decide +kernel
theorem k_257_695 : COD 257 695 = some (.iconst 0, 1, 0, 0, 0, 0) := by decide +kernel
theorem k_257_696 : COD 257 696 = some (.if_icmp .ne 19, 3, 715, 0, 0, 0) := by decide +kernel
theorem k_257_699 : COD 257 699 = some (.iload 19, 2, 0, 0, 0, 0) := by decide +kernel
theorem k_257_701 : COD 257 701 = some (.ifCond .ge 16, 3, 717, 0, 0, 0) := by decide +kernel
theorem k_257_704 : COD 257 704 = some (.aload_n 1, 1, 0, 0, 0, 0) := by decide +kernel
theorem k_257_705 : COD 257 705 = some (.iload 17, 2, 0, 0, 0, 0) := by decide +kernel
theorem k_257_707 : COD 257 707 = some (.invokevirtual 257, 3, 102, 1, 466, 7) := by decide +kernel
theorem k_257_710 : COD 257 710 = some (.iload 18, 2, 0, 0, 0, 0) := by decide +kernel
theorem k_257_712 : COD 257 712 = some (.if_icmp .lt 5, 3, 717, 0, 0, 0) := by decide +kernel
theorem k_257_715 : COD 257 715 = some (.iconst 0, 1, 0, 0, 0, 0) := by decide +kernel
theorem k_257_716 : COD 257 716 = some (.ireturn, 1, 0, 0, 0, 1) := by decide +kernel
theorem k_257_717 : COD 257 717 = some (.aload_n 1, 1, 0, 0, 0, 0) := by decide +kernel
theorem k_257_718 : COD 257 718 = some (.iconst 1, 1, 0, 0, 0, 0) := by decide +kernel
theorem k_257_719 : COD 257 719 = some (.invokevirtual 172, 3, 112, 1, 601, 7) := by decide +kernel
theorem k_257_722 : COD 257 722 = some (.aload_n 3, 1, 0, 0, 0, 0) := by decide +kernel
theorem k_257_723 : COD 257 723 = some (.iconst 1, 1, 0, 0, 0, 0) := by decide +kernel
theorem k_257_724 : COD 257 724 = some (.invokevirtual 175, 3, 137, 1, 737, 9) := by decide +kernel
theorem k_257_727 : COD 257 727 = some (.if_icmp .eq 5, 3, 732, 0, 0, 0) := by decide +kernel
theorem k_257_730 : COD 257 730 = some (.iconst 0, 1, 0, 0, 0, 0) := by decide +kernel
theorem k_257_731 : COD 257 731 = some (.ireturn, 1, 0, 0, 0, 1) := by decide +kernel
theorem k_257_732 : COD 257 732 = some (.iinc 20 1, 3, 0, 0, 0, 0) := by decide +kernel
theorem k_257_735 : COD 257 735 = some (.goto (-86), 3, 649, 0, 0, 0) := by decide +kernel
theorem k_257_738 : COD 257 738 = some (.aload_n 1, 1, 0, 0, 0, 0) := by decide +kernel
theorem k_257_739 : COD 257 739 = some (.iconst 1, 1, 0, 0, 0, 0) := by decide +kernel
theorem k_257_740 : COD 257 740 = some (.invokevirtual 206, 3, 96, 1, 426, 7) := by decide +kernel
theorem k_257_743 : COD 257 743 = some (.lload 14, 2, 0, 0, 0, 0) := by decide +kernel
theorem k_257_745 : COD 257 745 = some (.lcmp, 1, 0, 0, 0, 0) := by decide +kernel
theorem k_257_746 : COD 257 746 = some (.ifCond .ne 12, 3, 758, 0, 0, 0) := by decide +kernel
theorem k_257_749 : COD 257 749 = some (.aload_n 1, 1, 0, 0, 0, 0) := by decide +kernel
theorem k_257_750 : COD 257 750 = some (.invokevirtual 245, 3, 93, 0, 326, 7) := by decide +kernel
theorem k_257_753 : COD 257 753 = some (.iload 16, 2, 0, 0, 0, 0) := by decide +kernel
theorem k_257_755 : COD 257 755 = some (.if_icmp .eq 5, 3, 760, 0, 0, 0) := by decide +kernel
theorem k_257_758 : COD 257 758 = some (.iconst 0, 1, 0, 0, 0, 0) := by decide +kernel
theorem k_257_759 : COD 257 759 = some (.ireturn, 1, 0, 0, 0, 1) := by decide +kernel
theorem k_257_760 : COD 257 760 = some (.aload_n 1, 1, 0, 0, 0, 0) := by decide +kernel
theorem k_257_761 : COD 257 761 = some (.invokestatic 202, 3, 183, 1, 1406, 0) := by decide +kernel
theorem k_257_764 : COD 257 764 = some (.astore 9, 2, 0, 0, 0, 0) := by decide +kernel
theorem k_257_766 : COD 257 766 = some (.iload 6, 2, 0, 0, 0, 0) := by decide +kernel
theorem k_257_768 : COD 257 768 = some (.iconst 3, 1, 0, 0, 0, 0) := by decide +kernel
theorem k_257_769 : COD 257 769 = some (.ishr, 1, 0, 0, 0, 0) := by decide +kernel
theorem k_257_770 : COD 257 770 = some (.iload 4, 2, 0, 0, 0, 0) := by decide +kernel
theorem k_257_772 : COD 257 772 = some (.invokestatic 35, 3, 176, 2, 799, 0) := by decide +kernel
theorem k_257_775 : COD 257 775 = some (.istore 20, 2, 0, 0, 0, 0) := by decide +kernel
theorem k_257_777 : COD 257 777 = some (.iload 6, 2, 0, 0, 0, 0) := by decide +kernel
theorem k_257_779 : COD 257 779 = some (.bipush 7, 2, 0, 0, 0, 0) := by decide +kernel
theorem k_257_781 : COD 257 781 = some (.ishr, 1, 0, 0, 0, 0) := by decide +kernel
theorem k_257_782 : COD 257 782 = some (.iload 4, 2, 0, 0, 0, 0) := by decide +kernel
theorem k_257_784 : COD 257 784 = some (.invokestatic 35, 3, 176, 2, 799, 0) := by decide +kernel
theorem k_257_787 : COD 257 787 = some (.istore 21, 2, 0, 0, 0, 0) := by decide +kernel
theorem k_257_789 : COD 257 789 = some (.iload 20, 2, 0, 0, 0, 0) := by decide +kernel
theorem k_257_791 : COD 257 791 = some (.iload 21, 2, 0, 0, 0, 0) := by decide +kernel
theorem k_257_793 : COD 257 793 = some (.invokestatic 117, 3, 226, 2, 1401, 0) := by decide +kernel
theorem k_257_796 : COD 257 796 = some (.istore 22, 2, 0, 0, 0, 0) := by decide +kernel
theorem k_257_798 : COD 257 798 = some (.iload 20, 2, 0, 0, 0, 0) := by decide +kernel
theorem k_257_800 : COD 257 800 = some (.iload 21, 2, 0, 0, 0, 0) := by decide +kernel
theorem k_257_802 : COD 257 802 = some (.invokestatic 122, 3, 225, 2, 1402, 0) := by decide +kernel
theorem k_257_805 : COD 257 805 = some (.istore 23, 2, 0, 0, 0, 0) := by decide +kernel
theorem k_257_807 : COD 257 807 = some (.aload_n 1, 1, 0, 0, 0, 0) := by decide +kernel
theorem k_257_808 : COD 257 808 = some (.invokevirtual 260, 3, 92, 0, 322, 7) := by decide +kernel
theorem k_257_811 : COD 257 811 = some (.aload_n 1, 1, 0, 0, 0, 0) := by decide +kernel
theorem k_257_812 : COD 257 812 = some (.iload 22, 2, 0, 0, 0, 0) := by decide +kernel
theorem k_257_814 : COD 257 814 = some (.iload 23, 2, 0, 0, 0, 0) := by decide +kernel
theorem k_257_816 : COD 257 816 = some (.invokevirtual 262, 3, 104, 2, 491, 7) := by decide +kernel
theorem k_257_819 : COD 257 819 = some (.iadd, 1, 0, 0, 0, 0) := by decide +kernel
theorem k_257_820 : COD 257 820 = some (.istore 24, 2, 0, 0, 0, 0) := by decide +kernel
theorem k_257_822 : COD 257 822 = some (.aload_n 1, 1, 0, 0, 0, 0) := by decide +kernel
theorem k_257_823 : COD 257 823 = some (.iload 22, 2, 0, 0, 0, 0) := by decide +kernel
theorem k_257_825 : COD 257 825 = some (.iload 23, 2, 0, 0, 0, 0) := by decide +kernel
theorem k_257_827 : COD 257 827 = some (.invokevirtual 143, 3, 105, 2, 546, 7) := by decide +kernel
theorem k_257_830 : COD 257 830 = some (.aload 9, 2, 0, 0, 0, 0) := by decide +kernel
theorem k_257_832 : COD 257 832 = some (.iload 22, 2, 0, 0, 0, 0) := by decide +kernel
theorem k_257_834 : COD 257 834 = some (.iload 23, 2, 0, 0, 0, 0) := by decide +kernel
theorem k_257_836 : COD 257 836 = some (.invokestatic 242, 3, 185, 3, 1412, 0) := by decide +kernel
theorem k_257_839 : COD 257 839 = some (.lcmp, 1, 0, 0, 0, 0) := by decide +kernel
theorem k_257_840 : COD 257 840 = some (.ifCond .ne 12, 3, 852, 0, 0, 0) := by decide +kernel
theorem k_257_843 : COD 257 843 = some (.aload_n 1, 1, 0, 0, 0, 0) := by decide +kernel
theorem k_257_844 : COD 257 844 = some (.invokevirtual 260, 3, 92, 0, 322, 7) := by decide +kernel
theorem k_257_847 : COD 257 847 = some (.iload 24, 2, 0, 0, 0, 0) := by decide +kernel
theorem k_257_849 : COD 257 849 = some (.if_icmp .eq 5, 3, 854, 0, 0, 0) := by decide +kernel
theorem k_257_852 : COD 257 852 = some (.iconst 0, 1, 0, 0, 0, 0) := by decide +kernel
theorem k_257_853 : COD 257 853 = some (.ireturn, 1, 0, 0, 0, 1) := by decide +kernel
theorem k_257_854 : COD 257 854 = some (.aload_n 3, 1, 0, 0, 0, 0) := by decide +kernel
theorem k_257_855 : COD 257 855 = some (.iconst 1, 1, 0, 0, 0, 0) := by decide +kernel
theorem k_257_856 : COD 257 856 = some (.iload 22, 2, 0, 0, 0, 0) := by decide +kernel
theorem k_257_858 : COD 257 858 = some (.iload 23, 2, 0, 0, 0, 0) := by decide +kernel
theorem k_257_860 : COD 257 860 = some (.iconst 2, 1, 0, 0, 0, 0) := by decide +kernel
theorem k_257_861 : COD 257 861 = some (.iconst 0, 1, 0, 0, 0, 0) := by decide +kernel
theorem k_257_862 : COD 257 862 = some (.invokevirtual 129, 3, 135, 5, 702, 9) := by decide +kernel
theorem k_257_865 : COD 257 865 = some (.pop, 1, 0, 0, 0, 0) := by decide +kernel
theorem k_257_866 : COD 257 866 = some (.aload 9, 2, 0, 0, 0, 0) := by decide +kernel
theorem k_257_868 : COD 257 868 = some (.iload 22, 2, 0, 0, 0, 0) := by decide +kernel
theorem k_257_870 : COD 257 870 = some (.iaload, 1, 0, 0, 0, 0) := by decide +kernel
theorem k_257_871 : COD 257 871 = some (.istore 25, 2, 0, 0, 0, 0) := by decide +kernel
theorem k_257_873 : COD 257 873 = some (.aload 9, 2, 0, 0, 0, 0) := by decide +kernel
theorem k_257_875 : COD 257 875 = some (.iload 22, 2, 0, 0, 0, 0) := by decide +kernel
theorem k_257_877 : COD 257 877 = some (.iaload, 1, 0, 0, 0, 0) := by decide +kernel
theorem k_257_878 : COD 257 878 = some (.istore 26, 2, 0, 0, 0, 0) := by decide +kernel
theorem k_257_880 : COD 257 880 = some (.iload 22, 2, 0, 0, 0, 0) := by decide +kernel
theorem k_257_882 : COD 257 882 = some (.istore 27, 2, 0, 0, 0, 0) := by decide +kernel
theorem k_257_884 : COD 257 884 = some (.iload 27, 2, 0, 0, 0, 0) := by decide +kernel
theorem k_257_886 : COD 257 886 = some (.iload 23, 2, 0, 0, 0, 0) := by decide +kernel
theorem k_257_888 : COD 257 888 = some (.if_icmp .gt 33, 3, 921, 0, 0, 0) := by decide +kernel
theorem k_257_891 : COD 257 891 = some (.iload 25, 2, 0, 0, 0, 0) := by decide +kernel
theorem k_257_893 : COD 257 893 = some (.aload 9, 2, 0, 0, 0, 0) := by decide +kernel
theorem k_257_895 : COD 257 895 = some (.iload 27, 2, 0, 0, 0, 0) := by decide +kernel
theorem k_257_897 : COD 257 897 = some (.iaload, 1, 0, 0, 0, 0) := by decide +kernel
theorem k_257_898 : COD 257 898 = some (.invokestatic 122, 3, 225, 2, 1402, 0) := by decide +kernel
theorem k_257_901 : COD 257 901 = some (.istore 25, 2, 0, 0, 0, 0) := by decide +kernel
theorem k_257_903 : COD 257 903 = some (.iload 26, 2, 0, 0, 0, 0) := by decide +kernel
theorem k_257_905 : COD 257 905 = some (.aload 9, 2, 0, 0, 0, 0) := by decide +kernel
theorem k_257_907 : COD 257 907 = some (.iload 27, 2, 0, 0, 0, 0) := by decide +kernel
theorem k_257_909 : COD 257 909 = some (.iaload, 1, 0, 0, 0, 0) := by decide +kernel
theorem k_257_910 : COD 257 910 = some (.invokestatic 117, 3, 226, 2, 1401, 0) := by decide +kernel
theorem k_257_913 : COD 257 913 = some (.istore 26, 2, 0, 0, 0, 0) := by decide +kernel
theorem k_257_915 : COD 257 915 = some (.iinc 27 1, 3, 0, 0, 0, 0) := by decide +kernel
theorem k_257_918 : COD 257 918 = some (.goto (-34), 3, 884, 0, 0, 0) := by decide +kernel
theorem k_257_921 : COD 257 921 = some (.aload_n 1, 1, 0, 0, 0, 0) := by decide +kernel
theorem k_257_922 : COD 257 922 = some (.iload 22, 2, 0, 0, 0, 0) := by decide +kernel
theorem k_257_924 : COD 257 924 = some (.iload 23, 2, 0, 0, 0, 0) := by decide +kernel
theorem k_257_926 : COD 257 926 = some (.invokevirtual 147, 3, 106, 2, 550, 7) := by decide +kernel
theorem k_257_929 : COD 257 929 = some (.iload 25, 2, 0, 0, 0, 0) := by decide +kernel
theorem k_257_931 : COD 257 931 = some (.if_icmp .ne 48, 3, 979, 0, 0, 0) := by decide +kernel
theorem k_257_934 : COD 257 934 = some (.aload_n 1, 1, 0, 0, 0, 0) := by decide +kernel
theorem k_257_935 : COD 257 935 = some (.iload 22, 2, 0, 0, 0, 0) := by decide +kernel
theorem k_257_937 : COD 257 937 = some (.iload 23, 2, 0, 0, 0, 0) := by decide +kernel
theorem k_257_939 : COD 257 939 = some (.invokevirtual 150, 3, 107, 2, 554, 7) := by decide +kernel
theorem k_257_942 : COD 257 942 = some (.iload 26, 2, 0, 0, 0, 0) := by decide +kernel
theorem k_257_944 : COD 257 944 = some (.if_icmp .ne 35, 3, 979, 0, 0, 0) := by decide +kernel
theorem k_257_947 : COD 257 947 = some (.aload_n 1, 1, 0, 0, 0, 0) := by decide +kernel
theorem k_257_948 : COD 257 948 = some (.invokevirtual 260, 3, 92, 0, 322, 7) := by decide +kernel
theorem k_257_951 : COD 257 951 = some (.iload 24, 2, 0, 0, 0, 0) := by decide +kernel
theorem k_257_953 : COD 257 953 = some (.if_icmp .ne 26, 3, 979, 0, 0, 0) := by decide +kernel
theorem k_257_956 : COD 257 956 = some (.aload_n 1, 1, 0, 0, 0, 0) := by decide +kernel
theorem k_257_957 : COD 257 957 = some (.iload 22, 2, 0, 0, 0, 0) := by decide +kernel
theorem k_257_959 : COD 257 959 = some (.iload 23, 2, 0, 0, 0, 0) := by decide +kernel
theorem k_257_961 : COD 257 961 = some (.invokevirtual 262, 3, 104, 2, 491, 7) := by decide +kernel
theorem k_257_964 : COD 257 964 = some (.ifCond .ne 15, 3, 979, 0, 0, 0) := by decide +kernel
theorem k_257_967 : COD 257 967 = some (.aload 9, 2, 0, 0, 0, 0) := by decide +kernel
theorem k_257_969 : COD 257 969 = some (.aload_n 1, 1, 0, 0, 0, 0) := by decide +kernel
theorem k_257_970 : COD 257 970 = some (.invokestatic 202, 3, 183, 1, 1406, 0) := by decide +kernel
theorem k_257_973 : COD 257 973 = some (.invokestatic 265, 3, 184, 2, 1409, 0) := by decide +kernel
theorem k_257_976 : COD 257 976 = some (.ifCond .ne 5, 3, 981, 0, 0, 0) := by decide +kernel
theorem k_257_979 : COD 257 979 = some (.iconst 0, 1, 0, 0, 0, 0) := by decide +kernel
theorem k_257_980 : COD 257 980 = some (.ireturn, 1, 0, 0, 0, 1) := by decide +kernel
theorem k_257_981 : COD 257 981 = some (.iconst (-1), 1, 0, 0, 0, 0) := by decide +kernel
theorem k_257_982 : COD 257 982 = some (.istore 27, 2, 0, 0, 0, 0) := by decide +kernel
theorem k_257_984 : COD 257 984 = some (.iload 4, 2, 0, 0, 0, 0) := by decide +kernel
theorem k_257_986 : COD 257 986 = some (.iconst 1, 1, 0, 0, 0, 0) := by decide +kernel
theorem k_257_987 : COD 257 987 = some (.isub, 1, 0, 0, 0, 0) := by decide +kernel
theorem k_257_988 : COD 257 988 = some (.istore 28, 2, 0, 0, 0, 0) := by decide +kernel
theorem k_257_990 : COD 257 990 = some (.iload 28, 2, 0, 0, 0, 0) := by decide +kernel
theorem k_257_992 : COD 257 992 = some (.ifCond .lt 23, 3, 1015, 0, 0, 0) := by decide +kernel
theorem k_257_995 : COD 257 995 = some (.aload 9, 2, 0, 0, 0, 0) := by decide +kernel
theorem k_257_997 : COD 257 997 = some (.iload 28, 2, 0, 0, 0, 0) := by decide +kernel
theorem k_257_999 : COD 257 999 = some (.iaload, 1, 0, 0, 0, 0) := by decide +kernel
theorem k_257_1000 : COD 257 1000 = some (.iload 18, 2, 0, 0, 0, 0) := by decide +kernel
theorem k_257_1002 : COD 257 1002 = some (.if_icmp .lt 7, 3, 1009, 0, 0, 0) := by decide +kernel
theorem k_257_1005 : COD 257 1005 = some (.iload 28, 2, 0, 0, 0, 0) := by decide +kernel
theorem k_257_1007 : COD 257 1007 = some (.istore 27, 2, 0, 0, 0, 0) := by decide +kernel
theorem k_257_1009 : COD 257 1009 = some (.iinc 28 (-1), 3, 0, 0, 0, 0) := by decide +kernel
theorem k_257_1012 : COD 257 1012 = some (.goto (-22), 3, 990, 0, 0, 0) := by decide +kernel
theorem k_257_1015 : COD 257 1015 = some (.aload_n 1, 1, 0, 0, 0, 0) := by decide +kernel
theorem k_257_1016 : COD 257 1016 = some (.iload 18, 2, 0, 0, 0, 0) := by decide +kernel
theorem k_257_1018 : COD 257 1018 = some (.invokevirtual 153, 3, 108, 1, 558, 7) := by decide +kernel
theorem k_257_1021 : COD 257 1021 = some (.iload 27, 2, 0, 0, 0, 0) := by decide +kernel
theorem k_257_1023 : COD 257 1023 = some (.if_icmp .ne 26, 3, 1049, 0, 0, 0) := by decide +kernel
theorem k_257_1026 : COD 257 1026 = some (.aload_n 3, 1, 0, 0, 0, 0) := by decide +kernel
theorem k_257_1027 : COD 257 1027 = some (.iload 18, 2, 0, 0, 0, 0) := by decide +kernel
theorem k_257_1029 : COD 257 1029 = some (.invokevirtual 156, 3, 136, 1, 724, 9) := by decide +kernel
theorem k_257_1032 : COD 257 1032 = some (.iload 27, 2, 0, 0, 0, 0) := by decide +kernel
theorem k_257_1034 : COD 257 1034 = some (.if_icmp .ne 15, 3, 1049, 0, 0, 0) := by decide +kernel
theorem k_257_1037 : COD 257 1037 = some (.aload 9, 2, 0, 0, 0, 0) := by decide +kernel
theorem k_257_1039 : COD 257 1039 = some (.aload_n 1, 1, 0, 0, 0, 0) := by decide +kernel
theorem k_257_1040 : COD 257 1040 = some (.invokestatic 202, 3, 183, 1, 1406, 0) := by decide +kernel
theorem k_257_1043 : COD 257 1043 = some (.invokestatic 265, 3, 184, 2, 1409, 0) := by decide +kernel
theorem k_257_1046 : COD 257 1046 = some (.ifCond .ne 5, 3, 1051, 0, 0, 0) := by decide +kernel
theorem k_257_1049 : COD 257 1049 = some (.iconst 0, 1, 0, 0, 0, 0) := by decide +kernel
theorem k_257_1050 : COD 257 1050 = some (.ireturn, 1, 0, 0, 0, 1) := by decide +kernel
theorem k_257_1051 : COD 257 1051 = some (.iload 6, 2, 0, 0, 0, 0) := by decide +kernel
theorem k_257_1053 : COD 257 1053 = some (.iconst 4, 1, 0, 0, 0, 0) := by decide +kernel
theorem k_257_1054 : COD 257 1054 = some (.ishr, 1, 0, 0, 0, 0) := by decide +kernel
theorem k_257_1055 : COD 257 1055 = some (.bipush 51, 2, 0, 0, 0, 0) := by decide +kernel
theorem k_257_1057 : COD 257 1057 = some (.invokestatic 35, 3, 176, 2, 799, 0) := by decide +kernel
theorem k_257_1060 : COD 257 1060 = some (.bipush 25, 2, 0, 0, 0, 0) := by decide +kernel
theorem k_257_1062 : COD 257 1062 = some (.isub, 1, 0, 0, 0, 0) := by decide +kernel
theorem k_257_1063 : COD 257 1063 = some (.istore 28, 2, 0, 0, 0, 0) := by decide +kernel
theorem k_257_1065 : COD 257 1065 = some (.iload 6, 2, 0, 0, 0, 0) := by decide +kernel
theorem k_257_1067 : COD 257 1067 = some (.iconst 2, 1, 0, 0, 0, 0) := by decide +kernel
theorem k_257_1068 : COD 257 1068 = some (.ishr, 1, 0, 0, 0, 0) := by decide +kernel
theorem k_257_1069 : COD 257 1069 = some (.iconst 2, 1, 0, 0, 0, 0) := by decide +kernel
theorem k_257_1070 : COD 257 1070 = some (.invokestatic 35, 3, 176, 2, 799, 0) := by decide +kernel
theorem k_257_1073 : COD 257 1073 = some (.ifCond .ne 7, 3, 1080, 0, 0, 0) := by decide +kernel
theorem k_257_1076 : COD 257 1076 = some (.iconst 1, 1, 0, 0, 0, 0) := by decide +kernel
theorem k_257_1077 : COD 257 1077 = some (.goto 4, 3, 1081, 0, 0, 0) := by decide +kernel
theorem k_257_1080 : COD 257 1080 = some (.iconst 0, 1, 0, 0, 0, 0) := by decide +kernel
theorem k_257_1081 : COD 257 1081 = some (.istore 29, 2, 0, 0, 0, 0) := by decide +kernel
theorem k_257_1083 : COD 257 1083 = some (.aload_n 3, 1, 0, 0, 0, 0) := by decide +kernel
theorem k_257_1084 : COD 257 1084 = some (.iconst 1, 1, 0, 0, 0, 0) := by decide +kernel
theorem k_257_1085 : COD 257 1085 = some (.iload 22, 2, 0, 0, 0, 0) := by decide +kernel
theorem k_257_1087 : COD 257 1087 = some (.iload 23, 2, 0, 0, 0, 0) := by decide +kernel
theorem k_257_1089 : COD 257 1089 = some (.iload 29, 2, 0, 0, 0, 0) := by decide +kernel
theorem k_257_1091 : COD 257 1091 = some (.ifCond .eq 7, 3, 1098, 0, 0, 0) := by decide +kernel
theorem k_257_1094 : COD 257 1094 = some (.iconst 0, 1, 0, 0, 0, 0) := by decide +kernel
theorem k_257_1095 : COD 257 1095 = some (.goto 4, 3, 1099, 0, 0, 0) := by decide +kernel
theorem k_257_1098 : COD 257 1098 = some (.iconst 1, 1, 0, 0, 0, 0) := by decide +kernel
theorem k_257_1099 : COD 257 1099 = some (.iload 28, 2, 0, 0, 0, 0) := by decide +kernel
theorem k_257_1101 : COD 257 1101 = some (.invokevirtual 129, 3, 135, 5, 702, 9) := by decide +kernel
theorem k_257_1104 : COD 257 1104 = some (.pop, 1, 0, 0, 0, 0) := by decide +kernel
theorem k_257_1105 : COD 257 1105 = some (.iload 29, 2, 0, 0, 0, 0) := by decide +kernel
theorem k_257_1107 : COD 257 1107 = some (.ifCond .eq 20, 3, 1127, 0, 0, 0) := by decide +kernel
theorem k_257_1110 : COD 257 1110 = some (.aload_n 1, 1, 0, 0, 0, 0) := by decide +kernel
theorem k_257_1111 : COD 257 1111 = some (.iload 22, 2, 0, 0, 0, 0) := by decide +kernel
theorem k_257_1113 : COD 257 1113 = some (.iload 23, 2, 0, 0, 0, 0) := by decide +kernel
theorem k_257_1115 : COD 257 1115 = some (.iload 28, 2, 0, 0, 0, 0) := by decide +kernel
theorem k_257_1117 : COD 257 1117 = some (.invokevirtual 125, 3, 110, 3, 574, 7) := by decide +kernel
theorem k_257_1120 : COD 257 1120 = some (.iconst 1, 1, 0, 0, 0, 0) := by decide +kernel
theorem k_257_1121 : COD 257 1121 = some (.if_icmp .ge 44, 3, 1165, 0, 0, 0) := by decide +kernel
theorem k_257_1124 : COD 257 1124 = some (.goto 39, 3, 1163, 0, 0, 0) := by decide +kernel
theorem k_257_1127 : COD 257 1127 = some (.aload_n 1, 1, 0, 0, 0, 0) := by decide +kernel
theorem k_257_1128 : COD 257 1128 = some (.iload 22, 2, 0, 0, 0, 0) := by decide +kernel
theorem k_257_1130 : COD 257 1130 = some (.iload 23, 2, 0, 0, 0, 0) := by decide +kernel
theorem k_257_1132 : COD 257 1132 = some (.iload 28, 2, 0, 0, 0, 0) := by decide +kernel
theorem k_257_1134 : COD 257 1134 = some (.invokevirtual 136, 3, 111, 3, 597, 7) := by decide +kernel
theorem k_257_1137 : COD 257 1137 = some (.iload 23, 2, 0, 0, 0, 0) := by decide +kernel
theorem k_257_1139 : COD 257 1139 = some (.iload 22, 2, 0, 0, 0, 0) := by decide +kernel
theorem k_257_1141 : COD 257 1141 = some (.isub, 1, 0, 0, 0, 0) := by decide +kernel
theorem k_257_1142 : COD 257 1142 = some (.iconst 1, 1, 0, 0, 0, 0) := by decide +kernel
theorem k_257_1143 : COD 257 1143 = some (.iadd, 1, 0, 0, 0, 0) := by decide +kernel
theorem k_257_1144 : COD 257 1144 = some (.i2l, 1, 0, 0, 0, 0) := by decide +kernel
theorem k_257_1145 : COD 257 1145 = some (.iload 28, 2, 0, 0, 0, 0) := by decide +kernel
theorem k_257_1147 : COD 257 1147 = some (.i2l, 1, 0, 0, 0, 0) := by decide +kernel
theorem k_257_1148 : COD 257 1148 = some (.lmul, 1, 0, 0, 0, 0) := by decide +kernel
theorem k_257_1149 : COD 257 1149 = some (.aload 9, 2, 0, 0, 0, 0) := by decide +kernel
theorem k_257_1151 : COD 257 1151 = some (.iload 22, 2, 0, 0, 0, 0) := by decide +kernel
theorem k_257_1153 : COD 257 1153 = some (.iload 23, 2, 0, 0, 0, 0) := by decide +kernel
theorem k_257_1155 : COD 257 1155 = some (.invokestatic 242, 3, 185, 3, 1412, 0) := by decide +kernel
theorem k_257_1158 : COD 257 1158 = some (.lsub, 1, 0, 0, 0, 0) := by decide +kernel
theorem k_257_1159 : COD 257 1159 = some (.lcmp, 1, 0, 0, 0, 0) := by decide +kernel
theorem k_257_1160 : COD 257 1160 = some (.ifCond .eq 5, 3, 1165, 0, 0, 0) := by decide +kernel
theorem k_257_1163 : COD 257 1163 = some (.iconst 0, 1, 0, 0, 0, 0) := by decide +kernel
theorem k_257_1164 : COD 257 1164 = some (.ireturn, 1, 0, 0, 0, 1) := by decide +kernel
theorem k_257_1165 : COD 257 1165 = some (.iconst 0, 1, 0, 0, 0, 0) := by decide +kernel
theorem k_257_1166 : COD 257 1166 = some (.istore 30, 2, 0, 0, 0, 0) := by decide +kernel
theorem k_257_1168 : COD 257 1168 = some (.iload 30, 2, 0, 0, 0, 0) := by decide +kernel
theorem k_257_1170 : COD 257 1170 = some (.iload 4, 2, 0, 0, 0, 0) := by decide +kernel
theorem k_257_1172 : COD 257 1172 = some (.if_icmp .ge 60, 3, 1232, 0, 0, 0) := by decide +kernel
theorem k_257_1175 : COD 257 1175 = some (.aload_n 1, 1, 0, 0, 0, 0) := by decide +kernel
theorem k_257_1176 : COD 257 1176 = some (.iload 30, 2, 0, 0, 0, 0) := by decide +kernel
theorem k_257_1178 : COD 257 1178 = some (.invokevirtual 257, 3, 102, 1, 466, 7) := by decide +kernel
theorem k_257_1181 : COD 257 1181 = some (.iload 30, 2, 0, 0, 0, 0) := by decide +kernel
theorem k_257_1183 : COD 257 1183 = some (.iload 22, 2, 0, 0, 0, 0) := by decide +kernel
theorem k_257_1185 : COD 257 1185 = some (.if_icmp .lt 10, 3, 1195, 0, 0, 0) := by decide +kernel
theorem k_257_1188 : COD 257 1188 = some (.iload 30, 2, 0, 0, 0, 0) := by decide +kernel
theorem k_257_1190 : COD 257 1190 = some (.iload 23, 2, 0, 0, 0, 0) := by decide +kernel
theorem k_257_1192 : COD 257 1192 = some (.if_icmp .le 11, 3, 1203, 0, 0, 0) := by decide +kernel
theorem k_257_1195 : COD 257 1195 = some (.aload 9, 2, 0, 0, 0, 0) := by decide +kernel
theorem k_257_1197 : COD 257 1197 = some (.iload 30, 2, 0, 0, 0, 0) := by decide +kernel
theorem k_257_1199 : COD 257 1199 = some (.iaload, 1, 0, 0, 0, 0) := by decide +kernel
theorem k_257_1200 : COD 257 1200 = some (.goto 21, 3, 1221, 0, 0, 0) := by decide +kernel
theorem k_257_1203 : COD 257 1203 = some (.iload 29, 2, 0, 0, 0, 0) := by decide +kernel
theorem k_257_1205 : COD 257 1205 = some (.ifCond .eq 14, 3, 1219, 0, 0, 0) := by decide +kernel
theorem k_257_1208 : COD 257 1208 = some (.aload 9, 2, 0, 0, 0, 0) := by decide +kernel
theorem k_257_1210 : COD 257 1210 = some (.iload 30, 2, 0, 0, 0, 0) := by decide +kernel
theorem k_257_1212 : COD 257 1212 = some (.iaload, 1, 0, 0, 0, 0) := by decide +kernel
theorem k_257_1213 : COD 257 1213 = some (.iload 28, 2, 0, 0, 0, 0) := by decide +kernel
theorem k_257_1215 : COD 257 1215 = some (.iadd, 1, 0, 0, 0, 0) := by decide +kernel
theorem k_257_1216 : COD 257 1216 = some (.goto 5, 3, 1221, 0, 0, 0) := by decide +kernel
theorem k_257_1219 : COD 257 1219 = some (.iload 28, 2, 0, 0, 0, 0) := by decide +kernel
theorem k_257_1221 : COD 257 1221 = some (.if_icmp .eq 5, 3, 1226, 0, 0, 0) := by decide +kernel
theorem k_257_1224 : COD 257 1224 = some (.iconst 0, 1, 0, 0, 0, 0) := by decide +kernel
theorem k_257_1225 : COD 257 1225 = some (.ireturn, 1, 0, 0, 0, 1) := by decide +kernel
theorem k_257_1226 : COD 257 1226 = some (.iinc 30 1, 3, 0, 0, 0, 0) := by decide +kernel
theorem k_257_1229 : COD 257 1229 = some (.goto (-61), 3, 1168, 0, 0, 0) := by decide +kernel
theorem k_257_1232 : COD 257 1232 = some (.iinc 5 1, 3, 0, 0, 0, 0) := by decide +kernel
theorem k_257_1235 : COD 257 1235 = some (.goto (-1191), 3, 44, 0, 0, 0) := by decide +kernel
theorem k_257_1238 : COD 257 1238 = some (.aload_n 1, 1, 0, 0, 0, 0) := by decide +kernel
theorem k_257_1239 : COD 257 1239 = some (.invokestatic 202, 3, 183, 1, 1406, 0) := by decide +kernel
theorem k_257_1242 : COD 257 1242 = some (.astore 5, 2, 0, 0, 0, 0) := by decide +kernel
theorem k_257_1244 : COD 257 1244 = some (.aload_n 0, 1, 0, 0, 0, 0) := by decide +kernel
theorem k_257_1245 : COD 257 1245 = some (.iconst 1, 1, 0, 0, 0, 0) := by decide +kernel
theorem k_257_1246 : COD 257 1246 = some (.invokestatic 66, 3, 177, 2, 803, 0) := by decide +kernel
theorem k_257_1249 : COD 257 1249 = some (.iconst 3, 1, 0, 0, 0, 0) := by decide +kernel
theorem k_257_1250 : COD 257 1250 = some (.invokestatic 35, 3, 176, 2, 799, 0) := by decide +kernel
theorem k_257_1253 : COD 257 1253 = some (.ifCond .le 9, 3, 1262, 0, 0, 0) := by decide +kernel
theorem k_257_1256 : COD 257 1256 = some (.aload_n 3, 1, 0, 0, 0, 0) := by decide +kernel
theorem k_257_1257 : COD 257 1257 = some (.aload_n 1, 1, 0, 0, 0, 0) := by decide +kernel
theorem k_257_1258 : COD 257 1258 = some (.invokevirtual 269, 3, 138, 1, 774, 9) := by decide +kernel
theorem k_257_1261 : COD 257 1261 = some (.ireturn, 1, 0, 0, 0, 1) := by decide +kernel
theorem k_257_1262 : COD 257 1262 = some (.aload_n 3, 1, 0, 0, 0, 0) := by decide +kernel
theorem k_257_1263 : COD 257 1263 = some (.aload_n 1, 1, 0, 0, 0, 0) := by decide +kernel
theorem k_257_1264 : COD 257 1264 = some (.invokevirtual 269, 3, 138, 1, 774, 9) := by decide +kernel
theorem k_257_1267 : COD 257 1267 = some (.ifCond .eq 33, 3, 1300, 0, 0, 0) := by decide +kernel
theorem k_257_1270 : COD 257 1270 = some (.aload_n 1, 1, 0, 0, 0, 0) := by decide +kernel
theorem k_257_1271 : COD 257 1271 = some (.invokevirtual 169, 3, 109, 0, 566, 7) := by decide +kernel
theorem k_257_1274 : COD 257 1274 = some (.ifCond .lt 26, 3, 1300, 0, 0, 0) := by decide +kernel
theorem k_257_1277 : COD 257 1277 = some (.aload_n 1, 1, 0, 0, 0, 0) := by decide +kernel
theorem k_257_1278 : COD 257 1278 = some (.invokevirtual 245, 3, 93, 0, 326, 7) := by decide +kernel
theorem k_257_1281 : COD 257 1281 = some (.ifCond .ne 19, 3, 1300, 0, 0, 0) := by decide +kernel
theorem k_257_1284 : COD 257 1284 = some (.aload 5, 2, 0, 0, 0, 0) := by decide +kernel
theorem k_257_1286 : COD 257 1286 = some (.aload_n 1, 1, 0, 0, 0, 0) := by decide +kernel
theorem k_257_1287 : COD 257 1287 = some (.invokestatic 202, 3, 183, 1, 1406, 0) := by decide +kernel
theorem k_257_1290 : COD 257 1290 = some (.invokestatic 265, 3, 184, 2, 1409, 0) := by decide +kernel
theorem k_257_1293 : COD 257 1293 = some (.ifCond .eq 7, 3, 1300, 0, 0, 0) := by decide +kernel
theorem k_257_1296 : COD 257 1296 = some (.iconst 1, 1, 0, 0, 0, 0) := by decide +kernel
theorem k_257_1297 : COD 257 1297 = some (.goto 4, 3, 1301, 0, 0, 0) := by decide +kernel
theorem k_257_1300 : COD 257 1300 = some (.iconst 0, 1, 0, 0, 0, 0) := by decide +kernel
theorem k_257_1301 : COD 257 1301 = some (.ireturn, 1, 0, 0, 0, 1) := by decide +kernel
