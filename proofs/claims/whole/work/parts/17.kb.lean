/-! code rows of the reference -/
theorem k_123_0 : COD 123 0 = some (.aload_n 0, 1, 0, 0, 0, 0) := by decide +kernel
theorem k_123_1 : COD 123 1 = some (.invokespecial 3, 3, 1000, 0, 1060, 0) := by decide +kernel
theorem k_123_4 : COD 123 4 = some (.aload_n 0, 1, 0, 0, 0, 0) := by decide +kernel
theorem k_123_5 : COD 123 5 = some (.bipush 16, 2, 0, 0, 0, 0) := by decide +kernel
theorem k_123_7 : COD 123 7 = some (.putfield 9, 3, 8, 0, 1061, 0) := by decide +kernel
theorem k_123_10 : COD 123 10 = some (.aload_n 0, 1, 0, 0, 0, 0) := by decide +kernel
theorem k_123_11 : COD 123 11 = some (.bipush 16, 2, 0, 0, 0, 0) := by decide +kernel
theorem k_123_13 : COD 123 13 = some (.newarray .int, 2, 0, 0, 0, 0) := by decide +kernel
theorem k_123_15 : COD 123 15 = some (.putfield 15, 3, 8, 2, 1064, 0) := by decide +kernel
theorem k_123_18 : COD 123 18 = some (.aload_n 0, 1, 0, 0, 0, 0) := by decide +kernel
theorem k_123_19 : COD 123 19 = some (.bipush 64, 2, 0, 0, 0, 0) := by decide +kernel
theorem k_123_21 : COD 123 21 = some (.newarray .int, 2, 0, 0, 0, 0) := by decide +kernel
theorem k_123_23 : COD 123 23 = some (.putfield 19, 3, 8, 3, 1066, 0) := by decide +kernel
theorem k_123_26 : COD 123 26 = some (.aload_n 0, 1, 0, 0, 0, 0) := by decide +kernel
theorem k_123_27 : COD 123 27 = some (.bipush 64, 2, 0, 0, 0, 0) := by decide +kernel
theorem k_123_29 : COD 123 29 = some (.newarray .int, 2, 0, 0, 0, 0) := by decide +kernel
theorem k_123_31 : COD 123 31 = some (.putfield 22, 3, 8, 4, 1068, 0) := by decide +kernel
theorem k_123_34 : COD 123 34 = some (.aload_n 0, 1, 0, 0, 0, 0) := by decide +kernel
theorem k_123_35 : COD 123 35 = some (.sipush 800, 3, 0, 0, 0, 0) := by decide +kernel
theorem k_123_38 : COD 123 38 = some (.newarray .int, 2, 0, 0, 0, 0) := by decide +kernel
theorem k_123_40 : COD 123 40 = some (.putfield 25, 3, 8, 5, 1070, 0) := by decide +kernel
theorem k_123_43 : COD 123 43 = some (.aload_n 0, 1, 0, 0, 0, 0) := by decide +kernel
theorem k_123_44 : COD 123 44 = some (.sipush 800, 3, 0, 0, 0, 0) := by decide +kernel
theorem k_123_47 : COD 123 47 = some (.newarray .int, 2, 0, 0, 0, 0) := by decide +kernel
theorem k_123_49 : COD 123 49 = some (.putfield 28, 3, 8, 6, 1072, 0) := by decide +kernel
theorem k_123_52 : COD 123 52 = some (.return_, 1, 0, 0, 0, 0) := by decide +kernel
theorem k_124_0 : COD 124 0 = some (.aload_n 0, 1, 0, 0, 0, 0) := by decide +kernel
theorem k_124_1 : COD 124 1 = some (.invokespecial 3, 3, 1000, 0, 1097, 0) := by decide +kernel
theorem k_124_4 : COD 124 4 = some (.aload_n 0, 1, 0, 0, 0, 0) := by decide +kernel
theorem k_124_5 : COD 124 5 = some (.bipush 64, 2, 0, 0, 0, 0) := by decide +kernel
theorem k_124_7 : COD 124 7 = some (.newarray .long, 2, 0, 0, 0, 0) := by decide +kernel
theorem k_124_9 : COD 124 9 = some (.putfield 9, 3, 9, 0, 1098, 0) := by decide +kernel
theorem k_124_12 : COD 124 12 = some (.aload_n 0, 1, 0, 0, 0, 0) := by decide +kernel
theorem k_124_13 : COD 124 13 = some (.bipush 64, 2, 0, 0, 0, 0) := by decide +kernel
theorem k_124_15 : COD 124 15 = some (.newarray .int, 2, 0, 0, 0, 0) := by decide +kernel
theorem k_124_17 : COD 124 17 = some (.putfield 15, 3, 9, 1, 1100, 0) := by decide +kernel
theorem k_124_20 : COD 124 20 = some (.aload_n 0, 1, 0, 0, 0, 0) := by decide +kernel
theorem k_124_21 : COD 124 21 = some (.bipush 64, 2, 0, 0, 0, 0) := by decide +kernel
theorem k_124_23 : COD 124 23 = some (.newarray .int, 2, 0, 0, 0, 0) := by decide +kernel
theorem k_124_25 : COD 124 25 = some (.putfield 19, 3, 9, 2, 1102, 0) := by decide +kernel
theorem k_124_28 : COD 124 28 = some (.aload_n 0, 1, 0, 0, 0, 0) := by decide +kernel
theorem k_124_29 : COD 124 29 = some (.bipush 64, 2, 0, 0, 0, 0) := by decide +kernel
theorem k_124_31 : COD 124 31 = some (.newarray .int, 2, 0, 0, 0, 0) := by decide +kernel
theorem k_124_33 : COD 124 33 = some (.putfield 22, 3, 9, 3, 1104, 0) := by decide +kernel
theorem k_124_36 : COD 124 36 = some (.aload_n 0, 1, 0, 0, 0, 0) := by decide +kernel
theorem k_124_37 : COD 124 37 = some (.bipush 64, 2, 0, 0, 0, 0) := by decide +kernel
theorem k_124_39 : COD 124 39 = some (.newarray .boolean, 2, 0, 0, 0, 0) := by decide +kernel
theorem k_124_41 : COD 124 41 = some (.putfield 25, 3, 9, 4, 1106, 0) := by decide +kernel
theorem k_124_44 : COD 124 44 = some (.aload_n 0, 1, 0, 0, 0, 0) := by decide +kernel
theorem k_124_45 : COD 124 45 = some (.bipush 64, 2, 0, 0, 0, 0) := by decide +kernel
theorem k_124_47 : COD 124 47 = some (.newarray .int, 2, 0, 0, 0, 0) := by decide +kernel
theorem k_124_49 : COD 124 49 = some (.putfield 29, 3, 9, 5, 1108, 0) := by decide +kernel
theorem k_124_52 : COD 124 52 = some (.return_, 1, 0, 0, 0, 0) := by decide +kernel
theorem k_125_0 : COD 125 0 = some (.aload_n 1, 1, 0, 0, 0, 0) := by decide +kernel
theorem k_125_1 : COD 125 1 = some (.getfield 9, 3, 9, 0, 1098, 0) := by decide +kernel
theorem k_125_4 : COD 125 4 = some (.iconst 0, 1, 0, 0, 0, 0) := by decide +kernel
theorem k_125_5 : COD 125 5 = some (.aload_n 0, 1, 0, 0, 0, 0) := by decide +kernel
theorem k_125_6 : COD 125 6 = some (.getfield 9, 3, 9, 0, 1098, 0) := by decide +kernel
theorem k_125_9 : COD 125 9 = some (.iconst 0, 1, 0, 0, 0, 0) := by decide +kernel
theorem k_125_10 : COD 125 10 = some (.bipush 64, 2, 0, 0, 0, 0) := by decide +kernel
theorem k_125_12 : COD 125 12 = some (.invokestatic 32, 3, 1001, 5, 1458, 0) := by decide +kernel
theorem k_125_15 : COD 125 15 = some (.aload_n 1, 1, 0, 0, 0, 0) := by decide +kernel
theorem k_125_16 : COD 125 16 = some (.getfield 15, 3, 9, 1, 1100, 0) := by decide +kernel
theorem k_125_19 : COD 125 19 = some (.iconst 0, 1, 0, 0, 0, 0) := by decide +kernel
theorem k_125_20 : COD 125 20 = some (.aload_n 0, 1, 0, 0, 0, 0) := by decide +kernel
theorem k_125_21 : COD 125 21 = some (.getfield 15, 3, 9, 1, 1100, 0) := by decide +kernel
theorem k_125_24 : COD 125 24 = some (.iconst 0, 1, 0, 0, 0, 0) := by decide +kernel
theorem k_125_25 : COD 125 25 = some (.bipush 64, 2, 0, 0, 0, 0) := by decide +kernel
theorem k_125_27 : COD 125 27 = some (.invokestatic 32, 3, 1001, 5, 1458, 0) := by decide +kernel
theorem k_125_30 : COD 125 30 = some (.aload_n 1, 1, 0, 0, 0, 0) := by decide +kernel
theorem k_125_31 : COD 125 31 = some (.getfield 19, 3, 9, 2, 1102, 0) := by decide +kernel
theorem k_125_34 : COD 125 34 = some (.iconst 0, 1, 0, 0, 0, 0) := by decide +kernel
theorem k_125_35 : COD 125 35 = some (.aload_n 0, 1, 0, 0, 0, 0) := by decide +kernel
theorem k_125_36 : COD 125 36 = some (.getfield 19, 3, 9, 2, 1102, 0) := by decide +kernel
theorem k_125_39 : COD 125 39 = some (.iconst 0, 1, 0, 0, 0, 0) := by decide +kernel
theorem k_125_40 : COD 125 40 = some (.bipush 64, 2, 0, 0, 0, 0) := by decide +kernel
theorem k_125_42 : COD 125 42 = some (.invokestatic 32, 3, 1001, 5, 1458, 0) := by decide +kernel
theorem k_125_45 : COD 125 45 = some (.aload_n 1, 1, 0, 0, 0, 0) := by decide +kernel
theorem k_125_46 : COD 125 46 = some (.getfield 22, 3, 9, 3, 1104, 0) := by decide +kernel
theorem k_125_49 : COD 125 49 = some (.iconst 0, 1, 0, 0, 0, 0) := by decide +kernel
theorem k_125_50 : COD 125 50 = some (.aload_n 0, 1, 0, 0, 0, 0) := by decide +kernel
theorem k_125_51 : COD 125 51 = some (.getfield 22, 3, 9, 3, 1104, 0) := by decide +kernel
theorem k_125_54 : COD 125 54 = some (.iconst 0, 1, 0, 0, 0, 0) := by decide +kernel
theorem k_125_55 : COD 125 55 = some (.bipush 64, 2, 0, 0, 0, 0) := by decide +kernel
theorem k_125_57 : COD 125 57 = some (.invokestatic 32, 3, 1001, 5, 1458, 0) := by decide +kernel
theorem k_125_60 : COD 125 60 = some (.aload_n 1, 1, 0, 0, 0, 0) := by decide +kernel
theorem k_125_61 : COD 125 61 = some (.getfield 25, 3, 9, 4, 1106, 0) := by decide +kernel
theorem k_125_64 : COD 125 64 = some (.iconst 0, 1, 0, 0, 0, 0) := by decide +kernel
theorem k_125_65 : COD 125 65 = some (.aload_n 0, 1, 0, 0, 0, 0) := by decide +kernel
theorem k_125_66 : COD 125 66 = some (.getfield 25, 3, 9, 4, 1106, 0) := by decide +kernel
theorem k_125_69 : COD 125 69 = some (.iconst 0, 1, 0, 0, 0, 0) := by decide +kernel
theorem k_125_70 : COD 125 70 = some (.bipush 64, 2, 0, 0, 0, 0) := by decide +kernel
theorem k_125_72 : COD 125 72 = some (.invokestatic 32, 3, 1001, 5, 1458, 0) := by decide +kernel
theorem k_125_75 : COD 125 75 = some (.aload_n 1, 1, 0, 0, 0, 0) := by decide +kernel
theorem k_125_76 : COD 125 76 = some (.getfield 29, 3, 9, 5, 1108, 0) := by decide +kernel
theorem k_125_79 : COD 125 79 = some (.iconst 0, 1, 0, 0, 0, 0) := by decide +kernel
theorem k_125_80 : COD 125 80 = some (.aload_n 0, 1, 0, 0, 0, 0) := by decide +kernel
theorem k_125_81 : COD 125 81 = some (.getfield 29, 3, 9, 5, 1108, 0) := by decide +kernel
theorem k_125_84 : COD 125 84 = some (.iconst 0, 1, 0, 0, 0, 0) := by decide +kernel
theorem k_125_85 : COD 125 85 = some (.bipush 64, 2, 0, 0, 0, 0) := by decide +kernel
theorem k_125_87 : COD 125 87 = some (.invokestatic 32, 3, 1001, 5, 1458, 0) := by decide +kernel
theorem k_125_90 : COD 125 90 = some (.aload_n 0, 1, 0, 0, 0, 0) := by decide +kernel
theorem k_125_91 : COD 125 91 = some (.aload_n 1, 1, 0, 0, 0, 0) := by decide +kernel
theorem k_125_92 : COD 125 92 = some (.getfield 38, 3, 9, 6, 1110, 0) := by decide +kernel
theorem k_125_95 : COD 125 95 = some (.putfield 38, 3, 9, 6, 1110, 0) := by decide +kernel
theorem k_125_98 : COD 125 98 = some (.aload_n 0, 1, 0, 0, 0, 0) := by decide +kernel
theorem k_125_99 : COD 125 99 = some (.aload_n 1, 1, 0, 0, 0, 0) := by decide +kernel
theorem k_125_100 : COD 125 100 = some (.getfield 42, 3, 9, 7, 1112, 0) := by decide +kernel
theorem k_125_103 : COD 125 103 = some (.putfield 42, 3, 9, 7, 1112, 0) := by decide +kernel
theorem k_125_106 : COD 125 106 = some (.return_, 1, 0, 0, 0, 0) := by decide +kernel
theorem k_126_0 : COD 126 0 = some (.aload_n 0, 1, 0, 0, 0, 0) := by decide +kernel
theorem k_126_1 : COD 126 1 = some (.getfield 25, 3, 9, 4, 1106, 0) := by decide +kernel
theorem k_126_4 : COD 126 4 = some (.iload_n 1, 1, 0, 0, 0, 0) := by decide +kernel
theorem k_126_5 : COD 126 5 = some (.baload, 1, 0, 0, 0, 0) := by decide +kernel
theorem k_126_6 : COD 126 6 = some (.ifCond .ne 12, 3, 18, 0, 0, 0) := by decide +kernel
theorem k_126_9 : COD 126 9 = some (.aload_n 0, 1, 0, 0, 0, 0) := by decide +kernel
theorem k_126_10 : COD 126 10 = some (.getfield 22, 3, 9, 3, 1104, 0) := by decide +kernel
theorem k_126_13 : COD 126 13 = some (.iload_n 1, 1, 0, 0, 0, 0) := by decide +kernel
theorem k_126_14 : COD 126 14 = some (.iaload, 1, 0, 0, 0, 0) := by decide +kernel
theorem k_126_15 : COD 126 15 = some (.ifCond .eq 7, 3, 22, 0, 0, 0) := by decide +kernel
theorem k_126_18 : COD 126 18 = some (.iconst 1, 1, 0, 0, 0, 0) := by decide +kernel
theorem k_126_19 : COD 126 19 = some (.goto 4, 3, 23, 0, 0, 0) := by decide +kernel
theorem k_126_22 : COD 126 22 = some (.iconst 0, 1, 0, 0, 0, 0) := by decide +kernel
theorem k_126_23 : COD 126 23 = some (.ireturn, 1, 0, 0, 0, 1) := by decide +kernel
theorem k_127_0 : COD 127 0 = some (.aload_n 0, 1, 0, 0, 0, 0) := by decide +kernel
theorem k_127_1 : COD 127 1 = some (.invokespecial 1, 3, 1000, 0, 1054, 0) := by decide +kernel
theorem k_127_4 : COD 127 4 = some (.aload_n 0, 1, 0, 0, 0, 0) := by decide +kernel
theorem k_127_5 : COD 127 5 = some (.sipush 2000, 3, 0, 0, 0, 0) := by decide +kernel
theorem k_127_8 : COD 127 8 = some (.newarray .int, 2, 0, 0, 0, 0) := by decide +kernel
theorem k_127_10 : COD 127 10 = some (.putfield 9, 3, 10, 1, 1142, 0) := by decide +kernel
theorem k_127_13 : COD 127 13 = some (.aload_n 0, 1, 0, 0, 0, 0) := by decide +kernel
theorem k_127_14 : COD 127 14 = some (.iconst (-1), 1, 0, 0, 0, 0) := by decide +kernel
theorem k_127_15 : COD 127 15 = some (.putfield 13, 3, 10, 3, 1144, 0) := by decide +kernel
theorem k_127_18 : COD 127 18 = some (.aload_n 0, 1, 0, 0, 0, 0) := by decide +kernel
theorem k_127_19 : COD 127 19 = some (.new 17, 3, 8, 0, 1055, 0) := by decide +kernel
theorem k_127_22 : COD 127 22 = some (.dup, 1, 0, 0, 0, 0) := by decide +kernel
theorem k_127_23 : COD 127 23 = some (.invokespecial 19, 3, 123, 0, 1057, 8) := by decide +kernel
theorem k_127_26 : COD 127 26 = some (.putfield 20, 3, 10, 4, 1145, 0) := by decide +kernel
theorem k_127_29 : COD 127 29 = some (.aload_n 0, 1, 0, 0, 0, 0) := by decide +kernel
theorem k_127_30 : COD 127 30 = some (.sipush 401, 3, 0, 0, 0, 0) := by decide +kernel
theorem k_127_33 : COD 127 33 = some (.newarray .int, 2, 0, 0, 0, 0) := by decide +kernel
theorem k_127_35 : COD 127 35 = some (.putfield 24, 3, 10, 5, 1146, 0) := by decide +kernel
theorem k_127_38 : COD 127 38 = some (.aload_n 0, 1, 0, 0, 0, 0) := by decide +kernel
theorem k_127_39 : COD 127 39 = some (.sipush 401, 3, 0, 0, 0, 0) := by decide +kernel
theorem k_127_42 : COD 127 42 = some (.newarray .int, 2, 0, 0, 0, 0) := by decide +kernel
theorem k_127_44 : COD 127 44 = some (.putfield 27, 3, 10, 6, 1147, 0) := by decide +kernel
theorem k_127_47 : COD 127 47 = some (.aload_n 0, 1, 0, 0, 0, 0) := by decide +kernel
theorem k_127_48 : COD 127 48 = some (.sipush 401, 3, 0, 0, 0, 0) := by decide +kernel
theorem k_127_51 : COD 127 51 = some (.newarray .int, 2, 0, 0, 0, 0) := by decide +kernel
theorem k_127_53 : COD 127 53 = some (.putfield 30, 3, 10, 7, 1148, 0) := by decide +kernel
theorem k_127_56 : COD 127 56 = some (.aload_n 0, 1, 0, 0, 0, 0) := by decide +kernel
theorem k_127_57 : COD 127 57 = some (.sipush 401, 3, 0, 0, 0, 0) := by decide +kernel
theorem k_127_60 : COD 127 60 = some (.newarray .long, 2, 0, 0, 0, 0) := by decide +kernel
theorem k_127_62 : COD 127 62 = some (.putfield 33, 3, 10, 8, 1149, 0) := by decide +kernel
theorem k_127_65 : COD 127 65 = some (.aload_n 0, 1, 0, 0, 0, 0) := by decide +kernel
theorem k_127_66 : COD 127 66 = some (.new 37, 3, 9, 0, 1092, 0) := by decide +kernel
theorem k_127_69 : COD 127 69 = some (.dup, 1, 0, 0, 0, 0) := by decide +kernel
theorem k_127_70 : COD 127 70 = some (.invokespecial 39, 3, 124, 0, 1094, 9) := by decide +kernel
theorem k_127_73 : COD 127 73 = some (.putfield 40, 3, 10, 12, 1153, 0) := by decide +kernel
theorem k_127_76 : COD 127 76 = some (.aload_n 0, 1, 0, 0, 0, 0) := by decide +kernel
theorem k_127_77 : COD 127 77 = some (.new 37, 3, 9, 0, 1092, 0) := by decide +kernel
theorem k_127_80 : COD 127 80 = some (.dup, 1, 0, 0, 0, 0) := by decide +kernel
theorem k_127_81 : COD 127 81 = some (.invokespecial 39, 3, 124, 0, 1094, 9) := by decide +kernel
theorem k_127_84 : COD 127 84 = some (.putfield 44, 3, 10, 13, 1154, 0) := by decide +kernel
theorem k_127_87 : COD 127 87 = some (.aload_n 0, 1, 0, 0, 0, 0) := by decide +kernel
theorem k_127_88 : COD 127 88 = some (.bipush 64, 2, 0, 0, 0, 0) := by decide +kernel
theorem k_127_90 : COD 127 90 = some (.newarray .int, 2, 0, 0, 0, 0) := by decide +kernel
theorem k_127_92 : COD 127 92 = some (.putfield 47, 3, 10, 14, 1155, 0) := by decide +kernel
theorem k_127_95 : COD 127 95 = some (.aload_n 0, 1, 0, 0, 0, 0) := by decide +kernel
theorem k_127_96 : COD 127 96 = some (.bipush 64, 2, 0, 0, 0, 0) := by decide +kernel
theorem k_127_98 : COD 127 98 = some (.newarray .int, 2, 0, 0, 0, 0) := by decide +kernel
theorem k_127_100 : COD 127 100 = some (.putfield 50, 3, 10, 15, 1156, 0) := by decide +kernel
theorem k_127_103 : COD 127 103 = some (.aload_n 0, 1, 0, 0, 0, 0) := by decide +kernel
theorem k_127_104 : COD 127 104 = some (.sipush 800, 3, 0, 0, 0, 0) := by decide +kernel
theorem k_127_107 : COD 127 107 = some (.newarray .int, 2, 0, 0, 0, 0) := by decide +kernel
theorem k_127_109 : COD 127 109 = some (.putfield 53, 3, 10, 20, 1161, 0) := by decide +kernel
theorem k_127_112 : COD 127 112 = some (.aload_n 0, 1, 0, 0, 0, 0) := by decide +kernel
theorem k_127_113 : COD 127 113 = some (.invokevirtual 56, 3, 134, 0, 1133, 10) := by decide +kernel
theorem k_127_116 : COD 127 116 = some (.return_, 1, 0, 0, 0, 0) := by decide +kernel
theorem k_128_0 : COD 128 0 = some (.aload_n 0, 1, 0, 0, 0, 0) := by decide +kernel
theorem k_128_1 : COD 128 1 = some (.getfield 59, 3, 10, 0, 1141, 0) := by decide +kernel
theorem k_128_4 : COD 128 4 = some (.ireturn, 1, 0, 0, 0, 0) := by decide +kernel
theorem k_129_0 : COD 129 0 = some (.aload_n 0, 1, 0, 0, 0, 0) := by decide +kernel
theorem k_129_1 : COD 129 1 = some (.iload_n 1, 1, 0, 0, 0, 0) := by decide +kernel
theorem k_129_2 : COD 129 2 = some (.putfield 59, 3, 10, 0, 1141, 0) := by decide +kernel
theorem k_129_5 : COD 129 5 = some (.iconst 0, 1, 0, 0, 0, 0) := by decide +kernel
theorem k_129_6 : COD 129 6 = some (.ireturn, 1, 0, 0, 0, 0) := by decide +kernel
theorem k_130_0 : COD 130 0 = some (.aload_n 0, 1, 0, 0, 0, 0) := by decide +kernel
theorem k_130_1 : COD 130 1 = some (.iload_n 1, 1, 0, 0, 0, 0) := by decide +kernel
theorem k_130_2 : COD 130 2 = some (.putfield 59, 3, 10, 0, 1141, 0) := by decide +kernel
theorem k_130_5 : COD 130 5 = some (.iconst 0, 1, 0, 0, 0, 0) := by decide +kernel
theorem k_130_6 : COD 130 6 = some (.ireturn, 1, 0, 0, 0, 1) := by decide +kernel
theorem k_131_0 : COD 131 0 = some (.aload_n 0, 1, 0, 0, 0, 0) := by decide +kernel
theorem k_131_1 : COD 131 1 = some (.iconst 0, 1, 0, 0, 0, 0) := by decide +kernel
theorem k_131_2 : COD 131 2 = some (.putfield 59, 3, 10, 0, 1141, 0) := by decide +kernel
theorem k_131_5 : COD 131 5 = some (.iload_n 1, 1, 0, 0, 0, 0) := by decide +kernel
theorem k_131_6 : COD 131 6 = some (.ireturn, 1, 0, 0, 0, 0) := by decide +kernel
theorem k_132_0 : COD 132 0 = some (.iload_n 0, 1, 0, 0, 0, 0) := by decide +kernel
theorem k_132_1 : COD 132 1 = some (.iload_n 1, 1, 0, 0, 0, 0) := by decide +kernel
theorem k_132_2 : COD 132 2 = some (.if_icmp .lt 12, 3, 14, 0, 0, 0) := by decide +kernel
theorem k_132_5 : COD 132 5 = some (.iload_n 0, 1, 0, 0, 0, 0) := by decide +kernel
theorem k_132_6 : COD 132 6 = some (.iload_n 2, 1, 0, 0, 0, 0) := by decide +kernel
theorem k_132_7 : COD 132 7 = some (.if_icmp .gt 7, 3, 14, 0, 0, 0) := by decide +kernel
theorem k_132_10 : COD 132 10 = some (.iconst 1, 1, 0, 0, 0, 0) := by decide +kernel
theorem k_132_11 : COD 132 11 = some (.goto 4, 3, 15, 0, 0, 0) := by decide +kernel
theorem k_132_14 : COD 132 14 = some (.iconst 0, 1, 0, 0, 0, 0) := by decide +kernel
theorem k_132_15 : COD 132 15 = some (.ireturn, 1, 0, 0, 0, 1) := by decide +kernel
theorem k_133_0 : COD 133 0 = some (.iload_n 1, 1, 0, 0, 0, 0) := by decide +kernel
theorem k_133_1 : COD 133 1 = some (.iconst 0, 1, 0, 0, 0, 0) := by decide +kernel
theorem k_133_2 : COD 133 2 = some (.aload_n 0, 1, 0, 0, 0, 0) := by decide +kernel
theorem k_133_3 : COD 133 3 = some (.getfield 20, 3, 10, 4, 1145, 0) := by decide +kernel
theorem k_133_6 : COD 133 6 = some (.getfield 62, 3, 8, 0, 1062, 0) := by decide +kernel
theorem k_133_9 : COD 133 9 = some (.iconst 1, 1, 0, 0, 0, 0) := by decide +kernel
theorem k_133_10 : COD 133 10 = some (.isub, 1, 0, 0, 0, 0) := by decide +kernel
theorem k_133_11 : COD 133 11 = some (.invokestatic 65, 3, 132, 3, 1221, 10) := by decide +kernel
theorem k_133_14 : COD 133 14 = some (.ireturn, 1, 0, 0, 0, 1) := by decide +kernel
theorem k_134_0 : COD 134 0 = some (.iconst 0, 1, 0, 0, 0, 0) := by decide +kernel
theorem k_134_1 : COD 134 1 = some (.istore_n 1, 1, 0, 0, 0, 0) := by decide +kernel
theorem k_134_2 : COD 134 2 = some (.iload_n 1, 1, 0, 0, 0, 0) := by decide +kernel
theorem k_134_3 : COD 134 3 = some (.bipush 64, 2, 0, 0, 0, 0) := by decide +kernel
theorem k_134_5 : COD 134 5 = some (.if_icmp .ge 16, 3, 21, 0, 0, 0) := by decide +kernel
theorem k_134_8 : COD 134 8 = some (.aload_n 0, 1, 0, 0, 0, 0) := by decide +kernel
theorem k_134_9 : COD 134 9 = some (.getfield 47, 3, 10, 14, 1155, 0) := by decide +kernel
theorem k_134_12 : COD 134 12 = some (.iload_n 1, 1, 0, 0, 0, 0) := by decide +kernel
theorem k_134_13 : COD 134 13 = some (.iconst (-1), 1, 0, 0, 0, 0) := by decide +kernel
theorem k_134_14 : COD 134 14 = some (.iastore, 1, 0, 0, 0, 0) := by decide +kernel
theorem k_134_15 : COD 134 15 = some (.iinc 1 1, 3, 0, 0, 0, 0) := by decide +kernel
theorem k_134_18 : COD 134 18 = some (.goto (-16), 3, 2, 0, 0, 0) := by decide +kernel
theorem k_134_21 : COD 134 21 = some (.aload_n 0, 1, 0, 0, 0, 0) := by decide +kernel
theorem k_134_22 : COD 134 22 = some (.getfield 47, 3, 10, 14, 1155, 0) := by decide +kernel
theorem k_134_25 : COD 134 25 = some (.iconst 1, 1, 0, 0, 0, 0) := by decide +kernel
theorem k_134_26 : COD 134 26 = some (.iconst 0, 1, 0, 0, 0, 0) := by decide +kernel
theorem k_134_27 : COD 134 27 = some (.iastore, 1, 0, 0, 0, 0) := by decide +kernel
theorem k_134_28 : COD 134 28 = some (.aload_n 0, 1, 0, 0, 0, 0) := by decide +kernel
theorem k_134_29 : COD 134 29 = some (.getfield 50, 3, 10, 15, 1156, 0) := by decide +kernel
theorem k_134_32 : COD 134 32 = some (.iconst 1, 1, 0, 0, 0, 0) := by decide +kernel
theorem k_134_33 : COD 134 33 = some (.aload_n 0, 1, 0, 0, 0, 0) := by decide +kernel
theorem k_134_34 : COD 134 34 = some (.getfield 20, 3, 10, 4, 1145, 0) := by decide +kernel
theorem k_134_37 : COD 134 37 = some (.getfield 62, 3, 8, 0, 1062, 0) := by decide +kernel
theorem k_134_40 : COD 134 40 = some (.iconst 1, 1, 0, 0, 0, 0) := by decide +kernel
theorem k_134_41 : COD 134 41 = some (.isub, 1, 0, 0, 0, 0) := by decide +kernel
theorem k_134_42 : COD 134 42 = some (.iastore, 1, 0, 0, 0, 0) := by decide +kernel
theorem k_134_43 : COD 134 43 = some (.iconst 1, 1, 0, 0, 0, 0) := by decide +kernel
theorem k_134_44 : COD 134 44 = some (.istore_n 1, 1, 0, 0, 0, 0) := by decide +kernel
theorem k_134_45 : COD 134 45 = some (.iconst 2, 1, 0, 0, 0, 0) := by decide +kernel
theorem k_134_46 : COD 134 46 = some (.iload_n 1, 1, 0, 0, 0, 0) := by decide +kernel
theorem k_134_47 : COD 134 47 = some (.imul, 1, 0, 0, 0, 0) := by decide +kernel
theorem k_134_48 : COD 134 48 = some (.bipush 64, 2, 0, 0, 0, 0) := by decide +kernel
theorem k_134_50 : COD 134 50 = some (.if_icmp .ge 88, 3, 138, 0, 0, 0) := by decide +kernel
theorem k_134_53 : COD 134 53 = some (.aload_n 0, 1, 0, 0, 0, 0) := by decide +kernel
theorem k_134_54 : COD 134 54 = some (.iload_n 1, 1, 0, 0, 0, 0) := by decide +kernel
theorem k_134_55 : COD 134 55 = some (.invokevirtual 69, 3, 136, 1, 1137, 10) := by decide +kernel
theorem k_134_58 : COD 134 58 = some (.ifCond .ne 6, 3, 64, 0, 0, 0) := by decide +kernel
theorem k_134_61 : COD 134 61 = some (.goto 71, 3, 132, 0, 0, 0) := by decide +kernel
theorem k_134_64 : COD 134 64 = some (.aload_n 0, 1, 0, 0, 0, 0) := by decide +kernel
theorem k_134_65 : COD 134 65 = some (.getfield 47, 3, 10, 14, 1155, 0) := by decide +kernel
theorem k_134_68 : COD 134 68 = some (.iload_n 1, 1, 0, 0, 0, 0) := by decide +kernel
theorem k_134_69 : COD 134 69 = some (.iaload, 1, 0, 0, 0, 0) := by decide +kernel
theorem k_134_70 : COD 134 70 = some (.aload_n 0, 1, 0, 0, 0, 0) := by decide +kernel
theorem k_134_71 : COD 134 71 = some (.getfield 50, 3, 10, 15, 1156, 0) := by decide +kernel
theorem k_134_74 : COD 134 74 = some (.iload_n 1, 1, 0, 0, 0, 0) := by decide +kernel
theorem k_134_75 : COD 134 75 = some (.iaload, 1, 0, 0, 0, 0) := by decide +kernel
theorem k_134_76 : COD 134 76 = some (.iadd, 1, 0, 0, 0, 0) := by decide +kernel
theorem k_134_77 : COD 134 77 = some (.iconst 2, 1, 0, 0, 0, 0) := by decide +kernel
theorem k_134_78 : COD 134 78 = some (.idiv, 1, 0, 0, 0, 0) := by decide +kernel
theorem k_134_79 : COD 134 79 = some (.istore_n 2, 1, 0, 0, 0, 0) := by decide +kernel
theorem k_134_80 : COD 134 80 = some (.aload_n 0, 1, 0, 0, 0, 0) := by decide +kernel
theorem k_134_81 : COD 134 81 = some (.getfield 47, 3, 10, 14, 1155, 0) := by decide +kernel
theorem k_134_84 : COD 134 84 = some (.iconst 2, 1, 0, 0, 0, 0) := by decide +kernel
theorem k_134_85 : COD 134 85 = some (.iload_n 1, 1, 0, 0, 0, 0) := by decide +kernel
theorem k_134_86 : COD 134 86 = some (.imul, 1, 0, 0, 0, 0) := by decide +kernel
theorem k_134_87 : COD 134 87 = some (.aload_n 0, 1, 0, 0, 0, 0) := by decide +kernel
theorem k_134_88 : COD 134 88 = some (.getfield 47, 3, 10, 14, 1155, 0) := by decide +kernel
theorem k_134_91 : COD 134 91 = some (.iload_n 1, 1, 0, 0, 0, 0) := by decide +kernel
theorem k_134_92 : COD 134 92 = some (.iaload, 1, 0, 0, 0, 0) := by decide +kernel
theorem k_134_93 : COD 134 93 = some (.iastore, 1, 0, 0, 0, 0) := by decide +kernel
theorem k_134_94 : COD 134 94 = some (.aload_n 0, 1, 0, 0, 0, 0) := by decide +kernel
theorem k_134_95 : COD 134 95 = some (.getfield 50, 3, 10, 15, 1156, 0) := by decide +kernel
theorem k_134_98 : COD 134 98 = some (.iconst 2, 1, 0, 0, 0, 0) := by decide +kernel
theorem k_134_99 : COD 134 99 = some (.iload_n 1, 1, 0, 0, 0, 0) := by decide +kernel
theorem k_134_100 : COD 134 100 = some (.imul, 1, 0, 0, 0, 0) := by decide +kernel
theorem k_134_101 : COD 134 101 = some (.iload_n 2, 1, 0, 0, 0, 0) := by decide +kernel
theorem k_134_102 : COD 134 102 = some (.iastore, 1, 0, 0, 0, 0) := by decide +kernel
theorem k_134_103 : COD 134 103 = some (.aload_n 0, 1, 0, 0, 0, 0) := by decide +kernel
theorem k_134_104 : COD 134 104 = some (.getfield 47, 3, 10, 14, 1155, 0) := by decide +kernel
theorem k_134_107 : COD 134 107 = some (.iconst 2, 1, 0, 0, 0, 0) := by decide +kernel
theorem k_134_108 : COD 134 108 = some (.iload_n 1, 1, 0, 0, 0, 0) := by decide +kernel
theorem k_134_109 : COD 134 109 = some (.imul, 1, 0, 0, 0, 0) := by decide +kernel
theorem k_134_110 : COD 134 110 = some (.iconst 1, 1, 0, 0, 0, 0) := by decide +kernel
theorem k_134_111 : COD 134 111 = some (.iadd, 1, 0, 0, 0, 0) := by decide +kernel
theorem k_134_112 : COD 134 112 = some (.iload_n 2, 1, 0, 0, 0, 0) := by decide +kernel
theorem k_134_113 : COD 134 113 = some (.iconst 1, 1, 0, 0, 0, 0) := by decide +kernel
theorem k_134_114 : COD 134 114 = some (.iadd, 1, 0, 0, 0, 0) := by decide +kernel
theorem k_134_115 : COD 134 115 = some (.iastore, 1, 0, 0, 0, 0) := by decide +kernel
theorem k_134_116 : COD 134 116 = some (.aload_n 0, 1, 0, 0, 0, 0) := by decide +kernel
theorem k_134_117 : COD 134 117 = some (.getfield 50, 3, 10, 15, 1156, 0) := by decide +kernel
theorem k_134_120 : COD 134 120 = some (.iconst 2, 1, 0, 0, 0, 0) := by decide +kernel
theorem k_134_121 : COD 134 121 = some (.iload_n 1, 1, 0, 0, 0, 0) := by decide +kernel
theorem k_134_122 : COD 134 122 = some (.imul, 1, 0, 0, 0, 0) := by decide +kernel
theorem k_134_123 : COD 134 123 = some (.iconst 1, 1, 0, 0, 0, 0) := by decide +kernel
theorem k_134_124 : COD 134 124 = some (.iadd, 1, 0, 0, 0, 0) := by decide +kernel
theorem k_134_125 : COD 134 125 = some (.aload_n 0, 1, 0, 0, 0, 0) := by decide +kernel
theorem k_134_126 : COD 134 126 = some (.getfield 50, 3, 10, 15, 1156, 0) := by decide +kernel
theorem k_134_129 : COD 134 129 = some (.iload_n 1, 1, 0, 0, 0, 0) := by decide +kernel
theorem k_134_130 : COD 134 130 = some (.iaload, 1, 0, 0, 0, 0) := by decide +kernel
theorem k_134_131 : COD 134 131 = some (.iastore, 1, 0, 0, 0, 0) := by decide +kernel
theorem k_134_132 : COD 134 132 = some (.iinc 1 1, 3, 0, 0, 0, 0) := by decide +kernel
theorem k_134_135 : COD 134 135 = some (.goto (-90), 3, 45, 0, 0, 0) := by decide +kernel
theorem k_134_138 : COD 134 138 = some (.return_, 1, 0, 0, 0, 0) := by decide +kernel
theorem k_135_0 : COD 135 0 = some (.iload_n 1, 1, 0, 0, 0, 0) := by decide +kernel
theorem k_135_1 : COD 135 1 = some (.iconst 1, 1, 0, 0, 0, 0) := by decide +kernel
theorem k_135_2 : COD 135 2 = some (.bipush 63, 2, 0, 0, 0, 0) := by decide +kernel
theorem k_135_4 : COD 135 4 = some (.invokestatic 65, 3, 132, 3, 1221, 10) := by decide +kernel
theorem k_135_7 : COD 135 7 = some (.ifCond .eq 17, 3, 24, 0, 0, 0) := by decide +kernel
theorem k_135_10 : COD 135 10 = some (.aload_n 0, 1, 0, 0, 0, 0) := by decide +kernel
theorem k_135_11 : COD 135 11 = some (.getfield 47, 3, 10, 14, 1155, 0) := by decide +kernel
theorem k_135_14 : COD 135 14 = some (.iload_n 1, 1, 0, 0, 0, 0) := by decide +kernel
theorem k_135_15 : COD 135 15 = some (.iaload, 1, 0, 0, 0, 0) := by decide +kernel
theorem k_135_16 : COD 135 16 = some (.iconst (-1), 1, 0, 0, 0, 0) := by decide +kernel
theorem k_135_17 : COD 135 17 = some (.if_icmp .eq 7, 3, 24, 0, 0, 0) := by decide +kernel
theorem k_135_20 : COD 135 20 = some (.iconst 1, 1, 0, 0, 0, 0) := by decide +kernel
theorem k_135_21 : COD 135 21 = some (.goto 4, 3, 25, 0, 0, 0) := by decide +kernel
theorem k_135_24 : COD 135 24 = some (.iconst 0, 1, 0, 0, 0, 0) := by decide +kernel
theorem k_135_25 : COD 135 25 = some (.ireturn, 1, 0, 0, 0, 1) := by decide +kernel
theorem k_136_0 : COD 136 0 = some (.aload_n 0, 1, 0, 0, 0, 0) := by decide +kernel
theorem k_136_1 : COD 136 1 = some (.getfield 47, 3, 10, 14, 1155, 0) := by decide +kernel
theorem k_136_4 : COD 136 4 = some (.iload_n 1, 1, 0, 0, 0, 0) := by decide +kernel
theorem k_136_5 : COD 136 5 = some (.iaload, 1, 0, 0, 0, 0) := by decide +kernel
theorem k_136_6 : COD 136 6 = some (.iconst (-1), 1, 0, 0, 0, 0) := by decide +kernel
theorem k_136_7 : COD 136 7 = some (.if_icmp .eq 22, 3, 29, 0, 0, 0) := by decide +kernel
theorem k_136_10 : COD 136 10 = some (.aload_n 0, 1, 0, 0, 0, 0) := by decide +kernel
theorem k_136_11 : COD 136 11 = some (.getfield 47, 3, 10, 14, 1155, 0) := by decide +kernel
theorem k_136_14 : COD 136 14 = some (.iload_n 1, 1, 0, 0, 0, 0) := by decide +kernel
theorem k_136_15 : COD 136 15 = some (.iaload, 1, 0, 0, 0, 0) := by decide +kernel
theorem k_136_16 : COD 136 16 = some (.aload_n 0, 1, 0, 0, 0, 0) := by decide +kernel
theorem k_136_17 : COD 136 17 = some (.getfield 50, 3, 10, 15, 1156, 0) := by decide +kernel
theorem k_136_20 : COD 136 20 = some (.iload_n 1, 1, 0, 0, 0, 0) := by decide +kernel
theorem k_136_21 : COD 136 21 = some (.iaload, 1, 0, 0, 0, 0) := by decide +kernel
theorem k_136_22 : COD 136 22 = some (.if_icmp .ge 7, 3, 29, 0, 0, 0) := by decide +kernel
theorem k_136_25 : COD 136 25 = some (.iconst 1, 1, 0, 0, 0, 0) := by decide +kernel
theorem k_136_26 : COD 136 26 = some (.goto 4, 3, 30, 0, 0, 0) := by decide +kernel
theorem k_136_29 : COD 136 29 = some (.iconst 0, 1, 0, 0, 0, 0) := by decide +kernel
theorem k_136_30 : COD 136 30 = some (.ireturn, 1, 0, 0, 0, 1) := by decide +kernel
theorem k_137_0 : COD 137 0 = some (.aload_n 0, 1, 0, 0, 0, 0) := by decide +kernel
theorem k_137_1 : COD 137 1 = some (.getfield 50, 3, 10, 15, 1156, 0) := by decide +kernel
theorem k_137_4 : COD 137 4 = some (.iload_n 1, 1, 0, 0, 0, 0) := by decide +kernel
theorem k_137_5 : COD 137 5 = some (.iaload, 1, 0, 0, 0, 0) := by decide +kernel
theorem k_137_6 : COD 137 6 = some (.aload_n 0, 1, 0, 0, 0, 0) := by decide +kernel
theorem k_137_7 : COD 137 7 = some (.getfield 47, 3, 10, 14, 1155, 0) := by decide +kernel
theorem k_137_10 : COD 137 10 = some (.iload_n 1, 1, 0, 0, 0, 0) := by decide +kernel
theorem k_137_11 : COD 137 11 = some (.iaload, 1, 0, 0, 0, 0) := by decide +kernel
theorem k_137_12 : COD 137 12 = some (.isub, 1, 0, 0, 0, 0) := by decide +kernel
theorem k_137_13 : COD 137 13 = some (.iconst 1, 1, 0, 0, 0, 0) := by decide +kernel
theorem k_137_14 : COD 137 14 = some (.iadd, 1, 0, 0, 0, 0) := by decide +kernel
theorem k_137_15 : COD 137 15 = some (.i2l, 1, 0, 0, 0, 0) := by decide +kernel
theorem k_137_16 : COD 137 16 = some (.lreturn, 1, 0, 0, 0, 0) := by decide +kernel
theorem k_138_0 : COD 138 0 = some (.aload_n 1, 1, 0, 0, 0, 0) := by decide +kernel
theorem k_138_1 : COD 138 1 = some (.getfield 73, 3, 9, 0, 1099, 0) := by decide +kernel
theorem k_138_4 : COD 138 4 = some (.iload_n 2, 1, 0, 0, 0, 0) := by decide +kernel
theorem k_138_5 : COD 138 5 = some (.iload_n 3, 1, 0, 0, 0, 0) := by decide +kernel
theorem k_138_6 : COD 138 6 = some (.i2l, 1, 0, 0, 0, 0) := by decide +kernel
theorem k_138_7 : COD 138 7 = some (.aload_n 0, 1, 0, 0, 0, 0) := by decide +kernel
theorem k_138_8 : COD 138 8 = some (.iload_n 2, 1, 0, 0, 0, 0) := by decide +kernel
theorem k_138_9 : COD 138 9 = some (.invokevirtual 76, 3, 137, 1, 1480, 10) := by decide +kernel
theorem k_138_12 : COD 138 12 = some (.lmul, 1, 0, 0, 0, 0) := by decide +kernel
theorem k_138_13 : COD 138 13 = some (.lastore, 1, 0, 0, 0, 0) := by decide +kernel
theorem k_138_14 : COD 138 14 = some (.aload_n 1, 1, 0, 0, 0, 0) := by decide +kernel
theorem k_138_15 : COD 138 15 = some (.getfield 80, 3, 9, 1, 1101, 0) := by decide +kernel
theorem k_138_18 : COD 138 18 = some (.iload_n 2, 1, 0, 0, 0, 0) := by decide +kernel
theorem k_138_19 : COD 138 19 = some (.iload_n 3, 1, 0, 0, 0, 0) := by decide +kernel
theorem k_138_20 : COD 138 20 = some (.iastore, 1, 0, 0, 0, 0) := by decide +kernel
theorem k_138_21 : COD 138 21 = some (.aload_n 1, 1, 0, 0, 0, 0) := by decide +kernel
theorem k_138_22 : COD 138 22 = some (.getfield 83, 3, 9, 2, 1103, 0) := by decide +kernel
theorem k_138_25 : COD 138 25 = some (.iload_n 2, 1, 0, 0, 0, 0) := by decide +kernel
theorem k_138_26 : COD 138 26 = some (.iload_n 3, 1, 0, 0, 0, 0) := by decide +kernel
theorem k_138_27 : COD 138 27 = some (.iastore, 1, 0, 0, 0, 0) := by decide +kernel
theorem k_138_28 : COD 138 28 = some (.aload_n 1, 1, 0, 0, 0, 0) := by decide +kernel
theorem k_138_29 : COD 138 29 = some (.getfield 86, 3, 9, 4, 1107, 0) := by decide +kernel
theorem k_138_32 : COD 138 32 = some (.iload_n 2, 1, 0, 0, 0, 0) := by decide +kernel
theorem k_138_33 : COD 138 33 = some (.aload_n 0, 1, 0, 0, 0, 0) := by decide +kernel
theorem k_138_34 : COD 138 34 = some (.iload_n 2, 1, 0, 0, 0, 0) := by decide +kernel
theorem k_138_35 : COD 138 35 = some (.invokevirtual 69, 3, 136, 1, 1137, 10) := by decide +kernel
theorem k_138_38 : COD 138 38 = some (.bastore, 1, 0, 0, 0, 0) := by decide +kernel
theorem k_138_39 : COD 138 39 = some (.aload_n 1, 1, 0, 0, 0, 0) := by decide +kernel
theorem k_138_40 : COD 138 40 = some (.getfield 90, 3, 9, 5, 1109, 0) := by decide +kernel
theorem k_138_43 : COD 138 43 = some (.iload_n 2, 1, 0, 0, 0, 0) := by decide +kernel
theorem k_138_44 : COD 138 44 = some (.aload_n 1, 1, 0, 0, 0, 0) := by decide +kernel
theorem k_138_45 : COD 138 45 = some (.getfield 86, 3, 9, 4, 1107, 0) := by decide +kernel
theorem k_138_48 : COD 138 48 = some (.iload_n 2, 1, 0, 0, 0, 0) := by decide +kernel
theorem k_138_49 : COD 138 49 = some (.baload, 1, 0, 0, 0, 0) := by decide +kernel
theorem k_138_50 : COD 138 50 = some (.ifCond .eq 7, 3, 57, 0, 0, 0) := by decide +kernel
theorem k_138_53 : COD 138 53 = some (.iload_n 3, 1, 0, 0, 0, 0) := by decide +kernel
theorem k_138_54 : COD 138 54 = some (.goto 4, 3, 58, 0, 0, 0) := by decide +kernel
theorem k_138_57 : COD 138 57 = some (.iconst 0, 1, 0, 0, 0, 0) := by decide +kernel
theorem k_138_58 : COD 138 58 = some (.iastore, 1, 0, 0, 0, 0) := by decide +kernel
theorem k_138_59 : COD 138 59 = some (.aload_n 1, 1, 0, 0, 0, 0) := by decide +kernel
theorem k_138_60 : COD 138 60 = some (.getfield 93, 3, 9, 3, 1105, 0) := by decide +kernel
theorem k_138_63 : COD 138 63 = some (.iload_n 2, 1, 0, 0, 0, 0) := by decide +kernel
theorem k_138_64 : COD 138 64 = some (.iconst 0, 1, 0, 0, 0, 0) := by decide +kernel
theorem k_138_65 : COD 138 65 = some (.iastore, 1, 0, 0, 0, 0) := by decide +kernel
theorem k_138_66 : COD 138 66 = some (.return_, 1, 0, 0, 0, 0) := by decide +kernel
theorem k_139_0 : COD 139 0 = some (.aload_n 1, 1, 0, 0, 0, 0) := by decide +kernel
theorem k_139_1 : COD 139 1 = some (.getfield 73, 3, 9, 0, 1099, 0) := by decide +kernel
theorem k_139_4 : COD 139 4 = some (.iload_n 2, 1, 0, 0, 0, 0) := by decide +kernel
theorem k_139_5 : COD 139 5 = some (.dup2, 1, 0, 0, 0, 0) := by decide +kernel
theorem k_139_6 : COD 139 6 = some (.laload, 1, 0, 0, 0, 0) := by decide +kernel
theorem k_139_7 : COD 139 7 = some (.iload_n 3, 1, 0, 0, 0, 0) := by decide +kernel
theorem k_139_8 : COD 139 8 = some (.i2l, 1, 0, 0, 0, 0) := by decide +kernel
theorem k_139_9 : COD 139 9 = some (.aload_n 0, 1, 0, 0, 0, 0) := by decide +kernel
theorem k_139_10 : COD 139 10 = some (.iload_n 2, 1, 0, 0, 0, 0) := by decide +kernel
theorem k_139_11 : COD 139 11 = some (.invokevirtual 76, 3, 137, 1, 1480, 10) := by decide +kernel
theorem k_139_14 : COD 139 14 = some (.lmul, 1, 0, 0, 0, 0) := by decide +kernel
theorem k_139_15 : COD 139 15 = some (.ladd, 1, 0, 0, 0, 0) := by decide +kernel
theorem k_139_16 : COD 139 16 = some (.lastore, 1, 0, 0, 0, 0) := by decide +kernel
theorem k_139_17 : COD 139 17 = some (.aload_n 1, 1, 0, 0, 0, 0) := by decide +kernel
theorem k_139_18 : COD 139 18 = some (.getfield 80, 3, 9, 1, 1101, 0) := by decide +kernel
theorem k_139_21 : COD 139 21 = some (.iload_n 2, 1, 0, 0, 0, 0) := by decide +kernel
theorem k_139_22 : COD 139 22 = some (.dup2, 1, 0, 0, 0, 0) := by decide +kernel
theorem k_139_23 : COD 139 23 = some (.iaload, 1, 0, 0, 0, 0) := by decide +kernel
theorem k_139_24 : COD 139 24 = some (.iload_n 3, 1, 0, 0, 0, 0) := by decide +kernel
theorem k_139_25 : COD 139 25 = some (.iadd, 1, 0, 0, 0, 0) := by decide +kernel
theorem k_139_26 : COD 139 26 = some (.iastore, 1, 0, 0, 0, 0) := by decide +kernel
theorem k_139_27 : COD 139 27 = some (.aload_n 1, 1, 0, 0, 0, 0) := by decide +kernel
theorem k_139_28 : COD 139 28 = some (.getfield 83, 3, 9, 2, 1103, 0) := by decide +kernel
theorem k_139_31 : COD 139 31 = some (.iload_n 2, 1, 0, 0, 0, 0) := by decide +kernel
theorem k_139_32 : COD 139 32 = some (.dup2, 1, 0, 0, 0, 0) := by decide +kernel
theorem k_139_33 : COD 139 33 = some (.iaload, 1, 0, 0, 0, 0) := by decide +kernel
theorem k_139_34 : COD 139 34 = some (.iload_n 3, 1, 0, 0, 0, 0) := by decide +kernel
theorem k_139_35 : COD 139 35 = some (.iadd, 1, 0, 0, 0, 0) := by decide +kernel
theorem k_139_36 : COD 139 36 = some (.iastore, 1, 0, 0, 0, 0) := by decide +kernel
theorem k_139_37 : COD 139 37 = some (.aload_n 0, 1, 0, 0, 0, 0) := by decide +kernel
theorem k_139_38 : COD 139 38 = some (.iload_n 2, 1, 0, 0, 0, 0) := by decide +kernel
theorem k_139_39 : COD 139 39 = some (.invokevirtual 69, 3, 136, 1, 1137, 10) := by decide +kernel
theorem k_139_42 : COD 139 42 = some (.ifCond .eq 13, 3, 55, 0, 0, 0) := by decide +kernel
theorem k_139_45 : COD 139 45 = some (.aload_n 1, 1, 0, 0, 0, 0) := by decide +kernel
theorem k_139_46 : COD 139 46 = some (.getfield 93, 3, 9, 3, 1105, 0) := by decide +kernel
theorem k_139_49 : COD 139 49 = some (.iload_n 2, 1, 0, 0, 0, 0) := by decide +kernel
theorem k_139_50 : COD 139 50 = some (.dup2, 1, 0, 0, 0, 0) := by decide +kernel
theorem k_139_51 : COD 139 51 = some (.iaload, 1, 0, 0, 0, 0) := by decide +kernel
theorem k_139_52 : COD 139 52 = some (.iload_n 3, 1, 0, 0, 0, 0) := by decide +kernel
theorem k_139_53 : COD 139 53 = some (.iadd, 1, 0, 0, 0, 0) := by decide +kernel
theorem k_139_54 : COD 139 54 = some (.iastore, 1, 0, 0, 0, 0) := by decide +kernel
theorem k_139_55 : COD 139 55 = some (.return_, 1, 0, 0, 0, 0) := by decide +kernel
theorem k_140_0 : COD 140 0 = some (.aload_n 1, 1, 0, 0, 0, 0) := by decide +kernel
theorem k_140_1 : COD 140 1 = some (.iload_n 2, 1, 0, 0, 0, 0) := by decide +kernel
theorem k_140_2 : COD 140 2 = some (.invokevirtual 96, 3, 126, 1, 1378, 9) := by decide +kernel
theorem k_140_5 : COD 140 5 = some (.ifCond .ne 4, 3, 9, 0, 0, 0) := by decide +kernel
theorem k_140_8 : COD 140 8 = some (.return_, 1, 0, 0, 0, 0) := by decide +kernel
theorem k_140_9 : COD 140 9 = some (.aload_n 1, 1, 0, 0, 0, 0) := by decide +kernel
theorem k_140_10 : COD 140 10 = some (.dup, 1, 0, 0, 0, 0) := by decide +kernel
theorem k_140_11 : COD 140 11 = some (.getfield 99, 3, 9, 7, 1113, 0) := by decide +kernel
theorem k_140_14 : COD 140 14 = some (.iconst 1, 1, 0, 0, 0, 0) := by decide +kernel
theorem k_140_15 : COD 140 15 = some (.iadd, 1, 0, 0, 0, 0) := by decide +kernel
theorem k_140_16 : COD 140 16 = some (.putfield 99, 3, 9, 7, 1113, 0) := by decide +kernel
theorem k_140_19 : COD 140 19 = some (.iconst 2, 1, 0, 0, 0, 0) := by decide +kernel
theorem k_140_20 : COD 140 20 = some (.iload_n 2, 1, 0, 0, 0, 0) := by decide +kernel
theorem k_140_21 : COD 140 21 = some (.imul, 1, 0, 0, 0, 0) := by decide +kernel
theorem k_140_22 : COD 140 22 = some (.istore_n 3, 1, 0, 0, 0, 0) := by decide +kernel
theorem k_140_23 : COD 140 23 = some (.iload_n 3, 1, 0, 0, 0, 0) := by decide +kernel
theorem k_140_24 : COD 140 24 = some (.iconst 2, 1, 0, 0, 0, 0) := by decide +kernel
theorem k_140_25 : COD 140 25 = some (.iload_n 2, 1, 0, 0, 0, 0) := by decide +kernel
theorem k_140_26 : COD 140 26 = some (.imul, 1, 0, 0, 0, 0) := by decide +kernel
theorem k_140_27 : COD 140 27 = some (.iconst 2, 1, 0, 0, 0, 0) := by decide +kernel
theorem k_140_28 : COD 140 28 = some (.iadd, 1, 0, 0, 0, 0) := by decide +kernel
theorem k_140_29 : COD 140 29 = some (.if_icmp .ge 42, 3, 71, 0, 0, 0) := by decide +kernel
theorem k_140_32 : COD 140 32 = some (.aload_n 1, 1, 0, 0, 0, 0) := by decide +kernel
theorem k_140_33 : COD 140 33 = some (.getfield 86, 3, 9, 4, 1107, 0) := by decide +kernel
theorem k_140_36 : COD 140 36 = some (.iload_n 2, 1, 0, 0, 0, 0) := by decide +kernel
theorem k_140_37 : COD 140 37 = some (.baload, 1, 0, 0, 0, 0) := by decide +kernel
theorem k_140_38 : COD 140 38 = some (.ifCond .eq 15, 3, 53, 0, 0, 0) := by decide +kernel
theorem k_140_41 : COD 140 41 = some (.aload_n 0, 1, 0, 0, 0, 0) := by decide +kernel
theorem k_140_42 : COD 140 42 = some (.aload_n 1, 1, 0, 0, 0, 0) := by decide +kernel
theorem k_140_43 : COD 140 43 = some (.iload_n 3, 1, 0, 0, 0, 0) := by decide +kernel
theorem k_140_44 : COD 140 44 = some (.aload_n 1, 1, 0, 0, 0, 0) := by decide +kernel
theorem k_140_45 : COD 140 45 = some (.getfield 90, 3, 9, 5, 1109, 0) := by decide +kernel
theorem k_140_48 : COD 140 48 = some (.iload_n 2, 1, 0, 0, 0, 0) := by decide +kernel
theorem k_140_49 : COD 140 49 = some (.iaload, 1, 0, 0, 0, 0) := by decide +kernel
theorem k_140_50 : COD 140 50 = some (.invokevirtual 102, 3, 138, 3, 1484, 10) := by decide +kernel
theorem k_140_53 : COD 140 53 = some (.aload_n 0, 1, 0, 0, 0, 0) := by decide +kernel
theorem k_140_54 : COD 140 54 = some (.aload_n 1, 1, 0, 0, 0, 0) := by decide +kernel
theorem k_140_55 : COD 140 55 = some (.iload_n 3, 1, 0, 0, 0, 0) := by decide +kernel
theorem k_140_56 : COD 140 56 = some (.aload_n 1, 1, 0, 0, 0, 0) := by decide +kernel
theorem k_140_57 : COD 140 57 = some (.getfield 93, 3, 9, 3, 1105, 0) := by decide +kernel
theorem k_140_60 : COD 140 60 = some (.iload_n 2, 1, 0, 0, 0, 0) := by decide +kernel
theorem k_140_61 : COD 140 61 = some (.iaload, 1, 0, 0, 0, 0) := by decide +kernel
theorem k_140_62 : COD 140 62 = some (.invokevirtual 106, 3, 139, 3, 1476, 10) := by decide +kernel
theorem k_140_65 : COD 140 65 = some (.iinc 3 1, 3, 0, 0, 0, 0) := by decide +kernel
theorem k_140_68 : COD 140 68 = some (.goto (-45), 3, 23, 0, 0, 0) := by decide +kernel
theorem k_140_71 : COD 140 71 = some (.aload_n 1, 1, 0, 0, 0, 0) := by decide +kernel
theorem k_140_72 : COD 140 72 = some (.getfield 86, 3, 9, 4, 1107, 0) := by decide +kernel
theorem k_140_75 : COD 140 75 = some (.iload_n 2, 1, 0, 0, 0, 0) := by decide +kernel
theorem k_140_76 : COD 140 76 = some (.iconst 0, 1, 0, 0, 0, 0) := by decide +kernel
theorem k_140_77 : COD 140 77 = some (.bastore, 1, 0, 0, 0, 0) := by decide +kernel
theorem k_140_78 : COD 140 78 = some (.aload_n 1, 1, 0, 0, 0, 0) := by decide +kernel
theorem k_140_79 : COD 140 79 = some (.getfield 90, 3, 9, 5, 1109, 0) := by decide +kernel
theorem k_140_82 : COD 140 82 = some (.iload_n 2, 1, 0, 0, 0, 0) := by decide +kernel
theorem k_140_83 : COD 140 83 = some (.iconst 0, 1, 0, 0, 0, 0) := by decide +kernel
theorem k_140_84 : COD 140 84 = some (.iastore, 1, 0, 0, 0, 0) := by decide +kernel
theorem k_140_85 : COD 140 85 = some (.aload_n 1, 1, 0, 0, 0, 0) := by decide +kernel
theorem k_140_86 : COD 140 86 = some (.getfield 93, 3, 9, 3, 1105, 0) := by decide +kernel
theorem k_140_89 : COD 140 89 = some (.iload_n 2, 1, 0, 0, 0, 0) := by decide +kernel
theorem k_140_90 : COD 140 90 = some (.iconst 0, 1, 0, 0, 0, 0) := by decide +kernel
theorem k_140_91 : COD 140 91 = some (.iastore, 1, 0, 0, 0, 0) := by decide +kernel
theorem k_140_92 : COD 140 92 = some (.return_, 1, 0, 0, 0, 0) := by decide +kernel
theorem k_141_0 : COD 141 0 = some (.aload_n 1, 1, 0, 0, 0, 0) := by decide +kernel
theorem k_141_1 : COD 141 1 = some (.getfield 73, 3, 9, 0, 1099, 0) := by decide +kernel
theorem k_141_4 : COD 141 4 = some (.iload_n 2, 1, 0, 0, 0, 0) := by decide +kernel
theorem k_141_5 : COD 141 5 = some (.aload_n 1, 1, 0, 0, 0, 0) := by decide +kernel
theorem k_141_6 : COD 141 6 = some (.getfield 73, 3, 9, 0, 1099, 0) := by decide +kernel
theorem k_141_9 : COD 141 9 = some (.iconst 2, 1, 0, 0, 0, 0) := by decide +kernel
theorem k_141_10 : COD 141 10 = some (.iload_n 2, 1, 0, 0, 0, 0) := by decide +kernel
theorem k_141_11 : COD 141 11 = some (.imul, 1, 0, 0, 0, 0) := by decide +kernel
theorem k_141_12 : COD 141 12 = some (.laload, 1, 0, 0, 0, 0) := by decide +kernel
theorem k_141_13 : COD 141 13 = some (.aload_n 1, 1, 0, 0, 0, 0) := by decide +kernel
theorem k_141_14 : COD 141 14 = some (.getfield 73, 3, 9, 0, 1099, 0) := by decide +kernel
theorem k_141_17 : COD 141 17 = some (.iconst 2, 1, 0, 0, 0, 0) := by decide +kernel
theorem k_141_18 : COD 141 18 = some (.iload_n 2, 1, 0, 0, 0, 0) := by decide +kernel
theorem k_141_19 : COD 141 19 = some (.imul, 1, 0, 0, 0, 0) := by decide +kernel
theorem k_141_20 : COD 141 20 = some (.iconst 1, 1, 0, 0, 0, 0) := by decide +kernel
theorem k_141_21 : COD 141 21 = some (.iadd, 1, 0, 0, 0, 0) := by decide +kernel
theorem k_141_22 : COD 141 22 = some (.laload, 1, 0, 0, 0, 0) := by decide +kernel
theorem k_141_23 : COD 141 23 = some (.ladd, 1, 0, 0, 0, 0) := by decide +kernel
theorem k_141_24 : COD 141 24 = some (.lastore, 1, 0, 0, 0, 0) := by decide +kernel
theorem k_141_25 : COD 141 25 = some (.aload_n 1, 1, 0, 0, 0, 0) := by decide +kernel
theorem k_141_26 : COD 141 26 = some (.getfield 80, 3, 9, 1, 1101, 0) := by decide +kernel
theorem k_141_29 : COD 141 29 = some (.iload_n 2, 1, 0, 0, 0, 0) := by decide +kernel
theorem k_141_30 : COD 141 30 = some (.aload_n 1, 1, 0, 0, 0, 0) := by decide +kernel
theorem k_141_31 : COD 141 31 = some (.getfield 80, 3, 9, 1, 1101, 0) := by decide +kernel
theorem k_141_34 : COD 141 34 = some (.iconst 2, 1, 0, 0, 0, 0) := by decide +kernel
theorem k_141_35 : COD 141 35 = some (.iload_n 2, 1, 0, 0, 0, 0) := by decide +kernel
theorem k_141_36 : COD 141 36 = some (.imul, 1, 0, 0, 0, 0) := by decide +kernel
theorem k_141_37 : COD 141 37 = some (.iaload, 1, 0, 0, 0, 0) := by decide +kernel
theorem k_141_38 : COD 141 38 = some (.aload_n 1, 1, 0, 0, 0, 0) := by decide +kernel
theorem k_141_39 : COD 141 39 = some (.getfield 80, 3, 9, 1, 1101, 0) := by decide +kernel
theorem k_141_42 : COD 141 42 = some (.iconst 2, 1, 0, 0, 0, 0) := by decide +kernel
theorem k_141_43 : COD 141 43 = some (.iload_n 2, 1, 0, 0, 0, 0) := by decide +kernel
theorem k_141_44 : COD 141 44 = some (.imul, 1, 0, 0, 0, 0) := by decide +kernel
theorem k_141_45 : COD 141 45 = some (.iconst 1, 1, 0, 0, 0, 0) := by decide +kernel
theorem k_141_46 : COD 141 46 = some (.iadd, 1, 0, 0, 0, 0) := by decide +kernel
theorem k_141_47 : COD 141 47 = some (.iaload, 1, 0, 0, 0, 0) := by decide +kernel
theorem k_141_48 : COD 141 48 = some (.invokestatic 109, 3, 225, 2, 1475, 0) := by decide +kernel
theorem k_141_51 : COD 141 51 = some (.iastore, 1, 0, 0, 0, 0) := by decide +kernel
theorem k_141_52 : COD 141 52 = some (.aload_n 1, 1, 0, 0, 0, 0) := by decide +kernel
theorem k_141_53 : COD 141 53 = some (.getfield 83, 3, 9, 2, 1103, 0) := by decide +kernel
theorem k_141_56 : COD 141 56 = some (.iload_n 2, 1, 0, 0, 0, 0) := by decide +kernel
theorem k_141_57 : COD 141 57 = some (.aload_n 1, 1, 0, 0, 0, 0) := by decide +kernel
theorem k_141_58 : COD 141 58 = some (.getfield 83, 3, 9, 2, 1103, 0) := by decide +kernel
theorem k_141_61 : COD 141 61 = some (.iconst 2, 1, 0, 0, 0, 0) := by decide +kernel
theorem k_141_62 : COD 141 62 = some (.iload_n 2, 1, 0, 0, 0, 0) := by decide +kernel
theorem k_141_63 : COD 141 63 = some (.imul, 1, 0, 0, 0, 0) := by decide +kernel
theorem k_141_64 : COD 141 64 = some (.iaload, 1, 0, 0, 0, 0) := by decide +kernel
theorem k_141_65 : COD 141 65 = some (.aload_n 1, 1, 0, 0, 0, 0) := by decide +kernel
theorem k_141_66 : COD 141 66 = some (.getfield 83, 3, 9, 2, 1103, 0) := by decide +kernel
theorem k_141_69 : COD 141 69 = some (.iconst 2, 1, 0, 0, 0, 0) := by decide +kernel
theorem k_141_70 : COD 141 70 = some (.iload_n 2, 1, 0, 0, 0, 0) := by decide +kernel
theorem k_141_71 : COD 141 71 = some (.imul, 1, 0, 0, 0, 0) := by decide +kernel
theorem k_141_72 : COD 141 72 = some (.iconst 1, 1, 0, 0, 0, 0) := by decide +kernel
theorem k_141_73 : COD 141 73 = some (.iadd, 1, 0, 0, 0, 0) := by decide +kernel
theorem k_141_74 : COD 141 74 = some (.iaload, 1, 0, 0, 0, 0) := by decide +kernel
theorem k_141_75 : COD 141 75 = some (.invokestatic 115, 3, 226, 2, 1285, 0) := by decide +kernel
theorem k_141_78 : COD 141 78 = some (.iastore, 1, 0, 0, 0, 0) := by decide +kernel
theorem k_141_79 : COD 141 79 = some (.return_, 1, 0, 0, 0, 0) := by decide +kernel
theorem k_142_0 : COD 142 0 = some (.aload_n 0, 1, 0, 0, 0, 0) := by decide +kernel
theorem k_142_1 : COD 142 1 = some (.dup, 1, 0, 0, 0, 0) := by decide +kernel
theorem k_142_2 : COD 142 2 = some (.getfield 118, 3, 10, 16, 1157, 0) := by decide +kernel
theorem k_142_5 : COD 142 5 = some (.iconst 1, 1, 0, 0, 0, 0) := by decide +kernel
theorem k_142_6 : COD 142 6 = some (.iadd, 1, 0, 0, 0, 0) := by decide +kernel
theorem k_142_7 : COD 142 7 = some (.putfield 118, 3, 10, 16, 1157, 0) := by decide +kernel
theorem k_142_10 : COD 142 10 = some (.aload_n 0, 1, 0, 0, 0, 0) := by decide +kernel
theorem k_142_11 : COD 142 11 = some (.dup, 1, 0, 0, 0, 0) := by decide +kernel
theorem k_142_12 : COD 142 12 = some (.getfield 121, 3, 10, 17, 1158, 0) := by decide +kernel
theorem k_142_15 : COD 142 15 = some (.aload_n 1, 1, 0, 0, 0, 0) := by decide +kernel
theorem k_142_16 : COD 142 16 = some (.getfield 73, 3, 9, 0, 1099, 0) := by decide +kernel
theorem k_142_19 : COD 142 19 = some (.iload_n 2, 1, 0, 0, 0, 0) := by decide +kernel
theorem k_142_20 : COD 142 20 = some (.laload, 1, 0, 0, 0, 0) := by decide +kernel
theorem k_142_21 : COD 142 21 = some (.ladd, 1, 0, 0, 0, 0) := by decide +kernel
theorem k_142_22 : COD 142 22 = some (.putfield 121, 3, 10, 17, 1158, 0) := by decide +kernel
theorem k_142_25 : COD 142 25 = some (.aload_n 0, 1, 0, 0, 0, 0) := by decide +kernel
theorem k_142_26 : COD 142 26 = some (.aload_n 0, 1, 0, 0, 0, 0) := by decide +kernel
theorem k_142_27 : COD 142 27 = some (.getfield 125, 3, 10, 18, 1159, 0) := by decide +kernel
theorem k_142_30 : COD 142 30 = some (.aload_n 1, 1, 0, 0, 0, 0) := by decide +kernel
theorem k_142_31 : COD 142 31 = some (.getfield 80, 3, 9, 1, 1101, 0) := by decide +kernel
theorem k_142_34 : COD 142 34 = some (.iload_n 2, 1, 0, 0, 0, 0) := by decide +kernel
theorem k_142_35 : COD 142 35 = some (.iaload, 1, 0, 0, 0, 0) := by decide +kernel
theorem k_142_36 : COD 142 36 = some (.invokestatic 109, 3, 225, 2, 1475, 0) := by decide +kernel
theorem k_142_39 : COD 142 39 = some (.putfield 125, 3, 10, 18, 1159, 0) := by decide +kernel
theorem k_142_42 : COD 142 42 = some (.aload_n 0, 1, 0, 0, 0, 0) := by decide +kernel
theorem k_142_43 : COD 142 43 = some (.aload_n 0, 1, 0, 0, 0, 0) := by decide +kernel
theorem k_142_44 : COD 142 44 = some (.getfield 128, 3, 10, 19, 1160, 0) := by decide +kernel
theorem k_142_47 : COD 142 47 = some (.aload_n 1, 1, 0, 0, 0, 0) := by decide +kernel
theorem k_142_48 : COD 142 48 = some (.getfield 83, 3, 9, 2, 1103, 0) := by decide +kernel
theorem k_142_51 : COD 142 51 = some (.iload_n 2, 1, 0, 0, 0, 0) := by decide +kernel
theorem k_142_52 : COD 142 52 = some (.iaload, 1, 0, 0, 0, 0) := by decide +kernel
theorem k_142_53 : COD 142 53 = some (.invokestatic 115, 3, 226, 2, 1285, 0) := by decide +kernel
theorem k_142_56 : COD 142 56 = some (.putfield 128, 3, 10, 19, 1160, 0) := by decide +kernel
theorem k_142_59 : COD 142 59 = some (.iload_n 3, 1, 0, 0, 0, 0) := by decide +kernel
theorem k_142_60 : COD 142 60 = some (.iconst 1, 1, 0, 0, 0, 0) := by decide +kernel
theorem k_142_61 : COD 142 61 = some (.if_icmp .ne 11, 3, 72, 0, 0, 0) := by decide +kernel
theorem k_142_64 : COD 142 64 = some (.aload_n 0, 1, 0, 0, 0, 0) := by decide +kernel
theorem k_142_65 : COD 142 65 = some (.aload_n 1, 1, 0, 0, 0, 0) := by decide +kernel
theorem k_142_66 : COD 142 66 = some (.iload_n 2, 1, 0, 0, 0, 0) := by decide +kernel
theorem k_142_67 : COD 142 67 = some (.iload 4, 2, 0, 0, 0, 0) := by decide +kernel
theorem k_142_69 : COD 142 69 = some (.invokevirtual 106, 3, 139, 3, 1476, 10) := by decide +kernel
theorem k_142_72 : COD 142 72 = some (.iload_n 3, 1, 0, 0, 0, 0) := by decide +kernel
theorem k_142_73 : COD 142 73 = some (.iconst 2, 1, 0, 0, 0, 0) := by decide +kernel
theorem k_142_74 : COD 142 74 = some (.if_icmp .ne 11, 3, 85, 0, 0, 0) := by decide +kernel
theorem k_142_77 : COD 142 77 = some (.aload_n 0, 1, 0, 0, 0, 0) := by decide +kernel
theorem k_142_78 : COD 142 78 = some (.aload_n 1, 1, 0, 0, 0, 0) := by decide +kernel
theorem k_142_79 : COD 142 79 = some (.iload_n 2, 1, 0, 0, 0, 0) := by decide +kernel
theorem k_142_80 : COD 142 80 = some (.iload 4, 2, 0, 0, 0, 0) := by decide +kernel
theorem k_142_82 : COD 142 82 = some (.invokevirtual 102, 3, 138, 3, 1484, 10) := by decide +kernel
theorem k_142_85 : COD 142 85 = some (.return_, 1, 0, 0, 0, 0) := by decide +kernel
theorem k_143_0 : COD 143 0 = some (.aload_n 0, 1, 0, 0, 0, 0) := by decide +kernel
theorem k_143_1 : COD 143 1 = some (.getfield 47, 3, 10, 14, 1155, 0) := by decide +kernel
theorem k_143_4 : COD 143 4 = some (.iload_n 2, 1, 0, 0, 0, 0) := by decide +kernel
theorem k_143_5 : COD 143 5 = some (.iaload, 1, 0, 0, 0, 0) := by decide +kernel
theorem k_143_6 : COD 143 6 = some (.iload_n 3, 1, 0, 0, 0, 0) := by decide +kernel
theorem k_143_7 : COD 143 7 = some (.if_icmp .lt 25, 3, 32, 0, 0, 0) := by decide +kernel
theorem k_143_10 : COD 143 10 = some (.aload_n 0, 1, 0, 0, 0, 0) := by decide +kernel
theorem k_143_11 : COD 143 11 = some (.getfield 50, 3, 10, 15, 1156, 0) := by decide +kernel
theorem k_143_14 : COD 143 14 = some (.iload_n 2, 1, 0, 0, 0, 0) := by decide +kernel
theorem k_143_15 : COD 143 15 = some (.iaload, 1, 0, 0, 0, 0) := by decide +kernel
theorem k_143_16 : COD 143 16 = some (.iload 4, 2, 0, 0, 0, 0) := by decide +kernel
theorem k_143_18 : COD 143 18 = some (.if_icmp .gt 14, 3, 32, 0, 0, 0) := by decide +kernel
theorem k_143_21 : COD 143 21 = some (.aload_n 0, 1, 0, 0, 0, 0) := by decide +kernel
theorem k_143_22 : COD 143 22 = some (.aload_n 1, 1, 0, 0, 0, 0) := by decide +kernel
theorem k_143_23 : COD 143 23 = some (.iload_n 2, 1, 0, 0, 0, 0) := by decide +kernel
theorem k_143_24 : COD 143 24 = some (.iload 5, 2, 0, 0, 0, 0) := by decide +kernel
theorem k_143_26 : COD 143 26 = some (.iload 6, 2, 0, 0, 0, 0) := by decide +kernel
theorem k_143_28 : COD 143 28 = some (.invokevirtual 131, 3, 142, 4, 1471, 10) := by decide +kernel
theorem k_143_31 : COD 143 31 = some (.return_, 1, 0, 0, 0, 0) := by decide +kernel
theorem k_143_32 : COD 143 32 = some (.aload_n 0, 1, 0, 0, 0, 0) := by decide +kernel
theorem k_143_33 : COD 143 33 = some (.aload_n 1, 1, 0, 0, 0, 0) := by decide +kernel
theorem k_143_34 : COD 143 34 = some (.iload_n 2, 1, 0, 0, 0, 0) := by decide +kernel
theorem k_143_35 : COD 143 35 = some (.invokevirtual 135, 3, 140, 2, 1488, 10) := by decide +kernel
theorem k_143_38 : COD 143 38 = some (.iconst 2, 1, 0, 0, 0, 0) := by decide +kernel
theorem k_143_39 : COD 143 39 = some (.iload_n 2, 1, 0, 0, 0, 0) := by decide +kernel
theorem k_143_40 : COD 143 40 = some (.imul, 1, 0, 0, 0, 0) := by decide +kernel
theorem k_143_41 : COD 143 41 = some (.istore 7, 2, 0, 0, 0, 0) := by decide +kernel
theorem k_143_43 : COD 143 43 = some (.iload 7, 2, 0, 0, 0, 0) := by decide +kernel
theorem k_143_45 : COD 143 45 = some (.iconst 2, 1, 0, 0, 0, 0) := by decide +kernel
theorem k_143_46 : COD 143 46 = some (.iload_n 2, 1, 0, 0, 0, 0) := by decide +kernel
theorem k_143_47 : COD 143 47 = some (.imul, 1, 0, 0, 0, 0) := by decide +kernel
theorem k_143_48 : COD 143 48 = some (.iconst 2, 1, 0, 0, 0, 0) := by decide +kernel
theorem k_143_49 : COD 143 49 = some (.iadd, 1, 0, 0, 0, 0) := by decide +kernel
theorem k_143_50 : COD 143 50 = some (.if_icmp .ge 46, 3, 96, 0, 0, 0) := by decide +kernel
theorem k_143_53 : COD 143 53 = some (.aload_n 0, 1, 0, 0, 0, 0) := by decide +kernel
theorem k_143_54 : COD 143 54 = some (.getfield 47, 3, 10, 14, 1155, 0) := by decide +kernel
theorem k_143_57 : COD 143 57 = some (.iload 7, 2, 0, 0, 0, 0) := by decide +kernel
theorem k_143_59 : COD 143 59 = some (.iaload, 1, 0, 0, 0, 0) := by decide +kernel
theorem k_143_60 : COD 143 60 = some (.iload 4, 2, 0, 0, 0, 0) := by decide +kernel
theorem k_143_62 : COD 143 62 = some (.if_icmp .gt 28, 3, 90, 0, 0, 0) := by decide +kernel
theorem k_143_65 : COD 143 65 = some (.aload_n 0, 1, 0, 0, 0, 0) := by decide +kernel
theorem k_143_66 : COD 143 66 = some (.getfield 50, 3, 10, 15, 1156, 0) := by decide +kernel
theorem k_143_69 : COD 143 69 = some (.iload 7, 2, 0, 0, 0, 0) := by decide +kernel
theorem k_143_71 : COD 143 71 = some (.iaload, 1, 0, 0, 0, 0) := by decide +kernel
theorem k_143_72 : COD 143 72 = some (.iload_n 3, 1, 0, 0, 0, 0) := by decide +kernel
theorem k_143_73 : COD 143 73 = some (.if_icmp .lt 17, 3, 90, 0, 0, 0) := by decide +kernel
theorem k_143_76 : COD 143 76 = some (.aload_n 0, 1, 0, 0, 0, 0) := by decide +kernel
theorem k_143_77 : COD 143 77 = some (.aload_n 1, 1, 0, 0, 0, 0) := by decide +kernel
theorem k_143_78 : COD 143 78 = some (.iload 7, 2, 0, 0, 0, 0) := by decide +kernel
theorem k_143_80 : COD 143 80 = some (.iload_n 3, 1, 0, 0, 0, 0) := by decide +kernel
theorem k_143_81 : COD 143 81 = some (.iload 4, 2, 0, 0, 0, 0) := by decide +kernel
theorem k_143_83 : COD 143 83 = some (.iload 5, 2, 0, 0, 0, 0) := by decide +kernel
theorem k_143_85 : COD 143 85 = some (.iload 6, 2, 0, 0, 0, 0) := by decide +kernel
theorem k_143_87 : COD 143 87 = some (.invokevirtual 139, 3, 143, 6, 1467, 10) := by decide +kernel
theorem k_143_90 : COD 143 90 = some (.iinc 7 1, 3, 0, 0, 0, 0) := by decide +kernel
theorem k_143_93 : COD 143 93 = some (.goto (-50), 3, 43, 0, 0, 0) := by decide +kernel
theorem k_143_96 : COD 143 96 = some (.aload_n 0, 1, 0, 0, 0, 0) := by decide +kernel
theorem k_143_97 : COD 143 97 = some (.aload_n 1, 1, 0, 0, 0, 0) := by decide +kernel
theorem k_143_98 : COD 143 98 = some (.iload_n 2, 1, 0, 0, 0, 0) := by decide +kernel
theorem k_143_99 : COD 143 99 = some (.invokevirtual 143, 3, 141, 2, 1492, 10) := by decide +kernel
theorem k_143_102 : COD 143 102 = some (.return_, 1, 0, 0, 0, 0) := by decide +kernel
theorem k_144_0 : COD 144 0 = some (.aload_n 0, 1, 0, 0, 0, 0) := by decide +kernel
theorem k_144_1 : COD 144 1 = some (.iconst 0, 1, 0, 0, 0, 0) := by decide +kernel
theorem k_144_2 : COD 144 2 = some (.putfield 118, 3, 10, 16, 1157, 0) := by decide +kernel
theorem k_144_5 : COD 144 5 = some (.aload_n 0, 1, 0, 0, 0, 0) := by decide +kernel
theorem k_144_6 : COD 144 6 = some (.lconst 0, 1, 0, 0, 0, 0) := by decide +kernel
theorem k_144_7 : COD 144 7 = some (.putfield 121, 3, 10, 17, 1158, 0) := by decide +kernel
theorem k_144_10 : COD 144 10 = some (.aload_n 0, 1, 0, 0, 0, 0) := by decide +kernel
theorem k_144_11 : COD 144 11 = some (.ldc 148, 2, 0, 0, 1465, 0) := by decide +kernel
theorem k_144_13 : COD 144 13 = some (.putfield 125, 3, 10, 18, 1159, 0) := by decide +kernel
theorem k_144_16 : COD 144 16 = some (.aload_n 0, 1, 0, 0, 0, 0) := by decide +kernel
theorem k_144_17 : COD 144 17 = some (.ldc 149, 2, 1, 0, 1466, 0) := by decide +kernel
theorem k_144_19 : COD 144 19 = some (.putfield 128, 3, 10, 19, 1160, 0) := by decide +kernel
theorem k_144_22 : COD 144 22 = some (.aload_n 0, 1, 0, 0, 0, 0) := by decide +kernel
theorem k_144_23 : COD 144 23 = some (.aload_n 1, 1, 0, 0, 0, 0) := by decide +kernel
theorem k_144_24 : COD 144 24 = some (.iconst 1, 1, 0, 0, 0, 0) := by decide +kernel
theorem k_144_25 : COD 144 25 = some (.iload_n 2, 1, 0, 0, 0, 0) := by decide +kernel
theorem k_144_26 : COD 144 26 = some (.iload_n 3, 1, 0, 0, 0, 0) := by decide +kernel
theorem k_144_27 : COD 144 27 = some (.iload 4, 2, 0, 0, 0, 0) := by decide +kernel
theorem k_144_29 : COD 144 29 = some (.iload 5, 2, 0, 0, 0, 0) := by decide +kernel
theorem k_144_31 : COD 144 31 = some (.invokevirtual 139, 3, 143, 6, 1467, 10) := by decide +kernel
theorem k_144_34 : COD 144 34 = some (.return_, 1, 0, 0, 0, 0) := by decide +kernel
theorem k_145_0 : COD 145 0 = some (.iconst 0, 1, 0, 0, 0, 0) := by decide +kernel
theorem k_145_1 : COD 145 1 = some (.istore_n 2, 1, 0, 0, 0, 0) := by decide +kernel
theorem k_145_2 : COD 145 2 = some (.iconst 1, 1, 0, 0, 0, 0) := by decide +kernel
theorem k_145_3 : COD 145 3 = some (.istore_n 3, 1, 0, 0, 0, 0) := by decide +kernel
theorem k_145_4 : COD 145 4 = some (.iload_n 3, 1, 0, 0, 0, 0) := by decide +kernel
theorem k_145_5 : COD 145 5 = some (.bipush 64, 2, 0, 0, 0, 0) := by decide +kernel
theorem k_145_7 : COD 145 7 = some (.if_icmp .ge 33, 3, 40, 0, 0, 0) := by decide +kernel
theorem k_145_10 : COD 145 10 = some (.iload_n 2, 1, 0, 0, 0, 0) := by decide +kernel
theorem k_145_11 : COD 145 11 = some (.aload_n 0, 1, 0, 0, 0, 0) := by decide +kernel
theorem k_145_12 : COD 145 12 = some (.iload_n 3, 1, 0, 0, 0, 0) := by decide +kernel
theorem k_145_13 : COD 145 13 = some (.invokevirtual 150, 3, 135, 1, 1374, 10) := by decide +kernel
theorem k_145_16 : COD 145 16 = some (.ifCond .eq 15, 3, 31, 0, 0, 0) := by decide +kernel
theorem k_145_19 : COD 145 19 = some (.aload_n 1, 1, 0, 0, 0, 0) := by decide +kernel
theorem k_145_20 : COD 145 20 = some (.iload_n 3, 1, 0, 0, 0, 0) := by decide +kernel
theorem k_145_21 : COD 145 21 = some (.invokevirtual 96, 3, 126, 1, 1378, 9) := by decide +kernel
theorem k_145_24 : COD 145 24 = some (.ifCond .eq 7, 3, 31, 0, 0, 0) := by decide +kernel
theorem k_145_27 : COD 145 27 = some (.iconst 1, 1, 0, 0, 0, 0) := by decide +kernel
theorem k_145_28 : COD 145 28 = some (.goto 4, 3, 32, 0, 0, 0) := by decide +kernel
theorem k_145_31 : COD 145 31 = some (.iconst 0, 1, 0, 0, 0, 0) := by decide +kernel
theorem k_145_32 : COD 145 32 = some (.iadd, 1, 0, 0, 0, 0) := by decide +kernel
theorem k_145_33 : COD 145 33 = some (.istore_n 2, 1, 0, 0, 0, 0) := by decide +kernel
theorem k_145_34 : COD 145 34 = some (.iinc 3 1, 3, 0, 0, 0, 0) := by decide +kernel
theorem k_145_37 : COD 145 37 = some (.goto (-33), 3, 4, 0, 0, 0) := by decide +kernel
theorem k_145_40 : COD 145 40 = some (.iload_n 2, 1, 0, 0, 0, 0) := by decide +kernel
theorem k_145_41 : COD 145 41 = some (.ireturn, 1, 0, 0, 0, 0) := by decide +kernel
theorem k_146_0 : COD 146 0 = some (.iconst 1, 1, 0, 0, 0, 0) := by decide +kernel
theorem k_146_1 : COD 146 1 = some (.istore_n 2, 1, 0, 0, 0, 0) := by decide +kernel
theorem k_146_2 : COD 146 2 = some (.aload_n 0, 1, 0, 0, 0, 0) := by decide +kernel
theorem k_146_3 : COD 146 3 = some (.iload_n 2, 1, 0, 0, 0, 0) := by decide +kernel
theorem k_146_4 : COD 146 4 = some (.invokevirtual 69, 3, 136, 1, 1137, 10) := by decide +kernel
theorem k_146_7 : COD 146 7 = some (.ifCond .eq 30, 3, 37, 0, 0, 0) := by decide +kernel
theorem k_146_10 : COD 146 10 = some (.iload_n 1, 1, 0, 0, 0, 0) := by decide +kernel
theorem k_146_11 : COD 146 11 = some (.aload_n 0, 1, 0, 0, 0, 0) := by decide +kernel
theorem k_146_12 : COD 146 12 = some (.getfield 50, 3, 10, 15, 1156, 0) := by decide +kernel
theorem k_146_15 : COD 146 15 = some (.iconst 2, 1, 0, 0, 0, 0) := by decide +kernel
theorem k_146_16 : COD 146 16 = some (.iload_n 2, 1, 0, 0, 0, 0) := by decide +kernel
theorem k_146_17 : COD 146 17 = some (.imul, 1, 0, 0, 0, 0) := by decide +kernel
theorem k_146_18 : COD 146 18 = some (.iaload, 1, 0, 0, 0, 0) := by decide +kernel
theorem k_146_19 : COD 146 19 = some (.if_icmp .gt 9, 3, 28, 0, 0, 0) := by decide +kernel
theorem k_146_22 : COD 146 22 = some (.iconst 2, 1, 0, 0, 0, 0) := by decide +kernel
theorem k_146_23 : COD 146 23 = some (.iload_n 2, 1, 0, 0, 0, 0) := by decide +kernel
theorem k_146_24 : COD 146 24 = some (.imul, 1, 0, 0, 0, 0) := by decide +kernel
theorem k_146_25 : COD 146 25 = some (.goto 8, 3, 33, 0, 0, 0) := by decide +kernel
theorem k_146_28 : COD 146 28 = some (.iconst 2, 1, 0, 0, 0, 0) := by decide +kernel
theorem k_146_29 : COD 146 29 = some (.iload_n 2, 1, 0, 0, 0, 0) := by decide +kernel
theorem k_146_30 : COD 146 30 = some (.imul, 1, 0, 0, 0, 0) := by decide +kernel
theorem k_146_31 : COD 146 31 = some (.iconst 1, 1, 0, 0, 0, 0) := by decide +kernel
theorem k_146_32 : COD 146 32 = some (.iadd, 1, 0, 0, 0, 0) := by decide +kernel
theorem k_146_33 : COD 146 33 = some (.istore_n 2, 1, 0, 0, 0, 0) := by decide +kernel
theorem k_146_34 : COD 146 34 = some (.goto (-32), 3, 2, 0, 0, 0) := by decide +kernel
theorem k_146_37 : COD 146 37 = some (.iload_n 2, 1, 0, 0, 0, 0) := by decide +kernel
theorem k_146_38 : COD 146 38 = some (.ireturn, 1, 0, 0, 0, 0) := by decide +kernel
theorem k_147_0 : COD 147 0 = some (.aload_n 0, 1, 0, 0, 0, 0) := by decide +kernel
theorem k_147_1 : COD 147 1 = some (.iload_n 2, 1, 0, 0, 0, 0) := by decide +kernel
theorem k_147_2 : COD 147 2 = some (.invokevirtual 153, 3, 146, 1, 1434, 10) := by decide +kernel
theorem k_147_5 : COD 147 5 = some (.istore_n 3, 1, 0, 0, 0, 0) := by decide +kernel
theorem k_147_6 : COD 147 6 = some (.aload_n 1, 1, 0, 0, 0, 0) := by decide +kernel
theorem k_147_7 : COD 147 7 = some (.getfield 83, 3, 9, 2, 1103, 0) := by decide +kernel
theorem k_147_10 : COD 147 10 = some (.iload_n 3, 1, 0, 0, 0, 0) := by decide +kernel
theorem k_147_11 : COD 147 11 = some (.iaload, 1, 0, 0, 0, 0) := by decide +kernel
theorem k_147_12 : COD 147 12 = some (.istore 4, 2, 0, 0, 0, 0) := by decide +kernel
theorem k_147_14 : COD 147 14 = some (.iload_n 3, 1, 0, 0, 0, 0) := by decide +kernel
theorem k_147_15 : COD 147 15 = some (.iconst 2, 1, 0, 0, 0, 0) := by decide +kernel
theorem k_147_16 : COD 147 16 = some (.idiv, 1, 0, 0, 0, 0) := by decide +kernel
theorem k_147_17 : COD 147 17 = some (.istore_n 3, 1, 0, 0, 0, 0) := by decide +kernel
theorem k_147_18 : COD 147 18 = some (.iload_n 3, 1, 0, 0, 0, 0) := by decide +kernel
theorem k_147_19 : COD 147 19 = some (.ifCond .le 39, 3, 58, 0, 0, 0) := by decide +kernel
theorem k_147_22 : COD 147 22 = some (.aload_n 1, 1, 0, 0, 0, 0) := by decide +kernel
theorem k_147_23 : COD 147 23 = some (.getfield 86, 3, 9, 4, 1107, 0) := by decide +kernel
theorem k_147_26 : COD 147 26 = some (.iload_n 3, 1, 0, 0, 0, 0) := by decide +kernel
theorem k_147_27 : COD 147 27 = some (.baload, 1, 0, 0, 0, 0) := by decide +kernel
theorem k_147_28 : COD 147 28 = some (.ifCond .eq 12, 3, 40, 0, 0, 0) := by decide +kernel
theorem k_147_31 : COD 147 31 = some (.aload_n 1, 1, 0, 0, 0, 0) := by decide +kernel
theorem k_147_32 : COD 147 32 = some (.getfield 90, 3, 9, 5, 1109, 0) := by decide +kernel
theorem k_147_35 : COD 147 35 = some (.iload_n 3, 1, 0, 0, 0, 0) := by decide +kernel
theorem k_147_36 : COD 147 36 = some (.iaload, 1, 0, 0, 0, 0) := by decide +kernel
theorem k_147_37 : COD 147 37 = some (.goto 5, 3, 42, 0, 0, 0) := by decide +kernel
theorem k_147_40 : COD 147 40 = some (.iload 4, 2, 0, 0, 0, 0) := by decide +kernel
theorem k_147_42 : COD 147 42 = some (.aload_n 1, 1, 0, 0, 0, 0) := by decide +kernel
theorem k_147_43 : COD 147 43 = some (.getfield 93, 3, 9, 3, 1105, 0) := by decide +kernel
theorem k_147_46 : COD 147 46 = some (.iload_n 3, 1, 0, 0, 0, 0) := by decide +kernel
theorem k_147_47 : COD 147 47 = some (.iaload, 1, 0, 0, 0, 0) := by decide +kernel
theorem k_147_48 : COD 147 48 = some (.iadd, 1, 0, 0, 0, 0) := by decide +kernel
theorem k_147_49 : COD 147 49 = some (.istore 4, 2, 0, 0, 0, 0) := by decide +kernel
theorem k_147_51 : COD 147 51 = some (.iload_n 3, 1, 0, 0, 0, 0) := by decide +kernel
theorem k_147_52 : COD 147 52 = some (.iconst 2, 1, 0, 0, 0, 0) := by decide +kernel
theorem k_147_53 : COD 147 53 = some (.idiv, 1, 0, 0, 0, 0) := by decide +kernel
theorem k_147_54 : COD 147 54 = some (.istore_n 3, 1, 0, 0, 0, 0) := by decide +kernel
theorem k_147_55 : COD 147 55 = some (.goto (-37), 3, 18, 0, 0, 0) := by decide +kernel
theorem k_147_58 : COD 147 58 = some (.iload 4, 2, 0, 0, 0, 0) := by decide +kernel
theorem k_147_60 : COD 147 60 = some (.ireturn, 1, 0, 0, 0, 0) := by decide +kernel
theorem k_148_0 : COD 148 0 = some (.iload_n 1, 1, 0, 0, 0, 0) := by decide +kernel
theorem k_148_1 : COD 148 1 = some (.aload_n 0, 1, 0, 0, 0, 0) := by decide +kernel
theorem k_148_2 : COD 148 2 = some (.getfield 20, 3, 10, 4, 1145, 0) := by decide +kernel
theorem k_148_5 : COD 148 5 = some (.getfield 62, 3, 8, 0, 1062, 0) := by decide +kernel
theorem k_148_8 : COD 148 8 = some (.invokestatic 157, 3, 224, 2, 1551, 0) := by decide +kernel
theorem k_148_11 : COD 148 11 = some (.ireturn, 1, 0, 0, 0, 0) := by decide +kernel
theorem k_149_0 : COD 149 0 = some (.sipush (-999), 3, 0, 0, 0, 0) := by decide +kernel
theorem k_149_3 : COD 149 3 = some (.sipush 999, 3, 0, 0, 0, 0) := by decide +kernel
theorem k_149_6 : COD 149 6 = some (.iload_n 0, 1, 0, 0, 0, 0) := by decide +kernel
theorem k_149_7 : COD 149 7 = some (.invokestatic 115, 3, 226, 2, 1285, 0) := by decide +kernel
theorem k_149_10 : COD 149 10 = some (.invokestatic 109, 3, 225, 2, 1475, 0) := by decide +kernel
theorem k_149_13 : COD 149 13 = some (.ireturn, 1, 0, 0, 0, 0) := by decide +kernel
theorem k_150_0 : COD 150 0 = some (.aload_n 0, 1, 0, 0, 0, 0) := by decide +kernel
theorem k_150_1 : COD 150 1 = some (.getfield 20, 3, 10, 4, 1145, 0) := by decide +kernel
theorem k_150_4 : COD 150 4 = some (.getfield 160, 3, 8, 3, 1067, 0) := by decide +kernel
theorem k_150_7 : COD 150 7 = some (.iconst 4, 1, 0, 0, 0, 0) := by decide +kernel
theorem k_150_8 : COD 150 8 = some (.iload_n 2, 1, 0, 0, 0, 0) := by decide +kernel
theorem k_150_9 : COD 150 9 = some (.imul, 1, 0, 0, 0, 0) := by decide +kernel
theorem k_150_10 : COD 150 10 = some (.iconst 3, 1, 0, 0, 0, 0) := by decide +kernel
theorem k_150_11 : COD 150 11 = some (.iadd, 1, 0, 0, 0, 0) := by decide +kernel
theorem k_150_12 : COD 150 12 = some (.iaload, 1, 0, 0, 0, 0) := by decide +kernel
theorem k_150_13 : COD 150 13 = some (.aload_n 0, 1, 0, 0, 0, 0) := by decide +kernel
theorem k_150_14 : COD 150 14 = some (.getfield 20, 3, 10, 4, 1145, 0) := by decide +kernel
theorem k_150_17 : COD 150 17 = some (.getfield 163, 3, 8, 4, 1069, 0) := by decide +kernel
theorem k_150_20 : COD 150 20 = some (.iconst 4, 1, 0, 0, 0, 0) := by decide +kernel
theorem k_150_21 : COD 150 21 = some (.iload_n 2, 1, 0, 0, 0, 0) := by decide +kernel
theorem k_150_22 : COD 150 22 = some (.imul, 1, 0, 0, 0, 0) := by decide +kernel
theorem k_150_23 : COD 150 23 = some (.iconst 3, 1, 0, 0, 0, 0) := by decide +kernel
theorem k_150_24 : COD 150 24 = some (.iadd, 1, 0, 0, 0, 0) := by decide +kernel
theorem k_150_25 : COD 150 25 = some (.iaload, 1, 0, 0, 0, 0) := by decide +kernel
theorem k_150_26 : COD 150 26 = some (.if_icmp .ge 15, 3, 41, 0, 0, 0) := by decide +kernel
theorem k_150_29 : COD 150 29 = some (.aload_n 0, 1, 0, 0, 0, 0) := by decide +kernel
theorem k_150_30 : COD 150 30 = some (.aload_n 1, 1, 0, 0, 0, 0) := by decide +kernel
theorem k_150_31 : COD 150 31 = some (.iload_n 2, 1, 0, 0, 0, 0) := by decide +kernel
theorem k_150_32 : COD 150 32 = some (.iconst 3, 1, 0, 0, 0, 0) := by decide +kernel
theorem k_150_33 : COD 150 33 = some (.invokevirtual 166, 3, 156, 3, 1536, 10) := by decide +kernel
theorem k_150_36 : COD 150 36 = some (.iconst 1, 1, 0, 0, 0, 0) := by decide +kernel
theorem k_150_37 : COD 150 37 = some (.if_icmp .eq 4, 3, 41, 0, 0, 0) := by decide +kernel
theorem k_150_40 : COD 150 40 = some (.return_, 1, 0, 0, 0, 0) := by decide +kernel
theorem k_150_41 : COD 150 41 = some (.aload_n 0, 1, 0, 0, 0, 0) := by decide +kernel
theorem k_150_42 : COD 150 42 = some (.getfield 20, 3, 10, 4, 1145, 0) := by decide +kernel
theorem k_150_45 : COD 150 45 = some (.getfield 170, 3, 8, 2, 1065, 0) := by decide +kernel
theorem k_150_48 : COD 150 48 = some (.iload_n 2, 1, 0, 0, 0, 0) := by decide +kernel
theorem k_150_49 : COD 150 49 = some (.iaload, 1, 0, 0, 0, 0) := by decide +kernel
theorem k_150_50 : COD 150 50 = some (.istore_n 3, 1, 0, 0, 0, 0) := by decide +kernel
theorem k_150_51 : COD 150 51 = some (.iload_n 3, 1, 0, 0, 0, 0) := by decide +kernel
theorem k_150_52 : COD 150 52 = some (.iconst 3, 1, 0, 0, 0, 0) := by decide +kernel
theorem k_150_53 : COD 150 53 = some (.if_icmp .ne 7, 3, 60, 0, 0, 0) := by decide +kernel
theorem k_150_56 : COD 150 56 = some (.iconst 0, 1, 0, 0, 0, 0) := by decide +kernel
theorem k_150_57 : COD 150 57 = some (.goto 13, 3, 70, 0, 0, 0) := by decide +kernel
theorem k_150_60 : COD 150 60 = some (.aload_n 0, 1, 0, 0, 0, 0) := by decide +kernel
theorem k_150_61 : COD 150 61 = some (.aload_n 1, 1, 0, 0, 0, 0) := by decide +kernel
theorem k_150_62 : COD 150 62 = some (.iload_n 2, 1, 0, 0, 0, 0) := by decide +kernel
theorem k_150_63 : COD 150 63 = some (.iconst 0, 1, 0, 0, 0, 0) := by decide +kernel
theorem k_150_64 : COD 150 64 = some (.invokevirtual 166, 3, 156, 3, 1536, 10) := by decide +kernel
theorem k_150_67 : COD 150 67 = some (.invokestatic 173, 3, 149, 1, 1558, 10) := by decide +kernel
theorem k_150_70 : COD 150 70 = some (.istore 4, 2, 0, 0, 0, 0) := by decide +kernel
theorem k_150_72 : COD 150 72 = some (.aload_n 0, 1, 0, 0, 0, 0) := by decide +kernel
theorem k_150_73 : COD 150 73 = some (.aload_n 0, 1, 0, 0, 0, 0) := by decide +kernel
theorem k_150_74 : COD 150 74 = some (.aload_n 1, 1, 0, 0, 0, 0) := by decide +kernel
theorem k_150_75 : COD 150 75 = some (.iload_n 2, 1, 0, 0, 0, 0) := by decide +kernel
theorem k_150_76 : COD 150 76 = some (.iconst 1, 1, 0, 0, 0, 0) := by decide +kernel
theorem k_150_77 : COD 150 77 = some (.invokevirtual 166, 3, 156, 3, 1536, 10) := by decide +kernel
theorem k_150_80 : COD 150 80 = some (.invokevirtual 176, 3, 148, 1, 1547, 10) := by decide +kernel
theorem k_150_83 : COD 150 83 = some (.istore 5, 2, 0, 0, 0, 0) := by decide +kernel
theorem k_150_85 : COD 150 85 = some (.aload_n 0, 1, 0, 0, 0, 0) := by decide +kernel
theorem k_150_86 : COD 150 86 = some (.aload_n 0, 1, 0, 0, 0, 0) := by decide +kernel
theorem k_150_87 : COD 150 87 = some (.aload_n 1, 1, 0, 0, 0, 0) := by decide +kernel
theorem k_150_88 : COD 150 88 = some (.iload_n 2, 1, 0, 0, 0, 0) := by decide +kernel
theorem k_150_89 : COD 150 89 = some (.iconst 2, 1, 0, 0, 0, 0) := by decide +kernel
theorem k_150_90 : COD 150 90 = some (.invokevirtual 166, 3, 156, 3, 1536, 10) := by decide +kernel
theorem k_150_93 : COD 150 93 = some (.invokevirtual 176, 3, 148, 1, 1547, 10) := by decide +kernel
theorem k_150_96 : COD 150 96 = some (.istore 6, 2, 0, 0, 0, 0) := by decide +kernel
theorem k_150_98 : COD 150 98 = some (.aload_n 0, 1, 0, 0, 0, 0) := by decide +kernel
theorem k_150_99 : COD 150 99 = some (.aload_n 1, 1, 0, 0, 0, 0) := by decide +kernel
theorem k_150_100 : COD 150 100 = some (.iload 5, 2, 0, 0, 0, 0) := by decide +kernel
theorem k_150_102 : COD 150 102 = some (.iload 6, 2, 0, 0, 0, 0) := by decide +kernel
theorem k_150_104 : COD 150 104 = some (.invokestatic 115, 3, 226, 2, 1285, 0) := by decide +kernel
theorem k_150_107 : COD 150 107 = some (.iload 5, 2, 0, 0, 0, 0) := by decide +kernel
theorem k_150_109 : COD 150 109 = some (.iload 6, 2, 0, 0, 0, 0) := by decide +kernel
theorem k_150_111 : COD 150 111 = some (.invokestatic 109, 3, 225, 2, 1475, 0) := by decide +kernel
theorem k_150_114 : COD 150 114 = some (.iload_n 3, 1, 0, 0, 0, 0) := by decide +kernel
theorem k_150_115 : COD 150 115 = some (.iload 4, 2, 0, 0, 0, 0) := by decide +kernel
theorem k_150_117 : COD 150 117 = some (.invokevirtual 179, 3, 144, 5, 1461, 10) := by decide +kernel
theorem k_150_120 : COD 150 120 = some (.return_, 1, 0, 0, 0, 0) := by decide +kernel
theorem k_151_0 : COD 151 0 = some (.aload_n 1, 1, 0, 0, 0, 0) := by decide +kernel
theorem k_151_1 : COD 151 1 = some (.getfield 99, 3, 9, 7, 1113, 0) := by decide +kernel
theorem k_151_4 : COD 151 4 = some (.istore_n 3, 1, 0, 0, 0, 0) := by decide +kernel
theorem k_151_5 : COD 151 5 = some (.iconst 0, 1, 0, 0, 0, 0) := by decide +kernel
theorem k_151_6 : COD 151 6 = some (.istore 4, 2, 0, 0, 0, 0) := by decide +kernel
theorem k_151_8 : COD 151 8 = some (.iload 4, 2, 0, 0, 0, 0) := by decide +kernel
theorem k_151_10 : COD 151 10 = some (.iload_n 2, 1, 0, 0, 0, 0) := by decide +kernel
theorem k_151_11 : COD 151 11 = some (.if_icmp .ge 47, 3, 58, 0, 0, 0) := by decide +kernel
theorem k_151_14 : COD 151 14 = some (.iconst 0, 1, 0, 0, 0, 0) := by decide +kernel
theorem k_151_15 : COD 151 15 = some (.istore 5, 2, 0, 0, 0, 0) := by decide +kernel
theorem k_151_17 : COD 151 17 = some (.iload 5, 2, 0, 0, 0, 0) := by decide +kernel
theorem k_151_19 : COD 151 19 = some (.aload_n 0, 1, 0, 0, 0, 0) := by decide +kernel
theorem k_151_20 : COD 151 20 = some (.getfield 20, 3, 10, 4, 1145, 0) := by decide +kernel
theorem k_151_23 : COD 151 23 = some (.getfield 183, 3, 8, 1, 1063, 0) := by decide +kernel
theorem k_151_26 : COD 151 26 = some (.if_icmp .ge 16, 3, 42, 0, 0, 0) := by decide +kernel
theorem k_151_29 : COD 151 29 = some (.aload_n 0, 1, 0, 0, 0, 0) := by decide +kernel
theorem k_151_30 : COD 151 30 = some (.aload_n 1, 1, 0, 0, 0, 0) := by decide +kernel
theorem k_151_31 : COD 151 31 = some (.iload 5, 2, 0, 0, 0, 0) := by decide +kernel
theorem k_151_33 : COD 151 33 = some (.invokevirtual 186, 3, 150, 2, 1532, 10) := by decide +kernel
theorem k_151_36 : COD 151 36 = some (.iinc 5 1, 3, 0, 0, 0, 0) := by decide +kernel
theorem k_151_39 : COD 151 39 = some (.goto (-22), 3, 17, 0, 0, 0) := by decide +kernel
theorem k_151_42 : COD 151 42 = some (.aload_n 1, 1, 0, 0, 0, 0) := by decide +kernel
theorem k_151_43 : COD 151 43 = some (.dup, 1, 0, 0, 0, 0) := by decide +kernel
theorem k_151_44 : COD 151 44 = some (.getfield 189, 3, 9, 6, 1111, 0) := by decide +kernel
theorem k_151_47 : COD 151 47 = some (.iconst 1, 1, 0, 0, 0, 0) := by decide +kernel
theorem k_151_48 : COD 151 48 = some (.iadd, 1, 0, 0, 0, 0) := by decide +kernel
theorem k_151_49 : COD 151 49 = some (.putfield 189, 3, 9, 6, 1111, 0) := by decide +kernel
theorem k_151_52 : COD 151 52 = some (.iinc 4 1, 3, 0, 0, 0, 0) := by decide +kernel
theorem k_151_55 : COD 151 55 = some (.goto (-47), 3, 8, 0, 0, 0) := by decide +kernel
theorem k_151_58 : COD 151 58 = some (.aload_n 1, 1, 0, 0, 0, 0) := by decide +kernel
theorem k_151_59 : COD 151 59 = some (.getfield 99, 3, 9, 7, 1113, 0) := by decide +kernel
theorem k_151_62 : COD 151 62 = some (.iload_n 3, 1, 0, 0, 0, 0) := by decide +kernel
theorem k_151_63 : COD 151 63 = some (.isub, 1, 0, 0, 0, 0) := by decide +kernel
theorem k_151_64 : COD 151 64 = some (.ireturn, 1, 0, 0, 0, 0) := by decide +kernel
theorem k_152_0 : COD 152 0 = some (.iload_n 2, 1, 0, 0, 0, 0) := by decide +kernel
theorem k_152_1 : COD 152 1 = some (.lookupswitch 93 #[(7, 61), (8, 66), (9, 71), (10, 79), (11, 86), (100, 59)], 59, 0, 0, 0, 0) := by decide +kernel
theorem k_152_60 : COD 152 60 = some (.iload_n 3, 1, 0, 0, 0, 0) := by decide +kernel
theorem k_152_61 : COD 152 61 = some (.ireturn, 1, 0, 0, 0, 0) := by decide +kernel
theorem k_152_62 : COD 152 62 = some (.aload_n 1, 1, 0, 0, 0, 0) := by decide +kernel
theorem k_152_63 : COD 152 63 = some (.getfield 189, 3, 9, 6, 1111, 0) := by decide +kernel
theorem k_152_66 : COD 152 66 = some (.ireturn, 1, 0, 0, 0, 0) := by decide +kernel
theorem k_152_67 : COD 152 67 = some (.aload_n 1, 1, 0, 0, 0, 0) := by decide +kernel
theorem k_152_68 : COD 152 68 = some (.getfield 99, 3, 9, 7, 1113, 0) := by decide +kernel
theorem k_152_71 : COD 152 71 = some (.ireturn, 1, 0, 0, 0, 0) := by decide +kernel
theorem k_152_72 : COD 152 72 = some (.aload_n 1, 1, 0, 0, 0, 0) := by decide +kernel
theorem k_152_73 : COD 152 73 = some (.getfield 73, 3, 9, 0, 1099, 0) := by decide +kernel
theorem k_152_76 : COD 152 76 = some (.iconst 1, 1, 0, 0, 0, 0) := by decide +kernel
theorem k_152_77 : COD 152 77 = some (.laload, 1, 0, 0, 0, 0) := by decide +kernel
theorem k_152_78 : COD 152 78 = some (.l2i, 1, 0, 0, 0, 0) := by decide +kernel
theorem k_152_79 : COD 152 79 = some (.ireturn, 1, 0, 0, 0, 0) := by decide +kernel
theorem k_152_80 : COD 152 80 = some (.aload_n 1, 1, 0, 0, 0, 0) := by decide +kernel
theorem k_152_81 : COD 152 81 = some (.getfield 80, 3, 9, 1, 1101, 0) := by decide +kernel
theorem k_152_84 : COD 152 84 = some (.iconst 1, 1, 0, 0, 0, 0) := by decide +kernel
theorem k_152_85 : COD 152 85 = some (.iaload, 1, 0, 0, 0, 0) := by decide +kernel
theorem k_152_86 : COD 152 86 = some (.ireturn, 1, 0, 0, 0, 0) := by decide +kernel
theorem k_152_87 : COD 152 87 = some (.aload_n 1, 1, 0, 0, 0, 0) := by decide +kernel
theorem k_152_88 : COD 152 88 = some (.getfield 83, 3, 9, 2, 1103, 0) := by decide +kernel
theorem k_152_91 : COD 152 91 = some (.iconst 1, 1, 0, 0, 0, 0) := by decide +kernel
theorem k_152_92 : COD 152 92 = some (.iaload, 1, 0, 0, 0, 0) := by decide +kernel
theorem k_152_93 : COD 152 93 = some (.ireturn, 1, 0, 0, 0, 0) := by decide +kernel
theorem k_152_94 : COD 152 94 = some (.aload_n 0, 1, 0, 0, 0, 0) := by decide +kernel
theorem k_152_95 : COD 152 95 = some (.aload_n 1, 1, 0, 0, 0, 0) := by decide +kernel
theorem k_152_96 : COD 152 96 = some (.invokevirtual 192, 3, 145, 1, 1370, 10) := by decide +kernel
theorem k_152_99 : COD 152 99 = some (.ireturn, 1, 0, 0, 0, 0) := by decide +kernel
theorem k_153_0 : COD 153 0 = some (.iload_n 0, 1, 0, 0, 0, 0) := by decide +kernel
theorem k_153_1 : COD 153 1 = some (.bipush 100, 2, 0, 0, 0, 0) := by decide +kernel
theorem k_153_3 : COD 153 3 = some (.if_icmp .eq 14, 3, 17, 0, 0, 0) := by decide +kernel
theorem k_153_6 : COD 153 6 = some (.iload_n 0, 1, 0, 0, 0, 0) := by decide +kernel
theorem k_153_7 : COD 153 7 = some (.bipush 7, 2, 0, 0, 0, 0) := by decide +kernel
theorem k_153_9 : COD 153 9 = some (.bipush 12, 2, 0, 0, 0, 0) := by decide +kernel
theorem k_153_11 : COD 153 11 = some (.invokestatic 65, 3, 132, 3, 1221, 10) := by decide +kernel
theorem k_153_14 : COD 153 14 = some (.ifCond .eq 7, 3, 21, 0, 0, 0) := by decide +kernel
theorem k_153_17 : COD 153 17 = some (.iconst 1, 1, 0, 0, 0, 0) := by decide +kernel
theorem k_153_18 : COD 153 18 = some (.goto 4, 3, 22, 0, 0, 0) := by decide +kernel
theorem k_153_21 : COD 153 21 = some (.iconst 0, 1, 0, 0, 0, 0) := by decide +kernel
theorem k_153_22 : COD 153 22 = some (.ireturn, 1, 0, 0, 0, 1) := by decide +kernel
theorem k_154_0 : COD 154 0 = some (.iload_n 0, 1, 0, 0, 0, 0) := by decide +kernel
theorem k_154_1 : COD 154 1 = some (.ifCond .eq 7, 3, 8, 0, 0, 0) := by decide +kernel
theorem k_154_4 : COD 154 4 = some (.iconst 1, 1, 0, 0, 0, 0) := by decide +kernel
theorem k_154_5 : COD 154 5 = some (.goto 4, 3, 9, 0, 0, 0) := by decide +kernel
theorem k_154_8 : COD 154 8 = some (.iconst 0, 1, 0, 0, 0, 0) := by decide +kernel
theorem k_154_9 : COD 154 9 = some (.ireturn, 1, 0, 0, 0, 0) := by decide +kernel
theorem k_155_0 : COD 155 0 = some (.iload_n 0, 1, 0, 0, 0, 0) := by decide +kernel
theorem k_155_1 : COD 155 1 = some (.lookupswitch 217 #[(15, 213), (17, 131), (18, 137), (101, 107), (102, 111), (103, 115), (104, 119), (106, 143), (107, 157), (108, 171), (109, 185), (110, 199)], 107, 0, 0, 0, 0) := by decide +kernel
theorem k_155_108 : COD 155 108 = some (.iload_n 1, 1, 0, 0, 0, 0) := by decide +kernel
theorem k_155_109 : COD 155 109 = some (.iload_n 2, 1, 0, 0, 0, 0) := by decide +kernel
theorem k_155_110 : COD 155 110 = some (.iadd, 1, 0, 0, 0, 0) := by decide +kernel
theorem k_155_111 : COD 155 111 = some (.ireturn, 1, 0, 0, 0, 0) := by decide +kernel
theorem k_155_112 : COD 155 112 = some (.iload_n 1, 1, 0, 0, 0, 0) := by decide +kernel
theorem k_155_113 : COD 155 113 = some (.iload_n 2, 1, 0, 0, 0, 0) := by decide +kernel
theorem k_155_114 : COD 155 114 = some (.isub, 1, 0, 0, 0, 0) := by decide +kernel
theorem k_155_115 : COD 155 115 = some (.ireturn, 1, 0, 0, 0, 0) := by decide +kernel
theorem k_155_116 : COD 155 116 = some (.iload_n 1, 1, 0, 0, 0, 0) := by decide +kernel
theorem k_155_117 : COD 155 117 = some (.iload_n 2, 1, 0, 0, 0, 0) := by decide +kernel
theorem k_155_118 : COD 155 118 = some (.imul, 1, 0, 0, 0, 0) := by decide +kernel
theorem k_155_119 : COD 155 119 = some (.ireturn, 1, 0, 0, 0, 0) := by decide +kernel
theorem k_155_120 : COD 155 120 = some (.iload_n 2, 1, 0, 0, 0, 0) := by decide +kernel
theorem k_155_121 : COD 155 121 = some (.ifCond .ne 7, 3, 128, 0, 0, 0) := by decide +kernel
theorem k_155_124 : COD 155 124 = some (.iconst 0, 1, 0, 0, 0, 0) := by decide +kernel
theorem k_155_125 : COD 155 125 = some (.goto 6, 3, 131, 0, 0, 0) := by decide +kernel
theorem k_155_128 : COD 155 128 = some (.iload_n 1, 1, 0, 0, 0, 0) := by decide +kernel
theorem k_155_129 : COD 155 129 = some (.iload_n 2, 1, 0, 0, 0, 0) := by decide +kernel
theorem k_155_130 : COD 155 130 = some (.idiv, 1, 0, 0, 0, 0) := by decide +kernel
theorem k_155_131 : COD 155 131 = some (.ireturn, 1, 0, 0, 0, 0) := by decide +kernel
theorem k_155_132 : COD 155 132 = some (.iload_n 1, 1, 0, 0, 0, 0) := by decide +kernel
theorem k_155_133 : COD 155 133 = some (.iload_n 2, 1, 0, 0, 0, 0) := by decide +kernel
theorem k_155_134 : COD 155 134 = some (.invokestatic 115, 3, 226, 2, 1285, 0) := by decide +kernel
theorem k_155_137 : COD 155 137 = some (.ireturn, 1, 0, 0, 0, 0) := by decide +kernel
theorem k_155_138 : COD 155 138 = some (.iload_n 1, 1, 0, 0, 0, 0) := by decide +kernel
theorem k_155_139 : COD 155 139 = some (.iload_n 2, 1, 0, 0, 0, 0) := by decide +kernel
theorem k_155_140 : COD 155 140 = some (.invokestatic 109, 3, 225, 2, 1475, 0) := by decide +kernel
theorem k_155_143 : COD 155 143 = some (.ireturn, 1, 0, 0, 0, 0) := by decide +kernel
theorem k_155_144 : COD 155 144 = some (.iload_n 1, 1, 0, 0, 0, 0) := by decide +kernel
theorem k_155_145 : COD 155 145 = some (.iload_n 2, 1, 0, 0, 0, 0) := by decide +kernel
theorem k_155_146 : COD 155 146 = some (.if_icmp .ge 7, 3, 153, 0, 0, 0) := by decide +kernel
theorem k_155_149 : COD 155 149 = some (.iconst 1, 1, 0, 0, 0, 0) := by decide +kernel
theorem k_155_150 : COD 155 150 = some (.goto 4, 3, 154, 0, 0, 0) := by decide +kernel
theorem k_155_153 : COD 155 153 = some (.iconst 0, 1, 0, 0, 0, 0) := by decide +kernel
theorem k_155_154 : COD 155 154 = some (.invokestatic 196, 3, 154, 1, 1555, 10) := by decide +kernel
theorem k_155_157 : COD 155 157 = some (.ireturn, 1, 0, 0, 0, 0) := by decide +kernel
theorem k_155_158 : COD 155 158 = some (.iload_n 1, 1, 0, 0, 0, 0) := by decide +kernel
theorem k_155_159 : COD 155 159 = some (.iload_n 2, 1, 0, 0, 0, 0) := by decide +kernel
theorem k_155_160 : COD 155 160 = some (.if_icmp .le 7, 3, 167, 0, 0, 0) := by decide +kernel
theorem k_155_163 : COD 155 163 = some (.iconst 1, 1, 0, 0, 0, 0) := by decide +kernel
theorem k_155_164 : COD 155 164 = some (.goto 4, 3, 168, 0, 0, 0) := by decide +kernel
theorem k_155_167 : COD 155 167 = some (.iconst 0, 1, 0, 0, 0, 0) := by decide +kernel
theorem k_155_168 : COD 155 168 = some (.invokestatic 196, 3, 154, 1, 1555, 10) := by decide +kernel
theorem k_155_171 : COD 155 171 = some (.ireturn, 1, 0, 0, 0, 0) := by decide +kernel
theorem k_155_172 : COD 155 172 = some (.iload_n 1, 1, 0, 0, 0, 0) := by decide +kernel
theorem k_155_173 : COD 155 173 = some (.iload_n 2, 1, 0, 0, 0, 0) := by decide +kernel
theorem k_155_174 : COD 155 174 = some (.if_icmp .ne 7, 3, 181, 0, 0, 0) := by decide +kernel
theorem k_155_177 : COD 155 177 = some (.iconst 1, 1, 0, 0, 0, 0) := by decide +kernel
theorem k_155_178 : COD 155 178 = some (.goto 4, 3, 182, 0, 0, 0) := by decide +kernel
theorem k_155_181 : COD 155 181 = some (.iconst 0, 1, 0, 0, 0, 0) := by decide +kernel
theorem k_155_182 : COD 155 182 = some (.invokestatic 196, 3, 154, 1, 1555, 10) := by decide +kernel
theorem k_155_185 : COD 155 185 = some (.ireturn, 1, 0, 0, 0, 0) := by decide +kernel
theorem k_155_186 : COD 155 186 = some (.iload_n 1, 1, 0, 0, 0, 0) := by decide +kernel
theorem k_155_187 : COD 155 187 = some (.iload_n 2, 1, 0, 0, 0, 0) := by decide +kernel
theorem k_155_188 : COD 155 188 = some (.if_icmp .gt 7, 3, 195, 0, 0, 0) := by decide +kernel
theorem k_155_191 : COD 155 191 = some (.iconst 1, 1, 0, 0, 0, 0) := by decide +kernel
theorem k_155_192 : COD 155 192 = some (.goto 4, 3, 196, 0, 0, 0) := by decide +kernel
theorem k_155_195 : COD 155 195 = some (.iconst 0, 1, 0, 0, 0, 0) := by decide +kernel
theorem k_155_196 : COD 155 196 = some (.invokestatic 196, 3, 154, 1, 1555, 10) := by decide +kernel
theorem k_155_199 : COD 155 199 = some (.ireturn, 1, 0, 0, 0, 0) := by decide +kernel
theorem k_155_200 : COD 155 200 = some (.iload_n 1, 1, 0, 0, 0, 0) := by decide +kernel
theorem k_155_201 : COD 155 201 = some (.iload_n 2, 1, 0, 0, 0, 0) := by decide +kernel
theorem k_155_202 : COD 155 202 = some (.if_icmp .lt 7, 3, 209, 0, 0, 0) := by decide +kernel
theorem k_155_205 : COD 155 205 = some (.iconst 1, 1, 0, 0, 0, 0) := by decide +kernel
theorem k_155_206 : COD 155 206 = some (.goto 4, 3, 210, 0, 0, 0) := by decide +kernel
theorem k_155_209 : COD 155 209 = some (.iconst 0, 1, 0, 0, 0, 0) := by decide +kernel
theorem k_155_210 : COD 155 210 = some (.invokestatic 196, 3, 154, 1, 1555, 10) := by decide +kernel
theorem k_155_213 : COD 155 213 = some (.ireturn, 1, 0, 0, 0, 0) := by decide +kernel
theorem k_155_214 : COD 155 214 = some (.iload_n 1, 1, 0, 0, 0, 0) := by decide +kernel
theorem k_155_215 : COD 155 215 = some (.iload_n 2, 1, 0, 0, 0, 0) := by decide +kernel
theorem k_155_216 : COD 155 216 = some (.iand, 1, 0, 0, 0, 0) := by decide +kernel
theorem k_155_217 : COD 155 217 = some (.ireturn, 1, 0, 0, 0, 0) := by decide +kernel
theorem k_155_218 : COD 155 218 = some (.iload_n 1, 1, 0, 0, 0, 0) := by decide +kernel
theorem k_155_219 : COD 155 219 = some (.iload_n 2, 1, 0, 0, 0, 0) := by decide +kernel
theorem k_155_220 : COD 155 220 = some (.ior, 1, 0, 0, 0, 0) := by decide +kernel
theorem k_155_221 : COD 155 221 = some (.ireturn, 1, 0, 0, 0, 0) := by decide +kernel
theorem k_156_0 : COD 156 0 = some (.iconst 0, 1, 0, 0, 0, 0) := by decide +kernel
theorem k_156_1 : COD 156 1 = some (.istore 4, 2, 0, 0, 0, 0) := by decide +kernel
theorem k_156_3 : COD 156 3 = some (.aload_n 0, 1, 0, 0, 0, 0) := by decide +kernel
theorem k_156_4 : COD 156 4 = some (.getfield 20, 3, 10, 4, 1145, 0) := by decide +kernel
theorem k_156_7 : COD 156 7 = some (.getfield 160, 3, 8, 3, 1067, 0) := by decide +kernel
theorem k_156_10 : COD 156 10 = some (.iconst 4, 1, 0, 0, 0, 0) := by decide +kernel
theorem k_156_11 : COD 156 11 = some (.iload_n 2, 1, 0, 0, 0, 0) := by decide +kernel
theorem k_156_12 : COD 156 12 = some (.imul, 1, 0, 0, 0, 0) := by decide +kernel
theorem k_156_13 : COD 156 13 = some (.iload_n 3, 1, 0, 0, 0, 0) := by decide +kernel
theorem k_156_14 : COD 156 14 = some (.iadd, 1, 0, 0, 0, 0) := by decide +kernel
theorem k_156_15 : COD 156 15 = some (.iaload, 1, 0, 0, 0, 0) := by decide +kernel
theorem k_156_16 : COD 156 16 = some (.istore 5, 2, 0, 0, 0, 0) := by decide +kernel
theorem k_156_18 : COD 156 18 = some (.iload 5, 2, 0, 0, 0, 0) := by decide +kernel
theorem k_156_20 : COD 156 20 = some (.aload_n 0, 1, 0, 0, 0, 0) := by decide +kernel
theorem k_156_21 : COD 156 21 = some (.getfield 20, 3, 10, 4, 1145, 0) := by decide +kernel
theorem k_156_24 : COD 156 24 = some (.getfield 163, 3, 8, 4, 1069, 0) := by decide +kernel
theorem k_156_27 : COD 156 27 = some (.iconst 4, 1, 0, 0, 0, 0) := by decide +kernel
theorem k_156_28 : COD 156 28 = some (.iload_n 2, 1, 0, 0, 0, 0) := by decide +kernel
theorem k_156_29 : COD 156 29 = some (.imul, 1, 0, 0, 0, 0) := by decide +kernel
theorem k_156_30 : COD 156 30 = some (.iload_n 3, 1, 0, 0, 0, 0) := by decide +kernel
theorem k_156_31 : COD 156 31 = some (.iadd, 1, 0, 0, 0, 0) := by decide +kernel
theorem k_156_32 : COD 156 32 = some (.iaload, 1, 0, 0, 0, 0) := by decide +kernel
theorem k_156_33 : COD 156 33 = some (.if_icmp .ge 188, 3, 221, 0, 0, 0) := by decide +kernel
theorem k_156_36 : COD 156 36 = some (.aload_n 0, 1, 0, 0, 0, 0) := by decide +kernel
theorem k_156_37 : COD 156 37 = some (.getfield 20, 3, 10, 4, 1145, 0) := by decide +kernel
theorem k_156_40 : COD 156 40 = some (.getfield 200, 3, 8, 5, 1071, 0) := by decide +kernel
theorem k_156_43 : COD 156 43 = some (.iload 5, 2, 0, 0, 0, 0) := by decide +kernel
theorem k_156_45 : COD 156 45 = some (.iaload, 1, 0, 0, 0, 0) := by decide +kernel
theorem k_156_46 : COD 156 46 = some (.istore 6, 2, 0, 0, 0, 0) := by decide +kernel
theorem k_156_48 : COD 156 48 = some (.iload 6, 2, 0, 0, 0, 0) := by decide +kernel
theorem k_156_50 : COD 156 50 = some (.invokestatic 203, 3, 153, 1, 1540, 10) := by decide +kernel
theorem k_156_53 : COD 156 53 = some (.ifCond .eq 33, 3, 86, 0, 0, 0) := by decide +kernel
theorem k_156_56 : COD 156 56 = some (.aload_n 0, 1, 0, 0, 0, 0) := by decide +kernel
theorem k_156_57 : COD 156 57 = some (.getfield 53, 3, 10, 20, 1161, 0) := by decide +kernel
theorem k_156_60 : COD 156 60 = some (.iload 4, 2, 0, 0, 0, 0) := by decide +kernel
theorem k_156_62 : COD 156 62 = some (.aload_n 0, 1, 0, 0, 0, 0) := by decide +kernel
theorem k_156_63 : COD 156 63 = some (.aload_n 1, 1, 0, 0, 0, 0) := by decide +kernel
theorem k_156_64 : COD 156 64 = some (.iload 6, 2, 0, 0, 0, 0) := by decide +kernel
theorem k_156_66 : COD 156 66 = some (.aload_n 0, 1, 0, 0, 0, 0) := by decide +kernel
theorem k_156_67 : COD 156 67 = some (.getfield 20, 3, 10, 4, 1145, 0) := by decide +kernel
theorem k_156_70 : COD 156 70 = some (.getfield 206, 3, 8, 6, 1073, 0) := by decide +kernel
theorem k_156_73 : COD 156 73 = some (.iload 5, 2, 0, 0, 0, 0) := by decide +kernel
theorem k_156_75 : COD 156 75 = some (.iaload, 1, 0, 0, 0, 0) := by decide +kernel
theorem k_156_76 : COD 156 76 = some (.invokevirtual 209, 3, 152, 3, 1543, 10) := by decide +kernel
theorem k_156_79 : COD 156 79 = some (.iastore, 1, 0, 0, 0, 0) := by decide +kernel
theorem k_156_80 : COD 156 80 = some (.iinc 4 1, 3, 0, 0, 0, 0) := by decide +kernel
theorem k_156_83 : COD 156 83 = some (.goto 132, 3, 215, 0, 0, 0) := by decide +kernel
theorem k_156_86 : COD 156 86 = some (.iload 6, 2, 0, 0, 0, 0) := by decide +kernel
theorem k_156_88 : COD 156 88 = some (.bipush 105, 2, 0, 0, 0, 0) := by decide +kernel
theorem k_156_90 : COD 156 90 = some (.if_icmp .ne 25, 3, 115, 0, 0, 0) := by decide +kernel
theorem k_156_93 : COD 156 93 = some (.aload_n 0, 1, 0, 0, 0, 0) := by decide +kernel
theorem k_156_94 : COD 156 94 = some (.getfield 53, 3, 10, 20, 1161, 0) := by decide +kernel
theorem k_156_97 : COD 156 97 = some (.iload 4, 2, 0, 0, 0, 0) := by decide +kernel
theorem k_156_99 : COD 156 99 = some (.iconst 1, 1, 0, 0, 0, 0) := by decide +kernel
theorem k_156_100 : COD 156 100 = some (.isub, 1, 0, 0, 0, 0) := by decide +kernel
theorem k_156_101 : COD 156 101 = some (.aload_n 0, 1, 0, 0, 0, 0) := by decide +kernel
theorem k_156_102 : COD 156 102 = some (.getfield 53, 3, 10, 20, 1161, 0) := by decide +kernel
theorem k_156_105 : COD 156 105 = some (.iload 4, 2, 0, 0, 0, 0) := by decide +kernel
theorem k_156_107 : COD 156 107 = some (.iconst 1, 1, 0, 0, 0, 0) := by decide +kernel
theorem k_156_108 : COD 156 108 = some (.isub, 1, 0, 0, 0, 0) := by decide +kernel
theorem k_156_109 : COD 156 109 = some (.iaload, 1, 0, 0, 0, 0) := by decide +kernel
theorem k_156_110 : COD 156 110 = some (.ineg, 1, 0, 0, 0, 0) := by decide +kernel
theorem k_156_111 : COD 156 111 = some (.iastore, 1, 0, 0, 0, 0) := by decide +kernel
theorem k_156_112 : COD 156 112 = some (.goto 103, 3, 215, 0, 0, 0) := by decide +kernel
theorem k_156_115 : COD 156 115 = some (.iload 6, 2, 0, 0, 0, 0) := by decide +kernel
theorem k_156_117 : COD 156 117 = some (.bipush 14, 2, 0, 0, 0, 0) := by decide +kernel
theorem k_156_119 : COD 156 119 = some (.if_icmp .ne 26, 3, 145, 0, 0, 0) := by decide +kernel
theorem k_156_122 : COD 156 122 = some (.aload_n 0, 1, 0, 0, 0, 0) := by decide +kernel
theorem k_156_123 : COD 156 123 = some (.getfield 53, 3, 10, 20, 1161, 0) := by decide +kernel
theorem k_156_126 : COD 156 126 = some (.iload 4, 2, 0, 0, 0, 0) := by decide +kernel
theorem k_156_128 : COD 156 128 = some (.iconst 1, 1, 0, 0, 0, 0) := by decide +kernel
theorem k_156_129 : COD 156 129 = some (.isub, 1, 0, 0, 0, 0) := by decide +kernel
theorem k_156_130 : COD 156 130 = some (.iconst 1, 1, 0, 0, 0, 0) := by decide +kernel
theorem k_156_131 : COD 156 131 = some (.aload_n 0, 1, 0, 0, 0, 0) := by decide +kernel
theorem k_156_132 : COD 156 132 = some (.getfield 53, 3, 10, 20, 1161, 0) := by decide +kernel
theorem k_156_135 : COD 156 135 = some (.iload 4, 2, 0, 0, 0, 0) := by decide +kernel
theorem k_156_137 : COD 156 137 = some (.iconst 1, 1, 0, 0, 0, 0) := by decide +kernel
theorem k_156_138 : COD 156 138 = some (.isub, 1, 0, 0, 0, 0) := by decide +kernel
theorem k_156_139 : COD 156 139 = some (.iaload, 1, 0, 0, 0, 0) := by decide +kernel
theorem k_156_140 : COD 156 140 = some (.isub, 1, 0, 0, 0, 0) := by decide +kernel
theorem k_156_141 : COD 156 141 = some (.iastore, 1, 0, 0, 0, 0) := by decide +kernel
theorem k_156_142 : COD 156 142 = some (.goto 73, 3, 215, 0, 0, 0) := by decide +kernel
theorem k_156_145 : COD 156 145 = some (.iload 6, 2, 0, 0, 0, 0) := by decide +kernel
theorem k_156_147 : COD 156 147 = some (.bipush 13, 2, 0, 0, 0, 0) := by decide +kernel
theorem k_156_149 : COD 156 149 = some (.if_icmp .ne 33, 3, 182, 0, 0, 0) := by decide +kernel
theorem k_156_152 : COD 156 152 = some (.aload_n 0, 1, 0, 0, 0, 0) := by decide +kernel
theorem k_156_153 : COD 156 153 = some (.getfield 53, 3, 10, 20, 1161, 0) := by decide +kernel
theorem k_156_156 : COD 156 156 = some (.iload 4, 2, 0, 0, 0, 0) := by decide +kernel
theorem k_156_158 : COD 156 158 = some (.iconst 1, 1, 0, 0, 0, 0) := by decide +kernel
theorem k_156_159 : COD 156 159 = some (.isub, 1, 0, 0, 0, 0) := by decide +kernel
theorem k_156_160 : COD 156 160 = some (.aload_n 0, 1, 0, 0, 0, 0) := by decide +kernel
theorem k_156_161 : COD 156 161 = some (.aload_n 1, 1, 0, 0, 0, 0) := by decide +kernel
theorem k_156_162 : COD 156 162 = some (.aload_n 0, 1, 0, 0, 0, 0) := by decide +kernel
theorem k_156_163 : COD 156 163 = some (.aload_n 0, 1, 0, 0, 0, 0) := by decide +kernel
theorem k_156_164 : COD 156 164 = some (.getfield 53, 3, 10, 20, 1161, 0) := by decide +kernel
theorem k_156_167 : COD 156 167 = some (.iload 4, 2, 0, 0, 0, 0) := by decide +kernel
theorem k_156_169 : COD 156 169 = some (.iconst 1, 1, 0, 0, 0, 0) := by decide +kernel
theorem k_156_170 : COD 156 170 = some (.isub, 1, 0, 0, 0, 0) := by decide +kernel
theorem k_156_171 : COD 156 171 = some (.iaload, 1, 0, 0, 0, 0) := by decide +kernel
theorem k_156_172 : COD 156 172 = some (.invokevirtual 176, 3, 148, 1, 1547, 10) := by decide +kernel
theorem k_156_175 : COD 156 175 = some (.invokevirtual 212, 3, 147, 2, 1430, 10) := by decide +kernel
theorem k_156_178 : COD 156 178 = some (.iastore, 1, 0, 0, 0, 0) := by decide +kernel
theorem k_156_179 : COD 156 179 = some (.goto 36, 3, 215, 0, 0, 0) := by decide +kernel
theorem k_156_182 : COD 156 182 = some (.iinc 4 (-1), 3, 0, 0, 0, 0) := by decide +kernel
theorem k_156_185 : COD 156 185 = some (.aload_n 0, 1, 0, 0, 0, 0) := by decide +kernel
theorem k_156_186 : COD 156 186 = some (.getfield 53, 3, 10, 20, 1161, 0) := by decide +kernel
theorem k_156_189 : COD 156 189 = some (.iload 4, 2, 0, 0, 0, 0) := by decide +kernel
theorem k_156_191 : COD 156 191 = some (.iconst 1, 1, 0, 0, 0, 0) := by decide +kernel
theorem k_156_192 : COD 156 192 = some (.isub, 1, 0, 0, 0, 0) := by decide +kernel
theorem k_156_193 : COD 156 193 = some (.iload 6, 2, 0, 0, 0, 0) := by decide +kernel
theorem k_156_195 : COD 156 195 = some (.aload_n 0, 1, 0, 0, 0, 0) := by decide +kernel
theorem k_156_196 : COD 156 196 = some (.getfield 53, 3, 10, 20, 1161, 0) := by decide +kernel
theorem k_156_199 : COD 156 199 = some (.iload 4, 2, 0, 0, 0, 0) := by decide +kernel
theorem k_156_201 : COD 156 201 = some (.iconst 1, 1, 0, 0, 0, 0) := by decide +kernel
theorem k_156_202 : COD 156 202 = some (.isub, 1, 0, 0, 0, 0) := by decide +kernel
theorem k_156_203 : COD 156 203 = some (.iaload, 1, 0, 0, 0, 0) := by decide +kernel
theorem k_156_204 : COD 156 204 = some (.aload_n 0, 1, 0, 0, 0, 0) := by decide +kernel
theorem k_156_205 : COD 156 205 = some (.getfield 53, 3, 10, 20, 1161, 0) := by decide +kernel
theorem k_156_208 : COD 156 208 = some (.iload 4, 2, 0, 0, 0, 0) := by decide +kernel
theorem k_156_210 : COD 156 210 = some (.iaload, 1, 0, 0, 0, 0) := by decide +kernel
theorem k_156_211 : COD 156 211 = some (.invokestatic 216, 3, 155, 3, 1552, 10) := by decide +kernel
theorem k_156_214 : COD 156 214 = some (.iastore, 1, 0, 0, 0, 0) := by decide +kernel
theorem k_156_215 : COD 156 215 = some (.iinc 5 1, 3, 0, 0, 0, 0) := by decide +kernel
theorem k_156_218 : COD 156 218 = some (.goto (-200), 3, 18, 0, 0, 0) := by decide +kernel
theorem k_156_221 : COD 156 221 = some (.aload_n 0, 1, 0, 0, 0, 0) := by decide +kernel
theorem k_156_222 : COD 156 222 = some (.getfield 53, 3, 10, 20, 1161, 0) := by decide +kernel
theorem k_156_225 : COD 156 225 = some (.iconst 0, 1, 0, 0, 0, 0) := by decide +kernel
theorem k_156_226 : COD 156 226 = some (.iaload, 1, 0, 0, 0, 0) := by decide +kernel
theorem k_156_227 : COD 156 227 = some (.ireturn, 1, 0, 0, 0, 0) := by decide +kernel
theorem k_157_0 : COD 157 0 = some (.iload_n 1, 1, 0, 0, 0, 0) := by decide +kernel
theorem k_157_1 : COD 157 1 = some (.aload_n 0, 1, 0, 0, 0, 0) := by decide +kernel
theorem k_157_2 : COD 157 2 = some (.getfield 220, 3, 10, 2, 1143, 0) := by decide +kernel
theorem k_157_5 : COD 157 5 = some (.if_icmp .ge 12, 3, 17, 0, 0, 0) := by decide +kernel
theorem k_157_8 : COD 157 8 = some (.aload_n 0, 1, 0, 0, 0, 0) := by decide +kernel
theorem k_157_9 : COD 157 9 = some (.getfield 9, 3, 10, 1, 1142, 0) := by decide +kernel
theorem k_157_12 : COD 157 12 = some (.iload_n 1, 1, 0, 0, 0, 0) := by decide +kernel
theorem k_157_13 : COD 157 13 = some (.iaload, 1, 0, 0, 0, 0) := by decide +kernel
theorem k_157_14 : COD 157 14 = some (.goto 4, 3, 18, 0, 0, 0) := by decide +kernel
theorem k_157_17 : COD 157 17 = some (.iconst (-1), 1, 0, 0, 0, 0) := by decide +kernel
theorem k_157_18 : COD 157 18 = some (.ireturn, 1, 0, 0, 0, 0) := by decide +kernel
theorem k_158_0 : COD 158 0 = some (.iload_n 0, 1, 0, 0, 0, 0) := by decide +kernel
theorem k_158_1 : COD 158 1 = some (.bipush 97, 2, 0, 0, 0, 0) := by decide +kernel
theorem k_158_3 : COD 158 3 = some (.if_icmp .lt 13, 3, 16, 0, 0, 0) := by decide +kernel
theorem k_158_6 : COD 158 6 = some (.iload_n 0, 1, 0, 0, 0, 0) := by decide +kernel
theorem k_158_7 : COD 158 7 = some (.bipush 122, 2, 0, 0, 0, 0) := by decide +kernel
theorem k_158_9 : COD 158 9 = some (.if_icmp .gt 7, 3, 16, 0, 0, 0) := by decide +kernel
theorem k_158_12 : COD 158 12 = some (.iconst 1, 1, 0, 0, 0, 0) := by decide +kernel
theorem k_158_13 : COD 158 13 = some (.goto 4, 3, 17, 0, 0, 0) := by decide +kernel
theorem k_158_16 : COD 158 16 = some (.iconst 0, 1, 0, 0, 0, 0) := by decide +kernel
theorem k_158_17 : COD 158 17 = some (.ireturn, 1, 0, 0, 0, 1) := by decide +kernel
theorem k_159_0 : COD 159 0 = some (.iload_n 0, 1, 0, 0, 0, 0) := by decide +kernel
theorem k_159_1 : COD 159 1 = some (.bipush 48, 2, 0, 0, 0, 0) := by decide +kernel
theorem k_159_3 : COD 159 3 = some (.if_icmp .lt 13, 3, 16, 0, 0, 0) := by decide +kernel
theorem k_159_6 : COD 159 6 = some (.iload_n 0, 1, 0, 0, 0, 0) := by decide +kernel
theorem k_159_7 : COD 159 7 = some (.bipush 57, 2, 0, 0, 0, 0) := by decide +kernel
theorem k_159_9 : COD 159 9 = some (.if_icmp .gt 7, 3, 16, 0, 0, 0) := by decide +kernel
theorem k_159_12 : COD 159 12 = some (.iconst 1, 1, 0, 0, 0, 0) := by decide +kernel
theorem k_159_13 : COD 159 13 = some (.goto 4, 3, 17, 0, 0, 0) := by decide +kernel
theorem k_159_16 : COD 159 16 = some (.iconst 0, 1, 0, 0, 0, 0) := by decide +kernel
theorem k_159_17 : COD 159 17 = some (.ireturn, 1, 0, 0, 0, 1) := by decide +kernel
theorem k_160_0 : COD 160 0 = some (.aload_n 0, 1, 0, 0, 0, 0) := by decide +kernel
theorem k_160_1 : COD 160 1 = some (.iload_n 1, 1, 0, 0, 0, 0) := by decide +kernel
theorem k_160_2 : COD 160 2 = some (.invokevirtual 223, 3, 157, 1, 1236, 10) := by decide +kernel
theorem k_160_5 : COD 160 5 = some (.istore_n 2, 1, 0, 0, 0, 0) := by decide +kernel
theorem k_160_6 : COD 160 6 = some (.iload_n 1, 1, 0, 0, 0, 0) := by decide +kernel
theorem k_160_7 : COD 160 7 = some (.iconst 1, 1, 0, 0, 0, 0) := by decide +kernel
theorem k_160_8 : COD 160 8 = some (.iadd, 1, 0, 0, 0, 0) := by decide +kernel
theorem k_160_9 : COD 160 9 = some (.istore_n 3, 1, 0, 0, 0, 0) := by decide +kernel
theorem k_160_10 : COD 160 10 = some (.iload_n 2, 1, 0, 0, 0, 0) := by decide +kernel
theorem k_160_11 : COD 160 11 = some (.invokestatic 226, 3, 158, 1, 1244, 10) := by decide +kernel
theorem k_160_14 : COD 160 14 = some (.ifCond .eq 31, 3, 45, 0, 0, 0) := by decide +kernel
theorem k_160_17 : COD 160 17 = some (.aload_n 0, 1, 0, 0, 0, 0) := by decide +kernel
theorem k_160_18 : COD 160 18 = some (.iload_n 3, 1, 0, 0, 0, 0) := by decide +kernel
theorem k_160_19 : COD 160 19 = some (.invokevirtual 223, 3, 157, 1, 1236, 10) := by decide +kernel
theorem k_160_22 : COD 160 22 = some (.invokestatic 226, 3, 158, 1, 1244, 10) := by decide +kernel
theorem k_160_25 : COD 160 25 = some (.ifCond .ne 14, 3, 39, 0, 0, 0) := by decide +kernel
theorem k_160_28 : COD 160 28 = some (.aload_n 0, 1, 0, 0, 0, 0) := by decide +kernel
theorem k_160_29 : COD 160 29 = some (.iload_n 3, 1, 0, 0, 0, 0) := by decide +kernel
theorem k_160_30 : COD 160 30 = some (.invokevirtual 223, 3, 157, 1, 1236, 10) := by decide +kernel
theorem k_160_33 : COD 160 33 = some (.invokestatic 229, 3, 159, 1, 1247, 10) := by decide +kernel
theorem k_160_36 : COD 160 36 = some (.ifCond .eq 9, 3, 45, 0, 0, 0) := by decide +kernel
theorem k_160_39 : COD 160 39 = some (.iinc 3 1, 3, 0, 0, 0, 0) := by decide +kernel
theorem k_160_42 : COD 160 42 = some (.goto (-25), 3, 17, 0, 0, 0) := by decide +kernel
theorem k_160_45 : COD 160 45 = some (.iload_n 2, 1, 0, 0, 0, 0) := by decide +kernel
theorem k_160_46 : COD 160 46 = some (.invokestatic 229, 3, 159, 1, 1247, 10) := by decide +kernel
theorem k_160_49 : COD 160 49 = some (.ifCond .eq 20, 3, 69, 0, 0, 0) := by decide +kernel
theorem k_160_52 : COD 160 52 = some (.aload_n 0, 1, 0, 0, 0, 0) := by decide +kernel
theorem k_160_53 : COD 160 53 = some (.iload_n 3, 1, 0, 0, 0, 0) := by decide +kernel
theorem k_160_54 : COD 160 54 = some (.invokevirtual 223, 3, 157, 1, 1236, 10) := by decide +kernel
theorem k_160_57 : COD 160 57 = some (.invokestatic 229, 3, 159, 1, 1247, 10) := by decide +kernel
theorem k_160_60 : COD 160 60 = some (.ifCond .eq 9, 3, 69, 0, 0, 0) := by decide +kernel
theorem k_160_63 : COD 160 63 = some (.iinc 3 1, 3, 0, 0, 0, 0) := by decide +kernel
theorem k_160_66 : COD 160 66 = some (.goto (-14), 3, 52, 0, 0, 0) := by decide +kernel
theorem k_160_69 : COD 160 69 = some (.iload_n 2, 1, 0, 0, 0, 0) := by decide +kernel
theorem k_160_70 : COD 160 70 = some (.bipush 60, 2, 0, 0, 0, 0) := by decide +kernel
theorem k_160_72 : COD 160 72 = some (.if_icmp .eq 9, 3, 81, 0, 0, 0) := by decide +kernel
theorem k_160_75 : COD 160 75 = some (.iload_n 2, 1, 0, 0, 0, 0) := by decide +kernel
theorem k_160_76 : COD 160 76 = some (.bipush 62, 2, 0, 0, 0, 0) := by decide +kernel
theorem k_160_78 : COD 160 78 = some (.if_icmp .ne 16, 3, 94, 0, 0, 0) := by decide +kernel
theorem k_160_81 : COD 160 81 = some (.aload_n 0, 1, 0, 0, 0, 0) := by decide +kernel
theorem k_160_82 : COD 160 82 = some (.iload_n 3, 1, 0, 0, 0, 0) := by decide +kernel
theorem k_160_83 : COD 160 83 = some (.invokevirtual 223, 3, 157, 1, 1236, 10) := by decide +kernel
theorem k_160_86 : COD 160 86 = some (.bipush 61, 2, 0, 0, 0, 0) := by decide +kernel
theorem k_160_88 : COD 160 88 = some (.if_icmp .ne 6, 3, 94, 0, 0, 0) := by decide +kernel
theorem k_160_91 : COD 160 91 = some (.iinc 3 1, 3, 0, 0, 0, 0) := by decide +kernel
theorem k_160_94 : COD 160 94 = some (.iload_n 3, 1, 0, 0, 0, 0) := by decide +kernel
theorem k_160_95 : COD 160 95 = some (.ireturn, 1, 0, 0, 0, 0) := by decide +kernel
theorem k_161_0 : COD 161 0 = some (.aload_n 0, 1, 0, 0, 0, 0) := by decide +kernel
theorem k_161_1 : COD 161 1 = some (.iload_n 2, 1, 0, 0, 0, 0) := by decide +kernel
theorem k_161_2 : COD 161 2 = some (.invokevirtual 223, 3, 157, 1, 1236, 10) := by decide +kernel
theorem k_161_5 : COD 161 5 = some (.istore 4, 2, 0, 0, 0, 0) := by decide +kernel
theorem k_161_7 : COD 161 7 = some (.iload 4, 2, 0, 0, 0, 0) := by decide +kernel
theorem k_161_9 : COD 161 9 = some (.iconst (-1), 1, 0, 0, 0, 0) := by decide +kernel
theorem k_161_10 : COD 161 10 = some (.if_icmp .ne 6, 3, 16, 0, 0, 0) := by decide +kernel
theorem k_161_13 : COD 161 13 = some (.bipush 33, 2, 0, 0, 0, 0) := by decide +kernel
theorem k_161_15 : COD 161 15 = some (.ireturn, 1, 0, 0, 0, 0) := by decide +kernel
theorem k_161_16 : COD 161 16 = some (.iload 4, 2, 0, 0, 0, 0) := by decide +kernel
theorem k_161_18 : COD 161 18 = some (.invokestatic 229, 3, 159, 1, 1247, 10) := by decide +kernel
theorem k_161_21 : COD 161 21 = some (.ifCond .eq 24, 3, 45, 0, 0, 0) := by decide +kernel
theorem k_161_24 : COD 161 24 = some (.iload_n 3, 1, 0, 0, 0, 0) := by decide +kernel
theorem k_161_25 : COD 161 25 = some (.iload_n 2, 1, 0, 0, 0, 0) := by decide +kernel
theorem k_161_26 : COD 161 26 = some (.isub, 1, 0, 0, 0, 0) := by decide +kernel
theorem k_161_27 : COD 161 27 = some (.bipush 6, 2, 0, 0, 0, 0) := by decide +kernel
theorem k_161_29 : COD 161 29 = some (.if_icmp .le 8, 3, 37, 0, 0, 0) := by decide +kernel
theorem k_161_32 : COD 161 32 = some (.bipush 32, 2, 0, 0, 0, 0) := by decide +kernel
theorem k_161_34 : COD 161 34 = some (.goto 10, 3, 44, 0, 0, 0) := by decide +kernel
theorem k_161_37 : COD 161 37 = some (.aload_n 0, 1, 0, 0, 0, 0) := by decide +kernel
theorem k_161_38 : COD 161 38 = some (.iload_n 1, 1, 0, 0, 0, 0) := by decide +kernel
theorem k_161_39 : COD 161 39 = some (.iload_n 2, 1, 0, 0, 0, 0) := by decide +kernel
theorem k_161_40 : COD 161 40 = some (.iload_n 3, 1, 0, 0, 0, 0) := by decide +kernel
theorem k_161_41 : COD 161 41 = some (.invokevirtual 232, 3, 162, 3, 1254, 10) := by decide +kernel
theorem k_161_44 : COD 161 44 = some (.ireturn, 1, 0, 0, 0, 0) := by decide +kernel
theorem k_161_45 : COD 161 45 = some (.iload 4, 2, 0, 0, 0, 0) := by decide +kernel
theorem k_161_47 : COD 161 47 = some (.invokestatic 226, 3, 158, 1, 1244, 10) := by decide +kernel
theorem k_161_50 : COD 161 50 = some (.ifCond .eq 24, 3, 74, 0, 0, 0) := by decide +kernel
theorem k_161_53 : COD 161 53 = some (.iload_n 3, 1, 0, 0, 0, 0) := by decide +kernel
theorem k_161_54 : COD 161 54 = some (.iload_n 2, 1, 0, 0, 0, 0) := by decide +kernel
theorem k_161_55 : COD 161 55 = some (.isub, 1, 0, 0, 0, 0) := by decide +kernel
theorem k_161_56 : COD 161 56 = some (.bipush 10, 2, 0, 0, 0, 0) := by decide +kernel
theorem k_161_58 : COD 161 58 = some (.if_icmp .le 8, 3, 66, 0, 0, 0) := by decide +kernel
theorem k_161_61 : COD 161 61 = some (.bipush 32, 2, 0, 0, 0, 0) := by decide +kernel
theorem k_161_63 : COD 161 63 = some (.goto 10, 3, 73, 0, 0, 0) := by decide +kernel
theorem k_161_66 : COD 161 66 = some (.aload_n 0, 1, 0, 0, 0, 0) := by decide +kernel
theorem k_161_67 : COD 161 67 = some (.iload_n 1, 1, 0, 0, 0, 0) := by decide +kernel
theorem k_161_68 : COD 161 68 = some (.iload_n 2, 1, 0, 0, 0, 0) := by decide +kernel
theorem k_161_69 : COD 161 69 = some (.iload_n 3, 1, 0, 0, 0, 0) := by decide +kernel
theorem k_161_70 : COD 161 70 = some (.invokevirtual 235, 3, 165, 3, 1258, 10) := by decide +kernel
theorem k_161_73 : COD 161 73 = some (.ireturn, 1, 0, 0, 0, 0) := by decide +kernel
theorem k_161_74 : COD 161 74 = some (.iload_n 3, 1, 0, 0, 0, 0) := by decide +kernel
theorem k_161_75 : COD 161 75 = some (.iload_n 2, 1, 0, 0, 0, 0) := by decide +kernel
theorem k_161_76 : COD 161 76 = some (.isub, 1, 0, 0, 0, 0) := by decide +kernel
theorem k_161_77 : COD 161 77 = some (.iconst 2, 1, 0, 0, 0, 0) := by decide +kernel
theorem k_161_78 : COD 161 78 = some (.if_icmp .ne 10, 3, 88, 0, 0, 0) := by decide +kernel
theorem k_161_81 : COD 161 81 = some (.sipush 256, 3, 0, 0, 0, 0) := by decide +kernel
theorem k_161_84 : COD 161 84 = some (.iload 4, 2, 0, 0, 0, 0) := by decide +kernel
theorem k_161_86 : COD 161 86 = some (.iadd, 1, 0, 0, 0, 0) := by decide +kernel
theorem k_161_87 : COD 161 87 = some (.ireturn, 1, 0, 0, 0, 0) := by decide +kernel
theorem k_161_88 : COD 161 88 = some (.iload 4, 2, 0, 0, 0, 0) := by decide +kernel
theorem k_161_90 : COD 161 90 = some (.bipush 40, 2, 0, 0, 0, 0) := by decide +kernel
theorem k_161_92 : COD 161 92 = some (.if_icmp .eq 87, 3, 179, 0, 0, 0) := by decide +kernel
theorem k_161_95 : COD 161 95 = some (.iload 4, 2, 0, 0, 0, 0) := by decide +kernel
theorem k_161_97 : COD 161 97 = some (.bipush 41, 2, 0, 0, 0, 0) := by decide +kernel
theorem k_161_99 : COD 161 99 = some (.if_icmp .eq 80, 3, 179, 0, 0, 0) := by decide +kernel
theorem k_161_102 : COD 161 102 = some (.iload 4, 2, 0, 0, 0, 0) := by decide +kernel
theorem k_161_104 : COD 161 104 = some (.bipush 91, 2, 0, 0, 0, 0) := by decide +kernel
theorem k_161_106 : COD 161 106 = some (.if_icmp .eq 73, 3, 179, 0, 0, 0) := by decide +kernel
theorem k_161_109 : COD 161 109 = some (.iload 4, 2, 0, 0, 0, 0) := by decide +kernel
theorem k_161_111 : COD 161 111 = some (.bipush 93, 2, 0, 0, 0, 0) := by decide +kernel
theorem k_161_113 : COD 161 113 = some (.if_icmp .eq 66, 3, 179, 0, 0, 0) := by decide +kernel
theorem k_161_116 : COD 161 116 = some (.iload 4, 2, 0, 0, 0, 0) := by decide +kernel
theorem k_161_118 : COD 161 118 = some (.bipush 59, 2, 0, 0, 0, 0) := by decide +kernel
theorem k_161_120 : COD 161 120 = some (.if_icmp .eq 59, 3, 179, 0, 0, 0) := by decide +kernel
theorem k_161_123 : COD 161 123 = some (.iload 4, 2, 0, 0, 0, 0) := by decide +kernel
theorem k_161_125 : COD 161 125 = some (.bipush 44, 2, 0, 0, 0, 0) := by decide +kernel
theorem k_161_127 : COD 161 127 = some (.if_icmp .eq 52, 3, 179, 0, 0, 0) := by decide +kernel
theorem k_161_130 : COD 161 130 = some (.iload 4, 2, 0, 0, 0, 0) := by decide +kernel
theorem k_161_132 : COD 161 132 = some (.bipush 43, 2, 0, 0, 0, 0) := by decide +kernel
theorem k_161_134 : COD 161 134 = some (.if_icmp .eq 45, 3, 179, 0, 0, 0) := by decide +kernel
theorem k_161_137 : COD 161 137 = some (.iload 4, 2, 0, 0, 0, 0) := by decide +kernel
theorem k_161_139 : COD 161 139 = some (.bipush 45, 2, 0, 0, 0, 0) := by decide +kernel
theorem k_161_141 : COD 161 141 = some (.if_icmp .eq 38, 3, 179, 0, 0, 0) := by decide +kernel
theorem k_161_144 : COD 161 144 = some (.iload 4, 2, 0, 0, 0, 0) := by decide +kernel
theorem k_161_146 : COD 161 146 = some (.bipush 42, 2, 0, 0, 0, 0) := by decide +kernel
theorem k_161_148 : COD 161 148 = some (.if_icmp .eq 31, 3, 179, 0, 0, 0) := by decide +kernel
theorem k_161_151 : COD 161 151 = some (.iload 4, 2, 0, 0, 0, 0) := by decide +kernel
theorem k_161_153 : COD 161 153 = some (.bipush 47, 2, 0, 0, 0, 0) := by decide +kernel
theorem k_161_155 : COD 161 155 = some (.if_icmp .eq 24, 3, 179, 0, 0, 0) := by decide +kernel
theorem k_161_158 : COD 161 158 = some (.iload 4, 2, 0, 0, 0, 0) := by decide +kernel
theorem k_161_160 : COD 161 160 = some (.bipush 60, 2, 0, 0, 0, 0) := by decide +kernel
theorem k_161_162 : COD 161 162 = some (.if_icmp .eq 17, 3, 179, 0, 0, 0) := by decide +kernel
theorem k_161_165 : COD 161 165 = some (.iload 4, 2, 0, 0, 0, 0) := by decide +kernel
theorem k_161_167 : COD 161 167 = some (.bipush 62, 2, 0, 0, 0, 0) := by decide +kernel
theorem k_161_169 : COD 161 169 = some (.if_icmp .eq 10, 3, 179, 0, 0, 0) := by decide +kernel
theorem k_161_172 : COD 161 172 = some (.iload 4, 2, 0, 0, 0, 0) := by decide +kernel
theorem k_161_174 : COD 161 174 = some (.bipush 61, 2, 0, 0, 0, 0) := by decide +kernel
theorem k_161_176 : COD 161 176 = some (.if_icmp .ne 8, 3, 184, 0, 0, 0) := by decide +kernel
theorem k_161_179 : COD 161 179 = some (.iload 4, 2, 0, 0, 0, 0) := by decide +kernel
theorem k_161_181 : COD 161 181 = some (.goto 5, 3, 186, 0, 0, 0) := by decide +kernel
theorem k_161_184 : COD 161 184 = some (.bipush 32, 2, 0, 0, 0, 0) := by decide +kernel
theorem k_161_186 : COD 161 186 = some (.ireturn, 1, 0, 0, 0, 0) := by decide +kernel
theorem k_162_0 : COD 162 0 = some (.iconst 0, 1, 0, 0, 0, 0) := by decide +kernel
theorem k_162_1 : COD 162 1 = some (.istore 4, 2, 0, 0, 0, 0) := by decide +kernel
theorem k_162_3 : COD 162 3 = some (.iload_n 2, 1, 0, 0, 0, 0) := by decide +kernel
theorem k_162_4 : COD 162 4 = some (.istore 5, 2, 0, 0, 0, 0) := by decide +kernel
theorem k_162_6 : COD 162 6 = some (.iload 5, 2, 0, 0, 0, 0) := by decide +kernel
theorem k_162_8 : COD 162 8 = some (.iload_n 3, 1, 0, 0, 0, 0) := by decide +kernel
theorem k_162_9 : COD 162 9 = some (.if_icmp .ge 27, 3, 36, 0, 0, 0) := by decide +kernel
theorem k_162_12 : COD 162 12 = some (.bipush 10, 2, 0, 0, 0, 0) := by decide +kernel
theorem k_162_14 : COD 162 14 = some (.iload 4, 2, 0, 0, 0, 0) := by decide +kernel
theorem k_162_16 : COD 162 16 = some (.imul, 1, 0, 0, 0, 0) := by decide +kernel
theorem k_162_17 : COD 162 17 = some (.aload_n 0, 1, 0, 0, 0, 0) := by decide +kernel
theorem k_162_18 : COD 162 18 = some (.getfield 9, 3, 10, 1, 1142, 0) := by decide +kernel
theorem k_162_21 : COD 162 21 = some (.iload 5, 2, 0, 0, 0, 0) := by decide +kernel
theorem k_162_23 : COD 162 23 = some (.iaload, 1, 0, 0, 0, 0) := by decide +kernel
theorem k_162_24 : COD 162 24 = some (.iadd, 1, 0, 0, 0, 0) := by decide +kernel
theorem k_162_25 : COD 162 25 = some (.bipush 48, 2, 0, 0, 0, 0) := by decide +kernel
theorem k_162_27 : COD 162 27 = some (.isub, 1, 0, 0, 0, 0) := by decide +kernel
theorem k_162_28 : COD 162 28 = some (.istore 4, 2, 0, 0, 0, 0) := by decide +kernel
theorem k_162_30 : COD 162 30 = some (.iinc 5 1, 3, 0, 0, 0, 0) := by decide +kernel
theorem k_162_33 : COD 162 33 = some (.goto (-27), 3, 6, 0, 0, 0) := by decide +kernel
theorem k_162_36 : COD 162 36 = some (.aload_n 0, 1, 0, 0, 0, 0) := by decide +kernel
theorem k_162_37 : COD 162 37 = some (.getfield 33, 3, 10, 8, 1149, 0) := by decide +kernel
theorem k_162_40 : COD 162 40 = some (.iload_n 1, 1, 0, 0, 0, 0) := by decide +kernel
theorem k_162_41 : COD 162 41 = some (.iload 4, 2, 0, 0, 0, 0) := by decide +kernel
theorem k_162_43 : COD 162 43 = some (.i2l, 1, 0, 0, 0, 0) := by decide +kernel
theorem k_162_44 : COD 162 44 = some (.lastore, 1, 0, 0, 0, 0) := by decide +kernel
theorem k_162_45 : COD 162 45 = some (.bipush 31, 2, 0, 0, 0, 0) := by decide +kernel
theorem k_162_47 : COD 162 47 = some (.ireturn, 1, 0, 0, 0, 0) := by decide +kernel
theorem k_163_0 : COD 163 0 = some (.iload_n 0, 1, 0, 0, 0, 0) := by decide +kernel
theorem k_163_1 : COD 163 1 = some (.invokestatic 226, 3, 158, 1, 1244, 10) := by decide +kernel
theorem k_163_4 : COD 163 4 = some (.ifCond .eq 12, 3, 16, 0, 0, 0) := by decide +kernel
theorem k_163_7 : COD 163 7 = some (.iload_n 0, 1, 0, 0, 0, 0) := by decide +kernel
theorem k_163_8 : COD 163 8 = some (.bipush 97, 2, 0, 0, 0, 0) := by decide +kernel
theorem k_163_10 : COD 163 10 = some (.isub, 1, 0, 0, 0, 0) := by decide +kernel
theorem k_163_11 : COD 163 11 = some (.iconst 1, 1, 0, 0, 0, 0) := by decide +kernel
theorem k_163_12 : COD 163 12 = some (.iadd, 1, 0, 0, 0, 0) := by decide +kernel
theorem k_163_13 : COD 163 13 = some (.goto 10, 3, 23, 0, 0, 0) := by decide +kernel
theorem k_163_16 : COD 163 16 = some (.iload_n 0, 1, 0, 0, 0, 0) := by decide +kernel
theorem k_163_17 : COD 163 17 = some (.bipush 48, 2, 0, 0, 0, 0) := by decide +kernel
theorem k_163_19 : COD 163 19 = some (.isub, 1, 0, 0, 0, 0) := by decide +kernel
theorem k_163_20 : COD 163 20 = some (.bipush 27, 2, 0, 0, 0, 0) := by decide +kernel
theorem k_163_22 : COD 163 22 = some (.iadd, 1, 0, 0, 0, 0) := by decide +kernel
theorem k_163_23 : COD 163 23 = some (.ireturn, 1, 0, 0, 0, 0) := by decide +kernel
theorem k_164_0 : COD 164 0 = some (.lconst 0, 1, 0, 0, 0, 0) := by decide +kernel
theorem k_164_1 : COD 164 1 = some (.lstore_n 1, 1, 0, 0, 0, 0) := by decide +kernel
theorem k_164_2 : COD 164 2 = some (.iconst 0, 1, 0, 0, 0, 0) := by decide +kernel
theorem k_164_3 : COD 164 3 = some (.istore_n 3, 1, 0, 0, 0, 0) := by decide +kernel
theorem k_164_4 : COD 164 4 = some (.iload_n 3, 1, 0, 0, 0, 0) := by decide +kernel
theorem k_164_5 : COD 164 5 = some (.aload_n 0, 1, 0, 0, 0, 0) := by decide +kernel
theorem k_164_6 : COD 164 6 = some (.invokevirtual 238, 3, 227, 0, 1271, 21) := by decide +kernel
theorem k_164_9 : COD 164 9 = some (.if_icmp .ge 25, 3, 34, 0, 0, 0) := by decide +kernel
theorem k_164_12 : COD 164 12 = some (.ldc2_w 244, 3, 2, 0, 1262, 0) := by decide +kernel
theorem k_164_15 : COD 164 15 = some (.lload_n 1, 1, 0, 0, 0, 0) := by decide +kernel
theorem k_164_16 : COD 164 16 = some (.lmul, 1, 0, 0, 0, 0) := by decide +kernel
theorem k_164_17 : COD 164 17 = some (.aload_n 0, 1, 0, 0, 0, 0) := by decide +kernel
theorem k_164_18 : COD 164 18 = some (.iload_n 3, 1, 0, 0, 0, 0) := by decide +kernel
theorem k_164_19 : COD 164 19 = some (.invokevirtual 246, 3, 228, 1, 1272, 21) := by decide +kernel
theorem k_164_22 : COD 164 22 = some (.invokestatic 250, 3, 163, 1, 1263, 10) := by decide +kernel
theorem k_164_25 : COD 164 25 = some (.i2l, 1, 0, 0, 0, 0) := by decide +kernel
theorem k_164_26 : COD 164 26 = some (.ladd, 1, 0, 0, 0, 0) := by decide +kernel
theorem k_164_27 : COD 164 27 = some (.lstore_n 1, 1, 0, 0, 0, 0) := by decide +kernel
theorem k_164_28 : COD 164 28 = some (.iinc 3 1, 3, 0, 0, 0, 0) := by decide +kernel
theorem k_164_31 : COD 164 31 = some (.goto (-27), 3, 4, 0, 0, 0) := by decide +kernel
theorem k_164_34 : COD 164 34 = some (.lload_n 1, 1, 0, 0, 0, 0) := by decide +kernel
theorem k_164_35 : COD 164 35 = some (.lreturn, 1, 0, 0, 0, 0) := by decide +kernel
theorem k_165_0 : COD 165 0 = some (.lconst 0, 1, 0, 0, 0, 0) := by decide +kernel
theorem k_165_1 : COD 165 1 = some (.lstore 4, 2, 0, 0, 0, 0) := by decide +kernel
theorem k_165_3 : COD 165 3 = some (.iload_n 2, 1, 0, 0, 0, 0) := by decide +kernel
theorem k_165_4 : COD 165 4 = some (.istore 6, 2, 0, 0, 0, 0) := by decide +kernel
theorem k_165_6 : COD 165 6 = some (.iload 6, 2, 0, 0, 0, 0) := by decide +kernel
theorem k_165_8 : COD 165 8 = some (.iload_n 3, 1, 0, 0, 0, 0) := by decide +kernel
theorem k_165_9 : COD 165 9 = some (.if_icmp .ge 29, 3, 38, 0, 0, 0) := by decide +kernel
theorem k_165_12 : COD 165 12 = some (.ldc2_w 244, 3, 2, 0, 1262, 0) := by decide +kernel
theorem k_165_15 : COD 165 15 = some (.lload 4, 2, 0, 0, 0, 0) := by decide +kernel
theorem k_165_17 : COD 165 17 = some (.lmul, 1, 0, 0, 0, 0) := by decide +kernel
theorem k_165_18 : COD 165 18 = some (.aload_n 0, 1, 0, 0, 0, 0) := by decide +kernel
theorem k_165_19 : COD 165 19 = some (.getfield 9, 3, 10, 1, 1142, 0) := by decide +kernel
theorem k_165_22 : COD 165 22 = some (.iload 6, 2, 0, 0, 0, 0) := by decide +kernel
theorem k_165_24 : COD 165 24 = some (.iaload, 1, 0, 0, 0, 0) := by decide +kernel
theorem k_165_25 : COD 165 25 = some (.invokestatic 250, 3, 163, 1, 1263, 10) := by decide +kernel
theorem k_165_28 : COD 165 28 = some (.i2l, 1, 0, 0, 0, 0) := by decide +kernel
theorem k_165_29 : COD 165 29 = some (.ladd, 1, 0, 0, 0, 0) := by decide +kernel
theorem k_165_30 : COD 165 30 = some (.lstore 4, 2, 0, 0, 0, 0) := by decide +kernel
theorem k_165_32 : COD 165 32 = some (.iinc 6 1, 3, 0, 0, 0, 0) := by decide +kernel
theorem k_165_35 : COD 165 35 = some (.goto (-29), 3, 6, 0, 0, 0) := by decide +kernel
theorem k_165_38 : COD 165 38 = some (.aload_n 0, 1, 0, 0, 0, 0) := by decide +kernel
theorem k_165_39 : COD 165 39 = some (.getfield 33, 3, 10, 8, 1149, 0) := by decide +kernel
theorem k_165_42 : COD 165 42 = some (.iload_n 1, 1, 0, 0, 0, 0) := by decide +kernel
theorem k_165_43 : COD 165 43 = some (.lload 4, 2, 0, 0, 0, 0) := by decide +kernel
theorem k_165_45 : COD 165 45 = some (.lastore, 1, 0, 0, 0, 0) := by decide +kernel
theorem k_165_46 : COD 165 46 = some (.iconst 0, 1, 0, 0, 0, 0) := by decide +kernel
theorem k_165_47 : COD 165 47 = some (.istore 6, 2, 0, 0, 0, 0) := by decide +kernel
theorem k_165_49 : COD 165 49 = some (.iload 6, 2, 0, 0, 0, 0) := by decide +kernel
theorem k_165_51 : COD 165 51 = some (.getstatic 253, 3, 1, 0, 1266, 0) := by decide +kernel
theorem k_165_54 : COD 165 54 = some (.arraylength, 1, 0, 0, 0, 0) := by decide +kernel
theorem k_165_55 : COD 165 55 = some (.if_icmp .ge 27, 3, 82, 0, 0, 0) := by decide +kernel
theorem k_165_58 : COD 165 58 = some (.getstatic 253, 3, 1, 0, 1266, 0) := by decide +kernel
theorem k_165_61 : COD 165 61 = some (.iload 6, 2, 0, 0, 0, 0) := by decide +kernel
theorem k_165_63 : COD 165 63 = some (.aaload, 1, 0, 0, 0, 0) := by decide +kernel
theorem k_165_64 : COD 165 64 = some (.invokestatic 257, 3, 164, 1, 1268, 10) := by decide +kernel
theorem k_165_67 : COD 165 67 = some (.lload 4, 2, 0, 0, 0, 0) := by decide +kernel
theorem k_165_69 : COD 165 69 = some (.lcmp, 1, 0, 0, 0, 0) := by decide +kernel
theorem k_165_70 : COD 165 70 = some (.ifCond .ne 6, 3, 76, 0, 0, 0) := by decide +kernel
theorem k_165_73 : COD 165 73 = some (.iload 6, 2, 0, 0, 0, 0) := by decide +kernel
theorem k_165_75 : COD 165 75 = some (.ireturn, 1, 0, 0, 0, 0) := by decide +kernel
theorem k_165_76 : COD 165 76 = some (.iinc 6 1, 3, 0, 0, 0, 0) := by decide +kernel
theorem k_165_79 : COD 165 79 = some (.goto (-30), 3, 49, 0, 0, 0) := by decide +kernel
theorem k_165_82 : COD 165 82 = some (.bipush 30, 2, 0, 0, 0, 0) := by decide +kernel
theorem k_165_84 : COD 165 84 = some (.ireturn, 1, 0, 0, 0, 0) := by decide +kernel
theorem k_166_0 : COD 166 0 = some (.iconst 0, 1, 0, 0, 0, 0) := by decide +kernel
theorem k_166_1 : COD 166 1 = some (.istore_n 1, 1, 0, 0, 0, 0) := by decide +kernel
theorem k_166_2 : COD 166 2 = some (.iconst 0, 1, 0, 0, 0, 0) := by decide +kernel
theorem k_166_3 : COD 166 3 = some (.istore_n 2, 1, 0, 0, 0, 0) := by decide +kernel
theorem k_166_4 : COD 166 4 = some (.iload_n 2, 1, 0, 0, 0, 0) := by decide +kernel
theorem k_166_5 : COD 166 5 = some (.sipush 400, 3, 0, 0, 0, 0) := by decide +kernel
theorem k_166_8 : COD 166 8 = some (.if_icmp .gt 119, 3, 127, 0, 0, 0) := by decide +kernel
theorem k_166_11 : COD 166 11 = some (.aload_n 0, 1, 0, 0, 0, 0) := by decide +kernel
theorem k_166_12 : COD 166 12 = some (.iload_n 1, 1, 0, 0, 0, 0) := by decide +kernel
theorem k_166_13 : COD 166 13 = some (.invokevirtual 223, 3, 157, 1, 1236, 10) := by decide +kernel
theorem k_166_16 : COD 166 16 = some (.bipush 32, 2, 0, 0, 0, 0) := by decide +kernel
theorem k_166_18 : COD 166 18 = some (.if_icmp .eq 13, 3, 31, 0, 0, 0) := by decide +kernel
theorem k_166_21 : COD 166 21 = some (.aload_n 0, 1, 0, 0, 0, 0) := by decide +kernel
theorem k_166_22 : COD 166 22 = some (.iload_n 1, 1, 0, 0, 0, 0) := by decide +kernel
theorem k_166_23 : COD 166 23 = some (.invokevirtual 223, 3, 157, 1, 1236, 10) := by decide +kernel
theorem k_166_26 : COD 166 26 = some (.bipush 10, 2, 0, 0, 0, 0) := by decide +kernel
theorem k_166_28 : COD 166 28 = some (.if_icmp .ne 9, 3, 37, 0, 0, 0) := by decide +kernel
theorem k_166_31 : COD 166 31 = some (.iinc 1 1, 3, 0, 0, 0, 0) := by decide +kernel
theorem k_166_34 : COD 166 34 = some (.goto (-23), 3, 11, 0, 0, 0) := by decide +kernel
theorem k_166_37 : COD 166 37 = some (.aload_n 0, 1, 0, 0, 0, 0) := by decide +kernel
theorem k_166_38 : COD 166 38 = some (.iload_n 1, 1, 0, 0, 0, 0) := by decide +kernel
theorem k_166_39 : COD 166 39 = some (.invokevirtual 261, 3, 160, 1, 1240, 10) := by decide +kernel
theorem k_166_42 : COD 166 42 = some (.istore_n 3, 1, 0, 0, 0, 0) := by decide +kernel
theorem k_166_43 : COD 166 43 = some (.aload_n 0, 1, 0, 0, 0, 0) := by decide +kernel
theorem k_166_44 : COD 166 44 = some (.getfield 27, 3, 10, 6, 1147, 0) := by decide +kernel
theorem k_166_47 : COD 166 47 = some (.iload_n 2, 1, 0, 0, 0, 0) := by decide +kernel
theorem k_166_48 : COD 166 48 = some (.iload_n 1, 1, 0, 0, 0, 0) := by decide +kernel
theorem k_166_49 : COD 166 49 = some (.iastore, 1, 0, 0, 0, 0) := by decide +kernel
theorem k_166_50 : COD 166 50 = some (.aload_n 0, 1, 0, 0, 0, 0) := by decide +kernel
theorem k_166_51 : COD 166 51 = some (.getfield 30, 3, 10, 7, 1148, 0) := by decide +kernel
theorem k_166_54 : COD 166 54 = some (.iload_n 2, 1, 0, 0, 0, 0) := by decide +kernel
theorem k_166_55 : COD 166 55 = some (.iconst 0, 1, 0, 0, 0, 0) := by decide +kernel
theorem k_166_56 : COD 166 56 = some (.iastore, 1, 0, 0, 0, 0) := by decide +kernel
theorem k_166_57 : COD 166 57 = some (.aload_n 0, 1, 0, 0, 0, 0) := by decide +kernel
theorem k_166_58 : COD 166 58 = some (.getfield 24, 3, 10, 5, 1146, 0) := by decide +kernel
theorem k_166_61 : COD 166 61 = some (.iload_n 2, 1, 0, 0, 0, 0) := by decide +kernel
theorem k_166_62 : COD 166 62 = some (.aload_n 0, 1, 0, 0, 0, 0) := by decide +kernel
theorem k_166_63 : COD 166 63 = some (.iload_n 2, 1, 0, 0, 0, 0) := by decide +kernel
theorem k_166_64 : COD 166 64 = some (.iload_n 1, 1, 0, 0, 0, 0) := by decide +kernel
theorem k_166_65 : COD 166 65 = some (.iload_n 3, 1, 0, 0, 0, 0) := by decide +kernel
theorem k_166_66 : COD 166 66 = some (.invokevirtual 264, 3, 161, 3, 1250, 10) := by decide +kernel
theorem k_166_69 : COD 166 69 = some (.iastore, 1, 0, 0, 0, 0) := by decide +kernel
theorem k_166_70 : COD 166 70 = some (.iload_n 2, 1, 0, 0, 0, 0) := by decide +kernel
theorem k_166_71 : COD 166 71 = some (.sipush 400, 3, 0, 0, 0, 0) := by decide +kernel
theorem k_166_74 : COD 166 74 = some (.if_icmp .ne 22, 3, 96, 0, 0, 0) := by decide +kernel
theorem k_166_77 : COD 166 77 = some (.aload_n 0, 1, 0, 0, 0, 0) := by decide +kernel
theorem k_166_78 : COD 166 78 = some (.getfield 24, 3, 10, 5, 1146, 0) := by decide +kernel
theorem k_166_81 : COD 166 81 = some (.iload_n 2, 1, 0, 0, 0, 0) := by decide +kernel
theorem k_166_82 : COD 166 82 = some (.iaload, 1, 0, 0, 0, 0) := by decide +kernel
theorem k_166_83 : COD 166 83 = some (.bipush 33, 2, 0, 0, 0, 0) := by decide +kernel
theorem k_166_85 : COD 166 85 = some (.if_icmp .eq 11, 3, 96, 0, 0, 0) := by decide +kernel
theorem k_166_88 : COD 166 88 = some (.aload_n 0, 1, 0, 0, 0, 0) := by decide +kernel
theorem k_166_89 : COD 166 89 = some (.getfield 24, 3, 10, 5, 1146, 0) := by decide +kernel
theorem k_166_92 : COD 166 92 = some (.iload_n 2, 1, 0, 0, 0, 0) := by decide +kernel
theorem k_166_93 : COD 166 93 = some (.bipush 32, 2, 0, 0, 0, 0) := by decide +kernel
theorem k_166_95 : COD 166 95 = some (.iastore, 1, 0, 0, 0, 0) := by decide +kernel
theorem k_166_96 : COD 166 96 = some (.aload_n 0, 1, 0, 0, 0, 0) := by decide +kernel
theorem k_166_97 : COD 166 97 = some (.getfield 24, 3, 10, 5, 1146, 0) := by decide +kernel
theorem k_166_100 : COD 166 100 = some (.iload_n 2, 1, 0, 0, 0, 0) := by decide +kernel
theorem k_166_101 : COD 166 101 = some (.iaload, 1, 0, 0, 0, 0) := by decide +kernel
theorem k_166_102 : COD 166 102 = some (.bipush 32, 2, 0, 0, 0, 0) := by decide +kernel
theorem k_166_104 : COD 166 104 = some (.if_icmp .eq 14, 3, 118, 0, 0, 0) := by decide +kernel
theorem k_166_107 : COD 166 107 = some (.aload_n 0, 1, 0, 0, 0, 0) := by decide +kernel
theorem k_166_108 : COD 166 108 = some (.getfield 24, 3, 10, 5, 1146, 0) := by decide +kernel
theorem k_166_111 : COD 166 111 = some (.iload_n 2, 1, 0, 0, 0, 0) := by decide +kernel
theorem k_166_112 : COD 166 112 = some (.iaload, 1, 0, 0, 0, 0) := by decide +kernel
theorem k_166_113 : COD 166 113 = some (.bipush 33, 2, 0, 0, 0, 0) := by decide +kernel
theorem k_166_115 : COD 166 115 = some (.if_icmp .ne 4, 3, 119, 0, 0, 0) := by decide +kernel
theorem k_166_118 : COD 166 118 = some (.return_, 1, 0, 0, 0, 0) := by decide +kernel
theorem k_166_119 : COD 166 119 = some (.iload_n 3, 1, 0, 0, 0, 0) := by decide +kernel
theorem k_166_120 : COD 166 120 = some (.istore_n 1, 1, 0, 0, 0, 0) := by decide +kernel
theorem k_166_121 : COD 166 121 = some (.iinc 2 1, 3, 0, 0, 0, 0) := by decide +kernel
theorem k_166_124 : COD 166 124 = some (.goto (-120), 3, 4, 0, 0, 0) := by decide +kernel
theorem k_166_127 : COD 166 127 = some (.return_, 1, 0, 0, 0, 0) := by decide +kernel
theorem k_167_0 : COD 167 0 = some (.aload_n 0, 1, 0, 0, 0, 0) := by decide +kernel
theorem k_167_1 : COD 167 1 = some (.getfield 24, 3, 10, 5, 1146, 0) := by decide +kernel
theorem k_167_4 : COD 167 4 = some (.aload_n 0, 1, 0, 0, 0, 0) := by decide +kernel
theorem k_167_5 : COD 167 5 = some (.getfield 267, 3, 10, 9, 1150, 0) := by decide +kernel
theorem k_167_8 : COD 167 8 = some (.iaload, 1, 0, 0, 0, 0) := by decide +kernel
theorem k_167_9 : COD 167 9 = some (.iload_n 1, 1, 0, 0, 0, 0) := by decide +kernel
theorem k_167_10 : COD 167 10 = some (.if_icmp .eq 5, 3, 15, 0, 0, 0) := by decide +kernel
theorem k_167_13 : COD 167 13 = some (.iconst 0, 1, 0, 0, 0, 0) := by decide +kernel
theorem k_167_14 : COD 167 14 = some (.ireturn, 1, 0, 0, 0, 1) := by decide +kernel
theorem k_167_15 : COD 167 15 = some (.aload_n 0, 1, 0, 0, 0, 0) := by decide +kernel
theorem k_167_16 : COD 167 16 = some (.dup, 1, 0, 0, 0, 0) := by decide +kernel
theorem k_167_17 : COD 167 17 = some (.getfield 267, 3, 10, 9, 1150, 0) := by decide +kernel
theorem k_167_20 : COD 167 20 = some (.iconst 1, 1, 0, 0, 0, 0) := by decide +kernel
theorem k_167_21 : COD 167 21 = some (.iadd, 1, 0, 0, 0, 0) := by decide +kernel
theorem k_167_22 : COD 167 22 = some (.putfield 267, 3, 10, 9, 1150, 0) := by decide +kernel
theorem k_167_25 : COD 167 25 = some (.iconst 1, 1, 0, 0, 0, 0) := by decide +kernel
theorem k_167_26 : COD 167 26 = some (.ireturn, 1, 0, 0, 0, 1) := by decide +kernel
theorem k_168_0 : COD 168 0 = some (.aload_n 0, 1, 0, 0, 0, 0) := by decide +kernel
theorem k_168_1 : COD 168 1 = some (.getfield 270, 3, 10, 10, 1151, 0) := by decide +kernel
theorem k_168_4 : COD 168 4 = some (.bipush 8, 2, 0, 0, 0, 0) := by decide +kernel
theorem k_168_6 : COD 168 6 = some (.if_icmp .eq 11, 3, 17, 0, 0, 0) := by decide +kernel
theorem k_168_9 : COD 168 9 = some (.aload_n 0, 1, 0, 0, 0, 0) := by decide +kernel
theorem k_168_10 : COD 168 10 = some (.iload_n 1, 1, 0, 0, 0, 0) := by decide +kernel
theorem k_168_11 : COD 168 11 = some (.invokevirtual 273, 3, 167, 1, 1277, 10) := by decide +kernel
theorem k_168_14 : COD 168 14 = some (.ifCond .ne 5, 3, 19, 0, 0, 0) := by decide +kernel
theorem k_168_17 : COD 168 17 = some (.iconst 0, 1, 0, 0, 0, 0) := by decide +kernel
theorem k_168_18 : COD 168 18 = some (.ireturn, 1, 0, 0, 0, 1) := by decide +kernel
theorem k_168_19 : COD 168 19 = some (.aload_n 0, 1, 0, 0, 0, 0) := by decide +kernel
theorem k_168_20 : COD 168 20 = some (.dup, 1, 0, 0, 0, 0) := by decide +kernel
theorem k_168_21 : COD 168 21 = some (.getfield 270, 3, 10, 10, 1151, 0) := by decide +kernel
theorem k_168_24 : COD 168 24 = some (.iconst 1, 1, 0, 0, 0, 0) := by decide +kernel
theorem k_168_25 : COD 168 25 = some (.iadd, 1, 0, 0, 0, 0) := by decide +kernel
theorem k_168_26 : COD 168 26 = some (.putfield 270, 3, 10, 10, 1151, 0) := by decide +kernel
theorem k_168_29 : COD 168 29 = some (.iconst 1, 1, 0, 0, 0, 0) := by decide +kernel
theorem k_168_30 : COD 168 30 = some (.ireturn, 1, 0, 0, 0, 1) := by decide +kernel
theorem k_169_0 : COD 169 0 = some (.aload_n 0, 1, 0, 0, 0, 0) := by decide +kernel
theorem k_169_1 : COD 169 1 = some (.iload_n 1, 1, 0, 0, 0, 0) := by decide +kernel
theorem k_169_2 : COD 169 2 = some (.invokevirtual 273, 3, 167, 1, 1277, 10) := by decide +kernel
theorem k_169_5 : COD 169 5 = some (.ifCond .ne 5, 3, 10, 0, 0, 0) := by decide +kernel
theorem k_169_8 : COD 169 8 = some (.iconst 0, 1, 0, 0, 0, 0) := by decide +kernel
theorem k_169_9 : COD 169 9 = some (.ireturn, 1, 0, 0, 0, 1) := by decide +kernel
theorem k_169_10 : COD 169 10 = some (.aload_n 0, 1, 0, 0, 0, 0) := by decide +kernel
theorem k_169_11 : COD 169 11 = some (.dup, 1, 0, 0, 0, 0) := by decide +kernel
theorem k_169_12 : COD 169 12 = some (.getfield 270, 3, 10, 10, 1151, 0) := by decide +kernel
theorem k_169_15 : COD 169 15 = some (.iconst 1, 1, 0, 0, 0, 0) := by decide +kernel
theorem k_169_16 : COD 169 16 = some (.isub, 1, 0, 0, 0, 0) := by decide +kernel
theorem k_169_17 : COD 169 17 = some (.putfield 270, 3, 10, 10, 1151, 0) := by decide +kernel
theorem k_169_20 : COD 169 20 = some (.iconst 1, 1, 0, 0, 0, 0) := by decide +kernel
theorem k_169_21 : COD 169 21 = some (.ireturn, 1, 0, 0, 0, 1) := by decide +kernel
theorem k_170_0 : COD 170 0 = some (.aload_n 1, 1, 0, 0, 0, 0) := by decide +kernel
theorem k_170_1 : COD 170 1 = some (.getfield 200, 3, 8, 5, 1071, 0) := by decide +kernel
theorem k_170_4 : COD 170 4 = some (.aload_n 1, 1, 0, 0, 0, 0) := by decide +kernel
theorem k_170_5 : COD 170 5 = some (.getfield 276, 3, 8, 7, 1074, 0) := by decide +kernel
theorem k_170_8 : COD 170 8 = some (.iload_n 2, 1, 0, 0, 0, 0) := by decide +kernel
theorem k_170_9 : COD 170 9 = some (.iastore, 1, 0, 0, 0, 0) := by decide +kernel
theorem k_170_10 : COD 170 10 = some (.aload_n 1, 1, 0, 0, 0, 0) := by decide +kernel
theorem k_170_11 : COD 170 11 = some (.getfield 206, 3, 8, 6, 1073, 0) := by decide +kernel
theorem k_170_14 : COD 170 14 = some (.aload_n 1, 1, 0, 0, 0, 0) := by decide +kernel
theorem k_170_15 : COD 170 15 = some (.getfield 276, 3, 8, 7, 1074, 0) := by decide +kernel
theorem k_170_18 : COD 170 18 = some (.iload_n 3, 1, 0, 0, 0, 0) := by decide +kernel
theorem k_170_19 : COD 170 19 = some (.iastore, 1, 0, 0, 0, 0) := by decide +kernel
theorem k_170_20 : COD 170 20 = some (.aload_n 1, 1, 0, 0, 0, 0) := by decide +kernel
theorem k_170_21 : COD 170 21 = some (.dup, 1, 0, 0, 0, 0) := by decide +kernel
theorem k_170_22 : COD 170 22 = some (.getfield 276, 3, 8, 7, 1074, 0) := by decide +kernel
theorem k_170_25 : COD 170 25 = some (.iconst 1, 1, 0, 0, 0, 0) := by decide +kernel
theorem k_170_26 : COD 170 26 = some (.iadd, 1, 0, 0, 0, 0) := by decide +kernel
theorem k_170_27 : COD 170 27 = some (.putfield 276, 3, 8, 7, 1074, 0) := by decide +kernel
theorem k_170_30 : COD 170 30 = some (.return_, 1, 0, 0, 0, 0) := by decide +kernel
theorem k_171_0 : COD 171 0 = some (.aload_n 0, 1, 0, 0, 0, 0) := by decide +kernel
theorem k_171_1 : COD 171 1 = some (.aload_n 1, 1, 0, 0, 0, 0) := by decide +kernel
theorem k_171_2 : COD 171 2 = some (.invokevirtual 279, 3, 172, 1, 1294, 10) := by decide +kernel
theorem k_171_5 : COD 171 5 = some (.ifCond .ne 5, 3, 10, 0, 0, 0) := by decide +kernel
theorem k_171_8 : COD 171 8 = some (.iconst 0, 1, 0, 0, 0, 0) := by decide +kernel
theorem k_171_9 : COD 171 9 = some (.ireturn, 1, 0, 0, 0, 1) := by decide +kernel
theorem k_171_10 : COD 171 10 = some (.aload_n 0, 1, 0, 0, 0, 0) := by decide +kernel
theorem k_171_11 : COD 171 11 = some (.bipush 16, 2, 0, 0, 0, 0) := by decide +kernel
theorem k_171_13 : COD 171 13 = some (.invokevirtual 273, 3, 167, 1, 1277, 10) := by decide +kernel
theorem k_171_16 : COD 171 16 = some (.ifCond .eq 24, 3, 40, 0, 0, 0) := by decide +kernel
theorem k_171_19 : COD 171 19 = some (.aload_n 0, 1, 0, 0, 0, 0) := by decide +kernel
theorem k_171_20 : COD 171 20 = some (.aload_n 1, 1, 0, 0, 0, 0) := by decide +kernel
theorem k_171_21 : COD 171 21 = some (.invokevirtual 279, 3, 172, 1, 1294, 10) := by decide +kernel
theorem k_171_24 : COD 171 24 = some (.ifCond .ne 5, 3, 29, 0, 0, 0) := by decide +kernel
theorem k_171_27 : COD 171 27 = some (.iconst 0, 1, 0, 0, 0, 0) := by decide +kernel
theorem k_171_28 : COD 171 28 = some (.ireturn, 1, 0, 0, 0, 1) := by decide +kernel
theorem k_171_29 : COD 171 29 = some (.aload_n 0, 1, 0, 0, 0, 0) := by decide +kernel
theorem k_171_30 : COD 171 30 = some (.aload_n 1, 1, 0, 0, 0, 0) := by decide +kernel
theorem k_171_31 : COD 171 31 = some (.bipush 16, 2, 0, 0, 0, 0) := by decide +kernel
theorem k_171_33 : COD 171 33 = some (.iconst 0, 1, 0, 0, 0, 0) := by decide +kernel
theorem k_171_34 : COD 171 34 = some (.invokevirtual 283, 3, 170, 3, 1306, 10) := by decide +kernel
theorem k_171_37 : COD 171 37 = some (.goto (-27), 3, 10, 0, 0, 0) := by decide +kernel
theorem k_171_40 : COD 171 40 = some (.iconst 1, 1, 0, 0, 0, 0) := by decide +kernel
theorem k_171_41 : COD 171 41 = some (.ireturn, 1, 0, 0, 0, 1) := by decide +kernel
theorem k_172_0 : COD 172 0 = some (.aload_n 0, 1, 0, 0, 0, 0) := by decide +kernel
theorem k_172_1 : COD 172 1 = some (.aload_n 1, 1, 0, 0, 0, 0) := by decide +kernel
theorem k_172_2 : COD 172 2 = some (.invokevirtual 287, 3, 173, 1, 1298, 10) := by decide +kernel
theorem k_172_5 : COD 172 5 = some (.ifCond .ne 5, 3, 10, 0, 0, 0) := by decide +kernel
theorem k_172_8 : COD 172 8 = some (.iconst 0, 1, 0, 0, 0, 0) := by decide +kernel
theorem k_172_9 : COD 172 9 = some (.ireturn, 1, 0, 0, 0, 1) := by decide +kernel
theorem k_172_10 : COD 172 10 = some (.aload_n 0, 1, 0, 0, 0, 0) := by decide +kernel
theorem k_172_11 : COD 172 11 = some (.bipush 15, 2, 0, 0, 0, 0) := by decide +kernel
theorem k_172_13 : COD 172 13 = some (.invokevirtual 273, 3, 167, 1, 1277, 10) := by decide +kernel
theorem k_172_16 : COD 172 16 = some (.ifCond .eq 24, 3, 40, 0, 0, 0) := by decide +kernel
theorem k_172_19 : COD 172 19 = some (.aload_n 0, 1, 0, 0, 0, 0) := by decide +kernel
theorem k_172_20 : COD 172 20 = some (.aload_n 1, 1, 0, 0, 0, 0) := by decide +kernel
theorem k_172_21 : COD 172 21 = some (.invokevirtual 287, 3, 173, 1, 1298, 10) := by decide +kernel
theorem k_172_24 : COD 172 24 = some (.ifCond .ne 5, 3, 29, 0, 0, 0) := by decide +kernel
theorem k_172_27 : COD 172 27 = some (.iconst 0, 1, 0, 0, 0, 0) := by decide +kernel
theorem k_172_28 : COD 172 28 = some (.ireturn, 1, 0, 0, 0, 1) := by decide +kernel
theorem k_172_29 : COD 172 29 = some (.aload_n 0, 1, 0, 0, 0, 0) := by decide +kernel
theorem k_172_30 : COD 172 30 = some (.aload_n 1, 1, 0, 0, 0, 0) := by decide +kernel
theorem k_172_31 : COD 172 31 = some (.bipush 15, 2, 0, 0, 0, 0) := by decide +kernel
theorem k_172_33 : COD 172 33 = some (.iconst 0, 1, 0, 0, 0, 0) := by decide +kernel
theorem k_172_34 : COD 172 34 = some (.invokevirtual 283, 3, 170, 3, 1306, 10) := by decide +kernel
theorem k_172_37 : COD 172 37 = some (.goto (-27), 3, 10, 0, 0, 0) := by decide +kernel
theorem k_172_40 : COD 172 40 = some (.iconst 1, 1, 0, 0, 0, 0) := by decide +kernel
theorem k_172_41 : COD 172 41 = some (.ireturn, 1, 0, 0, 0, 1) := by decide +kernel
theorem k_173_0 : COD 173 0 = some (.aload_n 0, 1, 0, 0, 0, 0) := by decide +kernel
theorem k_173_1 : COD 173 1 = some (.getfield 24, 3, 10, 5, 1146, 0) := by decide +kernel
theorem k_173_4 : COD 173 4 = some (.aload_n 0, 1, 0, 0, 0, 0) := by decide +kernel
theorem k_173_5 : COD 173 5 = some (.getfield 267, 3, 10, 9, 1150, 0) := by decide +kernel
theorem k_173_8 : COD 173 8 = some (.iaload, 1, 0, 0, 0, 0) := by decide +kernel
theorem k_173_9 : COD 173 9 = some (.bipush 14, 2, 0, 0, 0, 0) := by decide +kernel
theorem k_173_11 : COD 173 11 = some (.if_icmp .ne 42, 3, 53, 0, 0, 0) := by decide +kernel
theorem k_173_14 : COD 173 14 = some (.aload_n 0, 1, 0, 0, 0, 0) := by decide +kernel
theorem k_173_15 : COD 173 15 = some (.bipush 14, 2, 0, 0, 0, 0) := by decide +kernel
theorem k_173_17 : COD 173 17 = some (.invokevirtual 290, 3, 168, 1, 1302, 10) := by decide +kernel
theorem k_173_20 : COD 173 20 = some (.ifCond .eq 11, 3, 31, 0, 0, 0) := by decide +kernel
theorem k_173_23 : COD 173 23 = some (.aload_n 0, 1, 0, 0, 0, 0) := by decide +kernel
theorem k_173_24 : COD 173 24 = some (.aload_n 1, 1, 0, 0, 0, 0) := by decide +kernel
theorem k_173_25 : COD 173 25 = some (.invokevirtual 287, 3, 173, 1, 1298, 10) := by decide +kernel
theorem k_173_28 : COD 173 28 = some (.ifCond .ne 5, 3, 33, 0, 0, 0) := by decide +kernel
theorem k_173_31 : COD 173 31 = some (.iconst 0, 1, 0, 0, 0, 0) := by decide +kernel
theorem k_173_32 : COD 173 32 = some (.ireturn, 1, 0, 0, 0, 1) := by decide +kernel
theorem k_173_33 : COD 173 33 = some (.aload_n 0, 1, 0, 0, 0, 0) := by decide +kernel
theorem k_173_34 : COD 173 34 = some (.dup, 1, 0, 0, 0, 0) := by decide +kernel
theorem k_173_35 : COD 173 35 = some (.getfield 270, 3, 10, 10, 1151, 0) := by decide +kernel
theorem k_173_38 : COD 173 38 = some (.iconst 1, 1, 0, 0, 0, 0) := by decide +kernel
theorem k_173_39 : COD 173 39 = some (.isub, 1, 0, 0, 0, 0) := by decide +kernel
theorem k_173_40 : COD 173 40 = some (.putfield 270, 3, 10, 10, 1151, 0) := by decide +kernel
theorem k_173_43 : COD 173 43 = some (.aload_n 0, 1, 0, 0, 0, 0) := by decide +kernel
theorem k_173_44 : COD 173 44 = some (.aload_n 1, 1, 0, 0, 0, 0) := by decide +kernel
theorem k_173_45 : COD 173 45 = some (.bipush 14, 2, 0, 0, 0, 0) := by decide +kernel
theorem k_173_47 : COD 173 47 = some (.iconst 0, 1, 0, 0, 0, 0) := by decide +kernel
theorem k_173_48 : COD 173 48 = some (.invokevirtual 283, 3, 170, 3, 1306, 10) := by decide +kernel
theorem k_173_51 : COD 173 51 = some (.iconst 1, 1, 0, 0, 0, 0) := by decide +kernel
theorem k_173_52 : COD 173 52 = some (.ireturn, 1, 0, 0, 0, 1) := by decide +kernel
theorem k_173_53 : COD 173 53 = some (.aload_n 0, 1, 0, 0, 0, 0) := by decide +kernel
theorem k_173_54 : COD 173 54 = some (.getfield 24, 3, 10, 5, 1146, 0) := by decide +kernel
theorem k_173_57 : COD 173 57 = some (.aload_n 0, 1, 0, 0, 0, 0) := by decide +kernel
theorem k_173_58 : COD 173 58 = some (.getfield 267, 3, 10, 9, 1150, 0) := by decide +kernel
theorem k_173_61 : COD 173 61 = some (.iaload, 1, 0, 0, 0, 0) := by decide +kernel
theorem k_173_62 : COD 173 62 = some (.bipush 91, 2, 0, 0, 0, 0) := by decide +kernel
theorem k_173_64 : COD 173 64 = some (.if_icmp .ne 37, 3, 101, 0, 0, 0) := by decide +kernel
theorem k_173_67 : COD 173 67 = some (.aload_n 0, 1, 0, 0, 0, 0) := by decide +kernel
theorem k_173_68 : COD 173 68 = some (.bipush 91, 2, 0, 0, 0, 0) := by decide +kernel
theorem k_173_70 : COD 173 70 = some (.invokevirtual 290, 3, 168, 1, 1302, 10) := by decide +kernel
theorem k_173_73 : COD 173 73 = some (.ifCond .eq 24, 3, 97, 0, 0, 0) := by decide +kernel
theorem k_173_76 : COD 173 76 = some (.aload_n 0, 1, 0, 0, 0, 0) := by decide +kernel
theorem k_173_77 : COD 173 77 = some (.aload_n 1, 1, 0, 0, 0, 0) := by decide +kernel
theorem k_173_78 : COD 173 78 = some (.invokevirtual 293, 3, 171, 1, 1290, 10) := by decide +kernel
theorem k_173_81 : COD 173 81 = some (.ifCond .eq 16, 3, 97, 0, 0, 0) := by decide +kernel
theorem k_173_84 : COD 173 84 = some (.aload_n 0, 1, 0, 0, 0, 0) := by decide +kernel
theorem k_173_85 : COD 173 85 = some (.bipush 93, 2, 0, 0, 0, 0) := by decide +kernel
theorem k_173_87 : COD 173 87 = some (.invokevirtual 296, 3, 169, 1, 1310, 10) := by decide +kernel
theorem k_173_90 : COD 173 90 = some (.ifCond .eq 7, 3, 97, 0, 0, 0) := by decide +kernel
theorem k_173_93 : COD 173 93 = some (.iconst 1, 1, 0, 0, 0, 0) := by decide +kernel
theorem k_173_94 : COD 173 94 = some (.goto 12, 3, 106, 0, 0, 0) := by decide +kernel
theorem k_173_97 : COD 173 97 = some (.iconst 0, 1, 0, 0, 0, 0) := by decide +kernel
theorem k_173_98 : COD 173 98 = some (.goto 8, 3, 106, 0, 0, 0) := by decide +kernel
theorem k_173_101 : COD 173 101 = some (.aload_n 0, 1, 0, 0, 0, 0) := by decide +kernel
theorem k_173_102 : COD 173 102 = some (.aload_n 1, 1, 0, 0, 0, 0) := by decide +kernel
theorem k_173_103 : COD 173 103 = some (.invokevirtual 299, 3, 174, 1, 1314, 10) := by decide +kernel
theorem k_173_106 : COD 173 106 = some (.ireturn, 1, 0, 0, 0, 1) := by decide +kernel
theorem k_174_0 : COD 174 0 = some (.aload_n 0, 1, 0, 0, 0, 0) := by decide +kernel
theorem k_174_1 : COD 174 1 = some (.aload_n 1, 1, 0, 0, 0, 0) := by decide +kernel
theorem k_174_2 : COD 174 2 = some (.invokevirtual 302, 3, 175, 1, 1318, 10) := by decide +kernel
theorem k_174_5 : COD 174 5 = some (.ifCond .ne 5, 3, 10, 0, 0, 0) := by decide +kernel
theorem k_174_8 : COD 174 8 = some (.iconst 0, 1, 0, 0, 0, 0) := by decide +kernel
theorem k_174_9 : COD 174 9 = some (.ireturn, 1, 0, 0, 0, 1) := by decide +kernel
theorem k_174_10 : COD 174 10 = some (.aload_n 0, 1, 0, 0, 0, 0) := by decide +kernel
theorem k_174_11 : COD 174 11 = some (.getfield 24, 3, 10, 5, 1146, 0) := by decide +kernel
theorem k_174_14 : COD 174 14 = some (.aload_n 0, 1, 0, 0, 0, 0) := by decide +kernel
theorem k_174_15 : COD 174 15 = some (.getfield 267, 3, 10, 9, 1150, 0) := by decide +kernel
theorem k_174_18 : COD 174 18 = some (.iaload, 1, 0, 0, 0, 0) := by decide +kernel
theorem k_174_19 : COD 174 19 = some (.istore_n 2, 1, 0, 0, 0, 0) := by decide +kernel
theorem k_174_20 : COD 174 20 = some (.iload_n 2, 1, 0, 0, 0, 0) := by decide +kernel
theorem k_174_21 : COD 174 21 = some (.bipush 60, 2, 0, 0, 0, 0) := by decide +kernel
theorem k_174_23 : COD 174 23 = some (.if_icmp .ne 8, 3, 31, 0, 0, 0) := by decide +kernel
theorem k_174_26 : COD 174 26 = some (.bipush 106, 2, 0, 0, 0, 0) := by decide +kernel
theorem k_174_28 : COD 174 28 = some (.goto 50, 3, 78, 0, 0, 0) := by decide +kernel
theorem k_174_31 : COD 174 31 = some (.iload_n 2, 1, 0, 0, 0, 0) := by decide +kernel
theorem k_174_32 : COD 174 32 = some (.bipush 62, 2, 0, 0, 0, 0) := by decide +kernel
theorem k_174_34 : COD 174 34 = some (.if_icmp .ne 8, 3, 42, 0, 0, 0) := by decide +kernel
theorem k_174_37 : COD 174 37 = some (.bipush 107, 2, 0, 0, 0, 0) := by decide +kernel
theorem k_174_39 : COD 174 39 = some (.goto 39, 3, 78, 0, 0, 0) := by decide +kernel
theorem k_174_42 : COD 174 42 = some (.iload_n 2, 1, 0, 0, 0, 0) := by decide +kernel
theorem k_174_43 : COD 174 43 = some (.bipush 61, 2, 0, 0, 0, 0) := by decide +kernel
theorem k_174_45 : COD 174 45 = some (.if_icmp .ne 8, 3, 53, 0, 0, 0) := by decide +kernel
theorem k_174_48 : COD 174 48 = some (.bipush 108, 2, 0, 0, 0, 0) := by decide +kernel
theorem k_174_50 : COD 174 50 = some (.goto 28, 3, 78, 0, 0, 0) := by decide +kernel
theorem k_174_53 : COD 174 53 = some (.iload_n 2, 1, 0, 0, 0, 0) := by decide +kernel
theorem k_174_54 : COD 174 54 = some (.sipush 316, 3, 0, 0, 0, 0) := by decide +kernel
theorem k_174_57 : COD 174 57 = some (.if_icmp .ne 8, 3, 65, 0, 0, 0) := by decide +kernel
theorem k_174_60 : COD 174 60 = some (.bipush 109, 2, 0, 0, 0, 0) := by decide +kernel
theorem k_174_62 : COD 174 62 = some (.goto 16, 3, 78, 0, 0, 0) := by decide +kernel
theorem k_174_65 : COD 174 65 = some (.iload_n 2, 1, 0, 0, 0, 0) := by decide +kernel
theorem k_174_66 : COD 174 66 = some (.sipush 318, 3, 0, 0, 0, 0) := by decide +kernel
theorem k_174_69 : COD 174 69 = some (.if_icmp .ne 8, 3, 77, 0, 0, 0) := by decide +kernel
theorem k_174_72 : COD 174 72 = some (.bipush 110, 2, 0, 0, 0, 0) := by decide +kernel
theorem k_174_74 : COD 174 74 = some (.goto 4, 3, 78, 0, 0, 0) := by decide +kernel
theorem k_174_77 : COD 174 77 = some (.iconst (-1), 1, 0, 0, 0, 0) := by decide +kernel
theorem k_174_78 : COD 174 78 = some (.istore_n 3, 1, 0, 0, 0, 0) := by decide +kernel
theorem k_174_79 : COD 174 79 = some (.iload_n 3, 1, 0, 0, 0, 0) := by decide +kernel
theorem k_174_80 : COD 174 80 = some (.iconst (-1), 1, 0, 0, 0, 0) := by decide +kernel
theorem k_174_81 : COD 174 81 = some (.if_icmp .ne 5, 3, 86, 0, 0, 0) := by decide +kernel
theorem k_174_84 : COD 174 84 = some (.iconst 0, 1, 0, 0, 0, 0) := by decide +kernel
theorem k_174_85 : COD 174 85 = some (.ireturn, 1, 0, 0, 0, 1) := by decide +kernel
theorem k_174_86 : COD 174 86 = some (.aload_n 0, 1, 0, 0, 0, 0) := by decide +kernel
theorem k_174_87 : COD 174 87 = some (.dup, 1, 0, 0, 0, 0) := by decide +kernel
theorem k_174_88 : COD 174 88 = some (.getfield 267, 3, 10, 9, 1150, 0) := by decide +kernel
theorem k_174_91 : COD 174 91 = some (.iconst 1, 1, 0, 0, 0, 0) := by decide +kernel
theorem k_174_92 : COD 174 92 = some (.iadd, 1, 0, 0, 0, 0) := by decide +kernel
theorem k_174_93 : COD 174 93 = some (.putfield 267, 3, 10, 9, 1150, 0) := by decide +kernel
theorem k_174_96 : COD 174 96 = some (.aload_n 0, 1, 0, 0, 0, 0) := by decide +kernel
theorem k_174_97 : COD 174 97 = some (.aload_n 1, 1, 0, 0, 0, 0) := by decide +kernel
theorem k_174_98 : COD 174 98 = some (.invokevirtual 302, 3, 175, 1, 1318, 10) := by decide +kernel
theorem k_174_101 : COD 174 101 = some (.ifCond .ne 5, 3, 106, 0, 0, 0) := by decide +kernel
theorem k_174_104 : COD 174 104 = some (.iconst 0, 1, 0, 0, 0, 0) := by decide +kernel
theorem k_174_105 : COD 174 105 = some (.ireturn, 1, 0, 0, 0, 1) := by decide +kernel
theorem k_174_106 : COD 174 106 = some (.aload_n 0, 1, 0, 0, 0, 0) := by decide +kernel
theorem k_174_107 : COD 174 107 = some (.aload_n 1, 1, 0, 0, 0, 0) := by decide +kernel
theorem k_174_108 : COD 174 108 = some (.iload_n 3, 1, 0, 0, 0, 0) := by decide +kernel
theorem k_174_109 : COD 174 109 = some (.iconst 0, 1, 0, 0, 0, 0) := by decide +kernel
theorem k_174_110 : COD 174 110 = some (.invokevirtual 283, 3, 170, 3, 1306, 10) := by decide +kernel
theorem k_174_113 : COD 174 113 = some (.iconst 1, 1, 0, 0, 0, 0) := by decide +kernel
theorem k_174_114 : COD 174 114 = some (.ireturn, 1, 0, 0, 0, 1) := by decide +kernel
theorem k_175_0 : COD 175 0 = some (.aload_n 0, 1, 0, 0, 0, 0) := by decide +kernel
theorem k_175_1 : COD 175 1 = some (.aload_n 1, 1, 0, 0, 0, 0) := by decide +kernel
theorem k_175_2 : COD 175 2 = some (.invokevirtual 305, 3, 176, 1, 1322, 10) := by decide +kernel
theorem k_175_5 : COD 175 5 = some (.ifCond .ne 5, 3, 10, 0, 0, 0) := by decide +kernel
theorem k_175_8 : COD 175 8 = some (.iconst 0, 1, 0, 0, 0, 0) := by decide +kernel
theorem k_175_9 : COD 175 9 = some (.ireturn, 1, 0, 0, 0, 1) := by decide +kernel
theorem k_175_10 : COD 175 10 = some (.aload_n 0, 1, 0, 0, 0, 0) := by decide +kernel
theorem k_175_11 : COD 175 11 = some (.getfield 24, 3, 10, 5, 1146, 0) := by decide +kernel
theorem k_175_14 : COD 175 14 = some (.aload_n 0, 1, 0, 0, 0, 0) := by decide +kernel
theorem k_175_15 : COD 175 15 = some (.getfield 267, 3, 10, 9, 1150, 0) := by decide +kernel
theorem k_175_18 : COD 175 18 = some (.iaload, 1, 0, 0, 0, 0) := by decide +kernel
theorem k_175_19 : COD 175 19 = some (.bipush 43, 2, 0, 0, 0, 0) := by decide +kernel
theorem k_175_21 : COD 175 21 = some (.if_icmp .eq 17, 3, 38, 0, 0, 0) := by decide +kernel
theorem k_175_24 : COD 175 24 = some (.aload_n 0, 1, 0, 0, 0, 0) := by decide +kernel
theorem k_175_25 : COD 175 25 = some (.getfield 24, 3, 10, 5, 1146, 0) := by decide +kernel
theorem k_175_28 : COD 175 28 = some (.aload_n 0, 1, 0, 0, 0, 0) := by decide +kernel
theorem k_175_29 : COD 175 29 = some (.getfield 267, 3, 10, 9, 1150, 0) := by decide +kernel
theorem k_175_32 : COD 175 32 = some (.iaload, 1, 0, 0, 0, 0) := by decide +kernel
theorem k_175_33 : COD 175 33 = some (.bipush 45, 2, 0, 0, 0, 0) := by decide +kernel
theorem k_175_35 : COD 175 35 = some (.if_icmp .ne 55, 3, 90, 0, 0, 0) := by decide +kernel
theorem k_175_38 : COD 175 38 = some (.aload_n 0, 1, 0, 0, 0, 0) := by decide +kernel
theorem k_175_39 : COD 175 39 = some (.getfield 24, 3, 10, 5, 1146, 0) := by decide +kernel
theorem k_175_42 : COD 175 42 = some (.aload_n 0, 1, 0, 0, 0, 0) := by decide +kernel
theorem k_175_43 : COD 175 43 = some (.getfield 267, 3, 10, 9, 1150, 0) := by decide +kernel
theorem k_175_46 : COD 175 46 = some (.iaload, 1, 0, 0, 0, 0) := by decide +kernel
theorem k_175_47 : COD 175 47 = some (.bipush 43, 2, 0, 0, 0, 0) := by decide +kernel
theorem k_175_49 : COD 175 49 = some (.if_icmp .ne 8, 3, 57, 0, 0, 0) := by decide +kernel
theorem k_175_52 : COD 175 52 = some (.bipush 101, 2, 0, 0, 0, 0) := by decide +kernel
theorem k_175_54 : COD 175 54 = some (.goto 5, 3, 59, 0, 0, 0) := by decide +kernel
theorem k_175_57 : COD 175 57 = some (.bipush 102, 2, 0, 0, 0, 0) := by decide +kernel
theorem k_175_59 : COD 175 59 = some (.istore_n 2, 1, 0, 0, 0, 0) := by decide +kernel
theorem k_175_60 : COD 175 60 = some (.aload_n 0, 1, 0, 0, 0, 0) := by decide +kernel
theorem k_175_61 : COD 175 61 = some (.dup, 1, 0, 0, 0, 0) := by decide +kernel
theorem k_175_62 : COD 175 62 = some (.getfield 267, 3, 10, 9, 1150, 0) := by decide +kernel
theorem k_175_65 : COD 175 65 = some (.iconst 1, 1, 0, 0, 0, 0) := by decide +kernel
theorem k_175_66 : COD 175 66 = some (.iadd, 1, 0, 0, 0, 0) := by decide +kernel
theorem k_175_67 : COD 175 67 = some (.putfield 267, 3, 10, 9, 1150, 0) := by decide +kernel
theorem k_175_70 : COD 175 70 = some (.aload_n 0, 1, 0, 0, 0, 0) := by decide +kernel
theorem k_175_71 : COD 175 71 = some (.aload_n 1, 1, 0, 0, 0, 0) := by decide +kernel
theorem k_175_72 : COD 175 72 = some (.invokevirtual 305, 3, 176, 1, 1322, 10) := by decide +kernel
theorem k_175_75 : COD 175 75 = some (.ifCond .ne 5, 3, 80, 0, 0, 0) := by decide +kernel
theorem k_175_78 : COD 175 78 = some (.iconst 0, 1, 0, 0, 0, 0) := by decide +kernel
theorem k_175_79 : COD 175 79 = some (.ireturn, 1, 0, 0, 0, 1) := by decide +kernel
theorem k_175_80 : COD 175 80 = some (.aload_n 0, 1, 0, 0, 0, 0) := by decide +kernel
theorem k_175_81 : COD 175 81 = some (.aload_n 1, 1, 0, 0, 0, 0) := by decide +kernel
theorem k_175_82 : COD 175 82 = some (.iload_n 2, 1, 0, 0, 0, 0) := by decide +kernel
theorem k_175_83 : COD 175 83 = some (.iconst 0, 1, 0, 0, 0, 0) := by decide +kernel
theorem k_175_84 : COD 175 84 = some (.invokevirtual 283, 3, 170, 3, 1306, 10) := by decide +kernel
theorem k_175_87 : COD 175 87 = some (.goto (-77), 3, 10, 0, 0, 0) := by decide +kernel
theorem k_175_90 : COD 175 90 = some (.iconst 1, 1, 0, 0, 0, 0) := by decide +kernel
theorem k_175_91 : COD 175 91 = some (.ireturn, 1, 0, 0, 0, 1) := by decide +kernel
theorem k_176_0 : COD 176 0 = some (.aload_n 0, 1, 0, 0, 0, 0) := by decide +kernel
theorem k_176_1 : COD 176 1 = some (.aload_n 1, 1, 0, 0, 0, 0) := by decide +kernel
theorem k_176_2 : COD 176 2 = some (.invokevirtual 308, 3, 177, 1, 1326, 10) := by decide +kernel
theorem k_176_5 : COD 176 5 = some (.ifCond .ne 5, 3, 10, 0, 0, 0) := by decide +kernel
theorem k_176_8 : COD 176 8 = some (.iconst 0, 1, 0, 0, 0, 0) := by decide +kernel
theorem k_176_9 : COD 176 9 = some (.ireturn, 1, 0, 0, 0, 1) := by decide +kernel
theorem k_176_10 : COD 176 10 = some (.aload_n 0, 1, 0, 0, 0, 0) := by decide +kernel
theorem k_176_11 : COD 176 11 = some (.getfield 24, 3, 10, 5, 1146, 0) := by decide +kernel
theorem k_176_14 : COD 176 14 = some (.aload_n 0, 1, 0, 0, 0, 0) := by decide +kernel
theorem k_176_15 : COD 176 15 = some (.getfield 267, 3, 10, 9, 1150, 0) := by decide +kernel
theorem k_176_18 : COD 176 18 = some (.iaload, 1, 0, 0, 0, 0) := by decide +kernel
theorem k_176_19 : COD 176 19 = some (.bipush 42, 2, 0, 0, 0, 0) := by decide +kernel
theorem k_176_21 : COD 176 21 = some (.if_icmp .eq 17, 3, 38, 0, 0, 0) := by decide +kernel
theorem k_176_24 : COD 176 24 = some (.aload_n 0, 1, 0, 0, 0, 0) := by decide +kernel
theorem k_176_25 : COD 176 25 = some (.getfield 24, 3, 10, 5, 1146, 0) := by decide +kernel
theorem k_176_28 : COD 176 28 = some (.aload_n 0, 1, 0, 0, 0, 0) := by decide +kernel
theorem k_176_29 : COD 176 29 = some (.getfield 267, 3, 10, 9, 1150, 0) := by decide +kernel
theorem k_176_32 : COD 176 32 = some (.iaload, 1, 0, 0, 0, 0) := by decide +kernel
theorem k_176_33 : COD 176 33 = some (.bipush 47, 2, 0, 0, 0, 0) := by decide +kernel
theorem k_176_35 : COD 176 35 = some (.if_icmp .ne 55, 3, 90, 0, 0, 0) := by decide +kernel
theorem k_176_38 : COD 176 38 = some (.aload_n 0, 1, 0, 0, 0, 0) := by decide +kernel
theorem k_176_39 : COD 176 39 = some (.getfield 24, 3, 10, 5, 1146, 0) := by decide +kernel
theorem k_176_42 : COD 176 42 = some (.aload_n 0, 1, 0, 0, 0, 0) := by decide +kernel
theorem k_176_43 : COD 176 43 = some (.getfield 267, 3, 10, 9, 1150, 0) := by decide +kernel
theorem k_176_46 : COD 176 46 = some (.iaload, 1, 0, 0, 0, 0) := by decide +kernel
theorem k_176_47 : COD 176 47 = some (.bipush 42, 2, 0, 0, 0, 0) := by decide +kernel
theorem k_176_49 : COD 176 49 = some (.if_icmp .ne 8, 3, 57, 0, 0, 0) := by decide +kernel
theorem k_176_52 : COD 176 52 = some (.bipush 103, 2, 0, 0, 0, 0) := by decide +kernel
theorem k_176_54 : COD 176 54 = some (.goto 5, 3, 59, 0, 0, 0) := by decide +kernel
theorem k_176_57 : COD 176 57 = some (.bipush 104, 2, 0, 0, 0, 0) := by decide +kernel
theorem k_176_59 : COD 176 59 = some (.istore_n 2, 1, 0, 0, 0, 0) := by decide +kernel
theorem k_176_60 : COD 176 60 = some (.aload_n 0, 1, 0, 0, 0, 0) := by decide +kernel
theorem k_176_61 : COD 176 61 = some (.dup, 1, 0, 0, 0, 0) := by decide +kernel
theorem k_176_62 : COD 176 62 = some (.getfield 267, 3, 10, 9, 1150, 0) := by decide +kernel
theorem k_176_65 : COD 176 65 = some (.iconst 1, 1, 0, 0, 0, 0) := by decide +kernel
theorem k_176_66 : COD 176 66 = some (.iadd, 1, 0, 0, 0, 0) := by decide +kernel
theorem k_176_67 : COD 176 67 = some (.putfield 267, 3, 10, 9, 1150, 0) := by decide +kernel
theorem k_176_70 : COD 176 70 = some (.aload_n 0, 1, 0, 0, 0, 0) := by decide +kernel
theorem k_176_71 : COD 176 71 = some (.aload_n 1, 1, 0, 0, 0, 0) := by decide +kernel
theorem k_176_72 : COD 176 72 = some (.invokevirtual 308, 3, 177, 1, 1326, 10) := by decide +kernel
theorem k_176_75 : COD 176 75 = some (.ifCond .ne 5, 3, 80, 0, 0, 0) := by decide +kernel
theorem k_176_78 : COD 176 78 = some (.iconst 0, 1, 0, 0, 0, 0) := by decide +kernel
theorem k_176_79 : COD 176 79 = some (.ireturn, 1, 0, 0, 0, 1) := by decide +kernel
theorem k_176_80 : COD 176 80 = some (.aload_n 0, 1, 0, 0, 0, 0) := by decide +kernel
theorem k_176_81 : COD 176 81 = some (.aload_n 1, 1, 0, 0, 0, 0) := by decide +kernel
theorem k_176_82 : COD 176 82 = some (.iload_n 2, 1, 0, 0, 0, 0) := by decide +kernel
theorem k_176_83 : COD 176 83 = some (.iconst 0, 1, 0, 0, 0, 0) := by decide +kernel
theorem k_176_84 : COD 176 84 = some (.invokevirtual 283, 3, 170, 3, 1306, 10) := by decide +kernel
theorem k_176_87 : COD 176 87 = some (.goto (-77), 3, 10, 0, 0, 0) := by decide +kernel
theorem k_176_90 : COD 176 90 = some (.iconst 1, 1, 0, 0, 0, 0) := by decide +kernel
theorem k_176_91 : COD 176 91 = some (.ireturn, 1, 0, 0, 0, 1) := by decide +kernel
theorem k_177_0 : COD 177 0 = some (.aload_n 0, 1, 0, 0, 0, 0) := by decide +kernel
theorem k_177_1 : COD 177 1 = some (.getfield 24, 3, 10, 5, 1146, 0) := by decide +kernel
theorem k_177_4 : COD 177 4 = some (.aload_n 0, 1, 0, 0, 0, 0) := by decide +kernel
theorem k_177_5 : COD 177 5 = some (.getfield 267, 3, 10, 9, 1150, 0) := by decide +kernel
theorem k_177_8 : COD 177 8 = some (.iaload, 1, 0, 0, 0, 0) := by decide +kernel
theorem k_177_9 : COD 177 9 = some (.istore_n 2, 1, 0, 0, 0, 0) := by decide +kernel
theorem k_177_10 : COD 177 10 = some (.iload_n 2, 1, 0, 0, 0, 0) := by decide +kernel
theorem k_177_11 : COD 177 11 = some (.bipush 45, 2, 0, 0, 0, 0) := by decide +kernel
theorem k_177_13 : COD 177 13 = some (.if_icmp .ne 42, 3, 55, 0, 0, 0) := by decide +kernel
theorem k_177_16 : COD 177 16 = some (.aload_n 0, 1, 0, 0, 0, 0) := by decide +kernel
theorem k_177_17 : COD 177 17 = some (.bipush 45, 2, 0, 0, 0, 0) := by decide +kernel
theorem k_177_19 : COD 177 19 = some (.invokevirtual 290, 3, 168, 1, 1302, 10) := by decide +kernel
theorem k_177_22 : COD 177 22 = some (.ifCond .eq 11, 3, 33, 0, 0, 0) := by decide +kernel
theorem k_177_25 : COD 177 25 = some (.aload_n 0, 1, 0, 0, 0, 0) := by decide +kernel
theorem k_177_26 : COD 177 26 = some (.aload_n 1, 1, 0, 0, 0, 0) := by decide +kernel
theorem k_177_27 : COD 177 27 = some (.invokevirtual 308, 3, 177, 1, 1326, 10) := by decide +kernel
theorem k_177_30 : COD 177 30 = some (.ifCond .ne 5, 3, 35, 0, 0, 0) := by decide +kernel
theorem k_177_33 : COD 177 33 = some (.iconst 0, 1, 0, 0, 0, 0) := by decide +kernel
theorem k_177_34 : COD 177 34 = some (.ireturn, 1, 0, 0, 0, 1) := by decide +kernel
theorem k_177_35 : COD 177 35 = some (.aload_n 0, 1, 0, 0, 0, 0) := by decide +kernel
theorem k_177_36 : COD 177 36 = some (.dup, 1, 0, 0, 0, 0) := by decide +kernel
theorem k_177_37 : COD 177 37 = some (.getfield 270, 3, 10, 10, 1151, 0) := by decide +kernel
theorem k_177_40 : COD 177 40 = some (.iconst 1, 1, 0, 0, 0, 0) := by decide +kernel
theorem k_177_41 : COD 177 41 = some (.isub, 1, 0, 0, 0, 0) := by decide +kernel
theorem k_177_42 : COD 177 42 = some (.putfield 270, 3, 10, 10, 1151, 0) := by decide +kernel
theorem k_177_45 : COD 177 45 = some (.aload_n 0, 1, 0, 0, 0, 0) := by decide +kernel
theorem k_177_46 : COD 177 46 = some (.aload_n 1, 1, 0, 0, 0, 0) := by decide +kernel
theorem k_177_47 : COD 177 47 = some (.bipush 105, 2, 0, 0, 0, 0) := by decide +kernel
theorem k_177_49 : COD 177 49 = some (.iconst 0, 1, 0, 0, 0, 0) := by decide +kernel
theorem k_177_50 : COD 177 50 = some (.invokevirtual 283, 3, 170, 3, 1306, 10) := by decide +kernel
theorem k_177_53 : COD 177 53 = some (.iconst 1, 1, 0, 0, 0, 0) := by decide +kernel
theorem k_177_54 : COD 177 54 = some (.ireturn, 1, 0, 0, 0, 1) := by decide +kernel
theorem k_177_55 : COD 177 55 = some (.iload_n 2, 1, 0, 0, 0, 0) := by decide +kernel
theorem k_177_56 : COD 177 56 = some (.bipush 40, 2, 0, 0, 0, 0) := by decide +kernel
theorem k_177_58 : COD 177 58 = some (.if_icmp .ne 35, 3, 93, 0, 0, 0) := by decide +kernel
theorem k_177_61 : COD 177 61 = some (.aload_n 0, 1, 0, 0, 0, 0) := by decide +kernel
theorem k_177_62 : COD 177 62 = some (.bipush 40, 2, 0, 0, 0, 0) := by decide +kernel
theorem k_177_64 : COD 177 64 = some (.invokevirtual 290, 3, 168, 1, 1302, 10) := by decide +kernel
theorem k_177_67 : COD 177 67 = some (.ifCond .eq 24, 3, 91, 0, 0, 0) := by decide +kernel
theorem k_177_70 : COD 177 70 = some (.aload_n 0, 1, 0, 0, 0, 0) := by decide +kernel
theorem k_177_71 : COD 177 71 = some (.aload_n 1, 1, 0, 0, 0, 0) := by decide +kernel
theorem k_177_72 : COD 177 72 = some (.invokevirtual 302, 3, 175, 1, 1318, 10) := by decide +kernel
theorem k_177_75 : COD 177 75 = some (.ifCond .eq 16, 3, 91, 0, 0, 0) := by decide +kernel
theorem k_177_78 : COD 177 78 = some (.aload_n 0, 1, 0, 0, 0, 0) := by decide +kernel
theorem k_177_79 : COD 177 79 = some (.bipush 41, 2, 0, 0, 0, 0) := by decide +kernel
theorem k_177_81 : COD 177 81 = some (.invokevirtual 296, 3, 169, 1, 1310, 10) := by decide +kernel
theorem k_177_84 : COD 177 84 = some (.ifCond .eq 7, 3, 91, 0, 0, 0) := by decide +kernel
theorem k_177_87 : COD 177 87 = some (.iconst 1, 1, 0, 0, 0, 0) := by decide +kernel
theorem k_177_88 : COD 177 88 = some (.goto 4, 3, 92, 0, 0, 0) := by decide +kernel
theorem k_177_91 : COD 177 91 = some (.iconst 0, 1, 0, 0, 0, 0) := by decide +kernel
theorem k_177_92 : COD 177 92 = some (.ireturn, 1, 0, 0, 0, 1) := by decide +kernel
theorem k_177_93 : COD 177 93 = some (.iload_n 2, 1, 0, 0, 0, 0) := by decide +kernel
theorem k_177_94 : COD 177 94 = some (.bipush 17, 2, 0, 0, 0, 0) := by decide +kernel
theorem k_177_96 : COD 177 96 = some (.if_icmp .eq 15, 3, 111, 0, 0, 0) := by decide +kernel
theorem k_177_99 : COD 177 99 = some (.iload_n 2, 1, 0, 0, 0, 0) := by decide +kernel
theorem k_177_100 : COD 177 100 = some (.bipush 18, 2, 0, 0, 0, 0) := by decide +kernel
theorem k_177_102 : COD 177 102 = some (.if_icmp .eq 9, 3, 111, 0, 0, 0) := by decide +kernel
theorem k_177_105 : COD 177 105 = some (.iload_n 2, 1, 0, 0, 0, 0) := by decide +kernel
theorem k_177_106 : COD 177 106 = some (.bipush 13, 2, 0, 0, 0, 0) := by decide +kernel
theorem k_177_108 : COD 177 108 = some (.if_icmp .ne 10, 3, 118, 0, 0, 0) := by decide +kernel
theorem k_177_111 : COD 177 111 = some (.aload_n 0, 1, 0, 0, 0, 0) := by decide +kernel
theorem k_177_112 : COD 177 112 = some (.aload_n 1, 1, 0, 0, 0, 0) := by decide +kernel
theorem k_177_113 : COD 177 113 = some (.iload_n 2, 1, 0, 0, 0, 0) := by decide +kernel
theorem k_177_114 : COD 177 114 = some (.invokevirtual 311, 3, 178, 2, 1330, 10) := by decide +kernel
theorem k_177_117 : COD 177 117 = some (.ireturn, 1, 0, 0, 0, 1) := by decide +kernel
theorem k_177_118 : COD 177 118 = some (.iload_n 2, 1, 0, 0, 0, 0) := by decide +kernel
theorem k_177_119 : COD 177 119 = some (.bipush 31, 2, 0, 0, 0, 0) := by decide +kernel
theorem k_177_121 : COD 177 121 = some (.if_icmp .ne 23, 3, 144, 0, 0, 0) := by decide +kernel
theorem k_177_124 : COD 177 124 = some (.aload_n 0, 1, 0, 0, 0, 0) := by decide +kernel
theorem k_177_125 : COD 177 125 = some (.aload_n 1, 1, 0, 0, 0, 0) := by decide +kernel
theorem k_177_126 : COD 177 126 = some (.bipush 100, 2, 0, 0, 0, 0) := by decide +kernel
theorem k_177_128 : COD 177 128 = some (.aload_n 0, 1, 0, 0, 0, 0) := by decide +kernel
theorem k_177_129 : COD 177 129 = some (.getfield 33, 3, 10, 8, 1149, 0) := by decide +kernel
theorem k_177_132 : COD 177 132 = some (.aload_n 0, 1, 0, 0, 0, 0) := by decide +kernel
theorem k_177_133 : COD 177 133 = some (.getfield 267, 3, 10, 9, 1150, 0) := by decide +kernel
theorem k_177_136 : COD 177 136 = some (.laload, 1, 0, 0, 0, 0) := by decide +kernel
theorem k_177_137 : COD 177 137 = some (.l2i, 1, 0, 0, 0, 0) := by decide +kernel
theorem k_177_138 : COD 177 138 = some (.invokevirtual 283, 3, 170, 3, 1306, 10) := by decide +kernel
theorem k_177_141 : COD 177 141 = some (.goto 26, 3, 167, 0, 0, 0) := by decide +kernel
theorem k_177_144 : COD 177 144 = some (.iload_n 2, 1, 0, 0, 0, 0) := by decide +kernel
theorem k_177_145 : COD 177 145 = some (.bipush 7, 2, 0, 0, 0, 0) := by decide +kernel
theorem k_177_147 : COD 177 147 = some (.bipush 12, 2, 0, 0, 0, 0) := by decide +kernel
theorem k_177_149 : COD 177 149 = some (.invokestatic 65, 3, 132, 3, 1221, 10) := by decide +kernel
theorem k_177_152 : COD 177 152 = some (.ifCond .eq 13, 3, 165, 0, 0, 0) := by decide +kernel
theorem k_177_155 : COD 177 155 = some (.aload_n 0, 1, 0, 0, 0, 0) := by decide +kernel
theorem k_177_156 : COD 177 156 = some (.aload_n 1, 1, 0, 0, 0, 0) := by decide +kernel
theorem k_177_157 : COD 177 157 = some (.iload_n 2, 1, 0, 0, 0, 0) := by decide +kernel
theorem k_177_158 : COD 177 158 = some (.iconst 0, 1, 0, 0, 0, 0) := by decide +kernel
theorem k_177_159 : COD 177 159 = some (.invokevirtual 283, 3, 170, 3, 1306, 10) := by decide +kernel
theorem k_177_162 : COD 177 162 = some (.goto 5, 3, 167, 0, 0, 0) := by decide +kernel
theorem k_177_165 : COD 177 165 = some (.iconst 0, 1, 0, 0, 0, 0) := by decide +kernel
theorem k_177_166 : COD 177 166 = some (.ireturn, 1, 0, 0, 0, 1) := by decide +kernel
theorem k_177_167 : COD 177 167 = some (.aload_n 0, 1, 0, 0, 0, 0) := by decide +kernel
theorem k_177_168 : COD 177 168 = some (.dup, 1, 0, 0, 0, 0) := by decide +kernel
theorem k_177_169 : COD 177 169 = some (.getfield 267, 3, 10, 9, 1150, 0) := by decide +kernel
theorem k_177_172 : COD 177 172 = some (.iconst 1, 1, 0, 0, 0, 0) := by decide +kernel
theorem k_177_173 : COD 177 173 = some (.iadd, 1, 0, 0, 0, 0) := by decide +kernel
theorem k_177_174 : COD 177 174 = some (.putfield 267, 3, 10, 9, 1150, 0) := by decide +kernel
theorem k_177_177 : COD 177 177 = some (.iconst 1, 1, 0, 0, 0, 0) := by decide +kernel
theorem k_177_178 : COD 177 178 = some (.ireturn, 1, 0, 0, 0, 1) := by decide +kernel
theorem k_178_0 : COD 178 0 = some (.aload_n 0, 1, 0, 0, 0, 0) := by decide +kernel
theorem k_178_1 : COD 178 1 = some (.dup, 1, 0, 0, 0, 0) := by decide +kernel
theorem k_178_2 : COD 178 2 = some (.getfield 267, 3, 10, 9, 1150, 0) := by decide +kernel
theorem k_178_5 : COD 178 5 = some (.iconst 1, 1, 0, 0, 0, 0) := by decide +kernel
theorem k_178_6 : COD 178 6 = some (.iadd, 1, 0, 0, 0, 0) := by decide +kernel
theorem k_178_7 : COD 178 7 = some (.putfield 267, 3, 10, 9, 1150, 0) := by decide +kernel
theorem k_178_10 : COD 178 10 = some (.aload_n 0, 1, 0, 0, 0, 0) := by decide +kernel
theorem k_178_11 : COD 178 11 = some (.bipush 40, 2, 0, 0, 0, 0) := by decide +kernel
theorem k_178_13 : COD 178 13 = some (.invokevirtual 290, 3, 168, 1, 1302, 10) := by decide +kernel
theorem k_178_16 : COD 178 16 = some (.ifCond .eq 43, 3, 59, 0, 0, 0) := by decide +kernel
theorem k_178_19 : COD 178 19 = some (.aload_n 0, 1, 0, 0, 0, 0) := by decide +kernel
theorem k_178_20 : COD 178 20 = some (.aload_n 1, 1, 0, 0, 0, 0) := by decide +kernel
theorem k_178_21 : COD 178 21 = some (.invokevirtual 302, 3, 175, 1, 1318, 10) := by decide +kernel
theorem k_178_24 : COD 178 24 = some (.ifCond .eq 35, 3, 59, 0, 0, 0) := by decide +kernel
theorem k_178_27 : COD 178 27 = some (.iload_n 2, 1, 0, 0, 0, 0) := by decide +kernel
theorem k_178_28 : COD 178 28 = some (.bipush 13, 2, 0, 0, 0, 0) := by decide +kernel
theorem k_178_30 : COD 178 30 = some (.if_icmp .eq 20, 3, 50, 0, 0, 0) := by decide +kernel
theorem k_178_33 : COD 178 33 = some (.aload_n 0, 1, 0, 0, 0, 0) := by decide +kernel
theorem k_178_34 : COD 178 34 = some (.bipush 44, 2, 0, 0, 0, 0) := by decide +kernel
theorem k_178_36 : COD 178 36 = some (.invokevirtual 273, 3, 167, 1, 1277, 10) := by decide +kernel
theorem k_178_39 : COD 178 39 = some (.ifCond .eq 20, 3, 59, 0, 0, 0) := by decide +kernel
theorem k_178_42 : COD 178 42 = some (.aload_n 0, 1, 0, 0, 0, 0) := by decide +kernel
theorem k_178_43 : COD 178 43 = some (.aload_n 1, 1, 0, 0, 0, 0) := by decide +kernel
theorem k_178_44 : COD 178 44 = some (.invokevirtual 302, 3, 175, 1, 1318, 10) := by decide +kernel
theorem k_178_47 : COD 178 47 = some (.ifCond .eq 12, 3, 59, 0, 0, 0) := by decide +kernel
theorem k_178_50 : COD 178 50 = some (.aload_n 0, 1, 0, 0, 0, 0) := by decide +kernel
theorem k_178_51 : COD 178 51 = some (.bipush 41, 2, 0, 0, 0, 0) := by decide +kernel
theorem k_178_53 : COD 178 53 = some (.invokevirtual 296, 3, 169, 1, 1310, 10) := by decide +kernel
theorem k_178_56 : COD 178 56 = some (.ifCond .ne 5, 3, 61, 0, 0, 0) := by decide +kernel
theorem k_178_59 : COD 178 59 = some (.iconst 0, 1, 0, 0, 0, 0) := by decide +kernel
theorem k_178_60 : COD 178 60 = some (.ireturn, 1, 0, 0, 0, 1) := by decide +kernel
theorem k_178_61 : COD 178 61 = some (.aload_n 0, 1, 0, 0, 0, 0) := by decide +kernel
theorem k_178_62 : COD 178 62 = some (.aload_n 1, 1, 0, 0, 0, 0) := by decide +kernel
theorem k_178_63 : COD 178 63 = some (.iload_n 2, 1, 0, 0, 0, 0) := by decide +kernel
theorem k_178_64 : COD 178 64 = some (.iconst 0, 1, 0, 0, 0, 0) := by decide +kernel
theorem k_178_65 : COD 178 65 = some (.invokevirtual 283, 3, 170, 3, 1306, 10) := by decide +kernel
theorem k_178_68 : COD 178 68 = some (.iconst 1, 1, 0, 0, 0, 0) := by decide +kernel
theorem k_178_69 : COD 178 69 = some (.ireturn, 1, 0, 0, 0, 1) := by decide +kernel
theorem k_179_0 : COD 179 0 = some (.aload_n 1, 1, 0, 0, 0, 0) := by decide +kernel
theorem k_179_1 : COD 179 1 = some (.getfield 160, 3, 8, 3, 1067, 0) := by decide +kernel
theorem k_179_4 : COD 179 4 = some (.iconst 4, 1, 0, 0, 0, 0) := by decide +kernel
theorem k_179_5 : COD 179 5 = some (.iload_n 2, 1, 0, 0, 0, 0) := by decide +kernel
theorem k_179_6 : COD 179 6 = some (.imul, 1, 0, 0, 0, 0) := by decide +kernel
theorem k_179_7 : COD 179 7 = some (.iload_n 3, 1, 0, 0, 0, 0) := by decide +kernel
theorem k_179_8 : COD 179 8 = some (.iadd, 1, 0, 0, 0, 0) := by decide +kernel
theorem k_179_9 : COD 179 9 = some (.aload_n 1, 1, 0, 0, 0, 0) := by decide +kernel
theorem k_179_10 : COD 179 10 = some (.getfield 276, 3, 8, 7, 1074, 0) := by decide +kernel
theorem k_179_13 : COD 179 13 = some (.iastore, 1, 0, 0, 0, 0) := by decide +kernel
theorem k_179_14 : COD 179 14 = some (.iload_n 3, 1, 0, 0, 0, 0) := by decide +kernel
theorem k_179_15 : COD 179 15 = some (.iconst 3, 1, 0, 0, 0, 0) := by decide +kernel
theorem k_179_16 : COD 179 16 = some (.if_icmp .ne 11, 3, 27, 0, 0, 0) := by decide +kernel
theorem k_179_19 : COD 179 19 = some (.aload_n 0, 1, 0, 0, 0, 0) := by decide +kernel
theorem k_179_20 : COD 179 20 = some (.aload_n 1, 1, 0, 0, 0, 0) := by decide +kernel
theorem k_179_21 : COD 179 21 = some (.invokevirtual 293, 3, 171, 1, 1290, 10) := by decide +kernel
theorem k_179_24 : COD 179 24 = some (.goto 8, 3, 32, 0, 0, 0) := by decide +kernel
theorem k_179_27 : COD 179 27 = some (.aload_n 0, 1, 0, 0, 0, 0) := by decide +kernel
theorem k_179_28 : COD 179 28 = some (.aload_n 1, 1, 0, 0, 0, 0) := by decide +kernel
theorem k_179_29 : COD 179 29 = some (.invokevirtual 302, 3, 175, 1, 1318, 10) := by decide +kernel
theorem k_179_32 : COD 179 32 = some (.istore 4, 2, 0, 0, 0, 0) := by decide +kernel
theorem k_179_34 : COD 179 34 = some (.aload_n 1, 1, 0, 0, 0, 0) := by decide +kernel
theorem k_179_35 : COD 179 35 = some (.getfield 163, 3, 8, 4, 1069, 0) := by decide +kernel
theorem k_179_38 : COD 179 38 = some (.iconst 4, 1, 0, 0, 0, 0) := by decide +kernel
theorem k_179_39 : COD 179 39 = some (.iload_n 2, 1, 0, 0, 0, 0) := by decide +kernel
theorem k_179_40 : COD 179 40 = some (.imul, 1, 0, 0, 0, 0) := by decide +kernel
theorem k_179_41 : COD 179 41 = some (.iload_n 3, 1, 0, 0, 0, 0) := by decide +kernel
theorem k_179_42 : COD 179 42 = some (.iadd, 1, 0, 0, 0, 0) := by decide +kernel
theorem k_179_43 : COD 179 43 = some (.aload_n 1, 1, 0, 0, 0, 0) := by decide +kernel
theorem k_179_44 : COD 179 44 = some (.getfield 276, 3, 8, 7, 1074, 0) := by decide +kernel
theorem k_179_47 : COD 179 47 = some (.iastore, 1, 0, 0, 0, 0) := by decide +kernel
theorem k_179_48 : COD 179 48 = some (.iload 4, 2, 0, 0, 0, 0) := by decide +kernel
theorem k_179_50 : COD 179 50 = some (.ireturn, 1, 0, 0, 0, 1) := by decide +kernel
theorem k_180_0 : COD 180 0 = some (.aload_n 0, 1, 0, 0, 0, 0) := by decide +kernel
theorem k_180_1 : COD 180 1 = some (.getfield 24, 3, 10, 5, 1146, 0) := by decide +kernel
theorem k_180_4 : COD 180 4 = some (.aload_n 0, 1, 0, 0, 0, 0) := by decide +kernel
theorem k_180_5 : COD 180 5 = some (.getfield 267, 3, 10, 9, 1150, 0) := by decide +kernel
theorem k_180_8 : COD 180 8 = some (.iaload, 1, 0, 0, 0, 0) := by decide +kernel
theorem k_180_9 : COD 180 9 = some (.istore_n 2, 1, 0, 0, 0, 0) := by decide +kernel
theorem k_180_10 : COD 180 10 = some (.iload_n 2, 1, 0, 0, 0, 0) := by decide +kernel
theorem k_180_11 : COD 180 11 = some (.iconst 1, 1, 0, 0, 0, 0) := by decide +kernel
theorem k_180_12 : COD 180 12 = some (.if_icmp .eq 15, 3, 27, 0, 0, 0) := by decide +kernel
theorem k_180_15 : COD 180 15 = some (.iload_n 2, 1, 0, 0, 0, 0) := by decide +kernel
theorem k_180_16 : COD 180 16 = some (.iconst 2, 1, 0, 0, 0, 0) := by decide +kernel
theorem k_180_17 : COD 180 17 = some (.if_icmp .eq 10, 3, 27, 0, 0, 0) := by decide +kernel
theorem k_180_20 : COD 180 20 = some (.iload_n 2, 1, 0, 0, 0, 0) := by decide +kernel
theorem k_180_21 : COD 180 21 = some (.iconst 3, 1, 0, 0, 0, 0) := by decide +kernel
theorem k_180_22 : COD 180 22 = some (.if_icmp .eq 5, 3, 27, 0, 0, 0) := by decide +kernel
theorem k_180_25 : COD 180 25 = some (.iconst 0, 1, 0, 0, 0, 0) := by decide +kernel
theorem k_180_26 : COD 180 26 = some (.ireturn, 1, 0, 0, 0, 1) := by decide +kernel
theorem k_180_27 : COD 180 27 = some (.aload_n 0, 1, 0, 0, 0, 0) := by decide +kernel
theorem k_180_28 : COD 180 28 = some (.getfield 30, 3, 10, 7, 1148, 0) := by decide +kernel
theorem k_180_31 : COD 180 31 = some (.aload_n 0, 1, 0, 0, 0, 0) := by decide +kernel
theorem k_180_32 : COD 180 32 = some (.getfield 267, 3, 10, 9, 1150, 0) := by decide +kernel
theorem k_180_35 : COD 180 35 = some (.iconst 1, 1, 0, 0, 0, 0) := by decide +kernel
theorem k_180_36 : COD 180 36 = some (.iastore, 1, 0, 0, 0, 0) := by decide +kernel
theorem k_180_37 : COD 180 37 = some (.aload_n 0, 1, 0, 0, 0, 0) := by decide +kernel
theorem k_180_38 : COD 180 38 = some (.dup, 1, 0, 0, 0, 0) := by decide +kernel
theorem k_180_39 : COD 180 39 = some (.getfield 267, 3, 10, 9, 1150, 0) := by decide +kernel
theorem k_180_42 : COD 180 42 = some (.iconst 1, 1, 0, 0, 0, 0) := by decide +kernel
theorem k_180_43 : COD 180 43 = some (.iadd, 1, 0, 0, 0, 0) := by decide +kernel
theorem k_180_44 : COD 180 44 = some (.putfield 267, 3, 10, 9, 1150, 0) := by decide +kernel
theorem k_180_47 : COD 180 47 = some (.bipush 15, 2, 0, 0, 0, 0) := by decide +kernel
theorem k_180_49 : COD 180 49 = some (.aload_n 0, 1, 0, 0, 0, 0) := by decide +kernel
theorem k_180_50 : COD 180 50 = some (.getfield 315, 3, 10, 11, 1152, 0) := by decide +kernel
theorem k_180_53 : COD 180 53 = some (.invokestatic 115, 3, 226, 2, 1285, 0) := by decide +kernel
theorem k_180_56 : COD 180 56 = some (.istore_n 3, 1, 0, 0, 0, 0) := by decide +kernel
theorem k_180_57 : COD 180 57 = some (.aload_n 0, 1, 0, 0, 0, 0) := by decide +kernel
theorem k_180_58 : COD 180 58 = some (.dup, 1, 0, 0, 0, 0) := by decide +kernel
theorem k_180_59 : COD 180 59 = some (.getfield 315, 3, 10, 11, 1152, 0) := by decide +kernel
theorem k_180_62 : COD 180 62 = some (.iconst 1, 1, 0, 0, 0, 0) := by decide +kernel
theorem k_180_63 : COD 180 63 = some (.iadd, 1, 0, 0, 0, 0) := by decide +kernel
theorem k_180_64 : COD 180 64 = some (.putfield 315, 3, 10, 11, 1152, 0) := by decide +kernel
theorem k_180_67 : COD 180 67 = some (.aload_n 1, 1, 0, 0, 0, 0) := by decide +kernel
theorem k_180_68 : COD 180 68 = some (.getfield 170, 3, 8, 2, 1065, 0) := by decide +kernel
theorem k_180_71 : COD 180 71 = some (.iload_n 3, 1, 0, 0, 0, 0) := by decide +kernel
theorem k_180_72 : COD 180 72 = some (.iload_n 2, 1, 0, 0, 0, 0) := by decide +kernel
theorem k_180_73 : COD 180 73 = some (.iastore, 1, 0, 0, 0, 0) := by decide +kernel
theorem k_180_74 : COD 180 74 = some (.aload_n 1, 1, 0, 0, 0, 0) := by decide +kernel
theorem k_180_75 : COD 180 75 = some (.getfield 160, 3, 8, 3, 1067, 0) := by decide +kernel
theorem k_180_78 : COD 180 78 = some (.iconst 4, 1, 0, 0, 0, 0) := by decide +kernel
theorem k_180_79 : COD 180 79 = some (.iload_n 3, 1, 0, 0, 0, 0) := by decide +kernel
theorem k_180_80 : COD 180 80 = some (.imul, 1, 0, 0, 0, 0) := by decide +kernel
theorem k_180_81 : COD 180 81 = some (.iconst 3, 1, 0, 0, 0, 0) := by decide +kernel
theorem k_180_82 : COD 180 82 = some (.iadd, 1, 0, 0, 0, 0) := by decide +kernel
theorem k_180_83 : COD 180 83 = some (.iconst 0, 1, 0, 0, 0, 0) := by decide +kernel
theorem k_180_84 : COD 180 84 = some (.iastore, 1, 0, 0, 0, 0) := by decide +kernel
theorem k_180_85 : COD 180 85 = some (.aload_n 1, 1, 0, 0, 0, 0) := by decide +kernel
theorem k_180_86 : COD 180 86 = some (.getfield 163, 3, 8, 4, 1069, 0) := by decide +kernel
theorem k_180_89 : COD 180 89 = some (.iconst 4, 1, 0, 0, 0, 0) := by decide +kernel
theorem k_180_90 : COD 180 90 = some (.iload_n 3, 1, 0, 0, 0, 0) := by decide +kernel
theorem k_180_91 : COD 180 91 = some (.imul, 1, 0, 0, 0, 0) := by decide +kernel
theorem k_180_92 : COD 180 92 = some (.iconst 3, 1, 0, 0, 0, 0) := by decide +kernel
theorem k_180_93 : COD 180 93 = some (.iadd, 1, 0, 0, 0, 0) := by decide +kernel
theorem k_180_94 : COD 180 94 = some (.iconst 0, 1, 0, 0, 0, 0) := by decide +kernel
theorem k_180_95 : COD 180 95 = some (.iastore, 1, 0, 0, 0, 0) := by decide +kernel
theorem k_180_96 : COD 180 96 = some (.iload_n 2, 1, 0, 0, 0, 0) := by decide +kernel
theorem k_180_97 : COD 180 97 = some (.iconst 3, 1, 0, 0, 0, 0) := by decide +kernel
theorem k_180_98 : COD 180 98 = some (.if_icmp .eq 15, 3, 113, 0, 0, 0) := by decide +kernel
theorem k_180_101 : COD 180 101 = some (.aload_n 0, 1, 0, 0, 0, 0) := by decide +kernel
theorem k_180_102 : COD 180 102 = some (.aload_n 1, 1, 0, 0, 0, 0) := by decide +kernel
theorem k_180_103 : COD 180 103 = some (.iload_n 3, 1, 0, 0, 0, 0) := by decide +kernel
theorem k_180_104 : COD 180 104 = some (.iconst 0, 1, 0, 0, 0, 0) := by decide +kernel
theorem k_180_105 : COD 180 105 = some (.invokevirtual 318, 3, 179, 3, 1286, 10) := by decide +kernel
theorem k_180_108 : COD 180 108 = some (.ifCond .ne 5, 3, 113, 0, 0, 0) := by decide +kernel
theorem k_180_111 : COD 180 111 = some (.iconst 0, 1, 0, 0, 0, 0) := by decide +kernel
theorem k_180_112 : COD 180 112 = some (.ireturn, 1, 0, 0, 0, 1) := by decide +kernel
theorem k_180_113 : COD 180 113 = some (.aload_n 0, 1, 0, 0, 0, 0) := by decide +kernel
theorem k_180_114 : COD 180 114 = some (.iconst 4, 1, 0, 0, 0, 0) := by decide +kernel
theorem k_180_115 : COD 180 115 = some (.invokevirtual 273, 3, 167, 1, 1277, 10) := by decide +kernel
theorem k_180_118 : COD 180 118 = some (.ifCond .eq 31, 3, 149, 0, 0, 0) := by decide +kernel
theorem k_180_121 : COD 180 121 = some (.aload_n 0, 1, 0, 0, 0, 0) := by decide +kernel
theorem k_180_122 : COD 180 122 = some (.aload_n 1, 1, 0, 0, 0, 0) := by decide +kernel
theorem k_180_123 : COD 180 123 = some (.iload_n 3, 1, 0, 0, 0, 0) := by decide +kernel
theorem k_180_124 : COD 180 124 = some (.iconst 1, 1, 0, 0, 0, 0) := by decide +kernel
theorem k_180_125 : COD 180 125 = some (.invokevirtual 318, 3, 179, 3, 1286, 10) := by decide +kernel
theorem k_180_128 : COD 180 128 = some (.ifCond .eq 21, 3, 149, 0, 0, 0) := by decide +kernel
theorem k_180_131 : COD 180 131 = some (.aload_n 0, 1, 0, 0, 0, 0) := by decide +kernel
theorem k_180_132 : COD 180 132 = some (.iconst 5, 1, 0, 0, 0, 0) := by decide +kernel
theorem k_180_133 : COD 180 133 = some (.invokevirtual 273, 3, 167, 1, 1277, 10) := by decide +kernel
theorem k_180_136 : COD 180 136 = some (.ifCond .eq 13, 3, 149, 0, 0, 0) := by decide +kernel
theorem k_180_139 : COD 180 139 = some (.aload_n 0, 1, 0, 0, 0, 0) := by decide +kernel
theorem k_180_140 : COD 180 140 = some (.aload_n 1, 1, 0, 0, 0, 0) := by decide +kernel
theorem k_180_141 : COD 180 141 = some (.iload_n 3, 1, 0, 0, 0, 0) := by decide +kernel
theorem k_180_142 : COD 180 142 = some (.iconst 2, 1, 0, 0, 0, 0) := by decide +kernel
theorem k_180_143 : COD 180 143 = some (.invokevirtual 318, 3, 179, 3, 1286, 10) := by decide +kernel
theorem k_180_146 : COD 180 146 = some (.ifCond .ne 5, 3, 151, 0, 0, 0) := by decide +kernel
theorem k_180_149 : COD 180 149 = some (.iconst 0, 1, 0, 0, 0, 0) := by decide +kernel
theorem k_180_150 : COD 180 150 = some (.ireturn, 1, 0, 0, 0, 1) := by decide +kernel
theorem k_180_151 : COD 180 151 = some (.aload_n 0, 1, 0, 0, 0, 0) := by decide +kernel
theorem k_180_152 : COD 180 152 = some (.bipush 6, 2, 0, 0, 0, 0) := by decide +kernel
theorem k_180_154 : COD 180 154 = some (.invokevirtual 273, 3, 167, 1, 1277, 10) := by decide +kernel
theorem k_180_157 : COD 180 157 = some (.ifCond .eq 13, 3, 170, 0, 0, 0) := by decide +kernel
theorem k_180_160 : COD 180 160 = some (.aload_n 0, 1, 0, 0, 0, 0) := by decide +kernel
theorem k_180_161 : COD 180 161 = some (.aload_n 1, 1, 0, 0, 0, 0) := by decide +kernel
theorem k_180_162 : COD 180 162 = some (.iload_n 3, 1, 0, 0, 0, 0) := by decide +kernel
theorem k_180_163 : COD 180 163 = some (.iconst 3, 1, 0, 0, 0, 0) := by decide +kernel
theorem k_180_164 : COD 180 164 = some (.invokevirtual 318, 3, 179, 3, 1286, 10) := by decide +kernel
theorem k_180_167 : COD 180 167 = some (.ifCond .eq 7, 3, 174, 0, 0, 0) := by decide +kernel
theorem k_180_170 : COD 180 170 = some (.iconst 1, 1, 0, 0, 0, 0) := by decide +kernel
theorem k_180_171 : COD 180 171 = some (.goto 4, 3, 175, 0, 0, 0) := by decide +kernel
theorem k_180_174 : COD 180 174 = some (.iconst 0, 1, 0, 0, 0, 0) := by decide +kernel
theorem k_180_175 : COD 180 175 = some (.ireturn, 1, 0, 0, 0, 1) := by decide +kernel
theorem k_181_0 : COD 181 0 = some (.aload_n 0, 1, 0, 0, 0, 0) := by decide +kernel
theorem k_181_1 : COD 181 1 = some (.iconst 0, 1, 0, 0, 0, 0) := by decide +kernel
theorem k_181_2 : COD 181 2 = some (.invokevirtual 273, 3, 167, 1, 1277, 10) := by decide +kernel
theorem k_181_5 : COD 181 5 = some (.ifCond .eq 33, 3, 38, 0, 0, 0) := by decide +kernel
theorem k_181_8 : COD 181 8 = some (.aload_n 0, 1, 0, 0, 0, 0) := by decide +kernel
theorem k_181_9 : COD 181 9 = some (.getfield 30, 3, 10, 7, 1148, 0) := by decide +kernel
theorem k_181_12 : COD 181 12 = some (.aload_n 0, 1, 0, 0, 0, 0) := by decide +kernel
theorem k_181_13 : COD 181 13 = some (.getfield 267, 3, 10, 9, 1150, 0) := by decide +kernel
theorem k_181_16 : COD 181 16 = some (.iconst 2, 1, 0, 0, 0, 0) := by decide +kernel
theorem k_181_17 : COD 181 17 = some (.iastore, 1, 0, 0, 0, 0) := by decide +kernel
theorem k_181_18 : COD 181 18 = some (.aload_n 0, 1, 0, 0, 0, 0) := by decide +kernel
theorem k_181_19 : COD 181 19 = some (.bipush 31, 2, 0, 0, 0, 0) := by decide +kernel
theorem k_181_21 : COD 181 21 = some (.invokevirtual 273, 3, 167, 1, 1277, 10) := by decide +kernel
theorem k_181_24 : COD 181 24 = some (.ifCond .eq 12, 3, 36, 0, 0, 0) := by decide +kernel
theorem k_181_27 : COD 181 27 = some (.aload_n 0, 1, 0, 0, 0, 0) := by decide +kernel
theorem k_181_28 : COD 181 28 = some (.bipush 59, 2, 0, 0, 0, 0) := by decide +kernel
theorem k_181_30 : COD 181 30 = some (.invokevirtual 273, 3, 167, 1, 1277, 10) := by decide +kernel
theorem k_181_33 : COD 181 33 = some (.ifCond .ne 5, 3, 38, 0, 0, 0) := by decide +kernel
theorem k_181_36 : COD 181 36 = some (.iconst 0, 1, 0, 0, 0, 0) := by decide +kernel
theorem k_181_37 : COD 181 37 = some (.ireturn, 1, 0, 0, 0, 1) := by decide +kernel
theorem k_181_38 : COD 181 38 = some (.aload_n 0, 1, 0, 0, 0, 0) := by decide +kernel
theorem k_181_39 : COD 181 39 = some (.getfield 24, 3, 10, 5, 1146, 0) := by decide +kernel
theorem k_181_42 : COD 181 42 = some (.aload_n 0, 1, 0, 0, 0, 0) := by decide +kernel
theorem k_181_43 : COD 181 43 = some (.getfield 267, 3, 10, 9, 1150, 0) := by decide +kernel
theorem k_181_46 : COD 181 46 = some (.iaload, 1, 0, 0, 0, 0) := by decide +kernel
theorem k_181_47 : COD 181 47 = some (.bipush 33, 2, 0, 0, 0, 0) := by decide +kernel
theorem k_181_49 : COD 181 49 = some (.if_icmp .eq 22, 3, 71, 0, 0, 0) := by decide +kernel
theorem k_181_52 : COD 181 52 = some (.aload_n 0, 1, 0, 0, 0, 0) := by decide +kernel
theorem k_181_53 : COD 181 53 = some (.aload_n 1, 1, 0, 0, 0, 0) := by decide +kernel
theorem k_181_54 : COD 181 54 = some (.invokevirtual 322, 3, 180, 1, 1281, 10) := by decide +kernel
theorem k_181_57 : COD 181 57 = some (.ifCond .eq 12, 3, 69, 0, 0, 0) := by decide +kernel
theorem k_181_60 : COD 181 60 = some (.aload_n 0, 1, 0, 0, 0, 0) := by decide +kernel
theorem k_181_61 : COD 181 61 = some (.bipush 59, 2, 0, 0, 0, 0) := by decide +kernel
theorem k_181_63 : COD 181 63 = some (.invokevirtual 273, 3, 167, 1, 1277, 10) := by decide +kernel
theorem k_181_66 : COD 181 66 = some (.ifCond .ne (-28), 3, 38, 0, 0, 0) := by decide +kernel
theorem k_181_69 : COD 181 69 = some (.iconst 0, 1, 0, 0, 0, 0) := by decide +kernel
theorem k_181_70 : COD 181 70 = some (.ireturn, 1, 0, 0, 0, 1) := by decide +kernel
theorem k_181_71 : COD 181 71 = some (.iconst 1, 1, 0, 0, 0, 0) := by decide +kernel
theorem k_181_72 : COD 181 72 = some (.ireturn, 1, 0, 0, 0, 1) := by decide +kernel
theorem k_182_0 : COD 182 0 = some (.aload_n 0, 1, 0, 0, 0, 0) := by decide +kernel
theorem k_182_1 : COD 182 1 = some (.getfield 30, 3, 10, 7, 1148, 0) := by decide +kernel
theorem k_182_4 : COD 182 4 = some (.iload_n 2, 1, 0, 0, 0, 0) := by decide +kernel
theorem k_182_5 : COD 182 5 = some (.iaload, 1, 0, 0, 0, 0) := by decide +kernel
theorem k_182_6 : COD 182 6 = some (.iconst 1, 1, 0, 0, 0, 0) := by decide +kernel
theorem k_182_7 : COD 182 7 = some (.if_icmp .ne 28, 3, 35, 0, 0, 0) := by decide +kernel
theorem k_182_10 : COD 182 10 = some (.aload_n 1, 1, 0, 0, 0, 0) := by decide +kernel
theorem k_182_11 : COD 182 11 = some (.dup, 1, 0, 0, 0, 0) := by decide +kernel
theorem k_182_12 : COD 182 12 = some (.getfield 183, 3, 8, 1, 1063, 0) := by decide +kernel
theorem k_182_15 : COD 182 15 = some (.iconst 1, 1, 0, 0, 0, 0) := by decide +kernel
theorem k_182_16 : COD 182 16 = some (.iadd, 1, 0, 0, 0, 0) := by decide +kernel
theorem k_182_17 : COD 182 17 = some (.putfield 183, 3, 8, 1, 1063, 0) := by decide +kernel
theorem k_182_20 : COD 182 20 = some (.aload_n 1, 1, 0, 0, 0, 0) := by decide +kernel
theorem k_182_21 : COD 182 21 = some (.getfield 183, 3, 8, 1, 1063, 0) := by decide +kernel
theorem k_182_24 : COD 182 24 = some (.bipush 16, 2, 0, 0, 0, 0) := by decide +kernel
theorem k_182_26 : COD 182 26 = some (.if_icmp .le 7, 3, 33, 0, 0, 0) := by decide +kernel
theorem k_182_29 : COD 182 29 = some (.iconst 4, 1, 0, 0, 0, 0) := by decide +kernel
theorem k_182_30 : COD 182 30 = some (.goto 4, 3, 34, 0, 0, 0) := by decide +kernel
theorem k_182_33 : COD 182 33 = some (.iconst 0, 1, 0, 0, 0, 0) := by decide +kernel
theorem k_182_34 : COD 182 34 = some (.ireturn, 1, 0, 0, 0, 0) := by decide +kernel
theorem k_182_35 : COD 182 35 = some (.aload_n 0, 1, 0, 0, 0, 0) := by decide +kernel
theorem k_182_36 : COD 182 36 = some (.getfield 30, 3, 10, 7, 1148, 0) := by decide +kernel
theorem k_182_39 : COD 182 39 = some (.iload_n 2, 1, 0, 0, 0, 0) := by decide +kernel
theorem k_182_40 : COD 182 40 = some (.iaload, 1, 0, 0, 0, 0) := by decide +kernel
theorem k_182_41 : COD 182 41 = some (.iconst 2, 1, 0, 0, 0, 0) := by decide +kernel
theorem k_182_42 : COD 182 42 = some (.if_icmp .eq 5, 3, 47, 0, 0, 0) := by decide +kernel
theorem k_182_45 : COD 182 45 = some (.iconst 0, 1, 0, 0, 0, 0) := by decide +kernel
theorem k_182_46 : COD 182 46 = some (.ireturn, 1, 0, 0, 0, 0) := by decide +kernel
theorem k_182_47 : COD 182 47 = some (.aload_n 1, 1, 0, 0, 0, 0) := by decide +kernel
theorem k_182_48 : COD 182 48 = some (.aload_n 0, 1, 0, 0, 0, 0) := by decide +kernel
theorem k_182_49 : COD 182 49 = some (.getfield 33, 3, 10, 8, 1149, 0) := by decide +kernel
theorem k_182_52 : COD 182 52 = some (.iload_n 2, 1, 0, 0, 0, 0) := by decide +kernel
theorem k_182_53 : COD 182 53 = some (.laload, 1, 0, 0, 0, 0) := by decide +kernel
theorem k_182_54 : COD 182 54 = some (.l2i, 1, 0, 0, 0, 0) := by decide +kernel
theorem k_182_55 : COD 182 55 = some (.putfield 62, 3, 8, 0, 1062, 0) := by decide +kernel
theorem k_182_58 : COD 182 58 = some (.aload_n 1, 1, 0, 0, 0, 0) := by decide +kernel
theorem k_182_59 : COD 182 59 = some (.getfield 62, 3, 8, 0, 1062, 0) := by decide +kernel
theorem k_182_62 : COD 182 62 = some (.iconst 2, 1, 0, 0, 0, 0) := by decide +kernel
theorem k_182_63 : COD 182 63 = some (.bipush 32, 2, 0, 0, 0, 0) := by decide +kernel
theorem k_182_65 : COD 182 65 = some (.invokestatic 65, 3, 132, 3, 1221, 10) := by decide +kernel
theorem k_182_68 : COD 182 68 = some (.ifCond .eq 7, 3, 75, 0, 0, 0) := by decide +kernel
theorem k_182_71 : COD 182 71 = some (.iconst 0, 1, 0, 0, 0, 0) := by decide +kernel
theorem k_182_72 : COD 182 72 = some (.goto 4, 3, 76, 0, 0, 0) := by decide +kernel
theorem k_182_75 : COD 182 75 = some (.iconst 5, 1, 0, 0, 0, 0) := by decide +kernel
theorem k_182_76 : COD 182 76 = some (.ireturn, 1, 0, 0, 0, 0) := by decide +kernel
theorem k_183_0 : COD 183 0 = some (.aload_n 0, 1, 0, 0, 0, 0) := by decide +kernel
theorem k_183_1 : COD 183 1 = some (.invokevirtual 325, 3, 166, 0, 1232, 10) := by decide +kernel
theorem k_183_4 : COD 183 4 = some (.aload_n 0, 1, 0, 0, 0, 0) := by decide +kernel
theorem k_183_5 : COD 183 5 = some (.iconst 0, 1, 0, 0, 0, 0) := by decide +kernel
theorem k_183_6 : COD 183 6 = some (.putfield 267, 3, 10, 9, 1150, 0) := by decide +kernel
theorem k_183_9 : COD 183 9 = some (.aload_n 0, 1, 0, 0, 0, 0) := by decide +kernel
theorem k_183_10 : COD 183 10 = some (.iconst 0, 1, 0, 0, 0, 0) := by decide +kernel
theorem k_183_11 : COD 183 11 = some (.putfield 270, 3, 10, 10, 1151, 0) := by decide +kernel
theorem k_183_14 : COD 183 14 = some (.aload_n 0, 1, 0, 0, 0, 0) := by decide +kernel
theorem k_183_15 : COD 183 15 = some (.iconst 0, 1, 0, 0, 0, 0) := by decide +kernel
theorem k_183_16 : COD 183 16 = some (.putfield 315, 3, 10, 11, 1152, 0) := by decide +kernel
theorem k_183_19 : COD 183 19 = some (.aload_n 0, 1, 0, 0, 0, 0) := by decide +kernel
theorem k_183_20 : COD 183 20 = some (.aload_n 1, 1, 0, 0, 0, 0) := by decide +kernel
theorem k_183_21 : COD 183 21 = some (.invokevirtual 328, 3, 181, 1, 1273, 10) := by decide +kernel
theorem k_183_24 : COD 183 24 = some (.ifCond .ne 18, 3, 42, 0, 0, 0) := by decide +kernel
theorem k_183_27 : COD 183 27 = some (.aload_n 0, 1, 0, 0, 0, 0) := by decide +kernel
theorem k_183_28 : COD 183 28 = some (.aload_n 0, 1, 0, 0, 0, 0) := by decide +kernel
theorem k_183_29 : COD 183 29 = some (.getfield 27, 3, 10, 6, 1147, 0) := by decide +kernel
theorem k_183_32 : COD 183 32 = some (.aload_n 0, 1, 0, 0, 0, 0) := by decide +kernel
theorem k_183_33 : COD 183 33 = some (.getfield 267, 3, 10, 9, 1150, 0) := by decide +kernel
theorem k_183_36 : COD 183 36 = some (.iaload, 1, 0, 0, 0, 0) := by decide +kernel
theorem k_183_37 : COD 183 37 = some (.putfield 13, 3, 10, 3, 1144, 0) := by decide +kernel
theorem k_183_40 : COD 183 40 = some (.iconst 1, 1, 0, 0, 0, 0) := by decide +kernel
theorem k_183_41 : COD 183 41 = some (.ireturn, 1, 0, 0, 0, 0) := by decide +kernel
theorem k_183_42 : COD 183 42 = some (.iconst 0, 1, 0, 0, 0, 0) := by decide +kernel
theorem k_183_43 : COD 183 43 = some (.istore_n 2, 1, 0, 0, 0, 0) := by decide +kernel
theorem k_183_44 : COD 183 44 = some (.iload_n 2, 1, 0, 0, 0, 0) := by decide +kernel
theorem k_183_45 : COD 183 45 = some (.aload_n 0, 1, 0, 0, 0, 0) := by decide +kernel
theorem k_183_46 : COD 183 46 = some (.getfield 267, 3, 10, 9, 1150, 0) := by decide +kernel
theorem k_183_49 : COD 183 49 = some (.if_icmp .ge 35, 3, 84, 0, 0, 0) := by decide +kernel
theorem k_183_52 : COD 183 52 = some (.aload_n 0, 1, 0, 0, 0, 0) := by decide +kernel
theorem k_183_53 : COD 183 53 = some (.aload_n 1, 1, 0, 0, 0, 0) := by decide +kernel
theorem k_183_54 : COD 183 54 = some (.iload_n 2, 1, 0, 0, 0, 0) := by decide +kernel
theorem k_183_55 : COD 183 55 = some (.invokevirtual 331, 3, 182, 2, 1334, 10) := by decide +kernel
theorem k_183_58 : COD 183 58 = some (.istore_n 3, 1, 0, 0, 0, 0) := by decide +kernel
theorem k_183_59 : COD 183 59 = some (.iload_n 3, 1, 0, 0, 0, 0) := by decide +kernel
theorem k_183_60 : COD 183 60 = some (.ifCond .ne 6, 3, 66, 0, 0, 0) := by decide +kernel
theorem k_183_63 : COD 183 63 = some (.goto 15, 3, 78, 0, 0, 0) := by decide +kernel
theorem k_183_66 : COD 183 66 = some (.aload_n 0, 1, 0, 0, 0, 0) := by decide +kernel
theorem k_183_67 : COD 183 67 = some (.aload_n 0, 1, 0, 0, 0, 0) := by decide +kernel
theorem k_183_68 : COD 183 68 = some (.getfield 27, 3, 10, 6, 1147, 0) := by decide +kernel
theorem k_183_71 : COD 183 71 = some (.iload_n 2, 1, 0, 0, 0, 0) := by decide +kernel
theorem k_183_72 : COD 183 72 = some (.iaload, 1, 0, 0, 0, 0) := by decide +kernel
theorem k_183_73 : COD 183 73 = some (.putfield 13, 3, 10, 3, 1144, 0) := by decide +kernel
theorem k_183_76 : COD 183 76 = some (.iload_n 3, 1, 0, 0, 0, 0) := by decide +kernel
theorem k_183_77 : COD 183 77 = some (.ireturn, 1, 0, 0, 0, 0) := by decide +kernel
theorem k_183_78 : COD 183 78 = some (.iinc 2 1, 3, 0, 0, 0, 0) := by decide +kernel
theorem k_183_81 : COD 183 81 = some (.goto (-37), 3, 44, 0, 0, 0) := by decide +kernel
theorem k_183_84 : COD 183 84 = some (.iconst 0, 1, 0, 0, 0, 0) := by decide +kernel
theorem k_183_85 : COD 183 85 = some (.ireturn, 1, 0, 0, 0, 0) := by decide +kernel
theorem k_184_0 : COD 184 0 = some (.aload_n 0, 1, 0, 0, 0, 0) := by decide +kernel
theorem k_184_1 : COD 184 1 = some (.iconst 0, 1, 0, 0, 0, 0) := by decide +kernel
theorem k_184_2 : COD 184 2 = some (.putfield 59, 3, 10, 0, 1141, 0) := by decide +kernel
theorem k_184_5 : COD 184 5 = some (.aload_n 0, 1, 0, 0, 0, 0) := by decide +kernel
theorem k_184_6 : COD 184 6 = some (.getfield 220, 3, 10, 2, 1143, 0) := by decide +kernel
theorem k_184_9 : COD 184 9 = some (.sipush 1980, 3, 0, 0, 0, 0) := by decide +kernel
theorem k_184_12 : COD 184 12 = some (.if_icmp .le 9, 3, 21, 0, 0, 0) := by decide +kernel
theorem k_184_15 : COD 184 15 = some (.aload_n 0, 1, 0, 0, 0, 0) := by decide +kernel
theorem k_184_16 : COD 184 16 = some (.iconst 1, 1, 0, 0, 0, 0) := by decide +kernel
theorem k_184_17 : COD 184 17 = some (.invokevirtual 335, 3, 129, 1, 1213, 10) := by decide +kernel
theorem k_184_20 : COD 184 20 = some (.ireturn, 1, 0, 0, 0, 0) := by decide +kernel
theorem k_184_21 : COD 184 21 = some (.iconst 5, 1, 0, 0, 0, 0) := by decide +kernel
theorem k_184_22 : COD 184 22 = some (.newarray .int, 2, 0, 0, 0, 0) := by decide +kernel
theorem k_184_24 : COD 184 24 = some (.dup, 1, 0, 0, 0, 0) := by decide +kernel
theorem k_184_25 : COD 184 25 = some (.iconst 0, 1, 0, 0, 0, 0) := by decide +kernel
theorem k_184_26 : COD 184 26 = some (.iload_n 1, 1, 0, 0, 0, 0) := by decide +kernel
theorem k_184_27 : COD 184 27 = some (.iastore, 1, 0, 0, 0, 0) := by decide +kernel
theorem k_184_28 : COD 184 28 = some (.dup, 1, 0, 0, 0, 0) := by decide +kernel
theorem k_184_29 : COD 184 29 = some (.iconst 1, 1, 0, 0, 0, 0) := by decide +kernel
theorem k_184_30 : COD 184 30 = some (.iload_n 2, 1, 0, 0, 0, 0) := by decide +kernel
theorem k_184_31 : COD 184 31 = some (.iastore, 1, 0, 0, 0, 0) := by decide +kernel
theorem k_184_32 : COD 184 32 = some (.dup, 1, 0, 0, 0, 0) := by decide +kernel
theorem k_184_33 : COD 184 33 = some (.iconst 2, 1, 0, 0, 0, 0) := by decide +kernel
theorem k_184_34 : COD 184 34 = some (.iload_n 3, 1, 0, 0, 0, 0) := by decide +kernel
theorem k_184_35 : COD 184 35 = some (.iastore, 1, 0, 0, 0, 0) := by decide +kernel
theorem k_184_36 : COD 184 36 = some (.dup, 1, 0, 0, 0, 0) := by decide +kernel
theorem k_184_37 : COD 184 37 = some (.iconst 3, 1, 0, 0, 0, 0) := by decide +kernel
theorem k_184_38 : COD 184 38 = some (.iload 4, 2, 0, 0, 0, 0) := by decide +kernel
theorem k_184_40 : COD 184 40 = some (.iastore, 1, 0, 0, 0, 0) := by decide +kernel
theorem k_184_41 : COD 184 41 = some (.dup, 1, 0, 0, 0, 0) := by decide +kernel
theorem k_184_42 : COD 184 42 = some (.iconst 4, 1, 0, 0, 0, 0) := by decide +kernel
theorem k_184_43 : COD 184 43 = some (.iload 5, 2, 0, 0, 0, 0) := by decide +kernel
theorem k_184_45 : COD 184 45 = some (.iastore, 1, 0, 0, 0, 0) := by decide +kernel
theorem k_184_46 : COD 184 46 = some (.astore 6, 2, 0, 0, 0, 0) := by decide +kernel
theorem k_184_48 : COD 184 48 = some (.iconst 0, 1, 0, 0, 0, 0) := by decide +kernel
theorem k_184_49 : COD 184 49 = some (.istore 7, 2, 0, 0, 0, 0) := by decide +kernel
theorem k_184_51 : COD 184 51 = some (.iload 7, 2, 0, 0, 0, 0) := by decide +kernel
theorem k_184_53 : COD 184 53 = some (.bipush 20, 2, 0, 0, 0, 0) := by decide +kernel
theorem k_184_55 : COD 184 55 = some (.if_icmp .ge 43, 3, 98, 0, 0, 0) := by decide +kernel
theorem k_184_58 : COD 184 58 = some (.aload_n 0, 1, 0, 0, 0, 0) := by decide +kernel
theorem k_184_59 : COD 184 59 = some (.getfield 9, 3, 10, 1, 1142, 0) := by decide +kernel
theorem k_184_62 : COD 184 62 = some (.aload_n 0, 1, 0, 0, 0, 0) := by decide +kernel
theorem k_184_63 : COD 184 63 = some (.getfield 220, 3, 10, 2, 1143, 0) := by decide +kernel
theorem k_184_66 : COD 184 66 = some (.iload 7, 2, 0, 0, 0, 0) := by decide +kernel
theorem k_184_68 : COD 184 68 = some (.iadd, 1, 0, 0, 0, 0) := by decide +kernel
theorem k_184_69 : COD 184 69 = some (.aload 6, 2, 0, 0, 0, 0) := by decide +kernel
theorem k_184_71 : COD 184 71 = some (.iload 7, 2, 0, 0, 0, 0) := by decide +kernel
theorem k_184_73 : COD 184 73 = some (.iconst 4, 1, 0, 0, 0, 0) := by decide +kernel
theorem k_184_74 : COD 184 74 = some (.idiv, 1, 0, 0, 0, 0) := by decide +kernel
theorem k_184_75 : COD 184 75 = some (.iaload, 1, 0, 0, 0, 0) := by decide +kernel
theorem k_184_76 : COD 184 76 = some (.bipush 24, 2, 0, 0, 0, 0) := by decide +kernel
theorem k_184_78 : COD 184 78 = some (.bipush 8, 2, 0, 0, 0, 0) := by decide +kernel
theorem k_184_80 : COD 184 80 = some (.iload 7, 2, 0, 0, 0, 0) := by decide +kernel
theorem k_184_82 : COD 184 82 = some (.iconst 4, 1, 0, 0, 0, 0) := by decide +kernel
theorem k_184_83 : COD 184 83 = some (.irem, 1, 0, 0, 0, 0) := by decide +kernel
theorem k_184_84 : COD 184 84 = some (.imul, 1, 0, 0, 0, 0) := by decide +kernel
theorem k_184_85 : COD 184 85 = some (.isub, 1, 0, 0, 0, 0) := by decide +kernel
theorem k_184_86 : COD 184 86 = some (.ishr, 1, 0, 0, 0, 0) := by decide +kernel
theorem k_184_87 : COD 184 87 = some (.sipush 255, 3, 0, 0, 0, 0) := by decide +kernel
theorem k_184_90 : COD 184 90 = some (.iand, 1, 0, 0, 0, 0) := by decide +kernel
theorem k_184_91 : COD 184 91 = some (.iastore, 1, 0, 0, 0, 0) := by decide +kernel
theorem k_184_92 : COD 184 92 = some (.iinc 7 1, 3, 0, 0, 0, 0) := by decide +kernel
theorem k_184_95 : COD 184 95 = some (.goto (-44), 3, 51, 0, 0, 0) := by decide +kernel
theorem k_184_98 : COD 184 98 = some (.aload_n 0, 1, 0, 0, 0, 0) := by decide +kernel
theorem k_184_99 : COD 184 99 = some (.dup, 1, 0, 0, 0, 0) := by decide +kernel
theorem k_184_100 : COD 184 100 = some (.getfield 220, 3, 10, 2, 1143, 0) := by decide +kernel
theorem k_184_103 : COD 184 103 = some (.bipush 20, 2, 0, 0, 0, 0) := by decide +kernel
theorem k_184_105 : COD 184 105 = some (.iadd, 1, 0, 0, 0, 0) := by decide +kernel
theorem k_184_106 : COD 184 106 = some (.putfield 220, 3, 10, 2, 1143, 0) := by decide +kernel
theorem k_184_109 : COD 184 109 = some (.aload_n 0, 1, 0, 0, 0, 0) := by decide +kernel
theorem k_184_110 : COD 184 110 = some (.getfield 220, 3, 10, 2, 1143, 0) := by decide +kernel
theorem k_184_113 : COD 184 113 = some (.ireturn, 1, 0, 0, 0, 0) := by decide +kernel
theorem k_185_0 : COD 185 0 = some (.aload_n 0, 1, 0, 0, 0, 0) := by decide +kernel
theorem k_185_1 : COD 185 1 = some (.iconst 0, 1, 0, 0, 0, 0) := by decide +kernel
theorem k_185_2 : COD 185 2 = some (.putfield 59, 3, 10, 0, 1141, 0) := by decide +kernel
theorem k_185_5 : COD 185 5 = some (.iload_n 1, 1, 0, 0, 0, 0) := by decide +kernel
theorem k_185_6 : COD 185 6 = some (.iconst 0, 1, 0, 0, 0, 0) := by decide +kernel
theorem k_185_7 : COD 185 7 = some (.aload_n 0, 1, 0, 0, 0, 0) := by decide +kernel
theorem k_185_8 : COD 185 8 = some (.getfield 220, 3, 10, 2, 1143, 0) := by decide +kernel
theorem k_185_11 : COD 185 11 = some (.invokestatic 65, 3, 132, 3, 1221, 10) := by decide +kernel
theorem k_185_14 : COD 185 14 = some (.ifCond .ne 9, 3, 23, 0, 0, 0) := by decide +kernel
theorem k_185_17 : COD 185 17 = some (.aload_n 0, 1, 0, 0, 0, 0) := by decide +kernel
theorem k_185_18 : COD 185 18 = some (.iconst 1, 1, 0, 0, 0, 0) := by decide +kernel
theorem k_185_19 : COD 185 19 = some (.invokevirtual 335, 3, 129, 1, 1213, 10) := by decide +kernel
theorem k_185_22 : COD 185 22 = some (.ireturn, 1, 0, 0, 0, 0) := by decide +kernel
theorem k_185_23 : COD 185 23 = some (.aload_n 0, 1, 0, 0, 0, 0) := by decide +kernel
theorem k_185_24 : COD 185 24 = some (.iload_n 1, 1, 0, 0, 0, 0) := by decide +kernel
theorem k_185_25 : COD 185 25 = some (.putfield 220, 3, 10, 2, 1143, 0) := by decide +kernel
theorem k_185_28 : COD 185 28 = some (.iload_n 1, 1, 0, 0, 0, 0) := by decide +kernel
theorem k_185_29 : COD 185 29 = some (.ireturn, 1, 0, 0, 0, 0) := by decide +kernel
theorem k_186_0 : COD 186 0 = some (.aload_n 0, 1, 0, 0, 0, 0) := by decide +kernel
theorem k_186_1 : COD 186 1 = some (.iconst 0, 1, 0, 0, 0, 0) := by decide +kernel
theorem k_186_2 : COD 186 2 = some (.putfield 59, 3, 10, 0, 1141, 0) := by decide +kernel
theorem k_186_5 : COD 186 5 = some (.aload_n 0, 1, 0, 0, 0, 0) := by decide +kernel
theorem k_186_6 : COD 186 6 = some (.iconst (-1), 1, 0, 0, 0, 0) := by decide +kernel
theorem k_186_7 : COD 186 7 = some (.putfield 13, 3, 10, 3, 1144, 0) := by decide +kernel
theorem k_186_10 : COD 186 10 = some (.new 17, 3, 8, 0, 1055, 0) := by decide +kernel
theorem k_186_13 : COD 186 13 = some (.dup, 1, 0, 0, 0, 0) := by decide +kernel
theorem k_186_14 : COD 186 14 = some (.invokespecial 19, 3, 123, 0, 1057, 8) := by decide +kernel
theorem k_186_17 : COD 186 17 = some (.astore_n 1, 1, 0, 0, 0, 0) := by decide +kernel
theorem k_186_18 : COD 186 18 = some (.aload_n 0, 1, 0, 0, 0, 0) := by decide +kernel
theorem k_186_19 : COD 186 19 = some (.aload_n 1, 1, 0, 0, 0, 0) := by decide +kernel
theorem k_186_20 : COD 186 20 = some (.invokevirtual 338, 3, 183, 1, 1228, 10) := by decide +kernel
theorem k_186_23 : COD 186 23 = some (.istore_n 2, 1, 0, 0, 0, 0) := by decide +kernel
theorem k_186_24 : COD 186 24 = some (.aload_n 0, 1, 0, 0, 0, 0) := by decide +kernel
theorem k_186_25 : COD 186 25 = some (.iconst 0, 1, 0, 0, 0, 0) := by decide +kernel
theorem k_186_26 : COD 186 26 = some (.putfield 220, 3, 10, 2, 1143, 0) := by decide +kernel
theorem k_186_29 : COD 186 29 = some (.iload_n 2, 1, 0, 0, 0, 0) := by decide +kernel
theorem k_186_30 : COD 186 30 = some (.ifCond .le 5, 3, 35, 0, 0, 0) := by decide +kernel
theorem k_186_33 : COD 186 33 = some (.iload_n 2, 1, 0, 0, 0, 0) := by decide +kernel
theorem k_186_34 : COD 186 34 = some (.ireturn, 1, 0, 0, 0, 0) := by decide +kernel
theorem k_186_35 : COD 186 35 = some (.aload_n 0, 1, 0, 0, 0, 0) := by decide +kernel
theorem k_186_36 : COD 186 36 = some (.aload_n 1, 1, 0, 0, 0, 0) := by decide +kernel
theorem k_186_37 : COD 186 37 = some (.putfield 20, 3, 10, 4, 1145, 0) := by decide +kernel
theorem k_186_40 : COD 186 40 = some (.aload_n 0, 1, 0, 0, 0, 0) := by decide +kernel
theorem k_186_41 : COD 186 41 = some (.new 37, 3, 9, 0, 1092, 0) := by decide +kernel
theorem k_186_44 : COD 186 44 = some (.dup, 1, 0, 0, 0, 0) := by decide +kernel
theorem k_186_45 : COD 186 45 = some (.invokespecial 39, 3, 124, 0, 1094, 9) := by decide +kernel
theorem k_186_48 : COD 186 48 = some (.putfield 40, 3, 10, 12, 1153, 0) := by decide +kernel
theorem k_186_51 : COD 186 51 = some (.aload_n 0, 1, 0, 0, 0, 0) := by decide +kernel
theorem k_186_52 : COD 186 52 = some (.invokevirtual 56, 3, 134, 0, 1133, 10) := by decide +kernel
theorem k_186_55 : COD 186 55 = some (.iconst 0, 1, 0, 0, 0, 0) := by decide +kernel
theorem k_186_56 : COD 186 56 = some (.ireturn, 1, 0, 0, 0, 0) := by decide +kernel
theorem k_187_0 : COD 187 0 = some (.aload_n 0, 1, 0, 0, 0, 0) := by decide +kernel
theorem k_187_1 : COD 187 1 = some (.aload_n 0, 1, 0, 0, 0, 0) := by decide +kernel
theorem k_187_2 : COD 187 2 = some (.getfield 13, 3, 10, 3, 1144, 0) := by decide +kernel
theorem k_187_5 : COD 187 5 = some (.invokevirtual 342, 3, 131, 1, 1342, 10) := by decide +kernel
theorem k_187_8 : COD 187 8 = some (.ireturn, 1, 0, 0, 0, 0) := by decide +kernel
theorem k_188_0 : COD 188 0 = some (.aload_n 0, 1, 0, 0, 0, 0) := by decide +kernel
theorem k_188_1 : COD 188 1 = some (.aload_n 0, 1, 0, 0, 0, 0) := by decide +kernel
theorem k_188_2 : COD 188 2 = some (.getfield 20, 3, 10, 4, 1145, 0) := by decide +kernel
theorem k_188_5 : COD 188 5 = some (.getfield 62, 3, 8, 0, 1062, 0) := by decide +kernel
theorem k_188_8 : COD 188 8 = some (.invokevirtual 342, 3, 131, 1, 1342, 10) := by decide +kernel
theorem k_188_11 : COD 188 11 = some (.ireturn, 1, 0, 0, 0, 0) := by decide +kernel
theorem k_189_0 : COD 189 0 = some (.aload_n 0, 1, 0, 0, 0, 0) := by decide +kernel
theorem k_189_1 : COD 189 1 = some (.iconst 2, 1, 0, 0, 0, 0) := by decide +kernel
theorem k_189_2 : COD 189 2 = some (.aload_n 0, 1, 0, 0, 0, 0) := by decide +kernel
theorem k_189_3 : COD 189 3 = some (.getfield 20, 3, 10, 4, 1145, 0) := by decide +kernel
theorem k_189_6 : COD 189 6 = some (.getfield 62, 3, 8, 0, 1062, 0) := by decide +kernel
theorem k_189_9 : COD 189 9 = some (.imul, 1, 0, 0, 0, 0) := by decide +kernel
theorem k_189_10 : COD 189 10 = some (.iconst 1, 1, 0, 0, 0, 0) := by decide +kernel
theorem k_189_11 : COD 189 11 = some (.isub, 1, 0, 0, 0, 0) := by decide +kernel
theorem k_189_12 : COD 189 12 = some (.invokevirtual 342, 3, 131, 1, 1342, 10) := by decide +kernel
theorem k_189_15 : COD 189 15 = some (.ireturn, 1, 0, 0, 0, 0) := by decide +kernel
theorem k_190_0 : COD 190 0 = some (.aload_n 0, 1, 0, 0, 0, 0) := by decide +kernel
theorem k_190_1 : COD 190 1 = some (.aload_n 0, 1, 0, 0, 0, 0) := by decide +kernel
theorem k_190_2 : COD 190 2 = some (.getfield 20, 3, 10, 4, 1145, 0) := by decide +kernel
theorem k_190_5 : COD 190 5 = some (.getfield 183, 3, 8, 1, 1063, 0) := by decide +kernel
theorem k_190_8 : COD 190 8 = some (.invokevirtual 342, 3, 131, 1, 1342, 10) := by decide +kernel
theorem k_190_11 : COD 190 11 = some (.ireturn, 1, 0, 0, 0, 0) := by decide +kernel
theorem k_191_0 : COD 191 0 = some (.aload_n 0, 1, 0, 0, 0, 0) := by decide +kernel
theorem k_191_1 : COD 191 1 = some (.aload_n 0, 1, 0, 0, 0, 0) := by decide +kernel
theorem k_191_2 : COD 191 2 = some (.getfield 40, 3, 10, 12, 1153, 0) := by decide +kernel
theorem k_191_5 : COD 191 5 = some (.getfield 189, 3, 9, 6, 1111, 0) := by decide +kernel
theorem k_191_8 : COD 191 8 = some (.invokevirtual 342, 3, 131, 1, 1342, 10) := by decide +kernel
theorem k_191_11 : COD 191 11 = some (.ireturn, 1, 0, 0, 0, 0) := by decide +kernel
theorem k_192_0 : COD 192 0 = some (.aload_n 0, 1, 0, 0, 0, 0) := by decide +kernel
theorem k_192_1 : COD 192 1 = some (.aload_n 0, 1, 0, 0, 0, 0) := by decide +kernel
theorem k_192_2 : COD 192 2 = some (.getfield 40, 3, 10, 12, 1153, 0) := by decide +kernel
theorem k_192_5 : COD 192 5 = some (.getfield 99, 3, 9, 7, 1113, 0) := by decide +kernel
theorem k_192_8 : COD 192 8 = some (.invokevirtual 342, 3, 131, 1, 1342, 10) := by decide +kernel
theorem k_192_11 : COD 192 11 = some (.ireturn, 1, 0, 0, 0, 0) := by decide +kernel
theorem k_193_0 : COD 193 0 = some (.aload_n 0, 1, 0, 0, 0, 0) := by decide +kernel
theorem k_193_1 : COD 193 1 = some (.aload_n 0, 1, 0, 0, 0, 0) := by decide +kernel
theorem k_193_2 : COD 193 2 = some (.aload_n 0, 1, 0, 0, 0, 0) := by decide +kernel
theorem k_193_3 : COD 193 3 = some (.getfield 40, 3, 10, 12, 1153, 0) := by decide +kernel
theorem k_193_6 : COD 193 6 = some (.invokevirtual 192, 3, 145, 1, 1370, 10) := by decide +kernel
theorem k_193_9 : COD 193 9 = some (.invokevirtual 342, 3, 131, 1, 1342, 10) := by decide +kernel
theorem k_193_12 : COD 193 12 = some (.ireturn, 1, 0, 0, 0, 0) := by decide +kernel
theorem k_194_0 : COD 194 0 = some (.aload_n 0, 1, 0, 0, 0, 0) := by decide +kernel
theorem k_194_1 : COD 194 1 = some (.iconst 0, 1, 0, 0, 0, 0) := by decide +kernel
theorem k_194_2 : COD 194 2 = some (.putfield 59, 3, 10, 0, 1141, 0) := by decide +kernel
theorem k_194_5 : COD 194 5 = some (.aload_n 0, 1, 0, 0, 0, 0) := by decide +kernel
theorem k_194_6 : COD 194 6 = some (.iload_n 1, 1, 0, 0, 0, 0) := by decide +kernel
theorem k_194_7 : COD 194 7 = some (.invokevirtual 150, 3, 135, 1, 1374, 10) := by decide +kernel
theorem k_194_10 : COD 194 10 = some (.ifCond .eq 9, 3, 19, 0, 0, 0) := by decide +kernel
theorem k_194_13 : COD 194 13 = some (.aload_n 2, 1, 0, 0, 0, 0) := by decide +kernel
theorem k_194_14 : COD 194 14 = some (.iload_n 1, 1, 0, 0, 0, 0) := by decide +kernel
theorem k_194_15 : COD 194 15 = some (.iaload, 1, 0, 0, 0, 0) := by decide +kernel
theorem k_194_16 : COD 194 16 = some (.goto 8, 3, 24, 0, 0, 0) := by decide +kernel
theorem k_194_19 : COD 194 19 = some (.aload_n 0, 1, 0, 0, 0, 0) := by decide +kernel
theorem k_194_20 : COD 194 20 = some (.iconst 1, 1, 0, 0, 0, 0) := by decide +kernel
theorem k_194_21 : COD 194 21 = some (.invokevirtual 335, 3, 129, 1, 1213, 10) := by decide +kernel
theorem k_194_24 : COD 194 24 = some (.ireturn, 1, 0, 0, 0, 0) := by decide +kernel
theorem k_195_0 : COD 195 0 = some (.aload_n 0, 1, 0, 0, 0, 0) := by decide +kernel
theorem k_195_1 : COD 195 1 = some (.iload_n 1, 1, 0, 0, 0, 0) := by decide +kernel
theorem k_195_2 : COD 195 2 = some (.aload_n 0, 1, 0, 0, 0, 0) := by decide +kernel
theorem k_195_3 : COD 195 3 = some (.getfield 47, 3, 10, 14, 1155, 0) := by decide +kernel
theorem k_195_6 : COD 195 6 = some (.invokevirtual 345, 3, 194, 2, 1386, 10) := by decide +kernel
theorem k_195_9 : COD 195 9 = some (.ireturn, 1, 0, 0, 0, 0) := by decide +kernel
theorem k_196_0 : COD 196 0 = some (.aload_n 0, 1, 0, 0, 0, 0) := by decide +kernel
theorem k_196_1 : COD 196 1 = some (.iload_n 1, 1, 0, 0, 0, 0) := by decide +kernel
theorem k_196_2 : COD 196 2 = some (.aload_n 0, 1, 0, 0, 0, 0) := by decide +kernel
theorem k_196_3 : COD 196 3 = some (.getfield 50, 3, 10, 15, 1156, 0) := by decide +kernel
theorem k_196_6 : COD 196 6 = some (.invokevirtual 345, 3, 194, 2, 1386, 10) := by decide +kernel
theorem k_196_9 : COD 196 9 = some (.ireturn, 1, 0, 0, 0, 0) := by decide +kernel
theorem k_197_0 : COD 197 0 = some (.aload_n 0, 1, 0, 0, 0, 0) := by decide +kernel
theorem k_197_1 : COD 197 1 = some (.iconst 0, 1, 0, 0, 0, 0) := by decide +kernel
theorem k_197_2 : COD 197 2 = some (.putfield 59, 3, 10, 0, 1141, 0) := by decide +kernel
theorem k_197_5 : COD 197 5 = some (.aload_n 0, 1, 0, 0, 0, 0) := by decide +kernel
theorem k_197_6 : COD 197 6 = some (.iload_n 1, 1, 0, 0, 0, 0) := by decide +kernel
theorem k_197_7 : COD 197 7 = some (.invokevirtual 150, 3, 135, 1, 1374, 10) := by decide +kernel
theorem k_197_10 : COD 197 10 = some (.ifCond .eq 15, 3, 25, 0, 0, 0) := by decide +kernel
theorem k_197_13 : COD 197 13 = some (.aload_n 0, 1, 0, 0, 0, 0) := by decide +kernel
theorem k_197_14 : COD 197 14 = some (.getfield 40, 3, 10, 12, 1153, 0) := by decide +kernel
theorem k_197_17 : COD 197 17 = some (.getfield 73, 3, 9, 0, 1099, 0) := by decide +kernel
theorem k_197_20 : COD 197 20 = some (.iload_n 1, 1, 0, 0, 0, 0) := by decide +kernel
theorem k_197_21 : COD 197 21 = some (.laload, 1, 0, 0, 0, 0) := by decide +kernel
theorem k_197_22 : COD 197 22 = some (.goto 9, 3, 31, 0, 0, 0) := by decide +kernel
theorem k_197_25 : COD 197 25 = some (.aload_n 0, 1, 0, 0, 0, 0) := by decide +kernel
theorem k_197_26 : COD 197 26 = some (.iconst 1, 1, 0, 0, 0, 0) := by decide +kernel
theorem k_197_27 : COD 197 27 = some (.invokevirtual 335, 3, 129, 1, 1213, 10) := by decide +kernel
theorem k_197_30 : COD 197 30 = some (.i2l, 1, 0, 0, 0, 0) := by decide +kernel
theorem k_197_31 : COD 197 31 = some (.lreturn, 1, 0, 0, 0, 0) := by decide +kernel
theorem k_198_0 : COD 198 0 = some (.aload_n 0, 1, 0, 0, 0, 0) := by decide +kernel
theorem k_198_1 : COD 198 1 = some (.iload_n 1, 1, 0, 0, 0, 0) := by decide +kernel
theorem k_198_2 : COD 198 2 = some (.aload_n 0, 1, 0, 0, 0, 0) := by decide +kernel
theorem k_198_3 : COD 198 3 = some (.getfield 40, 3, 10, 12, 1153, 0) := by decide +kernel
theorem k_198_6 : COD 198 6 = some (.getfield 80, 3, 9, 1, 1101, 0) := by decide +kernel
theorem k_198_9 : COD 198 9 = some (.invokevirtual 345, 3, 194, 2, 1386, 10) := by decide +kernel
theorem k_198_12 : COD 198 12 = some (.ireturn, 1, 0, 0, 0, 0) := by decide +kernel
theorem k_199_0 : COD 199 0 = some (.aload_n 0, 1, 0, 0, 0, 0) := by decide +kernel
theorem k_199_1 : COD 199 1 = some (.iload_n 1, 1, 0, 0, 0, 0) := by decide +kernel
theorem k_199_2 : COD 199 2 = some (.aload_n 0, 1, 0, 0, 0, 0) := by decide +kernel
theorem k_199_3 : COD 199 3 = some (.getfield 40, 3, 10, 12, 1153, 0) := by decide +kernel
theorem k_199_6 : COD 199 6 = some (.getfield 83, 3, 9, 2, 1103, 0) := by decide +kernel
theorem k_199_9 : COD 199 9 = some (.invokevirtual 345, 3, 194, 2, 1386, 10) := by decide +kernel
theorem k_199_12 : COD 199 12 = some (.ireturn, 1, 0, 0, 0, 0) := by decide +kernel
theorem k_200_0 : COD 200 0 = some (.aload_n 0, 1, 0, 0, 0, 0) := by decide +kernel
theorem k_200_1 : COD 200 1 = some (.iload_n 1, 1, 0, 0, 0, 0) := by decide +kernel
theorem k_200_2 : COD 200 2 = some (.aload_n 0, 1, 0, 0, 0, 0) := by decide +kernel
theorem k_200_3 : COD 200 3 = some (.getfield 40, 3, 10, 12, 1153, 0) := by decide +kernel
theorem k_200_6 : COD 200 6 = some (.getfield 93, 3, 9, 3, 1105, 0) := by decide +kernel
theorem k_200_9 : COD 200 9 = some (.invokevirtual 345, 3, 194, 2, 1386, 10) := by decide +kernel
theorem k_200_12 : COD 200 12 = some (.ireturn, 1, 0, 0, 0, 0) := by decide +kernel
theorem k_201_0 : COD 201 0 = some (.aload_n 0, 1, 0, 0, 0, 0) := by decide +kernel
theorem k_201_1 : COD 201 1 = some (.iconst 0, 1, 0, 0, 0, 0) := by decide +kernel
theorem k_201_2 : COD 201 2 = some (.putfield 59, 3, 10, 0, 1141, 0) := by decide +kernel
theorem k_201_5 : COD 201 5 = some (.aload_n 0, 1, 0, 0, 0, 0) := by decide +kernel
theorem k_201_6 : COD 201 6 = some (.iload_n 1, 1, 0, 0, 0, 0) := by decide +kernel
theorem k_201_7 : COD 201 7 = some (.invokevirtual 150, 3, 135, 1, 1374, 10) := by decide +kernel
theorem k_201_10 : COD 201 10 = some (.ifCond .eq 15, 3, 25, 0, 0, 0) := by decide +kernel
theorem k_201_13 : COD 201 13 = some (.aload_n 0, 1, 0, 0, 0, 0) := by decide +kernel
theorem k_201_14 : COD 201 14 = some (.getfield 40, 3, 10, 12, 1153, 0) := by decide +kernel
theorem k_201_17 : COD 201 17 = some (.getfield 86, 3, 9, 4, 1107, 0) := by decide +kernel
theorem k_201_20 : COD 201 20 = some (.iload_n 1, 1, 0, 0, 0, 0) := by decide +kernel
theorem k_201_21 : COD 201 21 = some (.baload, 1, 0, 0, 0, 0) := by decide +kernel
theorem k_201_22 : COD 201 22 = some (.goto 8, 3, 30, 0, 0, 0) := by decide +kernel
theorem k_201_25 : COD 201 25 = some (.aload_n 0, 1, 0, 0, 0, 0) := by decide +kernel
theorem k_201_26 : COD 201 26 = some (.iconst 1, 1, 0, 0, 0, 0) := by decide +kernel
theorem k_201_27 : COD 201 27 = some (.invokevirtual 349, 3, 130, 1, 1414, 10) := by decide +kernel
theorem k_201_30 : COD 201 30 = some (.ireturn, 1, 0, 0, 0, 1) := by decide +kernel
theorem k_202_0 : COD 202 0 = some (.aload_n 0, 1, 0, 0, 0, 0) := by decide +kernel
theorem k_202_1 : COD 202 1 = some (.iconst 0, 1, 0, 0, 0, 0) := by decide +kernel
theorem k_202_2 : COD 202 2 = some (.putfield 59, 3, 10, 0, 1141, 0) := by decide +kernel
theorem k_202_5 : COD 202 5 = some (.aload_n 0, 1, 0, 0, 0, 0) := by decide +kernel
theorem k_202_6 : COD 202 6 = some (.iload_n 1, 1, 0, 0, 0, 0) := by decide +kernel
theorem k_202_7 : COD 202 7 = some (.invokevirtual 150, 3, 135, 1, 1374, 10) := by decide +kernel
theorem k_202_10 : COD 202 10 = some (.ifCond .ne 9, 3, 19, 0, 0, 0) := by decide +kernel
theorem k_202_13 : COD 202 13 = some (.aload_n 0, 1, 0, 0, 0, 0) := by decide +kernel
theorem k_202_14 : COD 202 14 = some (.iconst 1, 1, 0, 0, 0, 0) := by decide +kernel
theorem k_202_15 : COD 202 15 = some (.invokevirtual 335, 3, 129, 1, 1213, 10) := by decide +kernel
theorem k_202_18 : COD 202 18 = some (.ireturn, 1, 0, 0, 0, 0) := by decide +kernel
theorem k_202_19 : COD 202 19 = some (.aload_n 0, 1, 0, 0, 0, 0) := by decide +kernel
theorem k_202_20 : COD 202 20 = some (.getfield 40, 3, 10, 12, 1153, 0) := by decide +kernel
theorem k_202_23 : COD 202 23 = some (.getfield 86, 3, 9, 4, 1107, 0) := by decide +kernel
theorem k_202_26 : COD 202 26 = some (.iload_n 1, 1, 0, 0, 0, 0) := by decide +kernel
theorem k_202_27 : COD 202 27 = some (.baload, 1, 0, 0, 0, 0) := by decide +kernel
theorem k_202_28 : COD 202 28 = some (.ifCond .eq 15, 3, 43, 0, 0, 0) := by decide +kernel
theorem k_202_31 : COD 202 31 = some (.aload_n 0, 1, 0, 0, 0, 0) := by decide +kernel
theorem k_202_32 : COD 202 32 = some (.getfield 40, 3, 10, 12, 1153, 0) := by decide +kernel
theorem k_202_35 : COD 202 35 = some (.getfield 90, 3, 9, 5, 1109, 0) := by decide +kernel
theorem k_202_38 : COD 202 38 = some (.iload_n 1, 1, 0, 0, 0, 0) := by decide +kernel
theorem k_202_39 : COD 202 39 = some (.iaload, 1, 0, 0, 0, 0) := by decide +kernel
theorem k_202_40 : COD 202 40 = some (.goto 8, 3, 48, 0, 0, 0) := by decide +kernel
theorem k_202_43 : COD 202 43 = some (.aload_n 0, 1, 0, 0, 0, 0) := by decide +kernel
theorem k_202_44 : COD 202 44 = some (.iconst 2, 1, 0, 0, 0, 0) := by decide +kernel
theorem k_202_45 : COD 202 45 = some (.invokevirtual 335, 3, 129, 1, 1213, 10) := by decide +kernel
theorem k_202_48 : COD 202 48 = some (.ireturn, 1, 0, 0, 0, 0) := by decide +kernel
theorem k_203_0 : COD 203 0 = some (.aload_n 0, 1, 0, 0, 0, 0) := by decide +kernel
theorem k_203_1 : COD 203 1 = some (.iconst 0, 1, 0, 0, 0, 0) := by decide +kernel
theorem k_203_2 : COD 203 2 = some (.putfield 59, 3, 10, 0, 1141, 0) := by decide +kernel
theorem k_203_5 : COD 203 5 = some (.aload_n 0, 1, 0, 0, 0, 0) := by decide +kernel
theorem k_203_6 : COD 203 6 = some (.iload_n 1, 1, 0, 0, 0, 0) := by decide +kernel
theorem k_203_7 : COD 203 7 = some (.invokevirtual 352, 3, 133, 1, 1426, 10) := by decide +kernel
theorem k_203_10 : COD 203 10 = some (.ifCond .eq 15, 3, 25, 0, 0, 0) := by decide +kernel
theorem k_203_13 : COD 203 13 = some (.aload_n 0, 1, 0, 0, 0, 0) := by decide +kernel
theorem k_203_14 : COD 203 14 = some (.aload_n 0, 1, 0, 0, 0, 0) := by decide +kernel
theorem k_203_15 : COD 203 15 = some (.getfield 40, 3, 10, 12, 1153, 0) := by decide +kernel
theorem k_203_18 : COD 203 18 = some (.iload_n 1, 1, 0, 0, 0, 0) := by decide +kernel
theorem k_203_19 : COD 203 19 = some (.invokevirtual 212, 3, 147, 2, 1430, 10) := by decide +kernel
theorem k_203_22 : COD 203 22 = some (.goto 8, 3, 30, 0, 0, 0) := by decide +kernel
theorem k_203_25 : COD 203 25 = some (.aload_n 0, 1, 0, 0, 0, 0) := by decide +kernel
theorem k_203_26 : COD 203 26 = some (.iconst 1, 1, 0, 0, 0, 0) := by decide +kernel
theorem k_203_27 : COD 203 27 = some (.invokevirtual 335, 3, 129, 1, 1213, 10) := by decide +kernel
theorem k_203_30 : COD 203 30 = some (.ireturn, 1, 0, 0, 0, 0) := by decide +kernel
theorem k_204_0 : COD 204 0 = some (.iconst 0, 1, 0, 0, 0, 0) := by decide +kernel
theorem k_204_1 : COD 204 1 = some (.istore_n 3, 1, 0, 0, 0, 0) := by decide +kernel
theorem k_204_2 : COD 204 2 = some (.aload_n 0, 1, 0, 0, 0, 0) := by decide +kernel
theorem k_204_3 : COD 204 3 = some (.iload_n 2, 1, 0, 0, 0, 0) := by decide +kernel
theorem k_204_4 : COD 204 4 = some (.invokevirtual 153, 3, 146, 1, 1434, 10) := by decide +kernel
theorem k_204_7 : COD 204 7 = some (.istore 4, 2, 0, 0, 0, 0) := by decide +kernel
theorem k_204_9 : COD 204 9 = some (.iload 4, 2, 0, 0, 0, 0) := by decide +kernel
theorem k_204_11 : COD 204 11 = some (.ifCond .le 29, 3, 40, 0, 0, 0) := by decide +kernel
theorem k_204_14 : COD 204 14 = some (.iload_n 3, 1, 0, 0, 0, 0) := by decide +kernel
theorem k_204_15 : COD 204 15 = some (.aload_n 1, 1, 0, 0, 0, 0) := by decide +kernel
theorem k_204_16 : COD 204 16 = some (.iload 4, 2, 0, 0, 0, 0) := by decide +kernel
theorem k_204_18 : COD 204 18 = some (.invokevirtual 96, 3, 126, 1, 1378, 9) := by decide +kernel
theorem k_204_21 : COD 204 21 = some (.ifCond .eq 7, 3, 28, 0, 0, 0) := by decide +kernel
theorem k_204_24 : COD 204 24 = some (.iconst 1, 1, 0, 0, 0, 0) := by decide +kernel
theorem k_204_25 : COD 204 25 = some (.goto 4, 3, 29, 0, 0, 0) := by decide +kernel
theorem k_204_28 : COD 204 28 = some (.iconst 0, 1, 0, 0, 0, 0) := by decide +kernel
theorem k_204_29 : COD 204 29 = some (.iadd, 1, 0, 0, 0, 0) := by decide +kernel
theorem k_204_30 : COD 204 30 = some (.istore_n 3, 1, 0, 0, 0, 0) := by decide +kernel
theorem k_204_31 : COD 204 31 = some (.iload 4, 2, 0, 0, 0, 0) := by decide +kernel
theorem k_204_33 : COD 204 33 = some (.iconst 2, 1, 0, 0, 0, 0) := by decide +kernel
theorem k_204_34 : COD 204 34 = some (.idiv, 1, 0, 0, 0, 0) := by decide +kernel
theorem k_204_35 : COD 204 35 = some (.istore 4, 2, 0, 0, 0, 0) := by decide +kernel
theorem k_204_37 : COD 204 37 = some (.goto (-28), 3, 9, 0, 0, 0) := by decide +kernel
theorem k_204_40 : COD 204 40 = some (.iload_n 3, 1, 0, 0, 0, 0) := by decide +kernel
theorem k_204_41 : COD 204 41 = some (.ireturn, 1, 0, 0, 0, 0) := by decide +kernel
theorem k_205_0 : COD 205 0 = some (.aload_n 0, 1, 0, 0, 0, 0) := by decide +kernel
theorem k_205_1 : COD 205 1 = some (.iconst 0, 1, 0, 0, 0, 0) := by decide +kernel
theorem k_205_2 : COD 205 2 = some (.putfield 59, 3, 10, 0, 1141, 0) := by decide +kernel
theorem k_205_5 : COD 205 5 = some (.aload_n 0, 1, 0, 0, 0, 0) := by decide +kernel
theorem k_205_6 : COD 205 6 = some (.iload_n 1, 1, 0, 0, 0, 0) := by decide +kernel
theorem k_205_7 : COD 205 7 = some (.invokevirtual 352, 3, 133, 1, 1426, 10) := by decide +kernel
theorem k_205_10 : COD 205 10 = some (.ifCond .eq 15, 3, 25, 0, 0, 0) := by decide +kernel
theorem k_205_13 : COD 205 13 = some (.aload_n 0, 1, 0, 0, 0, 0) := by decide +kernel
theorem k_205_14 : COD 205 14 = some (.aload_n 0, 1, 0, 0, 0, 0) := by decide +kernel
theorem k_205_15 : COD 205 15 = some (.getfield 40, 3, 10, 12, 1153, 0) := by decide +kernel
theorem k_205_18 : COD 205 18 = some (.iload_n 1, 1, 0, 0, 0, 0) := by decide +kernel
theorem k_205_19 : COD 205 19 = some (.invokevirtual 355, 3, 204, 2, 1442, 10) := by decide +kernel
theorem k_205_22 : COD 205 22 = some (.goto 8, 3, 30, 0, 0, 0) := by decide +kernel
theorem k_205_25 : COD 205 25 = some (.aload_n 0, 1, 0, 0, 0, 0) := by decide +kernel
theorem k_205_26 : COD 205 26 = some (.iconst 1, 1, 0, 0, 0, 0) := by decide +kernel
theorem k_205_27 : COD 205 27 = some (.invokevirtual 335, 3, 129, 1, 1213, 10) := by decide +kernel
theorem k_205_30 : COD 205 30 = some (.ireturn, 1, 0, 0, 0, 0) := by decide +kernel
theorem k_206_0 : COD 206 0 = some (.aload_n 0, 1, 0, 0, 0, 0) := by decide +kernel
theorem k_206_1 : COD 206 1 = some (.iload_n 1, 1, 0, 0, 0, 0) := by decide +kernel
theorem k_206_2 : COD 206 2 = some (.invokevirtual 352, 3, 133, 1, 1426, 10) := by decide +kernel
theorem k_206_5 : COD 206 5 = some (.ifCond .eq 20, 3, 25, 0, 0, 0) := by decide +kernel
theorem k_206_8 : COD 206 8 = some (.aload_n 0, 1, 0, 0, 0, 0) := by decide +kernel
theorem k_206_9 : COD 206 9 = some (.iload_n 2, 1, 0, 0, 0, 0) := by decide +kernel
theorem k_206_10 : COD 206 10 = some (.invokevirtual 352, 3, 133, 1, 1426, 10) := by decide +kernel
theorem k_206_13 : COD 206 13 = some (.ifCond .eq 12, 3, 25, 0, 0, 0) := by decide +kernel
theorem k_206_16 : COD 206 16 = some (.iload_n 1, 1, 0, 0, 0, 0) := by decide +kernel
theorem k_206_17 : COD 206 17 = some (.iload_n 2, 1, 0, 0, 0, 0) := by decide +kernel
theorem k_206_18 : COD 206 18 = some (.if_icmp .gt 7, 3, 25, 0, 0, 0) := by decide +kernel
theorem k_206_21 : COD 206 21 = some (.iconst 0, 1, 0, 0, 0, 0) := by decide +kernel
theorem k_206_22 : COD 206 22 = some (.goto 4, 3, 26, 0, 0, 0) := by decide +kernel
theorem k_206_25 : COD 206 25 = some (.iconst 1, 1, 0, 0, 0, 0) := by decide +kernel
theorem k_206_26 : COD 206 26 = some (.ireturn, 1, 0, 0, 0, 0) := by decide +kernel
theorem k_207_0 : COD 207 0 = some (.aload_n 0, 1, 0, 0, 0, 0) := by decide +kernel
theorem k_207_1 : COD 207 1 = some (.aload_n 0, 1, 0, 0, 0, 0) := by decide +kernel
theorem k_207_2 : COD 207 2 = some (.iload_n 1, 1, 0, 0, 0, 0) := by decide +kernel
theorem k_207_3 : COD 207 3 = some (.iload_n 2, 1, 0, 0, 0, 0) := by decide +kernel
theorem k_207_4 : COD 207 4 = some (.invokevirtual 357, 3, 206, 2, 1450, 10) := by decide +kernel
theorem k_207_7 : COD 207 7 = some (.putfield 59, 3, 10, 0, 1141, 0) := by decide +kernel
theorem k_207_10 : COD 207 10 = some (.aload_n 0, 1, 0, 0, 0, 0) := by decide +kernel
theorem k_207_11 : COD 207 11 = some (.getfield 59, 3, 10, 0, 1141, 0) := by decide +kernel
theorem k_207_14 : COD 207 14 = some (.ifCond .le 5, 3, 19, 0, 0, 0) := by decide +kernel
theorem k_207_17 : COD 207 17 = some (.iconst 0, 1, 0, 0, 0, 0) := by decide +kernel
theorem k_207_18 : COD 207 18 = some (.ireturn, 1, 0, 0, 0, 0) := by decide +kernel
theorem k_207_19 : COD 207 19 = some (.aload_n 0, 1, 0, 0, 0, 0) := by decide +kernel
theorem k_207_20 : COD 207 20 = some (.getfield 44, 3, 10, 13, 1154, 0) := by decide +kernel
theorem k_207_23 : COD 207 23 = some (.aload_n 0, 1, 0, 0, 0, 0) := by decide +kernel
theorem k_207_24 : COD 207 24 = some (.getfield 40, 3, 10, 12, 1153, 0) := by decide +kernel
theorem k_207_27 : COD 207 27 = some (.invokevirtual 360, 3, 125, 1, 1454, 9) := by decide +kernel
theorem k_207_30 : COD 207 30 = some (.aload_n 0, 1, 0, 0, 0, 0) := by decide +kernel
theorem k_207_31 : COD 207 31 = some (.aload_n 0, 1, 0, 0, 0, 0) := by decide +kernel
theorem k_207_32 : COD 207 32 = some (.getfield 44, 3, 10, 13, 1154, 0) := by decide +kernel
theorem k_207_35 : COD 207 35 = some (.iload_n 1, 1, 0, 0, 0, 0) := by decide +kernel
theorem k_207_36 : COD 207 36 = some (.iload_n 2, 1, 0, 0, 0, 0) := by decide +kernel
theorem k_207_37 : COD 207 37 = some (.iconst 3, 1, 0, 0, 0, 0) := by decide +kernel
theorem k_207_38 : COD 207 38 = some (.iconst 0, 1, 0, 0, 0, 0) := by decide +kernel
theorem k_207_39 : COD 207 39 = some (.invokevirtual 179, 3, 144, 5, 1461, 10) := by decide +kernel
theorem k_207_42 : COD 207 42 = some (.aload_n 0, 1, 0, 0, 0, 0) := by decide +kernel
theorem k_207_43 : COD 207 43 = some (.getfield 44, 3, 10, 13, 1154, 0) := by decide +kernel
theorem k_207_46 : COD 207 46 = some (.getfield 99, 3, 9, 7, 1113, 0) := by decide +kernel
theorem k_207_49 : COD 207 49 = some (.aload_n 0, 1, 0, 0, 0, 0) := by decide +kernel
theorem k_207_50 : COD 207 50 = some (.getfield 40, 3, 10, 12, 1153, 0) := by decide +kernel
theorem k_207_53 : COD 207 53 = some (.getfield 99, 3, 9, 7, 1113, 0) := by decide +kernel
theorem k_207_56 : COD 207 56 = some (.isub, 1, 0, 0, 0, 0) := by decide +kernel
theorem k_207_57 : COD 207 57 = some (.ireturn, 1, 0, 0, 0, 0) := by decide +kernel
theorem k_208_0 : COD 208 0 = some (.aload_n 0, 1, 0, 0, 0, 0) := by decide +kernel
theorem k_208_1 : COD 208 1 = some (.aload_n 0, 1, 0, 0, 0, 0) := by decide +kernel
theorem k_208_2 : COD 208 2 = some (.iload_n 1, 1, 0, 0, 0, 0) := by decide +kernel
theorem k_208_3 : COD 208 3 = some (.iload_n 2, 1, 0, 0, 0, 0) := by decide +kernel
theorem k_208_4 : COD 208 4 = some (.invokevirtual 357, 3, 206, 2, 1450, 10) := by decide +kernel
theorem k_208_7 : COD 208 7 = some (.putfield 59, 3, 10, 0, 1141, 0) := by decide +kernel
theorem k_208_10 : COD 208 10 = some (.aload_n 0, 1, 0, 0, 0, 0) := by decide +kernel
theorem k_208_11 : COD 208 11 = some (.getfield 59, 3, 10, 0, 1141, 0) := by decide +kernel
theorem k_208_14 : COD 208 14 = some (.ifCond .le 5, 3, 19, 0, 0, 0) := by decide +kernel
theorem k_208_17 : COD 208 17 = some (.lconst 0, 1, 0, 0, 0, 0) := by decide +kernel
theorem k_208_18 : COD 208 18 = some (.lreturn, 1, 0, 0, 0, 0) := by decide +kernel
theorem k_208_19 : COD 208 19 = some (.aload_n 0, 1, 0, 0, 0, 0) := by decide +kernel
theorem k_208_20 : COD 208 20 = some (.aload_n 0, 1, 0, 0, 0, 0) := by decide +kernel
theorem k_208_21 : COD 208 21 = some (.getfield 40, 3, 10, 12, 1153, 0) := by decide +kernel
theorem k_208_24 : COD 208 24 = some (.iload_n 1, 1, 0, 0, 0, 0) := by decide +kernel
theorem k_208_25 : COD 208 25 = some (.iload_n 2, 1, 0, 0, 0, 0) := by decide +kernel
theorem k_208_26 : COD 208 26 = some (.iconst 3, 1, 0, 0, 0, 0) := by decide +kernel
theorem k_208_27 : COD 208 27 = some (.iconst 0, 1, 0, 0, 0, 0) := by decide +kernel
theorem k_208_28 : COD 208 28 = some (.invokevirtual 179, 3, 144, 5, 1461, 10) := by decide +kernel
theorem k_208_31 : COD 208 31 = some (.aload_n 0, 1, 0, 0, 0, 0) := by decide +kernel
theorem k_208_32 : COD 208 32 = some (.getfield 121, 3, 10, 17, 1158, 0) := by decide +kernel
theorem k_208_35 : COD 208 35 = some (.lreturn, 1, 0, 0, 0, 0) := by decide +kernel
theorem k_209_0 : COD 209 0 = some (.aload_n 0, 1, 0, 0, 0, 0) := by decide +kernel
theorem k_209_1 : COD 209 1 = some (.aload_n 0, 1, 0, 0, 0, 0) := by decide +kernel
theorem k_209_2 : COD 209 2 = some (.iload_n 1, 1, 0, 0, 0, 0) := by decide +kernel
theorem k_209_3 : COD 209 3 = some (.iload_n 2, 1, 0, 0, 0, 0) := by decide +kernel
theorem k_209_4 : COD 209 4 = some (.invokevirtual 357, 3, 206, 2, 1450, 10) := by decide +kernel
theorem k_209_7 : COD 209 7 = some (.putfield 59, 3, 10, 0, 1141, 0) := by decide +kernel
theorem k_209_10 : COD 209 10 = some (.aload_n 0, 1, 0, 0, 0, 0) := by decide +kernel
theorem k_209_11 : COD 209 11 = some (.getfield 59, 3, 10, 0, 1141, 0) := by decide +kernel
theorem k_209_14 : COD 209 14 = some (.ifCond .le 5, 3, 19, 0, 0, 0) := by decide +kernel
theorem k_209_17 : COD 209 17 = some (.iconst 0, 1, 0, 0, 0, 0) := by decide +kernel
theorem k_209_18 : COD 209 18 = some (.ireturn, 1, 0, 0, 0, 0) := by decide +kernel
theorem k_209_19 : COD 209 19 = some (.aload_n 0, 1, 0, 0, 0, 0) := by decide +kernel
theorem k_209_20 : COD 209 20 = some (.aload_n 0, 1, 0, 0, 0, 0) := by decide +kernel
theorem k_209_21 : COD 209 21 = some (.getfield 40, 3, 10, 12, 1153, 0) := by decide +kernel
theorem k_209_24 : COD 209 24 = some (.iload_n 1, 1, 0, 0, 0, 0) := by decide +kernel
theorem k_209_25 : COD 209 25 = some (.iload_n 2, 1, 0, 0, 0, 0) := by decide +kernel
theorem k_209_26 : COD 209 26 = some (.iconst 3, 1, 0, 0, 0, 0) := by decide +kernel
theorem k_209_27 : COD 209 27 = some (.iconst 0, 1, 0, 0, 0, 0) := by decide +kernel
theorem k_209_28 : COD 209 28 = some (.invokevirtual 179, 3, 144, 5, 1461, 10) := by decide +kernel
theorem k_209_31 : COD 209 31 = some (.aload_n 0, 1, 0, 0, 0, 0) := by decide +kernel
theorem k_209_32 : COD 209 32 = some (.getfield 125, 3, 10, 18, 1159, 0) := by decide +kernel
theorem k_209_35 : COD 209 35 = some (.ireturn, 1, 0, 0, 0, 0) := by decide +kernel
theorem k_210_0 : COD 210 0 = some (.aload_n 0, 1, 0, 0, 0, 0) := by decide +kernel
theorem k_210_1 : COD 210 1 = some (.aload_n 0, 1, 0, 0, 0, 0) := by decide +kernel
theorem k_210_2 : COD 210 2 = some (.iload_n 1, 1, 0, 0, 0, 0) := by decide +kernel
theorem k_210_3 : COD 210 3 = some (.iload_n 2, 1, 0, 0, 0, 0) := by decide +kernel
theorem k_210_4 : COD 210 4 = some (.invokevirtual 357, 3, 206, 2, 1450, 10) := by decide +kernel
theorem k_210_7 : COD 210 7 = some (.putfield 59, 3, 10, 0, 1141, 0) := by decide +kernel
theorem k_210_10 : COD 210 10 = some (.aload_n 0, 1, 0, 0, 0, 0) := by decide +kernel
theorem k_210_11 : COD 210 11 = some (.getfield 59, 3, 10, 0, 1141, 0) := by decide +kernel
theorem k_210_14 : COD 210 14 = some (.ifCond .le 5, 3, 19, 0, 0, 0) := by decide +kernel
theorem k_210_17 : COD 210 17 = some (.iconst 0, 1, 0, 0, 0, 0) := by decide +kernel
theorem k_210_18 : COD 210 18 = some (.ireturn, 1, 0, 0, 0, 0) := by decide +kernel
theorem k_210_19 : COD 210 19 = some (.aload_n 0, 1, 0, 0, 0, 0) := by decide +kernel
theorem k_210_20 : COD 210 20 = some (.aload_n 0, 1, 0, 0, 0, 0) := by decide +kernel
theorem k_210_21 : COD 210 21 = some (.getfield 40, 3, 10, 12, 1153, 0) := by decide +kernel
theorem k_210_24 : COD 210 24 = some (.iload_n 1, 1, 0, 0, 0, 0) := by decide +kernel
theorem k_210_25 : COD 210 25 = some (.iload_n 2, 1, 0, 0, 0, 0) := by decide +kernel
theorem k_210_26 : COD 210 26 = some (.iconst 3, 1, 0, 0, 0, 0) := by decide +kernel
theorem k_210_27 : COD 210 27 = some (.iconst 0, 1, 0, 0, 0, 0) := by decide +kernel
theorem k_210_28 : COD 210 28 = some (.invokevirtual 179, 3, 144, 5, 1461, 10) := by decide +kernel
theorem k_210_31 : COD 210 31 = some (.aload_n 0, 1, 0, 0, 0, 0) := by decide +kernel
theorem k_210_32 : COD 210 32 = some (.getfield 128, 3, 10, 19, 1160, 0) := by decide +kernel
theorem k_210_35 : COD 210 35 = some (.ireturn, 1, 0, 0, 0, 0) := by decide +kernel
theorem k_211_0 : COD 211 0 = some (.aload_n 0, 1, 0, 0, 0, 0) := by decide +kernel
theorem k_211_1 : COD 211 1 = some (.iconst 0, 1, 0, 0, 0, 0) := by decide +kernel
theorem k_211_2 : COD 211 2 = some (.putfield 59, 3, 10, 0, 1141, 0) := by decide +kernel
theorem k_211_5 : COD 211 5 = some (.aload_n 0, 1, 0, 0, 0, 0) := by decide +kernel
theorem k_211_6 : COD 211 6 = some (.getfield 40, 3, 10, 12, 1153, 0) := by decide +kernel
theorem k_211_9 : COD 211 9 = some (.getfield 80, 3, 9, 1, 1101, 0) := by decide +kernel
theorem k_211_12 : COD 211 12 = some (.iconst 1, 1, 0, 0, 0, 0) := by decide +kernel
theorem k_211_13 : COD 211 13 = some (.iaload, 1, 0, 0, 0, 0) := by decide +kernel
theorem k_211_14 : COD 211 14 = some (.iload_n 1, 1, 0, 0, 0, 0) := by decide +kernel
theorem k_211_15 : COD 211 15 = some (.if_icmp .ge 5, 3, 20, 0, 0, 0) := by decide +kernel
theorem k_211_18 : COD 211 18 = some (.iconst (-1), 1, 0, 0, 0, 0) := by decide +kernel
theorem k_211_19 : COD 211 19 = some (.ireturn, 1, 0, 0, 0, 0) := by decide +kernel
theorem k_211_20 : COD 211 20 = some (.iconst 1, 1, 0, 0, 0, 0) := by decide +kernel
theorem k_211_21 : COD 211 21 = some (.istore_n 2, 1, 0, 0, 0, 0) := by decide +kernel
theorem k_211_22 : COD 211 22 = some (.aload_n 0, 1, 0, 0, 0, 0) := by decide +kernel
theorem k_211_23 : COD 211 23 = some (.iload_n 2, 1, 0, 0, 0, 0) := by decide +kernel
theorem k_211_24 : COD 211 24 = some (.invokevirtual 69, 3, 136, 1, 1137, 10) := by decide +kernel
theorem k_211_27 : COD 211 27 = some (.ifCond .eq 42, 3, 69, 0, 0, 0) := by decide +kernel
theorem k_211_30 : COD 211 30 = some (.aload_n 0, 1, 0, 0, 0, 0) := by decide +kernel
theorem k_211_31 : COD 211 31 = some (.aload_n 0, 1, 0, 0, 0, 0) := by decide +kernel
theorem k_211_32 : COD 211 32 = some (.getfield 40, 3, 10, 12, 1153, 0) := by decide +kernel
theorem k_211_35 : COD 211 35 = some (.iload_n 2, 1, 0, 0, 0, 0) := by decide +kernel
theorem k_211_36 : COD 211 36 = some (.invokevirtual 135, 3, 140, 2, 1488, 10) := by decide +kernel
theorem k_211_39 : COD 211 39 = some (.aload_n 0, 1, 0, 0, 0, 0) := by decide +kernel
theorem k_211_40 : COD 211 40 = some (.getfield 40, 3, 10, 12, 1153, 0) := by decide +kernel
theorem k_211_43 : COD 211 43 = some (.getfield 80, 3, 9, 1, 1101, 0) := by decide +kernel
theorem k_211_46 : COD 211 46 = some (.iconst 2, 1, 0, 0, 0, 0) := by decide +kernel
theorem k_211_47 : COD 211 47 = some (.iload_n 2, 1, 0, 0, 0, 0) := by decide +kernel
theorem k_211_48 : COD 211 48 = some (.imul, 1, 0, 0, 0, 0) := by decide +kernel
theorem k_211_49 : COD 211 49 = some (.iaload, 1, 0, 0, 0, 0) := by decide +kernel
theorem k_211_50 : COD 211 50 = some (.iload_n 1, 1, 0, 0, 0, 0) := by decide +kernel
theorem k_211_51 : COD 211 51 = some (.if_icmp .lt 9, 3, 60, 0, 0, 0) := by decide +kernel
theorem k_211_54 : COD 211 54 = some (.iconst 2, 1, 0, 0, 0, 0) := by decide +kernel
theorem k_211_55 : COD 211 55 = some (.iload_n 2, 1, 0, 0, 0, 0) := by decide +kernel
theorem k_211_56 : COD 211 56 = some (.imul, 1, 0, 0, 0, 0) := by decide +kernel
theorem k_211_57 : COD 211 57 = some (.goto 8, 3, 65, 0, 0, 0) := by decide +kernel
theorem k_211_60 : COD 211 60 = some (.iconst 2, 1, 0, 0, 0, 0) := by decide +kernel
theorem k_211_61 : COD 211 61 = some (.iload_n 2, 1, 0, 0, 0, 0) := by decide +kernel
theorem k_211_62 : COD 211 62 = some (.imul, 1, 0, 0, 0, 0) := by decide +kernel
theorem k_211_63 : COD 211 63 = some (.iconst 1, 1, 0, 0, 0, 0) := by decide +kernel
theorem k_211_64 : COD 211 64 = some (.iadd, 1, 0, 0, 0, 0) := by decide +kernel
theorem k_211_65 : COD 211 65 = some (.istore_n 2, 1, 0, 0, 0, 0) := by decide +kernel
theorem k_211_66 : COD 211 66 = some (.goto (-44), 3, 22, 0, 0, 0) := by decide +kernel
theorem k_211_69 : COD 211 69 = some (.aload_n 0, 1, 0, 0, 0, 0) := by decide +kernel
theorem k_211_70 : COD 211 70 = some (.getfield 47, 3, 10, 14, 1155, 0) := by decide +kernel
theorem k_211_73 : COD 211 73 = some (.iload_n 2, 1, 0, 0, 0, 0) := by decide +kernel
theorem k_211_74 : COD 211 74 = some (.iaload, 1, 0, 0, 0, 0) := by decide +kernel
theorem k_211_75 : COD 211 75 = some (.ireturn, 1, 0, 0, 0, 0) := by decide +kernel
theorem k_212_0 : COD 212 0 = some (.aload_n 0, 1, 0, 0, 0, 0) := by decide +kernel
theorem k_212_1 : COD 212 1 = some (.iconst 0, 1, 0, 0, 0, 0) := by decide +kernel
theorem k_212_2 : COD 212 2 = some (.putfield 59, 3, 10, 0, 1141, 0) := by decide +kernel
theorem k_212_5 : COD 212 5 = some (.aload_n 0, 1, 0, 0, 0, 0) := by decide +kernel
theorem k_212_6 : COD 212 6 = some (.getfield 40, 3, 10, 12, 1153, 0) := by decide +kernel
theorem k_212_9 : COD 212 9 = some (.getfield 99, 3, 9, 7, 1113, 0) := by decide +kernel
theorem k_212_12 : COD 212 12 = some (.istore_n 1, 1, 0, 0, 0, 0) := by decide +kernel
theorem k_212_13 : COD 212 13 = some (.iconst 1, 1, 0, 0, 0, 0) := by decide +kernel
theorem k_212_14 : COD 212 14 = some (.istore_n 2, 1, 0, 0, 0, 0) := by decide +kernel
theorem k_212_15 : COD 212 15 = some (.iload_n 2, 1, 0, 0, 0, 0) := by decide +kernel
theorem k_212_16 : COD 212 16 = some (.bipush 64, 2, 0, 0, 0, 0) := by decide +kernel
theorem k_212_18 : COD 212 18 = some (.if_icmp .ge 26, 3, 44, 0, 0, 0) := by decide +kernel
theorem k_212_21 : COD 212 21 = some (.aload_n 0, 1, 0, 0, 0, 0) := by decide +kernel
theorem k_212_22 : COD 212 22 = some (.iload_n 2, 1, 0, 0, 0, 0) := by decide +kernel
theorem k_212_23 : COD 212 23 = some (.invokevirtual 69, 3, 136, 1, 1137, 10) := by decide +kernel
theorem k_212_26 : COD 212 26 = some (.ifCond .eq 12, 3, 38, 0, 0, 0) := by decide +kernel
theorem k_212_29 : COD 212 29 = some (.aload_n 0, 1, 0, 0, 0, 0) := by decide +kernel
theorem k_212_30 : COD 212 30 = some (.aload_n 0, 1, 0, 0, 0, 0) := by decide +kernel
theorem k_212_31 : COD 212 31 = some (.getfield 40, 3, 10, 12, 1153, 0) := by decide +kernel
theorem k_212_34 : COD 212 34 = some (.iload_n 2, 1, 0, 0, 0, 0) := by decide +kernel
theorem k_212_35 : COD 212 35 = some (.invokevirtual 135, 3, 140, 2, 1488, 10) := by decide +kernel
theorem k_212_38 : COD 212 38 = some (.iinc 2 1, 3, 0, 0, 0, 0) := by decide +kernel
theorem k_212_41 : COD 212 41 = some (.goto (-26), 3, 15, 0, 0, 0) := by decide +kernel
theorem k_212_44 : COD 212 44 = some (.aload_n 0, 1, 0, 0, 0, 0) := by decide +kernel
theorem k_212_45 : COD 212 45 = some (.getfield 40, 3, 10, 12, 1153, 0) := by decide +kernel
theorem k_212_48 : COD 212 48 = some (.getfield 99, 3, 9, 7, 1113, 0) := by decide +kernel
theorem k_212_51 : COD 212 51 = some (.iload_n 1, 1, 0, 0, 0, 0) := by decide +kernel
theorem k_212_52 : COD 212 52 = some (.isub, 1, 0, 0, 0, 0) := by decide +kernel
theorem k_212_53 : COD 212 53 = some (.ireturn, 1, 0, 0, 0, 0) := by decide +kernel
theorem k_213_0 : COD 213 0 = some (.aload_n 0, 1, 0, 0, 0, 0) := by decide +kernel
theorem k_213_1 : COD 213 1 = some (.aload_n 0, 1, 0, 0, 0, 0) := by decide +kernel
theorem k_213_2 : COD 213 2 = some (.iload_n 1, 1, 0, 0, 0, 0) := by decide +kernel
theorem k_213_3 : COD 213 3 = some (.iload_n 2, 1, 0, 0, 0, 0) := by decide +kernel
theorem k_213_4 : COD 213 4 = some (.invokevirtual 357, 3, 206, 2, 1450, 10) := by decide +kernel
theorem k_213_7 : COD 213 7 = some (.putfield 59, 3, 10, 0, 1141, 0) := by decide +kernel
theorem k_213_10 : COD 213 10 = some (.aload_n 0, 1, 0, 0, 0, 0) := by decide +kernel
theorem k_213_11 : COD 213 11 = some (.getfield 59, 3, 10, 0, 1141, 0) := by decide +kernel
theorem k_213_14 : COD 213 14 = some (.ifCond .le 5, 3, 19, 0, 0, 0) := by decide +kernel
theorem k_213_17 : COD 213 17 = some (.iconst 0, 1, 0, 0, 0, 0) := by decide +kernel
theorem k_213_18 : COD 213 18 = some (.ireturn, 1, 0, 0, 0, 0) := by decide +kernel
theorem k_213_19 : COD 213 19 = some (.iload_n 3, 1, 0, 0, 0, 0) := by decide +kernel
theorem k_213_20 : COD 213 20 = some (.sipush (-999), 3, 0, 0, 0, 0) := by decide +kernel
theorem k_213_23 : COD 213 23 = some (.sipush 999, 3, 0, 0, 0, 0) := by decide +kernel
theorem k_213_26 : COD 213 26 = some (.invokestatic 65, 3, 132, 3, 1221, 10) := by decide +kernel
theorem k_213_29 : COD 213 29 = some (.ifCond .ne 9, 3, 38, 0, 0, 0) := by decide +kernel
theorem k_213_32 : COD 213 32 = some (.aload_n 0, 1, 0, 0, 0, 0) := by decide +kernel
theorem k_213_33 : COD 213 33 = some (.iconst 2, 1, 0, 0, 0, 0) := by decide +kernel
theorem k_213_34 : COD 213 34 = some (.invokevirtual 335, 3, 129, 1, 1213, 10) := by decide +kernel
theorem k_213_37 : COD 213 37 = some (.ireturn, 1, 0, 0, 0, 0) := by decide +kernel
theorem k_213_38 : COD 213 38 = some (.aload_n 0, 1, 0, 0, 0, 0) := by decide +kernel
theorem k_213_39 : COD 213 39 = some (.aload_n 0, 1, 0, 0, 0, 0) := by decide +kernel
theorem k_213_40 : COD 213 40 = some (.getfield 40, 3, 10, 12, 1153, 0) := by decide +kernel
theorem k_213_43 : COD 213 43 = some (.iload_n 1, 1, 0, 0, 0, 0) := by decide +kernel
theorem k_213_44 : COD 213 44 = some (.iload_n 2, 1, 0, 0, 0, 0) := by decide +kernel
theorem k_213_45 : COD 213 45 = some (.iconst 1, 1, 0, 0, 0, 0) := by decide +kernel
theorem k_213_46 : COD 213 46 = some (.iload_n 3, 1, 0, 0, 0, 0) := by decide +kernel
theorem k_213_47 : COD 213 47 = some (.invokevirtual 179, 3, 144, 5, 1461, 10) := by decide +kernel
theorem k_213_50 : COD 213 50 = some (.aload_n 0, 1, 0, 0, 0, 0) := by decide +kernel
theorem k_213_51 : COD 213 51 = some (.getfield 118, 3, 10, 16, 1157, 0) := by decide +kernel
theorem k_213_54 : COD 213 54 = some (.ireturn, 1, 0, 0, 0, 0) := by decide +kernel
theorem k_214_0 : COD 214 0 = some (.aload_n 0, 1, 0, 0, 0, 0) := by decide +kernel
theorem k_214_1 : COD 214 1 = some (.aload_n 0, 1, 0, 0, 0, 0) := by decide +kernel
theorem k_214_2 : COD 214 2 = some (.iload_n 1, 1, 0, 0, 0, 0) := by decide +kernel
theorem k_214_3 : COD 214 3 = some (.iload_n 2, 1, 0, 0, 0, 0) := by decide +kernel
theorem k_214_4 : COD 214 4 = some (.invokevirtual 357, 3, 206, 2, 1450, 10) := by decide +kernel
theorem k_214_7 : COD 214 7 = some (.putfield 59, 3, 10, 0, 1141, 0) := by decide +kernel
theorem k_214_10 : COD 214 10 = some (.aload_n 0, 1, 0, 0, 0, 0) := by decide +kernel
theorem k_214_11 : COD 214 11 = some (.getfield 59, 3, 10, 0, 1141, 0) := by decide +kernel
theorem k_214_14 : COD 214 14 = some (.ifCond .le 5, 3, 19, 0, 0, 0) := by decide +kernel
theorem k_214_17 : COD 214 17 = some (.lconst 0, 1, 0, 0, 0, 0) := by decide +kernel
theorem k_214_18 : COD 214 18 = some (.lreturn, 1, 0, 0, 0, 0) := by decide +kernel
theorem k_214_19 : COD 214 19 = some (.iload_n 3, 1, 0, 0, 0, 0) := by decide +kernel
theorem k_214_20 : COD 214 20 = some (.sipush (-999), 3, 0, 0, 0, 0) := by decide +kernel
theorem k_214_23 : COD 214 23 = some (.sipush 999, 3, 0, 0, 0, 0) := by decide +kernel
theorem k_214_26 : COD 214 26 = some (.invokestatic 65, 3, 132, 3, 1221, 10) := by decide +kernel
theorem k_214_29 : COD 214 29 = some (.ifCond .ne 10, 3, 39, 0, 0, 0) := by decide +kernel
theorem k_214_32 : COD 214 32 = some (.aload_n 0, 1, 0, 0, 0, 0) := by decide +kernel
theorem k_214_33 : COD 214 33 = some (.iconst 2, 1, 0, 0, 0, 0) := by decide +kernel
theorem k_214_34 : COD 214 34 = some (.invokevirtual 335, 3, 129, 1, 1213, 10) := by decide +kernel
theorem k_214_37 : COD 214 37 = some (.i2l, 1, 0, 0, 0, 0) := by decide +kernel
theorem k_214_38 : COD 214 38 = some (.lreturn, 1, 0, 0, 0, 0) := by decide +kernel
theorem k_214_39 : COD 214 39 = some (.aload_n 0, 1, 0, 0, 0, 0) := by decide +kernel
theorem k_214_40 : COD 214 40 = some (.getfield 40, 3, 10, 12, 1153, 0) := by decide +kernel
theorem k_214_43 : COD 214 43 = some (.getfield 73, 3, 9, 0, 1099, 0) := by decide +kernel
theorem k_214_46 : COD 214 46 = some (.iconst 1, 1, 0, 0, 0, 0) := by decide +kernel
theorem k_214_47 : COD 214 47 = some (.laload, 1, 0, 0, 0, 0) := by decide +kernel
theorem k_214_48 : COD 214 48 = some (.lstore 4, 2, 0, 0, 0, 0) := by decide +kernel
theorem k_214_50 : COD 214 50 = some (.aload_n 0, 1, 0, 0, 0, 0) := by decide +kernel
theorem k_214_51 : COD 214 51 = some (.aload_n 0, 1, 0, 0, 0, 0) := by decide +kernel
theorem k_214_52 : COD 214 52 = some (.getfield 40, 3, 10, 12, 1153, 0) := by decide +kernel
theorem k_214_55 : COD 214 55 = some (.iload_n 1, 1, 0, 0, 0, 0) := by decide +kernel
theorem k_214_56 : COD 214 56 = some (.iload_n 2, 1, 0, 0, 0, 0) := by decide +kernel
theorem k_214_57 : COD 214 57 = some (.iconst 2, 1, 0, 0, 0, 0) := by decide +kernel
theorem k_214_58 : COD 214 58 = some (.iload_n 3, 1, 0, 0, 0, 0) := by decide +kernel
theorem k_214_59 : COD 214 59 = some (.invokevirtual 179, 3, 144, 5, 1461, 10) := by decide +kernel
theorem k_214_62 : COD 214 62 = some (.aload_n 0, 1, 0, 0, 0, 0) := by decide +kernel
theorem k_214_63 : COD 214 63 = some (.getfield 40, 3, 10, 12, 1153, 0) := by decide +kernel
theorem k_214_66 : COD 214 66 = some (.getfield 73, 3, 9, 0, 1099, 0) := by decide +kernel
theorem k_214_69 : COD 214 69 = some (.iconst 1, 1, 0, 0, 0, 0) := by decide +kernel
theorem k_214_70 : COD 214 70 = some (.laload, 1, 0, 0, 0, 0) := by decide +kernel
theorem k_214_71 : COD 214 71 = some (.lload 4, 2, 0, 0, 0, 0) := by decide +kernel
theorem k_214_73 : COD 214 73 = some (.lsub, 1, 0, 0, 0, 0) := by decide +kernel
theorem k_214_74 : COD 214 74 = some (.lreturn, 1, 0, 0, 0, 0) := by decide +kernel
theorem k_215_0 : COD 215 0 = some (.aload_n 0, 1, 0, 0, 0, 0) := by decide +kernel
theorem k_215_1 : COD 215 1 = some (.iconst 0, 1, 0, 0, 0, 0) := by decide +kernel
theorem k_215_2 : COD 215 2 = some (.putfield 59, 3, 10, 0, 1141, 0) := by decide +kernel
theorem k_215_5 : COD 215 5 = some (.iload_n 1, 1, 0, 0, 0, 0) := by decide +kernel
theorem k_215_6 : COD 215 6 = some (.iconst 1, 1, 0, 0, 0, 0) := by decide +kernel
theorem k_215_7 : COD 215 7 = some (.bipush 30, 2, 0, 0, 0, 0) := by decide +kernel
theorem k_215_9 : COD 215 9 = some (.invokestatic 65, 3, 132, 3, 1221, 10) := by decide +kernel
theorem k_215_12 : COD 215 12 = some (.ifCond .eq 15, 3, 27, 0, 0, 0) := by decide +kernel
theorem k_215_15 : COD 215 15 = some (.aload_n 0, 1, 0, 0, 0, 0) := by decide +kernel
theorem k_215_16 : COD 215 16 = some (.aload_n 0, 1, 0, 0, 0, 0) := by decide +kernel
theorem k_215_17 : COD 215 17 = some (.getfield 40, 3, 10, 12, 1153, 0) := by decide +kernel
theorem k_215_20 : COD 215 20 = some (.iload_n 1, 1, 0, 0, 0, 0) := by decide +kernel
theorem k_215_21 : COD 215 21 = some (.invokevirtual 364, 3, 151, 2, 1528, 10) := by decide +kernel
theorem k_215_24 : COD 215 24 = some (.goto 8, 3, 32, 0, 0, 0) := by decide +kernel
theorem k_215_27 : COD 215 27 = some (.aload_n 0, 1, 0, 0, 0, 0) := by decide +kernel
theorem k_215_28 : COD 215 28 = some (.iconst 1, 1, 0, 0, 0, 0) := by decide +kernel
theorem k_215_29 : COD 215 29 = some (.invokevirtual 335, 3, 129, 1, 1213, 10) := by decide +kernel
theorem k_215_32 : COD 215 32 = some (.ireturn, 1, 0, 0, 0, 0) := by decide +kernel
theorem k_216_0 : COD 216 0 = some (.aload_n 0, 1, 0, 0, 0, 0) := by decide +kernel
theorem k_216_1 : COD 216 1 = some (.iconst 0, 1, 0, 0, 0, 0) := by decide +kernel
theorem k_216_2 : COD 216 2 = some (.putfield 59, 3, 10, 0, 1141, 0) := by decide +kernel
theorem k_216_5 : COD 216 5 = some (.iload_n 1, 1, 0, 0, 0, 0) := by decide +kernel
theorem k_216_6 : COD 216 6 = some (.iconst 1, 1, 0, 0, 0, 0) := by decide +kernel
theorem k_216_7 : COD 216 7 = some (.bipush 30, 2, 0, 0, 0, 0) := by decide +kernel
theorem k_216_9 : COD 216 9 = some (.invokestatic 65, 3, 132, 3, 1221, 10) := by decide +kernel
theorem k_216_12 : COD 216 12 = some (.ifCond .ne 10, 3, 22, 0, 0, 0) := by decide +kernel
theorem k_216_15 : COD 216 15 = some (.aload_n 0, 1, 0, 0, 0, 0) := by decide +kernel
theorem k_216_16 : COD 216 16 = some (.iconst 1, 1, 0, 0, 0, 0) := by decide +kernel
theorem k_216_17 : COD 216 17 = some (.invokevirtual 335, 3, 129, 1, 1213, 10) := by decide +kernel
theorem k_216_20 : COD 216 20 = some (.i2l, 1, 0, 0, 0, 0) := by decide +kernel
theorem k_216_21 : COD 216 21 = some (.lreturn, 1, 0, 0, 0, 0) := by decide +kernel
theorem k_216_22 : COD 216 22 = some (.aload_n 0, 1, 0, 0, 0, 0) := by decide +kernel
theorem k_216_23 : COD 216 23 = some (.getfield 44, 3, 10, 13, 1154, 0) := by decide +kernel
theorem k_216_26 : COD 216 26 = some (.aload_n 0, 1, 0, 0, 0, 0) := by decide +kernel
theorem k_216_27 : COD 216 27 = some (.getfield 40, 3, 10, 12, 1153, 0) := by decide +kernel
theorem k_216_30 : COD 216 30 = some (.invokevirtual 360, 3, 125, 1, 1454, 9) := by decide +kernel
theorem k_216_33 : COD 216 33 = some (.aload_n 0, 1, 0, 0, 0, 0) := by decide +kernel
theorem k_216_34 : COD 216 34 = some (.aload_n 0, 1, 0, 0, 0, 0) := by decide +kernel
theorem k_216_35 : COD 216 35 = some (.getfield 44, 3, 10, 13, 1154, 0) := by decide +kernel
theorem k_216_38 : COD 216 38 = some (.iload_n 1, 1, 0, 0, 0, 0) := by decide +kernel
theorem k_216_39 : COD 216 39 = some (.invokevirtual 364, 3, 151, 2, 1528, 10) := by decide +kernel
theorem k_216_42 : COD 216 42 = some (.pop, 1, 0, 0, 0, 0) := by decide +kernel
theorem k_216_43 : COD 216 43 = some (.aload_n 0, 1, 0, 0, 0, 0) := by decide +kernel
theorem k_216_44 : COD 216 44 = some (.getfield 44, 3, 10, 13, 1154, 0) := by decide +kernel
theorem k_216_47 : COD 216 47 = some (.getfield 73, 3, 9, 0, 1099, 0) := by decide +kernel
theorem k_216_50 : COD 216 50 = some (.iconst 1, 1, 0, 0, 0, 0) := by decide +kernel
theorem k_216_51 : COD 216 51 = some (.laload, 1, 0, 0, 0, 0) := by decide +kernel
theorem k_216_52 : COD 216 52 = some (.lreturn, 1, 0, 0, 0, 0) := by decide +kernel
theorem k_217_0 : COD 217 0 = some (.aload_n 0, 1, 0, 0, 0, 0) := by decide +kernel
theorem k_217_1 : COD 217 1 = some (.iconst 0, 1, 0, 0, 0, 0) := by decide +kernel
theorem k_217_2 : COD 217 2 = some (.putfield 59, 3, 10, 0, 1141, 0) := by decide +kernel
theorem k_217_5 : COD 217 5 = some (.iload_n 1, 1, 0, 0, 0, 0) := by decide +kernel
theorem k_217_6 : COD 217 6 = some (.iconst 1, 1, 0, 0, 0, 0) := by decide +kernel
theorem k_217_7 : COD 217 7 = some (.bipush 30, 2, 0, 0, 0, 0) := by decide +kernel
theorem k_217_9 : COD 217 9 = some (.invokestatic 65, 3, 132, 3, 1221, 10) := by decide +kernel
theorem k_217_12 : COD 217 12 = some (.ifCond .ne 9, 3, 21, 0, 0, 0) := by decide +kernel
theorem k_217_15 : COD 217 15 = some (.aload_n 0, 1, 0, 0, 0, 0) := by decide +kernel
theorem k_217_16 : COD 217 16 = some (.iconst 1, 1, 0, 0, 0, 0) := by decide +kernel
theorem k_217_17 : COD 217 17 = some (.invokevirtual 335, 3, 129, 1, 1213, 10) := by decide +kernel
theorem k_217_20 : COD 217 20 = some (.ireturn, 1, 0, 0, 0, 0) := by decide +kernel
theorem k_217_21 : COD 217 21 = some (.aload_n 0, 1, 0, 0, 0, 0) := by decide +kernel
theorem k_217_22 : COD 217 22 = some (.getfield 44, 3, 10, 13, 1154, 0) := by decide +kernel
theorem k_217_25 : COD 217 25 = some (.aload_n 0, 1, 0, 0, 0, 0) := by decide +kernel
theorem k_217_26 : COD 217 26 = some (.getfield 40, 3, 10, 12, 1153, 0) := by decide +kernel
theorem k_217_29 : COD 217 29 = some (.invokevirtual 360, 3, 125, 1, 1454, 9) := by decide +kernel
theorem k_217_32 : COD 217 32 = some (.aload_n 0, 1, 0, 0, 0, 0) := by decide +kernel
theorem k_217_33 : COD 217 33 = some (.aload_n 0, 1, 0, 0, 0, 0) := by decide +kernel
theorem k_217_34 : COD 217 34 = some (.getfield 44, 3, 10, 13, 1154, 0) := by decide +kernel
theorem k_217_37 : COD 217 37 = some (.iload_n 1, 1, 0, 0, 0, 0) := by decide +kernel
theorem k_217_38 : COD 217 38 = some (.invokevirtual 364, 3, 151, 2, 1528, 10) := by decide +kernel
theorem k_217_41 : COD 217 41 = some (.pop, 1, 0, 0, 0, 0) := by decide +kernel
theorem k_217_42 : COD 217 42 = some (.aload_n 0, 1, 0, 0, 0, 0) := by decide +kernel
theorem k_217_43 : COD 217 43 = some (.aload_n 0, 1, 0, 0, 0, 0) := by decide +kernel
theorem k_217_44 : COD 217 44 = some (.getfield 44, 3, 10, 13, 1154, 0) := by decide +kernel
theorem k_217_47 : COD 217 47 = some (.invokevirtual 192, 3, 145, 1, 1370, 10) := by decide +kernel
theorem k_217_50 : COD 217 50 = some (.ireturn, 1, 0, 0, 0, 0) := by decide +kernel
theorem k_218_0 : COD 218 0 = some (.aload_n 0, 1, 0, 0, 0, 0) := by decide +kernel
theorem k_218_1 : COD 218 1 = some (.getfield 44, 3, 10, 13, 1154, 0) := by decide +kernel
theorem k_218_4 : COD 218 4 = some (.aload_n 0, 1, 0, 0, 0, 0) := by decide +kernel
theorem k_218_5 : COD 218 5 = some (.getfield 40, 3, 10, 12, 1153, 0) := by decide +kernel
theorem k_218_8 : COD 218 8 = some (.invokevirtual 360, 3, 125, 1, 1454, 9) := by decide +kernel
theorem k_218_11 : COD 218 11 = some (.iconst 0, 1, 0, 0, 0, 0) := by decide +kernel
theorem k_218_12 : COD 218 12 = some (.istore_n 3, 1, 0, 0, 0, 0) := by decide +kernel
theorem k_218_13 : COD 218 13 = some (.iload_n 3, 1, 0, 0, 0, 0) := by decide +kernel
theorem k_218_14 : COD 218 14 = some (.bipush 30, 2, 0, 0, 0, 0) := by decide +kernel
theorem k_218_16 : COD 218 16 = some (.if_icmp .gt 34, 3, 50, 0, 0, 0) := by decide +kernel
theorem k_218_19 : COD 218 19 = some (.aload_n 0, 1, 0, 0, 0, 0) := by decide +kernel
theorem k_218_20 : COD 218 20 = some (.aload_n 0, 1, 0, 0, 0, 0) := by decide +kernel
theorem k_218_21 : COD 218 21 = some (.getfield 44, 3, 10, 13, 1154, 0) := by decide +kernel
theorem k_218_24 : COD 218 24 = some (.iload_n 1, 1, 0, 0, 0, 0) := by decide +kernel
theorem k_218_25 : COD 218 25 = some (.invokevirtual 212, 3, 147, 2, 1430, 10) := by decide +kernel
theorem k_218_28 : COD 218 28 = some (.iload_n 2, 1, 0, 0, 0, 0) := by decide +kernel
theorem k_218_29 : COD 218 29 = some (.if_icmp .lt 5, 3, 34, 0, 0, 0) := by decide +kernel
theorem k_218_32 : COD 218 32 = some (.iload_n 3, 1, 0, 0, 0, 0) := by decide +kernel
theorem k_218_33 : COD 218 33 = some (.ireturn, 1, 0, 0, 0, 0) := by decide +kernel
theorem k_218_34 : COD 218 34 = some (.aload_n 0, 1, 0, 0, 0, 0) := by decide +kernel
theorem k_218_35 : COD 218 35 = some (.aload_n 0, 1, 0, 0, 0, 0) := by decide +kernel
theorem k_218_36 : COD 218 36 = some (.getfield 44, 3, 10, 13, 1154, 0) := by decide +kernel
theorem k_218_39 : COD 218 39 = some (.iconst 1, 1, 0, 0, 0, 0) := by decide +kernel
theorem k_218_40 : COD 218 40 = some (.invokevirtual 364, 3, 151, 2, 1528, 10) := by decide +kernel
theorem k_218_43 : COD 218 43 = some (.pop, 1, 0, 0, 0, 0) := by decide +kernel
theorem k_218_44 : COD 218 44 = some (.iinc 3 1, 3, 0, 0, 0, 0) := by decide +kernel
theorem k_218_47 : COD 218 47 = some (.goto (-34), 3, 13, 0, 0, 0) := by decide +kernel
theorem k_218_50 : COD 218 50 = some (.iconst (-1), 1, 0, 0, 0, 0) := by decide +kernel
theorem k_218_51 : COD 218 51 = some (.ireturn, 1, 0, 0, 0, 0) := by decide +kernel
theorem k_219_0 : COD 219 0 = some (.aload_n 0, 1, 0, 0, 0, 0) := by decide +kernel
theorem k_219_1 : COD 219 1 = some (.iconst 0, 1, 0, 0, 0, 0) := by decide +kernel
theorem k_219_2 : COD 219 2 = some (.putfield 59, 3, 10, 0, 1141, 0) := by decide +kernel
theorem k_219_5 : COD 219 5 = some (.aload_n 0, 1, 0, 0, 0, 0) := by decide +kernel
theorem k_219_6 : COD 219 6 = some (.iload_n 1, 1, 0, 0, 0, 0) := by decide +kernel
theorem k_219_7 : COD 219 7 = some (.invokevirtual 352, 3, 133, 1, 1426, 10) := by decide +kernel
theorem k_219_10 : COD 219 10 = some (.ifCond .eq 12, 3, 22, 0, 0, 0) := by decide +kernel
theorem k_219_13 : COD 219 13 = some (.aload_n 0, 1, 0, 0, 0, 0) := by decide +kernel
theorem k_219_14 : COD 219 14 = some (.iload_n 1, 1, 0, 0, 0, 0) := by decide +kernel
theorem k_219_15 : COD 219 15 = some (.iload_n 2, 1, 0, 0, 0, 0) := by decide +kernel
theorem k_219_16 : COD 219 16 = some (.invokevirtual 367, 3, 218, 2, 1573, 10) := by decide +kernel
theorem k_219_19 : COD 219 19 = some (.goto 8, 3, 27, 0, 0, 0) := by decide +kernel
theorem k_219_22 : COD 219 22 = some (.aload_n 0, 1, 0, 0, 0, 0) := by decide +kernel
theorem k_219_23 : COD 219 23 = some (.iconst 1, 1, 0, 0, 0, 0) := by decide +kernel
theorem k_219_24 : COD 219 24 = some (.invokevirtual 335, 3, 129, 1, 1213, 10) := by decide +kernel
theorem k_219_27 : COD 219 27 = some (.ireturn, 1, 0, 0, 0, 0) := by decide +kernel
theorem k_220_0 : COD 220 0 = some (.ldc 149, 2, 1, 0, 1466, 0) := by decide +kernel
theorem k_220_2 : COD 220 2 = some (.istore 4, 2, 0, 0, 0, 0) := by decide +kernel
theorem k_220_4 : COD 220 4 = some (.iconst 0, 1, 0, 0, 0, 0) := by decide +kernel
theorem k_220_5 : COD 220 5 = some (.istore 5, 2, 0, 0, 0, 0) := by decide +kernel
theorem k_220_7 : COD 220 7 = some (.iload 5, 2, 0, 0, 0, 0) := by decide +kernel
theorem k_220_9 : COD 220 9 = some (.aload_n 0, 1, 0, 0, 0, 0) := by decide +kernel
theorem k_220_10 : COD 220 10 = some (.getfield 20, 3, 10, 4, 1145, 0) := by decide +kernel
theorem k_220_13 : COD 220 13 = some (.getfield 62, 3, 8, 0, 1062, 0) := by decide +kernel
theorem k_220_16 : COD 220 16 = some (.if_icmp .ge 46, 3, 62, 0, 0, 0) := by decide +kernel
theorem k_220_19 : COD 220 19 = some (.iload 4, 2, 0, 0, 0, 0) := by decide +kernel
theorem k_220_21 : COD 220 21 = some (.aload_n 0, 1, 0, 0, 0, 0) := by decide +kernel
theorem k_220_22 : COD 220 22 = some (.aload_n 0, 1, 0, 0, 0, 0) := by decide +kernel
theorem k_220_23 : COD 220 23 = some (.getfield 40, 3, 10, 12, 1153, 0) := by decide +kernel
theorem k_220_26 : COD 220 26 = some (.iload 5, 2, 0, 0, 0, 0) := by decide +kernel
theorem k_220_28 : COD 220 28 = some (.invokevirtual 212, 3, 147, 2, 1430, 10) := by decide +kernel
theorem k_220_31 : COD 220 31 = some (.iload 5, 2, 0, 0, 0, 0) := by decide +kernel
theorem k_220_33 : COD 220 33 = some (.iload_n 1, 1, 0, 0, 0, 0) := by decide +kernel
theorem k_220_34 : COD 220 34 = some (.if_icmp .lt 15, 3, 49, 0, 0, 0) := by decide +kernel
theorem k_220_37 : COD 220 37 = some (.iload 5, 2, 0, 0, 0, 0) := by decide +kernel
theorem k_220_39 : COD 220 39 = some (.iload_n 1, 1, 0, 0, 0, 0) := by decide +kernel
theorem k_220_40 : COD 220 40 = some (.iload_n 2, 1, 0, 0, 0, 0) := by decide +kernel
theorem k_220_41 : COD 220 41 = some (.iadd, 1, 0, 0, 0, 0) := by decide +kernel
theorem k_220_42 : COD 220 42 = some (.if_icmp .ge 7, 3, 49, 0, 0, 0) := by decide +kernel
theorem k_220_45 : COD 220 45 = some (.iload_n 3, 1, 0, 0, 0, 0) := by decide +kernel
theorem k_220_46 : COD 220 46 = some (.goto 4, 3, 50, 0, 0, 0) := by decide +kernel
theorem k_220_49 : COD 220 49 = some (.iconst 0, 1, 0, 0, 0, 0) := by decide +kernel
theorem k_220_50 : COD 220 50 = some (.iadd, 1, 0, 0, 0, 0) := by decide +kernel
theorem k_220_51 : COD 220 51 = some (.invokestatic 115, 3, 226, 2, 1285, 0) := by decide +kernel
theorem k_220_54 : COD 220 54 = some (.istore 4, 2, 0, 0, 0, 0) := by decide +kernel
theorem k_220_56 : COD 220 56 = some (.iinc 5 1, 3, 0, 0, 0, 0) := by decide +kernel
theorem k_220_59 : COD 220 59 = some (.goto (-52), 3, 7, 0, 0, 0) := by decide +kernel
theorem k_220_62 : COD 220 62 = some (.iload 4, 2, 0, 0, 0, 0) := by decide +kernel
theorem k_220_64 : COD 220 64 = some (.ireturn, 1, 0, 0, 0, 0) := by decide +kernel
theorem k_221_0 : COD 221 0 = some (.aload_n 0, 1, 0, 0, 0, 0) := by decide +kernel
theorem k_221_1 : COD 221 1 = some (.iconst 0, 1, 0, 0, 0, 0) := by decide +kernel
theorem k_221_2 : COD 221 2 = some (.putfield 59, 3, 10, 0, 1141, 0) := by decide +kernel
theorem k_221_5 : COD 221 5 = some (.iload_n 1, 1, 0, 0, 0, 0) := by decide +kernel
theorem k_221_6 : COD 221 6 = some (.iconst 1, 1, 0, 0, 0, 0) := by decide +kernel
theorem k_221_7 : COD 221 7 = some (.aload_n 0, 1, 0, 0, 0, 0) := by decide +kernel
theorem k_221_8 : COD 221 8 = some (.getfield 20, 3, 10, 4, 1145, 0) := by decide +kernel
theorem k_221_11 : COD 221 11 = some (.getfield 62, 3, 8, 0, 1062, 0) := by decide +kernel
theorem k_221_14 : COD 221 14 = some (.invokestatic 65, 3, 132, 3, 1221, 10) := by decide +kernel
theorem k_221_17 : COD 221 17 = some (.ifCond .eq 14, 3, 31, 0, 0, 0) := by decide +kernel
theorem k_221_20 : COD 221 20 = some (.iload_n 2, 1, 0, 0, 0, 0) := by decide +kernel
theorem k_221_21 : COD 221 21 = some (.iconst 0, 1, 0, 0, 0, 0) := by decide +kernel
theorem k_221_22 : COD 221 22 = some (.sipush 999, 3, 0, 0, 0, 0) := by decide +kernel
theorem k_221_25 : COD 221 25 = some (.invokestatic 65, 3, 132, 3, 1221, 10) := by decide +kernel
theorem k_221_28 : COD 221 28 = some (.ifCond .ne 9, 3, 37, 0, 0, 0) := by decide +kernel
theorem k_221_31 : COD 221 31 = some (.aload_n 0, 1, 0, 0, 0, 0) := by decide +kernel
theorem k_221_32 : COD 221 32 = some (.iconst 1, 1, 0, 0, 0, 0) := by decide +kernel
theorem k_221_33 : COD 221 33 = some (.invokevirtual 335, 3, 129, 1, 1213, 10) := by decide +kernel
theorem k_221_36 : COD 221 36 = some (.ireturn, 1, 0, 0, 0, 0) := by decide +kernel
theorem k_221_37 : COD 221 37 = some (.iconst 0, 1, 0, 0, 0, 0) := by decide +kernel
theorem k_221_38 : COD 221 38 = some (.istore_n 3, 1, 0, 0, 0, 0) := by decide +kernel
theorem k_221_39 : COD 221 39 = some (.iconst 1, 1, 0, 0, 0, 0) := by decide +kernel
theorem k_221_40 : COD 221 40 = some (.istore 4, 2, 0, 0, 0, 0) := by decide +kernel
theorem k_221_42 : COD 221 42 = some (.iload 4, 2, 0, 0, 0, 0) := by decide +kernel
theorem k_221_44 : COD 221 44 = some (.iload_n 1, 1, 0, 0, 0, 0) := by decide +kernel
theorem k_221_45 : COD 221 45 = some (.iadd, 1, 0, 0, 0, 0) := by decide +kernel
theorem k_221_46 : COD 221 46 = some (.aload_n 0, 1, 0, 0, 0, 0) := by decide +kernel
theorem k_221_47 : COD 221 47 = some (.getfield 20, 3, 10, 4, 1145, 0) := by decide +kernel
theorem k_221_50 : COD 221 50 = some (.getfield 62, 3, 8, 0, 1062, 0) := by decide +kernel
theorem k_221_53 : COD 221 53 = some (.if_icmp .gt 30, 3, 83, 0, 0, 0) := by decide +kernel
theorem k_221_56 : COD 221 56 = some (.aload_n 0, 1, 0, 0, 0, 0) := by decide +kernel
theorem k_221_57 : COD 221 57 = some (.iload 4, 2, 0, 0, 0, 0) := by decide +kernel
theorem k_221_59 : COD 221 59 = some (.iload_n 1, 1, 0, 0, 0, 0) := by decide +kernel
theorem k_221_60 : COD 221 60 = some (.iload_n 2, 1, 0, 0, 0, 0) := by decide +kernel
theorem k_221_61 : COD 221 61 = some (.invokevirtual 370, 3, 220, 3, 1581, 10) := by decide +kernel
theorem k_221_64 : COD 221 64 = some (.aload_n 0, 1, 0, 0, 0, 0) := by decide +kernel
theorem k_221_65 : COD 221 65 = some (.iload_n 3, 1, 0, 0, 0, 0) := by decide +kernel
theorem k_221_66 : COD 221 66 = some (.iload_n 1, 1, 0, 0, 0, 0) := by decide +kernel
theorem k_221_67 : COD 221 67 = some (.iload_n 2, 1, 0, 0, 0, 0) := by decide +kernel
theorem k_221_68 : COD 221 68 = some (.invokevirtual 370, 3, 220, 3, 1581, 10) := by decide +kernel
theorem k_221_71 : COD 221 71 = some (.if_icmp .le 6, 3, 77, 0, 0, 0) := by decide +kernel
theorem k_221_74 : COD 221 74 = some (.iload 4, 2, 0, 0, 0, 0) := by decide +kernel
theorem k_221_76 : COD 221 76 = some (.istore_n 3, 1, 0, 0, 0, 0) := by decide +kernel
theorem k_221_77 : COD 221 77 = some (.iinc 4 1, 3, 0, 0, 0, 0) := by decide +kernel
theorem k_221_80 : COD 221 80 = some (.goto (-38), 3, 42, 0, 0, 0) := by decide +kernel
theorem k_221_83 : COD 221 83 = some (.iload_n 3, 1, 0, 0, 0, 0) := by decide +kernel
theorem k_221_84 : COD 221 84 = some (.ireturn, 1, 0, 0, 0, 0) := by decide +kernel
theorem k_222_0 : COD 222 0 = some (.aload_n 0, 1, 0, 0, 0, 0) := by decide +kernel
theorem k_222_1 : COD 222 1 = some (.iconst 0, 1, 0, 0, 0, 0) := by decide +kernel
theorem k_222_2 : COD 222 2 = some (.putfield 59, 3, 10, 0, 1141, 0) := by decide +kernel
theorem k_222_5 : COD 222 5 = some (.aload_n 0, 1, 0, 0, 0, 0) := by decide +kernel
theorem k_222_6 : COD 222 6 = some (.getfield 40, 3, 10, 12, 1153, 0) := by decide +kernel
theorem k_222_9 : COD 222 9 = some (.getfield 73, 3, 9, 0, 1099, 0) := by decide +kernel
theorem k_222_12 : COD 222 12 = some (.iconst 1, 1, 0, 0, 0, 0) := by decide +kernel
theorem k_222_13 : COD 222 13 = some (.laload, 1, 0, 0, 0, 0) := by decide +kernel
theorem k_222_14 : COD 222 14 = some (.l2d, 1, 0, 0, 0, 0) := by decide +kernel
theorem k_222_15 : COD 222 15 = some (.aload_n 0, 1, 0, 0, 0, 0) := by decide +kernel
theorem k_222_16 : COD 222 16 = some (.getfield 20, 3, 10, 4, 1145, 0) := by decide +kernel
theorem k_222_19 : COD 222 19 = some (.getfield 62, 3, 8, 0, 1062, 0) := by decide +kernel
theorem k_222_22 : COD 222 22 = some (.i2d, 1, 0, 0, 0, 0) := by decide +kernel
theorem k_222_23 : COD 222 23 = some (.ddiv, 1, 0, 0, 0, 0) := by decide +kernel
theorem k_222_24 : COD 222 24 = some (.dreturn, 1, 0, 0, 0, 0) := by decide +kernel
theorem k_223_0 : COD 223 0 = some (.aload_n 0, 1, 0, 0, 0, 0) := by decide +kernel
theorem k_223_1 : COD 223 1 = some (.iconst 0, 1, 0, 0, 0, 0) := by decide +kernel
theorem k_223_2 : COD 223 2 = some (.putfield 59, 3, 10, 0, 1141, 0) := by decide +kernel
theorem k_223_5 : COD 223 5 = some (.bipush 6, 2, 0, 0, 0, 0) := by decide +kernel
theorem k_223_7 : COD 223 7 = some (.newarray .int, 2, 0, 0, 0, 0) := by decide +kernel
theorem k_223_9 : COD 223 9 = some (.dup, 1, 0, 0, 0, 0) := by decide +kernel
theorem k_223_10 : COD 223 10 = some (.iconst 0, 1, 0, 0, 0, 0) := by decide +kernel
theorem k_223_11 : COD 223 11 = some (.aload_n 0, 1, 0, 0, 0, 0) := by decide +kernel
theorem k_223_12 : COD 223 12 = some (.getfield 20, 3, 10, 4, 1145, 0) := by decide +kernel
theorem k_223_15 : COD 223 15 = some (.getfield 62, 3, 8, 0, 1062, 0) := by decide +kernel
theorem k_223_18 : COD 223 18 = some (.iastore, 1, 0, 0, 0, 0) := by decide +kernel
theorem k_223_19 : COD 223 19 = some (.dup, 1, 0, 0, 0, 0) := by decide +kernel
theorem k_223_20 : COD 223 20 = some (.iconst 1, 1, 0, 0, 0, 0) := by decide +kernel
theorem k_223_21 : COD 223 21 = some (.iconst 2, 1, 0, 0, 0, 0) := by decide +kernel
theorem k_223_22 : COD 223 22 = some (.aload_n 0, 1, 0, 0, 0, 0) := by decide +kernel
theorem k_223_23 : COD 223 23 = some (.getfield 20, 3, 10, 4, 1145, 0) := by decide +kernel
theorem k_223_26 : COD 223 26 = some (.getfield 62, 3, 8, 0, 1062, 0) := by decide +kernel
theorem k_223_29 : COD 223 29 = some (.imul, 1, 0, 0, 0, 0) := by decide +kernel
theorem k_223_30 : COD 223 30 = some (.iconst 1, 1, 0, 0, 0, 0) := by decide +kernel
theorem k_223_31 : COD 223 31 = some (.isub, 1, 0, 0, 0, 0) := by decide +kernel
theorem k_223_32 : COD 223 32 = some (.iastore, 1, 0, 0, 0, 0) := by decide +kernel
theorem k_223_33 : COD 223 33 = some (.dup, 1, 0, 0, 0, 0) := by decide +kernel
theorem k_223_34 : COD 223 34 = some (.iconst 2, 1, 0, 0, 0, 0) := by decide +kernel
theorem k_223_35 : COD 223 35 = some (.aload_n 0, 1, 0, 0, 0, 0) := by decide +kernel
theorem k_223_36 : COD 223 36 = some (.getfield 20, 3, 10, 4, 1145, 0) := by decide +kernel
theorem k_223_39 : COD 223 39 = some (.getfield 183, 3, 8, 1, 1063, 0) := by decide +kernel
theorem k_223_42 : COD 223 42 = some (.iastore, 1, 0, 0, 0, 0) := by decide +kernel
theorem k_223_43 : COD 223 43 = some (.dup, 1, 0, 0, 0, 0) := by decide +kernel
theorem k_223_44 : COD 223 44 = some (.iconst 3, 1, 0, 0, 0, 0) := by decide +kernel
theorem k_223_45 : COD 223 45 = some (.aload_n 0, 1, 0, 0, 0, 0) := by decide +kernel
theorem k_223_46 : COD 223 46 = some (.getfield 40, 3, 10, 12, 1153, 0) := by decide +kernel
theorem k_223_49 : COD 223 49 = some (.getfield 189, 3, 9, 6, 1111, 0) := by decide +kernel
theorem k_223_52 : COD 223 52 = some (.iastore, 1, 0, 0, 0, 0) := by decide +kernel
theorem k_223_53 : COD 223 53 = some (.dup, 1, 0, 0, 0, 0) := by decide +kernel
theorem k_223_54 : COD 223 54 = some (.iconst 4, 1, 0, 0, 0, 0) := by decide +kernel
theorem k_223_55 : COD 223 55 = some (.aload_n 0, 1, 0, 0, 0, 0) := by decide +kernel
theorem k_223_56 : COD 223 56 = some (.getfield 40, 3, 10, 12, 1153, 0) := by decide +kernel
theorem k_223_59 : COD 223 59 = some (.getfield 99, 3, 9, 7, 1113, 0) := by decide +kernel
theorem k_223_62 : COD 223 62 = some (.iastore, 1, 0, 0, 0, 0) := by decide +kernel
theorem k_223_63 : COD 223 63 = some (.dup, 1, 0, 0, 0, 0) := by decide +kernel
theorem k_223_64 : COD 223 64 = some (.iconst 5, 1, 0, 0, 0, 0) := by decide +kernel
theorem k_223_65 : COD 223 65 = some (.aload_n 0, 1, 0, 0, 0, 0) := by decide +kernel
theorem k_223_66 : COD 223 66 = some (.aload_n 0, 1, 0, 0, 0, 0) := by decide +kernel
theorem k_223_67 : COD 223 67 = some (.getfield 40, 3, 10, 12, 1153, 0) := by decide +kernel
theorem k_223_70 : COD 223 70 = some (.invokevirtual 192, 3, 145, 1, 1370, 10) := by decide +kernel
theorem k_223_73 : COD 223 73 = some (.iastore, 1, 0, 0, 0, 0) := by decide +kernel
theorem k_223_74 : COD 223 74 = some (.astore_n 1, 1, 0, 0, 0, 0) := by decide +kernel
theorem k_223_75 : COD 223 75 = some (.ldc2_w 373, 3, 1, 0, 1593, 0) := by decide +kernel
theorem k_223_78 : COD 223 78 = some (.lstore_n 2, 1, 0, 0, 0, 0) := by decide +kernel
theorem k_223_79 : COD 223 79 = some (.aload_n 1, 1, 0, 0, 0, 0) := by decide +kernel
theorem k_223_80 : COD 223 80 = some (.astore 4, 2, 0, 0, 0, 0) := by decide +kernel
theorem k_223_82 : COD 223 82 = some (.aload 4, 2, 0, 0, 0, 0) := by decide +kernel
theorem k_223_84 : COD 223 84 = some (.arraylength, 1, 0, 0, 0, 0) := by decide +kernel
theorem k_223_85 : COD 223 85 = some (.istore 5, 2, 0, 0, 0, 0) := by decide +kernel
theorem k_223_87 : COD 223 87 = some (.iconst 0, 1, 0, 0, 0, 0) := by decide +kernel
theorem k_223_88 : COD 223 88 = some (.istore 6, 2, 0, 0, 0, 0) := by decide +kernel
theorem k_223_90 : COD 223 90 = some (.iload 6, 2, 0, 0, 0, 0) := by decide +kernel
theorem k_223_92 : COD 223 92 = some (.iload 5, 2, 0, 0, 0, 0) := by decide +kernel
theorem k_223_94 : COD 223 94 = some (.if_icmp .ge 26, 3, 120, 0, 0, 0) := by decide +kernel
theorem k_223_97 : COD 223 97 = some (.aload 4, 2, 0, 0, 0, 0) := by decide +kernel
theorem k_223_99 : COD 223 99 = some (.iload 6, 2, 0, 0, 0, 0) := by decide +kernel
theorem k_223_101 : COD 223 101 = some (.iaload, 1, 0, 0, 0, 0) := by decide +kernel
theorem k_223_102 : COD 223 102 = some (.istore 7, 2, 0, 0, 0, 0) := by decide +kernel
theorem k_223_104 : COD 223 104 = some (.lload_n 2, 1, 0, 0, 0, 0) := by decide +kernel
theorem k_223_105 : COD 223 105 = some (.ldc2_w 375, 3, 0, 0, 1594, 0) := by decide +kernel
theorem k_223_108 : COD 223 108 = some (.lmul, 1, 0, 0, 0, 0) := by decide +kernel
theorem k_223_109 : COD 223 109 = some (.iload 7, 2, 0, 0, 0, 0) := by decide +kernel
theorem k_223_111 : COD 223 111 = some (.i2l, 1, 0, 0, 0, 0) := by decide +kernel
theorem k_223_112 : COD 223 112 = some (.ladd, 1, 0, 0, 0, 0) := by decide +kernel
theorem k_223_113 : COD 223 113 = some (.lstore_n 2, 1, 0, 0, 0, 0) := by decide +kernel
theorem k_223_114 : COD 223 114 = some (.iinc 6 1, 3, 0, 0, 0, 0) := by decide +kernel
theorem k_223_117 : COD 223 117 = some (.goto (-27), 3, 90, 0, 0, 0) := by decide +kernel
theorem k_223_120 : COD 223 120 = some (.iconst 1, 1, 0, 0, 0, 0) := by decide +kernel
theorem k_223_121 : COD 223 121 = some (.istore 4, 2, 0, 0, 0, 0) := by decide +kernel
theorem k_223_123 : COD 223 123 = some (.iload 4, 2, 0, 0, 0, 0) := by decide +kernel
theorem k_223_125 : COD 223 125 = some (.bipush 64, 2, 0, 0, 0, 0) := by decide +kernel
theorem k_223_127 : COD 223 127 = some (.if_icmp .ge 133, 3, 260, 0, 0, 0) := by decide +kernel
theorem k_223_130 : COD 223 130 = some (.aload_n 0, 1, 0, 0, 0, 0) := by decide +kernel
theorem k_223_131 : COD 223 131 = some (.iload 4, 2, 0, 0, 0, 0) := by decide +kernel
theorem k_223_133 : COD 223 133 = some (.invokevirtual 150, 3, 135, 1, 1374, 10) := by decide +kernel
theorem k_223_136 : COD 223 136 = some (.ifCond .ne 6, 3, 142, 0, 0, 0) := by decide +kernel
theorem k_223_139 : COD 223 139 = some (.goto 115, 3, 254, 0, 0, 0) := by decide +kernel
theorem k_223_142 : COD 223 142 = some (.lload_n 2, 1, 0, 0, 0, 0) := by decide +kernel
theorem k_223_143 : COD 223 143 = some (.ldc2_w 375, 3, 0, 0, 1594, 0) := by decide +kernel
theorem k_223_146 : COD 223 146 = some (.lmul, 1, 0, 0, 0, 0) := by decide +kernel
theorem k_223_147 : COD 223 147 = some (.iload 4, 2, 0, 0, 0, 0) := by decide +kernel
theorem k_223_149 : COD 223 149 = some (.i2l, 1, 0, 0, 0, 0) := by decide +kernel
theorem k_223_150 : COD 223 150 = some (.ladd, 1, 0, 0, 0, 0) := by decide +kernel
theorem k_223_151 : COD 223 151 = some (.ldc2_w 375, 3, 0, 0, 1594, 0) := by decide +kernel
theorem k_223_154 : COD 223 154 = some (.lmul, 1, 0, 0, 0, 0) := by decide +kernel
theorem k_223_155 : COD 223 155 = some (.aload_n 0, 1, 0, 0, 0, 0) := by decide +kernel
theorem k_223_156 : COD 223 156 = some (.getfield 40, 3, 10, 12, 1153, 0) := by decide +kernel
theorem k_223_159 : COD 223 159 = some (.getfield 73, 3, 9, 0, 1099, 0) := by decide +kernel
theorem k_223_162 : COD 223 162 = some (.iload 4, 2, 0, 0, 0, 0) := by decide +kernel
theorem k_223_164 : COD 223 164 = some (.laload, 1, 0, 0, 0, 0) := by decide +kernel
theorem k_223_165 : COD 223 165 = some (.ladd, 1, 0, 0, 0, 0) := by decide +kernel
theorem k_223_166 : COD 223 166 = some (.lstore_n 2, 1, 0, 0, 0, 0) := by decide +kernel
theorem k_223_167 : COD 223 167 = some (.lload_n 2, 1, 0, 0, 0, 0) := by decide +kernel
theorem k_223_168 : COD 223 168 = some (.ldc2_w 375, 3, 0, 0, 1594, 0) := by decide +kernel
theorem k_223_171 : COD 223 171 = some (.lmul, 1, 0, 0, 0, 0) := by decide +kernel
theorem k_223_172 : COD 223 172 = some (.aload_n 0, 1, 0, 0, 0, 0) := by decide +kernel
theorem k_223_173 : COD 223 173 = some (.getfield 40, 3, 10, 12, 1153, 0) := by decide +kernel
theorem k_223_176 : COD 223 176 = some (.getfield 80, 3, 9, 1, 1101, 0) := by decide +kernel
theorem k_223_179 : COD 223 179 = some (.iload 4, 2, 0, 0, 0, 0) := by decide +kernel
theorem k_223_181 : COD 223 181 = some (.iaload, 1, 0, 0, 0, 0) := by decide +kernel
theorem k_223_182 : COD 223 182 = some (.i2l, 1, 0, 0, 0, 0) := by decide +kernel
theorem k_223_183 : COD 223 183 = some (.ladd, 1, 0, 0, 0, 0) := by decide +kernel
theorem k_223_184 : COD 223 184 = some (.ldc2_w 375, 3, 0, 0, 1594, 0) := by decide +kernel
theorem k_223_187 : COD 223 187 = some (.lmul, 1, 0, 0, 0, 0) := by decide +kernel
theorem k_223_188 : COD 223 188 = some (.aload_n 0, 1, 0, 0, 0, 0) := by decide +kernel
theorem k_223_189 : COD 223 189 = some (.getfield 40, 3, 10, 12, 1153, 0) := by decide +kernel
theorem k_223_192 : COD 223 192 = some (.getfield 83, 3, 9, 2, 1103, 0) := by decide +kernel
theorem k_223_195 : COD 223 195 = some (.iload 4, 2, 0, 0, 0, 0) := by decide +kernel
theorem k_223_197 : COD 223 197 = some (.iaload, 1, 0, 0, 0, 0) := by decide +kernel
theorem k_223_198 : COD 223 198 = some (.i2l, 1, 0, 0, 0, 0) := by decide +kernel
theorem k_223_199 : COD 223 199 = some (.ladd, 1, 0, 0, 0, 0) := by decide +kernel
theorem k_223_200 : COD 223 200 = some (.lstore_n 2, 1, 0, 0, 0, 0) := by decide +kernel
theorem k_223_201 : COD 223 201 = some (.lload_n 2, 1, 0, 0, 0, 0) := by decide +kernel
theorem k_223_202 : COD 223 202 = some (.ldc2_w 375, 3, 0, 0, 1594, 0) := by decide +kernel
theorem k_223_205 : COD 223 205 = some (.lmul, 1, 0, 0, 0, 0) := by decide +kernel
theorem k_223_206 : COD 223 206 = some (.aload_n 0, 1, 0, 0, 0, 0) := by decide +kernel
theorem k_223_207 : COD 223 207 = some (.getfield 40, 3, 10, 12, 1153, 0) := by decide +kernel
theorem k_223_210 : COD 223 210 = some (.getfield 93, 3, 9, 3, 1105, 0) := by decide +kernel
theorem k_223_213 : COD 223 213 = some (.iload 4, 2, 0, 0, 0, 0) := by decide +kernel
theorem k_223_215 : COD 223 215 = some (.iaload, 1, 0, 0, 0, 0) := by decide +kernel
theorem k_223_216 : COD 223 216 = some (.i2l, 1, 0, 0, 0, 0) := by decide +kernel
theorem k_223_217 : COD 223 217 = some (.ladd, 1, 0, 0, 0, 0) := by decide +kernel
theorem k_223_218 : COD 223 218 = some (.ldc2_w 375, 3, 0, 0, 1594, 0) := by decide +kernel
theorem k_223_221 : COD 223 221 = some (.lmul, 1, 0, 0, 0, 0) := by decide +kernel
theorem k_223_222 : COD 223 222 = some (.aload_n 0, 1, 0, 0, 0, 0) := by decide +kernel
theorem k_223_223 : COD 223 223 = some (.getfield 40, 3, 10, 12, 1153, 0) := by decide +kernel
theorem k_223_226 : COD 223 226 = some (.getfield 86, 3, 9, 4, 1107, 0) := by decide +kernel
theorem k_223_229 : COD 223 229 = some (.iload 4, 2, 0, 0, 0, 0) := by decide +kernel
theorem k_223_231 : COD 223 231 = some (.baload, 1, 0, 0, 0, 0) := by decide +kernel
theorem k_223_232 : COD 223 232 = some (.invokestatic 196, 3, 154, 1, 1555, 10) := by decide +kernel
theorem k_223_235 : COD 223 235 = some (.i2l, 1, 0, 0, 0, 0) := by decide +kernel
theorem k_223_236 : COD 223 236 = some (.ladd, 1, 0, 0, 0, 0) := by decide +kernel
theorem k_223_237 : COD 223 237 = some (.ldc2_w 375, 3, 0, 0, 1594, 0) := by decide +kernel
theorem k_223_240 : COD 223 240 = some (.lmul, 1, 0, 0, 0, 0) := by decide +kernel
theorem k_223_241 : COD 223 241 = some (.aload_n 0, 1, 0, 0, 0, 0) := by decide +kernel
theorem k_223_242 : COD 223 242 = some (.getfield 40, 3, 10, 12, 1153, 0) := by decide +kernel
theorem k_223_245 : COD 223 245 = some (.getfield 90, 3, 9, 5, 1109, 0) := by decide +kernel
theorem k_223_248 : COD 223 248 = some (.iload 4, 2, 0, 0, 0, 0) := by decide +kernel
theorem k_223_250 : COD 223 250 = some (.iaload, 1, 0, 0, 0, 0) := by decide +kernel
theorem k_223_251 : COD 223 251 = some (.i2l, 1, 0, 0, 0, 0) := by decide +kernel
theorem k_223_252 : COD 223 252 = some (.ladd, 1, 0, 0, 0, 0) := by decide +kernel
theorem k_223_253 : COD 223 253 = some (.lstore_n 2, 1, 0, 0, 0, 0) := by decide +kernel
theorem k_223_254 : COD 223 254 = some (.iinc 4 1, 3, 0, 0, 0, 0) := by decide +kernel
theorem k_223_257 : COD 223 257 = some (.goto (-134), 3, 123, 0, 0, 0) := by decide +kernel
theorem k_223_260 : COD 223 260 = some (.iconst 0, 1, 0, 0, 0, 0) := by decide +kernel
theorem k_223_261 : COD 223 261 = some (.istore 4, 2, 0, 0, 0, 0) := by decide +kernel
theorem k_223_263 : COD 223 263 = some (.iload 4, 2, 0, 0, 0, 0) := by decide +kernel
theorem k_223_265 : COD 223 265 = some (.aload_n 0, 1, 0, 0, 0, 0) := by decide +kernel
theorem k_223_266 : COD 223 266 = some (.getfield 20, 3, 10, 4, 1145, 0) := by decide +kernel
theorem k_223_269 : COD 223 269 = some (.getfield 62, 3, 8, 0, 1062, 0) := by decide +kernel
theorem k_223_272 : COD 223 272 = some (.if_icmp .ge 27, 3, 299, 0, 0, 0) := by decide +kernel
theorem k_223_275 : COD 223 275 = some (.lload_n 2, 1, 0, 0, 0, 0) := by decide +kernel
theorem k_223_276 : COD 223 276 = some (.ldc2_w 375, 3, 0, 0, 1594, 0) := by decide +kernel
theorem k_223_279 : COD 223 279 = some (.lmul, 1, 0, 0, 0, 0) := by decide +kernel
theorem k_223_280 : COD 223 280 = some (.aload_n 0, 1, 0, 0, 0, 0) := by decide +kernel
theorem k_223_281 : COD 223 281 = some (.aload_n 0, 1, 0, 0, 0, 0) := by decide +kernel
theorem k_223_282 : COD 223 282 = some (.getfield 40, 3, 10, 12, 1153, 0) := by decide +kernel
theorem k_223_285 : COD 223 285 = some (.iload 4, 2, 0, 0, 0, 0) := by decide +kernel
theorem k_223_287 : COD 223 287 = some (.invokevirtual 212, 3, 147, 2, 1430, 10) := by decide +kernel
theorem k_223_290 : COD 223 290 = some (.i2l, 1, 0, 0, 0, 0) := by decide +kernel
theorem k_223_291 : COD 223 291 = some (.ladd, 1, 0, 0, 0, 0) := by decide +kernel
theorem k_223_292 : COD 223 292 = some (.lstore_n 2, 1, 0, 0, 0, 0) := by decide +kernel
theorem k_223_293 : COD 223 293 = some (.iinc 4 1, 3, 0, 0, 0, 0) := by decide +kernel
theorem k_223_296 : COD 223 296 = some (.goto (-33), 3, 263, 0, 0, 0) := by decide +kernel
theorem k_223_299 : COD 223 299 = some (.lload_n 2, 1, 0, 0, 0, 0) := by decide +kernel
theorem k_223_300 : COD 223 300 = some (.lreturn, 1, 0, 0, 0, 0) := by decide +kernel
