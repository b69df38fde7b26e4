/-! code rows of the class -/
theorem k_0_0 : COD 0 0 = some (.aload_n 0, 1, 0, 0, 0, 0) := by decide +kernel
theorem k_0_1 : COD 0 1 = some (.invokespecial 1, 3, 1000, 0, 172, 0) := by decide +kernel
theorem k_0_4 : COD 0 4 = some (.aload_n 0, 1, 0, 0, 0, 0) := by decide +kernel
theorem k_0_5 : COD 0 5 = some (.iload_n 1, 1, 0, 0, 0, 0) := by decide +kernel
theorem k_0_6 : COD 0 6 = some (.putfield 7, 3, 0, 0, 181, 0) := by decide +kernel
theorem k_0_9 : COD 0 9 = some (.aload_n 0, 1, 0, 0, 0, 0) := by decide +kernel
theorem k_0_10 : COD 0 10 = some (.invokevirtual 13, 3, 1, 0, 173, 0) := by decide +kernel
theorem k_0_13 : COD 0 13 = some (.return_, 1, 0, 0, 0, 0) := by decide +kernel
theorem k_1_0 : COD 1 0 = some (.aload_n 0, 1, 0, 0, 0, 0) := by decide +kernel
theorem k_1_1 : COD 1 1 = some (.iconst 0, 1, 0, 0, 0, 0) := by decide +kernel
theorem k_1_2 : COD 1 2 = some (.iconst (-1), 1, 0, 0, 0, 0) := by decide +kernel
theorem k_1_3 : COD 1 3 = some (.invokevirtual 16, 3, 2, 2, 177, 0) := by decide +kernel
theorem k_1_6 : COD 1 6 = some (.return_, 1, 0, 0, 0, 0) := by decide +kernel
theorem k_2_0 : COD 2 0 = some (.aload_n 0, 1, 0, 0, 0, 0) := by decide +kernel
theorem k_2_1 : COD 2 1 = some (.iload_n 1, 1, 0, 0, 0, 0) := by decide +kernel
theorem k_2_2 : COD 2 2 = some (.putfield 20, 3, 0, 1, 182, 0) := by decide +kernel
theorem k_2_5 : COD 2 5 = some (.aload_n 0, 1, 0, 0, 0, 0) := by decide +kernel
theorem k_2_6 : COD 2 6 = some (.iload_n 2, 1, 0, 0, 0, 0) := by decide +kernel
theorem k_2_7 : COD 2 7 = some (.putfield 23, 3, 0, 2, 185, 0) := by decide +kernel
theorem k_2_10 : COD 2 10 = some (.aload_n 0, 1, 0, 0, 0, 0) := by decide +kernel
theorem k_2_11 : COD 2 11 = some (.lconst 0, 1, 0, 0, 0, 0) := by decide +kernel
theorem k_2_12 : COD 2 12 = some (.putfield 26, 3, 0, 3, 188, 0) := by decide +kernel
theorem k_2_15 : COD 2 15 = some (.aload_n 0, 1, 0, 0, 0, 0) := by decide +kernel
theorem k_2_16 : COD 2 16 = some (.iconst 0, 1, 0, 0, 0, 0) := by decide +kernel
theorem k_2_17 : COD 2 17 = some (.putfield 30, 3, 0, 4, 192, 0) := by decide +kernel
theorem k_2_20 : COD 2 20 = some (.aload_n 0, 1, 0, 0, 0, 0) := by decide +kernel
theorem k_2_21 : COD 2 21 = some (.iconst 0, 1, 0, 0, 0, 0) := by decide +kernel
theorem k_2_22 : COD 2 22 = some (.putfield 33, 3, 0, 5, 196, 0) := by decide +kernel
theorem k_2_25 : COD 2 25 = some (.aload_n 0, 1, 0, 0, 0, 0) := by decide +kernel
theorem k_2_26 : COD 2 26 = some (.iconst 0, 1, 0, 0, 0, 0) := by decide +kernel
theorem k_2_27 : COD 2 27 = some (.putfield 36, 3, 0, 6, 200, 0) := by decide +kernel
theorem k_2_30 : COD 2 30 = some (.aload_n 0, 1, 0, 0, 0, 0) := by decide +kernel
theorem k_2_31 : COD 2 31 = some (.iconst 0, 1, 0, 0, 0, 0) := by decide +kernel
theorem k_2_32 : COD 2 32 = some (.putfield 39, 3, 0, 7, 203, 0) := by decide +kernel
theorem k_2_35 : COD 2 35 = some (.aload_n 0, 1, 0, 0, 0, 0) := by decide +kernel
theorem k_2_36 : COD 2 36 = some (.iconst 0, 1, 0, 0, 0, 0) := by decide +kernel
theorem k_2_37 : COD 2 37 = some (.putfield 43, 3, 0, 8, 206, 0) := by decide +kernel
theorem k_2_40 : COD 2 40 = some (.aload_n 0, 1, 0, 0, 0, 0) := by decide +kernel
theorem k_2_41 : COD 2 41 = some (.aconst_null, 1, 0, 0, 0, 0) := by decide +kernel
theorem k_2_42 : COD 2 42 = some (.putfield 46, 3, 0, 9, 209, 0) := by decide +kernel
theorem k_2_45 : COD 2 45 = some (.aload_n 0, 1, 0, 0, 0, 0) := by decide +kernel
theorem k_2_46 : COD 2 46 = some (.aconst_null, 1, 0, 0, 0, 0) := by decide +kernel
theorem k_2_47 : COD 2 47 = some (.putfield 50, 3, 0, 10, 211, 0) := by decide +kernel
theorem k_2_50 : COD 2 50 = some (.return_, 1, 0, 0, 0, 0) := by decide +kernel
theorem k_3_0 : COD 3 0 = some (.aload_n 0, 1, 0, 0, 0, 0) := by decide +kernel
theorem k_3_1 : COD 3 1 = some (.aload_n 1, 1, 0, 0, 0, 0) := by decide +kernel
theorem k_3_2 : COD 3 2 = some (.getfield 26, 3, 0, 3, 188, 0) := by decide +kernel
theorem k_3_5 : COD 3 5 = some (.putfield 26, 3, 0, 3, 188, 0) := by decide +kernel
theorem k_3_8 : COD 3 8 = some (.aload_n 0, 1, 0, 0, 0, 0) := by decide +kernel
theorem k_3_9 : COD 3 9 = some (.aload_n 1, 1, 0, 0, 0, 0) := by decide +kernel
theorem k_3_10 : COD 3 10 = some (.getfield 30, 3, 0, 4, 192, 0) := by decide +kernel
theorem k_3_13 : COD 3 13 = some (.putfield 30, 3, 0, 4, 192, 0) := by decide +kernel
theorem k_3_16 : COD 3 16 = some (.aload_n 0, 1, 0, 0, 0, 0) := by decide +kernel
theorem k_3_17 : COD 3 17 = some (.aload_n 1, 1, 0, 0, 0, 0) := by decide +kernel
theorem k_3_18 : COD 3 18 = some (.getfield 33, 3, 0, 5, 196, 0) := by decide +kernel
theorem k_3_21 : COD 3 21 = some (.putfield 33, 3, 0, 5, 196, 0) := by decide +kernel
theorem k_3_24 : COD 3 24 = some (.aload_n 0, 1, 0, 0, 0, 0) := by decide +kernel
theorem k_3_25 : COD 3 25 = some (.aload_n 1, 1, 0, 0, 0, 0) := by decide +kernel
theorem k_3_26 : COD 3 26 = some (.getfield 36, 3, 0, 6, 200, 0) := by decide +kernel
theorem k_3_29 : COD 3 29 = some (.putfield 36, 3, 0, 6, 200, 0) := by decide +kernel
theorem k_3_32 : COD 3 32 = some (.aload_n 0, 1, 0, 0, 0, 0) := by decide +kernel
theorem k_3_33 : COD 3 33 = some (.aload_n 1, 1, 0, 0, 0, 0) := by decide +kernel
theorem k_3_34 : COD 3 34 = some (.getfield 39, 3, 0, 7, 203, 0) := by decide +kernel
theorem k_3_37 : COD 3 37 = some (.putfield 39, 3, 0, 7, 203, 0) := by decide +kernel
theorem k_3_40 : COD 3 40 = some (.aload_n 0, 1, 0, 0, 0, 0) := by decide +kernel
theorem k_3_41 : COD 3 41 = some (.aload_n 1, 1, 0, 0, 0, 0) := by decide +kernel
theorem k_3_42 : COD 3 42 = some (.getfield 43, 3, 0, 8, 206, 0) := by decide +kernel
theorem k_3_45 : COD 3 45 = some (.putfield 43, 3, 0, 8, 206, 0) := by decide +kernel
theorem k_3_48 : COD 3 48 = some (.return_, 1, 0, 0, 0, 0) := by decide +kernel
theorem k_4_0 : COD 4 0 = some (.aload_n 0, 1, 0, 0, 0, 0) := by decide +kernel
theorem k_4_1 : COD 4 1 = some (.getfield 23, 3, 0, 2, 185, 0) := by decide +kernel
theorem k_4_4 : COD 4 4 = some (.aload_n 0, 1, 0, 0, 0, 0) := by decide +kernel
theorem k_4_5 : COD 4 5 = some (.getfield 20, 3, 0, 1, 182, 0) := by decide +kernel
theorem k_4_8 : COD 4 8 = some (.if_icmp .lt 7, 3, 15, 0, 0, 0) := by decide +kernel
theorem k_4_11 : COD 4 11 = some (.iconst 1, 1, 0, 0, 0, 0) := by decide +kernel
theorem k_4_12 : COD 4 12 = some (.goto 4, 3, 16, 0, 0, 0) := by decide +kernel
theorem k_4_15 : COD 4 15 = some (.iconst 0, 1, 0, 0, 0, 0) := by decide +kernel
theorem k_4_16 : COD 4 16 = some (.ireturn, 1, 0, 0, 0, 1) := by decide +kernel
theorem k_5_0 : COD 5 0 = some (.aload_n 0, 1, 0, 0, 0, 0) := by decide +kernel
theorem k_5_1 : COD 5 1 = some (.getfield 39, 3, 0, 7, 203, 0) := by decide +kernel
theorem k_5_4 : COD 5 4 = some (.ifCond .ne 10, 3, 14, 0, 0, 0) := by decide +kernel
theorem k_5_7 : COD 5 7 = some (.aload_n 0, 1, 0, 0, 0, 0) := by decide +kernel
theorem k_5_8 : COD 5 8 = some (.getfield 36, 3, 0, 6, 200, 0) := by decide +kernel
theorem k_5_11 : COD 5 11 = some (.ifCond .eq 7, 3, 18, 0, 0, 0) := by decide +kernel
theorem k_5_14 : COD 5 14 = some (.iconst 1, 1, 0, 0, 0, 0) := by decide +kernel
theorem k_5_15 : COD 5 15 = some (.goto 4, 3, 19, 0, 0, 0) := by decide +kernel
theorem k_5_18 : COD 5 18 = some (.iconst 0, 1, 0, 0, 0, 0) := by decide +kernel
theorem k_5_19 : COD 5 19 = some (.ireturn, 1, 0, 0, 0, 1) := by decide +kernel
theorem k_6_0 : COD 6 0 = some (.aload_n 0, 1, 0, 0, 0, 0) := by decide +kernel
theorem k_6_1 : COD 6 1 = some (.getfield 20, 3, 0, 1, 182, 0) := by decide +kernel
theorem k_6_4 : COD 6 4 = some (.iload_n 1, 1, 0, 0, 0, 0) := by decide +kernel
theorem k_6_5 : COD 6 5 = some (.if_icmp .lt 15, 3, 20, 0, 0, 0) := by decide +kernel
theorem k_6_8 : COD 6 8 = some (.aload_n 0, 1, 0, 0, 0, 0) := by decide +kernel
theorem k_6_9 : COD 6 9 = some (.getfield 23, 3, 0, 2, 185, 0) := by decide +kernel
theorem k_6_12 : COD 6 12 = some (.iload_n 2, 1, 0, 0, 0, 0) := by decide +kernel
theorem k_6_13 : COD 6 13 = some (.if_icmp .gt 7, 3, 20, 0, 0, 0) := by decide +kernel
theorem k_6_16 : COD 6 16 = some (.iconst 1, 1, 0, 0, 0, 0) := by decide +kernel
theorem k_6_17 : COD 6 17 = some (.goto 4, 3, 21, 0, 0, 0) := by decide +kernel
theorem k_6_20 : COD 6 20 = some (.iconst 0, 1, 0, 0, 0, 0) := by decide +kernel
theorem k_6_21 : COD 6 21 = some (.ireturn, 1, 0, 0, 0, 1) := by decide +kernel
theorem k_7_0 : COD 7 0 = some (.aload_n 0, 1, 0, 0, 0, 0) := by decide +kernel
theorem k_7_1 : COD 7 1 = some (.getfield 20, 3, 0, 1, 182, 0) := by decide +kernel
theorem k_7_4 : COD 7 4 = some (.iload_n 2, 1, 0, 0, 0, 0) := by decide +kernel
theorem k_7_5 : COD 7 5 = some (.if_icmp .gt 15, 3, 20, 0, 0, 0) := by decide +kernel
theorem k_7_8 : COD 7 8 = some (.aload_n 0, 1, 0, 0, 0, 0) := by decide +kernel
theorem k_7_9 : COD 7 9 = some (.getfield 23, 3, 0, 2, 185, 0) := by decide +kernel
theorem k_7_12 : COD 7 12 = some (.iload_n 1, 1, 0, 0, 0, 0) := by decide +kernel
theorem k_7_13 : COD 7 13 = some (.if_icmp .lt 7, 3, 20, 0, 0, 0) := by decide +kernel
theorem k_7_16 : COD 7 16 = some (.iconst 1, 1, 0, 0, 0, 0) := by decide +kernel
theorem k_7_17 : COD 7 17 = some (.goto 4, 3, 21, 0, 0, 0) := by decide +kernel
theorem k_7_20 : COD 7 20 = some (.iconst 0, 1, 0, 0, 0, 0) := by decide +kernel
theorem k_7_21 : COD 7 21 = some (.ireturn, 1, 0, 0, 0, 1) := by decide +kernel
theorem k_8_0 : COD 8 0 = some (.aload_n 0, 1, 0, 0, 0, 0) := by decide +kernel
theorem k_8_1 : COD 8 1 = some (.iload_n 1, 1, 0, 0, 0, 0) := by decide +kernel
theorem k_8_2 : COD 8 2 = some (.i2l, 1, 0, 0, 0, 0) := by decide +kernel
theorem k_8_3 : COD 8 3 = some (.aload_n 0, 1, 0, 0, 0, 0) := by decide +kernel
theorem k_8_4 : COD 8 4 = some (.getfield 23, 3, 0, 2, 185, 0) := by decide +kernel
theorem k_8_7 : COD 8 7 = some (.aload_n 0, 1, 0, 0, 0, 0) := by decide +kernel
theorem k_8_8 : COD 8 8 = some (.getfield 20, 3, 0, 1, 182, 0) := by decide +kernel
theorem k_8_11 : COD 8 11 = some (.isub, 1, 0, 0, 0, 0) := by decide +kernel
theorem k_8_12 : COD 8 12 = some (.iconst 1, 1, 0, 0, 0, 0) := by decide +kernel
theorem k_8_13 : COD 8 13 = some (.iadd, 1, 0, 0, 0, 0) := by decide +kernel
theorem k_8_14 : COD 8 14 = some (.i2l, 1, 0, 0, 0, 0) := by decide +kernel
theorem k_8_15 : COD 8 15 = some (.lmul, 1, 0, 0, 0, 0) := by decide +kernel
theorem k_8_16 : COD 8 16 = some (.putfield 26, 3, 0, 3, 188, 0) := by decide +kernel
theorem k_8_19 : COD 8 19 = some (.aload_n 0, 1, 0, 0, 0, 0) := by decide +kernel
theorem k_8_20 : COD 8 20 = some (.iload_n 1, 1, 0, 0, 0, 0) := by decide +kernel
theorem k_8_21 : COD 8 21 = some (.putfield 30, 3, 0, 4, 192, 0) := by decide +kernel
theorem k_8_24 : COD 8 24 = some (.aload_n 0, 1, 0, 0, 0, 0) := by decide +kernel
theorem k_8_25 : COD 8 25 = some (.iload_n 1, 1, 0, 0, 0, 0) := by decide +kernel
theorem k_8_26 : COD 8 26 = some (.putfield 33, 3, 0, 5, 196, 0) := by decide +kernel
theorem k_8_29 : COD 8 29 = some (.aload_n 0, 1, 0, 0, 0, 0) := by decide +kernel
theorem k_8_30 : COD 8 30 = some (.getfield 23, 3, 0, 2, 185, 0) := by decide +kernel
theorem k_8_33 : COD 8 33 = some (.aload_n 0, 1, 0, 0, 0, 0) := by decide +kernel
theorem k_8_34 : COD 8 34 = some (.getfield 20, 3, 0, 1, 182, 0) := by decide +kernel
theorem k_8_37 : COD 8 37 = some (.if_icmp .le 18, 3, 55, 0, 0, 0) := by decide +kernel
theorem k_8_40 : COD 8 40 = some (.aload_n 0, 1, 0, 0, 0, 0) := by decide +kernel
theorem k_8_41 : COD 8 41 = some (.iconst 1, 1, 0, 0, 0, 0) := by decide +kernel
theorem k_8_42 : COD 8 42 = some (.putfield 39, 3, 0, 7, 203, 0) := by decide +kernel
theorem k_8_45 : COD 8 45 = some (.aload_n 0, 1, 0, 0, 0, 0) := by decide +kernel
theorem k_8_46 : COD 8 46 = some (.iload_n 1, 1, 0, 0, 0, 0) := by decide +kernel
theorem k_8_47 : COD 8 47 = some (.putfield 43, 3, 0, 8, 206, 0) := by decide +kernel
theorem k_8_50 : COD 8 50 = some (.aload_n 0, 1, 0, 0, 0, 0) := by decide +kernel
theorem k_8_51 : COD 8 51 = some (.iconst 0, 1, 0, 0, 0, 0) := by decide +kernel
theorem k_8_52 : COD 8 52 = some (.putfield 36, 3, 0, 6, 200, 0) := by decide +kernel
theorem k_8_55 : COD 8 55 = some (.return_, 1, 0, 0, 0, 0) := by decide +kernel
theorem k_9_0 : COD 9 0 = some (.aload_n 0, 1, 0, 0, 0, 0) := by decide +kernel
theorem k_9_1 : COD 9 1 = some (.dup, 1, 0, 0, 0, 0) := by decide +kernel
theorem k_9_2 : COD 9 2 = some (.getfield 26, 3, 0, 3, 188, 0) := by decide +kernel
theorem k_9_5 : COD 9 5 = some (.iload_n 1, 1, 0, 0, 0, 0) := by decide +kernel
theorem k_9_6 : COD 9 6 = some (.i2l, 1, 0, 0, 0, 0) := by decide +kernel
theorem k_9_7 : COD 9 7 = some (.aload_n 0, 1, 0, 0, 0, 0) := by decide +kernel
theorem k_9_8 : COD 9 8 = some (.getfield 23, 3, 0, 2, 185, 0) := by decide +kernel
theorem k_9_11 : COD 9 11 = some (.aload_n 0, 1, 0, 0, 0, 0) := by decide +kernel
theorem k_9_12 : COD 9 12 = some (.getfield 20, 3, 0, 1, 182, 0) := by decide +kernel
theorem k_9_15 : COD 9 15 = some (.isub, 1, 0, 0, 0, 0) := by decide +kernel
theorem k_9_16 : COD 9 16 = some (.iconst 1, 1, 0, 0, 0, 0) := by decide +kernel
theorem k_9_17 : COD 9 17 = some (.iadd, 1, 0, 0, 0, 0) := by decide +kernel
theorem k_9_18 : COD 9 18 = some (.i2l, 1, 0, 0, 0, 0) := by decide +kernel
theorem k_9_19 : COD 9 19 = some (.lmul, 1, 0, 0, 0, 0) := by decide +kernel
theorem k_9_20 : COD 9 20 = some (.ladd, 1, 0, 0, 0, 0) := by decide +kernel
theorem k_9_21 : COD 9 21 = some (.putfield 26, 3, 0, 3, 188, 0) := by decide +kernel
theorem k_9_24 : COD 9 24 = some (.aload_n 0, 1, 0, 0, 0, 0) := by decide +kernel
theorem k_9_25 : COD 9 25 = some (.dup, 1, 0, 0, 0, 0) := by decide +kernel
theorem k_9_26 : COD 9 26 = some (.getfield 30, 3, 0, 4, 192, 0) := by decide +kernel
theorem k_9_29 : COD 9 29 = some (.iload_n 1, 1, 0, 0, 0, 0) := by decide +kernel
theorem k_9_30 : COD 9 30 = some (.iadd, 1, 0, 0, 0, 0) := by decide +kernel
theorem k_9_31 : COD 9 31 = some (.putfield 30, 3, 0, 4, 192, 0) := by decide +kernel
theorem k_9_34 : COD 9 34 = some (.aload_n 0, 1, 0, 0, 0, 0) := by decide +kernel
theorem k_9_35 : COD 9 35 = some (.dup, 1, 0, 0, 0, 0) := by decide +kernel
theorem k_9_36 : COD 9 36 = some (.getfield 33, 3, 0, 5, 196, 0) := by decide +kernel
theorem k_9_39 : COD 9 39 = some (.iload_n 1, 1, 0, 0, 0, 0) := by decide +kernel
theorem k_9_40 : COD 9 40 = some (.iadd, 1, 0, 0, 0, 0) := by decide +kernel
theorem k_9_41 : COD 9 41 = some (.putfield 33, 3, 0, 5, 196, 0) := by decide +kernel
theorem k_9_44 : COD 9 44 = some (.aload_n 0, 1, 0, 0, 0, 0) := by decide +kernel
theorem k_9_45 : COD 9 45 = some (.getfield 23, 3, 0, 2, 185, 0) := by decide +kernel
theorem k_9_48 : COD 9 48 = some (.aload_n 0, 1, 0, 0, 0, 0) := by decide +kernel
theorem k_9_49 : COD 9 49 = some (.getfield 20, 3, 0, 1, 182, 0) := by decide +kernel
theorem k_9_52 : COD 9 52 = some (.if_icmp .le 13, 3, 65, 0, 0, 0) := by decide +kernel
theorem k_9_55 : COD 9 55 = some (.aload_n 0, 1, 0, 0, 0, 0) := by decide +kernel
theorem k_9_56 : COD 9 56 = some (.dup, 1, 0, 0, 0, 0) := by decide +kernel
theorem k_9_57 : COD 9 57 = some (.getfield 36, 3, 0, 6, 200, 0) := by decide +kernel
theorem k_9_60 : COD 9 60 = some (.iload_n 1, 1, 0, 0, 0, 0) := by decide +kernel
theorem k_9_61 : COD 9 61 = some (.iadd, 1, 0, 0, 0, 0) := by decide +kernel
theorem k_9_62 : COD 9 62 = some (.putfield 36, 3, 0, 6, 200, 0) := by decide +kernel
theorem k_9_65 : COD 9 65 = some (.return_, 1, 0, 0, 0, 0) := by decide +kernel
theorem k_10_0 : COD 10 0 = some (.aload_n 0, 1, 0, 0, 0, 0) := by decide +kernel
theorem k_10_1 : COD 10 1 = some (.getfield 46, 3, 0, 9, 209, 0) := by decide +kernel
theorem k_10_4 : COD 10 4 = some (.ifnull 17, 3, 21, 0, 0, 0) := by decide +kernel
theorem k_10_7 : COD 10 7 = some (.aload_n 0, 1, 0, 0, 0, 0) := by decide +kernel
theorem k_10_8 : COD 10 8 = some (.getfield 50, 3, 0, 10, 211, 0) := by decide +kernel
theorem k_10_11 : COD 10 11 = some (.ifnull 10, 3, 21, 0, 0, 0) := by decide +kernel
theorem k_10_14 : COD 10 14 = some (.aload_n 0, 1, 0, 0, 0, 0) := by decide +kernel
theorem k_10_15 : COD 10 15 = some (.invokevirtual 53, 3, 5, 0, 537, 0) := by decide +kernel
theorem k_10_18 : COD 10 18 = some (.ifCond .ne 5, 3, 23, 0, 0, 0) := by decide +kernel
theorem k_10_21 : COD 10 21 = some (.iconst 0, 1, 0, 0, 0, 0) := by decide +kernel
theorem k_10_22 : COD 10 22 = some (.ireturn, 1, 0, 0, 0, 0) := by decide +kernel
theorem k_10_23 : COD 10 23 = some (.aload_n 0, 1, 0, 0, 0, 0) := by decide +kernel
theorem k_10_24 : COD 10 24 = some (.getfield 39, 3, 0, 7, 203, 0) := by decide +kernel
theorem k_10_27 : COD 10 27 = some (.ifCond .eq 25, 3, 52, 0, 0, 0) := by decide +kernel
theorem k_10_30 : COD 10 30 = some (.aload_n 0, 1, 0, 0, 0, 0) := by decide +kernel
theorem k_10_31 : COD 10 31 = some (.getfield 46, 3, 0, 9, 209, 0) := by decide +kernel
theorem k_10_34 : COD 10 34 = some (.aload_n 0, 1, 0, 0, 0, 0) := by decide +kernel
theorem k_10_35 : COD 10 35 = some (.getfield 43, 3, 0, 8, 206, 0) := by decide +kernel
theorem k_10_38 : COD 10 38 = some (.invokevirtual 57, 3, 8, 1, 538, 0) := by decide +kernel
theorem k_10_41 : COD 10 41 = some (.aload_n 0, 1, 0, 0, 0, 0) := by decide +kernel
theorem k_10_42 : COD 10 42 = some (.getfield 50, 3, 0, 10, 211, 0) := by decide +kernel
theorem k_10_45 : COD 10 45 = some (.aload_n 0, 1, 0, 0, 0, 0) := by decide +kernel
theorem k_10_46 : COD 10 46 = some (.getfield 43, 3, 0, 8, 206, 0) := by decide +kernel
theorem k_10_49 : COD 10 49 = some (.invokevirtual 57, 3, 8, 1, 538, 0) := by decide +kernel
theorem k_10_52 : COD 10 52 = some (.aload_n 0, 1, 0, 0, 0, 0) := by decide +kernel
theorem k_10_53 : COD 10 53 = some (.getfield 46, 3, 0, 9, 209, 0) := by decide +kernel
theorem k_10_56 : COD 10 56 = some (.aload_n 0, 1, 0, 0, 0, 0) := by decide +kernel
theorem k_10_57 : COD 10 57 = some (.getfield 36, 3, 0, 6, 200, 0) := by decide +kernel
theorem k_10_60 : COD 10 60 = some (.invokevirtual 61, 3, 9, 1, 539, 0) := by decide +kernel
theorem k_10_63 : COD 10 63 = some (.aload_n 0, 1, 0, 0, 0, 0) := by decide +kernel
theorem k_10_64 : COD 10 64 = some (.getfield 50, 3, 0, 10, 211, 0) := by decide +kernel
theorem k_10_67 : COD 10 67 = some (.aload_n 0, 1, 0, 0, 0, 0) := by decide +kernel
theorem k_10_68 : COD 10 68 = some (.getfield 36, 3, 0, 6, 200, 0) := by decide +kernel
theorem k_10_71 : COD 10 71 = some (.invokevirtual 61, 3, 9, 1, 539, 0) := by decide +kernel
theorem k_10_74 : COD 10 74 = some (.aload_n 0, 1, 0, 0, 0, 0) := by decide +kernel
theorem k_10_75 : COD 10 75 = some (.iconst 0, 1, 0, 0, 0, 0) := by decide +kernel
theorem k_10_76 : COD 10 76 = some (.putfield 39, 3, 0, 7, 203, 0) := by decide +kernel
theorem k_10_79 : COD 10 79 = some (.aload_n 0, 1, 0, 0, 0, 0) := by decide +kernel
theorem k_10_80 : COD 10 80 = some (.iconst 0, 1, 0, 0, 0, 0) := by decide +kernel
theorem k_10_81 : COD 10 81 = some (.putfield 43, 3, 0, 8, 206, 0) := by decide +kernel
theorem k_10_84 : COD 10 84 = some (.aload_n 0, 1, 0, 0, 0, 0) := by decide +kernel
theorem k_10_85 : COD 10 85 = some (.iconst 0, 1, 0, 0, 0, 0) := by decide +kernel
theorem k_10_86 : COD 10 86 = some (.putfield 36, 3, 0, 6, 200, 0) := by decide +kernel
theorem k_10_89 : COD 10 89 = some (.iconst 1, 1, 0, 0, 0, 0) := by decide +kernel
theorem k_10_90 : COD 10 90 = some (.ireturn, 1, 0, 0, 0, 0) := by decide +kernel
theorem k_11_0 : COD 11 0 = some (.aload_n 0, 1, 0, 0, 0, 0) := by decide +kernel
theorem k_11_1 : COD 11 1 = some (.getfield 46, 3, 0, 9, 209, 0) := by decide +kernel
theorem k_11_4 : COD 11 4 = some (.ifnull 10, 3, 14, 0, 0, 0) := by decide +kernel
theorem k_11_7 : COD 11 7 = some (.aload_n 0, 1, 0, 0, 0, 0) := by decide +kernel
theorem k_11_8 : COD 11 8 = some (.getfield 50, 3, 0, 10, 211, 0) := by decide +kernel
theorem k_11_11 : COD 11 11 = some (.ifnonnull 4, 3, 15, 0, 0, 0) := by decide +kernel
theorem k_11_14 : COD 11 14 = some (.return_, 1, 0, 0, 0, 0) := by decide +kernel
theorem k_11_15 : COD 11 15 = some (.aload_n 0, 1, 0, 0, 0, 0) := by decide +kernel
theorem k_11_16 : COD 11 16 = some (.aload_n 0, 1, 0, 0, 0, 0) := by decide +kernel
theorem k_11_17 : COD 11 17 = some (.getfield 46, 3, 0, 9, 209, 0) := by decide +kernel
theorem k_11_20 : COD 11 20 = some (.getfield 26, 3, 0, 3, 188, 0) := by decide +kernel
theorem k_11_23 : COD 11 23 = some (.aload_n 0, 1, 0, 0, 0, 0) := by decide +kernel
theorem k_11_24 : COD 11 24 = some (.getfield 50, 3, 0, 10, 211, 0) := by decide +kernel
theorem k_11_27 : COD 11 27 = some (.getfield 26, 3, 0, 3, 188, 0) := by decide +kernel
theorem k_11_30 : COD 11 30 = some (.ladd, 1, 0, 0, 0, 0) := by decide +kernel
theorem k_11_31 : COD 11 31 = some (.putfield 26, 3, 0, 3, 188, 0) := by decide +kernel
theorem k_11_34 : COD 11 34 = some (.aload_n 0, 1, 0, 0, 0, 0) := by decide +kernel
theorem k_11_35 : COD 11 35 = some (.aload_n 0, 1, 0, 0, 0, 0) := by decide +kernel
theorem k_11_36 : COD 11 36 = some (.getfield 46, 3, 0, 9, 209, 0) := by decide +kernel
theorem k_11_39 : COD 11 39 = some (.getfield 30, 3, 0, 4, 192, 0) := by decide +kernel
theorem k_11_42 : COD 11 42 = some (.aload_n 0, 1, 0, 0, 0, 0) := by decide +kernel
theorem k_11_43 : COD 11 43 = some (.getfield 50, 3, 0, 10, 211, 0) := by decide +kernel
theorem k_11_46 : COD 11 46 = some (.getfield 30, 3, 0, 4, 192, 0) := by decide +kernel
theorem k_11_49 : COD 11 49 = some (.invokestatic 64, 3, 225, 2, 544, 0) := by decide +kernel
theorem k_11_52 : COD 11 52 = some (.putfield 30, 3, 0, 4, 192, 0) := by decide +kernel
theorem k_11_55 : COD 11 55 = some (.aload_n 0, 1, 0, 0, 0, 0) := by decide +kernel
theorem k_11_56 : COD 11 56 = some (.aload_n 0, 1, 0, 0, 0, 0) := by decide +kernel
theorem k_11_57 : COD 11 57 = some (.getfield 46, 3, 0, 9, 209, 0) := by decide +kernel
theorem k_11_60 : COD 11 60 = some (.getfield 33, 3, 0, 5, 196, 0) := by decide +kernel
theorem k_11_63 : COD 11 63 = some (.aload_n 0, 1, 0, 0, 0, 0) := by decide +kernel
theorem k_11_64 : COD 11 64 = some (.getfield 50, 3, 0, 10, 211, 0) := by decide +kernel
theorem k_11_67 : COD 11 67 = some (.getfield 33, 3, 0, 5, 196, 0) := by decide +kernel
theorem k_11_70 : COD 11 70 = some (.invokestatic 70, 3, 226, 2, 545, 0) := by decide +kernel
theorem k_11_73 : COD 11 73 = some (.putfield 33, 3, 0, 5, 196, 0) := by decide +kernel
theorem k_11_76 : COD 11 76 = some (.return_, 1, 0, 0, 0, 0) := by decide +kernel
theorem k_12_0 : COD 12 0 = some (.lload_n 1, 1, 0, 0, 0, 0) := by decide +kernel
theorem k_12_1 : COD 12 1 = some (.lstore_n 3, 1, 0, 0, 0, 0) := by decide +kernel
theorem k_12_2 : COD 12 2 = some (.lload_n 3, 1, 0, 0, 0, 0) := by decide +kernel
theorem k_12_3 : COD 12 3 = some (.ldc2_w 73, 3, 0, 0, 701, 0) := by decide +kernel
theorem k_12_6 : COD 12 6 = some (.lmul, 1, 0, 0, 0, 0) := by decide +kernel
theorem k_12_7 : COD 12 7 = some (.aload_n 0, 1, 0, 0, 0, 0) := by decide +kernel
theorem k_12_8 : COD 12 8 = some (.getfield 7, 3, 0, 0, 181, 0) := by decide +kernel
theorem k_12_11 : COD 12 11 = some (.i2l, 1, 0, 0, 0, 0) := by decide +kernel
theorem k_12_12 : COD 12 12 = some (.ladd, 1, 0, 0, 0, 0) := by decide +kernel
theorem k_12_13 : COD 12 13 = some (.lstore_n 3, 1, 0, 0, 0, 0) := by decide +kernel
theorem k_12_14 : COD 12 14 = some (.lload_n 3, 1, 0, 0, 0, 0) := by decide +kernel
theorem k_12_15 : COD 12 15 = some (.ldc2_w 73, 3, 0, 0, 701, 0) := by decide +kernel
theorem k_12_18 : COD 12 18 = some (.lmul, 1, 0, 0, 0, 0) := by decide +kernel
theorem k_12_19 : COD 12 19 = some (.aload_n 0, 1, 0, 0, 0, 0) := by decide +kernel
theorem k_12_20 : COD 12 20 = some (.getfield 26, 3, 0, 3, 188, 0) := by decide +kernel
theorem k_12_23 : COD 12 23 = some (.ladd, 1, 0, 0, 0, 0) := by decide +kernel
theorem k_12_24 : COD 12 24 = some (.lstore_n 3, 1, 0, 0, 0, 0) := by decide +kernel
theorem k_12_25 : COD 12 25 = some (.lload_n 3, 1, 0, 0, 0, 0) := by decide +kernel
theorem k_12_26 : COD 12 26 = some (.ldc2_w 73, 3, 0, 0, 701, 0) := by decide +kernel
theorem k_12_29 : COD 12 29 = some (.lmul, 1, 0, 0, 0, 0) := by decide +kernel
theorem k_12_30 : COD 12 30 = some (.aload_n 0, 1, 0, 0, 0, 0) := by decide +kernel
theorem k_12_31 : COD 12 31 = some (.getfield 30, 3, 0, 4, 192, 0) := by decide +kernel
theorem k_12_34 : COD 12 34 = some (.i2l, 1, 0, 0, 0, 0) := by decide +kernel
theorem k_12_35 : COD 12 35 = some (.ladd, 1, 0, 0, 0, 0) := by decide +kernel
theorem k_12_36 : COD 12 36 = some (.lstore_n 3, 1, 0, 0, 0, 0) := by decide +kernel
theorem k_12_37 : COD 12 37 = some (.lload_n 3, 1, 0, 0, 0, 0) := by decide +kernel
theorem k_12_38 : COD 12 38 = some (.ldc2_w 73, 3, 0, 0, 701, 0) := by decide +kernel
theorem k_12_41 : COD 12 41 = some (.lmul, 1, 0, 0, 0, 0) := by decide +kernel
theorem k_12_42 : COD 12 42 = some (.aload_n 0, 1, 0, 0, 0, 0) := by decide +kernel
theorem k_12_43 : COD 12 43 = some (.getfield 33, 3, 0, 5, 196, 0) := by decide +kernel
theorem k_12_46 : COD 12 46 = some (.i2l, 1, 0, 0, 0, 0) := by decide +kernel
theorem k_12_47 : COD 12 47 = some (.ladd, 1, 0, 0, 0, 0) := by decide +kernel
theorem k_12_48 : COD 12 48 = some (.lstore_n 3, 1, 0, 0, 0, 0) := by decide +kernel
theorem k_12_49 : COD 12 49 = some (.lload_n 3, 1, 0, 0, 0, 0) := by decide +kernel
theorem k_12_50 : COD 12 50 = some (.ldc2_w 73, 3, 0, 0, 701, 0) := by decide +kernel
theorem k_12_53 : COD 12 53 = some (.lmul, 1, 0, 0, 0, 0) := by decide +kernel
theorem k_12_54 : COD 12 54 = some (.aload_n 0, 1, 0, 0, 0, 0) := by decide +kernel
theorem k_12_55 : COD 12 55 = some (.getfield 36, 3, 0, 6, 200, 0) := by decide +kernel
theorem k_12_58 : COD 12 58 = some (.i2l, 1, 0, 0, 0, 0) := by decide +kernel
theorem k_12_59 : COD 12 59 = some (.ladd, 1, 0, 0, 0, 0) := by decide +kernel
theorem k_12_60 : COD 12 60 = some (.lstore_n 3, 1, 0, 0, 0, 0) := by decide +kernel
theorem k_12_61 : COD 12 61 = some (.lload_n 3, 1, 0, 0, 0, 0) := by decide +kernel
theorem k_12_62 : COD 12 62 = some (.ldc2_w 73, 3, 0, 0, 701, 0) := by decide +kernel
theorem k_12_65 : COD 12 65 = some (.lmul, 1, 0, 0, 0, 0) := by decide +kernel
theorem k_12_66 : COD 12 66 = some (.aload_n 0, 1, 0, 0, 0, 0) := by decide +kernel
theorem k_12_67 : COD 12 67 = some (.getfield 39, 3, 0, 7, 203, 0) := by decide +kernel
theorem k_12_70 : COD 12 70 = some (.ifCond .eq 7, 3, 77, 0, 0, 0) := by decide +kernel
theorem k_12_73 : COD 12 73 = some (.iconst 1, 1, 0, 0, 0, 0) := by decide +kernel
theorem k_12_74 : COD 12 74 = some (.goto 4, 3, 78, 0, 0, 0) := by decide +kernel
theorem k_12_77 : COD 12 77 = some (.iconst 0, 1, 0, 0, 0, 0) := by decide +kernel
theorem k_12_78 : COD 12 78 = some (.i2l, 1, 0, 0, 0, 0) := by decide +kernel
theorem k_12_79 : COD 12 79 = some (.ladd, 1, 0, 0, 0, 0) := by decide +kernel
theorem k_12_80 : COD 12 80 = some (.lstore_n 3, 1, 0, 0, 0, 0) := by decide +kernel
theorem k_12_81 : COD 12 81 = some (.lload_n 3, 1, 0, 0, 0, 0) := by decide +kernel
theorem k_12_82 : COD 12 82 = some (.ldc2_w 73, 3, 0, 0, 701, 0) := by decide +kernel
theorem k_12_85 : COD 12 85 = some (.lmul, 1, 0, 0, 0, 0) := by decide +kernel
theorem k_12_86 : COD 12 86 = some (.aload_n 0, 1, 0, 0, 0, 0) := by decide +kernel
theorem k_12_87 : COD 12 87 = some (.getfield 39, 3, 0, 7, 203, 0) := by decide +kernel
theorem k_12_90 : COD 12 90 = some (.ifCond .eq 10, 3, 100, 0, 0, 0) := by decide +kernel
theorem k_12_93 : COD 12 93 = some (.aload_n 0, 1, 0, 0, 0, 0) := by decide +kernel
theorem k_12_94 : COD 12 94 = some (.getfield 43, 3, 0, 8, 206, 0) := by decide +kernel
theorem k_12_97 : COD 12 97 = some (.goto 4, 3, 101, 0, 0, 0) := by decide +kernel
theorem k_12_100 : COD 12 100 = some (.iconst 0, 1, 0, 0, 0, 0) := by decide +kernel
theorem k_12_101 : COD 12 101 = some (.i2l, 1, 0, 0, 0, 0) := by decide +kernel
theorem k_12_102 : COD 12 102 = some (.ladd, 1, 0, 0, 0, 0) := by decide +kernel
theorem k_12_103 : COD 12 103 = some (.lstore_n 3, 1, 0, 0, 0, 0) := by decide +kernel
theorem k_12_104 : COD 12 104 = some (.lload_n 3, 1, 0, 0, 0, 0) := by decide +kernel
theorem k_12_105 : COD 12 105 = some (.lreturn, 1, 0, 0, 0, 0) := by decide +kernel
theorem k_13_0 : COD 13 0 = some (.aload_n 0, 1, 0, 0, 0, 0) := by decide +kernel
theorem k_13_1 : COD 13 1 = some (.invokespecial 3, 3, 1000, 0, 140, 0) := by decide +kernel
theorem k_13_4 : COD 13 4 = some (.aload_n 0, 1, 0, 0, 0, 0) := by decide +kernel
theorem k_13_5 : COD 13 5 = some (.aload_n 1, 1, 0, 0, 0, 0) := by decide +kernel
theorem k_13_6 : COD 13 6 = some (.putfield 9, 3, 1, 0, 141, 0) := by decide +kernel
theorem k_13_9 : COD 13 9 = some (.aload_n 0, 1, 0, 0, 0, 0) := by decide +kernel
theorem k_13_10 : COD 13 10 = some (.aload_n 2, 1, 0, 0, 0, 0) := by decide +kernel
theorem k_13_11 : COD 13 11 = some (.putfield 15, 3, 1, 1, 142, 0) := by decide +kernel
theorem k_13_14 : COD 13 14 = some (.return_, 1, 0, 0, 0, 0) := by decide +kernel
theorem k_14_0 : COD 14 0 = some (.aload_n 0, 1, 0, 0, 0, 0) := by decide +kernel
theorem k_14_1 : COD 14 1 = some (.getfield 15, 3, 1, 1, 142, 0) := by decide +kernel
theorem k_14_4 : COD 14 4 = some (.invokevirtual 19, 3, 29, 0, 937, 2) := by decide +kernel
theorem k_14_7 : COD 14 7 = some (.aload_n 0, 1, 0, 0, 0, 0) := by decide +kernel
theorem k_14_8 : COD 14 8 = some (.getfield 9, 3, 1, 0, 141, 0) := by decide +kernel
theorem k_14_11 : COD 14 11 = some (.bipush (-3), 2, 0, 0, 0, 0) := by decide +kernel
theorem k_14_13 : COD 14 13 = some (.invokevirtual 24, 3, 52, 1, 938, 4) := by decide +kernel
theorem k_14_16 : COD 14 16 = some (.ifCond .eq 12, 3, 28, 0, 0, 0) := by decide +kernel
theorem k_14_19 : COD 14 19 = some (.aload_n 0, 1, 0, 0, 0, 0) := by decide +kernel
theorem k_14_20 : COD 14 20 = some (.invokevirtual 30, 3, 15, 0, 946, 1) := by decide +kernel
theorem k_14_23 : COD 14 23 = some (.ifCond .ne 5, 3, 28, 0, 0, 0) := by decide +kernel
theorem k_14_26 : COD 14 26 = some (.iconst 0, 1, 0, 0, 0, 0) := by decide +kernel
theorem k_14_27 : COD 14 27 = some (.ireturn, 1, 0, 0, 0, 1) := by decide +kernel
theorem k_14_28 : COD 14 28 = some (.iconst 0, 1, 0, 0, 0, 0) := by decide +kernel
theorem k_14_29 : COD 14 29 = some (.istore_n 1, 1, 0, 0, 0, 0) := by decide +kernel
theorem k_14_30 : COD 14 30 = some (.iload_n 1, 1, 0, 0, 0, 0) := by decide +kernel
theorem k_14_31 : COD 14 31 = some (.sipush 400, 3, 0, 0, 0, 0) := by decide +kernel
theorem k_14_34 : COD 14 34 = some (.if_icmp .ge 31, 3, 65, 0, 0, 0) := by decide +kernel
theorem k_14_37 : COD 14 37 = some (.aload_n 0, 1, 0, 0, 0, 0) := by decide +kernel
theorem k_14_38 : COD 14 38 = some (.getfield 9, 3, 1, 0, 141, 0) := by decide +kernel
theorem k_14_41 : COD 14 41 = some (.invokevirtual 34, 3, 49, 0, 950, 4) := by decide +kernel
theorem k_14_44 : COD 14 44 = some (.invokestatic 38, 3, 25, 1, 963, 1) := by decide +kernel
theorem k_14_47 : COD 14 47 = some (.ifCond .eq 18, 3, 65, 0, 0, 0) := by decide +kernel
theorem k_14_50 : COD 14 50 = some (.aload_n 0, 1, 0, 0, 0, 0) := by decide +kernel
theorem k_14_51 : COD 14 51 = some (.invokevirtual 41, 3, 16, 0, 964, 1) := by decide +kernel
theorem k_14_54 : COD 14 54 = some (.ifCond .ne 5, 3, 59, 0, 0, 0) := by decide +kernel
theorem k_14_57 : COD 14 57 = some (.iconst 0, 1, 0, 0, 0, 0) := by decide +kernel
theorem k_14_58 : COD 14 58 = some (.ireturn, 1, 0, 0, 0, 1) := by decide +kernel
theorem k_14_59 : COD 14 59 = some (.iinc 1 1, 3, 0, 0, 0, 0) := by decide +kernel
theorem k_14_62 : COD 14 62 = some (.goto (-32), 3, 30, 0, 0, 0) := by decide +kernel
theorem k_14_65 : COD 14 65 = some (.aload_n 0, 1, 0, 0, 0, 0) := by decide +kernel
theorem k_14_66 : COD 14 66 = some (.getfield 9, 3, 1, 0, 141, 0) := by decide +kernel
theorem k_14_69 : COD 14 69 = some (.invokevirtual 34, 3, 49, 0, 950, 4) := by decide +kernel
theorem k_14_72 : COD 14 72 = some (.iconst (-1), 1, 0, 0, 0, 0) := by decide +kernel
theorem k_14_73 : COD 14 73 = some (.if_icmp .ne 7, 3, 80, 0, 0, 0) := by decide +kernel
theorem k_14_76 : COD 14 76 = some (.iconst 1, 1, 0, 0, 0, 0) := by decide +kernel
theorem k_14_77 : COD 14 77 = some (.goto 4, 3, 81, 0, 0, 0) := by decide +kernel
theorem k_14_80 : COD 14 80 = some (.iconst 0, 1, 0, 0, 0, 0) := by decide +kernel
theorem k_14_81 : COD 14 81 = some (.ireturn, 1, 0, 0, 0, 1) := by decide +kernel
theorem k_15_0 : COD 15 0 = some (.aload_n 0, 1, 0, 0, 0, 0) := by decide +kernel
theorem k_15_1 : COD 15 1 = some (.getfield 9, 3, 1, 0, 141, 0) := by decide +kernel
theorem k_15_4 : COD 15 4 = some (.invokevirtual 34, 3, 49, 0, 950, 4) := by decide +kernel
theorem k_15_7 : COD 15 7 = some (.ifCond .ge 5, 3, 12, 0, 0, 0) := by decide +kernel
theorem k_15_10 : COD 15 10 = some (.iconst 0, 1, 0, 0, 0, 0) := by decide +kernel
theorem k_15_11 : COD 15 11 = some (.ireturn, 1, 0, 0, 0, 1) := by decide +kernel
theorem k_15_12 : COD 15 12 = some (.aload_n 0, 1, 0, 0, 0, 0) := by decide +kernel
theorem k_15_13 : COD 15 13 = some (.getfield 15, 3, 1, 1, 142, 0) := by decide +kernel
theorem k_15_16 : COD 15 16 = some (.aload_n 0, 1, 0, 0, 0, 0) := by decide +kernel
theorem k_15_17 : COD 15 17 = some (.getfield 9, 3, 1, 0, 141, 0) := by decide +kernel
theorem k_15_20 : COD 15 20 = some (.invokevirtual 34, 3, 49, 0, 950, 4) := by decide +kernel
theorem k_15_23 : COD 15 23 = some (.aload_n 0, 1, 0, 0, 0, 0) := by decide +kernel
theorem k_15_24 : COD 15 24 = some (.getfield 9, 3, 1, 0, 141, 0) := by decide +kernel
theorem k_15_27 : COD 15 27 = some (.invokevirtual 44, 3, 50, 0, 951, 4) := by decide +kernel
theorem k_15_30 : COD 15 30 = some (.invokevirtual 47, 3, 31, 2, 955, 2) := by decide +kernel
theorem k_15_33 : COD 15 33 = some (.aload_n 0, 1, 0, 0, 0, 0) := by decide +kernel
theorem k_15_34 : COD 15 34 = some (.getfield 9, 3, 1, 0, 141, 0) := by decide +kernel
theorem k_15_37 : COD 15 37 = some (.invokevirtual 51, 3, 51, 0, 959, 4) := by decide +kernel
theorem k_15_40 : COD 15 40 = some (.aload_n 0, 1, 0, 0, 0, 0) := by decide +kernel
theorem k_15_41 : COD 15 41 = some (.getfield 9, 3, 1, 0, 141, 0) := by decide +kernel
theorem k_15_44 : COD 15 44 = some (.bipush (-11), 2, 0, 0, 0, 0) := by decide +kernel
theorem k_15_46 : COD 15 46 = some (.invokevirtual 24, 3, 52, 1, 938, 4) := by decide +kernel
theorem k_15_49 : COD 15 49 = some (.ireturn, 1, 0, 0, 0, 1) := by decide +kernel
theorem k_16_0 : COD 16 0 = some (.aload_n 0, 1, 0, 0, 0, 0) := by decide +kernel
theorem k_16_1 : COD 16 1 = some (.getfield 9, 3, 1, 0, 141, 0) := by decide +kernel
theorem k_16_4 : COD 16 4 = some (.invokevirtual 34, 3, 49, 0, 950, 4) := by decide +kernel
theorem k_16_7 : COD 16 7 = some (.istore_n 1, 1, 0, 0, 0, 0) := by decide +kernel
theorem k_16_8 : COD 16 8 = some (.aload_n 0, 1, 0, 0, 0, 0) := by decide +kernel
theorem k_16_9 : COD 16 9 = some (.getfield 15, 3, 1, 1, 142, 0) := by decide +kernel
theorem k_16_12 : COD 16 12 = some (.aload_n 0, 1, 0, 0, 0, 0) := by decide +kernel
theorem k_16_13 : COD 16 13 = some (.getfield 9, 3, 1, 0, 141, 0) := by decide +kernel
theorem k_16_16 : COD 16 16 = some (.invokevirtual 44, 3, 50, 0, 951, 4) := by decide +kernel
theorem k_16_19 : COD 16 19 = some (.invokevirtual 54, 3, 32, 1, 968, 2) := by decide +kernel
theorem k_16_22 : COD 16 22 = some (.aload_n 0, 1, 0, 0, 0, 0) := by decide +kernel
theorem k_16_23 : COD 16 23 = some (.getfield 9, 3, 1, 0, 141, 0) := by decide +kernel
theorem k_16_26 : COD 16 26 = some (.invokevirtual 51, 3, 51, 0, 959, 4) := by decide +kernel
theorem k_16_29 : COD 16 29 = some (.iload_n 1, 1, 0, 0, 0, 0) := by decide +kernel
theorem k_16_30 : COD 16 30 = some (.bipush (-15), 2, 0, 0, 0, 0) := by decide +kernel
theorem k_16_32 : COD 16 32 = some (.if_icmp .ne 14, 3, 46, 0, 0, 0) := by decide +kernel
theorem k_16_35 : COD 16 35 = some (.aload_n 0, 1, 0, 0, 0, 0) := by decide +kernel
theorem k_16_36 : COD 16 36 = some (.getfield 15, 3, 1, 1, 142, 0) := by decide +kernel
theorem k_16_39 : COD 16 39 = some (.iconst 0, 1, 0, 0, 0, 0) := by decide +kernel
theorem k_16_40 : COD 16 40 = some (.invokevirtual 58, 3, 33, 1, 972, 2) := by decide +kernel
theorem k_16_43 : COD 16 43 = some (.goto 14, 3, 57, 0, 0, 0) := by decide +kernel
theorem k_16_46 : COD 16 46 = some (.aload_n 0, 1, 0, 0, 0, 0) := by decide +kernel
theorem k_16_47 : COD 16 47 = some (.iconst 2, 1, 0, 0, 0, 0) := by decide +kernel
theorem k_16_48 : COD 16 48 = some (.iconst 0, 1, 0, 0, 0, 0) := by decide +kernel
theorem k_16_49 : COD 16 49 = some (.invokevirtual 61, 3, 17, 2, 976, 1) := by decide +kernel
theorem k_16_52 : COD 16 52 = some (.ifCond .ne 5, 3, 57, 0, 0, 0) := by decide +kernel
theorem k_16_55 : COD 16 55 = some (.iconst 0, 1, 0, 0, 0, 0) := by decide +kernel
theorem k_16_56 : COD 16 56 = some (.ireturn, 1, 0, 0, 0, 1) := by decide +kernel
theorem k_16_57 : COD 16 57 = some (.aload_n 0, 1, 0, 0, 0, 0) := by decide +kernel
theorem k_16_58 : COD 16 58 = some (.getfield 9, 3, 1, 0, 141, 0) := by decide +kernel
theorem k_16_61 : COD 16 61 = some (.bipush (-4), 2, 0, 0, 0, 0) := by decide +kernel
theorem k_16_63 : COD 16 63 = some (.invokevirtual 24, 3, 52, 1, 938, 4) := by decide +kernel
theorem k_16_66 : COD 16 66 = some (.ifCond .eq 33, 3, 99, 0, 0, 0) := by decide +kernel
theorem k_16_69 : COD 16 69 = some (.aload_n 0, 1, 0, 0, 0, 0) := by decide +kernel
theorem k_16_70 : COD 16 70 = some (.iconst 2, 1, 0, 0, 0, 0) := by decide +kernel
theorem k_16_71 : COD 16 71 = some (.iconst 0, 1, 0, 0, 0, 0) := by decide +kernel
theorem k_16_72 : COD 16 72 = some (.invokevirtual 61, 3, 17, 2, 976, 1) := by decide +kernel
theorem k_16_75 : COD 16 75 = some (.ifCond .eq 24, 3, 99, 0, 0, 0) := by decide +kernel
theorem k_16_78 : COD 16 78 = some (.aload_n 0, 1, 0, 0, 0, 0) := by decide +kernel
theorem k_16_79 : COD 16 79 = some (.getfield 9, 3, 1, 0, 141, 0) := by decide +kernel
theorem k_16_82 : COD 16 82 = some (.bipush (-5), 2, 0, 0, 0, 0) := by decide +kernel
theorem k_16_84 : COD 16 84 = some (.invokevirtual 24, 3, 52, 1, 938, 4) := by decide +kernel
theorem k_16_87 : COD 16 87 = some (.ifCond .eq 12, 3, 99, 0, 0, 0) := by decide +kernel
theorem k_16_90 : COD 16 90 = some (.aload_n 0, 1, 0, 0, 0, 0) := by decide +kernel
theorem k_16_91 : COD 16 91 = some (.iconst 2, 1, 0, 0, 0, 0) := by decide +kernel
theorem k_16_92 : COD 16 92 = some (.iconst 0, 1, 0, 0, 0, 0) := by decide +kernel
theorem k_16_93 : COD 16 93 = some (.invokevirtual 61, 3, 17, 2, 976, 1) := by decide +kernel
theorem k_16_96 : COD 16 96 = some (.ifCond .ne 5, 3, 101, 0, 0, 0) := by decide +kernel
theorem k_16_99 : COD 16 99 = some (.iconst 0, 1, 0, 0, 0, 0) := by decide +kernel
theorem k_16_100 : COD 16 100 = some (.ireturn, 1, 0, 0, 0, 1) := by decide +kernel
theorem k_16_101 : COD 16 101 = some (.aload_n 0, 1, 0, 0, 0, 0) := by decide +kernel
theorem k_16_102 : COD 16 102 = some (.getfield 9, 3, 1, 0, 141, 0) := by decide +kernel
theorem k_16_105 : COD 16 105 = some (.bipush (-6), 2, 0, 0, 0, 0) := by decide +kernel
theorem k_16_107 : COD 16 107 = some (.invokevirtual 24, 3, 52, 1, 938, 4) := by decide +kernel
theorem k_16_110 : COD 16 110 = some (.ifCond .ne 14, 3, 124, 0, 0, 0) := by decide +kernel
theorem k_16_113 : COD 16 113 = some (.aload_n 0, 1, 0, 0, 0, 0) := by decide +kernel
theorem k_16_114 : COD 16 114 = some (.getfield 15, 3, 1, 1, 142, 0) := by decide +kernel
theorem k_16_117 : COD 16 117 = some (.iconst 1, 1, 0, 0, 0, 0) := by decide +kernel
theorem k_16_118 : COD 16 118 = some (.invokevirtual 58, 3, 33, 1, 972, 2) := by decide +kernel
theorem k_16_121 : COD 16 121 = some (.goto 14, 3, 135, 0, 0, 0) := by decide +kernel
theorem k_16_124 : COD 16 124 = some (.aload_n 0, 1, 0, 0, 0, 0) := by decide +kernel
theorem k_16_125 : COD 16 125 = some (.iconst 0, 1, 0, 0, 0, 0) := by decide +kernel
theorem k_16_126 : COD 16 126 = some (.iconst 0, 1, 0, 0, 0, 0) := by decide +kernel
theorem k_16_127 : COD 16 127 = some (.invokevirtual 61, 3, 17, 2, 976, 1) := by decide +kernel
theorem k_16_130 : COD 16 130 = some (.ifCond .ne 5, 3, 135, 0, 0, 0) := by decide +kernel
theorem k_16_133 : COD 16 133 = some (.iconst 0, 1, 0, 0, 0, 0) := by decide +kernel
theorem k_16_134 : COD 16 134 = some (.ireturn, 1, 0, 0, 0, 1) := by decide +kernel
theorem k_16_135 : COD 16 135 = some (.aload_n 0, 1, 0, 0, 0, 0) := by decide +kernel
theorem k_16_136 : COD 16 136 = some (.getfield 15, 3, 1, 1, 142, 0) := by decide +kernel
theorem k_16_139 : COD 16 139 = some (.iload_n 1, 1, 0, 0, 0, 0) := by decide +kernel
theorem k_16_140 : COD 16 140 = some (.invokevirtual 58, 3, 33, 1, 972, 2) := by decide +kernel
theorem k_16_143 : COD 16 143 = some (.aload_n 0, 1, 0, 0, 0, 0) := by decide +kernel
theorem k_16_144 : COD 16 144 = some (.getfield 9, 3, 1, 0, 141, 0) := by decide +kernel
theorem k_16_147 : COD 16 147 = some (.bipush (-11), 2, 0, 0, 0, 0) := by decide +kernel
theorem k_16_149 : COD 16 149 = some (.invokevirtual 24, 3, 52, 1, 938, 4) := by decide +kernel
theorem k_16_152 : COD 16 152 = some (.ireturn, 1, 0, 0, 0, 1) := by decide +kernel
theorem k_17_0 : COD 17 0 = some (.aload_n 0, 1, 0, 0, 0, 0) := by decide +kernel
theorem k_17_1 : COD 17 1 = some (.iload_n 1, 1, 0, 0, 0, 0) := by decide +kernel
theorem k_17_2 : COD 17 2 = some (.iload_n 2, 1, 0, 0, 0, 0) := by decide +kernel
theorem k_17_3 : COD 17 3 = some (.invokevirtual 65, 3, 18, 2, 980, 1) := by decide +kernel
theorem k_17_6 : COD 17 6 = some (.ifCond .ne 5, 3, 11, 0, 0, 0) := by decide +kernel
theorem k_17_9 : COD 17 9 = some (.iconst 0, 1, 0, 0, 0, 0) := by decide +kernel
theorem k_17_10 : COD 17 10 = some (.ireturn, 1, 0, 0, 0, 1) := by decide +kernel
theorem k_17_11 : COD 17 11 = some (.iconst 0, 1, 0, 0, 0, 0) := by decide +kernel
theorem k_17_12 : COD 17 12 = some (.istore_n 3, 1, 0, 0, 0, 0) := by decide +kernel
theorem k_17_13 : COD 17 13 = some (.iload_n 3, 1, 0, 0, 0, 0) := by decide +kernel
theorem k_17_14 : COD 17 14 = some (.sipush 400, 3, 0, 0, 0, 0) := by decide +kernel
theorem k_17_17 : COD 17 17 = some (.if_icmp .ge 59, 3, 76, 0, 0, 0) := by decide +kernel
theorem k_17_20 : COD 17 20 = some (.iload_n 1, 1, 0, 0, 0, 0) := by decide +kernel
theorem k_17_21 : COD 17 21 = some (.aload_n 0, 1, 0, 0, 0, 0) := by decide +kernel
theorem k_17_22 : COD 17 22 = some (.getfield 9, 3, 1, 0, 141, 0) := by decide +kernel
theorem k_17_25 : COD 17 25 = some (.invokevirtual 34, 3, 49, 0, 950, 4) := by decide +kernel
theorem k_17_28 : COD 17 28 = some (.invokestatic 68, 3, 24, 2, 1008, 1) := by decide +kernel
theorem k_17_31 : COD 17 31 = some (.ifCond .eq 45, 3, 76, 0, 0, 0) := by decide +kernel
theorem k_17_34 : COD 17 34 = some (.aload_n 0, 1, 0, 0, 0, 0) := by decide +kernel
theorem k_17_35 : COD 17 35 = some (.getfield 9, 3, 1, 0, 141, 0) := by decide +kernel
theorem k_17_38 : COD 17 38 = some (.invokevirtual 34, 3, 49, 0, 950, 4) := by decide +kernel
theorem k_17_41 : COD 17 41 = some (.istore 4, 2, 0, 0, 0, 0) := by decide +kernel
theorem k_17_43 : COD 17 43 = some (.aload_n 0, 1, 0, 0, 0, 0) := by decide +kernel
theorem k_17_44 : COD 17 44 = some (.getfield 9, 3, 1, 0, 141, 0) := by decide +kernel
theorem k_17_47 : COD 17 47 = some (.invokevirtual 51, 3, 51, 0, 959, 4) := by decide +kernel
theorem k_17_50 : COD 17 50 = some (.aload_n 0, 1, 0, 0, 0, 0) := by decide +kernel
theorem k_17_51 : COD 17 51 = some (.iload_n 1, 1, 0, 0, 0, 0) := by decide +kernel
theorem k_17_52 : COD 17 52 = some (.iload_n 2, 1, 0, 0, 0, 0) := by decide +kernel
theorem k_17_53 : COD 17 53 = some (.invokevirtual 65, 3, 18, 2, 980, 1) := by decide +kernel
theorem k_17_56 : COD 17 56 = some (.ifCond .ne 5, 3, 61, 0, 0, 0) := by decide +kernel
theorem k_17_59 : COD 17 59 = some (.iconst 0, 1, 0, 0, 0, 0) := by decide +kernel
theorem k_17_60 : COD 17 60 = some (.ireturn, 1, 0, 0, 0, 1) := by decide +kernel
theorem k_17_61 : COD 17 61 = some (.aload_n 0, 1, 0, 0, 0, 0) := by decide +kernel
theorem k_17_62 : COD 17 62 = some (.getfield 15, 3, 1, 1, 142, 0) := by decide +kernel
theorem k_17_65 : COD 17 65 = some (.iload 4, 2, 0, 0, 0, 0) := by decide +kernel
theorem k_17_67 : COD 17 67 = some (.invokevirtual 58, 3, 33, 1, 972, 2) := by decide +kernel
theorem k_17_70 : COD 17 70 = some (.iinc 3 1, 3, 0, 0, 0, 0) := by decide +kernel
theorem k_17_73 : COD 17 73 = some (.goto (-60), 3, 13, 0, 0, 0) := by decide +kernel
theorem k_17_76 : COD 17 76 = some (.iconst 1, 1, 0, 0, 0, 0) := by decide +kernel
theorem k_17_77 : COD 17 77 = some (.ireturn, 1, 0, 0, 0, 1) := by decide +kernel
theorem k_18_0 : COD 18 0 = some (.iload_n 1, 1, 0, 0, 0, 0) := by decide +kernel
theorem k_18_1 : COD 18 1 = some (.tableswitch 47 0 2 #[27, 34, 40], 27, 0, 0, 0, 0) := by decide +kernel
theorem k_18_28 : COD 18 28 = some (.aload_n 0, 1, 0, 0, 0, 0) := by decide +kernel
theorem k_18_29 : COD 18 29 = some (.iconst 1, 1, 0, 0, 0, 0) := by decide +kernel
theorem k_18_30 : COD 18 30 = some (.iload_n 2, 1, 0, 0, 0, 0) := by decide +kernel
theorem k_18_31 : COD 18 31 = some (.invokevirtual 61, 3, 17, 2, 976, 1) := by decide +kernel
theorem k_18_34 : COD 18 34 = some (.ireturn, 1, 0, 0, 0, 1) := by decide +kernel
theorem k_18_35 : COD 18 35 = some (.aload_n 0, 1, 0, 0, 0, 0) := by decide +kernel
theorem k_18_36 : COD 18 36 = some (.iload_n 2, 1, 0, 0, 0, 0) := by decide +kernel
theorem k_18_37 : COD 18 37 = some (.invokevirtual 71, 3, 19, 1, 984, 1) := by decide +kernel
theorem k_18_40 : COD 18 40 = some (.ireturn, 1, 0, 0, 0, 1) := by decide +kernel
theorem k_18_41 : COD 18 41 = some (.aload_n 0, 1, 0, 0, 0, 0) := by decide +kernel
theorem k_18_42 : COD 18 42 = some (.iconst 3, 1, 0, 0, 0, 0) := by decide +kernel
theorem k_18_43 : COD 18 43 = some (.iload_n 2, 1, 0, 0, 0, 0) := by decide +kernel
theorem k_18_44 : COD 18 44 = some (.invokevirtual 61, 3, 17, 2, 976, 1) := by decide +kernel
theorem k_18_47 : COD 18 47 = some (.ireturn, 1, 0, 0, 0, 1) := by decide +kernel
theorem k_18_48 : COD 18 48 = some (.aload_n 0, 1, 0, 0, 0, 0) := by decide +kernel
theorem k_18_49 : COD 18 49 = some (.iload_n 2, 1, 0, 0, 0, 0) := by decide +kernel
theorem k_18_50 : COD 18 50 = some (.invokevirtual 74, 3, 20, 1, 999, 1) := by decide +kernel
theorem k_18_53 : COD 18 53 = some (.ireturn, 1, 0, 0, 0, 1) := by decide +kernel
theorem k_19_0 : COD 19 0 = some (.aload_n 0, 1, 0, 0, 0, 0) := by decide +kernel
theorem k_19_1 : COD 19 1 = some (.getfield 9, 3, 1, 0, 141, 0) := by decide +kernel
theorem k_19_4 : COD 19 4 = some (.invokevirtual 34, 3, 49, 0, 950, 4) := by decide +kernel
theorem k_19_7 : COD 19 7 = some (.bipush (-23), 2, 0, 0, 0, 0) := by decide +kernel
theorem k_19_9 : COD 19 9 = some (.if_icmp .ne 36, 3, 45, 0, 0, 0) := by decide +kernel
theorem k_19_12 : COD 19 12 = some (.aload_n 0, 1, 0, 0, 0, 0) := by decide +kernel
theorem k_19_13 : COD 19 13 = some (.iload_n 1, 1, 0, 0, 0, 0) := by decide +kernel
theorem k_19_14 : COD 19 14 = some (.invokevirtual 77, 3, 22, 1, 988, 1) := by decide +kernel
theorem k_19_17 : COD 19 17 = some (.ifCond .eq 26, 3, 43, 0, 0, 0) := by decide +kernel
theorem k_19_20 : COD 19 20 = some (.aload_n 0, 1, 0, 0, 0, 0) := by decide +kernel
theorem k_19_21 : COD 19 21 = some (.iload_n 1, 1, 0, 0, 0, 0) := by decide +kernel
theorem k_19_22 : COD 19 22 = some (.iconst 1, 1, 0, 0, 0, 0) := by decide +kernel
theorem k_19_23 : COD 19 23 = some (.iadd, 1, 0, 0, 0, 0) := by decide +kernel
theorem k_19_24 : COD 19 24 = some (.invokevirtual 71, 3, 19, 1, 984, 1) := by decide +kernel
theorem k_19_27 : COD 19 27 = some (.ifCond .eq 16, 3, 43, 0, 0, 0) := by decide +kernel
theorem k_19_30 : COD 19 30 = some (.aload_n 0, 1, 0, 0, 0, 0) := by decide +kernel
theorem k_19_31 : COD 19 31 = some (.bipush (-23), 2, 0, 0, 0, 0) := by decide +kernel
theorem k_19_33 : COD 19 33 = some (.invokevirtual 80, 3, 23, 1, 992, 1) := by decide +kernel
theorem k_19_36 : COD 19 36 = some (.ifCond .eq 7, 3, 43, 0, 0, 0) := by decide +kernel
theorem k_19_39 : COD 19 39 = some (.iconst 1, 1, 0, 0, 0, 0) := by decide +kernel
theorem k_19_40 : COD 19 40 = some (.goto 4, 3, 44, 0, 0, 0) := by decide +kernel
theorem k_19_43 : COD 19 43 = some (.iconst 0, 1, 0, 0, 0, 0) := by decide +kernel
theorem k_19_44 : COD 19 44 = some (.ireturn, 1, 0, 0, 0, 1) := by decide +kernel
theorem k_19_45 : COD 19 45 = some (.aload_n 0, 1, 0, 0, 0, 0) := by decide +kernel
theorem k_19_46 : COD 19 46 = some (.getfield 9, 3, 1, 0, 141, 0) := by decide +kernel
theorem k_19_49 : COD 19 49 = some (.invokevirtual 34, 3, 49, 0, 950, 4) := by decide +kernel
theorem k_19_52 : COD 19 52 = some (.bipush (-9), 2, 0, 0, 0, 0) := by decide +kernel
theorem k_19_54 : COD 19 54 = some (.if_icmp .ne 40, 3, 94, 0, 0, 0) := by decide +kernel
theorem k_19_57 : COD 19 57 = some (.aload_n 0, 1, 0, 0, 0, 0) := by decide +kernel
theorem k_19_58 : COD 19 58 = some (.iload_n 1, 1, 0, 0, 0, 0) := by decide +kernel
theorem k_19_59 : COD 19 59 = some (.invokevirtual 77, 3, 22, 1, 988, 1) := by decide +kernel
theorem k_19_62 : COD 19 62 = some (.ifCond .eq 30, 3, 92, 0, 0, 0) := by decide +kernel
theorem k_19_65 : COD 19 65 = some (.aload_n 0, 1, 0, 0, 0, 0) := by decide +kernel
theorem k_19_66 : COD 19 66 = some (.iconst 0, 1, 0, 0, 0, 0) := by decide +kernel
theorem k_19_67 : COD 19 67 = some (.iload_n 1, 1, 0, 0, 0, 0) := by decide +kernel
theorem k_19_68 : COD 19 68 = some (.iconst 1, 1, 0, 0, 0, 0) := by decide +kernel
theorem k_19_69 : COD 19 69 = some (.iadd, 1, 0, 0, 0, 0) := by decide +kernel
theorem k_19_70 : COD 19 70 = some (.invokevirtual 61, 3, 17, 2, 976, 1) := by decide +kernel
theorem k_19_73 : COD 19 73 = some (.ifCond .eq 19, 3, 92, 0, 0, 0) := by decide +kernel
theorem k_19_76 : COD 19 76 = some (.aload_n 0, 1, 0, 0, 0, 0) := by decide +kernel
theorem k_19_77 : COD 19 77 = some (.getfield 9, 3, 1, 0, 141, 0) := by decide +kernel
theorem k_19_80 : COD 19 80 = some (.bipush (-10), 2, 0, 0, 0, 0) := by decide +kernel
theorem k_19_82 : COD 19 82 = some (.invokevirtual 24, 3, 52, 1, 938, 4) := by decide +kernel
theorem k_19_85 : COD 19 85 = some (.ifCond .eq 7, 3, 92, 0, 0, 0) := by decide +kernel
theorem k_19_88 : COD 19 88 = some (.iconst 1, 1, 0, 0, 0, 0) := by decide +kernel
theorem k_19_89 : COD 19 89 = some (.goto 4, 3, 93, 0, 0, 0) := by decide +kernel
theorem k_19_92 : COD 19 92 = some (.iconst 0, 1, 0, 0, 0, 0) := by decide +kernel
theorem k_19_93 : COD 19 93 = some (.ireturn, 1, 0, 0, 0, 1) := by decide +kernel
theorem k_19_94 : COD 19 94 = some (.aload_n 0, 1, 0, 0, 0, 0) := by decide +kernel
theorem k_19_95 : COD 19 95 = some (.iconst 2, 1, 0, 0, 0, 0) := by decide +kernel
theorem k_19_96 : COD 19 96 = some (.iload_n 1, 1, 0, 0, 0, 0) := by decide +kernel
theorem k_19_97 : COD 19 97 = some (.invokevirtual 61, 3, 17, 2, 976, 1) := by decide +kernel
theorem k_19_100 : COD 19 100 = some (.ifCond .eq 16, 3, 116, 0, 0, 0) := by decide +kernel
theorem k_19_103 : COD 19 103 = some (.aload_n 0, 1, 0, 0, 0, 0) := by decide +kernel
theorem k_19_104 : COD 19 104 = some (.getfield 9, 3, 1, 0, 141, 0) := by decide +kernel
theorem k_19_107 : COD 19 107 = some (.invokevirtual 34, 3, 49, 0, 950, 4) := by decide +kernel
theorem k_19_110 : COD 19 110 = some (.invokestatic 82, 3, 26, 1, 996, 1) := by decide +kernel
theorem k_19_113 : COD 19 113 = some (.ifCond .ne 5, 3, 118, 0, 0, 0) := by decide +kernel
theorem k_19_116 : COD 19 116 = some (.iconst 0, 1, 0, 0, 0, 0) := by decide +kernel
theorem k_19_117 : COD 19 117 = some (.ireturn, 1, 0, 0, 0, 1) := by decide +kernel
theorem k_19_118 : COD 19 118 = some (.aload_n 0, 1, 0, 0, 0, 0) := by decide +kernel
theorem k_19_119 : COD 19 119 = some (.getfield 9, 3, 1, 0, 141, 0) := by decide +kernel
theorem k_19_122 : COD 19 122 = some (.invokevirtual 34, 3, 49, 0, 950, 4) := by decide +kernel
theorem k_19_125 : COD 19 125 = some (.istore_n 2, 1, 0, 0, 0, 0) := by decide +kernel
theorem k_19_126 : COD 19 126 = some (.aload_n 0, 1, 0, 0, 0, 0) := by decide +kernel
theorem k_19_127 : COD 19 127 = some (.getfield 9, 3, 1, 0, 141, 0) := by decide +kernel
theorem k_19_130 : COD 19 130 = some (.invokevirtual 51, 3, 51, 0, 959, 4) := by decide +kernel
theorem k_19_133 : COD 19 133 = some (.aload_n 0, 1, 0, 0, 0, 0) := by decide +kernel
theorem k_19_134 : COD 19 134 = some (.iconst 2, 1, 0, 0, 0, 0) := by decide +kernel
theorem k_19_135 : COD 19 135 = some (.iload_n 1, 1, 0, 0, 0, 0) := by decide +kernel
theorem k_19_136 : COD 19 136 = some (.invokevirtual 61, 3, 17, 2, 976, 1) := by decide +kernel
theorem k_19_139 : COD 19 139 = some (.ifCond .eq 15, 3, 154, 0, 0, 0) := by decide +kernel
theorem k_19_142 : COD 19 142 = some (.aload_n 0, 1, 0, 0, 0, 0) := by decide +kernel
theorem k_19_143 : COD 19 143 = some (.iload_n 2, 1, 0, 0, 0, 0) := by decide +kernel
theorem k_19_144 : COD 19 144 = some (.invokevirtual 80, 3, 23, 1, 992, 1) := by decide +kernel
theorem k_19_147 : COD 19 147 = some (.ifCond .eq 7, 3, 154, 0, 0, 0) := by decide +kernel
theorem k_19_150 : COD 19 150 = some (.iconst 1, 1, 0, 0, 0, 0) := by decide +kernel
theorem k_19_151 : COD 19 151 = some (.goto 4, 3, 155, 0, 0, 0) := by decide +kernel
theorem k_19_154 : COD 19 154 = some (.iconst 0, 1, 0, 0, 0, 0) := by decide +kernel
theorem k_19_155 : COD 19 155 = some (.ireturn, 1, 0, 0, 0, 1) := by decide +kernel
theorem k_20_0 : COD 20 0 = some (.aload_n 0, 1, 0, 0, 0, 0) := by decide +kernel
theorem k_20_1 : COD 20 1 = some (.getfield 9, 3, 1, 0, 141, 0) := by decide +kernel
theorem k_20_4 : COD 20 4 = some (.invokevirtual 34, 3, 49, 0, 950, 4) := by decide +kernel
theorem k_20_7 : COD 20 7 = some (.istore_n 2, 1, 0, 0, 0, 0) := by decide +kernel
theorem k_20_8 : COD 20 8 = some (.iload_n 2, 1, 0, 0, 0, 0) := by decide +kernel
theorem k_20_9 : COD 20 9 = some (.ifCond .ge 10, 3, 19, 0, 0, 0) := by decide +kernel
theorem k_20_12 : COD 20 12 = some (.iload_n 2, 1, 0, 0, 0, 0) := by decide +kernel
theorem k_20_13 : COD 20 13 = some (.invokestatic 85, 3, 27, 1, 1003, 1) := by decide +kernel
theorem k_20_16 : COD 20 16 = some (.ifCond .eq 16, 3, 32, 0, 0, 0) := by decide +kernel
theorem k_20_19 : COD 20 19 = some (.aload_n 0, 1, 0, 0, 0, 0) := by decide +kernel
theorem k_20_20 : COD 20 20 = some (.getfield 9, 3, 1, 0, 141, 0) := by decide +kernel
theorem k_20_23 : COD 20 23 = some (.invokevirtual 51, 3, 51, 0, 959, 4) := by decide +kernel
theorem k_20_26 : COD 20 26 = some (.aload_n 0, 1, 0, 0, 0, 0) := by decide +kernel
theorem k_20_27 : COD 20 27 = some (.iload_n 2, 1, 0, 0, 0, 0) := by decide +kernel
theorem k_20_28 : COD 20 28 = some (.invokevirtual 80, 3, 23, 1, 992, 1) := by decide +kernel
theorem k_20_31 : COD 20 31 = some (.ireturn, 1, 0, 0, 0, 1) := by decide +kernel
theorem k_20_32 : COD 20 32 = some (.iload_n 2, 1, 0, 0, 0, 0) := by decide +kernel
theorem k_20_33 : COD 20 33 = some (.lookupswitch 151 #[(-30, 51), (-28, 121), (-27, 121), (-22, 91), (-7, 84)], 51, 0, 0, 0, 0) := by decide +kernel
theorem k_20_84 : COD 20 84 = some (.aload_n 0, 1, 0, 0, 0, 0) := by decide +kernel
theorem k_20_85 : COD 20 85 = some (.iload_n 1, 1, 0, 0, 0, 0) := by decide +kernel
theorem k_20_86 : COD 20 86 = some (.invokevirtual 77, 3, 22, 1, 988, 1) := by decide +kernel
theorem k_20_89 : COD 20 89 = some (.ifCond .eq 26, 3, 115, 0, 0, 0) := by decide +kernel
theorem k_20_92 : COD 20 92 = some (.aload_n 0, 1, 0, 0, 0, 0) := by decide +kernel
theorem k_20_93 : COD 20 93 = some (.iload_n 1, 1, 0, 0, 0, 0) := by decide +kernel
theorem k_20_94 : COD 20 94 = some (.iconst 1, 1, 0, 0, 0, 0) := by decide +kernel
theorem k_20_95 : COD 20 95 = some (.iadd, 1, 0, 0, 0, 0) := by decide +kernel
theorem k_20_96 : COD 20 96 = some (.invokevirtual 74, 3, 20, 1, 999, 1) := by decide +kernel
theorem k_20_99 : COD 20 99 = some (.ifCond .eq 16, 3, 115, 0, 0, 0) := by decide +kernel
theorem k_20_102 : COD 20 102 = some (.aload_n 0, 1, 0, 0, 0, 0) := by decide +kernel
theorem k_20_103 : COD 20 103 = some (.bipush (-24), 2, 0, 0, 0, 0) := by decide +kernel
theorem k_20_105 : COD 20 105 = some (.invokevirtual 80, 3, 23, 1, 992, 1) := by decide +kernel
theorem k_20_108 : COD 20 108 = some (.ifCond .eq 7, 3, 115, 0, 0, 0) := by decide +kernel
theorem k_20_111 : COD 20 111 = some (.iconst 1, 1, 0, 0, 0, 0) := by decide +kernel
theorem k_20_112 : COD 20 112 = some (.goto 4, 3, 116, 0, 0, 0) := by decide +kernel
theorem k_20_115 : COD 20 115 = some (.iconst 0, 1, 0, 0, 0, 0) := by decide +kernel
theorem k_20_116 : COD 20 116 = some (.ireturn, 1, 0, 0, 0, 1) := by decide +kernel
theorem k_20_117 : COD 20 117 = some (.aload_n 0, 1, 0, 0, 0, 0) := by decide +kernel
theorem k_20_118 : COD 20 118 = some (.iconst 1, 1, 0, 0, 0, 0) := by decide +kernel
theorem k_20_119 : COD 20 119 = some (.iload_n 1, 1, 0, 0, 0, 0) := by decide +kernel
theorem k_20_120 : COD 20 120 = some (.invokevirtual 88, 3, 21, 2, 1004, 1) := by decide +kernel
theorem k_20_123 : COD 20 123 = some (.ireturn, 1, 0, 0, 0, 1) := by decide +kernel
theorem k_20_124 : COD 20 124 = some (.aload_n 0, 1, 0, 0, 0, 0) := by decide +kernel
theorem k_20_125 : COD 20 125 = some (.getfield 9, 3, 1, 0, 141, 0) := by decide +kernel
theorem k_20_128 : COD 20 128 = some (.invokevirtual 51, 3, 51, 0, 959, 4) := by decide +kernel
theorem k_20_131 : COD 20 131 = some (.aload_n 0, 1, 0, 0, 0, 0) := by decide +kernel
theorem k_20_132 : COD 20 132 = some (.iconst 1, 1, 0, 0, 0, 0) := by decide +kernel
theorem k_20_133 : COD 20 133 = some (.iload_n 1, 1, 0, 0, 0, 0) := by decide +kernel
theorem k_20_134 : COD 20 134 = some (.invokevirtual 88, 3, 21, 2, 1004, 1) := by decide +kernel
theorem k_20_137 : COD 20 137 = some (.ifCond .eq 15, 3, 152, 0, 0, 0) := by decide +kernel
theorem k_20_140 : COD 20 140 = some (.aload_n 0, 1, 0, 0, 0, 0) := by decide +kernel
theorem k_20_141 : COD 20 141 = some (.iload_n 2, 1, 0, 0, 0, 0) := by decide +kernel
theorem k_20_142 : COD 20 142 = some (.invokevirtual 80, 3, 23, 1, 992, 1) := by decide +kernel
theorem k_20_145 : COD 20 145 = some (.ifCond .eq 7, 3, 152, 0, 0, 0) := by decide +kernel
theorem k_20_148 : COD 20 148 = some (.iconst 1, 1, 0, 0, 0, 0) := by decide +kernel
theorem k_20_149 : COD 20 149 = some (.goto 4, 3, 153, 0, 0, 0) := by decide +kernel
theorem k_20_152 : COD 20 152 = some (.iconst 0, 1, 0, 0, 0, 0) := by decide +kernel
theorem k_20_153 : COD 20 153 = some (.ireturn, 1, 0, 0, 0, 1) := by decide +kernel
theorem k_20_154 : COD 20 154 = some (.aload_n 0, 1, 0, 0, 0, 0) := by decide +kernel
theorem k_20_155 : COD 20 155 = some (.getfield 9, 3, 1, 0, 141, 0) := by decide +kernel
theorem k_20_158 : COD 20 158 = some (.invokevirtual 51, 3, 51, 0, 959, 4) := by decide +kernel
theorem k_20_161 : COD 20 161 = some (.aload_n 0, 1, 0, 0, 0, 0) := by decide +kernel
theorem k_20_162 : COD 20 162 = some (.iconst 2, 1, 0, 0, 0, 0) := by decide +kernel
theorem k_20_163 : COD 20 163 = some (.iload_n 1, 1, 0, 0, 0, 0) := by decide +kernel
theorem k_20_164 : COD 20 164 = some (.invokevirtual 88, 3, 21, 2, 1004, 1) := by decide +kernel
theorem k_20_167 : COD 20 167 = some (.ifCond .eq 15, 3, 182, 0, 0, 0) := by decide +kernel
theorem k_20_170 : COD 20 170 = some (.aload_n 0, 1, 0, 0, 0, 0) := by decide +kernel
theorem k_20_171 : COD 20 171 = some (.iload_n 2, 1, 0, 0, 0, 0) := by decide +kernel
theorem k_20_172 : COD 20 172 = some (.invokevirtual 80, 3, 23, 1, 992, 1) := by decide +kernel
theorem k_20_175 : COD 20 175 = some (.ifCond .eq 7, 3, 182, 0, 0, 0) := by decide +kernel
theorem k_20_178 : COD 20 178 = some (.iconst 1, 1, 0, 0, 0, 0) := by decide +kernel
theorem k_20_179 : COD 20 179 = some (.goto 4, 3, 183, 0, 0, 0) := by decide +kernel
theorem k_20_182 : COD 20 182 = some (.iconst 0, 1, 0, 0, 0, 0) := by decide +kernel
theorem k_20_183 : COD 20 183 = some (.ireturn, 1, 0, 0, 0, 1) := by decide +kernel
theorem k_20_184 : COD 20 184 = some (.iconst 0, 1, 0, 0, 0, 0) := by decide +kernel
theorem k_20_185 : COD 20 185 = some (.ireturn, 1, 0, 0, 0, 1) := by decide +kernel
theorem k_21_0 : COD 21 0 = some (.aload_n 0, 1, 0, 0, 0, 0) := by decide +kernel
theorem k_21_1 : COD 21 1 = some (.getfield 9, 3, 1, 0, 141, 0) := by decide +kernel
theorem k_21_4 : COD 21 4 = some (.invokevirtual 34, 3, 49, 0, 950, 4) := by decide +kernel
theorem k_21_7 : COD 21 7 = some (.bipush (-7), 2, 0, 0, 0, 0) := by decide +kernel
theorem k_21_9 : COD 21 9 = some (.if_icmp .ne 22, 3, 31, 0, 0, 0) := by decide +kernel
theorem k_21_12 : COD 21 12 = some (.aload_n 0, 1, 0, 0, 0, 0) := by decide +kernel
theorem k_21_13 : COD 21 13 = some (.iload_n 2, 1, 0, 0, 0, 0) := by decide +kernel
theorem k_21_14 : COD 21 14 = some (.invokevirtual 77, 3, 22, 1, 988, 1) := by decide +kernel
theorem k_21_17 : COD 21 17 = some (.ifCond .eq 14, 3, 31, 0, 0, 0) := by decide +kernel
theorem k_21_20 : COD 21 20 = some (.aload_n 0, 1, 0, 0, 0, 0) := by decide +kernel
theorem k_21_21 : COD 21 21 = some (.iconst 2, 1, 0, 0, 0, 0) := by decide +kernel
theorem k_21_22 : COD 21 22 = some (.iload_n 2, 1, 0, 0, 0, 0) := by decide +kernel
theorem k_21_23 : COD 21 23 = some (.iconst 1, 1, 0, 0, 0, 0) := by decide +kernel
theorem k_21_24 : COD 21 24 = some (.iadd, 1, 0, 0, 0, 0) := by decide +kernel
theorem k_21_25 : COD 21 25 = some (.invokevirtual 61, 3, 17, 2, 976, 1) := by decide +kernel
theorem k_21_28 : COD 21 28 = some (.ifCond .ne 5, 3, 33, 0, 0, 0) := by decide +kernel
theorem k_21_31 : COD 21 31 = some (.iconst 0, 1, 0, 0, 0, 0) := by decide +kernel
theorem k_21_32 : COD 21 32 = some (.ireturn, 1, 0, 0, 0, 1) := by decide +kernel
theorem k_21_33 : COD 21 33 = some (.iload_n 1, 1, 0, 0, 0, 0) := by decide +kernel
theorem k_21_34 : COD 21 34 = some (.iconst 2, 1, 0, 0, 0, 0) := by decide +kernel
theorem k_21_35 : COD 21 35 = some (.if_icmp .ne 28, 3, 63, 0, 0, 0) := by decide +kernel
theorem k_21_38 : COD 21 38 = some (.aload_n 0, 1, 0, 0, 0, 0) := by decide +kernel
theorem k_21_39 : COD 21 39 = some (.getfield 9, 3, 1, 0, 141, 0) := by decide +kernel
theorem k_21_42 : COD 21 42 = some (.bipush (-12), 2, 0, 0, 0, 0) := by decide +kernel
theorem k_21_44 : COD 21 44 = some (.invokevirtual 24, 3, 52, 1, 938, 4) := by decide +kernel
theorem k_21_47 : COD 21 47 = some (.ifCond .eq 14, 3, 61, 0, 0, 0) := by decide +kernel
theorem k_21_50 : COD 21 50 = some (.aload_n 0, 1, 0, 0, 0, 0) := by decide +kernel
theorem k_21_51 : COD 21 51 = some (.iconst 2, 1, 0, 0, 0, 0) := by decide +kernel
theorem k_21_52 : COD 21 52 = some (.iload_n 2, 1, 0, 0, 0, 0) := by decide +kernel
theorem k_21_53 : COD 21 53 = some (.iconst 1, 1, 0, 0, 0, 0) := by decide +kernel
theorem k_21_54 : COD 21 54 = some (.iadd, 1, 0, 0, 0, 0) := by decide +kernel
theorem k_21_55 : COD 21 55 = some (.invokevirtual 61, 3, 17, 2, 976, 1) := by decide +kernel
theorem k_21_58 : COD 21 58 = some (.ifCond .ne 5, 3, 63, 0, 0, 0) := by decide +kernel
theorem k_21_61 : COD 21 61 = some (.iconst 0, 1, 0, 0, 0, 0) := by decide +kernel
theorem k_21_62 : COD 21 62 = some (.ireturn, 1, 0, 0, 0, 1) := by decide +kernel
theorem k_21_63 : COD 21 63 = some (.aload_n 0, 1, 0, 0, 0, 0) := by decide +kernel
theorem k_21_64 : COD 21 64 = some (.getfield 9, 3, 1, 0, 141, 0) := by decide +kernel
theorem k_21_67 : COD 21 67 = some (.bipush (-8), 2, 0, 0, 0, 0) := by decide +kernel
theorem k_21_69 : COD 21 69 = some (.invokevirtual 24, 3, 52, 1, 938, 4) := by decide +kernel
theorem k_21_72 : COD 21 72 = some (.ireturn, 1, 0, 0, 0, 1) := by decide +kernel
theorem k_22_0 : COD 22 0 = some (.iload_n 1, 1, 0, 0, 0, 0) := by decide +kernel
theorem k_22_1 : COD 22 1 = some (.bipush 8, 2, 0, 0, 0, 0) := by decide +kernel
theorem k_22_3 : COD 22 3 = some (.if_icmp .lt 5, 3, 8, 0, 0, 0) := by decide +kernel
theorem k_22_6 : COD 22 6 = some (.iconst 0, 1, 0, 0, 0, 0) := by decide +kernel
theorem k_22_7 : COD 22 7 = some (.ireturn, 1, 0, 0, 0, 1) := by decide +kernel
theorem k_22_8 : COD 22 8 = some (.aload_n 0, 1, 0, 0, 0, 0) := by decide +kernel
theorem k_22_9 : COD 22 9 = some (.getfield 9, 3, 1, 0, 141, 0) := by decide +kernel
theorem k_22_12 : COD 22 12 = some (.invokevirtual 51, 3, 51, 0, 959, 4) := by decide +kernel
theorem k_22_15 : COD 22 15 = some (.iconst 1, 1, 0, 0, 0, 0) := by decide +kernel
theorem k_22_16 : COD 22 16 = some (.ireturn, 1, 0, 0, 0, 1) := by decide +kernel
theorem k_23_0 : COD 23 0 = some (.aload_n 0, 1, 0, 0, 0, 0) := by decide +kernel
theorem k_23_1 : COD 23 1 = some (.getfield 15, 3, 1, 1, 142, 0) := by decide +kernel
theorem k_23_4 : COD 23 4 = some (.iload_n 1, 1, 0, 0, 0, 0) := by decide +kernel
theorem k_23_5 : COD 23 5 = some (.invokevirtual 58, 3, 33, 1, 972, 2) := by decide +kernel
theorem k_23_8 : COD 23 8 = some (.iconst 1, 1, 0, 0, 0, 0) := by decide +kernel
theorem k_23_9 : COD 23 9 = some (.ireturn, 1, 0, 0, 0, 1) := by decide +kernel
theorem k_24_0 : COD 24 0 = some (.iload_n 0, 1, 0, 0, 0, 0) := by decide +kernel
theorem k_24_1 : COD 24 1 = some (.tableswitch 69 0 2 #[27, 39, 51], 27, 0, 0, 0, 0) := by decide +kernel
theorem k_24_28 : COD 24 28 = some (.iload_n 1, 1, 0, 0, 0, 0) := by decide +kernel
theorem k_24_29 : COD 24 29 = some (.bipush (-26), 2, 0, 0, 0, 0) := by decide +kernel
theorem k_24_31 : COD 24 31 = some (.if_icmp .ne 7, 3, 38, 0, 0, 0) := by decide +kernel
theorem k_24_34 : COD 24 34 = some (.iconst 1, 1, 0, 0, 0, 0) := by decide +kernel
theorem k_24_35 : COD 24 35 = some (.goto 4, 3, 39, 0, 0, 0) := by decide +kernel
theorem k_24_38 : COD 24 38 = some (.iconst 0, 1, 0, 0, 0, 0) := by decide +kernel
theorem k_24_39 : COD 24 39 = some (.ireturn, 1, 0, 0, 0, 1) := by decide +kernel
theorem k_24_40 : COD 24 40 = some (.iload_n 1, 1, 0, 0, 0, 0) := by decide +kernel
theorem k_24_41 : COD 24 41 = some (.bipush (-25), 2, 0, 0, 0, 0) := by decide +kernel
theorem k_24_43 : COD 24 43 = some (.if_icmp .ne 7, 3, 50, 0, 0, 0) := by decide +kernel
theorem k_24_46 : COD 24 46 = some (.iconst 1, 1, 0, 0, 0, 0) := by decide +kernel
theorem k_24_47 : COD 24 47 = some (.goto 4, 3, 51, 0, 0, 0) := by decide +kernel
theorem k_24_50 : COD 24 50 = some (.iconst 0, 1, 0, 0, 0, 0) := by decide +kernel
theorem k_24_51 : COD 24 51 = some (.ireturn, 1, 0, 0, 0, 1) := by decide +kernel
theorem k_24_52 : COD 24 52 = some (.iload_n 1, 1, 0, 0, 0, 0) := by decide +kernel
theorem k_24_53 : COD 24 53 = some (.bipush (-29), 2, 0, 0, 0, 0) := by decide +kernel
theorem k_24_55 : COD 24 55 = some (.if_icmp .eq 9, 3, 64, 0, 0, 0) := by decide +kernel
theorem k_24_58 : COD 24 58 = some (.iload_n 1, 1, 0, 0, 0, 0) := by decide +kernel
theorem k_24_59 : COD 24 59 = some (.bipush (-30), 2, 0, 0, 0, 0) := by decide +kernel
theorem k_24_61 : COD 24 61 = some (.if_icmp .ne 7, 3, 68, 0, 0, 0) := by decide +kernel
theorem k_24_64 : COD 24 64 = some (.iconst 1, 1, 0, 0, 0, 0) := by decide +kernel
theorem k_24_65 : COD 24 65 = some (.goto 4, 3, 69, 0, 0, 0) := by decide +kernel
theorem k_24_68 : COD 24 68 = some (.iconst 0, 1, 0, 0, 0, 0) := by decide +kernel
theorem k_24_69 : COD 24 69 = some (.ireturn, 1, 0, 0, 0, 1) := by decide +kernel
theorem k_24_70 : COD 24 70 = some (.iload_n 1, 1, 0, 0, 0, 0) := by decide +kernel
theorem k_24_71 : COD 24 71 = some (.bipush (-31), 2, 0, 0, 0, 0) := by decide +kernel
theorem k_24_73 : COD 24 73 = some (.if_icmp .eq 9, 3, 82, 0, 0, 0) := by decide +kernel
theorem k_24_76 : COD 24 76 = some (.iload_n 1, 1, 0, 0, 0, 0) := by decide +kernel
theorem k_24_77 : COD 24 77 = some (.bipush (-32), 2, 0, 0, 0, 0) := by decide +kernel
theorem k_24_79 : COD 24 79 = some (.if_icmp .ne 7, 3, 86, 0, 0, 0) := by decide +kernel
theorem k_24_82 : COD 24 82 = some (.iconst 1, 1, 0, 0, 0, 0) := by decide +kernel
theorem k_24_83 : COD 24 83 = some (.goto 4, 3, 87, 0, 0, 0) := by decide +kernel
theorem k_24_86 : COD 24 86 = some (.iconst 0, 1, 0, 0, 0, 0) := by decide +kernel
theorem k_24_87 : COD 24 87 = some (.ireturn, 1, 0, 0, 0, 1) := by decide +kernel
theorem k_25_0 : COD 25 0 = some (.iload_n 0, 1, 0, 0, 0, 0) := by decide +kernel
theorem k_25_1 : COD 25 1 = some (.bipush (-13), 2, 0, 0, 0, 0) := by decide +kernel
theorem k_25_3 : COD 25 3 = some (.if_icmp .eq 15, 3, 18, 0, 0, 0) := by decide +kernel
theorem k_25_6 : COD 25 6 = some (.iload_n 0, 1, 0, 0, 0, 0) := by decide +kernel
theorem k_25_7 : COD 25 7 = some (.bipush (-14), 2, 0, 0, 0, 0) := by decide +kernel
theorem k_25_9 : COD 25 9 = some (.if_icmp .eq 9, 3, 18, 0, 0, 0) := by decide +kernel
theorem k_25_12 : COD 25 12 = some (.iload_n 0, 1, 0, 0, 0, 0) := by decide +kernel
theorem k_25_13 : COD 25 13 = some (.bipush (-15), 2, 0, 0, 0, 0) := by decide +kernel
theorem k_25_15 : COD 25 15 = some (.if_icmp .ne 7, 3, 22, 0, 0, 0) := by decide +kernel
theorem k_25_18 : COD 25 18 = some (.iconst 1, 1, 0, 0, 0, 0) := by decide +kernel
theorem k_25_19 : COD 25 19 = some (.goto 4, 3, 23, 0, 0, 0) := by decide +kernel
theorem k_25_22 : COD 25 22 = some (.iconst 0, 1, 0, 0, 0, 0) := by decide +kernel
theorem k_25_23 : COD 25 23 = some (.ireturn, 1, 0, 0, 0, 1) := by decide +kernel
theorem k_26_0 : COD 26 0 = some (.iload_n 0, 1, 0, 0, 0, 0) := by decide +kernel
theorem k_26_1 : COD 26 1 = some (.bipush (-33), 2, 0, 0, 0, 0) := by decide +kernel
theorem k_26_3 : COD 26 3 = some (.if_icmp .gt 13, 3, 16, 0, 0, 0) := by decide +kernel
theorem k_26_6 : COD 26 6 = some (.iload_n 0, 1, 0, 0, 0, 0) := by decide +kernel
theorem k_26_7 : COD 26 7 = some (.bipush (-37), 2, 0, 0, 0, 0) := by decide +kernel
theorem k_26_9 : COD 26 9 = some (.if_icmp .lt 7, 3, 16, 0, 0, 0) := by decide +kernel
theorem k_26_12 : COD 26 12 = some (.iconst 1, 1, 0, 0, 0, 0) := by decide +kernel
theorem k_26_13 : COD 26 13 = some (.goto 4, 3, 17, 0, 0, 0) := by decide +kernel
theorem k_26_16 : COD 26 16 = some (.iconst 0, 1, 0, 0, 0, 0) := by decide +kernel
theorem k_26_17 : COD 26 17 = some (.ireturn, 1, 0, 0, 0, 1) := by decide +kernel
theorem k_27_0 : COD 27 0 = some (.iload_n 0, 1, 0, 0, 0, 0) := by decide +kernel
theorem k_27_1 : COD 27 1 = some (.bipush (-16), 2, 0, 0, 0, 0) := by decide +kernel
theorem k_27_3 : COD 27 3 = some (.if_icmp .gt 13, 3, 16, 0, 0, 0) := by decide +kernel
theorem k_27_6 : COD 27 6 = some (.iload_n 0, 1, 0, 0, 0, 0) := by decide +kernel
theorem k_27_7 : COD 27 7 = some (.bipush (-21), 2, 0, 0, 0, 0) := by decide +kernel
theorem k_27_9 : COD 27 9 = some (.if_icmp .lt 7, 3, 16, 0, 0, 0) := by decide +kernel
theorem k_27_12 : COD 27 12 = some (.iconst 1, 1, 0, 0, 0, 0) := by decide +kernel
theorem k_27_13 : COD 27 13 = some (.goto 4, 3, 17, 0, 0, 0) := by decide +kernel
theorem k_27_16 : COD 27 16 = some (.iconst 0, 1, 0, 0, 0, 0) := by decide +kernel
theorem k_27_17 : COD 27 17 = some (.ireturn, 1, 0, 0, 0, 1) := by decide +kernel
theorem k_28_0 : COD 28 0 = some (.aload_n 0, 1, 0, 0, 0, 0) := by decide +kernel
theorem k_28_1 : COD 28 1 = some (.invokespecial 3, 3, 1000, 0, 108, 0) := by decide +kernel
theorem k_28_4 : COD 28 4 = some (.aload_n 0, 1, 0, 0, 0, 0) := by decide +kernel
theorem k_28_5 : COD 28 5 = some (.sipush 400, 3, 0, 0, 0, 0) := by decide +kernel
theorem k_28_8 : COD 28 8 = some (.newarray .int, 2, 0, 0, 0, 0) := by decide +kernel
theorem k_28_10 : COD 28 10 = some (.putfield 9, 3, 2, 0, 113, 0) := by decide +kernel
theorem k_28_13 : COD 28 13 = some (.aload_n 0, 1, 0, 0, 0, 0) := by decide +kernel
theorem k_28_14 : COD 28 14 = some (.invokevirtual 15, 3, 29, 0, 109, 2) := by decide +kernel
theorem k_28_17 : COD 28 17 = some (.return_, 1, 0, 0, 0, 0) := by decide +kernel
theorem k_29_0 : COD 29 0 = some (.aload_n 0, 1, 0, 0, 0, 0) := by decide +kernel
theorem k_29_1 : COD 29 1 = some (.iconst 0, 1, 0, 0, 0, 0) := by decide +kernel
theorem k_29_2 : COD 29 2 = some (.putfield 18, 3, 2, 1, 114, 0) := by decide +kernel
theorem k_29_5 : COD 29 5 = some (.aload_n 0, 1, 0, 0, 0, 0) := by decide +kernel
theorem k_29_6 : COD 29 6 = some (.iconst 0, 1, 0, 0, 0, 0) := by decide +kernel
theorem k_29_7 : COD 29 7 = some (.putfield 22, 3, 2, 2, 116, 0) := by decide +kernel
theorem k_29_10 : COD 29 10 = some (.aload_n 0, 1, 0, 0, 0, 0) := by decide +kernel
theorem k_29_11 : COD 29 11 = some (.iconst (-1), 1, 0, 0, 0, 0) := by decide +kernel
theorem k_29_12 : COD 29 12 = some (.putfield 25, 3, 2, 3, 118, 0) := by decide +kernel
theorem k_29_15 : COD 29 15 = some (.aload_n 0, 1, 0, 0, 0, 0) := by decide +kernel
theorem k_29_16 : COD 29 16 = some (.bipush 16, 2, 0, 0, 0, 0) := by decide +kernel
theorem k_29_18 : COD 29 18 = some (.putfield 28, 3, 2, 4, 119, 0) := by decide +kernel
theorem k_29_21 : COD 29 21 = some (.aload_n 0, 1, 0, 0, 0, 0) := by decide +kernel
theorem k_29_22 : COD 29 22 = some (.iconst 0, 1, 0, 0, 0, 0) := by decide +kernel
theorem k_29_23 : COD 29 23 = some (.putfield 31, 3, 2, 5, 121, 0) := by decide +kernel
theorem k_29_26 : COD 29 26 = some (.return_, 1, 0, 0, 0, 0) := by decide +kernel
theorem k_30_0 : COD 30 0 = some (.aload_n 0, 1, 0, 0, 0, 0) := by decide +kernel
theorem k_30_1 : COD 30 1 = some (.aload_n 1, 1, 0, 0, 0, 0) := by decide +kernel
theorem k_30_2 : COD 30 2 = some (.getfield 18, 3, 2, 1, 114, 0) := by decide +kernel
theorem k_30_5 : COD 30 5 = some (.putfield 18, 3, 2, 1, 114, 0) := by decide +kernel
theorem k_30_8 : COD 30 8 = some (.aload_n 0, 1, 0, 0, 0, 0) := by decide +kernel
theorem k_30_9 : COD 30 9 = some (.aload_n 1, 1, 0, 0, 0, 0) := by decide +kernel
theorem k_30_10 : COD 30 10 = some (.getfield 22, 3, 2, 2, 116, 0) := by decide +kernel
theorem k_30_13 : COD 30 13 = some (.putfield 22, 3, 2, 2, 116, 0) := by decide +kernel
theorem k_30_16 : COD 30 16 = some (.aload_n 0, 1, 0, 0, 0, 0) := by decide +kernel
theorem k_30_17 : COD 30 17 = some (.aload_n 1, 1, 0, 0, 0, 0) := by decide +kernel
theorem k_30_18 : COD 30 18 = some (.getfield 25, 3, 2, 3, 118, 0) := by decide +kernel
theorem k_30_21 : COD 30 21 = some (.putfield 25, 3, 2, 3, 118, 0) := by decide +kernel
theorem k_30_24 : COD 30 24 = some (.aload_n 0, 1, 0, 0, 0, 0) := by decide +kernel
theorem k_30_25 : COD 30 25 = some (.aload_n 1, 1, 0, 0, 0, 0) := by decide +kernel
theorem k_30_26 : COD 30 26 = some (.getfield 28, 3, 2, 4, 119, 0) := by decide +kernel
theorem k_30_29 : COD 30 29 = some (.putfield 28, 3, 2, 4, 119, 0) := by decide +kernel
theorem k_30_32 : COD 30 32 = some (.aload_n 0, 1, 0, 0, 0, 0) := by decide +kernel
theorem k_30_33 : COD 30 33 = some (.aload_n 1, 1, 0, 0, 0, 0) := by decide +kernel
theorem k_30_34 : COD 30 34 = some (.getfield 31, 3, 2, 5, 121, 0) := by decide +kernel
theorem k_30_37 : COD 30 37 = some (.putfield 31, 3, 2, 5, 121, 0) := by decide +kernel
theorem k_30_40 : COD 30 40 = some (.iconst 0, 1, 0, 0, 0, 0) := by decide +kernel
theorem k_30_41 : COD 30 41 = some (.istore_n 2, 1, 0, 0, 0, 0) := by decide +kernel
theorem k_30_42 : COD 30 42 = some (.iload_n 2, 1, 0, 0, 0, 0) := by decide +kernel
theorem k_30_43 : COD 30 43 = some (.aload_n 0, 1, 0, 0, 0, 0) := by decide +kernel
theorem k_30_44 : COD 30 44 = some (.getfield 18, 3, 2, 1, 114, 0) := by decide +kernel
theorem k_30_47 : COD 30 47 = some (.if_icmp .ge 29, 3, 76, 0, 0, 0) := by decide +kernel
theorem k_30_50 : COD 30 50 = some (.iload_n 2, 1, 0, 0, 0, 0) := by decide +kernel
theorem k_30_51 : COD 30 51 = some (.aload_n 0, 1, 0, 0, 0, 0) := by decide +kernel
theorem k_30_52 : COD 30 52 = some (.getfield 9, 3, 2, 0, 113, 0) := by decide +kernel
theorem k_30_55 : COD 30 55 = some (.arraylength, 1, 0, 0, 0, 0) := by decide +kernel
theorem k_30_56 : COD 30 56 = some (.if_icmp .ge 20, 3, 76, 0, 0, 0) := by decide +kernel
theorem k_30_59 : COD 30 59 = some (.aload_n 0, 1, 0, 0, 0, 0) := by decide +kernel
theorem k_30_60 : COD 30 60 = some (.getfield 9, 3, 2, 0, 113, 0) := by decide +kernel
theorem k_30_63 : COD 30 63 = some (.iload_n 2, 1, 0, 0, 0, 0) := by decide +kernel
theorem k_30_64 : COD 30 64 = some (.aload_n 1, 1, 0, 0, 0, 0) := by decide +kernel
theorem k_30_65 : COD 30 65 = some (.iload_n 2, 1, 0, 0, 0, 0) := by decide +kernel
theorem k_30_66 : COD 30 66 = some (.invokevirtual 34, 3, 34, 1, 1028, 2) := by decide +kernel
theorem k_30_69 : COD 30 69 = some (.iastore, 1, 0, 0, 0, 0) := by decide +kernel
theorem k_30_70 : COD 30 70 = some (.iinc 2 1, 3, 0, 0, 0, 0) := by decide +kernel
theorem k_30_73 : COD 30 73 = some (.goto (-31), 3, 42, 0, 0, 0) := by decide +kernel
theorem k_30_76 : COD 30 76 = some (.return_, 1, 0, 0, 0, 0) := by decide +kernel
theorem k_31_0 : COD 31 0 = some (.aload_n 0, 1, 0, 0, 0, 0) := by decide +kernel
theorem k_31_1 : COD 31 1 = some (.iload_n 1, 1, 0, 0, 0, 0) := by decide +kernel
theorem k_31_2 : COD 31 2 = some (.putfield 28, 3, 2, 4, 119, 0) := by decide +kernel
theorem k_31_5 : COD 31 5 = some (.aload_n 0, 1, 0, 0, 0, 0) := by decide +kernel
theorem k_31_6 : COD 31 6 = some (.iload_n 2, 1, 0, 0, 0, 0) := by decide +kernel
theorem k_31_7 : COD 31 7 = some (.putfield 31, 3, 2, 5, 121, 0) := by decide +kernel
theorem k_31_10 : COD 31 10 = some (.return_, 1, 0, 0, 0, 0) := by decide +kernel
theorem k_32_0 : COD 32 0 = some (.aload_n 0, 1, 0, 0, 0, 0) := by decide +kernel
theorem k_32_1 : COD 32 1 = some (.getfield 22, 3, 2, 2, 116, 0) := by decide +kernel
theorem k_32_4 : COD 32 4 = some (.bipush 16, 2, 0, 0, 0, 0) := by decide +kernel
theorem k_32_6 : COD 32 6 = some (.if_icmp .ge 16, 3, 22, 0, 0, 0) := by decide +kernel
theorem k_32_9 : COD 32 9 = some (.aload_n 0, 1, 0, 0, 0, 0) := by decide +kernel
theorem k_32_10 : COD 32 10 = some (.dup, 1, 0, 0, 0, 0) := by decide +kernel
theorem k_32_11 : COD 32 11 = some (.getfield 22, 3, 2, 2, 116, 0) := by decide +kernel
theorem k_32_14 : COD 32 14 = some (.iconst 1, 1, 0, 0, 0, 0) := by decide +kernel
theorem k_32_15 : COD 32 15 = some (.iadd, 1, 0, 0, 0, 0) := by decide +kernel
theorem k_32_16 : COD 32 16 = some (.putfield 22, 3, 2, 2, 116, 0) := by decide +kernel
theorem k_32_19 : COD 32 19 = some (.goto 15, 3, 34, 0, 0, 0) := by decide +kernel
theorem k_32_22 : COD 32 22 = some (.aload_n 0, 1, 0, 0, 0, 0) := by decide +kernel
theorem k_32_23 : COD 32 23 = some (.getfield 25, 3, 2, 3, 118, 0) := by decide +kernel
theorem k_32_26 : COD 32 26 = some (.ifCond .ge 8, 3, 34, 0, 0, 0) := by decide +kernel
theorem k_32_29 : COD 32 29 = some (.aload_n 0, 1, 0, 0, 0, 0) := by decide +kernel
theorem k_32_30 : COD 32 30 = some (.iload_n 1, 1, 0, 0, 0, 0) := by decide +kernel
theorem k_32_31 : COD 32 31 = some (.putfield 25, 3, 2, 3, 118, 0) := by decide +kernel
theorem k_32_34 : COD 32 34 = some (.return_, 1, 0, 0, 0, 0) := by decide +kernel
theorem k_33_0 : COD 33 0 = some (.aload_n 0, 1, 0, 0, 0, 0) := by decide +kernel
theorem k_33_1 : COD 33 1 = some (.getfield 18, 3, 2, 1, 114, 0) := by decide +kernel
theorem k_33_4 : COD 33 4 = some (.ifCond .lt 35, 3, 39, 0, 0, 0) := by decide +kernel
theorem k_33_7 : COD 33 7 = some (.aload_n 0, 1, 0, 0, 0, 0) := by decide +kernel
theorem k_33_8 : COD 33 8 = some (.getfield 18, 3, 2, 1, 114, 0) := by decide +kernel
theorem k_33_11 : COD 33 11 = some (.aload_n 0, 1, 0, 0, 0, 0) := by decide +kernel
theorem k_33_12 : COD 33 12 = some (.getfield 9, 3, 2, 0, 113, 0) := by decide +kernel
theorem k_33_15 : COD 33 15 = some (.arraylength, 1, 0, 0, 0, 0) := by decide +kernel
theorem k_33_16 : COD 33 16 = some (.if_icmp .ge 23, 3, 39, 0, 0, 0) := by decide +kernel
theorem k_33_19 : COD 33 19 = some (.aload_n 0, 1, 0, 0, 0, 0) := by decide +kernel
theorem k_33_20 : COD 33 20 = some (.getfield 9, 3, 2, 0, 113, 0) := by decide +kernel
theorem k_33_23 : COD 33 23 = some (.aload_n 0, 1, 0, 0, 0, 0) := by decide +kernel
theorem k_33_24 : COD 33 24 = some (.getfield 18, 3, 2, 1, 114, 0) := by decide +kernel
theorem k_33_27 : COD 33 27 = some (.iload_n 1, 1, 0, 0, 0, 0) := by decide +kernel
theorem k_33_28 : COD 33 28 = some (.iastore, 1, 0, 0, 0, 0) := by decide +kernel
theorem k_33_29 : COD 33 29 = some (.aload_n 0, 1, 0, 0, 0, 0) := by decide +kernel
theorem k_33_30 : COD 33 30 = some (.dup, 1, 0, 0, 0, 0) := by decide +kernel
theorem k_33_31 : COD 33 31 = some (.getfield 18, 3, 2, 1, 114, 0) := by decide +kernel
theorem k_33_34 : COD 33 34 = some (.iconst 1, 1, 0, 0, 0, 0) := by decide +kernel
theorem k_33_35 : COD 33 35 = some (.iadd, 1, 0, 0, 0, 0) := by decide +kernel
theorem k_33_36 : COD 33 36 = some (.putfield 18, 3, 2, 1, 114, 0) := by decide +kernel
theorem k_33_39 : COD 33 39 = some (.return_, 1, 0, 0, 0, 0) := by decide +kernel
theorem k_34_0 : COD 34 0 = some (.iload_n 1, 1, 0, 0, 0, 0) := by decide +kernel
theorem k_34_1 : COD 34 1 = some (.ifCond .lt 29, 3, 30, 0, 0, 0) := by decide +kernel
theorem k_34_4 : COD 34 4 = some (.iload_n 1, 1, 0, 0, 0, 0) := by decide +kernel
theorem k_34_5 : COD 34 5 = some (.aload_n 0, 1, 0, 0, 0, 0) := by decide +kernel
theorem k_34_6 : COD 34 6 = some (.getfield 18, 3, 2, 1, 114, 0) := by decide +kernel
theorem k_34_9 : COD 34 9 = some (.if_icmp .ge 21, 3, 30, 0, 0, 0) := by decide +kernel
theorem k_34_12 : COD 34 12 = some (.iload_n 1, 1, 0, 0, 0, 0) := by decide +kernel
theorem k_34_13 : COD 34 13 = some (.aload_n 0, 1, 0, 0, 0, 0) := by decide +kernel
theorem k_34_14 : COD 34 14 = some (.getfield 9, 3, 2, 0, 113, 0) := by decide +kernel
theorem k_34_17 : COD 34 17 = some (.arraylength, 1, 0, 0, 0, 0) := by decide +kernel
theorem k_34_18 : COD 34 18 = some (.if_icmp .ge 12, 3, 30, 0, 0, 0) := by decide +kernel
theorem k_34_21 : COD 34 21 = some (.aload_n 0, 1, 0, 0, 0, 0) := by decide +kernel
theorem k_34_22 : COD 34 22 = some (.getfield 9, 3, 2, 0, 113, 0) := by decide +kernel
theorem k_34_25 : COD 34 25 = some (.iload_n 1, 1, 0, 0, 0, 0) := by decide +kernel
theorem k_34_26 : COD 34 26 = some (.iaload, 1, 0, 0, 0, 0) := by decide +kernel
theorem k_34_27 : COD 34 27 = some (.goto 4, 3, 31, 0, 0, 0) := by decide +kernel
theorem k_34_30 : COD 34 30 = some (.iconst 0, 1, 0, 0, 0, 0) := by decide +kernel
theorem k_34_31 : COD 34 31 = some (.ireturn, 1, 0, 0, 0, 0) := by decide +kernel
theorem k_35_0 : COD 35 0 = some (.aload_n 0, 1, 0, 0, 0, 0) := by decide +kernel
theorem k_35_1 : COD 35 1 = some (.getfield 28, 3, 2, 4, 119, 0) := by decide +kernel
theorem k_35_4 : COD 35 4 = some (.iconst 2, 1, 0, 0, 0, 0) := by decide +kernel
theorem k_35_5 : COD 35 5 = some (.if_icmp .lt 12, 3, 17, 0, 0, 0) := by decide +kernel
theorem k_35_8 : COD 35 8 = some (.aload_n 0, 1, 0, 0, 0, 0) := by decide +kernel
theorem k_35_9 : COD 35 9 = some (.getfield 28, 3, 2, 4, 119, 0) := by decide +kernel
theorem k_35_12 : COD 35 12 = some (.bipush 32, 2, 0, 0, 0, 0) := by decide +kernel
theorem k_35_14 : COD 35 14 = some (.if_icmp .le 7, 3, 21, 0, 0, 0) := by decide +kernel
theorem k_35_17 : COD 35 17 = some (.iconst 1, 1, 0, 0, 0, 0) := by decide +kernel
theorem k_35_18 : COD 35 18 = some (.goto 4, 3, 22, 0, 0, 0) := by decide +kernel
theorem k_35_21 : COD 35 21 = some (.iconst 0, 1, 0, 0, 0, 0) := by decide +kernel
theorem k_35_22 : COD 35 22 = some (.ireturn, 1, 0, 0, 0, 1) := by decide +kernel
theorem k_36_0 : COD 36 0 = some (.aload_n 0, 1, 0, 0, 0, 0) := by decide +kernel
theorem k_36_1 : COD 36 1 = some (.invokevirtual 38, 3, 35, 0, 1015, 2) := by decide +kernel
theorem k_36_4 : COD 36 4 = some (.ifCond .eq 5, 3, 9, 0, 0, 0) := by decide +kernel
theorem k_36_7 : COD 36 7 = some (.iconst 5, 1, 0, 0, 0, 0) := by decide +kernel
theorem k_36_8 : COD 36 8 = some (.ireturn, 1, 0, 0, 0, 0) := by decide +kernel
theorem k_36_9 : COD 36 9 = some (.aload_n 0, 1, 0, 0, 0, 0) := by decide +kernel
theorem k_36_10 : COD 36 10 = some (.getfield 25, 3, 2, 3, 118, 0) := by decide +kernel
theorem k_36_13 : COD 36 13 = some (.ifCond .lt 7, 3, 20, 0, 0, 0) := by decide +kernel
theorem k_36_16 : COD 36 16 = some (.iconst 4, 1, 0, 0, 0, 0) := by decide +kernel
theorem k_36_17 : COD 36 17 = some (.goto 4, 3, 21, 0, 0, 0) := by decide +kernel
theorem k_36_20 : COD 36 20 = some (.iconst 0, 1, 0, 0, 0, 0) := by decide +kernel
theorem k_36_21 : COD 36 21 = some (.ireturn, 1, 0, 0, 0, 0) := by decide +kernel
theorem k_37_0 : COD 37 0 = some (.aload_n 0, 1, 0, 0, 0, 0) := by decide +kernel
theorem k_37_1 : COD 37 1 = some (.invokevirtual 38, 3, 35, 0, 1015, 2) := by decide +kernel
theorem k_37_4 : COD 37 4 = some (.ifCond .eq 10, 3, 14, 0, 0, 0) := by decide +kernel
theorem k_37_7 : COD 37 7 = some (.aload_n 0, 1, 0, 0, 0, 0) := by decide +kernel
theorem k_37_8 : COD 37 8 = some (.getfield 31, 3, 2, 5, 121, 0) := by decide +kernel
theorem k_37_11 : COD 37 11 = some (.goto 7, 3, 18, 0, 0, 0) := by decide +kernel
theorem k_37_14 : COD 37 14 = some (.aload_n 0, 1, 0, 0, 0, 0) := by decide +kernel
theorem k_37_15 : COD 37 15 = some (.getfield 25, 3, 2, 3, 118, 0) := by decide +kernel
theorem k_37_18 : COD 37 18 = some (.ireturn, 1, 0, 0, 0, 0) := by decide +kernel
theorem k_38_0 : COD 38 0 = some (.aload_n 0, 1, 0, 0, 0, 0) := by decide +kernel
theorem k_38_1 : COD 38 1 = some (.invokespecial 3, 3, 1000, 0, 71, 0) := by decide +kernel
theorem k_38_4 : COD 38 4 = some (.aload_n 0, 1, 0, 0, 0, 0) := by decide +kernel
theorem k_38_5 : COD 38 5 = some (.sipush 2000, 3, 0, 0, 0, 0) := by decide +kernel
theorem k_38_8 : COD 38 8 = some (.newarray .byte, 2, 0, 0, 0, 0) := by decide +kernel
theorem k_38_10 : COD 38 10 = some (.putfield 9, 3, 3, 0, 72, 0) := by decide +kernel
theorem k_38_13 : COD 38 13 = some (.return_, 1, 0, 0, 0, 0) := by decide +kernel
theorem k_39_0 : COD 39 0 = some (.aload_n 0, 1, 0, 0, 0, 0) := by decide +kernel
theorem k_39_1 : COD 39 1 = some (.getfield 15, 3, 3, 1, 73, 0) := by decide +kernel
theorem k_39_4 : COD 39 4 = some (.ireturn, 1, 0, 0, 0, 0) := by decide +kernel
theorem k_40_0 : COD 40 0 = some (.bipush 24, 2, 0, 0, 0, 0) := by decide +kernel
theorem k_40_2 : COD 40 2 = some (.istore_n 2, 1, 0, 0, 0, 0) := by decide +kernel
theorem k_40_3 : COD 40 3 = some (.iload_n 2, 1, 0, 0, 0, 0) := by decide +kernel
theorem k_40_4 : COD 40 4 = some (.ifCond .lt 51, 3, 55, 0, 0, 0) := by decide +kernel
theorem k_40_7 : COD 40 7 = some (.aload_n 0, 1, 0, 0, 0, 0) := by decide +kernel
theorem k_40_8 : COD 40 8 = some (.getfield 15, 3, 3, 1, 73, 0) := by decide +kernel
theorem k_40_11 : COD 40 11 = some (.ifCond .lt 38, 3, 49, 0, 0, 0) := by decide +kernel
theorem k_40_14 : COD 40 14 = some (.aload_n 0, 1, 0, 0, 0, 0) := by decide +kernel
theorem k_40_15 : COD 40 15 = some (.getfield 15, 3, 3, 1, 73, 0) := by decide +kernel
theorem k_40_18 : COD 40 18 = some (.aload_n 0, 1, 0, 0, 0, 0) := by decide +kernel
theorem k_40_19 : COD 40 19 = some (.getfield 9, 3, 3, 0, 72, 0) := by decide +kernel
theorem k_40_22 : COD 40 22 = some (.arraylength, 1, 0, 0, 0, 0) := by decide +kernel
theorem k_40_23 : COD 40 23 = some (.if_icmp .ge 26, 3, 49, 0, 0, 0) := by decide +kernel
theorem k_40_26 : COD 40 26 = some (.aload_n 0, 1, 0, 0, 0, 0) := by decide +kernel
theorem k_40_27 : COD 40 27 = some (.getfield 9, 3, 3, 0, 72, 0) := by decide +kernel
theorem k_40_30 : COD 40 30 = some (.aload_n 0, 1, 0, 0, 0, 0) := by decide +kernel
theorem k_40_31 : COD 40 31 = some (.getfield 15, 3, 3, 1, 73, 0) := by decide +kernel
theorem k_40_34 : COD 40 34 = some (.iload_n 1, 1, 0, 0, 0, 0) := by decide +kernel
theorem k_40_35 : COD 40 35 = some (.iload_n 2, 1, 0, 0, 0, 0) := by decide +kernel
theorem k_40_36 : COD 40 36 = some (.ishr, 1, 0, 0, 0, 0) := by decide +kernel
theorem k_40_37 : COD 40 37 = some (.i2b, 1, 0, 0, 0, 0) := by decide +kernel
theorem k_40_38 : COD 40 38 = some (.bastore, 1, 0, 0, 0, 0) := by decide +kernel
theorem k_40_39 : COD 40 39 = some (.aload_n 0, 1, 0, 0, 0, 0) := by decide +kernel
theorem k_40_40 : COD 40 40 = some (.dup, 1, 0, 0, 0, 0) := by decide +kernel
theorem k_40_41 : COD 40 41 = some (.getfield 15, 3, 3, 1, 73, 0) := by decide +kernel
theorem k_40_44 : COD 40 44 = some (.iconst 1, 1, 0, 0, 0, 0) := by decide +kernel
theorem k_40_45 : COD 40 45 = some (.iadd, 1, 0, 0, 0, 0) := by decide +kernel
theorem k_40_46 : COD 40 46 = some (.putfield 15, 3, 3, 1, 73, 0) := by decide +kernel
theorem k_40_49 : COD 40 49 = some (.iinc 2 (-8), 3, 0, 0, 0, 0) := by decide +kernel
theorem k_40_52 : COD 40 52 = some (.goto (-49), 3, 3, 0, 0, 0) := by decide +kernel
theorem k_40_55 : COD 40 55 = some (.return_, 1, 0, 0, 0, 0) := by decide +kernel
theorem k_41_0 : COD 41 0 = some (.iload_n 1, 1, 0, 0, 0, 0) := by decide +kernel
theorem k_41_1 : COD 41 1 = some (.ifCond .lt 16, 3, 17, 0, 0, 0) := by decide +kernel
theorem k_41_4 : COD 41 4 = some (.iload_n 1, 1, 0, 0, 0, 0) := by decide +kernel
theorem k_41_5 : COD 41 5 = some (.aload_n 0, 1, 0, 0, 0, 0) := by decide +kernel
theorem k_41_6 : COD 41 6 = some (.getfield 15, 3, 3, 1, 73, 0) := by decide +kernel
theorem k_41_9 : COD 41 9 = some (.if_icmp .gt 8, 3, 17, 0, 0, 0) := by decide +kernel
theorem k_41_12 : COD 41 12 = some (.aload_n 0, 1, 0, 0, 0, 0) := by decide +kernel
theorem k_41_13 : COD 41 13 = some (.iload_n 1, 1, 0, 0, 0, 0) := by decide +kernel
theorem k_41_14 : COD 41 14 = some (.putfield 15, 3, 3, 1, 73, 0) := by decide +kernel
theorem k_41_17 : COD 41 17 = some (.return_, 1, 0, 0, 0, 0) := by decide +kernel
theorem k_42_0 : COD 42 0 = some (.iload_n 1, 1, 0, 0, 0, 0) := by decide +kernel
theorem k_42_1 : COD 42 1 = some (.ifCond .lt 20, 3, 21, 0, 0, 0) := by decide +kernel
theorem k_42_4 : COD 42 4 = some (.iload_n 1, 1, 0, 0, 0, 0) := by decide +kernel
theorem k_42_5 : COD 42 5 = some (.aload_n 0, 1, 0, 0, 0, 0) := by decide +kernel
theorem k_42_6 : COD 42 6 = some (.getfield 15, 3, 3, 1, 73, 0) := by decide +kernel
theorem k_42_9 : COD 42 9 = some (.if_icmp .ge 12, 3, 21, 0, 0, 0) := by decide +kernel
theorem k_42_12 : COD 42 12 = some (.iload_n 1, 1, 0, 0, 0, 0) := by decide +kernel
theorem k_42_13 : COD 42 13 = some (.aload_n 0, 1, 0, 0, 0, 0) := by decide +kernel
theorem k_42_14 : COD 42 14 = some (.getfield 9, 3, 3, 0, 72, 0) := by decide +kernel
theorem k_42_17 : COD 42 17 = some (.arraylength, 1, 0, 0, 0, 0) := by decide +kernel
theorem k_42_18 : COD 42 18 = some (.if_icmp .lt 5, 3, 23, 0, 0, 0) := by decide +kernel
theorem k_42_21 : COD 42 21 = some (.iconst (-1), 1, 0, 0, 0, 0) := by decide +kernel
theorem k_42_22 : COD 42 22 = some (.ireturn, 1, 0, 0, 0, 0) := by decide +kernel
theorem k_42_23 : COD 42 23 = some (.aload_n 0, 1, 0, 0, 0, 0) := by decide +kernel
theorem k_42_24 : COD 42 24 = some (.getfield 9, 3, 3, 0, 72, 0) := by decide +kernel
theorem k_42_27 : COD 42 27 = some (.iload_n 1, 1, 0, 0, 0, 0) := by decide +kernel
theorem k_42_28 : COD 42 28 = some (.baload, 1, 0, 0, 0, 0) := by decide +kernel
theorem k_42_29 : COD 42 29 = some (.sipush 255, 3, 0, 0, 0, 0) := by decide +kernel
theorem k_42_32 : COD 42 32 = some (.iand, 1, 0, 0, 0, 0) := by decide +kernel
theorem k_42_33 : COD 42 33 = some (.ireturn, 1, 0, 0, 0, 0) := by decide +kernel
theorem k_43_0 : COD 43 0 = some (.aload_n 0, 1, 0, 0, 0, 0) := by decide +kernel
theorem k_43_1 : COD 43 1 = some (.iload_n 1, 1, 0, 0, 0, 0) := by decide +kernel
theorem k_43_2 : COD 43 2 = some (.invokevirtual 19, 3, 42, 1, 896, 3) := by decide +kernel
theorem k_43_5 : COD 43 5 = some (.istore_n 2, 1, 0, 0, 0, 0) := by decide +kernel
theorem k_43_6 : COD 43 6 = some (.iload_n 2, 1, 0, 0, 0, 0) := by decide +kernel
theorem k_43_7 : COD 43 7 = some (.bipush 32, 2, 0, 0, 0, 0) := by decide +kernel
theorem k_43_9 : COD 43 9 = some (.if_icmp .eq 9, 3, 18, 0, 0, 0) := by decide +kernel
theorem k_43_12 : COD 43 12 = some (.iload_n 2, 1, 0, 0, 0, 0) := by decide +kernel
theorem k_43_13 : COD 43 13 = some (.bipush 10, 2, 0, 0, 0, 0) := by decide +kernel
theorem k_43_15 : COD 43 15 = some (.if_icmp .ne 7, 3, 22, 0, 0, 0) := by decide +kernel
theorem k_43_18 : COD 43 18 = some (.iconst 1, 1, 0, 0, 0, 0) := by decide +kernel
theorem k_43_19 : COD 43 19 = some (.goto 4, 3, 23, 0, 0, 0) := by decide +kernel
theorem k_43_22 : COD 43 22 = some (.iconst 0, 1, 0, 0, 0, 0) := by decide +kernel
theorem k_43_23 : COD 43 23 = some (.ireturn, 1, 0, 0, 0, 1) := by decide +kernel
theorem k_44_0 : COD 44 0 = some (.aload_n 0, 1, 0, 0, 0, 0) := by decide +kernel
theorem k_44_1 : COD 44 1 = some (.iload_n 1, 1, 0, 0, 0, 0) := by decide +kernel
theorem k_44_2 : COD 44 2 = some (.invokevirtual 19, 3, 42, 1, 896, 3) := by decide +kernel
theorem k_44_5 : COD 44 5 = some (.istore_n 2, 1, 0, 0, 0, 0) := by decide +kernel
theorem k_44_6 : COD 44 6 = some (.iload_n 2, 1, 0, 0, 0, 0) := by decide +kernel
theorem k_44_7 : COD 44 7 = some (.bipush 97, 2, 0, 0, 0, 0) := by decide +kernel
theorem k_44_9 : COD 44 9 = some (.if_icmp .lt 13, 3, 22, 0, 0, 0) := by decide +kernel
theorem k_44_12 : COD 44 12 = some (.iload_n 2, 1, 0, 0, 0, 0) := by decide +kernel
theorem k_44_13 : COD 44 13 = some (.bipush 122, 2, 0, 0, 0, 0) := by decide +kernel
theorem k_44_15 : COD 44 15 = some (.if_icmp .gt 7, 3, 22, 0, 0, 0) := by decide +kernel
theorem k_44_18 : COD 44 18 = some (.iconst 1, 1, 0, 0, 0, 0) := by decide +kernel
theorem k_44_19 : COD 44 19 = some (.goto 4, 3, 23, 0, 0, 0) := by decide +kernel
theorem k_44_22 : COD 44 22 = some (.iconst 0, 1, 0, 0, 0, 0) := by decide +kernel
theorem k_44_23 : COD 44 23 = some (.ireturn, 1, 0, 0, 0, 1) := by decide +kernel
theorem k_45_0 : COD 45 0 = some (.aload_n 0, 1, 0, 0, 0, 0) := by decide +kernel
theorem k_45_1 : COD 45 1 = some (.iload_n 1, 1, 0, 0, 0, 0) := by decide +kernel
theorem k_45_2 : COD 45 2 = some (.invokevirtual 19, 3, 42, 1, 896, 3) := by decide +kernel
theorem k_45_5 : COD 45 5 = some (.istore_n 2, 1, 0, 0, 0, 0) := by decide +kernel
theorem k_45_6 : COD 45 6 = some (.iload_n 2, 1, 0, 0, 0, 0) := by decide +kernel
theorem k_45_7 : COD 45 7 = some (.bipush 48, 2, 0, 0, 0, 0) := by decide +kernel
theorem k_45_9 : COD 45 9 = some (.if_icmp .lt 13, 3, 22, 0, 0, 0) := by decide +kernel
theorem k_45_12 : COD 45 12 = some (.iload_n 2, 1, 0, 0, 0, 0) := by decide +kernel
theorem k_45_13 : COD 45 13 = some (.bipush 57, 2, 0, 0, 0, 0) := by decide +kernel
theorem k_45_15 : COD 45 15 = some (.if_icmp .gt 7, 3, 22, 0, 0, 0) := by decide +kernel
theorem k_45_18 : COD 45 18 = some (.iconst 1, 1, 0, 0, 0, 0) := by decide +kernel
theorem k_45_19 : COD 45 19 = some (.goto 4, 3, 23, 0, 0, 0) := by decide +kernel
theorem k_45_22 : COD 45 22 = some (.iconst 0, 1, 0, 0, 0, 0) := by decide +kernel
theorem k_45_23 : COD 45 23 = some (.ireturn, 1, 0, 0, 0, 1) := by decide +kernel
theorem k_46_0 : COD 46 0 = some (.aload_n 1, 1, 0, 0, 0, 0) := by decide +kernel
theorem k_46_1 : COD 46 1 = some (.invokevirtual 23, 3, 227, 0, 923, 12) := by decide +kernel
theorem k_46_4 : COD 46 4 = some (.iload_n 3, 1, 0, 0, 0, 0) := by decide +kernel
theorem k_46_5 : COD 46 5 = some (.iload_n 2, 1, 0, 0, 0, 0) := by decide +kernel
theorem k_46_6 : COD 46 6 = some (.isub, 1, 0, 0, 0, 0) := by decide +kernel
theorem k_46_7 : COD 46 7 = some (.if_icmp .eq 5, 3, 12, 0, 0, 0) := by decide +kernel
theorem k_46_10 : COD 46 10 = some (.iconst 0, 1, 0, 0, 0, 0) := by decide +kernel
theorem k_46_11 : COD 46 11 = some (.ireturn, 1, 0, 0, 0, 1) := by decide +kernel
theorem k_46_12 : COD 46 12 = some (.iconst 0, 1, 0, 0, 0, 0) := by decide +kernel
theorem k_46_13 : COD 46 13 = some (.istore 4, 2, 0, 0, 0, 0) := by decide +kernel
theorem k_46_15 : COD 46 15 = some (.iload 4, 2, 0, 0, 0, 0) := by decide +kernel
theorem k_46_17 : COD 46 17 = some (.aload_n 1, 1, 0, 0, 0, 0) := by decide +kernel
theorem k_46_18 : COD 46 18 = some (.invokevirtual 23, 3, 227, 0, 923, 12) := by decide +kernel
theorem k_46_21 : COD 46 21 = some (.if_icmp .ge 28, 3, 49, 0, 0, 0) := by decide +kernel
theorem k_46_24 : COD 46 24 = some (.aload_n 0, 1, 0, 0, 0, 0) := by decide +kernel
theorem k_46_25 : COD 46 25 = some (.iload_n 2, 1, 0, 0, 0, 0) := by decide +kernel
theorem k_46_26 : COD 46 26 = some (.iload 4, 2, 0, 0, 0, 0) := by decide +kernel
theorem k_46_28 : COD 46 28 = some (.iadd, 1, 0, 0, 0, 0) := by decide +kernel
theorem k_46_29 : COD 46 29 = some (.invokevirtual 19, 3, 42, 1, 896, 3) := by decide +kernel
theorem k_46_32 : COD 46 32 = some (.aload_n 1, 1, 0, 0, 0, 0) := by decide +kernel
theorem k_46_33 : COD 46 33 = some (.iload 4, 2, 0, 0, 0, 0) := by decide +kernel
theorem k_46_35 : COD 46 35 = some (.invokevirtual 28, 3, 228, 1, 924, 12) := by decide +kernel
theorem k_46_38 : COD 46 38 = some (.if_icmp .eq 5, 3, 43, 0, 0, 0) := by decide +kernel
theorem k_46_41 : COD 46 41 = some (.iconst 0, 1, 0, 0, 0, 0) := by decide +kernel
theorem k_46_42 : COD 46 42 = some (.ireturn, 1, 0, 0, 0, 1) := by decide +kernel
theorem k_46_43 : COD 46 43 = some (.iinc 4 1, 3, 0, 0, 0, 0) := by decide +kernel
theorem k_46_46 : COD 46 46 = some (.goto (-31), 3, 15, 0, 0, 0) := by decide +kernel
theorem k_46_49 : COD 46 49 = some (.iconst 1, 1, 0, 0, 0, 0) := by decide +kernel
theorem k_46_50 : COD 46 50 = some (.ireturn, 1, 0, 0, 0, 1) := by decide +kernel
theorem k_47_0 : COD 47 0 = some (.aload_n 0, 1, 0, 0, 0, 0) := by decide +kernel
theorem k_47_1 : COD 47 1 = some (.invokespecial 3, 3, 1000, 0, 85, 0) := by decide +kernel
theorem k_47_4 : COD 47 4 = some (.aload_n 0, 1, 0, 0, 0, 0) := by decide +kernel
theorem k_47_5 : COD 47 5 = some (.sipush 401, 3, 0, 0, 0, 0) := by decide +kernel
theorem k_47_8 : COD 47 8 = some (.newarray .int, 2, 0, 0, 0, 0) := by decide +kernel
theorem k_47_10 : COD 47 10 = some (.putfield 9, 3, 4, 0, 86, 0) := by decide +kernel
theorem k_47_13 : COD 47 13 = some (.aload_n 0, 1, 0, 0, 0, 0) := by decide +kernel
theorem k_47_14 : COD 47 14 = some (.sipush 401, 3, 0, 0, 0, 0) := by decide +kernel
theorem k_47_17 : COD 47 17 = some (.newarray .int, 2, 0, 0, 0, 0) := by decide +kernel
theorem k_47_19 : COD 47 19 = some (.putfield 15, 3, 4, 1, 87, 0) := by decide +kernel
theorem k_47_22 : COD 47 22 = some (.return_, 1, 0, 0, 0, 0) := by decide +kernel
theorem k_48_0 : COD 48 0 = some (.aload_n 0, 1, 0, 0, 0, 0) := by decide +kernel
theorem k_48_1 : COD 48 1 = some (.iconst 0, 1, 0, 0, 0, 0) := by decide +kernel
theorem k_48_2 : COD 48 2 = some (.putfield 18, 3, 4, 2, 88, 0) := by decide +kernel
theorem k_48_5 : COD 48 5 = some (.aload_n 0, 1, 0, 0, 0, 0) := by decide +kernel
theorem k_48_6 : COD 48 6 = some (.iconst 0, 1, 0, 0, 0, 0) := by decide +kernel
theorem k_48_7 : COD 48 7 = some (.putfield 22, 3, 4, 3, 89, 0) := by decide +kernel
theorem k_48_10 : COD 48 10 = some (.aload_n 0, 1, 0, 0, 0, 0) := by decide +kernel
theorem k_48_11 : COD 48 11 = some (.iconst 0, 1, 0, 0, 0, 0) := by decide +kernel
theorem k_48_12 : COD 48 12 = some (.putfield 25, 3, 4, 4, 90, 0) := by decide +kernel
theorem k_48_15 : COD 48 15 = some (.iconst 0, 1, 0, 0, 0, 0) := by decide +kernel
theorem k_48_16 : COD 48 16 = some (.istore_n 2, 1, 0, 0, 0, 0) := by decide +kernel
theorem k_48_17 : COD 48 17 = some (.iload_n 2, 1, 0, 0, 0, 0) := by decide +kernel
theorem k_48_18 : COD 48 18 = some (.aload_n 0, 1, 0, 0, 0, 0) := by decide +kernel
theorem k_48_19 : COD 48 19 = some (.getfield 9, 3, 4, 0, 86, 0) := by decide +kernel
theorem k_48_22 : COD 48 22 = some (.arraylength, 1, 0, 0, 0, 0) := by decide +kernel
theorem k_48_23 : COD 48 23 = some (.if_icmp .ge 101, 3, 124, 0, 0, 0) := by decide +kernel
theorem k_48_26 : COD 48 26 = some (.iload_n 2, 1, 0, 0, 0, 0) := by decide +kernel
theorem k_48_27 : COD 48 27 = some (.aload_n 0, 1, 0, 0, 0, 0) := by decide +kernel
theorem k_48_28 : COD 48 28 = some (.getfield 15, 3, 4, 1, 87, 0) := by decide +kernel
theorem k_48_31 : COD 48 31 = some (.arraylength, 1, 0, 0, 0, 0) := by decide +kernel
theorem k_48_32 : COD 48 32 = some (.if_icmp .ge 92, 3, 124, 0, 0, 0) := by decide +kernel
theorem k_48_35 : COD 48 35 = some (.aload_n 1, 1, 0, 0, 0, 0) := by decide +kernel
theorem k_48_36 : COD 48 36 = some (.aload_n 0, 1, 0, 0, 0, 0) := by decide +kernel
theorem k_48_37 : COD 48 37 = some (.getfield 25, 3, 4, 4, 90, 0) := by decide +kernel
theorem k_48_40 : COD 48 40 = some (.invokestatic 28, 3, 53, 2, 888, 4) := by decide +kernel
theorem k_48_43 : COD 48 43 = some (.istore_n 3, 1, 0, 0, 0, 0) := by decide +kernel
theorem k_48_44 : COD 48 44 = some (.aload_n 0, 1, 0, 0, 0, 0) := by decide +kernel
theorem k_48_45 : COD 48 45 = some (.aload_n 1, 1, 0, 0, 0, 0) := by decide +kernel
theorem k_48_46 : COD 48 46 = some (.iload_n 3, 1, 0, 0, 0, 0) := by decide +kernel
theorem k_48_47 : COD 48 47 = some (.invokevirtual 32, 3, 54, 2, 900, 4) := by decide +kernel
theorem k_48_50 : COD 48 50 = some (.istore 4, 2, 0, 0, 0, 0) := by decide +kernel
theorem k_48_52 : COD 48 52 = some (.iload_n 2, 1, 0, 0, 0, 0) := by decide +kernel
theorem k_48_53 : COD 48 53 = some (.sipush 400, 3, 0, 0, 0, 0) := by decide +kernel
theorem k_48_56 : COD 48 56 = some (.if_icmp .ne 13, 3, 69, 0, 0, 0) := by decide +kernel
theorem k_48_59 : COD 48 59 = some (.iload 4, 2, 0, 0, 0, 0) := by decide +kernel
theorem k_48_61 : COD 48 61 = some (.iconst (-1), 1, 0, 0, 0, 0) := by decide +kernel
theorem k_48_62 : COD 48 62 = some (.if_icmp .eq 7, 3, 69, 0, 0, 0) := by decide +kernel
theorem k_48_65 : COD 48 65 = some (.iconst 1, 1, 0, 0, 0, 0) := by decide +kernel
theorem k_48_66 : COD 48 66 = some (.goto 4, 3, 70, 0, 0, 0) := by decide +kernel
theorem k_48_69 : COD 48 69 = some (.iconst 0, 1, 0, 0, 0, 0) := by decide +kernel
theorem k_48_70 : COD 48 70 = some (.istore 5, 2, 0, 0, 0, 0) := by decide +kernel
theorem k_48_72 : COD 48 72 = some (.aload_n 0, 1, 0, 0, 0, 0) := by decide +kernel
theorem k_48_73 : COD 48 73 = some (.getfield 9, 3, 4, 0, 86, 0) := by decide +kernel
theorem k_48_76 : COD 48 76 = some (.iload_n 2, 1, 0, 0, 0, 0) := by decide +kernel
theorem k_48_77 : COD 48 77 = some (.iload 5, 2, 0, 0, 0, 0) := by decide +kernel
theorem k_48_79 : COD 48 79 = some (.ifCond .eq 8, 3, 87, 0, 0, 0) := by decide +kernel
theorem k_48_82 : COD 48 82 = some (.bipush (-2), 2, 0, 0, 0, 0) := by decide +kernel
theorem k_48_84 : COD 48 84 = some (.goto 5, 3, 89, 0, 0, 0) := by decide +kernel
theorem k_48_87 : COD 48 87 = some (.iload 4, 2, 0, 0, 0, 0) := by decide +kernel
theorem k_48_89 : COD 48 89 = some (.iastore, 1, 0, 0, 0, 0) := by decide +kernel
theorem k_48_90 : COD 48 90 = some (.aload_n 0, 1, 0, 0, 0, 0) := by decide +kernel
theorem k_48_91 : COD 48 91 = some (.getfield 15, 3, 4, 1, 87, 0) := by decide +kernel
theorem k_48_94 : COD 48 94 = some (.iload_n 2, 1, 0, 0, 0, 0) := by decide +kernel
theorem k_48_95 : COD 48 95 = some (.iload_n 3, 1, 0, 0, 0, 0) := by decide +kernel
theorem k_48_96 : COD 48 96 = some (.iastore, 1, 0, 0, 0, 0) := by decide +kernel
theorem k_48_97 : COD 48 97 = some (.aload_n 0, 1, 0, 0, 0, 0) := by decide +kernel
theorem k_48_98 : COD 48 98 = some (.iload_n 2, 1, 0, 0, 0, 0) := by decide +kernel
theorem k_48_99 : COD 48 99 = some (.iconst 1, 1, 0, 0, 0, 0) := by decide +kernel
theorem k_48_100 : COD 48 100 = some (.iadd, 1, 0, 0, 0, 0) := by decide +kernel
theorem k_48_101 : COD 48 101 = some (.putfield 18, 3, 4, 2, 88, 0) := by decide +kernel
theorem k_48_104 : COD 48 104 = some (.iload 4, 2, 0, 0, 0, 0) := by decide +kernel
theorem k_48_106 : COD 48 106 = some (.iconst (-1), 1, 0, 0, 0, 0) := by decide +kernel
theorem k_48_107 : COD 48 107 = some (.if_icmp .eq 10, 3, 117, 0, 0, 0) := by decide +kernel
theorem k_48_110 : COD 48 110 = some (.iload 4, 2, 0, 0, 0, 0) := by decide +kernel
theorem k_48_112 : COD 48 112 = some (.bipush (-2), 2, 0, 0, 0, 0) := by decide +kernel
theorem k_48_114 : COD 48 114 = some (.if_icmp .ne 4, 3, 118, 0, 0, 0) := by decide +kernel
theorem k_48_117 : COD 48 117 = some (.return_, 1, 0, 0, 0, 0) := by decide +kernel
theorem k_48_118 : COD 48 118 = some (.iinc 2 1, 3, 0, 0, 0, 0) := by decide +kernel
theorem k_48_121 : COD 48 121 = some (.goto (-104), 3, 17, 0, 0, 0) := by decide +kernel
theorem k_48_124 : COD 48 124 = some (.return_, 1, 0, 0, 0, 0) := by decide +kernel
theorem k_49_0 : COD 49 0 = some (.aload_n 0, 1, 0, 0, 0, 0) := by decide +kernel
theorem k_49_1 : COD 49 1 = some (.getfield 22, 3, 4, 3, 89, 0) := by decide +kernel
theorem k_49_4 : COD 49 4 = some (.ifCond .lt 38, 3, 42, 0, 0, 0) := by decide +kernel
theorem k_49_7 : COD 49 7 = some (.aload_n 0, 1, 0, 0, 0, 0) := by decide +kernel
theorem k_49_8 : COD 49 8 = some (.getfield 22, 3, 4, 3, 89, 0) := by decide +kernel
theorem k_49_11 : COD 49 11 = some (.aload_n 0, 1, 0, 0, 0, 0) := by decide +kernel
theorem k_49_12 : COD 49 12 = some (.getfield 18, 3, 4, 2, 88, 0) := by decide +kernel
theorem k_49_15 : COD 49 15 = some (.if_icmp .ge 27, 3, 42, 0, 0, 0) := by decide +kernel
theorem k_49_18 : COD 49 18 = some (.aload_n 0, 1, 0, 0, 0, 0) := by decide +kernel
theorem k_49_19 : COD 49 19 = some (.getfield 22, 3, 4, 3, 89, 0) := by decide +kernel
theorem k_49_22 : COD 49 22 = some (.aload_n 0, 1, 0, 0, 0, 0) := by decide +kernel
theorem k_49_23 : COD 49 23 = some (.getfield 9, 3, 4, 0, 86, 0) := by decide +kernel
theorem k_49_26 : COD 49 26 = some (.arraylength, 1, 0, 0, 0, 0) := by decide +kernel
theorem k_49_27 : COD 49 27 = some (.if_icmp .ge 15, 3, 42, 0, 0, 0) := by decide +kernel
theorem k_49_30 : COD 49 30 = some (.aload_n 0, 1, 0, 0, 0, 0) := by decide +kernel
theorem k_49_31 : COD 49 31 = some (.getfield 9, 3, 4, 0, 86, 0) := by decide +kernel
theorem k_49_34 : COD 49 34 = some (.aload_n 0, 1, 0, 0, 0, 0) := by decide +kernel
theorem k_49_35 : COD 49 35 = some (.getfield 22, 3, 4, 3, 89, 0) := by decide +kernel
theorem k_49_38 : COD 49 38 = some (.iaload, 1, 0, 0, 0, 0) := by decide +kernel
theorem k_49_39 : COD 49 39 = some (.goto 5, 3, 44, 0, 0, 0) := by decide +kernel
theorem k_49_42 : COD 49 42 = some (.bipush (-2), 2, 0, 0, 0, 0) := by decide +kernel
theorem k_49_44 : COD 49 44 = some (.ireturn, 1, 0, 0, 0, 0) := by decide +kernel
theorem k_50_0 : COD 50 0 = some (.aload_n 0, 1, 0, 0, 0, 0) := by decide +kernel
theorem k_50_1 : COD 50 1 = some (.getfield 22, 3, 4, 3, 89, 0) := by decide +kernel
theorem k_50_4 : COD 50 4 = some (.ifCond .lt 38, 3, 42, 0, 0, 0) := by decide +kernel
theorem k_50_7 : COD 50 7 = some (.aload_n 0, 1, 0, 0, 0, 0) := by decide +kernel
theorem k_50_8 : COD 50 8 = some (.getfield 22, 3, 4, 3, 89, 0) := by decide +kernel
theorem k_50_11 : COD 50 11 = some (.aload_n 0, 1, 0, 0, 0, 0) := by decide +kernel
theorem k_50_12 : COD 50 12 = some (.getfield 18, 3, 4, 2, 88, 0) := by decide +kernel
theorem k_50_15 : COD 50 15 = some (.if_icmp .ge 27, 3, 42, 0, 0, 0) := by decide +kernel
theorem k_50_18 : COD 50 18 = some (.aload_n 0, 1, 0, 0, 0, 0) := by decide +kernel
theorem k_50_19 : COD 50 19 = some (.getfield 22, 3, 4, 3, 89, 0) := by decide +kernel
theorem k_50_22 : COD 50 22 = some (.aload_n 0, 1, 0, 0, 0, 0) := by decide +kernel
theorem k_50_23 : COD 50 23 = some (.getfield 15, 3, 4, 1, 87, 0) := by decide +kernel
theorem k_50_26 : COD 50 26 = some (.arraylength, 1, 0, 0, 0, 0) := by decide +kernel
theorem k_50_27 : COD 50 27 = some (.if_icmp .ge 15, 3, 42, 0, 0, 0) := by decide +kernel
theorem k_50_30 : COD 50 30 = some (.aload_n 0, 1, 0, 0, 0, 0) := by decide +kernel
theorem k_50_31 : COD 50 31 = some (.getfield 15, 3, 4, 1, 87, 0) := by decide +kernel
theorem k_50_34 : COD 50 34 = some (.aload_n 0, 1, 0, 0, 0, 0) := by decide +kernel
theorem k_50_35 : COD 50 35 = some (.getfield 22, 3, 4, 3, 89, 0) := by decide +kernel
theorem k_50_38 : COD 50 38 = some (.iaload, 1, 0, 0, 0, 0) := by decide +kernel
theorem k_50_39 : COD 50 39 = some (.goto 4, 3, 43, 0, 0, 0) := by decide +kernel
theorem k_50_42 : COD 50 42 = some (.iconst 0, 1, 0, 0, 0, 0) := by decide +kernel
theorem k_50_43 : COD 50 43 = some (.ireturn, 1, 0, 0, 0, 0) := by decide +kernel
theorem k_51_0 : COD 51 0 = some (.aload_n 0, 1, 0, 0, 0, 0) := by decide +kernel
theorem k_51_1 : COD 51 1 = some (.dup, 1, 0, 0, 0, 0) := by decide +kernel
theorem k_51_2 : COD 51 2 = some (.getfield 22, 3, 4, 3, 89, 0) := by decide +kernel
theorem k_51_5 : COD 51 5 = some (.iconst 1, 1, 0, 0, 0, 0) := by decide +kernel
theorem k_51_6 : COD 51 6 = some (.iadd, 1, 0, 0, 0, 0) := by decide +kernel
theorem k_51_7 : COD 51 7 = some (.putfield 22, 3, 4, 3, 89, 0) := by decide +kernel
theorem k_51_10 : COD 51 10 = some (.return_, 1, 0, 0, 0, 0) := by decide +kernel
theorem k_52_0 : COD 52 0 = some (.aload_n 0, 1, 0, 0, 0, 0) := by decide +kernel
theorem k_52_1 : COD 52 1 = some (.invokevirtual 35, 3, 49, 0, 942, 4) := by decide +kernel
theorem k_52_4 : COD 52 4 = some (.iload_n 1, 1, 0, 0, 0, 0) := by decide +kernel
theorem k_52_5 : COD 52 5 = some (.if_icmp .eq 5, 3, 10, 0, 0, 0) := by decide +kernel
theorem k_52_8 : COD 52 8 = some (.iconst 0, 1, 0, 0, 0, 0) := by decide +kernel
theorem k_52_9 : COD 52 9 = some (.ireturn, 1, 0, 0, 0, 1) := by decide +kernel
theorem k_52_10 : COD 52 10 = some (.aload_n 0, 1, 0, 0, 0, 0) := by decide +kernel
theorem k_52_11 : COD 52 11 = some (.dup, 1, 0, 0, 0, 0) := by decide +kernel
theorem k_52_12 : COD 52 12 = some (.getfield 22, 3, 4, 3, 89, 0) := by decide +kernel
theorem k_52_15 : COD 52 15 = some (.iconst 1, 1, 0, 0, 0, 0) := by decide +kernel
theorem k_52_16 : COD 52 16 = some (.iadd, 1, 0, 0, 0, 0) := by decide +kernel
theorem k_52_17 : COD 52 17 = some (.putfield 22, 3, 4, 3, 89, 0) := by decide +kernel
theorem k_52_20 : COD 52 20 = some (.iconst 1, 1, 0, 0, 0, 0) := by decide +kernel
theorem k_52_21 : COD 52 21 = some (.ireturn, 1, 0, 0, 0, 1) := by decide +kernel
theorem k_53_0 : COD 53 0 = some (.iload_n 1, 1, 0, 0, 0, 0) := by decide +kernel
theorem k_53_1 : COD 53 1 = some (.istore_n 2, 1, 0, 0, 0, 0) := by decide +kernel
theorem k_53_2 : COD 53 2 = some (.iload_n 2, 1, 0, 0, 0, 0) := by decide +kernel
theorem k_53_3 : COD 53 3 = some (.aload_n 0, 1, 0, 0, 0, 0) := by decide +kernel
theorem k_53_4 : COD 53 4 = some (.invokevirtual 38, 3, 39, 0, 891, 3) := by decide +kernel
theorem k_53_7 : COD 53 7 = some (.if_icmp .ge 17, 3, 24, 0, 0, 0) := by decide +kernel
theorem k_53_10 : COD 53 10 = some (.aload_n 0, 1, 0, 0, 0, 0) := by decide +kernel
theorem k_53_11 : COD 53 11 = some (.iload_n 2, 1, 0, 0, 0, 0) := by decide +kernel
theorem k_53_12 : COD 53 12 = some (.invokevirtual 43, 3, 43, 1, 892, 3) := by decide +kernel
theorem k_53_15 : COD 53 15 = some (.ifCond .eq 9, 3, 24, 0, 0, 0) := by decide +kernel
theorem k_53_18 : COD 53 18 = some (.iinc 2 1, 3, 0, 0, 0, 0) := by decide +kernel
theorem k_53_21 : COD 53 21 = some (.goto (-19), 3, 2, 0, 0, 0) := by decide +kernel
theorem k_53_24 : COD 53 24 = some (.iload_n 2, 1, 0, 0, 0, 0) := by decide +kernel
theorem k_53_25 : COD 53 25 = some (.ireturn, 1, 0, 0, 0, 0) := by decide +kernel
theorem k_54_0 : COD 54 0 = some (.aload_n 1, 1, 0, 0, 0, 0) := by decide +kernel
theorem k_54_1 : COD 54 1 = some (.iload_n 2, 1, 0, 0, 0, 0) := by decide +kernel
theorem k_54_2 : COD 54 2 = some (.invokevirtual 47, 3, 42, 1, 904, 3) := by decide +kernel
theorem k_54_5 : COD 54 5 = some (.ifCond .ge 5, 3, 10, 0, 0, 0) := by decide +kernel
theorem k_54_8 : COD 54 8 = some (.iconst (-1), 1, 0, 0, 0, 0) := by decide +kernel
theorem k_54_9 : COD 54 9 = some (.ireturn, 1, 0, 0, 0, 0) := by decide +kernel
theorem k_54_10 : COD 54 10 = some (.aload_n 1, 1, 0, 0, 0, 0) := by decide +kernel
theorem k_54_11 : COD 54 11 = some (.iload_n 2, 1, 0, 0, 0, 0) := by decide +kernel
theorem k_54_12 : COD 54 12 = some (.invokevirtual 51, 3, 44, 1, 905, 3) := by decide +kernel
theorem k_54_15 : COD 54 15 = some (.ifCond .eq 10, 3, 25, 0, 0, 0) := by decide +kernel
theorem k_54_18 : COD 54 18 = some (.aload_n 0, 1, 0, 0, 0, 0) := by decide +kernel
theorem k_54_19 : COD 54 19 = some (.aload_n 1, 1, 0, 0, 0, 0) := by decide +kernel
theorem k_54_20 : COD 54 20 = some (.iload_n 2, 1, 0, 0, 0, 0) := by decide +kernel
theorem k_54_21 : COD 54 21 = some (.invokevirtual 54, 3, 55, 2, 909, 4) := by decide +kernel
theorem k_54_24 : COD 54 24 = some (.ireturn, 1, 0, 0, 0, 0) := by decide +kernel
theorem k_54_25 : COD 54 25 = some (.aload_n 1, 1, 0, 0, 0, 0) := by decide +kernel
theorem k_54_26 : COD 54 26 = some (.iload_n 2, 1, 0, 0, 0, 0) := by decide +kernel
theorem k_54_27 : COD 54 27 = some (.invokevirtual 57, 3, 45, 1, 913, 3) := by decide +kernel
theorem k_54_30 : COD 54 30 = some (.ifCond .eq 10, 3, 40, 0, 0, 0) := by decide +kernel
theorem k_54_33 : COD 54 33 = some (.aload_n 0, 1, 0, 0, 0, 0) := by decide +kernel
theorem k_54_34 : COD 54 34 = some (.aload_n 1, 1, 0, 0, 0, 0) := by decide +kernel
theorem k_54_35 : COD 54 35 = some (.iload_n 2, 1, 0, 0, 0, 0) := by decide +kernel
theorem k_54_36 : COD 54 36 = some (.invokevirtual 60, 3, 56, 2, 925, 4) := by decide +kernel
theorem k_54_39 : COD 54 39 = some (.ireturn, 1, 0, 0, 0, 0) := by decide +kernel
theorem k_54_40 : COD 54 40 = some (.aload_n 0, 1, 0, 0, 0, 0) := by decide +kernel
theorem k_54_41 : COD 54 41 = some (.aload_n 1, 1, 0, 0, 0, 0) := by decide +kernel
theorem k_54_42 : COD 54 42 = some (.iload_n 2, 1, 0, 0, 0, 0) := by decide +kernel
theorem k_54_43 : COD 54 43 = some (.invokevirtual 63, 3, 57, 2, 929, 4) := by decide +kernel
theorem k_54_46 : COD 54 46 = some (.ireturn, 1, 0, 0, 0, 0) := by decide +kernel
theorem k_55_0 : COD 55 0 = some (.aload_n 0, 1, 0, 0, 0, 0) := by decide +kernel
theorem k_55_1 : COD 55 1 = some (.iload_n 2, 1, 0, 0, 0, 0) := by decide +kernel
theorem k_55_2 : COD 55 2 = some (.putfield 25, 3, 4, 4, 90, 0) := by decide +kernel
theorem k_55_5 : COD 55 5 = some (.aload_n 0, 1, 0, 0, 0, 0) := by decide +kernel
theorem k_55_6 : COD 55 6 = some (.getfield 25, 3, 4, 4, 90, 0) := by decide +kernel
theorem k_55_9 : COD 55 9 = some (.aload_n 1, 1, 0, 0, 0, 0) := by decide +kernel
theorem k_55_10 : COD 55 10 = some (.invokevirtual 38, 3, 39, 0, 891, 3) := by decide +kernel
theorem k_55_13 : COD 55 13 = some (.if_icmp .ge 38, 3, 51, 0, 0, 0) := by decide +kernel
theorem k_55_16 : COD 55 16 = some (.aload_n 1, 1, 0, 0, 0, 0) := by decide +kernel
theorem k_55_17 : COD 55 17 = some (.aload_n 0, 1, 0, 0, 0, 0) := by decide +kernel
theorem k_55_18 : COD 55 18 = some (.getfield 25, 3, 4, 4, 90, 0) := by decide +kernel
theorem k_55_21 : COD 55 21 = some (.invokevirtual 51, 3, 44, 1, 905, 3) := by decide +kernel
theorem k_55_24 : COD 55 24 = some (.ifCond .ne 14, 3, 38, 0, 0, 0) := by decide +kernel
theorem k_55_27 : COD 55 27 = some (.aload_n 1, 1, 0, 0, 0, 0) := by decide +kernel
theorem k_55_28 : COD 55 28 = some (.aload_n 0, 1, 0, 0, 0, 0) := by decide +kernel
theorem k_55_29 : COD 55 29 = some (.getfield 25, 3, 4, 4, 90, 0) := by decide +kernel
theorem k_55_32 : COD 55 32 = some (.invokevirtual 57, 3, 45, 1, 913, 3) := by decide +kernel
theorem k_55_35 : COD 55 35 = some (.ifCond .eq 16, 3, 51, 0, 0, 0) := by decide +kernel
theorem k_55_38 : COD 55 38 = some (.aload_n 0, 1, 0, 0, 0, 0) := by decide +kernel
theorem k_55_39 : COD 55 39 = some (.dup, 1, 0, 0, 0, 0) := by decide +kernel
theorem k_55_40 : COD 55 40 = some (.getfield 25, 3, 4, 4, 90, 0) := by decide +kernel
theorem k_55_43 : COD 55 43 = some (.iconst 1, 1, 0, 0, 0, 0) := by decide +kernel
theorem k_55_44 : COD 55 44 = some (.iadd, 1, 0, 0, 0, 0) := by decide +kernel
theorem k_55_45 : COD 55 45 = some (.putfield 25, 3, 4, 4, 90, 0) := by decide +kernel
theorem k_55_48 : COD 55 48 = some (.goto (-43), 3, 5, 0, 0, 0) := by decide +kernel
theorem k_55_51 : COD 55 51 = some (.aload_n 0, 1, 0, 0, 0, 0) := by decide +kernel
theorem k_55_52 : COD 55 52 = some (.getfield 25, 3, 4, 4, 90, 0) := by decide +kernel
theorem k_55_55 : COD 55 55 = some (.iload_n 2, 1, 0, 0, 0, 0) := by decide +kernel
theorem k_55_56 : COD 55 56 = some (.isub, 1, 0, 0, 0, 0) := by decide +kernel
theorem k_55_57 : COD 55 57 = some (.bipush 10, 2, 0, 0, 0, 0) := by decide +kernel
theorem k_55_59 : COD 55 59 = some (.if_icmp .le 6, 3, 65, 0, 0, 0) := by decide +kernel
theorem k_55_62 : COD 55 62 = some (.bipush (-2), 2, 0, 0, 0, 0) := by decide +kernel
theorem k_55_64 : COD 55 64 = some (.ireturn, 1, 0, 0, 0, 0) := by decide +kernel
theorem k_55_65 : COD 55 65 = some (.getstatic 66, 3, 0, 0, 917, 0) := by decide +kernel
theorem k_55_68 : COD 55 68 = some (.astore_n 3, 1, 0, 0, 0, 0) := by decide +kernel
theorem k_55_69 : COD 55 69 = some (.aload_n 3, 1, 0, 0, 0, 0) := by decide +kernel
theorem k_55_70 : COD 55 70 = some (.arraylength, 1, 0, 0, 0, 0) := by decide +kernel
theorem k_55_71 : COD 55 71 = some (.istore 4, 2, 0, 0, 0, 0) := by decide +kernel
theorem k_55_73 : COD 55 73 = some (.iconst 0, 1, 0, 0, 0, 0) := by decide +kernel
theorem k_55_74 : COD 55 74 = some (.istore 5, 2, 0, 0, 0, 0) := by decide +kernel
theorem k_55_76 : COD 55 76 = some (.iload 5, 2, 0, 0, 0, 0) := by decide +kernel
theorem k_55_78 : COD 55 78 = some (.iload 4, 2, 0, 0, 0, 0) := by decide +kernel
theorem k_55_80 : COD 55 80 = some (.if_icmp .ge 43, 3, 123, 0, 0, 0) := by decide +kernel
theorem k_55_83 : COD 55 83 = some (.aload_n 3, 1, 0, 0, 0, 0) := by decide +kernel
theorem k_55_84 : COD 55 84 = some (.iload 5, 2, 0, 0, 0, 0) := by decide +kernel
theorem k_55_86 : COD 55 86 = some (.aaload, 1, 0, 0, 0, 0) := by decide +kernel
theorem k_55_87 : COD 55 87 = some (.astore 6, 2, 0, 0, 0, 0) := by decide +kernel
theorem k_55_89 : COD 55 89 = some (.aload 6, 2, 0, 0, 0, 0) := by decide +kernel
theorem k_55_91 : COD 55 91 = some (.ifnull 26, 3, 117, 0, 0, 0) := by decide +kernel
theorem k_55_94 : COD 55 94 = some (.aload_n 1, 1, 0, 0, 0, 0) := by decide +kernel
theorem k_55_95 : COD 55 95 = some (.aload 6, 2, 0, 0, 0, 0) := by decide +kernel
theorem k_55_97 : COD 55 97 = some (.getfield 70, 3, 20, 0, 1430, 0) := by decide +kernel
theorem k_55_100 : COD 55 100 = some (.iload_n 2, 1, 0, 0, 0, 0) := by decide +kernel
theorem k_55_101 : COD 55 101 = some (.aload_n 0, 1, 0, 0, 0, 0) := by decide +kernel
theorem k_55_102 : COD 55 102 = some (.getfield 25, 3, 4, 4, 90, 0) := by decide +kernel
theorem k_55_105 : COD 55 105 = some (.invokevirtual 76, 3, 46, 3, 919, 3) := by decide +kernel
theorem k_55_108 : COD 55 108 = some (.ifCond .eq 9, 3, 117, 0, 0, 0) := by decide +kernel
theorem k_55_111 : COD 55 111 = some (.aload 6, 2, 0, 0, 0, 0) := by decide +kernel
theorem k_55_113 : COD 55 113 = some (.getfield 80, 3, 20, 1, 1431, 0) := by decide +kernel
theorem k_55_116 : COD 55 116 = some (.ireturn, 1, 0, 0, 0, 0) := by decide +kernel
theorem k_55_117 : COD 55 117 = some (.iinc 5 1, 3, 0, 0, 0, 0) := by decide +kernel
theorem k_55_120 : COD 55 120 = some (.goto (-44), 3, 76, 0, 0, 0) := by decide +kernel
theorem k_55_123 : COD 55 123 = some (.bipush (-2), 2, 0, 0, 0, 0) := by decide +kernel
theorem k_55_125 : COD 55 125 = some (.ireturn, 1, 0, 0, 0, 0) := by decide +kernel
theorem k_56_0 : COD 56 0 = some (.iconst 0, 1, 0, 0, 0, 0) := by decide +kernel
theorem k_56_1 : COD 56 1 = some (.istore_n 3, 1, 0, 0, 0, 0) := by decide +kernel
theorem k_56_2 : COD 56 2 = some (.aload_n 0, 1, 0, 0, 0, 0) := by decide +kernel
theorem k_56_3 : COD 56 3 = some (.iload_n 2, 1, 0, 0, 0, 0) := by decide +kernel
theorem k_56_4 : COD 56 4 = some (.putfield 25, 3, 4, 4, 90, 0) := by decide +kernel
theorem k_56_7 : COD 56 7 = some (.aload_n 0, 1, 0, 0, 0, 0) := by decide +kernel
theorem k_56_8 : COD 56 8 = some (.getfield 25, 3, 4, 4, 90, 0) := by decide +kernel
theorem k_56_11 : COD 56 11 = some (.aload_n 1, 1, 0, 0, 0, 0) := by decide +kernel
theorem k_56_12 : COD 56 12 = some (.invokevirtual 38, 3, 39, 0, 891, 3) := by decide +kernel
theorem k_56_15 : COD 56 15 = some (.if_icmp .ge 44, 3, 59, 0, 0, 0) := by decide +kernel
theorem k_56_18 : COD 56 18 = some (.aload_n 1, 1, 0, 0, 0, 0) := by decide +kernel
theorem k_56_19 : COD 56 19 = some (.aload_n 0, 1, 0, 0, 0, 0) := by decide +kernel
theorem k_56_20 : COD 56 20 = some (.getfield 25, 3, 4, 4, 90, 0) := by decide +kernel
theorem k_56_23 : COD 56 23 = some (.invokevirtual 57, 3, 45, 1, 913, 3) := by decide +kernel
theorem k_56_26 : COD 56 26 = some (.ifCond .eq 33, 3, 59, 0, 0, 0) := by decide +kernel
theorem k_56_29 : COD 56 29 = some (.iload_n 3, 1, 0, 0, 0, 0) := by decide +kernel
theorem k_56_30 : COD 56 30 = some (.bipush 10, 2, 0, 0, 0, 0) := by decide +kernel
theorem k_56_32 : COD 56 32 = some (.imul, 1, 0, 0, 0, 0) := by decide +kernel
theorem k_56_33 : COD 56 33 = some (.aload_n 1, 1, 0, 0, 0, 0) := by decide +kernel
theorem k_56_34 : COD 56 34 = some (.aload_n 0, 1, 0, 0, 0, 0) := by decide +kernel
theorem k_56_35 : COD 56 35 = some (.getfield 25, 3, 4, 4, 90, 0) := by decide +kernel
theorem k_56_38 : COD 56 38 = some (.invokevirtual 47, 3, 42, 1, 904, 3) := by decide +kernel
theorem k_56_41 : COD 56 41 = some (.iadd, 1, 0, 0, 0, 0) := by decide +kernel
theorem k_56_42 : COD 56 42 = some (.bipush 48, 2, 0, 0, 0, 0) := by decide +kernel
theorem k_56_44 : COD 56 44 = some (.isub, 1, 0, 0, 0, 0) := by decide +kernel
theorem k_56_45 : COD 56 45 = some (.istore_n 3, 1, 0, 0, 0, 0) := by decide +kernel
theorem k_56_46 : COD 56 46 = some (.aload_n 0, 1, 0, 0, 0, 0) := by decide +kernel
theorem k_56_47 : COD 56 47 = some (.dup, 1, 0, 0, 0, 0) := by decide +kernel
theorem k_56_48 : COD 56 48 = some (.getfield 25, 3, 4, 4, 90, 0) := by decide +kernel
theorem k_56_51 : COD 56 51 = some (.iconst 1, 1, 0, 0, 0, 0) := by decide +kernel
theorem k_56_52 : COD 56 52 = some (.iadd, 1, 0, 0, 0, 0) := by decide +kernel
theorem k_56_53 : COD 56 53 = some (.putfield 25, 3, 4, 4, 90, 0) := by decide +kernel
theorem k_56_56 : COD 56 56 = some (.goto (-49), 3, 7, 0, 0, 0) := by decide +kernel
theorem k_56_59 : COD 56 59 = some (.aload_n 0, 1, 0, 0, 0, 0) := by decide +kernel
theorem k_56_60 : COD 56 60 = some (.getfield 25, 3, 4, 4, 90, 0) := by decide +kernel
theorem k_56_63 : COD 56 63 = some (.iload_n 2, 1, 0, 0, 0, 0) := by decide +kernel
theorem k_56_64 : COD 56 64 = some (.isub, 1, 0, 0, 0, 0) := by decide +kernel
theorem k_56_65 : COD 56 65 = some (.bipush 6, 2, 0, 0, 0, 0) := by decide +kernel
theorem k_56_67 : COD 56 67 = some (.if_icmp .le 8, 3, 75, 0, 0, 0) := by decide +kernel
theorem k_56_70 : COD 56 70 = some (.bipush (-2), 2, 0, 0, 0, 0) := by decide +kernel
theorem k_56_72 : COD 56 72 = some (.goto 4, 3, 76, 0, 0, 0) := by decide +kernel
theorem k_56_75 : COD 56 75 = some (.iload_n 3, 1, 0, 0, 0, 0) := by decide +kernel
theorem k_56_76 : COD 56 76 = some (.ireturn, 1, 0, 0, 0, 0) := by decide +kernel
theorem k_57_0 : COD 57 0 = some (.aload_n 1, 1, 0, 0, 0, 0) := by decide +kernel
theorem k_57_1 : COD 57 1 = some (.iload_n 2, 1, 0, 0, 0, 0) := by decide +kernel
theorem k_57_2 : COD 57 2 = some (.iconst 1, 1, 0, 0, 0, 0) := by decide +kernel
theorem k_57_3 : COD 57 3 = some (.iadd, 1, 0, 0, 0, 0) := by decide +kernel
theorem k_57_4 : COD 57 4 = some (.invokevirtual 47, 3, 42, 1, 904, 3) := by decide +kernel
theorem k_57_7 : COD 57 7 = some (.bipush 61, 2, 0, 0, 0, 0) := by decide +kernel
theorem k_57_9 : COD 57 9 = some (.if_icmp .ne 7, 3, 16, 0, 0, 0) := by decide +kernel
theorem k_57_12 : COD 57 12 = some (.iconst 1, 1, 0, 0, 0, 0) := by decide +kernel
theorem k_57_13 : COD 57 13 = some (.goto 4, 3, 17, 0, 0, 0) := by decide +kernel
theorem k_57_16 : COD 57 16 = some (.iconst 0, 1, 0, 0, 0, 0) := by decide +kernel
theorem k_57_17 : COD 57 17 = some (.istore_n 3, 1, 0, 0, 0, 0) := by decide +kernel
theorem k_57_18 : COD 57 18 = some (.aload_n 0, 1, 0, 0, 0, 0) := by decide +kernel
theorem k_57_19 : COD 57 19 = some (.iload_n 2, 1, 0, 0, 0, 0) := by decide +kernel
theorem k_57_20 : COD 57 20 = some (.iconst 1, 1, 0, 0, 0, 0) := by decide +kernel
theorem k_57_21 : COD 57 21 = some (.iadd, 1, 0, 0, 0, 0) := by decide +kernel
theorem k_57_22 : COD 57 22 = some (.putfield 25, 3, 4, 4, 90, 0) := by decide +kernel
theorem k_57_25 : COD 57 25 = some (.aload_n 1, 1, 0, 0, 0, 0) := by decide +kernel
theorem k_57_26 : COD 57 26 = some (.iload_n 2, 1, 0, 0, 0, 0) := by decide +kernel
theorem k_57_27 : COD 57 27 = some (.invokevirtual 47, 3, 42, 1, 904, 3) := by decide +kernel
theorem k_57_30 : COD 57 30 = some (.tableswitch 321 40 93 #[230, 233, 254, 248, 245, 251, 321, 257, 321, 321, 321, 321, 321, 321, 321, 321, 321, 321, 321, 242, 263, 260, 292, 321, 321, 321, 321, 321, 321, 321, 321, 321, 321, 321, 321, 321, 321, 321, 321, 321, 321, 321, 321, 321, 321, 321, 321, 321, 321, 321, 321, 236, 321, 239], 230, 0, 0, 0, 0) := by decide +kernel
theorem k_57_260 : COD 57 260 = some (.bipush (-7), 2, 0, 0, 0, 0) := by decide +kernel
theorem k_57_262 : COD 57 262 = some (.ireturn, 1, 0, 0, 0, 0) := by decide +kernel
theorem k_57_263 : COD 57 263 = some (.bipush (-8), 2, 0, 0, 0, 0) := by decide +kernel
theorem k_57_265 : COD 57 265 = some (.ireturn, 1, 0, 0, 0, 0) := by decide +kernel
theorem k_57_266 : COD 57 266 = some (.bipush (-9), 2, 0, 0, 0, 0) := by decide +kernel
theorem k_57_268 : COD 57 268 = some (.ireturn, 1, 0, 0, 0, 0) := by decide +kernel
theorem k_57_269 : COD 57 269 = some (.bipush (-10), 2, 0, 0, 0, 0) := by decide +kernel
theorem k_57_271 : COD 57 271 = some (.ireturn, 1, 0, 0, 0, 0) := by decide +kernel
theorem k_57_272 : COD 57 272 = some (.bipush (-11), 2, 0, 0, 0, 0) := by decide +kernel
theorem k_57_274 : COD 57 274 = some (.ireturn, 1, 0, 0, 0, 0) := by decide +kernel
theorem k_57_275 : COD 57 275 = some (.bipush (-12), 2, 0, 0, 0, 0) := by decide +kernel
theorem k_57_277 : COD 57 277 = some (.ireturn, 1, 0, 0, 0, 0) := by decide +kernel
theorem k_57_278 : COD 57 278 = some (.bipush (-29), 2, 0, 0, 0, 0) := by decide +kernel
theorem k_57_280 : COD 57 280 = some (.ireturn, 1, 0, 0, 0, 0) := by decide +kernel
theorem k_57_281 : COD 57 281 = some (.bipush (-30), 2, 0, 0, 0, 0) := by decide +kernel
theorem k_57_283 : COD 57 283 = some (.ireturn, 1, 0, 0, 0, 0) := by decide +kernel
theorem k_57_284 : COD 57 284 = some (.bipush (-31), 2, 0, 0, 0, 0) := by decide +kernel
theorem k_57_286 : COD 57 286 = some (.ireturn, 1, 0, 0, 0, 0) := by decide +kernel
theorem k_57_287 : COD 57 287 = some (.bipush (-32), 2, 0, 0, 0, 0) := by decide +kernel
theorem k_57_289 : COD 57 289 = some (.ireturn, 1, 0, 0, 0, 0) := by decide +kernel
theorem k_57_290 : COD 57 290 = some (.bipush (-35), 2, 0, 0, 0, 0) := by decide +kernel
theorem k_57_292 : COD 57 292 = some (.ireturn, 1, 0, 0, 0, 0) := by decide +kernel
theorem k_57_293 : COD 57 293 = some (.aload_n 0, 1, 0, 0, 0, 0) := by decide +kernel
theorem k_57_294 : COD 57 294 = some (.iload_n 3, 1, 0, 0, 0, 0) := by decide +kernel
theorem k_57_295 : COD 57 295 = some (.ifCond .eq 9, 3, 304, 0, 0, 0) := by decide +kernel
theorem k_57_298 : COD 57 298 = some (.iload_n 2, 1, 0, 0, 0, 0) := by decide +kernel
theorem k_57_299 : COD 57 299 = some (.iconst 2, 1, 0, 0, 0, 0) := by decide +kernel
theorem k_57_300 : COD 57 300 = some (.iadd, 1, 0, 0, 0, 0) := by decide +kernel
theorem k_57_301 : COD 57 301 = some (.goto 6, 3, 307, 0, 0, 0) := by decide +kernel
theorem k_57_304 : COD 57 304 = some (.iload_n 2, 1, 0, 0, 0, 0) := by decide +kernel
theorem k_57_305 : COD 57 305 = some (.iconst 1, 1, 0, 0, 0, 0) := by decide +kernel
theorem k_57_306 : COD 57 306 = some (.iadd, 1, 0, 0, 0, 0) := by decide +kernel
theorem k_57_307 : COD 57 307 = some (.putfield 25, 3, 4, 4, 90, 0) := by decide +kernel
theorem k_57_310 : COD 57 310 = some (.iload_n 3, 1, 0, 0, 0, 0) := by decide +kernel
theorem k_57_311 : COD 57 311 = some (.ifCond .eq 8, 3, 319, 0, 0, 0) := by decide +kernel
theorem k_57_314 : COD 57 314 = some (.bipush (-36), 2, 0, 0, 0, 0) := by decide +kernel
theorem k_57_316 : COD 57 316 = some (.goto 5, 3, 321, 0, 0, 0) := by decide +kernel
theorem k_57_319 : COD 57 319 = some (.bipush (-33), 2, 0, 0, 0, 0) := by decide +kernel
theorem k_57_321 : COD 57 321 = some (.ireturn, 1, 0, 0, 0, 0) := by decide +kernel
theorem k_57_322 : COD 57 322 = some (.aload_n 0, 1, 0, 0, 0, 0) := by decide +kernel
theorem k_57_323 : COD 57 323 = some (.iload_n 3, 1, 0, 0, 0, 0) := by decide +kernel
theorem k_57_324 : COD 57 324 = some (.ifCond .eq 9, 3, 333, 0, 0, 0) := by decide +kernel
theorem k_57_327 : COD 57 327 = some (.iload_n 2, 1, 0, 0, 0, 0) := by decide +kernel
theorem k_57_328 : COD 57 328 = some (.iconst 2, 1, 0, 0, 0, 0) := by decide +kernel
theorem k_57_329 : COD 57 329 = some (.iadd, 1, 0, 0, 0, 0) := by decide +kernel
theorem k_57_330 : COD 57 330 = some (.goto 6, 3, 336, 0, 0, 0) := by decide +kernel
theorem k_57_333 : COD 57 333 = some (.iload_n 2, 1, 0, 0, 0, 0) := by decide +kernel
theorem k_57_334 : COD 57 334 = some (.iconst 1, 1, 0, 0, 0, 0) := by decide +kernel
theorem k_57_335 : COD 57 335 = some (.iadd, 1, 0, 0, 0, 0) := by decide +kernel
theorem k_57_336 : COD 57 336 = some (.putfield 25, 3, 4, 4, 90, 0) := by decide +kernel
theorem k_57_339 : COD 57 339 = some (.iload_n 3, 1, 0, 0, 0, 0) := by decide +kernel
theorem k_57_340 : COD 57 340 = some (.ifCond .eq 8, 3, 348, 0, 0, 0) := by decide +kernel
theorem k_57_343 : COD 57 343 = some (.bipush (-37), 2, 0, 0, 0, 0) := by decide +kernel
theorem k_57_345 : COD 57 345 = some (.goto 5, 3, 350, 0, 0, 0) := by decide +kernel
theorem k_57_348 : COD 57 348 = some (.bipush (-34), 2, 0, 0, 0, 0) := by decide +kernel
theorem k_57_350 : COD 57 350 = some (.ireturn, 1, 0, 0, 0, 0) := by decide +kernel
theorem k_57_351 : COD 57 351 = some (.bipush (-2), 2, 0, 0, 0, 0) := by decide +kernel
theorem k_57_353 : COD 57 353 = some (.ireturn, 1, 0, 0, 0, 0) := by decide +kernel
theorem k_58_0 : COD 58 0 = some (.aload_n 0, 1, 0, 0, 0, 0) := by decide +kernel
theorem k_58_1 : COD 58 1 = some (.invokespecial 3, 3, 1000, 0, 166, 0) := by decide +kernel
theorem k_58_4 : COD 58 4 = some (.aload_n 0, 1, 0, 0, 0, 0) := by decide +kernel
theorem k_58_5 : COD 58 5 = some (.new 9, 3, 0, 0, 167, 0) := by decide +kernel
theorem k_58_8 : COD 58 8 = some (.dup, 1, 0, 0, 0, 0) := by decide +kernel
theorem k_58_9 : COD 58 9 = some (.iconst 1, 1, 0, 0, 0, 0) := by decide +kernel
theorem k_58_10 : COD 58 10 = some (.invokespecial 11, 3, 0, 1, 169, 0) := by decide +kernel
theorem k_58_13 : COD 58 13 = some (.putfield 14, 3, 5, 0, 237, 0) := by decide +kernel
theorem k_58_16 : COD 58 16 = some (.aload_n 0, 1, 0, 0, 0, 0) := by decide +kernel
theorem k_58_17 : COD 58 17 = some (.bipush 64, 2, 0, 0, 0, 0) := by decide +kernel
theorem k_58_19 : COD 58 19 = some (.anewarray 9, 3, 4, 0, 167, 0) := by decide +kernel
theorem k_58_22 : COD 58 22 = some (.putfield 20, 3, 5, 1, 240, 0) := by decide +kernel
theorem k_58_25 : COD 58 25 = some (.iconst 1, 1, 0, 0, 0, 0) := by decide +kernel
theorem k_58_26 : COD 58 26 = some (.istore_n 1, 1, 0, 0, 0, 0) := by decide +kernel
theorem k_58_27 : COD 58 27 = some (.iload_n 1, 1, 0, 0, 0, 0) := by decide +kernel
theorem k_58_28 : COD 58 28 = some (.aload_n 0, 1, 0, 0, 0, 0) := by decide +kernel
theorem k_58_29 : COD 58 29 = some (.getfield 20, 3, 5, 1, 240, 0) := by decide +kernel
theorem k_58_32 : COD 58 32 = some (.arraylength, 1, 0, 0, 0, 0) := by decide +kernel
theorem k_58_33 : COD 58 33 = some (.if_icmp .ge 35, 3, 68, 0, 0, 0) := by decide +kernel
theorem k_58_36 : COD 58 36 = some (.aload_n 0, 1, 0, 0, 0, 0) := by decide +kernel
theorem k_58_37 : COD 58 37 = some (.getfield 20, 3, 5, 1, 240, 0) := by decide +kernel
theorem k_58_40 : COD 58 40 = some (.iload_n 1, 1, 0, 0, 0, 0) := by decide +kernel
theorem k_58_41 : COD 58 41 = some (.iload_n 1, 1, 0, 0, 0, 0) := by decide +kernel
theorem k_58_42 : COD 58 42 = some (.iconst 1, 1, 0, 0, 0, 0) := by decide +kernel
theorem k_58_43 : COD 58 43 = some (.if_icmp .ne 10, 3, 53, 0, 0, 0) := by decide +kernel
theorem k_58_46 : COD 58 46 = some (.aload_n 0, 1, 0, 0, 0, 0) := by decide +kernel
theorem k_58_47 : COD 58 47 = some (.getfield 14, 3, 5, 0, 237, 0) := by decide +kernel
theorem k_58_50 : COD 58 50 = some (.goto 11, 3, 61, 0, 0, 0) := by decide +kernel
theorem k_58_53 : COD 58 53 = some (.new 9, 3, 0, 0, 167, 0) := by decide +kernel
theorem k_58_56 : COD 58 56 = some (.dup, 1, 0, 0, 0, 0) := by decide +kernel
theorem k_58_57 : COD 58 57 = some (.iload_n 1, 1, 0, 0, 0, 0) := by decide +kernel
theorem k_58_58 : COD 58 58 = some (.invokespecial 11, 3, 0, 1, 169, 0) := by decide +kernel
theorem k_58_61 : COD 58 61 = some (.aastore, 1, 0, 0, 0, 0) := by decide +kernel
theorem k_58_62 : COD 58 62 = some (.iinc 1 1, 3, 0, 0, 0, 0) := by decide +kernel
theorem k_58_65 : COD 58 65 = some (.goto (-38), 3, 27, 0, 0, 0) := by decide +kernel
theorem k_58_68 : COD 58 68 = some (.return_, 1, 0, 0, 0, 0) := by decide +kernel
theorem k_59_0 : COD 59 0 = some (.aload_n 0, 1, 0, 0, 0, 0) := by decide +kernel
theorem k_59_1 : COD 59 1 = some (.iload_n 1, 1, 0, 0, 0, 0) := by decide +kernel
theorem k_59_2 : COD 59 2 = some (.putfield 24, 3, 5, 2, 241, 0) := by decide +kernel
theorem k_59_5 : COD 59 5 = some (.aload_n 0, 1, 0, 0, 0, 0) := by decide +kernel
theorem k_59_6 : COD 59 6 = some (.iconst 0, 1, 0, 0, 0, 0) := by decide +kernel
theorem k_59_7 : COD 59 7 = some (.putfield 28, 3, 5, 3, 243, 0) := by decide +kernel
theorem k_59_10 : COD 59 10 = some (.aload_n 0, 1, 0, 0, 0, 0) := by decide +kernel
theorem k_59_11 : COD 59 11 = some (.iconst 0, 1, 0, 0, 0, 0) := by decide +kernel
theorem k_59_12 : COD 59 12 = some (.putfield 31, 3, 5, 4, 246, 0) := by decide +kernel
theorem k_59_15 : COD 59 15 = some (.aload_n 0, 1, 0, 0, 0, 0) := by decide +kernel
theorem k_59_16 : COD 59 16 = some (.getfield 20, 3, 5, 1, 240, 0) := by decide +kernel
theorem k_59_19 : COD 59 19 = some (.astore_n 2, 1, 0, 0, 0, 0) := by decide +kernel
theorem k_59_20 : COD 59 20 = some (.aload_n 2, 1, 0, 0, 0, 0) := by decide +kernel
theorem k_59_21 : COD 59 21 = some (.arraylength, 1, 0, 0, 0, 0) := by decide +kernel
theorem k_59_22 : COD 59 22 = some (.istore_n 3, 1, 0, 0, 0, 0) := by decide +kernel
theorem k_59_23 : COD 59 23 = some (.iconst 0, 1, 0, 0, 0, 0) := by decide +kernel
theorem k_59_24 : COD 59 24 = some (.istore 4, 2, 0, 0, 0, 0) := by decide +kernel
theorem k_59_26 : COD 59 26 = some (.iload 4, 2, 0, 0, 0, 0) := by decide +kernel
theorem k_59_28 : COD 59 28 = some (.iload_n 3, 1, 0, 0, 0, 0) := by decide +kernel
theorem k_59_29 : COD 59 29 = some (.if_icmp .ge 25, 3, 54, 0, 0, 0) := by decide +kernel
theorem k_59_32 : COD 59 32 = some (.aload_n 2, 1, 0, 0, 0, 0) := by decide +kernel
theorem k_59_33 : COD 59 33 = some (.iload 4, 2, 0, 0, 0, 0) := by decide +kernel
theorem k_59_35 : COD 59 35 = some (.aaload, 1, 0, 0, 0, 0) := by decide +kernel
theorem k_59_36 : COD 59 36 = some (.astore 5, 2, 0, 0, 0, 0) := by decide +kernel
theorem k_59_38 : COD 59 38 = some (.aload 5, 2, 0, 0, 0, 0) := by decide +kernel
theorem k_59_40 : COD 59 40 = some (.ifnull 8, 3, 48, 0, 0, 0) := by decide +kernel
theorem k_59_43 : COD 59 43 = some (.aload 5, 2, 0, 0, 0, 0) := by decide +kernel
theorem k_59_45 : COD 59 45 = some (.invokevirtual 34, 3, 1, 0, 280, 0) := by decide +kernel
theorem k_59_48 : COD 59 48 = some (.iinc 4 1, 3, 0, 0, 0, 0) := by decide +kernel
theorem k_59_51 : COD 59 51 = some (.goto (-25), 3, 26, 0, 0, 0) := by decide +kernel
theorem k_59_54 : COD 59 54 = some (.aload_n 0, 1, 0, 0, 0, 0) := by decide +kernel
theorem k_59_55 : COD 59 55 = some (.getfield 14, 3, 5, 0, 237, 0) := by decide +kernel
theorem k_59_58 : COD 59 58 = some (.iconst 0, 1, 0, 0, 0, 0) := by decide +kernel
theorem k_59_59 : COD 59 59 = some (.aload_n 0, 1, 0, 0, 0, 0) := by decide +kernel
theorem k_59_60 : COD 59 60 = some (.getfield 24, 3, 5, 2, 241, 0) := by decide +kernel
theorem k_59_63 : COD 59 63 = some (.iconst 1, 1, 0, 0, 0, 0) := by decide +kernel
theorem k_59_64 : COD 59 64 = some (.isub, 1, 0, 0, 0, 0) := by decide +kernel
theorem k_59_65 : COD 59 65 = some (.invokevirtual 37, 3, 2, 2, 281, 0) := by decide +kernel
theorem k_59_68 : COD 59 68 = some (.iconst 1, 1, 0, 0, 0, 0) := by decide +kernel
theorem k_59_69 : COD 59 69 = some (.istore_n 2, 1, 0, 0, 0, 0) := by decide +kernel
theorem k_59_70 : COD 59 70 = some (.iload_n 2, 1, 0, 0, 0, 0) := by decide +kernel
theorem k_59_71 : COD 59 71 = some (.aload_n 0, 1, 0, 0, 0, 0) := by decide +kernel
theorem k_59_72 : COD 59 72 = some (.getfield 20, 3, 5, 1, 240, 0) := by decide +kernel
theorem k_59_75 : COD 59 75 = some (.arraylength, 1, 0, 0, 0, 0) := by decide +kernel
theorem k_59_76 : COD 59 76 = some (.if_icmp .ge 14, 3, 90, 0, 0, 0) := by decide +kernel
theorem k_59_79 : COD 59 79 = some (.aload_n 0, 1, 0, 0, 0, 0) := by decide +kernel
theorem k_59_80 : COD 59 80 = some (.iload_n 2, 1, 0, 0, 0, 0) := by decide +kernel
theorem k_59_81 : COD 59 81 = some (.invokevirtual 41, 3, 60, 1, 282, 5) := by decide +kernel
theorem k_59_84 : COD 59 84 = some (.iinc 2 1, 3, 0, 0, 0, 0) := by decide +kernel
theorem k_59_87 : COD 59 87 = some (.goto (-17), 3, 70, 0, 0, 0) := by decide +kernel
theorem k_59_90 : COD 59 90 = some (.return_, 1, 0, 0, 0, 0) := by decide +kernel
theorem k_60_0 : COD 60 0 = some (.aload_n 0, 1, 0, 0, 0, 0) := by decide +kernel
theorem k_60_1 : COD 60 1 = some (.iload_n 1, 1, 0, 0, 0, 0) := by decide +kernel
theorem k_60_2 : COD 60 2 = some (.invokevirtual 44, 3, 61, 1, 286, 5) := by decide +kernel
theorem k_60_5 : COD 60 5 = some (.astore_n 2, 1, 0, 0, 0, 0) := by decide +kernel
theorem k_60_6 : COD 60 6 = some (.aload_n 0, 1, 0, 0, 0, 0) := by decide +kernel
theorem k_60_7 : COD 60 7 = some (.iconst 2, 1, 0, 0, 0, 0) := by decide +kernel
theorem k_60_8 : COD 60 8 = some (.iload_n 1, 1, 0, 0, 0, 0) := by decide +kernel
theorem k_60_9 : COD 60 9 = some (.imul, 1, 0, 0, 0, 0) := by decide +kernel
theorem k_60_10 : COD 60 10 = some (.invokevirtual 44, 3, 61, 1, 286, 5) := by decide +kernel
theorem k_60_13 : COD 60 13 = some (.astore_n 3, 1, 0, 0, 0, 0) := by decide +kernel
theorem k_60_14 : COD 60 14 = some (.aload_n 0, 1, 0, 0, 0, 0) := by decide +kernel
theorem k_60_15 : COD 60 15 = some (.iconst 2, 1, 0, 0, 0, 0) := by decide +kernel
theorem k_60_16 : COD 60 16 = some (.iload_n 1, 1, 0, 0, 0, 0) := by decide +kernel
theorem k_60_17 : COD 60 17 = some (.imul, 1, 0, 0, 0, 0) := by decide +kernel
theorem k_60_18 : COD 60 18 = some (.iconst 1, 1, 0, 0, 0, 0) := by decide +kernel
theorem k_60_19 : COD 60 19 = some (.iadd, 1, 0, 0, 0, 0) := by decide +kernel
theorem k_60_20 : COD 60 20 = some (.invokevirtual 44, 3, 61, 1, 286, 5) := by decide +kernel
theorem k_60_23 : COD 60 23 = some (.astore 4, 2, 0, 0, 0, 0) := by decide +kernel
theorem k_60_25 : COD 60 25 = some (.aload_n 2, 1, 0, 0, 0, 0) := by decide +kernel
theorem k_60_26 : COD 60 26 = some (.ifnull 23, 3, 49, 0, 0, 0) := by decide +kernel
theorem k_60_29 : COD 60 29 = some (.aload_n 3, 1, 0, 0, 0, 0) := by decide +kernel
theorem k_60_30 : COD 60 30 = some (.ifnull 19, 3, 49, 0, 0, 0) := by decide +kernel
theorem k_60_33 : COD 60 33 = some (.aload 4, 2, 0, 0, 0, 0) := by decide +kernel
theorem k_60_35 : COD 60 35 = some (.ifnull 14, 3, 49, 0, 0, 0) := by decide +kernel
theorem k_60_38 : COD 60 38 = some (.aload_n 2, 1, 0, 0, 0, 0) := by decide +kernel
theorem k_60_39 : COD 60 39 = some (.getfield 48, 3, 0, 2, 186, 0) := by decide +kernel
theorem k_60_42 : COD 60 42 = some (.aload_n 2, 1, 0, 0, 0, 0) := by decide +kernel
theorem k_60_43 : COD 60 43 = some (.getfield 51, 3, 0, 1, 183, 0) := by decide +kernel
theorem k_60_46 : COD 60 46 = some (.if_icmp .gt 4, 3, 50, 0, 0, 0) := by decide +kernel
theorem k_60_49 : COD 60 49 = some (.return_, 1, 0, 0, 0, 0) := by decide +kernel
theorem k_60_50 : COD 60 50 = some (.aload_n 2, 1, 0, 0, 0, 0) := by decide +kernel
theorem k_60_51 : COD 60 51 = some (.getfield 51, 3, 0, 1, 183, 0) := by decide +kernel
theorem k_60_54 : COD 60 54 = some (.aload_n 2, 1, 0, 0, 0, 0) := by decide +kernel
theorem k_60_55 : COD 60 55 = some (.getfield 48, 3, 0, 2, 186, 0) := by decide +kernel
theorem k_60_58 : COD 60 58 = some (.iadd, 1, 0, 0, 0, 0) := by decide +kernel
theorem k_60_59 : COD 60 59 = some (.iconst 2, 1, 0, 0, 0, 0) := by decide +kernel
theorem k_60_60 : COD 60 60 = some (.idiv, 1, 0, 0, 0, 0) := by decide +kernel
theorem k_60_61 : COD 60 61 = some (.istore 5, 2, 0, 0, 0, 0) := by decide +kernel
theorem k_60_63 : COD 60 63 = some (.aload_n 3, 1, 0, 0, 0, 0) := by decide +kernel
theorem k_60_64 : COD 60 64 = some (.aload_n 2, 1, 0, 0, 0, 0) := by decide +kernel
theorem k_60_65 : COD 60 65 = some (.getfield 51, 3, 0, 1, 183, 0) := by decide +kernel
theorem k_60_68 : COD 60 68 = some (.iload 5, 2, 0, 0, 0, 0) := by decide +kernel
theorem k_60_70 : COD 60 70 = some (.invokevirtual 37, 3, 2, 2, 281, 0) := by decide +kernel
theorem k_60_73 : COD 60 73 = some (.aload 4, 2, 0, 0, 0, 0) := by decide +kernel
theorem k_60_75 : COD 60 75 = some (.iload 5, 2, 0, 0, 0, 0) := by decide +kernel
theorem k_60_77 : COD 60 77 = some (.iconst 1, 1, 0, 0, 0, 0) := by decide +kernel
theorem k_60_78 : COD 60 78 = some (.iadd, 1, 0, 0, 0, 0) := by decide +kernel
theorem k_60_79 : COD 60 79 = some (.aload_n 2, 1, 0, 0, 0, 0) := by decide +kernel
theorem k_60_80 : COD 60 80 = some (.getfield 48, 3, 0, 2, 186, 0) := by decide +kernel
theorem k_60_83 : COD 60 83 = some (.invokevirtual 37, 3, 2, 2, 281, 0) := by decide +kernel
theorem k_60_86 : COD 60 86 = some (.aload_n 2, 1, 0, 0, 0, 0) := by decide +kernel
theorem k_60_87 : COD 60 87 = some (.aload_n 3, 1, 0, 0, 0, 0) := by decide +kernel
theorem k_60_88 : COD 60 88 = some (.putfield 54, 3, 0, 9, 210, 0) := by decide +kernel
theorem k_60_91 : COD 60 91 = some (.aload_n 2, 1, 0, 0, 0, 0) := by decide +kernel
theorem k_60_92 : COD 60 92 = some (.aload 4, 2, 0, 0, 0, 0) := by decide +kernel
theorem k_60_94 : COD 60 94 = some (.putfield 57, 3, 0, 10, 212, 0) := by decide +kernel
theorem k_60_97 : COD 60 97 = some (.return_, 1, 0, 0, 0, 0) := by decide +kernel
theorem k_61_0 : COD 61 0 = some (.iload_n 1, 1, 0, 0, 0, 0) := by decide +kernel
theorem k_61_1 : COD 61 1 = some (.ifCond .lt 21, 3, 22, 0, 0, 0) := by decide +kernel
theorem k_61_4 : COD 61 4 = some (.iload_n 1, 1, 0, 0, 0, 0) := by decide +kernel
theorem k_61_5 : COD 61 5 = some (.aload_n 0, 1, 0, 0, 0, 0) := by decide +kernel
theorem k_61_6 : COD 61 6 = some (.getfield 20, 3, 5, 1, 240, 0) := by decide +kernel
theorem k_61_9 : COD 61 9 = some (.arraylength, 1, 0, 0, 0, 0) := by decide +kernel
theorem k_61_10 : COD 61 10 = some (.if_icmp .ge 12, 3, 22, 0, 0, 0) := by decide +kernel
theorem k_61_13 : COD 61 13 = some (.aload_n 0, 1, 0, 0, 0, 0) := by decide +kernel
theorem k_61_14 : COD 61 14 = some (.getfield 20, 3, 5, 1, 240, 0) := by decide +kernel
theorem k_61_17 : COD 61 17 = some (.iload_n 1, 1, 0, 0, 0, 0) := by decide +kernel
theorem k_61_18 : COD 61 18 = some (.aaload, 1, 0, 0, 0, 0) := by decide +kernel
theorem k_61_19 : COD 61 19 = some (.goto 4, 3, 23, 0, 0, 0) := by decide +kernel
theorem k_61_22 : COD 61 22 = some (.aconst_null, 1, 0, 0, 0, 0) := by decide +kernel
theorem k_61_23 : COD 61 23 = some (.areturn, 1, 0, 0, 0, 0) := by decide +kernel
theorem k_62_0 : COD 62 0 = some (.aload_n 0, 1, 0, 0, 0, 0) := by decide +kernel
theorem k_62_1 : COD 62 1 = some (.iload_n 1, 1, 0, 0, 0, 0) := by decide +kernel
theorem k_62_2 : COD 62 2 = some (.invokevirtual 44, 3, 61, 1, 286, 5) := by decide +kernel
theorem k_62_5 : COD 62 5 = some (.astore_n 2, 1, 0, 0, 0, 0) := by decide +kernel
theorem k_62_6 : COD 62 6 = some (.aload_n 2, 1, 0, 0, 0, 0) := by decide +kernel
theorem k_62_7 : COD 62 7 = some (.ifnull 14, 3, 21, 0, 0, 0) := by decide +kernel
theorem k_62_10 : COD 62 10 = some (.aload_n 2, 1, 0, 0, 0, 0) := by decide +kernel
theorem k_62_11 : COD 62 11 = some (.invokevirtual 60, 3, 4, 0, 338, 0) := by decide +kernel
theorem k_62_14 : COD 62 14 = some (.ifCond .eq 7, 3, 21, 0, 0, 0) := by decide +kernel
theorem k_62_17 : COD 62 17 = some (.aload_n 2, 1, 0, 0, 0, 0) := by decide +kernel
theorem k_62_18 : COD 62 18 = some (.goto 4, 3, 22, 0, 0, 0) := by decide +kernel
theorem k_62_21 : COD 62 21 = some (.aconst_null, 1, 0, 0, 0, 0) := by decide +kernel
theorem k_62_22 : COD 62 22 = some (.areturn, 1, 0, 0, 0, 0) := by decide +kernel
theorem k_63_0 : COD 63 0 = some (.aload_n 0, 1, 0, 0, 0, 0) := by decide +kernel
theorem k_63_1 : COD 63 1 = some (.aload_n 1, 1, 0, 0, 0, 0) := by decide +kernel
theorem k_63_2 : COD 63 2 = some (.getfield 28, 3, 5, 3, 243, 0) := by decide +kernel
theorem k_63_5 : COD 63 5 = some (.putfield 28, 3, 5, 3, 243, 0) := by decide +kernel
theorem k_63_8 : COD 63 8 = some (.aload_n 0, 1, 0, 0, 0, 0) := by decide +kernel
theorem k_63_9 : COD 63 9 = some (.aload_n 1, 1, 0, 0, 0, 0) := by decide +kernel
theorem k_63_10 : COD 63 10 = some (.getfield 31, 3, 5, 4, 246, 0) := by decide +kernel
theorem k_63_13 : COD 63 13 = some (.putfield 31, 3, 5, 4, 246, 0) := by decide +kernel
theorem k_63_16 : COD 63 16 = some (.iconst 1, 1, 0, 0, 0, 0) := by decide +kernel
theorem k_63_17 : COD 63 17 = some (.istore_n 2, 1, 0, 0, 0, 0) := by decide +kernel
theorem k_63_18 : COD 63 18 = some (.iload_n 2, 1, 0, 0, 0, 0) := by decide +kernel
theorem k_63_19 : COD 63 19 = some (.aload_n 0, 1, 0, 0, 0, 0) := by decide +kernel
theorem k_63_20 : COD 63 20 = some (.getfield 20, 3, 5, 1, 240, 0) := by decide +kernel
theorem k_63_23 : COD 63 23 = some (.arraylength, 1, 0, 0, 0, 0) := by decide +kernel
theorem k_63_24 : COD 63 24 = some (.if_icmp .ge 37, 3, 61, 0, 0, 0) := by decide +kernel
theorem k_63_27 : COD 63 27 = some (.aload_n 0, 1, 0, 0, 0, 0) := by decide +kernel
theorem k_63_28 : COD 63 28 = some (.iload_n 2, 1, 0, 0, 0, 0) := by decide +kernel
theorem k_63_29 : COD 63 29 = some (.invokevirtual 44, 3, 61, 1, 286, 5) := by decide +kernel
theorem k_63_32 : COD 63 32 = some (.astore_n 3, 1, 0, 0, 0, 0) := by decide +kernel
theorem k_63_33 : COD 63 33 = some (.aload_n 1, 1, 0, 0, 0, 0) := by decide +kernel
theorem k_63_34 : COD 63 34 = some (.iload_n 2, 1, 0, 0, 0, 0) := by decide +kernel
theorem k_63_35 : COD 63 35 = some (.invokevirtual 44, 3, 61, 1, 286, 5) := by decide +kernel
theorem k_63_38 : COD 63 38 = some (.astore 4, 2, 0, 0, 0, 0) := by decide +kernel
theorem k_63_40 : COD 63 40 = some (.aload_n 3, 1, 0, 0, 0, 0) := by decide +kernel
theorem k_63_41 : COD 63 41 = some (.ifnull 14, 3, 55, 0, 0, 0) := by decide +kernel
theorem k_63_44 : COD 63 44 = some (.aload 4, 2, 0, 0, 0, 0) := by decide +kernel
theorem k_63_46 : COD 63 46 = some (.ifnull 9, 3, 55, 0, 0, 0) := by decide +kernel
theorem k_63_49 : COD 63 49 = some (.aload_n 3, 1, 0, 0, 0, 0) := by decide +kernel
theorem k_63_50 : COD 63 50 = some (.aload 4, 2, 0, 0, 0, 0) := by decide +kernel
theorem k_63_52 : COD 63 52 = some (.invokevirtual 64, 3, 3, 1, 499, 0) := by decide +kernel
theorem k_63_55 : COD 63 55 = some (.iinc 2 1, 3, 0, 0, 0, 0) := by decide +kernel
theorem k_63_58 : COD 63 58 = some (.goto (-40), 3, 18, 0, 0, 0) := by decide +kernel
theorem k_63_61 : COD 63 61 = some (.return_, 1, 0, 0, 0, 0) := by decide +kernel
theorem k_64_0 : COD 64 0 = some (.iconst 0, 1, 0, 0, 0, 0) := by decide +kernel
theorem k_64_1 : COD 64 1 = some (.istore_n 1, 1, 0, 0, 0, 0) := by decide +kernel
theorem k_64_2 : COD 64 2 = some (.iconst 1, 1, 0, 0, 0, 0) := by decide +kernel
theorem k_64_3 : COD 64 3 = some (.istore_n 2, 1, 0, 0, 0, 0) := by decide +kernel
theorem k_64_4 : COD 64 4 = some (.iload_n 2, 1, 0, 0, 0, 0) := by decide +kernel
theorem k_64_5 : COD 64 5 = some (.aload_n 0, 1, 0, 0, 0, 0) := by decide +kernel
theorem k_64_6 : COD 64 6 = some (.getfield 20, 3, 5, 1, 240, 0) := by decide +kernel
theorem k_64_9 : COD 64 9 = some (.arraylength, 1, 0, 0, 0, 0) := by decide +kernel
theorem k_64_10 : COD 64 10 = some (.if_icmp .ge 25, 3, 35, 0, 0, 0) := by decide +kernel
theorem k_64_13 : COD 64 13 = some (.iload_n 1, 1, 0, 0, 0, 0) := by decide +kernel
theorem k_64_14 : COD 64 14 = some (.aload_n 0, 1, 0, 0, 0, 0) := by decide +kernel
theorem k_64_15 : COD 64 15 = some (.iload_n 2, 1, 0, 0, 0, 0) := by decide +kernel
theorem k_64_16 : COD 64 16 = some (.invokevirtual 68, 3, 62, 1, 334, 5) := by decide +kernel
theorem k_64_19 : COD 64 19 = some (.ifnull 7, 3, 26, 0, 0, 0) := by decide +kernel
theorem k_64_22 : COD 64 22 = some (.iconst 1, 1, 0, 0, 0, 0) := by decide +kernel
theorem k_64_23 : COD 64 23 = some (.goto 4, 3, 27, 0, 0, 0) := by decide +kernel
theorem k_64_26 : COD 64 26 = some (.iconst 0, 1, 0, 0, 0, 0) := by decide +kernel
theorem k_64_27 : COD 64 27 = some (.iadd, 1, 0, 0, 0, 0) := by decide +kernel
theorem k_64_28 : COD 64 28 = some (.istore_n 1, 1, 0, 0, 0, 0) := by decide +kernel
theorem k_64_29 : COD 64 29 = some (.iinc 2 1, 3, 0, 0, 0, 0) := by decide +kernel
theorem k_64_32 : COD 64 32 = some (.goto (-28), 3, 4, 0, 0, 0) := by decide +kernel
theorem k_64_35 : COD 64 35 = some (.iload_n 1, 1, 0, 0, 0, 0) := by decide +kernel
theorem k_64_36 : COD 64 36 = some (.ireturn, 1, 0, 0, 0, 0) := by decide +kernel
theorem k_65_0 : COD 65 0 = some (.iconst 0, 1, 0, 0, 0, 0) := by decide +kernel
theorem k_65_1 : COD 65 1 = some (.istore_n 1, 1, 0, 0, 0, 0) := by decide +kernel
theorem k_65_2 : COD 65 2 = some (.iconst 1, 1, 0, 0, 0, 0) := by decide +kernel
theorem k_65_3 : COD 65 3 = some (.istore_n 2, 1, 0, 0, 0, 0) := by decide +kernel
theorem k_65_4 : COD 65 4 = some (.iload_n 2, 1, 0, 0, 0, 0) := by decide +kernel
theorem k_65_5 : COD 65 5 = some (.aload_n 0, 1, 0, 0, 0, 0) := by decide +kernel
theorem k_65_6 : COD 65 6 = some (.getfield 20, 3, 5, 1, 240, 0) := by decide +kernel
theorem k_65_9 : COD 65 9 = some (.arraylength, 1, 0, 0, 0, 0) := by decide +kernel
theorem k_65_10 : COD 65 10 = some (.if_icmp .ge 34, 3, 44, 0, 0, 0) := by decide +kernel
theorem k_65_13 : COD 65 13 = some (.aload_n 0, 1, 0, 0, 0, 0) := by decide +kernel
theorem k_65_14 : COD 65 14 = some (.iload_n 2, 1, 0, 0, 0, 0) := by decide +kernel
theorem k_65_15 : COD 65 15 = some (.invokevirtual 68, 3, 62, 1, 334, 5) := by decide +kernel
theorem k_65_18 : COD 65 18 = some (.astore_n 3, 1, 0, 0, 0, 0) := by decide +kernel
theorem k_65_19 : COD 65 19 = some (.iload_n 1, 1, 0, 0, 0, 0) := by decide +kernel
theorem k_65_20 : COD 65 20 = some (.aload_n 3, 1, 0, 0, 0, 0) := by decide +kernel
theorem k_65_21 : COD 65 21 = some (.ifnull 14, 3, 35, 0, 0, 0) := by decide +kernel
theorem k_65_24 : COD 65 24 = some (.aload_n 3, 1, 0, 0, 0, 0) := by decide +kernel
theorem k_65_25 : COD 65 25 = some (.invokevirtual 71, 3, 5, 0, 342, 0) := by decide +kernel
theorem k_65_28 : COD 65 28 = some (.ifCond .eq 7, 3, 35, 0, 0, 0) := by decide +kernel
theorem k_65_31 : COD 65 31 = some (.iconst 1, 1, 0, 0, 0, 0) := by decide +kernel
theorem k_65_32 : COD 65 32 = some (.goto 4, 3, 36, 0, 0, 0) := by decide +kernel
theorem k_65_35 : COD 65 35 = some (.iconst 0, 1, 0, 0, 0, 0) := by decide +kernel
theorem k_65_36 : COD 65 36 = some (.iadd, 1, 0, 0, 0, 0) := by decide +kernel
theorem k_65_37 : COD 65 37 = some (.istore_n 1, 1, 0, 0, 0, 0) := by decide +kernel
theorem k_65_38 : COD 65 38 = some (.iinc 2 1, 3, 0, 0, 0, 0) := by decide +kernel
theorem k_65_41 : COD 65 41 = some (.goto (-37), 3, 4, 0, 0, 0) := by decide +kernel
theorem k_65_44 : COD 65 44 = some (.iload_n 1, 1, 0, 0, 0, 0) := by decide +kernel
theorem k_65_45 : COD 65 45 = some (.ireturn, 1, 0, 0, 0, 0) := by decide +kernel
theorem k_66_0 : COD 66 0 = some (.iconst 0, 1, 0, 0, 0, 0) := by decide +kernel
theorem k_66_1 : COD 66 1 = some (.istore_n 2, 1, 0, 0, 0, 0) := by decide +kernel
theorem k_66_2 : COD 66 2 = some (.iconst 1, 1, 0, 0, 0, 0) := by decide +kernel
theorem k_66_3 : COD 66 3 = some (.istore_n 3, 1, 0, 0, 0, 0) := by decide +kernel
theorem k_66_4 : COD 66 4 = some (.iload_n 3, 1, 0, 0, 0, 0) := by decide +kernel
theorem k_66_5 : COD 66 5 = some (.aload_n 0, 1, 0, 0, 0, 0) := by decide +kernel
theorem k_66_6 : COD 66 6 = some (.getfield 20, 3, 5, 1, 240, 0) := by decide +kernel
theorem k_66_9 : COD 66 9 = some (.arraylength, 1, 0, 0, 0, 0) := by decide +kernel
theorem k_66_10 : COD 66 10 = some (.if_icmp .ge 47, 3, 57, 0, 0, 0) := by decide +kernel
theorem k_66_13 : COD 66 13 = some (.aload_n 0, 1, 0, 0, 0, 0) := by decide +kernel
theorem k_66_14 : COD 66 14 = some (.iload_n 3, 1, 0, 0, 0, 0) := by decide +kernel
theorem k_66_15 : COD 66 15 = some (.invokevirtual 68, 3, 62, 1, 334, 5) := by decide +kernel
theorem k_66_18 : COD 66 18 = some (.astore 4, 2, 0, 0, 0, 0) := by decide +kernel
theorem k_66_20 : COD 66 20 = some (.iload_n 2, 1, 0, 0, 0, 0) := by decide +kernel
theorem k_66_21 : COD 66 21 = some (.aload 4, 2, 0, 0, 0, 0) := by decide +kernel
theorem k_66_23 : COD 66 23 = some (.ifnull 25, 3, 48, 0, 0, 0) := by decide +kernel
theorem k_66_26 : COD 66 26 = some (.aload 4, 2, 0, 0, 0, 0) := by decide +kernel
theorem k_66_28 : COD 66 28 = some (.iload_n 1, 1, 0, 0, 0, 0) := by decide +kernel
theorem k_66_29 : COD 66 29 = some (.iload_n 1, 1, 0, 0, 0, 0) := by decide +kernel
theorem k_66_30 : COD 66 30 = some (.invokevirtual 74, 3, 7, 2, 487, 0) := by decide +kernel
theorem k_66_33 : COD 66 33 = some (.ifCond .eq 15, 3, 48, 0, 0, 0) := by decide +kernel
theorem k_66_36 : COD 66 36 = some (.aload 4, 2, 0, 0, 0, 0) := by decide +kernel
theorem k_66_38 : COD 66 38 = some (.invokevirtual 71, 3, 5, 0, 342, 0) := by decide +kernel
theorem k_66_41 : COD 66 41 = some (.ifCond .eq 7, 3, 48, 0, 0, 0) := by decide +kernel
theorem k_66_44 : COD 66 44 = some (.iconst 1, 1, 0, 0, 0, 0) := by decide +kernel
theorem k_66_45 : COD 66 45 = some (.goto 4, 3, 49, 0, 0, 0) := by decide +kernel
theorem k_66_48 : COD 66 48 = some (.iconst 0, 1, 0, 0, 0, 0) := by decide +kernel
theorem k_66_49 : COD 66 49 = some (.iadd, 1, 0, 0, 0, 0) := by decide +kernel
theorem k_66_50 : COD 66 50 = some (.istore_n 2, 1, 0, 0, 0, 0) := by decide +kernel
theorem k_66_51 : COD 66 51 = some (.iinc 3 1, 3, 0, 0, 0, 0) := by decide +kernel
theorem k_66_54 : COD 66 54 = some (.goto (-50), 3, 4, 0, 0, 0) := by decide +kernel
theorem k_66_57 : COD 66 57 = some (.iload_n 2, 1, 0, 0, 0, 0) := by decide +kernel
theorem k_66_58 : COD 66 58 = some (.ireturn, 1, 0, 0, 0, 0) := by decide +kernel
theorem k_67_0 : COD 67 0 = some (.iconst 0, 1, 0, 0, 0, 0) := by decide +kernel
theorem k_67_1 : COD 67 1 = some (.istore_n 2, 1, 0, 0, 0, 0) := by decide +kernel
theorem k_67_2 : COD 67 2 = some (.aload_n 0, 1, 0, 0, 0, 0) := by decide +kernel
theorem k_67_3 : COD 67 3 = some (.getfield 14, 3, 5, 0, 237, 0) := by decide +kernel
theorem k_67_6 : COD 67 6 = some (.astore_n 3, 1, 0, 0, 0, 0) := by decide +kernel
theorem k_67_7 : COD 67 7 = some (.iconst 0, 1, 0, 0, 0, 0) := by decide +kernel
theorem k_67_8 : COD 67 8 = some (.istore 4, 2, 0, 0, 0, 0) := by decide +kernel
theorem k_67_10 : COD 67 10 = some (.iload 4, 2, 0, 0, 0, 0) := by decide +kernel
theorem k_67_12 : COD 67 12 = some (.bipush 6, 2, 0, 0, 0, 0) := by decide +kernel
theorem k_67_14 : COD 67 14 = some (.if_icmp .ge 77, 3, 91, 0, 0, 0) := by decide +kernel
theorem k_67_17 : COD 67 17 = some (.aload_n 3, 1, 0, 0, 0, 0) := by decide +kernel
theorem k_67_18 : COD 67 18 = some (.getfield 54, 3, 0, 9, 210, 0) := by decide +kernel
theorem k_67_21 : COD 67 21 = some (.astore 5, 2, 0, 0, 0, 0) := by decide +kernel
theorem k_67_23 : COD 67 23 = some (.aload_n 3, 1, 0, 0, 0, 0) := by decide +kernel
theorem k_67_24 : COD 67 24 = some (.getfield 57, 3, 0, 10, 212, 0) := by decide +kernel
theorem k_67_27 : COD 67 27 = some (.astore 6, 2, 0, 0, 0, 0) := by decide +kernel
theorem k_67_29 : COD 67 29 = some (.aload 5, 2, 0, 0, 0, 0) := by decide +kernel
theorem k_67_31 : COD 67 31 = some (.ifnull 60, 3, 91, 0, 0, 0) := by decide +kernel
theorem k_67_34 : COD 67 34 = some (.aload 6, 2, 0, 0, 0, 0) := by decide +kernel
theorem k_67_36 : COD 67 36 = some (.ifnonnull 6, 3, 42, 0, 0, 0) := by decide +kernel
theorem k_67_39 : COD 67 39 = some (.goto 52, 3, 91, 0, 0, 0) := by decide +kernel
theorem k_67_42 : COD 67 42 = some (.aload_n 3, 1, 0, 0, 0, 0) := by decide +kernel
theorem k_67_43 : COD 67 43 = some (.getfield 78, 3, 0, 7, 204, 0) := by decide +kernel
theorem k_67_46 : COD 67 46 = some (.ifCond .eq 15, 3, 61, 0, 0, 0) := by decide +kernel
theorem k_67_49 : COD 67 49 = some (.aload_n 3, 1, 0, 0, 0, 0) := by decide +kernel
theorem k_67_50 : COD 67 50 = some (.getfield 82, 3, 0, 8, 207, 0) := by decide +kernel
theorem k_67_53 : COD 67 53 = some (.aload_n 3, 1, 0, 0, 0, 0) := by decide +kernel
theorem k_67_54 : COD 67 54 = some (.getfield 85, 3, 0, 6, 201, 0) := by decide +kernel
theorem k_67_57 : COD 67 57 = some (.iadd, 1, 0, 0, 0, 0) := by decide +kernel
theorem k_67_58 : COD 67 58 = some (.iload_n 2, 1, 0, 0, 0, 0) := by decide +kernel
theorem k_67_59 : COD 67 59 = some (.iadd, 1, 0, 0, 0, 0) := by decide +kernel
theorem k_67_60 : COD 67 60 = some (.ireturn, 1, 0, 0, 0, 0) := by decide +kernel
theorem k_67_61 : COD 67 61 = some (.iload_n 2, 1, 0, 0, 0, 0) := by decide +kernel
theorem k_67_62 : COD 67 62 = some (.aload_n 3, 1, 0, 0, 0, 0) := by decide +kernel
theorem k_67_63 : COD 67 63 = some (.getfield 85, 3, 0, 6, 201, 0) := by decide +kernel
theorem k_67_66 : COD 67 66 = some (.iadd, 1, 0, 0, 0, 0) := by decide +kernel
theorem k_67_67 : COD 67 67 = some (.istore_n 2, 1, 0, 0, 0, 0) := by decide +kernel
theorem k_67_68 : COD 67 68 = some (.iload_n 1, 1, 0, 0, 0, 0) := by decide +kernel
theorem k_67_69 : COD 67 69 = some (.aload 5, 2, 0, 0, 0, 0) := by decide +kernel
theorem k_67_71 : COD 67 71 = some (.getfield 48, 3, 0, 2, 186, 0) := by decide +kernel
theorem k_67_74 : COD 67 74 = some (.if_icmp .gt 8, 3, 82, 0, 0, 0) := by decide +kernel
theorem k_67_77 : COD 67 77 = some (.aload 5, 2, 0, 0, 0, 0) := by decide +kernel
theorem k_67_79 : COD 67 79 = some (.goto 5, 3, 84, 0, 0, 0) := by decide +kernel
theorem k_67_82 : COD 67 82 = some (.aload 6, 2, 0, 0, 0, 0) := by decide +kernel
theorem k_67_84 : COD 67 84 = some (.astore_n 3, 1, 0, 0, 0, 0) := by decide +kernel
theorem k_67_85 : COD 67 85 = some (.iinc 4 1, 3, 0, 0, 0, 0) := by decide +kernel
theorem k_67_88 : COD 67 88 = some (.goto (-78), 3, 10, 0, 0, 0) := by decide +kernel
theorem k_67_91 : COD 67 91 = some (.aload_n 3, 1, 0, 0, 0, 0) := by decide +kernel
theorem k_67_92 : COD 67 92 = some (.getfield 88, 3, 0, 4, 194, 0) := by decide +kernel
theorem k_67_95 : COD 67 95 = some (.iload_n 2, 1, 0, 0, 0, 0) := by decide +kernel
theorem k_67_96 : COD 67 96 = some (.iadd, 1, 0, 0, 0, 0) := by decide +kernel
theorem k_67_97 : COD 67 97 = some (.ireturn, 1, 0, 0, 0, 0) := by decide +kernel
theorem k_68_0 : COD 68 0 = some (.aload_n 0, 1, 0, 0, 0, 0) := by decide +kernel
theorem k_68_1 : COD 68 1 = some (.iconst 0, 1, 0, 0, 0, 0) := by decide +kernel
theorem k_68_2 : COD 68 2 = some (.putfield 91, 3, 5, 5, 249, 0) := by decide +kernel
theorem k_68_5 : COD 68 5 = some (.aload_n 0, 1, 0, 0, 0, 0) := by decide +kernel
theorem k_68_6 : COD 68 6 = some (.lconst 0, 1, 0, 0, 0, 0) := by decide +kernel
theorem k_68_7 : COD 68 7 = some (.putfield 94, 3, 5, 6, 251, 0) := by decide +kernel
theorem k_68_10 : COD 68 10 = some (.aload_n 0, 1, 0, 0, 0, 0) := by decide +kernel
theorem k_68_11 : COD 68 11 = some (.aload_n 0, 1, 0, 0, 0, 0) := by decide +kernel
theorem k_68_12 : COD 68 12 = some (.getfield 14, 3, 5, 0, 237, 0) := by decide +kernel
theorem k_68_15 : COD 68 15 = some (.iload_n 1, 1, 0, 0, 0, 0) := by decide +kernel
theorem k_68_16 : COD 68 16 = some (.iload_n 2, 1, 0, 0, 0, 0) := by decide +kernel
theorem k_68_17 : COD 68 17 = some (.iload_n 3, 1, 0, 0, 0, 0) := by decide +kernel
theorem k_68_18 : COD 68 18 = some (.iload 4, 2, 0, 0, 0, 0) := by decide +kernel
theorem k_68_20 : COD 68 20 = some (.iconst 0, 1, 0, 0, 0, 0) := by decide +kernel
theorem k_68_21 : COD 68 21 = some (.invokevirtual 98, 3, 69, 6, 507, 5) := by decide +kernel
theorem k_68_24 : COD 68 24 = some (.return_, 1, 0, 0, 0, 0) := by decide +kernel
theorem k_69_0 : COD 69 0 = some (.aload_n 1, 1, 0, 0, 0, 0) := by decide +kernel
theorem k_69_1 : COD 69 1 = some (.iload_n 2, 1, 0, 0, 0, 0) := by decide +kernel
theorem k_69_2 : COD 69 2 = some (.iload_n 3, 1, 0, 0, 0, 0) := by decide +kernel
theorem k_69_3 : COD 69 3 = some (.invokevirtual 102, 3, 6, 2, 511, 0) := by decide +kernel
theorem k_69_6 : COD 69 6 = some (.ifCond .eq 13, 3, 19, 0, 0, 0) := by decide +kernel
theorem k_69_9 : COD 69 9 = some (.aload_n 0, 1, 0, 0, 0, 0) := by decide +kernel
theorem k_69_10 : COD 69 10 = some (.aload_n 1, 1, 0, 0, 0, 0) := by decide +kernel
theorem k_69_11 : COD 69 11 = some (.iload 4, 2, 0, 0, 0, 0) := by decide +kernel
theorem k_69_13 : COD 69 13 = some (.iload 5, 2, 0, 0, 0, 0) := by decide +kernel
theorem k_69_15 : COD 69 15 = some (.invokevirtual 105, 3, 70, 3, 515, 5) := by decide +kernel
theorem k_69_18 : COD 69 18 = some (.return_, 1, 0, 0, 0, 0) := by decide +kernel
theorem k_69_19 : COD 69 19 = some (.aload_n 1, 1, 0, 0, 0, 0) := by decide +kernel
theorem k_69_20 : COD 69 20 = some (.getfield 54, 3, 0, 9, 210, 0) := by decide +kernel
theorem k_69_23 : COD 69 23 = some (.astore 7, 2, 0, 0, 0, 0) := by decide +kernel
theorem k_69_25 : COD 69 25 = some (.aload_n 1, 1, 0, 0, 0, 0) := by decide +kernel
theorem k_69_26 : COD 69 26 = some (.getfield 57, 3, 0, 10, 212, 0) := by decide +kernel
theorem k_69_29 : COD 69 29 = some (.astore 8, 2, 0, 0, 0, 0) := by decide +kernel
theorem k_69_31 : COD 69 31 = some (.aload 7, 2, 0, 0, 0, 0) := by decide +kernel
theorem k_69_33 : COD 69 33 = some (.ifnull 15, 3, 48, 0, 0, 0) := by decide +kernel
theorem k_69_36 : COD 69 36 = some (.aload 8, 2, 0, 0, 0, 0) := by decide +kernel
theorem k_69_38 : COD 69 38 = some (.ifnull 10, 3, 48, 0, 0, 0) := by decide +kernel
theorem k_69_41 : COD 69 41 = some (.iload 6, 2, 0, 0, 0, 0) := by decide +kernel
theorem k_69_43 : COD 69 43 = some (.bipush 6, 2, 0, 0, 0, 0) := by decide +kernel
theorem k_69_45 : COD 69 45 = some (.if_icmp .lt 4, 3, 49, 0, 0, 0) := by decide +kernel
theorem k_69_48 : COD 69 48 = some (.return_, 1, 0, 0, 0, 0) := by decide +kernel
theorem k_69_49 : COD 69 49 = some (.aload_n 0, 1, 0, 0, 0, 0) := by decide +kernel
theorem k_69_50 : COD 69 50 = some (.dup, 1, 0, 0, 0, 0) := by decide +kernel
theorem k_69_51 : COD 69 51 = some (.getfield 31, 3, 5, 4, 246, 0) := by decide +kernel
theorem k_69_54 : COD 69 54 = some (.aload_n 1, 1, 0, 0, 0, 0) := by decide +kernel
theorem k_69_55 : COD 69 55 = some (.invokevirtual 109, 3, 10, 0, 533, 0) := by decide +kernel
theorem k_69_58 : COD 69 58 = some (.iadd, 1, 0, 0, 0, 0) := by decide +kernel
theorem k_69_59 : COD 69 59 = some (.putfield 31, 3, 5, 4, 246, 0) := by decide +kernel
theorem k_69_62 : COD 69 62 = some (.aload 7, 2, 0, 0, 0, 0) := by decide +kernel
theorem k_69_64 : COD 69 64 = some (.iload_n 2, 1, 0, 0, 0, 0) := by decide +kernel
theorem k_69_65 : COD 69 65 = some (.iload_n 3, 1, 0, 0, 0, 0) := by decide +kernel
theorem k_69_66 : COD 69 66 = some (.invokevirtual 74, 3, 7, 2, 487, 0) := by decide +kernel
theorem k_69_69 : COD 69 69 = some (.ifCond .eq 19, 3, 88, 0, 0, 0) := by decide +kernel
theorem k_69_72 : COD 69 72 = some (.aload_n 0, 1, 0, 0, 0, 0) := by decide +kernel
theorem k_69_73 : COD 69 73 = some (.aload 7, 2, 0, 0, 0, 0) := by decide +kernel
theorem k_69_75 : COD 69 75 = some (.iload_n 2, 1, 0, 0, 0, 0) := by decide +kernel
theorem k_69_76 : COD 69 76 = some (.iload_n 3, 1, 0, 0, 0, 0) := by decide +kernel
theorem k_69_77 : COD 69 77 = some (.iload 4, 2, 0, 0, 0, 0) := by decide +kernel
theorem k_69_79 : COD 69 79 = some (.iload 5, 2, 0, 0, 0, 0) := by decide +kernel
theorem k_69_81 : COD 69 81 = some (.iload 6, 2, 0, 0, 0, 0) := by decide +kernel
theorem k_69_83 : COD 69 83 = some (.iconst 1, 1, 0, 0, 0, 0) := by decide +kernel
theorem k_69_84 : COD 69 84 = some (.iadd, 1, 0, 0, 0, 0) := by decide +kernel
theorem k_69_85 : COD 69 85 = some (.invokevirtual 98, 3, 69, 6, 507, 5) := by decide +kernel
theorem k_69_88 : COD 69 88 = some (.aload 8, 2, 0, 0, 0, 0) := by decide +kernel
theorem k_69_90 : COD 69 90 = some (.iload_n 2, 1, 0, 0, 0, 0) := by decide +kernel
theorem k_69_91 : COD 69 91 = some (.iload_n 3, 1, 0, 0, 0, 0) := by decide +kernel
theorem k_69_92 : COD 69 92 = some (.invokevirtual 74, 3, 7, 2, 487, 0) := by decide +kernel
theorem k_69_95 : COD 69 95 = some (.ifCond .eq 19, 3, 114, 0, 0, 0) := by decide +kernel
theorem k_69_98 : COD 69 98 = some (.aload_n 0, 1, 0, 0, 0, 0) := by decide +kernel
theorem k_69_99 : COD 69 99 = some (.aload 8, 2, 0, 0, 0, 0) := by decide +kernel
theorem k_69_101 : COD 69 101 = some (.iload_n 2, 1, 0, 0, 0, 0) := by decide +kernel
theorem k_69_102 : COD 69 102 = some (.iload_n 3, 1, 0, 0, 0, 0) := by decide +kernel
theorem k_69_103 : COD 69 103 = some (.iload 4, 2, 0, 0, 0, 0) := by decide +kernel
theorem k_69_105 : COD 69 105 = some (.iload 5, 2, 0, 0, 0, 0) := by decide +kernel
theorem k_69_107 : COD 69 107 = some (.iload 6, 2, 0, 0, 0, 0) := by decide +kernel
theorem k_69_109 : COD 69 109 = some (.iconst 1, 1, 0, 0, 0, 0) := by decide +kernel
theorem k_69_110 : COD 69 110 = some (.iadd, 1, 0, 0, 0, 0) := by decide +kernel
theorem k_69_111 : COD 69 111 = some (.invokevirtual 98, 3, 69, 6, 507, 5) := by decide +kernel
theorem k_69_114 : COD 69 114 = some (.aload_n 1, 1, 0, 0, 0, 0) := by decide +kernel
theorem k_69_115 : COD 69 115 = some (.invokevirtual 113, 3, 11, 0, 540, 0) := by decide +kernel
theorem k_69_118 : COD 69 118 = some (.return_, 1, 0, 0, 0, 0) := by decide +kernel
theorem k_70_0 : COD 70 0 = some (.iload_n 2, 1, 0, 0, 0, 0) := by decide +kernel
theorem k_70_1 : COD 70 1 = some (.bipush (-13), 2, 0, 0, 0, 0) := by decide +kernel
theorem k_70_3 : COD 70 3 = some (.if_icmp .ne 11, 3, 14, 0, 0, 0) := by decide +kernel
theorem k_70_6 : COD 70 6 = some (.aload_n 1, 1, 0, 0, 0, 0) := by decide +kernel
theorem k_70_7 : COD 70 7 = some (.iload_n 3, 1, 0, 0, 0, 0) := by decide +kernel
theorem k_70_8 : COD 70 8 = some (.invokevirtual 116, 3, 9, 1, 519, 0) := by decide +kernel
theorem k_70_11 : COD 70 11 = some (.goto 14, 3, 25, 0, 0, 0) := by decide +kernel
theorem k_70_14 : COD 70 14 = some (.iload_n 2, 1, 0, 0, 0, 0) := by decide +kernel
theorem k_70_15 : COD 70 15 = some (.bipush (-14), 2, 0, 0, 0, 0) := by decide +kernel
theorem k_70_17 : COD 70 17 = some (.if_icmp .ne 8, 3, 25, 0, 0, 0) := by decide +kernel
theorem k_70_20 : COD 70 20 = some (.aload_n 1, 1, 0, 0, 0, 0) := by decide +kernel
theorem k_70_21 : COD 70 21 = some (.iload_n 3, 1, 0, 0, 0, 0) := by decide +kernel
theorem k_70_22 : COD 70 22 = some (.invokevirtual 119, 3, 8, 1, 523, 0) := by decide +kernel
theorem k_70_25 : COD 70 25 = some (.aload_n 0, 1, 0, 0, 0, 0) := by decide +kernel
theorem k_70_26 : COD 70 26 = some (.getfield 91, 3, 5, 5, 249, 0) := by decide +kernel
theorem k_70_29 : COD 70 29 = some (.ifCond .ne 7, 3, 36, 0, 0, 0) := by decide +kernel
theorem k_70_32 : COD 70 32 = some (.iconst 1, 1, 0, 0, 0, 0) := by decide +kernel
theorem k_70_33 : COD 70 33 = some (.goto 4, 3, 37, 0, 0, 0) := by decide +kernel
theorem k_70_36 : COD 70 36 = some (.iconst 0, 1, 0, 0, 0, 0) := by decide +kernel
theorem k_70_37 : COD 70 37 = some (.istore 4, 2, 0, 0, 0, 0) := by decide +kernel
theorem k_70_39 : COD 70 39 = some (.aload_n 0, 1, 0, 0, 0, 0) := by decide +kernel
theorem k_70_40 : COD 70 40 = some (.dup, 1, 0, 0, 0, 0) := by decide +kernel
theorem k_70_41 : COD 70 41 = some (.getfield 94, 3, 5, 6, 251, 0) := by decide +kernel
theorem k_70_44 : COD 70 44 = some (.aload_n 1, 1, 0, 0, 0, 0) := by decide +kernel
theorem k_70_45 : COD 70 45 = some (.getfield 122, 3, 0, 3, 190, 0) := by decide +kernel
theorem k_70_48 : COD 70 48 = some (.ladd, 1, 0, 0, 0, 0) := by decide +kernel
theorem k_70_49 : COD 70 49 = some (.putfield 94, 3, 5, 6, 251, 0) := by decide +kernel
theorem k_70_52 : COD 70 52 = some (.aload_n 0, 1, 0, 0, 0, 0) := by decide +kernel
theorem k_70_53 : COD 70 53 = some (.iload 4, 2, 0, 0, 0, 0) := by decide +kernel
theorem k_70_55 : COD 70 55 = some (.ifCond .eq 10, 3, 65, 0, 0, 0) := by decide +kernel
theorem k_70_58 : COD 70 58 = some (.aload_n 1, 1, 0, 0, 0, 0) := by decide +kernel
theorem k_70_59 : COD 70 59 = some (.getfield 88, 3, 0, 4, 194, 0) := by decide +kernel
theorem k_70_62 : COD 70 62 = some (.goto 14, 3, 76, 0, 0, 0) := by decide +kernel
theorem k_70_65 : COD 70 65 = some (.aload_n 0, 1, 0, 0, 0, 0) := by decide +kernel
theorem k_70_66 : COD 70 66 = some (.getfield 125, 3, 5, 7, 253, 0) := by decide +kernel
theorem k_70_69 : COD 70 69 = some (.aload_n 1, 1, 0, 0, 0, 0) := by decide +kernel
theorem k_70_70 : COD 70 70 = some (.getfield 88, 3, 0, 4, 194, 0) := by decide +kernel
theorem k_70_73 : COD 70 73 = some (.invokestatic 128, 3, 225, 2, 527, 0) := by decide +kernel
theorem k_70_76 : COD 70 76 = some (.putfield 125, 3, 5, 7, 253, 0) := by decide +kernel
theorem k_70_79 : COD 70 79 = some (.aload_n 0, 1, 0, 0, 0, 0) := by decide +kernel
theorem k_70_80 : COD 70 80 = some (.iload 4, 2, 0, 0, 0, 0) := by decide +kernel
theorem k_70_82 : COD 70 82 = some (.ifCond .eq 10, 3, 92, 0, 0, 0) := by decide +kernel
theorem k_70_85 : COD 70 85 = some (.aload_n 1, 1, 0, 0, 0, 0) := by decide +kernel
theorem k_70_86 : COD 70 86 = some (.getfield 134, 3, 0, 5, 198, 0) := by decide +kernel
theorem k_70_89 : COD 70 89 = some (.goto 14, 3, 103, 0, 0, 0) := by decide +kernel
theorem k_70_92 : COD 70 92 = some (.aload_n 0, 1, 0, 0, 0, 0) := by decide +kernel
theorem k_70_93 : COD 70 93 = some (.getfield 137, 3, 5, 8, 255, 0) := by decide +kernel
theorem k_70_96 : COD 70 96 = some (.aload_n 1, 1, 0, 0, 0, 0) := by decide +kernel
theorem k_70_97 : COD 70 97 = some (.getfield 134, 3, 0, 5, 198, 0) := by decide +kernel
theorem k_70_100 : COD 70 100 = some (.invokestatic 140, 3, 226, 2, 530, 0) := by decide +kernel
theorem k_70_103 : COD 70 103 = some (.putfield 137, 3, 5, 8, 255, 0) := by decide +kernel
theorem k_70_106 : COD 70 106 = some (.aload_n 0, 1, 0, 0, 0, 0) := by decide +kernel
theorem k_70_107 : COD 70 107 = some (.dup, 1, 0, 0, 0, 0) := by decide +kernel
theorem k_70_108 : COD 70 108 = some (.getfield 91, 3, 5, 5, 249, 0) := by decide +kernel
theorem k_70_111 : COD 70 111 = some (.iconst 1, 1, 0, 0, 0, 0) := by decide +kernel
theorem k_70_112 : COD 70 112 = some (.iadd, 1, 0, 0, 0, 0) := by decide +kernel
theorem k_70_113 : COD 70 113 = some (.putfield 91, 3, 5, 5, 249, 0) := by decide +kernel
theorem k_70_116 : COD 70 116 = some (.return_, 1, 0, 0, 0, 0) := by decide +kernel
theorem k_71_0 : COD 71 0 = some (.aload_n 0, 1, 0, 0, 0, 0) := by decide +kernel
theorem k_71_1 : COD 71 1 = some (.getfield 14, 3, 5, 0, 237, 0) := by decide +kernel
theorem k_71_4 : COD 71 4 = some (.getfield 88, 3, 0, 4, 194, 0) := by decide +kernel
theorem k_71_7 : COD 71 7 = some (.iload_n 1, 1, 0, 0, 0, 0) := by decide +kernel
theorem k_71_8 : COD 71 8 = some (.if_icmp .ge 5, 3, 13, 0, 0, 0) := by decide +kernel
theorem k_71_11 : COD 71 11 = some (.iconst (-1), 1, 0, 0, 0, 0) := by decide +kernel
theorem k_71_12 : COD 71 12 = some (.ireturn, 1, 0, 0, 0, 0) := by decide +kernel
theorem k_71_13 : COD 71 13 = some (.aload_n 0, 1, 0, 0, 0, 0) := by decide +kernel
theorem k_71_14 : COD 71 14 = some (.getfield 14, 3, 5, 0, 237, 0) := by decide +kernel
theorem k_71_17 : COD 71 17 = some (.astore_n 2, 1, 0, 0, 0, 0) := by decide +kernel
theorem k_71_18 : COD 71 18 = some (.iconst 0, 1, 0, 0, 0, 0) := by decide +kernel
theorem k_71_19 : COD 71 19 = some (.istore_n 3, 1, 0, 0, 0, 0) := by decide +kernel
theorem k_71_20 : COD 71 20 = some (.iload_n 3, 1, 0, 0, 0, 0) := by decide +kernel
theorem k_71_21 : COD 71 21 = some (.bipush 6, 2, 0, 0, 0, 0) := by decide +kernel
theorem k_71_23 : COD 71 23 = some (.if_icmp .ge 64, 3, 87, 0, 0, 0) := by decide +kernel
theorem k_71_26 : COD 71 26 = some (.aload_n 2, 1, 0, 0, 0, 0) := by decide +kernel
theorem k_71_27 : COD 71 27 = some (.getfield 54, 3, 0, 9, 210, 0) := by decide +kernel
theorem k_71_30 : COD 71 30 = some (.astore 4, 2, 0, 0, 0, 0) := by decide +kernel
theorem k_71_32 : COD 71 32 = some (.aload_n 2, 1, 0, 0, 0, 0) := by decide +kernel
theorem k_71_33 : COD 71 33 = some (.getfield 57, 3, 0, 10, 212, 0) := by decide +kernel
theorem k_71_36 : COD 71 36 = some (.astore 5, 2, 0, 0, 0, 0) := by decide +kernel
theorem k_71_38 : COD 71 38 = some (.aload 4, 2, 0, 0, 0, 0) := by decide +kernel
theorem k_71_40 : COD 71 40 = some (.ifnull 47, 3, 87, 0, 0, 0) := by decide +kernel
theorem k_71_43 : COD 71 43 = some (.aload 5, 2, 0, 0, 0, 0) := by decide +kernel
theorem k_71_45 : COD 71 45 = some (.ifnonnull 6, 3, 51, 0, 0, 0) := by decide +kernel
theorem k_71_48 : COD 71 48 = some (.goto 39, 3, 87, 0, 0, 0) := by decide +kernel
theorem k_71_51 : COD 71 51 = some (.aload_n 0, 1, 0, 0, 0, 0) := by decide +kernel
theorem k_71_52 : COD 71 52 = some (.dup, 1, 0, 0, 0, 0) := by decide +kernel
theorem k_71_53 : COD 71 53 = some (.getfield 31, 3, 5, 4, 246, 0) := by decide +kernel
theorem k_71_56 : COD 71 56 = some (.aload_n 2, 1, 0, 0, 0, 0) := by decide +kernel
theorem k_71_57 : COD 71 57 = some (.invokevirtual 109, 3, 10, 0, 533, 0) := by decide +kernel
theorem k_71_60 : COD 71 60 = some (.iadd, 1, 0, 0, 0, 0) := by decide +kernel
theorem k_71_61 : COD 71 61 = some (.putfield 31, 3, 5, 4, 246, 0) := by decide +kernel
theorem k_71_64 : COD 71 64 = some (.aload 4, 2, 0, 0, 0, 0) := by decide +kernel
theorem k_71_66 : COD 71 66 = some (.getfield 88, 3, 0, 4, 194, 0) := by decide +kernel
theorem k_71_69 : COD 71 69 = some (.iload_n 1, 1, 0, 0, 0, 0) := by decide +kernel
theorem k_71_70 : COD 71 70 = some (.if_icmp .lt 8, 3, 78, 0, 0, 0) := by decide +kernel
theorem k_71_73 : COD 71 73 = some (.aload 4, 2, 0, 0, 0, 0) := by decide +kernel
theorem k_71_75 : COD 71 75 = some (.goto 5, 3, 80, 0, 0, 0) := by decide +kernel
theorem k_71_78 : COD 71 78 = some (.aload 5, 2, 0, 0, 0, 0) := by decide +kernel
theorem k_71_80 : COD 71 80 = some (.astore_n 2, 1, 0, 0, 0, 0) := by decide +kernel
theorem k_71_81 : COD 71 81 = some (.iinc 3 1, 3, 0, 0, 0, 0) := by decide +kernel
theorem k_71_84 : COD 71 84 = some (.goto (-64), 3, 20, 0, 0, 0) := by decide +kernel
theorem k_71_87 : COD 71 87 = some (.aload_n 2, 1, 0, 0, 0, 0) := by decide +kernel
theorem k_71_88 : COD 71 88 = some (.getfield 51, 3, 0, 1, 183, 0) := by decide +kernel
theorem k_71_91 : COD 71 91 = some (.ireturn, 1, 0, 0, 0, 0) := by decide +kernel
theorem k_72_0 : COD 72 0 = some (.iconst 1, 1, 0, 0, 0, 0) := by decide +kernel
theorem k_72_1 : COD 72 1 = some (.istore_n 1, 1, 0, 0, 0, 0) := by decide +kernel
theorem k_72_2 : COD 72 2 = some (.iload_n 1, 1, 0, 0, 0, 0) := by decide +kernel
theorem k_72_3 : COD 72 3 = some (.aload_n 0, 1, 0, 0, 0, 0) := by decide +kernel
theorem k_72_4 : COD 72 4 = some (.getfield 20, 3, 5, 1, 240, 0) := by decide +kernel
theorem k_72_7 : COD 72 7 = some (.arraylength, 1, 0, 0, 0, 0) := by decide +kernel
theorem k_72_8 : COD 72 8 = some (.if_icmp .ge 32, 3, 40, 0, 0, 0) := by decide +kernel
theorem k_72_11 : COD 72 11 = some (.aload_n 0, 1, 0, 0, 0, 0) := by decide +kernel
theorem k_72_12 : COD 72 12 = some (.iload_n 1, 1, 0, 0, 0, 0) := by decide +kernel
theorem k_72_13 : COD 72 13 = some (.invokevirtual 68, 3, 62, 1, 334, 5) := by decide +kernel
theorem k_72_16 : COD 72 16 = some (.astore_n 2, 1, 0, 0, 0, 0) := by decide +kernel
theorem k_72_17 : COD 72 17 = some (.aload_n 2, 1, 0, 0, 0, 0) := by decide +kernel
theorem k_72_18 : COD 72 18 = some (.ifnull 16, 3, 34, 0, 0, 0) := by decide +kernel
theorem k_72_21 : COD 72 21 = some (.aload_n 0, 1, 0, 0, 0, 0) := by decide +kernel
theorem k_72_22 : COD 72 22 = some (.dup, 1, 0, 0, 0, 0) := by decide +kernel
theorem k_72_23 : COD 72 23 = some (.getfield 31, 3, 5, 4, 246, 0) := by decide +kernel
theorem k_72_26 : COD 72 26 = some (.aload_n 2, 1, 0, 0, 0, 0) := by decide +kernel
theorem k_72_27 : COD 72 27 = some (.invokevirtual 109, 3, 10, 0, 533, 0) := by decide +kernel
theorem k_72_30 : COD 72 30 = some (.iadd, 1, 0, 0, 0, 0) := by decide +kernel
theorem k_72_31 : COD 72 31 = some (.putfield 31, 3, 5, 4, 246, 0) := by decide +kernel
theorem k_72_34 : COD 72 34 = some (.iinc 1 1, 3, 0, 0, 0, 0) := by decide +kernel
theorem k_72_37 : COD 72 37 = some (.goto (-35), 3, 2, 0, 0, 0) := by decide +kernel
theorem k_72_40 : COD 72 40 = some (.return_, 1, 0, 0, 0, 0) := by decide +kernel
theorem k_73_0 : COD 73 0 = some (.aload_n 0, 1, 0, 0, 0, 0) := by decide +kernel
theorem k_73_1 : COD 73 1 = some (.getfield 24, 3, 5, 2, 241, 0) := by decide +kernel
theorem k_73_4 : COD 73 4 = some (.ifCond .le 14, 3, 18, 0, 0, 0) := by decide +kernel
theorem k_73_7 : COD 73 7 = some (.iload_n 1, 1, 0, 0, 0, 0) := by decide +kernel
theorem k_73_8 : COD 73 8 = some (.aload_n 0, 1, 0, 0, 0, 0) := by decide +kernel
theorem k_73_9 : COD 73 9 = some (.getfield 24, 3, 5, 2, 241, 0) := by decide +kernel
theorem k_73_12 : COD 73 12 = some (.invokestatic 143, 3, 224, 2, 628, 0) := by decide +kernel
theorem k_73_15 : COD 73 15 = some (.goto 4, 3, 19, 0, 0, 0) := by decide +kernel
theorem k_73_18 : COD 73 18 = some (.iconst 0, 1, 0, 0, 0, 0) := by decide +kernel
theorem k_73_19 : COD 73 19 = some (.ireturn, 1, 0, 0, 0, 0) := by decide +kernel
theorem k_74_0 : COD 74 0 = some (.aload_n 0, 1, 0, 0, 0, 0) := by decide +kernel
theorem k_74_1 : COD 74 1 = some (.invokespecial 3, 3, 1000, 0, 153, 0) := by decide +kernel
theorem k_74_4 : COD 74 4 = some (.aload_n 0, 1, 0, 0, 0, 0) := by decide +kernel
theorem k_74_5 : COD 74 5 = some (.bipush 64, 2, 0, 0, 0, 0) := by decide +kernel
theorem k_74_7 : COD 74 7 = some (.newarray .int, 2, 0, 0, 0, 0) := by decide +kernel
theorem k_74_9 : COD 74 9 = some (.putfield 9, 3, 6, 0, 154, 0) := by decide +kernel
theorem k_74_12 : COD 74 12 = some (.return_, 1, 0, 0, 0, 0) := by decide +kernel
theorem k_75_0 : COD 75 0 = some (.iconst 0, 1, 0, 0, 0, 0) := by decide +kernel
theorem k_75_1 : COD 75 1 = some (.istore 4, 2, 0, 0, 0, 0) := by decide +kernel
theorem k_75_3 : COD 75 3 = some (.iload 4, 2, 0, 0, 0, 0) := by decide +kernel
theorem k_75_5 : COD 75 5 = some (.iload_n 3, 1, 0, 0, 0, 0) := by decide +kernel
theorem k_75_6 : COD 75 6 = some (.if_icmp .ge 75, 3, 81, 0, 0, 0) := by decide +kernel
theorem k_75_9 : COD 75 9 = some (.aload_n 0, 1, 0, 0, 0, 0) := by decide +kernel
theorem k_75_10 : COD 75 10 = some (.iconst 0, 1, 0, 0, 0, 0) := by decide +kernel
theorem k_75_11 : COD 75 11 = some (.putfield 15, 3, 6, 1, 155, 0) := by decide +kernel
theorem k_75_14 : COD 75 14 = some (.iconst 0, 1, 0, 0, 0, 0) := by decide +kernel
theorem k_75_15 : COD 75 15 = some (.istore 5, 2, 0, 0, 0, 0) := by decide +kernel
theorem k_75_17 : COD 75 17 = some (.iload 5, 2, 0, 0, 0, 0) := by decide +kernel
theorem k_75_19 : COD 75 19 = some (.aload_n 1, 1, 0, 0, 0, 0) := by decide +kernel
theorem k_75_20 : COD 75 20 = some (.getfield 19, 3, 2, 1, 115, 0) := by decide +kernel
theorem k_75_23 : COD 75 23 = some (.if_icmp .ge 42, 3, 65, 0, 0, 0) := by decide +kernel
theorem k_75_26 : COD 75 26 = some (.aload_n 1, 1, 0, 0, 0, 0) := by decide +kernel
theorem k_75_27 : COD 75 27 = some (.iload 5, 2, 0, 0, 0, 0) := by decide +kernel
theorem k_75_29 : COD 75 29 = some (.invokevirtual 24, 3, 34, 1, 609, 2) := by decide +kernel
theorem k_75_32 : COD 75 32 = some (.istore 6, 2, 0, 0, 0, 0) := by decide +kernel
theorem k_75_34 : COD 75 34 = some (.iload 6, 2, 0, 0, 0, 0) := by decide +kernel
theorem k_75_36 : COD 75 36 = some (.invokestatic 28, 3, 25, 1, 613, 1) := by decide +kernel
theorem k_75_39 : COD 75 39 = some (.ifCond .eq 13, 3, 52, 0, 0, 0) := by decide +kernel
theorem k_75_42 : COD 75 42 = some (.aload_n 0, 1, 0, 0, 0, 0) := by decide +kernel
theorem k_75_43 : COD 75 43 = some (.iload 6, 2, 0, 0, 0, 0) := by decide +kernel
theorem k_75_45 : COD 75 45 = some (.aload_n 2, 1, 0, 0, 0, 0) := by decide +kernel
theorem k_75_46 : COD 75 46 = some (.invokevirtual 34, 3, 79, 2, 616, 6) := by decide +kernel
theorem k_75_49 : COD 75 49 = some (.goto 10, 3, 59, 0, 0, 0) := by decide +kernel
theorem k_75_52 : COD 75 52 = some (.aload_n 0, 1, 0, 0, 0, 0) := by decide +kernel
theorem k_75_53 : COD 75 53 = some (.iload 6, 2, 0, 0, 0, 0) := by decide +kernel
theorem k_75_55 : COD 75 55 = some (.aload_n 2, 1, 0, 0, 0, 0) := by decide +kernel
theorem k_75_56 : COD 75 56 = some (.invokevirtual 38, 3, 76, 2, 634, 6) := by decide +kernel
theorem k_75_59 : COD 75 59 = some (.iinc 5 1, 3, 0, 0, 0, 0) := by decide +kernel
theorem k_75_62 : COD 75 62 = some (.goto (-45), 3, 17, 0, 0, 0) := by decide +kernel
theorem k_75_65 : COD 75 65 = some (.aload_n 2, 1, 0, 0, 0, 0) := by decide +kernel
theorem k_75_66 : COD 75 66 = some (.dup, 1, 0, 0, 0, 0) := by decide +kernel
theorem k_75_67 : COD 75 67 = some (.getfield 41, 3, 5, 3, 244, 0) := by decide +kernel
theorem k_75_70 : COD 75 70 = some (.iconst 1, 1, 0, 0, 0, 0) := by decide +kernel
theorem k_75_71 : COD 75 71 = some (.iadd, 1, 0, 0, 0, 0) := by decide +kernel
theorem k_75_72 : COD 75 72 = some (.putfield 41, 3, 5, 3, 244, 0) := by decide +kernel
theorem k_75_75 : COD 75 75 = some (.iinc 4 1, 3, 0, 0, 0, 0) := by decide +kernel
theorem k_75_78 : COD 75 78 = some (.goto (-75), 3, 3, 0, 0, 0) := by decide +kernel
theorem k_75_81 : COD 75 81 = some (.return_, 1, 0, 0, 0, 0) := by decide +kernel
theorem k_76_0 : COD 76 0 = some (.iload_n 1, 1, 0, 0, 0, 0) := by decide +kernel
theorem k_76_1 : COD 76 1 = some (.ifCond .lt 11, 3, 12, 0, 0, 0) := by decide +kernel
theorem k_76_4 : COD 76 4 = some (.aload_n 0, 1, 0, 0, 0, 0) := by decide +kernel
theorem k_76_5 : COD 76 5 = some (.iload_n 1, 1, 0, 0, 0, 0) := by decide +kernel
theorem k_76_6 : COD 76 6 = some (.invokevirtual 46, 3, 77, 1, 638, 6) := by decide +kernel
theorem k_76_9 : COD 76 9 = some (.goto 112, 3, 121, 0, 0, 0) := by decide +kernel
theorem k_76_12 : COD 76 12 = some (.iload_n 1, 1, 0, 0, 0, 0) := by decide +kernel
theorem k_76_13 : COD 76 13 = some (.invokestatic 50, 3, 27, 1, 642, 1) := by decide +kernel
theorem k_76_16 : COD 76 16 = some (.ifCond .eq 15, 3, 31, 0, 0, 0) := by decide +kernel
theorem k_76_19 : COD 76 19 = some (.aload_n 0, 1, 0, 0, 0, 0) := by decide +kernel
theorem k_76_20 : COD 76 20 = some (.iload_n 1, 1, 0, 0, 0, 0) := by decide +kernel
theorem k_76_21 : COD 76 21 = some (.aload_n 2, 1, 0, 0, 0, 0) := by decide +kernel
theorem k_76_22 : COD 76 22 = some (.invokestatic 53, 3, 80, 2, 645, 6) := by decide +kernel
theorem k_76_25 : COD 76 25 = some (.invokevirtual 46, 3, 77, 1, 638, 6) := by decide +kernel
theorem k_76_28 : COD 76 28 = some (.goto 93, 3, 121, 0, 0, 0) := by decide +kernel
theorem k_76_31 : COD 76 31 = some (.iload_n 1, 1, 0, 0, 0, 0) := by decide +kernel
theorem k_76_32 : COD 76 32 = some (.bipush (-22), 2, 0, 0, 0, 0) := by decide +kernel
theorem k_76_34 : COD 76 34 = some (.if_icmp .ne 22, 3, 56, 0, 0, 0) := by decide +kernel
theorem k_76_37 : COD 76 37 = some (.aload_n 0, 1, 0, 0, 0, 0) := by decide +kernel
theorem k_76_38 : COD 76 38 = some (.aload_n 2, 1, 0, 0, 0, 0) := by decide +kernel
theorem k_76_39 : COD 76 39 = some (.aload_n 2, 1, 0, 0, 0, 0) := by decide +kernel
theorem k_76_40 : COD 76 40 = some (.aload_n 0, 1, 0, 0, 0, 0) := by decide +kernel
theorem k_76_41 : COD 76 41 = some (.invokevirtual 57, 3, 78, 0, 620, 6) := by decide +kernel
theorem k_76_44 : COD 76 44 = some (.invokevirtual 61, 3, 73, 1, 624, 5) := by decide +kernel
theorem k_76_47 : COD 76 47 = some (.invokevirtual 64, 3, 67, 1, 649, 5) := by decide +kernel
theorem k_76_50 : COD 76 50 = some (.invokevirtual 46, 3, 77, 1, 638, 6) := by decide +kernel
theorem k_76_53 : COD 76 53 = some (.goto 68, 3, 121, 0, 0, 0) := by decide +kernel
theorem k_76_56 : COD 76 56 = some (.iload_n 1, 1, 0, 0, 0, 0) := by decide +kernel
theorem k_76_57 : COD 76 57 = some (.bipush (-23), 2, 0, 0, 0, 0) := by decide +kernel
theorem k_76_59 : COD 76 59 = some (.if_icmp .ne 22, 3, 81, 0, 0, 0) := by decide +kernel
theorem k_76_62 : COD 76 62 = some (.aload_n 0, 1, 0, 0, 0, 0) := by decide +kernel
theorem k_76_63 : COD 76 63 = some (.aload_n 0, 1, 0, 0, 0, 0) := by decide +kernel
theorem k_76_64 : COD 76 64 = some (.invokevirtual 57, 3, 78, 0, 620, 6) := by decide +kernel
theorem k_76_67 : COD 76 67 = some (.ifCond .ne 7, 3, 74, 0, 0, 0) := by decide +kernel
theorem k_76_70 : COD 76 70 = some (.iconst 1, 1, 0, 0, 0, 0) := by decide +kernel
theorem k_76_71 : COD 76 71 = some (.goto 4, 3, 75, 0, 0, 0) := by decide +kernel
theorem k_76_74 : COD 76 74 = some (.iconst 0, 1, 0, 0, 0, 0) := by decide +kernel
theorem k_76_75 : COD 76 75 = some (.invokevirtual 46, 3, 77, 1, 638, 6) := by decide +kernel
theorem k_76_78 : COD 76 78 = some (.goto 43, 3, 121, 0, 0, 0) := by decide +kernel
theorem k_76_81 : COD 76 81 = some (.iload_n 1, 1, 0, 0, 0, 0) := by decide +kernel
theorem k_76_82 : COD 76 82 = some (.bipush (-24), 2, 0, 0, 0, 0) := by decide +kernel
theorem k_76_84 : COD 76 84 = some (.if_icmp .ne 15, 3, 99, 0, 0, 0) := by decide +kernel
theorem k_76_87 : COD 76 87 = some (.aload_n 0, 1, 0, 0, 0, 0) := by decide +kernel
theorem k_76_88 : COD 76 88 = some (.aload_n 0, 1, 0, 0, 0, 0) := by decide +kernel
theorem k_76_89 : COD 76 89 = some (.invokevirtual 57, 3, 78, 0, 620, 6) := by decide +kernel
theorem k_76_92 : COD 76 92 = some (.ineg, 1, 0, 0, 0, 0) := by decide +kernel
theorem k_76_93 : COD 76 93 = some (.invokevirtual 46, 3, 77, 1, 638, 6) := by decide +kernel
theorem k_76_96 : COD 76 96 = some (.goto 25, 3, 121, 0, 0, 0) := by decide +kernel
theorem k_76_99 : COD 76 99 = some (.aload_n 0, 1, 0, 0, 0, 0) := by decide +kernel
theorem k_76_100 : COD 76 100 = some (.invokevirtual 57, 3, 78, 0, 620, 6) := by decide +kernel
theorem k_76_103 : COD 76 103 = some (.istore_n 3, 1, 0, 0, 0, 0) := by decide +kernel
theorem k_76_104 : COD 76 104 = some (.aload_n 0, 1, 0, 0, 0, 0) := by decide +kernel
theorem k_76_105 : COD 76 105 = some (.invokevirtual 57, 3, 78, 0, 620, 6) := by decide +kernel
theorem k_76_108 : COD 76 108 = some (.istore 4, 2, 0, 0, 0, 0) := by decide +kernel
theorem k_76_110 : COD 76 110 = some (.aload_n 0, 1, 0, 0, 0, 0) := by decide +kernel
theorem k_76_111 : COD 76 111 = some (.iload_n 1, 1, 0, 0, 0, 0) := by decide +kernel
theorem k_76_112 : COD 76 112 = some (.iload 4, 2, 0, 0, 0, 0) := by decide +kernel
theorem k_76_114 : COD 76 114 = some (.iload_n 3, 1, 0, 0, 0, 0) := by decide +kernel
theorem k_76_115 : COD 76 115 = some (.invokestatic 67, 3, 81, 3, 650, 6) := by decide +kernel
theorem k_76_118 : COD 76 118 = some (.invokevirtual 46, 3, 77, 1, 638, 6) := by decide +kernel
theorem k_76_121 : COD 76 121 = some (.return_, 1, 0, 0, 0, 0) := by decide +kernel
theorem k_77_0 : COD 77 0 = some (.aload_n 0, 1, 0, 0, 0, 0) := by decide +kernel
theorem k_77_1 : COD 77 1 = some (.getfield 15, 3, 6, 1, 155, 0) := by decide +kernel
theorem k_77_4 : COD 77 4 = some (.ifCond .lt 35, 3, 39, 0, 0, 0) := by decide +kernel
theorem k_77_7 : COD 77 7 = some (.aload_n 0, 1, 0, 0, 0, 0) := by decide +kernel
theorem k_77_8 : COD 77 8 = some (.getfield 15, 3, 6, 1, 155, 0) := by decide +kernel
theorem k_77_11 : COD 77 11 = some (.aload_n 0, 1, 0, 0, 0, 0) := by decide +kernel
theorem k_77_12 : COD 77 12 = some (.getfield 9, 3, 6, 0, 154, 0) := by decide +kernel
theorem k_77_15 : COD 77 15 = some (.arraylength, 1, 0, 0, 0, 0) := by decide +kernel
theorem k_77_16 : COD 77 16 = some (.if_icmp .ge 23, 3, 39, 0, 0, 0) := by decide +kernel
theorem k_77_19 : COD 77 19 = some (.aload_n 0, 1, 0, 0, 0, 0) := by decide +kernel
theorem k_77_20 : COD 77 20 = some (.getfield 9, 3, 6, 0, 154, 0) := by decide +kernel
theorem k_77_23 : COD 77 23 = some (.aload_n 0, 1, 0, 0, 0, 0) := by decide +kernel
theorem k_77_24 : COD 77 24 = some (.getfield 15, 3, 6, 1, 155, 0) := by decide +kernel
theorem k_77_27 : COD 77 27 = some (.iload_n 1, 1, 0, 0, 0, 0) := by decide +kernel
theorem k_77_28 : COD 77 28 = some (.iastore, 1, 0, 0, 0, 0) := by decide +kernel
theorem k_77_29 : COD 77 29 = some (.aload_n 0, 1, 0, 0, 0, 0) := by decide +kernel
theorem k_77_30 : COD 77 30 = some (.dup, 1, 0, 0, 0, 0) := by decide +kernel
theorem k_77_31 : COD 77 31 = some (.getfield 15, 3, 6, 1, 155, 0) := by decide +kernel
theorem k_77_34 : COD 77 34 = some (.iconst 1, 1, 0, 0, 0, 0) := by decide +kernel
theorem k_77_35 : COD 77 35 = some (.iadd, 1, 0, 0, 0, 0) := by decide +kernel
theorem k_77_36 : COD 77 36 = some (.putfield 15, 3, 6, 1, 155, 0) := by decide +kernel
theorem k_77_39 : COD 77 39 = some (.return_, 1, 0, 0, 0, 0) := by decide +kernel
theorem k_78_0 : COD 78 0 = some (.aload_n 0, 1, 0, 0, 0, 0) := by decide +kernel
theorem k_78_1 : COD 78 1 = some (.getfield 15, 3, 6, 1, 155, 0) := by decide +kernel
theorem k_78_4 : COD 78 4 = some (.iconst 1, 1, 0, 0, 0, 0) := by decide +kernel
theorem k_78_5 : COD 78 5 = some (.if_icmp .lt 15, 3, 20, 0, 0, 0) := by decide +kernel
theorem k_78_8 : COD 78 8 = some (.aload_n 0, 1, 0, 0, 0, 0) := by decide +kernel
theorem k_78_9 : COD 78 9 = some (.getfield 15, 3, 6, 1, 155, 0) := by decide +kernel
theorem k_78_12 : COD 78 12 = some (.aload_n 0, 1, 0, 0, 0, 0) := by decide +kernel
theorem k_78_13 : COD 78 13 = some (.getfield 9, 3, 6, 0, 154, 0) := by decide +kernel
theorem k_78_16 : COD 78 16 = some (.arraylength, 1, 0, 0, 0, 0) := by decide +kernel
theorem k_78_17 : COD 78 17 = some (.if_icmp .le 5, 3, 22, 0, 0, 0) := by decide +kernel
theorem k_78_20 : COD 78 20 = some (.iconst 0, 1, 0, 0, 0, 0) := by decide +kernel
theorem k_78_21 : COD 78 21 = some (.ireturn, 1, 0, 0, 0, 0) := by decide +kernel
theorem k_78_22 : COD 78 22 = some (.aload_n 0, 1, 0, 0, 0, 0) := by decide +kernel
theorem k_78_23 : COD 78 23 = some (.dup, 1, 0, 0, 0, 0) := by decide +kernel
theorem k_78_24 : COD 78 24 = some (.getfield 15, 3, 6, 1, 155, 0) := by decide +kernel
theorem k_78_27 : COD 78 27 = some (.iconst 1, 1, 0, 0, 0, 0) := by decide +kernel
theorem k_78_28 : COD 78 28 = some (.isub, 1, 0, 0, 0, 0) := by decide +kernel
theorem k_78_29 : COD 78 29 = some (.putfield 15, 3, 6, 1, 155, 0) := by decide +kernel
theorem k_78_32 : COD 78 32 = some (.aload_n 0, 1, 0, 0, 0, 0) := by decide +kernel
theorem k_78_33 : COD 78 33 = some (.getfield 9, 3, 6, 0, 154, 0) := by decide +kernel
theorem k_78_36 : COD 78 36 = some (.aload_n 0, 1, 0, 0, 0, 0) := by decide +kernel
theorem k_78_37 : COD 78 37 = some (.getfield 15, 3, 6, 1, 155, 0) := by decide +kernel
theorem k_78_40 : COD 78 40 = some (.iaload, 1, 0, 0, 0, 0) := by decide +kernel
theorem k_78_41 : COD 78 41 = some (.ireturn, 1, 0, 0, 0, 0) := by decide +kernel
theorem k_79_0 : COD 79 0 = some (.aload_n 0, 1, 0, 0, 0, 0) := by decide +kernel
theorem k_79_1 : COD 79 1 = some (.invokevirtual 57, 3, 78, 0, 620, 6) := by decide +kernel
theorem k_79_4 : COD 79 4 = some (.ifCond .eq 7, 3, 11, 0, 0, 0) := by decide +kernel
theorem k_79_7 : COD 79 7 = some (.iconst 1, 1, 0, 0, 0, 0) := by decide +kernel
theorem k_79_8 : COD 79 8 = some (.goto 4, 3, 12, 0, 0, 0) := by decide +kernel
theorem k_79_11 : COD 79 11 = some (.iconst 0, 1, 0, 0, 0, 0) := by decide +kernel
theorem k_79_12 : COD 79 12 = some (.istore_n 3, 1, 0, 0, 0, 0) := by decide +kernel
theorem k_79_13 : COD 79 13 = some (.aload_n 2, 1, 0, 0, 0, 0) := by decide +kernel
theorem k_79_14 : COD 79 14 = some (.aload_n 0, 1, 0, 0, 0, 0) := by decide +kernel
theorem k_79_15 : COD 79 15 = some (.invokevirtual 57, 3, 78, 0, 620, 6) := by decide +kernel
theorem k_79_18 : COD 79 18 = some (.invokevirtual 61, 3, 73, 1, 624, 5) := by decide +kernel
theorem k_79_21 : COD 79 21 = some (.istore 4, 2, 0, 0, 0, 0) := by decide +kernel
theorem k_79_23 : COD 79 23 = some (.aload_n 2, 1, 0, 0, 0, 0) := by decide +kernel
theorem k_79_24 : COD 79 24 = some (.aload_n 0, 1, 0, 0, 0, 0) := by decide +kernel
theorem k_79_25 : COD 79 25 = some (.invokevirtual 57, 3, 78, 0, 620, 6) := by decide +kernel
theorem k_79_28 : COD 79 28 = some (.invokevirtual 61, 3, 73, 1, 624, 5) := by decide +kernel
theorem k_79_31 : COD 79 31 = some (.istore 5, 2, 0, 0, 0, 0) := by decide +kernel
theorem k_79_33 : COD 79 33 = some (.sipush (-999), 3, 0, 0, 0, 0) := by decide +kernel
theorem k_79_36 : COD 79 36 = some (.sipush 999, 3, 0, 0, 0, 0) := by decide +kernel
theorem k_79_39 : COD 79 39 = some (.aload_n 0, 1, 0, 0, 0, 0) := by decide +kernel
theorem k_79_40 : COD 79 40 = some (.invokevirtual 57, 3, 78, 0, 620, 6) := by decide +kernel
theorem k_79_43 : COD 79 43 = some (.invokestatic 71, 3, 226, 2, 631, 0) := by decide +kernel
theorem k_79_46 : COD 79 46 = some (.invokestatic 77, 3, 225, 2, 632, 0) := by decide +kernel
theorem k_79_49 : COD 79 49 = some (.istore 6, 2, 0, 0, 0, 0) := by decide +kernel
theorem k_79_51 : COD 79 51 = some (.iload_n 3, 1, 0, 0, 0, 0) := by decide +kernel
theorem k_79_52 : COD 79 52 = some (.ifCond .eq 24, 3, 76, 0, 0, 0) := by decide +kernel
theorem k_79_55 : COD 79 55 = some (.aload_n 2, 1, 0, 0, 0, 0) := by decide +kernel
theorem k_79_56 : COD 79 56 = some (.iload 5, 2, 0, 0, 0, 0) := by decide +kernel
theorem k_79_58 : COD 79 58 = some (.iload 4, 2, 0, 0, 0, 0) := by decide +kernel
theorem k_79_60 : COD 79 60 = some (.invokestatic 71, 3, 226, 2, 631, 0) := by decide +kernel
theorem k_79_63 : COD 79 63 = some (.iload 5, 2, 0, 0, 0, 0) := by decide +kernel
theorem k_79_65 : COD 79 65 = some (.iload 4, 2, 0, 0, 0, 0) := by decide +kernel
theorem k_79_67 : COD 79 67 = some (.invokestatic 77, 3, 225, 2, 632, 0) := by decide +kernel
theorem k_79_70 : COD 79 70 = some (.iload_n 1, 1, 0, 0, 0, 0) := by decide +kernel
theorem k_79_71 : COD 79 71 = some (.iload 6, 2, 0, 0, 0, 0) := by decide +kernel
theorem k_79_73 : COD 79 73 = some (.invokevirtual 80, 3, 68, 4, 633, 5) := by decide +kernel
theorem k_79_76 : COD 79 76 = some (.return_, 1, 0, 0, 0, 0) := by decide +kernel
theorem k_80_0 : COD 80 0 = some (.iload_n 0, 1, 0, 0, 0, 0) := by decide +kernel
theorem k_80_1 : COD 80 1 = some (.tableswitch 70 (-20) (-16) #[62, 54, 45, 40, 35], 35, 0, 0, 0, 0) := by decide +kernel
theorem k_80_36 : COD 80 36 = some (.aload_n 1, 1, 0, 0, 0, 0) := by decide +kernel
theorem k_80_37 : COD 80 37 = some (.getfield 41, 3, 5, 3, 244, 0) := by decide +kernel
theorem k_80_40 : COD 80 40 = some (.ireturn, 1, 0, 0, 0, 0) := by decide +kernel
theorem k_80_41 : COD 80 41 = some (.aload_n 1, 1, 0, 0, 0, 0) := by decide +kernel
theorem k_80_42 : COD 80 42 = some (.getfield 84, 3, 5, 4, 247, 0) := by decide +kernel
theorem k_80_45 : COD 80 45 = some (.ireturn, 1, 0, 0, 0, 0) := by decide +kernel
theorem k_80_46 : COD 80 46 = some (.aload_n 1, 1, 0, 0, 0, 0) := by decide +kernel
theorem k_80_47 : COD 80 47 = some (.getfield 87, 3, 5, 0, 238, 0) := by decide +kernel
theorem k_80_50 : COD 80 50 = some (.getfield 91, 3, 0, 3, 189, 0) := by decide +kernel
theorem k_80_53 : COD 80 53 = some (.l2i, 1, 0, 0, 0, 0) := by decide +kernel
theorem k_80_54 : COD 80 54 = some (.ireturn, 1, 0, 0, 0, 0) := by decide +kernel
theorem k_80_55 : COD 80 55 = some (.aload_n 1, 1, 0, 0, 0, 0) := by decide +kernel
theorem k_80_56 : COD 80 56 = some (.getfield 87, 3, 5, 0, 238, 0) := by decide +kernel
theorem k_80_59 : COD 80 59 = some (.getfield 97, 3, 0, 4, 193, 0) := by decide +kernel
theorem k_80_62 : COD 80 62 = some (.ireturn, 1, 0, 0, 0, 0) := by decide +kernel
theorem k_80_63 : COD 80 63 = some (.aload_n 1, 1, 0, 0, 0, 0) := by decide +kernel
theorem k_80_64 : COD 80 64 = some (.getfield 87, 3, 5, 0, 238, 0) := by decide +kernel
theorem k_80_67 : COD 80 67 = some (.getfield 100, 3, 0, 5, 197, 0) := by decide +kernel
theorem k_80_70 : COD 80 70 = some (.ireturn, 1, 0, 0, 0, 0) := by decide +kernel
theorem k_80_71 : COD 80 71 = some (.aload_n 1, 1, 0, 0, 0, 0) := by decide +kernel
theorem k_80_72 : COD 80 72 = some (.invokevirtual 103, 3, 65, 0, 648, 5) := by decide +kernel
theorem k_80_75 : COD 80 75 = some (.ireturn, 1, 0, 0, 0, 0) := by decide +kernel
theorem k_81_0 : COD 81 0 = some (.iload_n 0, 1, 0, 0, 0, 0) := by decide +kernel
theorem k_81_1 : COD 81 1 = some (.tableswitch 75 (-32) (-27) #[51, 47, 43, 39, 69, 63], 39, 0, 0, 0, 0) := by decide +kernel
theorem k_81_40 : COD 81 40 = some (.iload_n 1, 1, 0, 0, 0, 0) := by decide +kernel
theorem k_81_41 : COD 81 41 = some (.iload_n 2, 1, 0, 0, 0, 0) := by decide +kernel
theorem k_81_42 : COD 81 42 = some (.iadd, 1, 0, 0, 0, 0) := by decide +kernel
theorem k_81_43 : COD 81 43 = some (.ireturn, 1, 0, 0, 0, 0) := by decide +kernel
theorem k_81_44 : COD 81 44 = some (.iload_n 1, 1, 0, 0, 0, 0) := by decide +kernel
theorem k_81_45 : COD 81 45 = some (.iload_n 2, 1, 0, 0, 0, 0) := by decide +kernel
theorem k_81_46 : COD 81 46 = some (.isub, 1, 0, 0, 0, 0) := by decide +kernel
theorem k_81_47 : COD 81 47 = some (.ireturn, 1, 0, 0, 0, 0) := by decide +kernel
theorem k_81_48 : COD 81 48 = some (.iload_n 1, 1, 0, 0, 0, 0) := by decide +kernel
theorem k_81_49 : COD 81 49 = some (.iload_n 2, 1, 0, 0, 0, 0) := by decide +kernel
theorem k_81_50 : COD 81 50 = some (.imul, 1, 0, 0, 0, 0) := by decide +kernel
theorem k_81_51 : COD 81 51 = some (.ireturn, 1, 0, 0, 0, 0) := by decide +kernel
theorem k_81_52 : COD 81 52 = some (.iload_n 2, 1, 0, 0, 0, 0) := by decide +kernel
theorem k_81_53 : COD 81 53 = some (.ifCond .ne 7, 3, 60, 0, 0, 0) := by decide +kernel
theorem k_81_56 : COD 81 56 = some (.iconst 0, 1, 0, 0, 0, 0) := by decide +kernel
theorem k_81_57 : COD 81 57 = some (.goto 6, 3, 63, 0, 0, 0) := by decide +kernel
theorem k_81_60 : COD 81 60 = some (.iload_n 1, 1, 0, 0, 0, 0) := by decide +kernel
theorem k_81_61 : COD 81 61 = some (.iload_n 2, 1, 0, 0, 0, 0) := by decide +kernel
theorem k_81_62 : COD 81 62 = some (.idiv, 1, 0, 0, 0, 0) := by decide +kernel
theorem k_81_63 : COD 81 63 = some (.ireturn, 1, 0, 0, 0, 0) := by decide +kernel
theorem k_81_64 : COD 81 64 = some (.iload_n 1, 1, 0, 0, 0, 0) := by decide +kernel
theorem k_81_65 : COD 81 65 = some (.iload_n 2, 1, 0, 0, 0, 0) := by decide +kernel
theorem k_81_66 : COD 81 66 = some (.invokestatic 71, 3, 226, 2, 631, 0) := by decide +kernel
theorem k_81_69 : COD 81 69 = some (.ireturn, 1, 0, 0, 0, 0) := by decide +kernel
theorem k_81_70 : COD 81 70 = some (.iload_n 1, 1, 0, 0, 0, 0) := by decide +kernel
theorem k_81_71 : COD 81 71 = some (.iload_n 2, 1, 0, 0, 0, 0) := by decide +kernel
theorem k_81_72 : COD 81 72 = some (.invokestatic 77, 3, 225, 2, 632, 0) := by decide +kernel
theorem k_81_75 : COD 81 75 = some (.ireturn, 1, 0, 0, 0, 0) := by decide +kernel
theorem k_81_76 : COD 81 76 = some (.iload_n 0, 1, 0, 0, 0, 0) := by decide +kernel
theorem k_81_77 : COD 81 77 = some (.iload_n 1, 1, 0, 0, 0, 0) := by decide +kernel
theorem k_81_78 : COD 81 78 = some (.iload_n 2, 1, 0, 0, 0, 0) := by decide +kernel
theorem k_81_79 : COD 81 79 = some (.invokestatic 106, 3, 82, 3, 653, 6) := by decide +kernel
theorem k_81_82 : COD 81 82 = some (.ifCond .eq 7, 3, 89, 0, 0, 0) := by decide +kernel
theorem k_81_85 : COD 81 85 = some (.iconst 1, 1, 0, 0, 0, 0) := by decide +kernel
theorem k_81_86 : COD 81 86 = some (.goto 4, 3, 90, 0, 0, 0) := by decide +kernel
theorem k_81_89 : COD 81 89 = some (.iconst 0, 1, 0, 0, 0, 0) := by decide +kernel
theorem k_81_90 : COD 81 90 = some (.ireturn, 1, 0, 0, 0, 0) := by decide +kernel
theorem k_82_0 : COD 82 0 = some (.iload_n 0, 1, 0, 0, 0, 0) := by decide +kernel
theorem k_82_1 : COD 82 1 = some (.tableswitch 135 (-36) (-25) #[124, 113, 102, 91, 135, 135, 135, 135, 135, 135, 77, 63], 63, 0, 0, 0, 0) := by decide +kernel
theorem k_82_64 : COD 82 64 = some (.iload_n 1, 1, 0, 0, 0, 0) := by decide +kernel
theorem k_82_65 : COD 82 65 = some (.ifCond .eq 11, 3, 76, 0, 0, 0) := by decide +kernel
theorem k_82_68 : COD 82 68 = some (.iload_n 2, 1, 0, 0, 0, 0) := by decide +kernel
theorem k_82_69 : COD 82 69 = some (.ifCond .eq 7, 3, 76, 0, 0, 0) := by decide +kernel
theorem k_82_72 : COD 82 72 = some (.iconst 1, 1, 0, 0, 0, 0) := by decide +kernel
theorem k_82_73 : COD 82 73 = some (.goto 4, 3, 77, 0, 0, 0) := by decide +kernel
theorem k_82_76 : COD 82 76 = some (.iconst 0, 1, 0, 0, 0, 0) := by decide +kernel
theorem k_82_77 : COD 82 77 = some (.ireturn, 1, 0, 0, 0, 1) := by decide +kernel
theorem k_82_78 : COD 82 78 = some (.iload_n 1, 1, 0, 0, 0, 0) := by decide +kernel
theorem k_82_79 : COD 82 79 = some (.ifCond .ne 7, 3, 86, 0, 0, 0) := by decide +kernel
theorem k_82_82 : COD 82 82 = some (.iload_n 2, 1, 0, 0, 0, 0) := by decide +kernel
theorem k_82_83 : COD 82 83 = some (.ifCond .eq 7, 3, 90, 0, 0, 0) := by decide +kernel
theorem k_82_86 : COD 82 86 = some (.iconst 1, 1, 0, 0, 0, 0) := by decide +kernel
theorem k_82_87 : COD 82 87 = some (.goto 4, 3, 91, 0, 0, 0) := by decide +kernel
theorem k_82_90 : COD 82 90 = some (.iconst 0, 1, 0, 0, 0, 0) := by decide +kernel
theorem k_82_91 : COD 82 91 = some (.ireturn, 1, 0, 0, 0, 1) := by decide +kernel
theorem k_82_92 : COD 82 92 = some (.iload_n 1, 1, 0, 0, 0, 0) := by decide +kernel
theorem k_82_93 : COD 82 93 = some (.iload_n 2, 1, 0, 0, 0, 0) := by decide +kernel
theorem k_82_94 : COD 82 94 = some (.if_icmp .ge 7, 3, 101, 0, 0, 0) := by decide +kernel
theorem k_82_97 : COD 82 97 = some (.iconst 1, 1, 0, 0, 0, 0) := by decide +kernel
theorem k_82_98 : COD 82 98 = some (.goto 4, 3, 102, 0, 0, 0) := by decide +kernel
theorem k_82_101 : COD 82 101 = some (.iconst 0, 1, 0, 0, 0, 0) := by decide +kernel
theorem k_82_102 : COD 82 102 = some (.ireturn, 1, 0, 0, 0, 1) := by decide +kernel
theorem k_82_103 : COD 82 103 = some (.iload_n 1, 1, 0, 0, 0, 0) := by decide +kernel
theorem k_82_104 : COD 82 104 = some (.iload_n 2, 1, 0, 0, 0, 0) := by decide +kernel
theorem k_82_105 : COD 82 105 = some (.if_icmp .le 7, 3, 112, 0, 0, 0) := by decide +kernel
theorem k_82_108 : COD 82 108 = some (.iconst 1, 1, 0, 0, 0, 0) := by decide +kernel
theorem k_82_109 : COD 82 109 = some (.goto 4, 3, 113, 0, 0, 0) := by decide +kernel
theorem k_82_112 : COD 82 112 = some (.iconst 0, 1, 0, 0, 0, 0) := by decide +kernel
theorem k_82_113 : COD 82 113 = some (.ireturn, 1, 0, 0, 0, 1) := by decide +kernel
theorem k_82_114 : COD 82 114 = some (.iload_n 1, 1, 0, 0, 0, 0) := by decide +kernel
theorem k_82_115 : COD 82 115 = some (.iload_n 2, 1, 0, 0, 0, 0) := by decide +kernel
theorem k_82_116 : COD 82 116 = some (.if_icmp .ne 7, 3, 123, 0, 0, 0) := by decide +kernel
theorem k_82_119 : COD 82 119 = some (.iconst 1, 1, 0, 0, 0, 0) := by decide +kernel
theorem k_82_120 : COD 82 120 = some (.goto 4, 3, 124, 0, 0, 0) := by decide +kernel
theorem k_82_123 : COD 82 123 = some (.iconst 0, 1, 0, 0, 0, 0) := by decide +kernel
theorem k_82_124 : COD 82 124 = some (.ireturn, 1, 0, 0, 0, 1) := by decide +kernel
theorem k_82_125 : COD 82 125 = some (.iload_n 1, 1, 0, 0, 0, 0) := by decide +kernel
theorem k_82_126 : COD 82 126 = some (.iload_n 2, 1, 0, 0, 0, 0) := by decide +kernel
theorem k_82_127 : COD 82 127 = some (.if_icmp .gt 7, 3, 134, 0, 0, 0) := by decide +kernel
theorem k_82_130 : COD 82 130 = some (.iconst 1, 1, 0, 0, 0, 0) := by decide +kernel
theorem k_82_131 : COD 82 131 = some (.goto 4, 3, 135, 0, 0, 0) := by decide +kernel
theorem k_82_134 : COD 82 134 = some (.iconst 0, 1, 0, 0, 0, 0) := by decide +kernel
theorem k_82_135 : COD 82 135 = some (.ireturn, 1, 0, 0, 0, 1) := by decide +kernel
theorem k_82_136 : COD 82 136 = some (.iload_n 1, 1, 0, 0, 0, 0) := by decide +kernel
theorem k_82_137 : COD 82 137 = some (.iload_n 2, 1, 0, 0, 0, 0) := by decide +kernel
theorem k_82_138 : COD 82 138 = some (.if_icmp .lt 7, 3, 145, 0, 0, 0) := by decide +kernel
theorem k_82_141 : COD 82 141 = some (.iconst 1, 1, 0, 0, 0, 0) := by decide +kernel
theorem k_82_142 : COD 82 142 = some (.goto 4, 3, 146, 0, 0, 0) := by decide +kernel
theorem k_82_145 : COD 82 145 = some (.iconst 0, 1, 0, 0, 0, 0) := by decide +kernel
theorem k_82_146 : COD 82 146 = some (.ireturn, 1, 0, 0, 0, 1) := by decide +kernel
theorem k_83_0 : COD 83 0 = some (.aload_n 0, 1, 0, 0, 0, 0) := by decide +kernel
theorem k_83_1 : COD 83 1 = some (.invokespecial 1, 3, 1000, 0, 63, 0) := by decide +kernel
theorem k_83_4 : COD 83 4 = some (.aload_n 0, 1, 0, 0, 0, 0) := by decide +kernel
theorem k_83_5 : COD 83 5 = some (.new 7, 3, 3, 0, 66, 0) := by decide +kernel
theorem k_83_8 : COD 83 8 = some (.dup, 1, 0, 0, 0, 0) := by decide +kernel
theorem k_83_9 : COD 83 9 = some (.invokespecial 9, 3, 38, 0, 68, 3) := by decide +kernel
theorem k_83_12 : COD 83 12 = some (.putfield 10, 3, 7, 0, 290, 0) := by decide +kernel
theorem k_83_15 : COD 83 15 = some (.aload_n 0, 1, 0, 0, 0, 0) := by decide +kernel
theorem k_83_16 : COD 83 16 = some (.new 16, 3, 4, 0, 80, 0) := by decide +kernel
theorem k_83_19 : COD 83 19 = some (.dup, 1, 0, 0, 0, 0) := by decide +kernel
theorem k_83_20 : COD 83 20 = some (.invokespecial 18, 3, 47, 0, 82, 4) := by decide +kernel
theorem k_83_23 : COD 83 23 = some (.putfield 19, 3, 7, 1, 291, 0) := by decide +kernel
theorem k_83_26 : COD 83 26 = some (.aload_n 0, 1, 0, 0, 0, 0) := by decide +kernel
theorem k_83_27 : COD 83 27 = some (.new 23, 3, 2, 0, 103, 0) := by decide +kernel
theorem k_83_30 : COD 83 30 = some (.dup, 1, 0, 0, 0, 0) := by decide +kernel
theorem k_83_31 : COD 83 31 = some (.invokespecial 25, 3, 28, 0, 105, 2) := by decide +kernel
theorem k_83_34 : COD 83 34 = some (.putfield 26, 3, 7, 2, 292, 0) := by decide +kernel
theorem k_83_37 : COD 83 37 = some (.aload_n 0, 1, 0, 0, 0, 0) := by decide +kernel
theorem k_83_38 : COD 83 38 = some (.new 23, 3, 2, 0, 103, 0) := by decide +kernel
theorem k_83_41 : COD 83 41 = some (.dup, 1, 0, 0, 0, 0) := by decide +kernel
theorem k_83_42 : COD 83 42 = some (.invokespecial 25, 3, 28, 0, 105, 2) := by decide +kernel
theorem k_83_45 : COD 83 45 = some (.putfield 30, 3, 7, 3, 293, 0) := by decide +kernel
theorem k_83_48 : COD 83 48 = some (.aload_n 0, 1, 0, 0, 0, 0) := by decide +kernel
theorem k_83_49 : COD 83 49 = some (.new 33, 3, 1, 0, 135, 0) := by decide +kernel
theorem k_83_52 : COD 83 52 = some (.dup, 1, 0, 0, 0, 0) := by decide +kernel
theorem k_83_53 : COD 83 53 = some (.aload_n 0, 1, 0, 0, 0, 0) := by decide +kernel
theorem k_83_54 : COD 83 54 = some (.getfield 19, 3, 7, 1, 291, 0) := by decide +kernel
theorem k_83_57 : COD 83 57 = some (.aload_n 0, 1, 0, 0, 0, 0) := by decide +kernel
theorem k_83_58 : COD 83 58 = some (.getfield 30, 3, 7, 3, 293, 0) := by decide +kernel
theorem k_83_61 : COD 83 61 = some (.invokespecial 35, 3, 13, 2, 137, 1) := by decide +kernel
theorem k_83_64 : COD 83 64 = some (.putfield 38, 3, 7, 4, 294, 0) := by decide +kernel
theorem k_83_67 : COD 83 67 = some (.aload_n 0, 1, 0, 0, 0, 0) := by decide +kernel
theorem k_83_68 : COD 83 68 = some (.new 42, 3, 6, 0, 148, 0) := by decide +kernel
theorem k_83_71 : COD 83 71 = some (.dup, 1, 0, 0, 0, 0) := by decide +kernel
theorem k_83_72 : COD 83 72 = some (.invokespecial 44, 3, 74, 0, 150, 6) := by decide +kernel
theorem k_83_75 : COD 83 75 = some (.putfield 45, 3, 7, 5, 295, 0) := by decide +kernel
theorem k_83_78 : COD 83 78 = some (.aload_n 0, 1, 0, 0, 0, 0) := by decide +kernel
theorem k_83_79 : COD 83 79 = some (.new 49, 3, 5, 0, 161, 0) := by decide +kernel
theorem k_83_82 : COD 83 82 = some (.dup, 1, 0, 0, 0, 0) := by decide +kernel
theorem k_83_83 : COD 83 83 = some (.invokespecial 51, 3, 58, 0, 163, 5) := by decide +kernel
theorem k_83_86 : COD 83 86 = some (.putfield 52, 3, 7, 6, 296, 0) := by decide +kernel
theorem k_83_89 : COD 83 89 = some (.aload_n 0, 1, 0, 0, 0, 0) := by decide +kernel
theorem k_83_90 : COD 83 90 = some (.new 49, 3, 5, 0, 161, 0) := by decide +kernel
theorem k_83_93 : COD 83 93 = some (.dup, 1, 0, 0, 0, 0) := by decide +kernel
theorem k_83_94 : COD 83 94 = some (.invokespecial 51, 3, 58, 0, 163, 5) := by decide +kernel
theorem k_83_97 : COD 83 97 = some (.putfield 56, 3, 7, 7, 297, 0) := by decide +kernel
theorem k_83_100 : COD 83 100 = some (.aload_n 0, 1, 0, 0, 0, 0) := by decide +kernel
theorem k_83_101 : COD 83 101 = some (.iconst (-1), 1, 0, 0, 0, 0) := by decide +kernel
theorem k_83_102 : COD 83 102 = some (.putfield 59, 3, 7, 8, 298, 0) := by decide +kernel
theorem k_83_105 : COD 83 105 = some (.aload_n 0, 1, 0, 0, 0, 0) := by decide +kernel
theorem k_83_106 : COD 83 106 = some (.getfield 52, 3, 7, 6, 296, 0) := by decide +kernel
theorem k_83_109 : COD 83 109 = some (.bipush 16, 2, 0, 0, 0, 0) := by decide +kernel
theorem k_83_111 : COD 83 111 = some (.invokevirtual 63, 3, 59, 1, 276, 5) := by decide +kernel
theorem k_83_114 : COD 83 114 = some (.aload_n 0, 1, 0, 0, 0, 0) := by decide +kernel
theorem k_83_115 : COD 83 115 = some (.getfield 56, 3, 7, 7, 297, 0) := by decide +kernel
theorem k_83_118 : COD 83 118 = some (.bipush 16, 2, 0, 0, 0, 0) := by decide +kernel
theorem k_83_120 : COD 83 120 = some (.invokevirtual 63, 3, 59, 1, 276, 5) := by decide +kernel
theorem k_83_123 : COD 83 123 = some (.return_, 1, 0, 0, 0, 0) := by decide +kernel
theorem k_84_0 : COD 84 0 = some (.aload_n 0, 1, 0, 0, 0, 0) := by decide +kernel
theorem k_84_1 : COD 84 1 = some (.getfield 10, 3, 7, 0, 290, 0) := by decide +kernel
theorem k_84_4 : COD 84 4 = some (.invokevirtual 67, 3, 39, 0, 862, 3) := by decide +kernel
theorem k_84_7 : COD 84 7 = some (.bipush 20, 2, 0, 0, 0, 0) := by decide +kernel
theorem k_84_9 : COD 84 9 = some (.iadd, 1, 0, 0, 0, 0) := by decide +kernel
theorem k_84_10 : COD 84 10 = some (.sipush 2000, 3, 0, 0, 0, 0) := by decide +kernel
theorem k_84_13 : COD 84 13 = some (.if_icmp .le 13, 3, 26, 0, 0, 0) := by decide +kernel
theorem k_84_16 : COD 84 16 = some (.new 71, 3, 0, 1, 450, 0) := by decide +kernel
theorem k_84_19 : COD 84 19 = some (.dup, 1, 0, 0, 0, 0) := by decide +kernel
theorem k_84_20 : COD 84 20 = some (.ldc 73, 2, 90, 0, 866, 0) := by decide +kernel
theorem k_84_22 : COD 84 22 = some (.invokespecial 75, 3, 999, 1, 460, 0) := by decide +kernel
theorem k_84_25 : COD 84 25 = some (.athrow, 1, 0, 0, 0, 0) := by decide +kernel
theorem k_84_26 : COD 84 26 = some (.aload_n 0, 1, 0, 0, 0, 0) := by decide +kernel
theorem k_84_27 : COD 84 27 = some (.getfield 10, 3, 7, 0, 290, 0) := by decide +kernel
theorem k_84_30 : COD 84 30 = some (.iload_n 1, 1, 0, 0, 0, 0) := by decide +kernel
theorem k_84_31 : COD 84 31 = some (.invokevirtual 78, 3, 40, 1, 867, 3) := by decide +kernel
theorem k_84_34 : COD 84 34 = some (.aload_n 0, 1, 0, 0, 0, 0) := by decide +kernel
theorem k_84_35 : COD 84 35 = some (.getfield 10, 3, 7, 0, 290, 0) := by decide +kernel
theorem k_84_38 : COD 84 38 = some (.iload_n 2, 1, 0, 0, 0, 0) := by decide +kernel
theorem k_84_39 : COD 84 39 = some (.invokevirtual 78, 3, 40, 1, 867, 3) := by decide +kernel
theorem k_84_42 : COD 84 42 = some (.aload_n 0, 1, 0, 0, 0, 0) := by decide +kernel
theorem k_84_43 : COD 84 43 = some (.getfield 10, 3, 7, 0, 290, 0) := by decide +kernel
theorem k_84_46 : COD 84 46 = some (.iload_n 3, 1, 0, 0, 0, 0) := by decide +kernel
theorem k_84_47 : COD 84 47 = some (.invokevirtual 78, 3, 40, 1, 867, 3) := by decide +kernel
theorem k_84_50 : COD 84 50 = some (.aload_n 0, 1, 0, 0, 0, 0) := by decide +kernel
theorem k_84_51 : COD 84 51 = some (.getfield 10, 3, 7, 0, 290, 0) := by decide +kernel
theorem k_84_54 : COD 84 54 = some (.iload 4, 2, 0, 0, 0, 0) := by decide +kernel
theorem k_84_56 : COD 84 56 = some (.invokevirtual 78, 3, 40, 1, 867, 3) := by decide +kernel
theorem k_84_59 : COD 84 59 = some (.aload_n 0, 1, 0, 0, 0, 0) := by decide +kernel
theorem k_84_60 : COD 84 60 = some (.getfield 10, 3, 7, 0, 290, 0) := by decide +kernel
theorem k_84_63 : COD 84 63 = some (.iload 5, 2, 0, 0, 0, 0) := by decide +kernel
theorem k_84_65 : COD 84 65 = some (.invokevirtual 78, 3, 40, 1, 867, 3) := by decide +kernel
theorem k_84_68 : COD 84 68 = some (.aload_n 0, 1, 0, 0, 0, 0) := by decide +kernel
theorem k_84_69 : COD 84 69 = some (.getfield 10, 3, 7, 0, 290, 0) := by decide +kernel
theorem k_84_72 : COD 84 72 = some (.invokevirtual 67, 3, 39, 0, 862, 3) := by decide +kernel
theorem k_84_75 : COD 84 75 = some (.ireturn, 1, 0, 0, 0, 0) := by decide +kernel
theorem k_85_0 : COD 85 0 = some (.iload_n 1, 1, 0, 0, 0, 0) := by decide +kernel
theorem k_85_1 : COD 85 1 = some (.ifCond .lt 14, 3, 15, 0, 0, 0) := by decide +kernel
theorem k_85_4 : COD 85 4 = some (.iload_n 1, 1, 0, 0, 0, 0) := by decide +kernel
theorem k_85_5 : COD 85 5 = some (.aload_n 0, 1, 0, 0, 0, 0) := by decide +kernel
theorem k_85_6 : COD 85 6 = some (.getfield 10, 3, 7, 0, 290, 0) := by decide +kernel
theorem k_85_9 : COD 85 9 = some (.invokevirtual 67, 3, 39, 0, 862, 3) := by decide +kernel
theorem k_85_12 : COD 85 12 = some (.if_icmp .le 13, 3, 25, 0, 0, 0) := by decide +kernel
theorem k_85_15 : COD 85 15 = some (.new 81, 3, 1, 1, 581, 0) := by decide +kernel
theorem k_85_18 : COD 85 18 = some (.dup, 1, 0, 0, 0, 0) := by decide +kernel
theorem k_85_19 : COD 85 19 = some (.ldc 83, 2, 90, 0, 875, 0) := by decide +kernel
theorem k_85_21 : COD 85 21 = some (.invokespecial 85, 3, 999, 1, 591, 0) := by decide +kernel
theorem k_85_24 : COD 85 24 = some (.athrow, 1, 0, 0, 0, 0) := by decide +kernel
theorem k_85_25 : COD 85 25 = some (.aload_n 0, 1, 0, 0, 0, 0) := by decide +kernel
theorem k_85_26 : COD 85 26 = some (.getfield 10, 3, 7, 0, 290, 0) := by decide +kernel
theorem k_85_29 : COD 85 29 = some (.iload_n 1, 1, 0, 0, 0, 0) := by decide +kernel
theorem k_85_30 : COD 85 30 = some (.invokevirtual 86, 3, 41, 1, 876, 3) := by decide +kernel
theorem k_85_33 : COD 85 33 = some (.iload_n 1, 1, 0, 0, 0, 0) := by decide +kernel
theorem k_85_34 : COD 85 34 = some (.ireturn, 1, 0, 0, 0, 0) := by decide +kernel
theorem k_86_0 : COD 86 0 = some (.aload_n 0, 1, 0, 0, 0, 0) := by decide +kernel
theorem k_86_1 : COD 86 1 = some (.getfield 19, 3, 7, 1, 291, 0) := by decide +kernel
theorem k_86_4 : COD 86 4 = some (.aload_n 0, 1, 0, 0, 0, 0) := by decide +kernel
theorem k_86_5 : COD 86 5 = some (.getfield 10, 3, 7, 0, 290, 0) := by decide +kernel
theorem k_86_8 : COD 86 8 = some (.invokevirtual 89, 3, 48, 1, 884, 4) := by decide +kernel
theorem k_86_11 : COD 86 11 = some (.aload_n 0, 1, 0, 0, 0, 0) := by decide +kernel
theorem k_86_12 : COD 86 12 = some (.getfield 10, 3, 7, 0, 290, 0) := by decide +kernel
theorem k_86_15 : COD 86 15 = some (.iconst 0, 1, 0, 0, 0, 0) := by decide +kernel
theorem k_86_16 : COD 86 16 = some (.invokevirtual 86, 3, 41, 1, 876, 3) := by decide +kernel
theorem k_86_19 : COD 86 19 = some (.aload_n 0, 1, 0, 0, 0, 0) := by decide +kernel
theorem k_86_20 : COD 86 20 = some (.getfield 38, 3, 7, 4, 294, 0) := by decide +kernel
theorem k_86_23 : COD 86 23 = some (.invokevirtual 93, 3, 14, 0, 933, 1) := by decide +kernel
theorem k_86_26 : COD 86 26 = some (.istore_n 1, 1, 0, 0, 0, 0) := by decide +kernel
theorem k_86_27 : COD 86 27 = some (.iload_n 1, 1, 0, 0, 0, 0) := by decide +kernel
theorem k_86_28 : COD 86 28 = some (.ifCond .eq 13, 3, 41, 0, 0, 0) := by decide +kernel
theorem k_86_31 : COD 86 31 = some (.aload_n 0, 1, 0, 0, 0, 0) := by decide +kernel
theorem k_86_32 : COD 86 32 = some (.getfield 30, 3, 7, 3, 293, 0) := by decide +kernel
theorem k_86_35 : COD 86 35 = some (.invokevirtual 96, 3, 36, 0, 1011, 2) := by decide +kernel
theorem k_86_38 : COD 86 38 = some (.goto 4, 3, 42, 0, 0, 0) := by decide +kernel
theorem k_86_41 : COD 86 41 = some (.iconst 1, 1, 0, 0, 0, 0) := by decide +kernel
theorem k_86_42 : COD 86 42 = some (.istore_n 2, 1, 0, 0, 0, 0) := by decide +kernel
theorem k_86_43 : COD 86 43 = some (.iload_n 2, 1, 0, 0, 0, 0) := by decide +kernel
theorem k_86_44 : COD 86 44 = some (.ifCond .eq 30, 3, 74, 0, 0, 0) := by decide +kernel
theorem k_86_47 : COD 86 47 = some (.aload_n 0, 1, 0, 0, 0, 0) := by decide +kernel
theorem k_86_48 : COD 86 48 = some (.iload_n 1, 1, 0, 0, 0, 0) := by decide +kernel
theorem k_86_49 : COD 86 49 = some (.ifCond .eq 13, 3, 62, 0, 0, 0) := by decide +kernel
theorem k_86_52 : COD 86 52 = some (.aload_n 0, 1, 0, 0, 0, 0) := by decide +kernel
theorem k_86_53 : COD 86 53 = some (.getfield 30, 3, 7, 3, 293, 0) := by decide +kernel
theorem k_86_56 : COD 86 56 = some (.invokevirtual 99, 3, 37, 0, 1019, 2) := by decide +kernel
theorem k_86_59 : COD 86 59 = some (.goto 10, 3, 69, 0, 0, 0) := by decide +kernel
theorem k_86_62 : COD 86 62 = some (.aload_n 0, 1, 0, 0, 0, 0) := by decide +kernel
theorem k_86_63 : COD 86 63 = some (.getfield 19, 3, 7, 1, 291, 0) := by decide +kernel
theorem k_86_66 : COD 86 66 = some (.invokevirtual 101, 3, 50, 0, 1023, 4) := by decide +kernel
theorem k_86_69 : COD 86 69 = some (.putfield 59, 3, 7, 8, 298, 0) := by decide +kernel
theorem k_86_72 : COD 86 72 = some (.iload_n 2, 1, 0, 0, 0, 0) := by decide +kernel
theorem k_86_73 : COD 86 73 = some (.ireturn, 1, 0, 0, 0, 0) := by decide +kernel
theorem k_86_74 : COD 86 74 = some (.aload_n 0, 1, 0, 0, 0, 0) := by decide +kernel
theorem k_86_75 : COD 86 75 = some (.getfield 26, 3, 7, 2, 292, 0) := by decide +kernel
theorem k_86_78 : COD 86 78 = some (.aload_n 0, 1, 0, 0, 0, 0) := by decide +kernel
theorem k_86_79 : COD 86 79 = some (.getfield 30, 3, 7, 3, 293, 0) := by decide +kernel
theorem k_86_82 : COD 86 82 = some (.invokevirtual 104, 3, 30, 1, 1024, 2) := by decide +kernel
theorem k_86_85 : COD 86 85 = some (.aload_n 0, 1, 0, 0, 0, 0) := by decide +kernel
theorem k_86_86 : COD 86 86 = some (.getfield 52, 3, 7, 6, 296, 0) := by decide +kernel
theorem k_86_89 : COD 86 89 = some (.aload_n 0, 1, 0, 0, 0, 0) := by decide +kernel
theorem k_86_90 : COD 86 90 = some (.getfield 26, 3, 7, 2, 292, 0) := by decide +kernel
theorem k_86_93 : COD 86 93 = some (.getfield 108, 3, 2, 4, 120, 0) := by decide +kernel
theorem k_86_96 : COD 86 96 = some (.invokevirtual 63, 3, 59, 1, 276, 5) := by decide +kernel
theorem k_86_99 : COD 86 99 = some (.aload_n 0, 1, 0, 0, 0, 0) := by decide +kernel
theorem k_86_100 : COD 86 100 = some (.getfield 56, 3, 7, 7, 297, 0) := by decide +kernel
theorem k_86_103 : COD 86 103 = some (.aload_n 0, 1, 0, 0, 0, 0) := by decide +kernel
theorem k_86_104 : COD 86 104 = some (.getfield 26, 3, 7, 2, 292, 0) := by decide +kernel
theorem k_86_107 : COD 86 107 = some (.getfield 108, 3, 2, 4, 120, 0) := by decide +kernel
theorem k_86_110 : COD 86 110 = some (.invokevirtual 63, 3, 59, 1, 276, 5) := by decide +kernel
theorem k_86_113 : COD 86 113 = some (.aload_n 0, 1, 0, 0, 0, 0) := by decide +kernel
theorem k_86_114 : COD 86 114 = some (.iconst (-1), 1, 0, 0, 0, 0) := by decide +kernel
theorem k_86_115 : COD 86 115 = some (.putfield 59, 3, 7, 8, 298, 0) := by decide +kernel
theorem k_86_118 : COD 86 118 = some (.iconst 0, 1, 0, 0, 0, 0) := by decide +kernel
theorem k_86_119 : COD 86 119 = some (.ireturn, 1, 0, 0, 0, 0) := by decide +kernel
theorem k_88_0 : COD 88 0 = some (.aload_n 0, 1, 0, 0, 0, 0) := by decide +kernel
theorem k_88_1 : COD 88 1 = some (.getfield 52, 3, 7, 6, 296, 0) := by decide +kernel
theorem k_88_4 : COD 88 4 = some (.getfield 111, 3, 5, 2, 242, 0) := by decide +kernel
theorem k_88_7 : COD 88 7 = some (.ireturn, 1, 0, 0, 0, 0) := by decide +kernel
theorem k_89_0 : COD 89 0 = some (.aload_n 0, 1, 0, 0, 0, 0) := by decide +kernel
theorem k_89_1 : COD 89 1 = some (.getfield 52, 3, 7, 6, 296, 0) := by decide +kernel
theorem k_89_4 : COD 89 4 = some (.invokevirtual 112, 3, 64, 0, 683, 5) := by decide +kernel
theorem k_89_7 : COD 89 7 = some (.ireturn, 1, 0, 0, 0, 0) := by decide +kernel
theorem k_90_0 : COD 90 0 = some (.aload_n 0, 1, 0, 0, 0, 0) := by decide +kernel
theorem k_90_1 : COD 90 1 = some (.getfield 26, 3, 7, 2, 292, 0) := by decide +kernel
theorem k_90_4 : COD 90 4 = some (.getfield 115, 3, 2, 2, 117, 0) := by decide +kernel
theorem k_90_7 : COD 90 7 = some (.ireturn, 1, 0, 0, 0, 0) := by decide +kernel
theorem k_91_0 : COD 91 0 = some (.aload_n 0, 1, 0, 0, 0, 0) := by decide +kernel
theorem k_91_1 : COD 91 1 = some (.getfield 52, 3, 7, 6, 296, 0) := by decide +kernel
theorem k_91_4 : COD 91 4 = some (.getfield 118, 3, 5, 3, 245, 0) := by decide +kernel
theorem k_91_7 : COD 91 7 = some (.ireturn, 1, 0, 0, 0, 0) := by decide +kernel
theorem k_92_0 : COD 92 0 = some (.aload_n 0, 1, 0, 0, 0, 0) := by decide +kernel
theorem k_92_1 : COD 92 1 = some (.getfield 52, 3, 7, 6, 296, 0) := by decide +kernel
theorem k_92_4 : COD 92 4 = some (.getfield 121, 3, 5, 4, 248, 0) := by decide +kernel
theorem k_92_7 : COD 92 7 = some (.ireturn, 1, 0, 0, 0, 0) := by decide +kernel
theorem k_93_0 : COD 93 0 = some (.aload_n 0, 1, 0, 0, 0, 0) := by decide +kernel
theorem k_93_1 : COD 93 1 = some (.getfield 52, 3, 7, 6, 296, 0) := by decide +kernel
theorem k_93_4 : COD 93 4 = some (.invokevirtual 124, 3, 65, 0, 330, 5) := by decide +kernel
theorem k_93_7 : COD 93 7 = some (.ireturn, 1, 0, 0, 0, 0) := by decide +kernel
theorem k_94_0 : COD 94 0 = some (.aload_n 0, 1, 0, 0, 0, 0) := by decide +kernel
theorem k_94_1 : COD 94 1 = some (.iload_n 1, 1, 0, 0, 0, 0) := by decide +kernel
theorem k_94_2 : COD 94 2 = some (.invokevirtual 127, 3, 119, 1, 350, 7) := by decide +kernel
theorem k_94_5 : COD 94 5 = some (.getfield 131, 3, 0, 1, 184, 0) := by decide +kernel
theorem k_94_8 : COD 94 8 = some (.ireturn, 1, 0, 0, 0, 0) := by decide +kernel
theorem k_95_0 : COD 95 0 = some (.aload_n 0, 1, 0, 0, 0, 0) := by decide +kernel
theorem k_95_1 : COD 95 1 = some (.iload_n 1, 1, 0, 0, 0, 0) := by decide +kernel
theorem k_95_2 : COD 95 2 = some (.invokevirtual 127, 3, 119, 1, 350, 7) := by decide +kernel
theorem k_95_5 : COD 95 5 = some (.getfield 136, 3, 0, 2, 187, 0) := by decide +kernel
theorem k_95_8 : COD 95 8 = some (.ireturn, 1, 0, 0, 0, 0) := by decide +kernel
theorem k_96_0 : COD 96 0 = some (.aload_n 0, 1, 0, 0, 0, 0) := by decide +kernel
theorem k_96_1 : COD 96 1 = some (.iload_n 1, 1, 0, 0, 0, 0) := by decide +kernel
theorem k_96_2 : COD 96 2 = some (.invokevirtual 127, 3, 119, 1, 350, 7) := by decide +kernel
theorem k_96_5 : COD 96 5 = some (.getfield 139, 3, 0, 3, 191, 0) := by decide +kernel
theorem k_96_8 : COD 96 8 = some (.lreturn, 1, 0, 0, 0, 0) := by decide +kernel
theorem k_97_0 : COD 97 0 = some (.aload_n 0, 1, 0, 0, 0, 0) := by decide +kernel
theorem k_97_1 : COD 97 1 = some (.iload_n 1, 1, 0, 0, 0, 0) := by decide +kernel
theorem k_97_2 : COD 97 2 = some (.invokevirtual 127, 3, 119, 1, 350, 7) := by decide +kernel
theorem k_97_5 : COD 97 5 = some (.getfield 143, 3, 0, 4, 195, 0) := by decide +kernel
theorem k_97_8 : COD 97 8 = some (.ireturn, 1, 0, 0, 0, 0) := by decide +kernel
theorem k_98_0 : COD 98 0 = some (.aload_n 0, 1, 0, 0, 0, 0) := by decide +kernel
theorem k_98_1 : COD 98 1 = some (.iload_n 1, 1, 0, 0, 0, 0) := by decide +kernel
theorem k_98_2 : COD 98 2 = some (.invokevirtual 127, 3, 119, 1, 350, 7) := by decide +kernel
theorem k_98_5 : COD 98 5 = some (.getfield 146, 3, 0, 5, 199, 0) := by decide +kernel
theorem k_98_8 : COD 98 8 = some (.ireturn, 1, 0, 0, 0, 0) := by decide +kernel
theorem k_99_0 : COD 99 0 = some (.aload_n 0, 1, 0, 0, 0, 0) := by decide +kernel
theorem k_99_1 : COD 99 1 = some (.iload_n 1, 1, 0, 0, 0, 0) := by decide +kernel
theorem k_99_2 : COD 99 2 = some (.invokevirtual 127, 3, 119, 1, 350, 7) := by decide +kernel
theorem k_99_5 : COD 99 5 = some (.getfield 149, 3, 0, 6, 202, 0) := by decide +kernel
theorem k_99_8 : COD 99 8 = some (.ireturn, 1, 0, 0, 0, 0) := by decide +kernel
theorem k_100_0 : COD 100 0 = some (.aload_n 0, 1, 0, 0, 0, 0) := by decide +kernel
theorem k_100_1 : COD 100 1 = some (.iload_n 1, 1, 0, 0, 0, 0) := by decide +kernel
theorem k_100_2 : COD 100 2 = some (.invokevirtual 127, 3, 119, 1, 350, 7) := by decide +kernel
theorem k_100_5 : COD 100 5 = some (.getfield 152, 3, 0, 7, 205, 0) := by decide +kernel
theorem k_100_8 : COD 100 8 = some (.ireturn, 1, 0, 0, 0, 1) := by decide +kernel
theorem k_101_0 : COD 101 0 = some (.aload_n 0, 1, 0, 0, 0, 0) := by decide +kernel
theorem k_101_1 : COD 101 1 = some (.iload_n 1, 1, 0, 0, 0, 0) := by decide +kernel
theorem k_101_2 : COD 101 2 = some (.invokevirtual 127, 3, 119, 1, 350, 7) := by decide +kernel
theorem k_101_5 : COD 101 5 = some (.astore_n 2, 1, 0, 0, 0, 0) := by decide +kernel
theorem k_101_6 : COD 101 6 = some (.aload_n 2, 1, 0, 0, 0, 0) := by decide +kernel
theorem k_101_7 : COD 101 7 = some (.getfield 152, 3, 0, 7, 205, 0) := by decide +kernel
theorem k_101_10 : COD 101 10 = some (.ifCond .ne 13, 3, 23, 0, 0, 0) := by decide +kernel
theorem k_101_13 : COD 101 13 = some (.new 71, 3, 0, 1, 450, 0) := by decide +kernel
theorem k_101_16 : COD 101 16 = some (.dup, 1, 0, 0, 0, 0) := by decide +kernel
theorem k_101_17 : COD 101 17 = some (.ldc 156, 2, 90, 0, 459, 0) := by decide +kernel
theorem k_101_19 : COD 101 19 = some (.invokespecial 75, 3, 999, 1, 460, 0) := by decide +kernel
theorem k_101_22 : COD 101 22 = some (.athrow, 1, 0, 0, 0, 0) := by decide +kernel
theorem k_101_23 : COD 101 23 = some (.aload_n 2, 1, 0, 0, 0, 0) := by decide +kernel
theorem k_101_24 : COD 101 24 = some (.getfield 158, 3, 0, 8, 208, 0) := by decide +kernel
theorem k_101_27 : COD 101 27 = some (.ireturn, 1, 0, 0, 0, 0) := by decide +kernel
theorem k_102_0 : COD 102 0 = some (.aload_n 0, 1, 0, 0, 0, 0) := by decide +kernel
theorem k_102_1 : COD 102 1 = some (.iload_n 1, 1, 0, 0, 0, 0) := by decide +kernel
theorem k_102_2 : COD 102 2 = some (.iload_n 1, 1, 0, 0, 0, 0) := by decide +kernel
theorem k_102_3 : COD 102 3 = some (.invokevirtual 161, 3, 120, 2, 470, 7) := by decide +kernel
theorem k_102_6 : COD 102 6 = some (.aload_n 0, 1, 0, 0, 0, 0) := by decide +kernel
theorem k_102_7 : COD 102 7 = some (.getfield 52, 3, 7, 6, 296, 0) := by decide +kernel
theorem k_102_10 : COD 102 10 = some (.iload_n 1, 1, 0, 0, 0, 0) := by decide +kernel
theorem k_102_11 : COD 102 11 = some (.invokevirtual 165, 3, 67, 1, 475, 5) := by decide +kernel
theorem k_102_14 : COD 102 14 = some (.ireturn, 1, 0, 0, 0, 0) := by decide +kernel
theorem k_103_0 : COD 103 0 = some (.aload_n 0, 1, 0, 0, 0, 0) := by decide +kernel
theorem k_103_1 : COD 103 1 = some (.iload_n 1, 1, 0, 0, 0, 0) := by decide +kernel
theorem k_103_2 : COD 103 2 = some (.iload_n 1, 1, 0, 0, 0, 0) := by decide +kernel
theorem k_103_3 : COD 103 3 = some (.invokevirtual 161, 3, 120, 2, 470, 7) := by decide +kernel
theorem k_103_6 : COD 103 6 = some (.aload_n 0, 1, 0, 0, 0, 0) := by decide +kernel
theorem k_103_7 : COD 103 7 = some (.getfield 52, 3, 7, 6, 296, 0) := by decide +kernel
theorem k_103_10 : COD 103 10 = some (.iload_n 1, 1, 0, 0, 0, 0) := by decide +kernel
theorem k_103_11 : COD 103 11 = some (.invokevirtual 169, 3, 66, 1, 483, 5) := by decide +kernel
theorem k_103_14 : COD 103 14 = some (.ireturn, 1, 0, 0, 0, 0) := by decide +kernel
theorem k_104_0 : COD 104 0 = some (.aload_n 0, 1, 0, 0, 0, 0) := by decide +kernel
theorem k_104_1 : COD 104 1 = some (.iload_n 1, 1, 0, 0, 0, 0) := by decide +kernel
theorem k_104_2 : COD 104 2 = some (.iload_n 2, 1, 0, 0, 0, 0) := by decide +kernel
theorem k_104_3 : COD 104 3 = some (.invokevirtual 161, 3, 120, 2, 470, 7) := by decide +kernel
theorem k_104_6 : COD 104 6 = some (.aload_n 0, 1, 0, 0, 0, 0) := by decide +kernel
theorem k_104_7 : COD 104 7 = some (.getfield 56, 3, 7, 7, 297, 0) := by decide +kernel
theorem k_104_10 : COD 104 10 = some (.aload_n 0, 1, 0, 0, 0, 0) := by decide +kernel
theorem k_104_11 : COD 104 11 = some (.getfield 52, 3, 7, 6, 296, 0) := by decide +kernel
theorem k_104_14 : COD 104 14 = some (.invokevirtual 172, 3, 63, 1, 495, 5) := by decide +kernel
theorem k_104_17 : COD 104 17 = some (.aload_n 0, 1, 0, 0, 0, 0) := by decide +kernel
theorem k_104_18 : COD 104 18 = some (.getfield 56, 3, 7, 7, 297, 0) := by decide +kernel
theorem k_104_21 : COD 104 21 = some (.iload_n 1, 1, 0, 0, 0, 0) := by decide +kernel
theorem k_104_22 : COD 104 22 = some (.iload_n 2, 1, 0, 0, 0, 0) := by decide +kernel
theorem k_104_23 : COD 104 23 = some (.bipush (-15), 2, 0, 0, 0, 0) := by decide +kernel
theorem k_104_25 : COD 104 25 = some (.iconst 0, 1, 0, 0, 0, 0) := by decide +kernel
theorem k_104_26 : COD 104 26 = some (.invokevirtual 175, 3, 68, 4, 503, 5) := by decide +kernel
theorem k_104_29 : COD 104 29 = some (.aload_n 0, 1, 0, 0, 0, 0) := by decide +kernel
theorem k_104_30 : COD 104 30 = some (.getfield 56, 3, 7, 7, 297, 0) := by decide +kernel
theorem k_104_33 : COD 104 33 = some (.getfield 121, 3, 5, 4, 248, 0) := by decide +kernel
theorem k_104_36 : COD 104 36 = some (.aload_n 0, 1, 0, 0, 0, 0) := by decide +kernel
theorem k_104_37 : COD 104 37 = some (.getfield 52, 3, 7, 6, 296, 0) := by decide +kernel
theorem k_104_40 : COD 104 40 = some (.getfield 121, 3, 5, 4, 248, 0) := by decide +kernel
theorem k_104_43 : COD 104 43 = some (.isub, 1, 0, 0, 0, 0) := by decide +kernel
theorem k_104_44 : COD 104 44 = some (.ireturn, 1, 0, 0, 0, 0) := by decide +kernel
theorem k_105_0 : COD 105 0 = some (.aload_n 0, 1, 0, 0, 0, 0) := by decide +kernel
theorem k_105_1 : COD 105 1 = some (.iload_n 1, 1, 0, 0, 0, 0) := by decide +kernel
theorem k_105_2 : COD 105 2 = some (.iload_n 2, 1, 0, 0, 0, 0) := by decide +kernel
theorem k_105_3 : COD 105 3 = some (.invokevirtual 161, 3, 120, 2, 470, 7) := by decide +kernel
theorem k_105_6 : COD 105 6 = some (.aload_n 0, 1, 0, 0, 0, 0) := by decide +kernel
theorem k_105_7 : COD 105 7 = some (.getfield 52, 3, 7, 6, 296, 0) := by decide +kernel
theorem k_105_10 : COD 105 10 = some (.iload_n 1, 1, 0, 0, 0, 0) := by decide +kernel
theorem k_105_11 : COD 105 11 = some (.iload_n 2, 1, 0, 0, 0, 0) := by decide +kernel
theorem k_105_12 : COD 105 12 = some (.bipush (-15), 2, 0, 0, 0, 0) := by decide +kernel
theorem k_105_14 : COD 105 14 = some (.iconst 0, 1, 0, 0, 0, 0) := by decide +kernel
theorem k_105_15 : COD 105 15 = some (.invokevirtual 175, 3, 68, 4, 503, 5) := by decide +kernel
theorem k_105_18 : COD 105 18 = some (.aload_n 0, 1, 0, 0, 0, 0) := by decide +kernel
theorem k_105_19 : COD 105 19 = some (.getfield 52, 3, 7, 6, 296, 0) := by decide +kernel
theorem k_105_22 : COD 105 22 = some (.getfield 179, 3, 5, 6, 252, 0) := by decide +kernel
theorem k_105_25 : COD 105 25 = some (.lreturn, 1, 0, 0, 0, 0) := by decide +kernel
theorem k_106_0 : COD 106 0 = some (.aload_n 0, 1, 0, 0, 0, 0) := by decide +kernel
theorem k_106_1 : COD 106 1 = some (.iload_n 1, 1, 0, 0, 0, 0) := by decide +kernel
theorem k_106_2 : COD 106 2 = some (.iload_n 2, 1, 0, 0, 0, 0) := by decide +kernel
theorem k_106_3 : COD 106 3 = some (.invokevirtual 161, 3, 120, 2, 470, 7) := by decide +kernel
theorem k_106_6 : COD 106 6 = some (.aload_n 0, 1, 0, 0, 0, 0) := by decide +kernel
theorem k_106_7 : COD 106 7 = some (.getfield 52, 3, 7, 6, 296, 0) := by decide +kernel
theorem k_106_10 : COD 106 10 = some (.iload_n 1, 1, 0, 0, 0, 0) := by decide +kernel
theorem k_106_11 : COD 106 11 = some (.iload_n 2, 1, 0, 0, 0, 0) := by decide +kernel
theorem k_106_12 : COD 106 12 = some (.bipush (-15), 2, 0, 0, 0, 0) := by decide +kernel
theorem k_106_14 : COD 106 14 = some (.iconst 0, 1, 0, 0, 0, 0) := by decide +kernel
theorem k_106_15 : COD 106 15 = some (.invokevirtual 175, 3, 68, 4, 503, 5) := by decide +kernel
theorem k_106_18 : COD 106 18 = some (.aload_n 0, 1, 0, 0, 0, 0) := by decide +kernel
theorem k_106_19 : COD 106 19 = some (.getfield 52, 3, 7, 6, 296, 0) := by decide +kernel
theorem k_106_22 : COD 106 22 = some (.getfield 182, 3, 5, 7, 254, 0) := by decide +kernel
theorem k_106_25 : COD 106 25 = some (.ireturn, 1, 0, 0, 0, 0) := by decide +kernel
theorem k_107_0 : COD 107 0 = some (.aload_n 0, 1, 0, 0, 0, 0) := by decide +kernel
theorem k_107_1 : COD 107 1 = some (.iload_n 1, 1, 0, 0, 0, 0) := by decide +kernel
theorem k_107_2 : COD 107 2 = some (.iload_n 2, 1, 0, 0, 0, 0) := by decide +kernel
theorem k_107_3 : COD 107 3 = some (.invokevirtual 161, 3, 120, 2, 470, 7) := by decide +kernel
theorem k_107_6 : COD 107 6 = some (.aload_n 0, 1, 0, 0, 0, 0) := by decide +kernel
theorem k_107_7 : COD 107 7 = some (.getfield 52, 3, 7, 6, 296, 0) := by decide +kernel
theorem k_107_10 : COD 107 10 = some (.iload_n 1, 1, 0, 0, 0, 0) := by decide +kernel
theorem k_107_11 : COD 107 11 = some (.iload_n 2, 1, 0, 0, 0, 0) := by decide +kernel
theorem k_107_12 : COD 107 12 = some (.bipush (-15), 2, 0, 0, 0, 0) := by decide +kernel
theorem k_107_14 : COD 107 14 = some (.iconst 0, 1, 0, 0, 0, 0) := by decide +kernel
theorem k_107_15 : COD 107 15 = some (.invokevirtual 175, 3, 68, 4, 503, 5) := by decide +kernel
theorem k_107_18 : COD 107 18 = some (.aload_n 0, 1, 0, 0, 0, 0) := by decide +kernel
theorem k_107_19 : COD 107 19 = some (.getfield 52, 3, 7, 6, 296, 0) := by decide +kernel
theorem k_107_22 : COD 107 22 = some (.getfield 185, 3, 5, 8, 256, 0) := by decide +kernel
theorem k_107_25 : COD 107 25 = some (.ireturn, 1, 0, 0, 0, 0) := by decide +kernel
theorem k_108_0 : COD 108 0 = some (.aload_n 0, 1, 0, 0, 0, 0) := by decide +kernel
theorem k_108_1 : COD 108 1 = some (.getfield 52, 3, 7, 6, 296, 0) := by decide +kernel
theorem k_108_4 : COD 108 4 = some (.iload_n 1, 1, 0, 0, 0, 0) := by decide +kernel
theorem k_108_5 : COD 108 5 = some (.invokevirtual 188, 3, 71, 1, 562, 5) := by decide +kernel
theorem k_108_8 : COD 108 8 = some (.ireturn, 1, 0, 0, 0, 0) := by decide +kernel
theorem k_109_0 : COD 109 0 = some (.aload_n 0, 1, 0, 0, 0, 0) := by decide +kernel
theorem k_109_1 : COD 109 1 = some (.getfield 52, 3, 7, 6, 296, 0) := by decide +kernel
theorem k_109_4 : COD 109 4 = some (.getfield 121, 3, 5, 4, 248, 0) := by decide +kernel
theorem k_109_7 : COD 109 7 = some (.istore_n 1, 1, 0, 0, 0, 0) := by decide +kernel
theorem k_109_8 : COD 109 8 = some (.aload_n 0, 1, 0, 0, 0, 0) := by decide +kernel
theorem k_109_9 : COD 109 9 = some (.getfield 52, 3, 7, 6, 296, 0) := by decide +kernel
theorem k_109_12 : COD 109 12 = some (.invokevirtual 191, 3, 72, 0, 570, 5) := by decide +kernel
theorem k_109_15 : COD 109 15 = some (.aload_n 0, 1, 0, 0, 0, 0) := by decide +kernel
theorem k_109_16 : COD 109 16 = some (.getfield 52, 3, 7, 6, 296, 0) := by decide +kernel
theorem k_109_19 : COD 109 19 = some (.getfield 121, 3, 5, 4, 248, 0) := by decide +kernel
theorem k_109_22 : COD 109 22 = some (.iload_n 1, 1, 0, 0, 0, 0) := by decide +kernel
theorem k_109_23 : COD 109 23 = some (.isub, 1, 0, 0, 0, 0) := by decide +kernel
theorem k_109_24 : COD 109 24 = some (.ireturn, 1, 0, 0, 0, 0) := by decide +kernel
theorem k_110_0 : COD 110 0 = some (.aload_n 0, 1, 0, 0, 0, 0) := by decide +kernel
theorem k_110_1 : COD 110 1 = some (.iload_n 1, 1, 0, 0, 0, 0) := by decide +kernel
theorem k_110_2 : COD 110 2 = some (.iload_n 2, 1, 0, 0, 0, 0) := by decide +kernel
theorem k_110_3 : COD 110 3 = some (.invokevirtual 161, 3, 120, 2, 470, 7) := by decide +kernel
theorem k_110_6 : COD 110 6 = some (.iload_n 3, 1, 0, 0, 0, 0) := by decide +kernel
theorem k_110_7 : COD 110 7 = some (.sipush (-999), 3, 0, 0, 0, 0) := by decide +kernel
theorem k_110_10 : COD 110 10 = some (.sipush 999, 3, 0, 0, 0, 0) := by decide +kernel
theorem k_110_13 : COD 110 13 = some (.invokestatic 194, 3, 121, 3, 578, 7) := by decide +kernel
theorem k_110_16 : COD 110 16 = some (.aload_n 0, 1, 0, 0, 0, 0) := by decide +kernel
theorem k_110_17 : COD 110 17 = some (.getfield 52, 3, 7, 6, 296, 0) := by decide +kernel
theorem k_110_20 : COD 110 20 = some (.iload_n 1, 1, 0, 0, 0, 0) := by decide +kernel
theorem k_110_21 : COD 110 21 = some (.iload_n 2, 1, 0, 0, 0, 0) := by decide +kernel
theorem k_110_22 : COD 110 22 = some (.bipush (-13), 2, 0, 0, 0, 0) := by decide +kernel
theorem k_110_24 : COD 110 24 = some (.iload_n 3, 1, 0, 0, 0, 0) := by decide +kernel
theorem k_110_25 : COD 110 25 = some (.invokevirtual 175, 3, 68, 4, 503, 5) := by decide +kernel
theorem k_110_28 : COD 110 28 = some (.aload_n 0, 1, 0, 0, 0, 0) := by decide +kernel
theorem k_110_29 : COD 110 29 = some (.getfield 52, 3, 7, 6, 296, 0) := by decide +kernel
theorem k_110_32 : COD 110 32 = some (.getfield 198, 3, 5, 5, 250, 0) := by decide +kernel
theorem k_110_35 : COD 110 35 = some (.ireturn, 1, 0, 0, 0, 0) := by decide +kernel
theorem k_111_0 : COD 111 0 = some (.aload_n 0, 1, 0, 0, 0, 0) := by decide +kernel
theorem k_111_1 : COD 111 1 = some (.iload_n 1, 1, 0, 0, 0, 0) := by decide +kernel
theorem k_111_2 : COD 111 2 = some (.iload_n 2, 1, 0, 0, 0, 0) := by decide +kernel
theorem k_111_3 : COD 111 3 = some (.invokevirtual 161, 3, 120, 2, 470, 7) := by decide +kernel
theorem k_111_6 : COD 111 6 = some (.iload_n 3, 1, 0, 0, 0, 0) := by decide +kernel
theorem k_111_7 : COD 111 7 = some (.sipush (-999), 3, 0, 0, 0, 0) := by decide +kernel
theorem k_111_10 : COD 111 10 = some (.sipush 999, 3, 0, 0, 0, 0) := by decide +kernel
theorem k_111_13 : COD 111 13 = some (.invokestatic 194, 3, 121, 3, 578, 7) := by decide +kernel
theorem k_111_16 : COD 111 16 = some (.aload_n 0, 1, 0, 0, 0, 0) := by decide +kernel
theorem k_111_17 : COD 111 17 = some (.getfield 52, 3, 7, 6, 296, 0) := by decide +kernel
theorem k_111_20 : COD 111 20 = some (.getfield 201, 3, 5, 0, 239, 0) := by decide +kernel
theorem k_111_23 : COD 111 23 = some (.getfield 139, 3, 0, 3, 191, 0) := by decide +kernel
theorem k_111_26 : COD 111 26 = some (.lstore 4, 2, 0, 0, 0, 0) := by decide +kernel
theorem k_111_28 : COD 111 28 = some (.aload_n 0, 1, 0, 0, 0, 0) := by decide +kernel
theorem k_111_29 : COD 111 29 = some (.getfield 52, 3, 7, 6, 296, 0) := by decide +kernel
theorem k_111_32 : COD 111 32 = some (.iload_n 1, 1, 0, 0, 0, 0) := by decide +kernel
theorem k_111_33 : COD 111 33 = some (.iload_n 2, 1, 0, 0, 0, 0) := by decide +kernel
theorem k_111_34 : COD 111 34 = some (.bipush (-14), 2, 0, 0, 0, 0) := by decide +kernel
theorem k_111_36 : COD 111 36 = some (.iload_n 3, 1, 0, 0, 0, 0) := by decide +kernel
theorem k_111_37 : COD 111 37 = some (.invokevirtual 175, 3, 68, 4, 503, 5) := by decide +kernel
theorem k_111_40 : COD 111 40 = some (.aload_n 0, 1, 0, 0, 0, 0) := by decide +kernel
theorem k_111_41 : COD 111 41 = some (.getfield 52, 3, 7, 6, 296, 0) := by decide +kernel
theorem k_111_44 : COD 111 44 = some (.getfield 201, 3, 5, 0, 239, 0) := by decide +kernel
theorem k_111_47 : COD 111 47 = some (.getfield 139, 3, 0, 3, 191, 0) := by decide +kernel
theorem k_111_50 : COD 111 50 = some (.lload 4, 2, 0, 0, 0, 0) := by decide +kernel
theorem k_111_52 : COD 111 52 = some (.lsub, 1, 0, 0, 0, 0) := by decide +kernel
theorem k_111_53 : COD 111 53 = some (.lreturn, 1, 0, 0, 0, 0) := by decide +kernel
theorem k_112_0 : COD 112 0 = some (.iload_n 1, 1, 0, 0, 0, 0) := by decide +kernel
theorem k_112_1 : COD 112 1 = some (.iconst 1, 1, 0, 0, 0, 0) := by decide +kernel
theorem k_112_2 : COD 112 2 = some (.bipush 30, 2, 0, 0, 0, 0) := by decide +kernel
theorem k_112_4 : COD 112 4 = some (.invokestatic 194, 3, 121, 3, 578, 7) := by decide +kernel
theorem k_112_7 : COD 112 7 = some (.aload_n 0, 1, 0, 0, 0, 0) := by decide +kernel
theorem k_112_8 : COD 112 8 = some (.getfield 52, 3, 7, 6, 296, 0) := by decide +kernel
theorem k_112_11 : COD 112 11 = some (.getfield 121, 3, 5, 4, 248, 0) := by decide +kernel
theorem k_112_14 : COD 112 14 = some (.istore_n 2, 1, 0, 0, 0, 0) := by decide +kernel
theorem k_112_15 : COD 112 15 = some (.aload_n 0, 1, 0, 0, 0, 0) := by decide +kernel
theorem k_112_16 : COD 112 16 = some (.getfield 45, 3, 7, 5, 295, 0) := by decide +kernel
theorem k_112_19 : COD 112 19 = some (.aload_n 0, 1, 0, 0, 0, 0) := by decide +kernel
theorem k_112_20 : COD 112 20 = some (.getfield 26, 3, 7, 2, 292, 0) := by decide +kernel
theorem k_112_23 : COD 112 23 = some (.aload_n 0, 1, 0, 0, 0, 0) := by decide +kernel
theorem k_112_24 : COD 112 24 = some (.getfield 52, 3, 7, 6, 296, 0) := by decide +kernel
theorem k_112_27 : COD 112 27 = some (.iload_n 1, 1, 0, 0, 0, 0) := by decide +kernel
theorem k_112_28 : COD 112 28 = some (.invokevirtual 205, 3, 75, 3, 605, 6) := by decide +kernel
theorem k_112_31 : COD 112 31 = some (.aload_n 0, 1, 0, 0, 0, 0) := by decide +kernel
theorem k_112_32 : COD 112 32 = some (.getfield 52, 3, 7, 6, 296, 0) := by decide +kernel
theorem k_112_35 : COD 112 35 = some (.getfield 121, 3, 5, 4, 248, 0) := by decide +kernel
theorem k_112_38 : COD 112 38 = some (.iload_n 2, 1, 0, 0, 0, 0) := by decide +kernel
theorem k_112_39 : COD 112 39 = some (.isub, 1, 0, 0, 0, 0) := by decide +kernel
theorem k_112_40 : COD 112 40 = some (.ireturn, 1, 0, 0, 0, 0) := by decide +kernel
theorem k_113_0 : COD 113 0 = some (.iload_n 1, 1, 0, 0, 0, 0) := by decide +kernel
theorem k_113_1 : COD 113 1 = some (.iconst 1, 1, 0, 0, 0, 0) := by decide +kernel
theorem k_113_2 : COD 113 2 = some (.bipush 30, 2, 0, 0, 0, 0) := by decide +kernel
theorem k_113_4 : COD 113 4 = some (.invokestatic 194, 3, 121, 3, 578, 7) := by decide +kernel
theorem k_113_7 : COD 113 7 = some (.aload_n 0, 1, 0, 0, 0, 0) := by decide +kernel
theorem k_113_8 : COD 113 8 = some (.getfield 56, 3, 7, 7, 297, 0) := by decide +kernel
theorem k_113_11 : COD 113 11 = some (.aload_n 0, 1, 0, 0, 0, 0) := by decide +kernel
theorem k_113_12 : COD 113 12 = some (.getfield 52, 3, 7, 6, 296, 0) := by decide +kernel
theorem k_113_15 : COD 113 15 = some (.invokevirtual 172, 3, 63, 1, 495, 5) := by decide +kernel
theorem k_113_18 : COD 113 18 = some (.aload_n 0, 1, 0, 0, 0, 0) := by decide +kernel
theorem k_113_19 : COD 113 19 = some (.getfield 45, 3, 7, 5, 295, 0) := by decide +kernel
theorem k_113_22 : COD 113 22 = some (.aload_n 0, 1, 0, 0, 0, 0) := by decide +kernel
theorem k_113_23 : COD 113 23 = some (.getfield 26, 3, 7, 2, 292, 0) := by decide +kernel
theorem k_113_26 : COD 113 26 = some (.aload_n 0, 1, 0, 0, 0, 0) := by decide +kernel
theorem k_113_27 : COD 113 27 = some (.getfield 56, 3, 7, 7, 297, 0) := by decide +kernel
theorem k_113_30 : COD 113 30 = some (.iload_n 1, 1, 0, 0, 0, 0) := by decide +kernel
theorem k_113_31 : COD 113 31 = some (.invokevirtual 205, 3, 75, 3, 605, 6) := by decide +kernel
theorem k_113_34 : COD 113 34 = some (.aload_n 0, 1, 0, 0, 0, 0) := by decide +kernel
theorem k_113_35 : COD 113 35 = some (.getfield 56, 3, 7, 7, 297, 0) := by decide +kernel
theorem k_113_38 : COD 113 38 = some (.getfield 201, 3, 5, 0, 239, 0) := by decide +kernel
theorem k_113_41 : COD 113 41 = some (.getfield 139, 3, 0, 3, 191, 0) := by decide +kernel
theorem k_113_44 : COD 113 44 = some (.lreturn, 1, 0, 0, 0, 0) := by decide +kernel
theorem k_114_0 : COD 114 0 = some (.iload_n 1, 1, 0, 0, 0, 0) := by decide +kernel
theorem k_114_1 : COD 114 1 = some (.iconst 1, 1, 0, 0, 0, 0) := by decide +kernel
theorem k_114_2 : COD 114 2 = some (.bipush 30, 2, 0, 0, 0, 0) := by decide +kernel
theorem k_114_4 : COD 114 4 = some (.invokestatic 194, 3, 121, 3, 578, 7) := by decide +kernel
theorem k_114_7 : COD 114 7 = some (.aload_n 0, 1, 0, 0, 0, 0) := by decide +kernel
theorem k_114_8 : COD 114 8 = some (.getfield 56, 3, 7, 7, 297, 0) := by decide +kernel
theorem k_114_11 : COD 114 11 = some (.aload_n 0, 1, 0, 0, 0, 0) := by decide +kernel
theorem k_114_12 : COD 114 12 = some (.getfield 52, 3, 7, 6, 296, 0) := by decide +kernel
theorem k_114_15 : COD 114 15 = some (.invokevirtual 172, 3, 63, 1, 495, 5) := by decide +kernel
theorem k_114_18 : COD 114 18 = some (.aload_n 0, 1, 0, 0, 0, 0) := by decide +kernel
theorem k_114_19 : COD 114 19 = some (.getfield 45, 3, 7, 5, 295, 0) := by decide +kernel
theorem k_114_22 : COD 114 22 = some (.aload_n 0, 1, 0, 0, 0, 0) := by decide +kernel
theorem k_114_23 : COD 114 23 = some (.getfield 26, 3, 7, 2, 292, 0) := by decide +kernel
theorem k_114_26 : COD 114 26 = some (.aload_n 0, 1, 0, 0, 0, 0) := by decide +kernel
theorem k_114_27 : COD 114 27 = some (.getfield 56, 3, 7, 7, 297, 0) := by decide +kernel
theorem k_114_30 : COD 114 30 = some (.iload_n 1, 1, 0, 0, 0, 0) := by decide +kernel
theorem k_114_31 : COD 114 31 = some (.invokevirtual 205, 3, 75, 3, 605, 6) := by decide +kernel
theorem k_114_34 : COD 114 34 = some (.aload_n 0, 1, 0, 0, 0, 0) := by decide +kernel
theorem k_114_35 : COD 114 35 = some (.getfield 56, 3, 7, 7, 297, 0) := by decide +kernel
theorem k_114_38 : COD 114 38 = some (.invokevirtual 124, 3, 65, 0, 330, 5) := by decide +kernel
theorem k_114_41 : COD 114 41 = some (.ireturn, 1, 0, 0, 0, 0) := by decide +kernel
theorem k_115_0 : COD 115 0 = some (.aload_n 0, 1, 0, 0, 0, 0) := by decide +kernel
theorem k_115_1 : COD 115 1 = some (.iload_n 1, 1, 0, 0, 0, 0) := by decide +kernel
theorem k_115_2 : COD 115 2 = some (.iload_n 1, 1, 0, 0, 0, 0) := by decide +kernel
theorem k_115_3 : COD 115 3 = some (.invokevirtual 161, 3, 120, 2, 470, 7) := by decide +kernel
theorem k_115_6 : COD 115 6 = some (.aload_n 0, 1, 0, 0, 0, 0) := by decide +kernel
theorem k_115_7 : COD 115 7 = some (.getfield 56, 3, 7, 7, 297, 0) := by decide +kernel
theorem k_115_10 : COD 115 10 = some (.aload_n 0, 1, 0, 0, 0, 0) := by decide +kernel
theorem k_115_11 : COD 115 11 = some (.getfield 52, 3, 7, 6, 296, 0) := by decide +kernel
theorem k_115_14 : COD 115 14 = some (.invokevirtual 172, 3, 63, 1, 495, 5) := by decide +kernel
theorem k_115_17 : COD 115 17 = some (.iconst 0, 1, 0, 0, 0, 0) := by decide +kernel
theorem k_115_18 : COD 115 18 = some (.istore_n 3, 1, 0, 0, 0, 0) := by decide +kernel
theorem k_115_19 : COD 115 19 = some (.iload_n 3, 1, 0, 0, 0, 0) := by decide +kernel
theorem k_115_20 : COD 115 20 = some (.bipush 30, 2, 0, 0, 0, 0) := by decide +kernel
theorem k_115_22 : COD 115 22 = some (.if_icmp .ge 37, 3, 59, 0, 0, 0) := by decide +kernel
theorem k_115_25 : COD 115 25 = some (.aload_n 0, 1, 0, 0, 0, 0) := by decide +kernel
theorem k_115_26 : COD 115 26 = some (.getfield 56, 3, 7, 7, 297, 0) := by decide +kernel
theorem k_115_29 : COD 115 29 = some (.iload_n 1, 1, 0, 0, 0, 0) := by decide +kernel
theorem k_115_30 : COD 115 30 = some (.invokevirtual 165, 3, 67, 1, 475, 5) := by decide +kernel
theorem k_115_33 : COD 115 33 = some (.iload_n 2, 1, 0, 0, 0, 0) := by decide +kernel
theorem k_115_34 : COD 115 34 = some (.if_icmp .ge 25, 3, 59, 0, 0, 0) := by decide +kernel
theorem k_115_37 : COD 115 37 = some (.aload_n 0, 1, 0, 0, 0, 0) := by decide +kernel
theorem k_115_38 : COD 115 38 = some (.getfield 45, 3, 7, 5, 295, 0) := by decide +kernel
theorem k_115_41 : COD 115 41 = some (.aload_n 0, 1, 0, 0, 0, 0) := by decide +kernel
theorem k_115_42 : COD 115 42 = some (.getfield 26, 3, 7, 2, 292, 0) := by decide +kernel
theorem k_115_45 : COD 115 45 = some (.aload_n 0, 1, 0, 0, 0, 0) := by decide +kernel
theorem k_115_46 : COD 115 46 = some (.getfield 56, 3, 7, 7, 297, 0) := by decide +kernel
theorem k_115_49 : COD 115 49 = some (.iconst 1, 1, 0, 0, 0, 0) := by decide +kernel
theorem k_115_50 : COD 115 50 = some (.invokevirtual 205, 3, 75, 3, 605, 6) := by decide +kernel
theorem k_115_53 : COD 115 53 = some (.iinc 3 1, 3, 0, 0, 0, 0) := by decide +kernel
theorem k_115_56 : COD 115 56 = some (.goto (-37), 3, 19, 0, 0, 0) := by decide +kernel
theorem k_115_59 : COD 115 59 = some (.aload_n 0, 1, 0, 0, 0, 0) := by decide +kernel
theorem k_115_60 : COD 115 60 = some (.getfield 56, 3, 7, 7, 297, 0) := by decide +kernel
theorem k_115_63 : COD 115 63 = some (.iload_n 1, 1, 0, 0, 0, 0) := by decide +kernel
theorem k_115_64 : COD 115 64 = some (.invokevirtual 165, 3, 67, 1, 475, 5) := by decide +kernel
theorem k_115_67 : COD 115 67 = some (.iload_n 2, 1, 0, 0, 0, 0) := by decide +kernel
theorem k_115_68 : COD 115 68 = some (.if_icmp .lt 21, 3, 89, 0, 0, 0) := by decide +kernel
theorem k_115_71 : COD 115 71 = some (.aload_n 0, 1, 0, 0, 0, 0) := by decide +kernel
theorem k_115_72 : COD 115 72 = some (.getfield 56, 3, 7, 7, 297, 0) := by decide +kernel
theorem k_115_75 : COD 115 75 = some (.getfield 118, 3, 5, 3, 245, 0) := by decide +kernel
theorem k_115_78 : COD 115 78 = some (.aload_n 0, 1, 0, 0, 0, 0) := by decide +kernel
theorem k_115_79 : COD 115 79 = some (.getfield 52, 3, 7, 6, 296, 0) := by decide +kernel
theorem k_115_82 : COD 115 82 = some (.getfield 118, 3, 5, 3, 245, 0) := by decide +kernel
theorem k_115_85 : COD 115 85 = some (.isub, 1, 0, 0, 0, 0) := by decide +kernel
theorem k_115_86 : COD 115 86 = some (.goto 4, 3, 90, 0, 0, 0) := by decide +kernel
theorem k_115_89 : COD 115 89 = some (.iconst (-1), 1, 0, 0, 0, 0) := by decide +kernel
theorem k_115_90 : COD 115 90 = some (.ireturn, 1, 0, 0, 0, 0) := by decide +kernel
theorem k_117_0 : COD 117 0 = some (.aload_n 0, 1, 0, 0, 0, 0) := by decide +kernel
theorem k_117_1 : COD 117 1 = some (.getfield 52, 3, 7, 6, 296, 0) := by decide +kernel
theorem k_117_4 : COD 117 4 = some (.getfield 111, 3, 5, 2, 242, 0) := by decide +kernel
theorem k_117_7 : COD 117 7 = some (.istore_n 1, 1, 0, 0, 0, 0) := by decide +kernel
theorem k_117_8 : COD 117 8 = some (.iload_n 1, 1, 0, 0, 0, 0) := by decide +kernel
theorem k_117_9 : COD 117 9 = some (.ifCond .ne 7, 3, 16, 0, 0, 0) := by decide +kernel
theorem k_117_12 : COD 117 12 = some (.dconst 0, 1, 0, 0, 0, 0) := by decide +kernel
theorem k_117_13 : COD 117 13 = some (.goto 17, 3, 30, 0, 0, 0) := by decide +kernel
theorem k_117_16 : COD 117 16 = some (.aload_n 0, 1, 0, 0, 0, 0) := by decide +kernel
theorem k_117_17 : COD 117 17 = some (.getfield 52, 3, 7, 6, 296, 0) := by decide +kernel
theorem k_117_20 : COD 117 20 = some (.getfield 201, 3, 5, 0, 239, 0) := by decide +kernel
theorem k_117_23 : COD 117 23 = some (.getfield 139, 3, 0, 3, 191, 0) := by decide +kernel
theorem k_117_26 : COD 117 26 = some (.l2d, 1, 0, 0, 0, 0) := by decide +kernel
theorem k_117_27 : COD 117 27 = some (.iload_n 1, 1, 0, 0, 0, 0) := by decide +kernel
theorem k_117_28 : COD 117 28 = some (.i2d, 1, 0, 0, 0, 0) := by decide +kernel
theorem k_117_29 : COD 117 29 = some (.ddiv, 1, 0, 0, 0, 0) := by decide +kernel
theorem k_117_30 : COD 117 30 = some (.dreturn, 1, 0, 0, 0, 0) := by decide +kernel
theorem k_118_0 : COD 118 0 = some (.ldc2_w 213, 3, 1, 0, 676, 0) := by decide +kernel
theorem k_118_3 : COD 118 3 = some (.lstore_n 1, 1, 0, 0, 0, 0) := by decide +kernel
theorem k_118_4 : COD 118 4 = some (.lload_n 1, 1, 0, 0, 0, 0) := by decide +kernel
theorem k_118_5 : COD 118 5 = some (.ldc2_w 215, 3, 0, 0, 677, 0) := by decide +kernel
theorem k_118_8 : COD 118 8 = some (.lmul, 1, 0, 0, 0, 0) := by decide +kernel
theorem k_118_9 : COD 118 9 = some (.aload_n 0, 1, 0, 0, 0, 0) := by decide +kernel
theorem k_118_10 : COD 118 10 = some (.invokevirtual 217, 3, 88, 0, 678, 7) := by decide +kernel
theorem k_118_13 : COD 118 13 = some (.i2l, 1, 0, 0, 0, 0) := by decide +kernel
theorem k_118_14 : COD 118 14 = some (.ladd, 1, 0, 0, 0, 0) := by decide +kernel
theorem k_118_15 : COD 118 15 = some (.lstore_n 1, 1, 0, 0, 0, 0) := by decide +kernel
theorem k_118_16 : COD 118 16 = some (.lload_n 1, 1, 0, 0, 0, 0) := by decide +kernel
theorem k_118_17 : COD 118 17 = some (.ldc2_w 215, 3, 0, 0, 677, 0) := by decide +kernel
theorem k_118_20 : COD 118 20 = some (.lmul, 1, 0, 0, 0, 0) := by decide +kernel
theorem k_118_21 : COD 118 21 = some (.aload_n 0, 1, 0, 0, 0, 0) := by decide +kernel
theorem k_118_22 : COD 118 22 = some (.invokevirtual 220, 3, 89, 0, 679, 7) := by decide +kernel
theorem k_118_25 : COD 118 25 = some (.i2l, 1, 0, 0, 0, 0) := by decide +kernel
theorem k_118_26 : COD 118 26 = some (.ladd, 1, 0, 0, 0, 0) := by decide +kernel
theorem k_118_27 : COD 118 27 = some (.lstore_n 1, 1, 0, 0, 0, 0) := by decide +kernel
theorem k_118_28 : COD 118 28 = some (.lload_n 1, 1, 0, 0, 0, 0) := by decide +kernel
theorem k_118_29 : COD 118 29 = some (.ldc2_w 215, 3, 0, 0, 677, 0) := by decide +kernel
theorem k_118_32 : COD 118 32 = some (.lmul, 1, 0, 0, 0, 0) := by decide +kernel
theorem k_118_33 : COD 118 33 = some (.aload_n 0, 1, 0, 0, 0, 0) := by decide +kernel
theorem k_118_34 : COD 118 34 = some (.invokevirtual 223, 3, 90, 0, 687, 7) := by decide +kernel
theorem k_118_37 : COD 118 37 = some (.i2l, 1, 0, 0, 0, 0) := by decide +kernel
theorem k_118_38 : COD 118 38 = some (.ladd, 1, 0, 0, 0, 0) := by decide +kernel
theorem k_118_39 : COD 118 39 = some (.lstore_n 1, 1, 0, 0, 0, 0) := by decide +kernel
theorem k_118_40 : COD 118 40 = some (.lload_n 1, 1, 0, 0, 0, 0) := by decide +kernel
theorem k_118_41 : COD 118 41 = some (.ldc2_w 215, 3, 0, 0, 677, 0) := by decide +kernel
theorem k_118_44 : COD 118 44 = some (.lmul, 1, 0, 0, 0, 0) := by decide +kernel
theorem k_118_45 : COD 118 45 = some (.aload_n 0, 1, 0, 0, 0, 0) := by decide +kernel
theorem k_118_46 : COD 118 46 = some (.invokevirtual 226, 3, 91, 0, 691, 7) := by decide +kernel
theorem k_118_49 : COD 118 49 = some (.i2l, 1, 0, 0, 0, 0) := by decide +kernel
theorem k_118_50 : COD 118 50 = some (.ladd, 1, 0, 0, 0, 0) := by decide +kernel
theorem k_118_51 : COD 118 51 = some (.lstore_n 1, 1, 0, 0, 0, 0) := by decide +kernel
theorem k_118_52 : COD 118 52 = some (.lload_n 1, 1, 0, 0, 0, 0) := by decide +kernel
theorem k_118_53 : COD 118 53 = some (.ldc2_w 215, 3, 0, 0, 677, 0) := by decide +kernel
theorem k_118_56 : COD 118 56 = some (.lmul, 1, 0, 0, 0, 0) := by decide +kernel
theorem k_118_57 : COD 118 57 = some (.aload_n 0, 1, 0, 0, 0, 0) := by decide +kernel
theorem k_118_58 : COD 118 58 = some (.invokevirtual 229, 3, 92, 0, 695, 7) := by decide +kernel
theorem k_118_61 : COD 118 61 = some (.i2l, 1, 0, 0, 0, 0) := by decide +kernel
theorem k_118_62 : COD 118 62 = some (.ladd, 1, 0, 0, 0, 0) := by decide +kernel
theorem k_118_63 : COD 118 63 = some (.lstore_n 1, 1, 0, 0, 0, 0) := by decide +kernel
theorem k_118_64 : COD 118 64 = some (.lload_n 1, 1, 0, 0, 0, 0) := by decide +kernel
theorem k_118_65 : COD 118 65 = some (.ldc2_w 215, 3, 0, 0, 677, 0) := by decide +kernel
theorem k_118_68 : COD 118 68 = some (.lmul, 1, 0, 0, 0, 0) := by decide +kernel
theorem k_118_69 : COD 118 69 = some (.aload_n 0, 1, 0, 0, 0, 0) := by decide +kernel
theorem k_118_70 : COD 118 70 = some (.invokevirtual 232, 3, 93, 0, 696, 7) := by decide +kernel
theorem k_118_73 : COD 118 73 = some (.i2l, 1, 0, 0, 0, 0) := by decide +kernel
theorem k_118_74 : COD 118 74 = some (.ladd, 1, 0, 0, 0, 0) := by decide +kernel
theorem k_118_75 : COD 118 75 = some (.lstore_n 1, 1, 0, 0, 0, 0) := by decide +kernel
theorem k_118_76 : COD 118 76 = some (.iconst 1, 1, 0, 0, 0, 0) := by decide +kernel
theorem k_118_77 : COD 118 77 = some (.istore_n 3, 1, 0, 0, 0, 0) := by decide +kernel
theorem k_118_78 : COD 118 78 = some (.iload_n 3, 1, 0, 0, 0, 0) := by decide +kernel
theorem k_118_79 : COD 118 79 = some (.bipush 64, 2, 0, 0, 0, 0) := by decide +kernel
theorem k_118_81 : COD 118 81 = some (.if_icmp .ge 31, 3, 112, 0, 0, 0) := by decide +kernel
theorem k_118_84 : COD 118 84 = some (.aload_n 0, 1, 0, 0, 0, 0) := by decide +kernel
theorem k_118_85 : COD 118 85 = some (.getfield 52, 3, 7, 6, 296, 0) := by decide +kernel
theorem k_118_88 : COD 118 88 = some (.iload_n 3, 1, 0, 0, 0, 0) := by decide +kernel
theorem k_118_89 : COD 118 89 = some (.invokevirtual 235, 3, 62, 1, 354, 5) := by decide +kernel
theorem k_118_92 : COD 118 92 = some (.astore 4, 2, 0, 0, 0, 0) := by decide +kernel
theorem k_118_94 : COD 118 94 = some (.aload 4, 2, 0, 0, 0, 0) := by decide +kernel
theorem k_118_96 : COD 118 96 = some (.ifnull 10, 3, 106, 0, 0, 0) := by decide +kernel
theorem k_118_99 : COD 118 99 = some (.aload 4, 2, 0, 0, 0, 0) := by decide +kernel
theorem k_118_101 : COD 118 101 = some (.lload_n 1, 1, 0, 0, 0, 0) := by decide +kernel
theorem k_118_102 : COD 118 102 = some (.invokevirtual 238, 3, 12, 1, 697, 0) := by decide +kernel
theorem k_118_105 : COD 118 105 = some (.lstore_n 1, 1, 0, 0, 0, 0) := by decide +kernel
theorem k_118_106 : COD 118 106 = some (.iinc 3 1, 3, 0, 0, 0, 0) := by decide +kernel
theorem k_118_109 : COD 118 109 = some (.goto (-31), 3, 78, 0, 0, 0) := by decide +kernel
theorem k_118_112 : COD 118 112 = some (.iconst 0, 1, 0, 0, 0, 0) := by decide +kernel
theorem k_118_113 : COD 118 113 = some (.istore_n 3, 1, 0, 0, 0, 0) := by decide +kernel
theorem k_118_114 : COD 118 114 = some (.iload_n 3, 1, 0, 0, 0, 0) := by decide +kernel
theorem k_118_115 : COD 118 115 = some (.aload_n 0, 1, 0, 0, 0, 0) := by decide +kernel
theorem k_118_116 : COD 118 116 = some (.getfield 52, 3, 7, 6, 296, 0) := by decide +kernel
theorem k_118_119 : COD 118 119 = some (.getfield 111, 3, 5, 2, 242, 0) := by decide +kernel
theorem k_118_122 : COD 118 122 = some (.if_icmp .ge 25, 3, 147, 0, 0, 0) := by decide +kernel
theorem k_118_125 : COD 118 125 = some (.lload_n 1, 1, 0, 0, 0, 0) := by decide +kernel
theorem k_118_126 : COD 118 126 = some (.ldc2_w 215, 3, 0, 0, 677, 0) := by decide +kernel
theorem k_118_129 : COD 118 129 = some (.lmul, 1, 0, 0, 0, 0) := by decide +kernel
theorem k_118_130 : COD 118 130 = some (.aload_n 0, 1, 0, 0, 0, 0) := by decide +kernel
theorem k_118_131 : COD 118 131 = some (.getfield 52, 3, 7, 6, 296, 0) := by decide +kernel
theorem k_118_134 : COD 118 134 = some (.iload_n 3, 1, 0, 0, 0, 0) := by decide +kernel
theorem k_118_135 : COD 118 135 = some (.invokevirtual 165, 3, 67, 1, 475, 5) := by decide +kernel
theorem k_118_138 : COD 118 138 = some (.i2l, 1, 0, 0, 0, 0) := by decide +kernel
theorem k_118_139 : COD 118 139 = some (.ladd, 1, 0, 0, 0, 0) := by decide +kernel
theorem k_118_140 : COD 118 140 = some (.lstore_n 1, 1, 0, 0, 0, 0) := by decide +kernel
theorem k_118_141 : COD 118 141 = some (.iinc 3 1, 3, 0, 0, 0, 0) := by decide +kernel
theorem k_118_144 : COD 118 144 = some (.goto (-30), 3, 114, 0, 0, 0) := by decide +kernel
theorem k_118_147 : COD 118 147 = some (.lload_n 1, 1, 0, 0, 0, 0) := by decide +kernel
theorem k_118_148 : COD 118 148 = some (.lreturn, 1, 0, 0, 0, 0) := by decide +kernel
theorem k_119_0 : COD 119 0 = some (.aload_n 0, 1, 0, 0, 0, 0) := by decide +kernel
theorem k_119_1 : COD 119 1 = some (.getfield 52, 3, 7, 6, 296, 0) := by decide +kernel
theorem k_119_4 : COD 119 4 = some (.iload_n 1, 1, 0, 0, 0, 0) := by decide +kernel
theorem k_119_5 : COD 119 5 = some (.invokevirtual 235, 3, 62, 1, 354, 5) := by decide +kernel
theorem k_119_8 : COD 119 8 = some (.astore_n 2, 1, 0, 0, 0, 0) := by decide +kernel
theorem k_119_9 : COD 119 9 = some (.aload_n 2, 1, 0, 0, 0, 0) := by decide +kernel
theorem k_119_10 : COD 119 10 = some (.ifnonnull 13, 3, 23, 0, 0, 0) := by decide +kernel
theorem k_119_13 : COD 119 13 = some (.new 242, 3, 2, 1, 355, 0) := by decide +kernel
theorem k_119_16 : COD 119 16 = some (.dup, 1, 0, 0, 0, 0) := by decide +kernel
theorem k_119_17 : COD 119 17 = some (.ldc 244, 2, 90, 0, 396, 0) := by decide +kernel
theorem k_119_19 : COD 119 19 = some (.invokespecial 246, 3, 999, 1, 397, 0) := by decide +kernel
theorem k_119_22 : COD 119 22 = some (.athrow, 1, 0, 0, 0, 0) := by decide +kernel
theorem k_119_23 : COD 119 23 = some (.aload_n 2, 1, 0, 0, 0, 0) := by decide +kernel
theorem k_119_24 : COD 119 24 = some (.areturn, 1, 0, 0, 0, 0) := by decide +kernel
theorem k_120_0 : COD 120 0 = some (.iload_n 1, 1, 0, 0, 0, 0) := by decide +kernel
theorem k_120_1 : COD 120 1 = some (.ifCond .lt 19, 3, 20, 0, 0, 0) := by decide +kernel
theorem k_120_4 : COD 120 4 = some (.iload_n 1, 1, 0, 0, 0, 0) := by decide +kernel
theorem k_120_5 : COD 120 5 = some (.iload_n 2, 1, 0, 0, 0, 0) := by decide +kernel
theorem k_120_6 : COD 120 6 = some (.if_icmp .gt 14, 3, 20, 0, 0, 0) := by decide +kernel
theorem k_120_9 : COD 120 9 = some (.iload_n 2, 1, 0, 0, 0, 0) := by decide +kernel
theorem k_120_10 : COD 120 10 = some (.aload_n 0, 1, 0, 0, 0, 0) := by decide +kernel
theorem k_120_11 : COD 120 11 = some (.getfield 52, 3, 7, 6, 296, 0) := by decide +kernel
theorem k_120_14 : COD 120 14 = some (.getfield 111, 3, 5, 2, 242, 0) := by decide +kernel
theorem k_120_17 : COD 120 17 = some (.if_icmp .lt 13, 3, 30, 0, 0, 0) := by decide +kernel
theorem k_120_20 : COD 120 20 = some (.new 242, 3, 2, 1, 355, 0) := by decide +kernel
theorem k_120_23 : COD 120 23 = some (.dup, 1, 0, 0, 0, 0) := by decide +kernel
theorem k_120_24 : COD 120 24 = some (.ldc 247, 2, 90, 0, 474, 0) := by decide +kernel
theorem k_120_26 : COD 120 26 = some (.invokespecial 246, 3, 999, 1, 397, 0) := by decide +kernel
theorem k_120_29 : COD 120 29 = some (.athrow, 1, 0, 0, 0, 0) := by decide +kernel
theorem k_120_30 : COD 120 30 = some (.return_, 1, 0, 0, 0, 0) := by decide +kernel
theorem k_121_0 : COD 121 0 = some (.iload_n 0, 1, 0, 0, 0, 0) := by decide +kernel
theorem k_121_1 : COD 121 1 = some (.iload_n 1, 1, 0, 0, 0, 0) := by decide +kernel
theorem k_121_2 : COD 121 2 = some (.if_icmp .lt 8, 3, 10, 0, 0, 0) := by decide +kernel
theorem k_121_5 : COD 121 5 = some (.iload_n 0, 1, 0, 0, 0, 0) := by decide +kernel
theorem k_121_6 : COD 121 6 = some (.iload_n 2, 1, 0, 0, 0, 0) := by decide +kernel
theorem k_121_7 : COD 121 7 = some (.if_icmp .le 13, 3, 20, 0, 0, 0) := by decide +kernel
theorem k_121_10 : COD 121 10 = some (.new 81, 3, 1, 1, 581, 0) := by decide +kernel
theorem k_121_13 : COD 121 13 = some (.dup, 1, 0, 0, 0, 0) := by decide +kernel
theorem k_121_14 : COD 121 14 = some (.ldc 249, 2, 90, 0, 590, 0) := by decide +kernel
theorem k_121_16 : COD 121 16 = some (.invokespecial 85, 3, 999, 1, 591, 0) := by decide +kernel
theorem k_121_19 : COD 121 19 = some (.athrow, 1, 0, 0, 0, 0) := by decide +kernel
theorem k_121_20 : COD 121 20 = some (.return_, 1, 0, 0, 0, 0) := by decide +kernel
