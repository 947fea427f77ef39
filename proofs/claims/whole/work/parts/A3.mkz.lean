/-! the parts of the class are made -/
theorem dX10_init_0 : decode cX10_init 0 = .ok (.aload_n 0, 1) := by decide +kernel
theorem dX10_init_1 : decode cX10_init 1 = .ok (.invokespecial 3, 3) := by decide +kernel
theorem dX10_init_4 : decode cX10_init 4 = .ok (.aload_n 0, 1) := by decide +kernel
theorem dX10_init_5 : decode cX10_init 5 = .ok (.sipush 1600, 3) := by decide +kernel
theorem dX10_init_8 : decode cX10_init 8 = .ok (.newarray .int, 2) := by decide +kernel
theorem dX10_init_10 : decode cX10_init 10 = .ok (.putfield 9, 3) := by decide +kernel
theorem dX10_init_13 : decode cX10_init 13 = .ok (.aload_n 0, 1) := by decide +kernel
theorem dX10_init_14 : decode cX10_init 14 = .ok (.iconst 0, 1) := by decide +kernel
theorem dX10_init_15 : decode cX10_init 15 = .ok (.putfield 15, 3) := by decide +kernel
theorem dX10_init_18 : decode cX10_init 18 = .ok (.aload_n 0, 1) := by decide +kernel
theorem dX10_init_19 : decode cX10_init 19 = .ok (.iconst 0, 1) := by decide +kernel
theorem dX10_init_20 : decode cX10_init 20 = .ok (.putfield 19, 3) := by decide +kernel
theorem dX10_init_23 : decode cX10_init 23 = .ok (.aload_n 0, 1) := by decide +kernel
theorem dX10_init_24 : decode cX10_init 24 = .ok (.iconst (-1), 1) := by decide +kernel
theorem dX10_init_25 : decode cX10_init 25 = .ok (.putfield 22, 3) := by decide +kernel
theorem dX10_init_28 : decode cX10_init 28 = .ok (.aload_n 0, 1) := by decide +kernel
theorem dX10_init_29 : decode cX10_init 29 = .ok (.iconst 0, 1) := by decide +kernel
theorem dX10_init_30 : decode cX10_init 30 = .ok (.putfield 25, 3) := by decide +kernel
theorem dX10_init_33 : decode cX10_init 33 = .ok (.aload_n 0, 1) := by decide +kernel
theorem dX10_init_34 : decode cX10_init 34 = .ok (.iconst 0, 1) := by decide +kernel
theorem dX10_init_35 : decode cX10_init 35 = .ok (.putfield 28, 3) := by decide +kernel
theorem dX10_init_38 : decode cX10_init 38 = .ok (.aload_n 0, 1) := by decide +kernel
theorem dX10_init_39 : decode cX10_init 39 = .ok (.iconst (-1), 1) := by decide +kernel
theorem dX10_init_40 : decode cX10_init 40 = .ok (.putfield 31, 3) := by decide +kernel
theorem dX10_init_43 : decode cX10_init 43 = .ok (.aload_n 0, 1) := by decide +kernel
theorem dX10_init_44 : decode cX10_init 44 = .ok (.iconst 0, 1) := by decide +kernel
theorem dX10_init_45 : decode cX10_init 45 = .ok (.putfield 34, 3) := by decide +kernel
theorem dX10_init_48 : decode cX10_init 48 = .ok (.aload_n 0, 1) := by decide +kernel
theorem dX10_init_49 : decode cX10_init 49 = .ok (.iconst 0, 1) := by decide +kernel
theorem dX10_init_50 : decode cX10_init 50 = .ok (.putfield 37, 3) := by decide +kernel
theorem dX10_init_53 : decode cX10_init 53 = .ok (.return_, 1) := by decide +kernel
theorem dX3_init_0 : decode cX3_init 0 = .ok (.aload_n 0, 1) := by decide +kernel
theorem dX3_init_1 : decode cX3_init 1 = .ok (.invokespecial 3, 3) := by decide +kernel
theorem dX3_init_4 : decode cX3_init 4 = .ok (.aload_n 0, 1) := by decide +kernel
theorem dX3_init_5 : decode cX3_init 5 = .ok (.sipush 1600, 3) := by decide +kernel
theorem dX3_init_8 : decode cX3_init 8 = .ok (.newarray .int, 2) := by decide +kernel
theorem dX3_init_10 : decode cX3_init 10 = .ok (.putfield 9, 3) := by decide +kernel
theorem dX3_init_13 : decode cX3_init 13 = .ok (.aload_n 0, 1) := by decide +kernel
theorem dX3_init_14 : decode cX3_init 14 = .ok (.iconst 3, 1) := by decide +kernel
theorem dX3_init_15 : decode cX3_init 15 = .ok (.newarray .int, 2) := by decide +kernel
theorem dX3_init_17 : decode cX3_init 17 = .ok (.putfield 15, 3) := by decide +kernel
theorem dX3_init_20 : decode cX3_init 20 = .ok (.aload_n 0, 1) := by decide +kernel
theorem dX3_init_21 : decode cX3_init 21 = .ok (.iconst 3, 1) := by decide +kernel
theorem dX3_init_22 : decode cX3_init 22 = .ok (.newarray .int, 2) := by decide +kernel
theorem dX3_init_24 : decode cX3_init 24 = .ok (.putfield 18, 3) := by decide +kernel
theorem dX3_init_27 : decode cX3_init 27 = .ok (.aload_n 0, 1) := by decide +kernel
theorem dX3_init_28 : decode cX3_init 28 = .ok (.bipush 64, 2) := by decide +kernel
theorem dX3_init_30 : decode cX3_init 30 = .ok (.newarray .int, 2) := by decide +kernel
theorem dX3_init_32 : decode cX3_init 32 = .ok (.putfield 21, 3) := by decide +kernel
theorem dX3_init_35 : decode cX3_init 35 = .ok (.aload_n 0, 1) := by decide +kernel
theorem dX3_init_36 : decode cX3_init 36 = .ok (.iconst 0, 1) := by decide +kernel
theorem dX3_init_37 : decode cX3_init 37 = .ok (.putfield 24, 3) := by decide +kernel
theorem dX3_init_40 : decode cX3_init 40 = .ok (.return_, 1) := by decide +kernel
theorem dX7_init_0 : decode cX7_init 0 = .ok (.aload_n 0, 1) := by decide +kernel
theorem dX7_init_1 : decode cX7_init 1 = .ok (.invokespecial 3, 3) := by decide +kernel
theorem dX7_init_4 : decode cX7_init 4 = .ok (.aload_n 0, 1) := by decide +kernel
theorem dX7_init_5 : decode cX7_init 5 = .ok (.iconst 0, 1) := by decide +kernel
theorem dX7_init_6 : decode cX7_init 6 = .ok (.putfield 9, 3) := by decide +kernel
theorem dX7_init_9 : decode cX7_init 9 = .ok (.aload_n 0, 1) := by decide +kernel
theorem dX7_init_10 : decode cX7_init 10 = .ok (.iconst 0, 1) := by decide +kernel
theorem dX7_init_11 : decode cX7_init 11 = .ok (.putfield 15, 3) := by decide +kernel
theorem dX7_init_14 : decode cX7_init 14 = .ok (.aload_n 0, 1) := by decide +kernel
theorem dX7_init_15 : decode cX7_init 15 = .ok (.bipush 10, 2) := by decide +kernel
theorem dX7_init_17 : decode cX7_init 17 = .ok (.putfield 18, 3) := by decide +kernel
theorem dX7_init_20 : decode cX7_init 20 = .ok (.aload_n 0, 1) := by decide +kernel
theorem dX7_init_21 : decode cX7_init 21 = .ok (.iconst 3, 1) := by decide +kernel
theorem dX7_init_22 : decode cX7_init 22 = .ok (.putfield 21, 3) := by decide +kernel
theorem dX7_init_25 : decode cX7_init 25 = .ok (.aload_n 0, 1) := by decide +kernel
theorem dX7_init_26 : decode cX7_init 26 = .ok (.iconst 0, 1) := by decide +kernel
theorem dX7_init_27 : decode cX7_init 27 = .ok (.putfield 24, 3) := by decide +kernel
theorem dX7_init_30 : decode cX7_init 30 = .ok (.aload_n 0, 1) := by decide +kernel
theorem dX7_init_31 : decode cX7_init 31 = .ok (.bipush 8, 2) := by decide +kernel
theorem dX7_init_33 : decode cX7_init 33 = .ok (.newarray .int, 2) := by decide +kernel
theorem dX7_init_35 : decode cX7_init 35 = .ok (.putfield 27, 3) := by decide +kernel
theorem dX7_init_38 : decode cX7_init 38 = .ok (.aload_n 0, 1) := by decide +kernel
theorem dX7_init_39 : decode cX7_init 39 = .ok (.bipush 8, 2) := by decide +kernel
theorem dX7_init_41 : decode cX7_init 41 = .ok (.newarray .int, 2) := by decide +kernel
theorem dX7_init_43 : decode cX7_init 43 = .ok (.putfield 31, 3) := by decide +kernel
theorem dX7_init_46 : decode cX7_init 46 = .ok (.aload_n 0, 1) := by decide +kernel
theorem dX7_init_47 : decode cX7_init 47 = .ok (.bipush 8, 2) := by decide +kernel
theorem dX7_init_49 : decode cX7_init 49 = .ok (.newarray .int, 2) := by decide +kernel
theorem dX7_init_51 : decode cX7_init 51 = .ok (.putfield 34, 3) := by decide +kernel
theorem dX7_init_54 : decode cX7_init 54 = .ok (.aload_n 0, 1) := by decide +kernel
theorem dX7_init_55 : decode cX7_init 55 = .ok (.bipush 8, 2) := by decide +kernel
theorem dX7_init_57 : decode cX7_init 57 = .ok (.newarray .int, 2) := by decide +kernel
theorem dX7_init_59 : decode cX7_init 59 = .ok (.putfield 37, 3) := by decide +kernel
theorem dX7_init_62 : decode cX7_init 62 = .ok (.aload_n 0, 1) := by decide +kernel
theorem dX7_init_63 : decode cX7_init 63 = .ok (.new 40, 3) := by decide +kernel
theorem dX7_init_66 : decode cX7_init 66 = .ok (.dup, 1) := by decide +kernel
theorem dX7_init_67 : decode cX7_init 67 = .ok (.invokespecial 42, 3) := by decide +kernel
theorem dX7_init_70 : decode cX7_init 70 = .ok (.putfield 43, 3) := by decide +kernel
theorem dX7_init_73 : decode cX7_init 73 = .ok (.aload_n 0, 1) := by decide +kernel
theorem dX7_init_74 : decode cX7_init 74 = .ok (.new 47, 3) := by decide +kernel
theorem dX7_init_77 : decode cX7_init 77 = .ok (.dup, 1) := by decide +kernel
theorem dX7_init_78 : decode cX7_init 78 = .ok (.invokespecial 49, 3) := by decide +kernel
theorem dX7_init_81 : decode cX7_init 81 = .ok (.putfield 50, 3) := by decide +kernel
theorem dX7_init_84 : decode cX7_init 84 = .ok (.return_, 1) := by decide +kernel
theorem dX1_init_0 : decode cX1_init 0 = .ok (.aload_n 0, 1) := by decide +kernel
theorem dX1_init_1 : decode cX1_init 1 = .ok (.invokespecial 3, 3) := by decide +kernel
theorem dX1_init_4 : decode cX1_init 4 = .ok (.aload_n 0, 1) := by decide +kernel
theorem dX1_init_5 : decode cX1_init 5 = .ok (.bipush 13, 2) := by decide +kernel
theorem dX1_init_7 : decode cX1_init 7 = .ok (.newarray .int, 2) := by decide +kernel
theorem dX1_init_9 : decode cX1_init 9 = .ok (.putfield 9, 3) := by decide +kernel
theorem dX1_init_12 : decode cX1_init 12 = .ok (.aload_n 0, 1) := by decide +kernel
theorem dX1_init_13 : decode cX1_init 13 = .ok (.bipush 8, 2) := by decide +kernel
theorem dX1_init_15 : decode cX1_init 15 = .ok (.newarray .int, 2) := by decide +kernel
theorem dX1_init_17 : decode cX1_init 17 = .ok (.putfield 15, 3) := by decide +kernel
theorem dX1_init_20 : decode cX1_init 20 = .ok (.aload_n 0, 1) := by decide +kernel
theorem dX1_init_21 : decode cX1_init 21 = .ok (.bipush 8, 2) := by decide +kernel
theorem dX1_init_23 : decode cX1_init 23 = .ok (.newarray .int, 2) := by decide +kernel
theorem dX1_init_25 : decode cX1_init 25 = .ok (.putfield 18, 3) := by decide +kernel
theorem dX1_init_28 : decode cX1_init 28 = .ok (.aload_n 0, 1) := by decide +kernel
theorem dX1_init_29 : decode cX1_init 29 = .ok (.aload_n 1, 1) := by decide +kernel
theorem dX1_init_30 : decode cX1_init 30 = .ok (.putfield 21, 3) := by decide +kernel
theorem dX1_init_33 : decode cX1_init 33 = .ok (.return_, 1) := by decide +kernel
theorem dX2_init_0 : decode cX2_init 0 = .ok (.aload_n 0, 1) := by decide +kernel
theorem dX2_init_1 : decode cX2_init 1 = .ok (.invokespecial 3, 3) := by decide +kernel
theorem dX2_init_4 : decode cX2_init 4 = .ok (.aload_n 0, 1) := by decide +kernel
theorem dX2_init_5 : decode cX2_init 5 = .ok (.new 9, 3) := by decide +kernel
theorem dX2_init_8 : decode cX2_init 8 = .ok (.dup, 1) := by decide +kernel
theorem dX2_init_9 : decode cX2_init 9 = .ok (.invokespecial 11, 3) := by decide +kernel
theorem dX2_init_12 : decode cX2_init 12 = .ok (.putfield 12, 3) := by decide +kernel
theorem dX2_init_15 : decode cX2_init 15 = .ok (.aload_n 0, 1) := by decide +kernel
theorem dX2_init_16 : decode cX2_init 16 = .ok (.iconst (-1), 1) := by decide +kernel
theorem dX2_init_17 : decode cX2_init 17 = .ok (.putfield 18, 3) := by decide +kernel
theorem dX2_init_20 : decode cX2_init 20 = .ok (.aload_n 0, 1) := by decide +kernel
theorem dX2_init_21 : decode cX2_init 21 = .ok (.iconst (-1), 1) := by decide +kernel
theorem dX2_init_22 : decode cX2_init 22 = .ok (.putfield 22, 3) := by decide +kernel
theorem dX2_init_25 : decode cX2_init 25 = .ok (.aload_n 0, 1) := by decide +kernel
theorem dX2_init_26 : decode cX2_init 26 = .ok (.aload_n 1, 1) := by decide +kernel
theorem dX2_init_27 : decode cX2_init 27 = .ok (.putfield 25, 3) := by decide +kernel
theorem dX2_init_30 : decode cX2_init 30 = .ok (.aload_n 0, 1) := by decide +kernel
theorem dX2_init_31 : decode cX2_init 31 = .ok (.aload_n 2, 1) := by decide +kernel
theorem dX2_init_32 : decode cX2_init 32 = .ok (.putfield 29, 3) := by decide +kernel
theorem dX2_init_35 : decode cX2_init 35 = .ok (.aload_n 0, 1) := by decide +kernel
theorem dX2_init_36 : decode cX2_init 36 = .ok (.aload_n 3, 1) := by decide +kernel
theorem dX2_init_37 : decode cX2_init 37 = .ok (.putfield 32, 3) := by decide +kernel
theorem dX2_init_40 : decode cX2_init 40 = .ok (.return_, 1) := by decide +kernel
theorem dX6_init_0 : decode cX6_init 0 = .ok (.aload_n 0, 1) := by decide +kernel
theorem dX6_init_1 : decode cX6_init 1 = .ok (.invokespecial 3, 3) := by decide +kernel
theorem dX6_init_4 : decode cX6_init 4 = .ok (.aload_n 0, 1) := by decide +kernel
theorem dX6_init_5 : decode cX6_init 5 = .ok (.new 9, 3) := by decide +kernel
theorem dX6_init_8 : decode cX6_init 8 = .ok (.dup, 1) := by decide +kernel
theorem dX6_init_9 : decode cX6_init 9 = .ok (.invokespecial 11, 3) := by decide +kernel
theorem dX6_init_12 : decode cX6_init 12 = .ok (.putfield 12, 3) := by decide +kernel
theorem dX6_init_15 : decode cX6_init 15 = .ok (.aload_n 0, 1) := by decide +kernel
theorem dX6_init_16 : decode cX6_init 16 = .ok (.bipush 16, 2) := by decide +kernel
theorem dX6_init_18 : decode cX6_init 18 = .ok (.newarray .int, 2) := by decide +kernel
theorem dX6_init_20 : decode cX6_init 20 = .ok (.putfield 18, 3) := by decide +kernel
theorem dX6_init_23 : decode cX6_init 23 = .ok (.aload_n 0, 1) := by decide +kernel
theorem dX6_init_24 : decode cX6_init 24 = .ok (.bipush 16, 2) := by decide +kernel
theorem dX6_init_26 : decode cX6_init 26 = .ok (.newarray .int, 2) := by decide +kernel
theorem dX6_init_28 : decode cX6_init 28 = .ok (.putfield 22, 3) := by decide +kernel
theorem dX6_init_31 : decode cX6_init 31 = .ok (.aload_n 0, 1) := by decide +kernel
theorem dX6_init_32 : decode cX6_init 32 = .ok (.iconst 0, 1) := by decide +kernel
theorem dX6_init_33 : decode cX6_init 33 = .ok (.putfield 25, 3) := by decide +kernel
theorem dX6_init_36 : decode cX6_init 36 = .ok (.aload_n 0, 1) := by decide +kernel
theorem dX6_init_37 : decode cX6_init 37 = .ok (.bipush 24, 2) := by decide +kernel
theorem dX6_init_39 : decode cX6_init 39 = .ok (.newarray .int, 2) := by decide +kernel
theorem dX6_init_41 : decode cX6_init 41 = .ok (.putfield 29, 3) := by decide +kernel
theorem dX6_init_44 : decode cX6_init 44 = .ok (.aload_n 0, 1) := by decide +kernel
theorem dX6_init_45 : decode cX6_init 45 = .ok (.iconst (-1), 1) := by decide +kernel
theorem dX6_init_46 : decode cX6_init 46 = .ok (.putfield 32, 3) := by decide +kernel
theorem dX6_init_49 : decode cX6_init 49 = .ok (.aload_n 0, 1) := by decide +kernel
theorem dX6_init_50 : decode cX6_init 50 = .ok (.iconst (-1), 1) := by decide +kernel
theorem dX6_init_51 : decode cX6_init 51 = .ok (.putfield 35, 3) := by decide +kernel
theorem dX6_init_54 : decode cX6_init 54 = .ok (.aload_n 0, 1) := by decide +kernel
theorem dX6_init_55 : decode cX6_init 55 = .ok (.aload_n 1, 1) := by decide +kernel
theorem dX6_init_56 : decode cX6_init 56 = .ok (.putfield 38, 3) := by decide +kernel
theorem dX6_init_59 : decode cX6_init 59 = .ok (.aload_n 0, 1) := by decide +kernel
theorem dX6_init_60 : decode cX6_init 60 = .ok (.aload_n 2, 1) := by decide +kernel
theorem dX6_init_61 : decode cX6_init 61 = .ok (.putfield 42, 3) := by decide +kernel
theorem dX6_init_64 : decode cX6_init 64 = .ok (.aload_n 0, 1) := by decide +kernel
theorem dX6_init_65 : decode cX6_init 65 = .ok (.aload_n 3, 1) := by decide +kernel
theorem dX6_init_66 : decode cX6_init 66 = .ok (.putfield 45, 3) := by decide +kernel
theorem dX6_init_69 : decode cX6_init 69 = .ok (.return_, 1) := by decide +kernel
theorem dX4_init_0 : decode cX4_init 0 = .ok (.aload_n 0, 1) := by decide +kernel
theorem dX4_init_1 : decode cX4_init 1 = .ok (.invokespecial 3, 3) := by decide +kernel
theorem dX4_init_4 : decode cX4_init 4 = .ok (.aload_n 0, 1) := by decide +kernel
theorem dX4_init_5 : decode cX4_init 5 = .ok (.iconst 0, 1) := by decide +kernel
theorem dX4_init_6 : decode cX4_init 6 = .ok (.putfield 9, 3) := by decide +kernel
theorem dX4_init_9 : decode cX4_init 9 = .ok (.aload_n 0, 1) := by decide +kernel
theorem dX4_init_10 : decode cX4_init 10 = .ok (.aload_n 1, 1) := by decide +kernel
theorem dX4_init_11 : decode cX4_init 11 = .ok (.putfield 15, 3) := by decide +kernel
theorem dX4_init_14 : decode cX4_init 14 = .ok (.aload_n 0, 1) := by decide +kernel
theorem dX4_init_15 : decode cX4_init 15 = .ok (.aload_n 2, 1) := by decide +kernel
theorem dX4_init_16 : decode cX4_init 16 = .ok (.putfield 19, 3) := by decide +kernel
theorem dX4_init_19 : decode cX4_init 19 = .ok (.return_, 1) := by decide +kernel
theorem dX8_init_0 : decode cX8_init 0 = .ok (.aload_n 0, 1) := by decide +kernel
theorem dX8_init_1 : decode cX8_init 1 = .ok (.invokespecial 3, 3) := by decide +kernel
theorem dX8_init_4 : decode cX8_init 4 = .ok (.aload_n 0, 1) := by decide +kernel
theorem dX8_init_5 : decode cX8_init 5 = .ok (.new 9, 3) := by decide +kernel
theorem dX8_init_8 : decode cX8_init 8 = .ok (.dup, 1) := by decide +kernel
theorem dX8_init_9 : decode cX8_init 9 = .ok (.invokespecial 11, 3) := by decide +kernel
theorem dX8_init_12 : decode cX8_init 12 = .ok (.putfield 12, 3) := by decide +kernel
theorem dX8_init_15 : decode cX8_init 15 = .ok (.aload_n 0, 1) := by decide +kernel
theorem dX8_init_16 : decode cX8_init 16 = .ok (.aload_n 1, 1) := by decide +kernel
theorem dX8_init_17 : decode cX8_init 17 = .ok (.putfield 18, 3) := by decide +kernel
theorem dX8_init_20 : decode cX8_init 20 = .ok (.aload_n 0, 1) := by decide +kernel
theorem dX8_init_21 : decode cX8_init 21 = .ok (.new 22, 3) := by decide +kernel
theorem dX8_init_24 : decode cX8_init 24 = .ok (.dup, 1) := by decide +kernel
theorem dX8_init_25 : decode cX8_init 25 = .ok (.aload_n 1, 1) := by decide +kernel
theorem dX8_init_26 : decode cX8_init 26 = .ok (.aload_n 0, 1) := by decide +kernel
theorem dX8_init_27 : decode cX8_init 27 = .ok (.getfield 12, 3) := by decide +kernel
theorem dX8_init_30 : decode cX8_init 30 = .ok (.getfield 24, 3) := by decide +kernel
theorem dX8_init_33 : decode cX8_init 33 = .ok (.invokespecial 28, 3) := by decide +kernel
theorem dX8_init_36 : decode cX8_init 36 = .ok (.putfield 31, 3) := by decide +kernel
theorem dX8_init_39 : decode cX8_init 39 = .ok (.return_, 1) := by decide +kernel
theorem dX5_init_0 : decode cX5_init 0 = .ok (.aload_n 0, 1) := by decide +kernel
theorem dX5_init_1 : decode cX5_init 1 = .ok (.invokespecial 3, 3) := by decide +kernel
theorem dX5_init_4 : decode cX5_init 4 = .ok (.aload_n 0, 1) := by decide +kernel
theorem dX5_init_5 : decode cX5_init 5 = .ok (.new 9, 3) := by decide +kernel
theorem dX5_init_8 : decode cX5_init 8 = .ok (.dup, 1) := by decide +kernel
theorem dX5_init_9 : decode cX5_init 9 = .ok (.invokespecial 11, 3) := by decide +kernel
theorem dX5_init_12 : decode cX5_init 12 = .ok (.putfield 12, 3) := by decide +kernel
theorem dX5_init_15 : decode cX5_init 15 = .ok (.aload_n 0, 1) := by decide +kernel
theorem dX5_init_16 : decode cX5_init 16 = .ok (.bipush 13, 2) := by decide +kernel
theorem dX5_init_18 : decode cX5_init 18 = .ok (.newarray .int, 2) := by decide +kernel
theorem dX5_init_20 : decode cX5_init 20 = .ok (.putfield 18, 3) := by decide +kernel
theorem dX5_init_23 : decode cX5_init 23 = .ok (.aload_n 0, 1) := by decide +kernel
theorem dX5_init_24 : decode cX5_init 24 = .ok (.getstatic 22, 3) := by decide +kernel
theorem dX5_init_27 : decode cX5_init 27 = .ok (.putfield 28, 3) := by decide +kernel
theorem dX5_init_30 : decode cX5_init 30 = .ok (.aload_n 0, 1) := by decide +kernel
theorem dX5_init_31 : decode cX5_init 31 = .ok (.aload_n 1, 1) := by decide +kernel
theorem dX5_init_32 : decode cX5_init 32 = .ok (.putfield 31, 3) := by decide +kernel
theorem dX5_init_35 : decode cX5_init 35 = .ok (.aload_n 0, 1) := by decide +kernel
theorem dX5_init_36 : decode cX5_init 36 = .ok (.aload_n 2, 1) := by decide +kernel
theorem dX5_init_37 : decode cX5_init 37 = .ok (.putfield 35, 3) := by decide +kernel
theorem dX5_init_40 : decode cX5_init 40 = .ok (.aload_n 0, 1) := by decide +kernel
theorem dX5_init_41 : decode cX5_init 41 = .ok (.aload_n 3, 1) := by decide +kernel
theorem dX5_init_42 : decode cX5_init 42 = .ok (.putfield 39, 3) := by decide +kernel
theorem dX5_init_45 : decode cX5_init 45 = .ok (.aload_n 0, 1) := by decide +kernel
theorem dX5_init_46 : decode cX5_init 46 = .ok (.new 43, 3) := by decide +kernel
theorem dX5_init_49 : decode cX5_init 49 = .ok (.dup, 1) := by decide +kernel
theorem dX5_init_50 : decode cX5_init 50 = .ok (.aload_n 1, 1) := by decide +kernel
theorem dX5_init_51 : decode cX5_init 51 = .ok (.aload_n 0, 1) := by decide +kernel
theorem dX5_init_52 : decode cX5_init 52 = .ok (.getfield 12, 3) := by decide +kernel
theorem dX5_init_55 : decode cX5_init 55 = .ok (.invokespecial 45, 3) := by decide +kernel
theorem dX5_init_58 : decode cX5_init 58 = .ok (.putfield 48, 3) := by decide +kernel
theorem dX5_init_61 : decode cX5_init 61 = .ok (.aload_n 0, 1) := by decide +kernel
theorem dX5_init_62 : decode cX5_init 62 = .ok (.getfield 48, 3) := by decide +kernel
theorem dX5_init_65 : decode cX5_init 65 = .ok (.iconst 4, 1) := by decide +kernel
theorem dX5_init_66 : decode cX5_init 66 = .ok (.putfield 52, 3) := by decide +kernel
theorem dX5_init_69 : decode cX5_init 69 = .ok (.return_, 1) := by decide +kernel
theorem PX_row {w a : Nat} (h : a ≠ 31) : PXw w a = fun j => (z_PXl.getD a []).getD j none := by unfold PXw; rw [if_neg h]; rfl
theorem uu78 {n : Nat} {IL : Ii} {rl : List Int32} (hn : 78 < n := by decide) : u2 (u2 (iS 71 n IL rl) 78 2 0) 78 2 4 = iS 71 n IL rl := by
  funext a j
  by_cases e : a = 78
  · subst e
    by_cases e2 : j = 2
    · subst e2; rw [u2_at]; unfold iS; rw [if_neg (by decide), if_neg (by decide), if_pos hn]; rfl
    · rw [u2_k e2, u2_k e2]
  · rw [u2_row e, u2_row e]
theorem st_13 : isSt 13 := by unfold isSt; decide
theorem st_37 : isSt 37 := by unfold isSt; decide
theorem st_44 : isSt 44 := by unfold isSt; decide
theorem st_64 : isSt 64 := by unfold isSt; decide
theorem st_19 : isSt 19 := by unfold isSt; decide
theorem st_25 : isSt 25 := by unfold isSt; decide
section MK
variable {w d : Nat} {PL : Rf} {IL : Ii} {Q : QN}
theorem k_X10_1 (h : Q (pE w 1 3 PL) (iE 1 3 IL) J0x) : CalN wX.1 (d + 1) 1 1600 mX10_init [.ref 1] 2 (pS w 1 2 PL (List.replicate 9 none)) (iS 1 2 IL [0, 0, 0, 0, 0, 0, 0, 0, 0]) J0x 3 Q := by
  refine CalN.of (by omega) (by decide) rfl (Nat.le_of_ble_eq_true rfl) ?_
  refine n_aload_n dX10_init_0 0 0 rfl rfl ?_
  refine n_obj dX10_init_1 (z_c1 33 (by decide +kernel) rfl) (z_c1 26 (by decide +kernel) rfl) (z_c1 27 (by decide +kernel) rfl) (by omega) ?_
  refine n_aload_n dX10_init_4 0 0 rfl rfl ?_
  refine n_sipush (v := 1600) dX10_init_5 (by decide) ?_
  refine c_newI (n := 2) (k := 1600) dX10_init_8 (by decide) rfl rfl (by decide) rfl (by decide) (by decide) (by decide) (by decide) (by decide) ?_
  refine c_putR (a := 2) [some 2, none, none, none, none, none, none, none, none] dX10_init_10 fl_X10_9 rfl rfl rfl (fun _ => rfl) (fun _ => rfl) ⟨rfl, Nat.le_of_ble_eq_true rfl, by decide, by decide⟩ (by decide) rfl ?_
  refine n_aload_n dX10_init_13 0 0 rfl rfl ?_
  refine n_iconst (v := 0) dX10_init_14 (by decide) ?_
  refine c_putI [0, 0, 0, 0, 0, 0, 0, 0, 0] dX10_init_15 fl_X10_15 rfl rfl rfl rfl ⟨rfl, Nat.le_of_ble_eq_true rfl, by decide, by decide⟩ (by decide) rfl ?_
  refine n_aload_n dX10_init_18 0 0 rfl rfl ?_
  refine n_iconst (v := 0) dX10_init_19 (by decide) ?_
  refine c_putI [0, 0, 0, 0, 0, 0, 0, 0, 0] dX10_init_20 fl_X10_19 rfl rfl rfl rfl ⟨rfl, Nat.le_of_ble_eq_true rfl, by decide, by decide⟩ (by decide) rfl ?_
  refine n_aload_n dX10_init_23 0 0 rfl rfl ?_
  refine n_iconst (v := (-1)) dX10_init_24 (by decide) ?_
  refine c_putI [0, 0, 0, -1, 0, 0, 0, 0, 0] dX10_init_25 fl_X10_22 rfl rfl rfl rfl ⟨rfl, Nat.le_of_ble_eq_true rfl, by decide, by decide⟩ (by decide) rfl ?_
  refine n_aload_n dX10_init_28 0 0 rfl rfl ?_
  refine n_iconst (v := 0) dX10_init_29 (by decide) ?_
  refine c_putI [0, 0, 0, -1, 0, 0, 0, 0, 0] dX10_init_30 fl_X10_25 rfl rfl rfl rfl ⟨rfl, Nat.le_of_ble_eq_true rfl, by decide, by decide⟩ (by decide) rfl ?_
  refine n_aload_n dX10_init_33 0 0 rfl rfl ?_
  refine n_iconst (v := 0) dX10_init_34 (by decide) ?_
  refine c_putI [0, 0, 0, -1, 0, 0, 0, 0, 0] dX10_init_35 fl_X10_28 rfl rfl rfl rfl ⟨rfl, Nat.le_of_ble_eq_true rfl, by decide, by decide⟩ (by decide) rfl ?_
  refine n_aload_n dX10_init_38 0 0 rfl rfl ?_
  refine n_iconst (v := (-1)) dX10_init_39 (by decide) ?_
  refine c_putI [0, 0, 0, -1, 0, 0, -1, 0, 0] dX10_init_40 fl_X10_31 rfl rfl rfl rfl ⟨rfl, Nat.le_of_ble_eq_true rfl, by decide, by decide⟩ (by decide) rfl ?_
  refine n_aload_n dX10_init_43 0 0 rfl rfl ?_
  refine n_iconst (v := 0) dX10_init_44 (by decide) ?_
  refine c_putI [0, 0, 0, -1, 0, 0, -1, 0, 0] dX10_init_45 fl_X10_34 rfl rfl rfl rfl ⟨rfl, Nat.le_of_ble_eq_true rfl, by decide, by decide⟩ (by decide) rfl ?_
  refine n_aload_n dX10_init_48 0 0 rfl rfl ?_
  refine n_iconst (v := 0) dX10_init_49 (by decide) ?_
  refine c_putI [0, 0, 0, -1, 0, 0, -1, 0, 0] dX10_init_50 fl_X10_37 rfl rfl rfl rfl ⟨rfl, Nat.le_of_ble_eq_true rfl, by decide, by decide⟩ (by decide) rfl ?_
  exact c_ret dX10_init_53 rfl (by decide) (by decide) (by decide) ((lgeq 9 (by decide) (by decide) (by decide) : _ = fun j => (z_PXl.getD 1 []).getD j none).trans (PX_row (by decide)).symm) (lgeq 9 (by decide) (by decide) (by decide)) h
theorem k_X3_8 (h : Q (pE w 8 13 PL) (iE 8 13 IL) J0x) : CalN wX.1 (d + 1) 4 1670 mX3_init [.ref 8] 9 (pS w 8 9 PL (List.replicate 5 none)) (iS 8 9 IL [0, 0, 0, 0, 0]) J0x 13 Q := by
  refine CalN.of (by omega) (by decide) rfl (Nat.le_of_ble_eq_true rfl) ?_
  refine n_aload_n dX3_init_0 0 0 rfl rfl ?_
  refine n_obj dX3_init_1 (z_c1 84 (by decide +kernel) rfl) (z_c1 26 (by decide +kernel) rfl) (z_c1 27 (by decide +kernel) rfl) (by omega) ?_
  refine n_aload_n dX3_init_4 0 0 rfl rfl ?_
  refine n_sipush (v := 1600) dX3_init_5 (by decide) ?_
  refine c_newI (n := 9) (k := 1600) dX3_init_8 (by decide) rfl rfl (by decide) rfl (by decide) (by decide) (by decide) (by decide) (by decide) ?_
  refine c_putR (a := 9) [some 9, none, none, none, none] dX3_init_10 fl_X3_9 rfl rfl rfl (fun _ => rfl) (fun _ => rfl) ⟨rfl, Nat.le_of_ble_eq_true rfl, by decide, by decide⟩ (by decide) rfl ?_
  refine n_aload_n dX3_init_13 0 0 rfl rfl ?_
  refine n_iconst (v := 3) dX3_init_14 (by decide) ?_
  refine c_newI (n := 10) (k := 3) dX3_init_15 (by decide) rfl rfl (by decide) rfl (by decide) (by decide) (by decide) (by decide) (by decide) ?_
  refine c_putR (a := 10) [some 9, some 10, none, none, none] dX3_init_17 fl_X3_15 rfl rfl rfl (fun _ => rfl) (fun _ => rfl) ⟨rfl, Nat.le_of_ble_eq_true rfl, by decide, by decide⟩ (by decide) rfl ?_
  refine n_aload_n dX3_init_20 0 0 rfl rfl ?_
  refine n_iconst (v := 3) dX3_init_21 (by decide) ?_
  refine c_newI (n := 11) (k := 3) dX3_init_22 (by decide) rfl rfl (by decide) rfl (by decide) (by decide) (by decide) (by decide) (by decide) ?_
  refine c_putR (a := 11) [some 9, some 10, some 11, none, none] dX3_init_24 fl_X3_18 rfl rfl rfl (fun _ => rfl) (fun _ => rfl) ⟨rfl, Nat.le_of_ble_eq_true rfl, by decide, by decide⟩ (by decide) rfl ?_
  refine n_aload_n dX3_init_27 0 0 rfl rfl ?_
  refine n_bipush (v := 64) dX3_init_28 (by decide) ?_
  refine c_newI (n := 12) (k := 64) dX3_init_30 (by decide) rfl rfl (by decide) rfl (by decide) (by decide) (by decide) (by decide) (by decide) ?_
  refine c_putR (a := 12) [some 9, some 10, some 11, some 12, none] dX3_init_32 fl_X3_21 rfl rfl rfl (fun _ => rfl) (fun _ => rfl) ⟨rfl, Nat.le_of_ble_eq_true rfl, by decide, by decide⟩ (by decide) rfl ?_
  refine n_aload_n dX3_init_35 0 0 rfl rfl ?_
  refine n_iconst (v := 0) dX3_init_36 (by decide) ?_
  refine c_putI [0, 0, 0, 0, 0] dX3_init_37 fl_X3_24 rfl rfl rfl rfl ⟨rfl, Nat.le_of_ble_eq_true rfl, by decide, by decide⟩ (by decide) rfl ?_
  exact c_ret dX3_init_40 rfl (by decide) (by decide) (by decide) ((lgeq 5 (by decide) (by decide) (by decide) : _ = fun j => (z_PXl.getD 8 []).getD j none).trans (PX_row (by decide)).symm) (lgeq 5 (by decide) (by decide) (by decide)) h
theorem k_X3_59 (h : Q (pE w 59 64 PL) (iE 59 64 IL) J0x) : CalN wX.1 (d + 1) 4 1670 mX3_init [.ref 59] 60 (pS w 59 60 PL (List.replicate 5 none)) (iS 59 60 IL [0, 0, 0, 0, 0]) J0x 64 Q := by
  refine CalN.of (by omega) (by decide) rfl (Nat.le_of_ble_eq_true rfl) ?_
  refine n_aload_n dX3_init_0 0 0 rfl rfl ?_
  refine n_obj dX3_init_1 (z_c1 84 (by decide +kernel) rfl) (z_c1 26 (by decide +kernel) rfl) (z_c1 27 (by decide +kernel) rfl) (by omega) ?_
  refine n_aload_n dX3_init_4 0 0 rfl rfl ?_
  refine n_sipush (v := 1600) dX3_init_5 (by decide) ?_
  refine c_newI (n := 60) (k := 1600) dX3_init_8 (by decide) rfl rfl (by decide) rfl (by decide) (by decide) (by decide) (by decide) (by decide) ?_
  refine c_putR (a := 60) [some 60, none, none, none, none] dX3_init_10 fl_X3_9 rfl rfl rfl (fun _ => rfl) (fun _ => rfl) ⟨rfl, Nat.le_of_ble_eq_true rfl, by decide, by decide⟩ (by decide) rfl ?_
  refine n_aload_n dX3_init_13 0 0 rfl rfl ?_
  refine n_iconst (v := 3) dX3_init_14 (by decide) ?_
  refine c_newI (n := 61) (k := 3) dX3_init_15 (by decide) rfl rfl (by decide) rfl (by decide) (by decide) (by decide) (by decide) (by decide) ?_
  refine c_putR (a := 61) [some 60, some 61, none, none, none] dX3_init_17 fl_X3_15 rfl rfl rfl (fun _ => rfl) (fun _ => rfl) ⟨rfl, Nat.le_of_ble_eq_true rfl, by decide, by decide⟩ (by decide) rfl ?_
  refine n_aload_n dX3_init_20 0 0 rfl rfl ?_
  refine n_iconst (v := 3) dX3_init_21 (by decide) ?_
  refine c_newI (n := 62) (k := 3) dX3_init_22 (by decide) rfl rfl (by decide) rfl (by decide) (by decide) (by decide) (by decide) (by decide) ?_
  refine c_putR (a := 62) [some 60, some 61, some 62, none, none] dX3_init_24 fl_X3_18 rfl rfl rfl (fun _ => rfl) (fun _ => rfl) ⟨rfl, Nat.le_of_ble_eq_true rfl, by decide, by decide⟩ (by decide) rfl ?_
  refine n_aload_n dX3_init_27 0 0 rfl rfl ?_
  refine n_bipush (v := 64) dX3_init_28 (by decide) ?_
  refine c_newI (n := 63) (k := 64) dX3_init_30 (by decide) rfl rfl (by decide) rfl (by decide) (by decide) (by decide) (by decide) (by decide) ?_
  refine c_putR (a := 63) [some 60, some 61, some 62, some 63, none] dX3_init_32 fl_X3_21 rfl rfl rfl (fun _ => rfl) (fun _ => rfl) ⟨rfl, Nat.le_of_ble_eq_true rfl, by decide, by decide⟩ (by decide) rfl ?_
  refine n_aload_n dX3_init_35 0 0 rfl rfl ?_
  refine n_iconst (v := 0) dX3_init_36 (by decide) ?_
  refine c_putI [0, 0, 0, 0, 0] dX3_init_37 fl_X3_24 rfl rfl rfl rfl ⟨rfl, Nat.le_of_ble_eq_true rfl, by decide, by decide⟩ (by decide) rfl ?_
  exact c_ret dX3_init_40 rfl (by decide) (by decide) (by decide) ((lgeq 5 (by decide) (by decide) (by decide) : _ = fun j => (z_PXl.getD 59 []).getD j none).trans (PX_row (by decide)).symm) (lgeq 5 (by decide) (by decide) (by decide)) h
theorem k_X3_72 (h : Q (pE w 72 77 PL) (iE 72 77 IL) J0x) : CalN wX.1 (d + 1) 4 1670 mX3_init [.ref 72] 73 (pS w 72 73 PL (List.replicate 5 none)) (iS 72 73 IL [0, 0, 0, 0, 0]) J0x 77 Q := by
  refine CalN.of (by omega) (by decide) rfl (Nat.le_of_ble_eq_true rfl) ?_
  refine n_aload_n dX3_init_0 0 0 rfl rfl ?_
  refine n_obj dX3_init_1 (z_c1 84 (by decide +kernel) rfl) (z_c1 26 (by decide +kernel) rfl) (z_c1 27 (by decide +kernel) rfl) (by omega) ?_
  refine n_aload_n dX3_init_4 0 0 rfl rfl ?_
  refine n_sipush (v := 1600) dX3_init_5 (by decide) ?_
  refine c_newI (n := 73) (k := 1600) dX3_init_8 (by decide) rfl rfl (by decide) rfl (by decide) (by decide) (by decide) (by decide) (by decide) ?_
  refine c_putR (a := 73) [some 73, none, none, none, none] dX3_init_10 fl_X3_9 rfl rfl rfl (fun _ => rfl) (fun _ => rfl) ⟨rfl, Nat.le_of_ble_eq_true rfl, by decide, by decide⟩ (by decide) rfl ?_
  refine n_aload_n dX3_init_13 0 0 rfl rfl ?_
  refine n_iconst (v := 3) dX3_init_14 (by decide) ?_
  refine c_newI (n := 74) (k := 3) dX3_init_15 (by decide) rfl rfl (by decide) rfl (by decide) (by decide) (by decide) (by decide) (by decide) ?_
  refine c_putR (a := 74) [some 73, some 74, none, none, none] dX3_init_17 fl_X3_15 rfl rfl rfl (fun _ => rfl) (fun _ => rfl) ⟨rfl, Nat.le_of_ble_eq_true rfl, by decide, by decide⟩ (by decide) rfl ?_
  refine n_aload_n dX3_init_20 0 0 rfl rfl ?_
  refine n_iconst (v := 3) dX3_init_21 (by decide) ?_
  refine c_newI (n := 75) (k := 3) dX3_init_22 (by decide) rfl rfl (by decide) rfl (by decide) (by decide) (by decide) (by decide) (by decide) ?_
  refine c_putR (a := 75) [some 73, some 74, some 75, none, none] dX3_init_24 fl_X3_18 rfl rfl rfl (fun _ => rfl) (fun _ => rfl) ⟨rfl, Nat.le_of_ble_eq_true rfl, by decide, by decide⟩ (by decide) rfl ?_
  refine n_aload_n dX3_init_27 0 0 rfl rfl ?_
  refine n_bipush (v := 64) dX3_init_28 (by decide) ?_
  refine c_newI (n := 76) (k := 64) dX3_init_30 (by decide) rfl rfl (by decide) rfl (by decide) (by decide) (by decide) (by decide) (by decide) ?_
  refine c_putR (a := 76) [some 73, some 74, some 75, some 76, none] dX3_init_32 fl_X3_21 rfl rfl rfl (fun _ => rfl) (fun _ => rfl) ⟨rfl, Nat.le_of_ble_eq_true rfl, by decide, by decide⟩ (by decide) rfl ?_
  refine n_aload_n dX3_init_35 0 0 rfl rfl ?_
  refine n_iconst (v := 0) dX3_init_36 (by decide) ?_
  refine c_putI [0, 0, 0, 0, 0] dX3_init_37 fl_X3_24 rfl rfl rfl rfl ⟨rfl, Nat.le_of_ble_eq_true rfl, by decide, by decide⟩ (by decide) rfl ?_
  exact c_ret dX3_init_40 rfl (by decide) (by decide) (by decide) ((lgeq 5 (by decide) (by decide) (by decide) : _ = fun j => (z_PXl.getD 72 []).getD j none).trans (PX_row (by decide)).symm) (lgeq 5 (by decide) (by decide) (by decide)) h
theorem k_X7_3 (h : Q (pE w 3 19 PL) (iE 3 19 IL) J0x) : CalN wX.1 (d + 2) 15 1778 mX7_init [.ref 3] 4 (pS w 3 4 PL (List.replicate 11 none)) (iS 3 4 IL [0, 0, 0, 0, 0, 0, 0, 0, 0, 0, 0]) J0x 19 Q := by
  refine CalN.of (by omega) (by decide) rfl (Nat.le_of_ble_eq_true rfl) ?_
  refine n_aload_n dX7_init_0 0 0 rfl rfl ?_
  refine n_obj dX7_init_1 (z_c1 78 (by decide +kernel) rfl) (z_c1 26 (by decide +kernel) rfl) (z_c1 27 (by decide +kernel) rfl) (by omega) ?_
  refine n_aload_n dX7_init_4 0 0 rfl rfl ?_
  refine n_iconst (v := 0) dX7_init_5 (by decide) ?_
  refine c_putI [0, 0, 0, 0, 0, 0, 0, 0, 0, 0, 0] dX7_init_6 fl_X7_9 rfl rfl rfl rfl ⟨rfl, Nat.le_of_ble_eq_true rfl, by decide, by decide⟩ (by decide) rfl ?_
  refine n_aload_n dX7_init_9 0 0 rfl rfl ?_
  refine n_iconst (v := 0) dX7_init_10 (by decide) ?_
  refine c_putI [0, 0, 0, 0, 0, 0, 0, 0, 0, 0, 0] dX7_init_11 fl_X7_15 rfl rfl rfl rfl ⟨rfl, Nat.le_of_ble_eq_true rfl, by decide, by decide⟩ (by decide) rfl ?_
  refine n_aload_n dX7_init_14 0 0 rfl rfl ?_
  refine n_bipush (v := 10) dX7_init_15 (by decide) ?_
  refine c_putI [0, 0, 10, 0, 0, 0, 0, 0, 0, 0, 0] dX7_init_17 fl_X7_18 rfl rfl rfl rfl ⟨rfl, Nat.le_of_ble_eq_true rfl, by decide, by decide⟩ (by decide) rfl ?_
  refine n_aload_n dX7_init_20 0 0 rfl rfl ?_
  refine n_iconst (v := 3) dX7_init_21 (by decide) ?_
  refine c_putI [0, 0, 10, 3, 0, 0, 0, 0, 0, 0, 0] dX7_init_22 fl_X7_21 rfl rfl rfl rfl ⟨rfl, Nat.le_of_ble_eq_true rfl, by decide, by decide⟩ (by decide) rfl ?_
  refine n_aload_n dX7_init_25 0 0 rfl rfl ?_
  refine n_iconst (v := 0) dX7_init_26 (by decide) ?_
  refine c_putI [0, 0, 10, 3, 0, 0, 0, 0, 0, 0, 0] dX7_init_27 fl_X7_24 rfl rfl rfl rfl ⟨rfl, Nat.le_of_ble_eq_true rfl, by decide, by decide⟩ (by decide) rfl ?_
  refine n_aload_n dX7_init_30 0 0 rfl rfl ?_
  refine n_bipush (v := 8) dX7_init_31 (by decide) ?_
  refine c_newI (n := 4) (k := 8) dX7_init_33 (by decide) rfl rfl (by decide) rfl (by decide) (by decide) (by decide) (by decide) (by decide) ?_
  refine c_putR (a := 4) [none, none, none, none, none, some 4, none, none, none, none, none] dX7_init_35 fl_X7_27 rfl rfl rfl (fun _ => rfl) (fun _ => rfl) ⟨rfl, Nat.le_of_ble_eq_true rfl, by decide, by decide⟩ (by decide) rfl ?_
  refine n_aload_n dX7_init_38 0 0 rfl rfl ?_
  refine n_bipush (v := 8) dX7_init_39 (by decide) ?_
  refine c_newI (n := 5) (k := 8) dX7_init_41 (by decide) rfl rfl (by decide) rfl (by decide) (by decide) (by decide) (by decide) (by decide) ?_
  refine c_putR (a := 5) [none, none, none, none, none, some 4, some 5, none, none, none, none] dX7_init_43 fl_X7_31 rfl rfl rfl (fun _ => rfl) (fun _ => rfl) ⟨rfl, Nat.le_of_ble_eq_true rfl, by decide, by decide⟩ (by decide) rfl ?_
  refine n_aload_n dX7_init_46 0 0 rfl rfl ?_
  refine n_bipush (v := 8) dX7_init_47 (by decide) ?_
  refine c_newI (n := 6) (k := 8) dX7_init_49 (by decide) rfl rfl (by decide) rfl (by decide) (by decide) (by decide) (by decide) (by decide) ?_
  refine c_putR (a := 6) [none, none, none, none, none, some 4, some 5, some 6, none, none, none] dX7_init_51 fl_X7_34 rfl rfl rfl (fun _ => rfl) (fun _ => rfl) ⟨rfl, Nat.le_of_ble_eq_true rfl, by decide, by decide⟩ (by decide) rfl ?_
  refine n_aload_n dX7_init_54 0 0 rfl rfl ?_
  refine n_bipush (v := 8) dX7_init_55 (by decide) ?_
  refine c_newI (n := 7) (k := 8) dX7_init_57 (by decide) rfl rfl (by decide) rfl (by decide) (by decide) (by decide) (by decide) (by decide) ?_
  refine c_putR (a := 7) [none, none, none, none, none, some 4, some 5, some 6, some 7, none, none] dX7_init_59 fl_X7_37 rfl rfl rfl (fun _ => rfl) (fun _ => rfl) ⟨rfl, Nat.le_of_ble_eq_true rfl, by decide, by decide⟩ (by decide) rfl ?_
  refine n_aload_n dX7_init_62 0 0 rfl rfl ?_
  refine c_newo (c := 3) dX7_init_63 (by decide) (z_c1 79 (by decide +kernel) rfl) (z_c1 80 (by decide +kernel) rfl) (z_c1 4 (by decide +kernel) rfl) (by decide) rfl (by decide) (by decide) (by decide) (by decide) ?_
  refine n_dup dX7_init_66 rfl ?_
  refine c_call (n := 8) (m := 5) (N1 := 4) (S1 := 1670) (n1 := 13) (As := []) (rest := [.ref 8, .ref 3]) (bl := [0, 0, 0, 0, 0]) dX7_init_67 ml_X7_42 md_X3_init rfl rfl (z_c1 82 (by decide +kernel) rfl) rfl rfl (by decide) (by decide) (by decide) (by decide) rfl (lgeq 5 (by decide) (by decide) (by decide)) (fun h => k_X3_8 (d := d + 0) h) ?_
  refine c_putR (a := 8) [none, none, none, none, none, some 4, some 5, some 6, some 7, some 8, none] dX7_init_70 fl_X7_43 rfl rfl rfl (fun _ => rfl) (fun _ => rfl) ⟨rfl, Nat.le_of_ble_eq_true rfl, by decide, by decide⟩ (by decide) rfl ?_
  refine n_aload_n dX7_init_73 0 0 rfl rfl ?_
  refine c_newo (c := 9) dX7_init_74 (by decide) (z_c1 101 (by decide +kernel) rfl) (z_c1 102 (by decide +kernel) rfl) (z_c1 5 (by decide +kernel) rfl) (by decide) rfl (by decide) (by decide) (by decide) (by decide) ?_
  refine n_dup dX7_init_77 rfl ?_
  refine c_call (n := 13) (m := 9) (N1 := 5) (S1 := 62) (n1 := 19) (As := []) (rest := [.ref 13, .ref 3]) (bl := [0, 0, 0, 0, 0, 0, 0, 0, 0]) dX7_init_78 ml_X7_49 md_X9_init rfl rfl (z_c1 104 (by decide +kernel) rfl) rfl rfl (by decide) (by decide) (by decide) (by decide) rfl (lgeq 9 (by decide) (by decide) (by decide)) (fun h => k_X9 st_13 (d := d + 0) h) ?_
  refine c_putR (a := 13) [none, none, none, none, none, some 4, some 5, some 6, some 7, some 8, some 13] dX7_init_81 fl_X7_50 rfl rfl rfl (fun _ => rfl) (fun _ => rfl) ⟨rfl, Nat.le_of_ble_eq_true rfl, by decide, by decide⟩ (by decide) rfl ?_
  exact c_ret dX7_init_84 rfl (by decide) (by decide) (by decide) ((lgeq 11 (by decide) (by decide) (by decide) : _ = fun j => (z_PXl.getD 3 []).getD j none).trans (PX_row (by decide)).symm) (lgeq 11 (by decide) (by decide) (by decide)) h
theorem k_X7_54 (h : Q (pE w 54 70 PL) (iE 54 70 IL) J0x) : CalN wX.1 (d + 2) 15 1778 mX7_init [.ref 54] 55 (pS w 54 55 PL (List.replicate 11 none)) (iS 54 55 IL [0, 0, 0, 0, 0, 0, 0, 0, 0, 0, 0]) J0x 70 Q := by
  refine CalN.of (by omega) (by decide) rfl (Nat.le_of_ble_eq_true rfl) ?_
  refine n_aload_n dX7_init_0 0 0 rfl rfl ?_
  refine n_obj dX7_init_1 (z_c1 78 (by decide +kernel) rfl) (z_c1 26 (by decide +kernel) rfl) (z_c1 27 (by decide +kernel) rfl) (by omega) ?_
  refine n_aload_n dX7_init_4 0 0 rfl rfl ?_
  refine n_iconst (v := 0) dX7_init_5 (by decide) ?_
  refine c_putI [0, 0, 0, 0, 0, 0, 0, 0, 0, 0, 0] dX7_init_6 fl_X7_9 rfl rfl rfl rfl ⟨rfl, Nat.le_of_ble_eq_true rfl, by decide, by decide⟩ (by decide) rfl ?_
  refine n_aload_n dX7_init_9 0 0 rfl rfl ?_
  refine n_iconst (v := 0) dX7_init_10 (by decide) ?_
  refine c_putI [0, 0, 0, 0, 0, 0, 0, 0, 0, 0, 0] dX7_init_11 fl_X7_15 rfl rfl rfl rfl ⟨rfl, Nat.le_of_ble_eq_true rfl, by decide, by decide⟩ (by decide) rfl ?_
  refine n_aload_n dX7_init_14 0 0 rfl rfl ?_
  refine n_bipush (v := 10) dX7_init_15 (by decide) ?_
  refine c_putI [0, 0, 10, 0, 0, 0, 0, 0, 0, 0, 0] dX7_init_17 fl_X7_18 rfl rfl rfl rfl ⟨rfl, Nat.le_of_ble_eq_true rfl, by decide, by decide⟩ (by decide) rfl ?_
  refine n_aload_n dX7_init_20 0 0 rfl rfl ?_
  refine n_iconst (v := 3) dX7_init_21 (by decide) ?_
  refine c_putI [0, 0, 10, 3, 0, 0, 0, 0, 0, 0, 0] dX7_init_22 fl_X7_21 rfl rfl rfl rfl ⟨rfl, Nat.le_of_ble_eq_true rfl, by decide, by decide⟩ (by decide) rfl ?_
  refine n_aload_n dX7_init_25 0 0 rfl rfl ?_
  refine n_iconst (v := 0) dX7_init_26 (by decide) ?_
  refine c_putI [0, 0, 10, 3, 0, 0, 0, 0, 0, 0, 0] dX7_init_27 fl_X7_24 rfl rfl rfl rfl ⟨rfl, Nat.le_of_ble_eq_true rfl, by decide, by decide⟩ (by decide) rfl ?_
  refine n_aload_n dX7_init_30 0 0 rfl rfl ?_
  refine n_bipush (v := 8) dX7_init_31 (by decide) ?_
  refine c_newI (n := 55) (k := 8) dX7_init_33 (by decide) rfl rfl (by decide) rfl (by decide) (by decide) (by decide) (by decide) (by decide) ?_
  refine c_putR (a := 55) [none, none, none, none, none, some 55, none, none, none, none, none] dX7_init_35 fl_X7_27 rfl rfl rfl (fun _ => rfl) (fun _ => rfl) ⟨rfl, Nat.le_of_ble_eq_true rfl, by decide, by decide⟩ (by decide) rfl ?_
  refine n_aload_n dX7_init_38 0 0 rfl rfl ?_
  refine n_bipush (v := 8) dX7_init_39 (by decide) ?_
  refine c_newI (n := 56) (k := 8) dX7_init_41 (by decide) rfl rfl (by decide) rfl (by decide) (by decide) (by decide) (by decide) (by decide) ?_
  refine c_putR (a := 56) [none, none, none, none, none, some 55, some 56, none, none, none, none] dX7_init_43 fl_X7_31 rfl rfl rfl (fun _ => rfl) (fun _ => rfl) ⟨rfl, Nat.le_of_ble_eq_true rfl, by decide, by decide⟩ (by decide) rfl ?_
  refine n_aload_n dX7_init_46 0 0 rfl rfl ?_
  refine n_bipush (v := 8) dX7_init_47 (by decide) ?_
  refine c_newI (n := 57) (k := 8) dX7_init_49 (by decide) rfl rfl (by decide) rfl (by decide) (by decide) (by decide) (by decide) (by decide) ?_
  refine c_putR (a := 57) [none, none, none, none, none, some 55, some 56, some 57, none, none, none] dX7_init_51 fl_X7_34 rfl rfl rfl (fun _ => rfl) (fun _ => rfl) ⟨rfl, Nat.le_of_ble_eq_true rfl, by decide, by decide⟩ (by decide) rfl ?_
  refine n_aload_n dX7_init_54 0 0 rfl rfl ?_
  refine n_bipush (v := 8) dX7_init_55 (by decide) ?_
  refine c_newI (n := 58) (k := 8) dX7_init_57 (by decide) rfl rfl (by decide) rfl (by decide) (by decide) (by decide) (by decide) (by decide) ?_
  refine c_putR (a := 58) [none, none, none, none, none, some 55, some 56, some 57, some 58, none, none] dX7_init_59 fl_X7_37 rfl rfl rfl (fun _ => rfl) (fun _ => rfl) ⟨rfl, Nat.le_of_ble_eq_true rfl, by decide, by decide⟩ (by decide) rfl ?_
  refine n_aload_n dX7_init_62 0 0 rfl rfl ?_
  refine c_newo (c := 3) dX7_init_63 (by decide) (z_c1 79 (by decide +kernel) rfl) (z_c1 80 (by decide +kernel) rfl) (z_c1 4 (by decide +kernel) rfl) (by decide) rfl (by decide) (by decide) (by decide) (by decide) ?_
  refine n_dup dX7_init_66 rfl ?_
  refine c_call (n := 59) (m := 5) (N1 := 4) (S1 := 1670) (n1 := 64) (As := []) (rest := [.ref 59, .ref 54]) (bl := [0, 0, 0, 0, 0]) dX7_init_67 ml_X7_42 md_X3_init rfl rfl (z_c1 82 (by decide +kernel) rfl) rfl rfl (by decide) (by decide) (by decide) (by decide) rfl (lgeq 5 (by decide) (by decide) (by decide)) (fun h => k_X3_59 (d := d + 0) h) ?_
  refine c_putR (a := 59) [none, none, none, none, none, some 55, some 56, some 57, some 58, some 59, none] dX7_init_70 fl_X7_43 rfl rfl rfl (fun _ => rfl) (fun _ => rfl) ⟨rfl, Nat.le_of_ble_eq_true rfl, by decide, by decide⟩ (by decide) rfl ?_
  refine n_aload_n dX7_init_73 0 0 rfl rfl ?_
  refine c_newo (c := 9) dX7_init_74 (by decide) (z_c1 101 (by decide +kernel) rfl) (z_c1 102 (by decide +kernel) rfl) (z_c1 5 (by decide +kernel) rfl) (by decide) rfl (by decide) (by decide) (by decide) (by decide) ?_
  refine n_dup dX7_init_77 rfl ?_
  refine c_call (n := 64) (m := 9) (N1 := 5) (S1 := 62) (n1 := 70) (As := []) (rest := [.ref 64, .ref 54]) (bl := [0, 0, 0, 0, 0, 0, 0, 0, 0]) dX7_init_78 ml_X7_49 md_X9_init rfl rfl (z_c1 104 (by decide +kernel) rfl) rfl rfl (by decide) (by decide) (by decide) (by decide) rfl (lgeq 9 (by decide) (by decide) (by decide)) (fun h => k_X9 st_64 (d := d + 0) h) ?_
  refine c_putR (a := 64) [none, none, none, none, none, some 55, some 56, some 57, some 58, some 59, some 64] dX7_init_81 fl_X7_50 rfl rfl rfl (fun _ => rfl) (fun _ => rfl) ⟨rfl, Nat.le_of_ble_eq_true rfl, by decide, by decide⟩ (by decide) rfl ?_
  exact c_ret dX7_init_84 rfl (by decide) (by decide) (by decide) ((lgeq 11 (by decide) (by decide) (by decide) : _ = fun j => (z_PXl.getD 54 []).getD j none).trans (PX_row (by decide)).symm) (lgeq 11 (by decide) (by decide) (by decide)) h
theorem k_X1_32 (h : Q (pE w 32 36 PL) (iE 32 36 IL) J0x) : CalN wX.1 (d + 1) 3 29 mX1_init [.ref 32, .ref 3] 33 (pS w 32 33 PL (List.replicate 4 none)) (iS 32 33 IL [0, 0, 0, 0]) J0x 36 Q := by
  refine CalN.of (by omega) (by decide) rfl (Nat.le_of_ble_eq_true rfl) ?_
  refine n_aload_n dX1_init_0 0 0 rfl rfl ?_
  refine n_obj dX1_init_1 (z_c2 3 (by decide +kernel) rfl) (z_c1 26 (by decide +kernel) rfl) (z_c1 27 (by decide +kernel) rfl) (by omega) ?_
  refine n_aload_n dX1_init_4 0 0 rfl rfl ?_
  refine n_bipush (v := 13) dX1_init_5 (by decide) ?_
  refine c_newI (n := 33) (k := 13) dX1_init_7 (by decide) rfl rfl (by decide) rfl (by decide) (by decide) (by decide) (by decide) (by decide) ?_
  refine c_putR (a := 33) [none, some 33, none, none] dX1_init_9 fl_X1_9 rfl rfl rfl (fun _ => rfl) (fun _ => rfl) ⟨rfl, Nat.le_of_ble_eq_true rfl, by decide, by decide⟩ (by decide) rfl ?_
  refine n_aload_n dX1_init_12 0 0 rfl rfl ?_
  refine n_bipush (v := 8) dX1_init_13 (by decide) ?_
  refine c_newI (n := 34) (k := 8) dX1_init_15 (by decide) rfl rfl (by decide) rfl (by decide) (by decide) (by decide) (by decide) (by decide) ?_
  refine c_putR (a := 34) [none, some 33, some 34, none] dX1_init_17 fl_X1_15 rfl rfl rfl (fun _ => rfl) (fun _ => rfl) ⟨rfl, Nat.le_of_ble_eq_true rfl, by decide, by decide⟩ (by decide) rfl ?_
  refine n_aload_n dX1_init_20 0 0 rfl rfl ?_
  refine n_bipush (v := 8) dX1_init_21 (by decide) ?_
  refine c_newI (n := 35) (k := 8) dX1_init_23 (by decide) rfl rfl (by decide) rfl (by decide) (by decide) (by decide) (by decide) (by decide) ?_
  refine c_putR (a := 35) [none, some 33, some 34, some 35] dX1_init_25 fl_X1_18 rfl rfl rfl (fun _ => rfl) (fun _ => rfl) ⟨rfl, Nat.le_of_ble_eq_true rfl, by decide, by decide⟩ (by decide) rfl ?_
  refine n_aload_n dX1_init_28 0 0 rfl rfl ?_
  refine n_aload_n dX1_init_29 1 1 rfl rfl ?_
  refine c_putR (a := 3) [some 3, some 33, some 34, some 35] dX1_init_30 fl_X1_21 rfl rfl rfl (fun _ => rfl) (fun _ => rfl) ⟨rfl, Nat.le_of_ble_eq_true rfl, by decide, by decide⟩ (by decide) rfl ?_
  exact c_ret dX1_init_33 rfl (by decide) (by decide) (by decide) ((lgeq 4 (by decide) (by decide) (by decide) : _ = fun j => (z_PXl.getD 32 []).getD j none).trans (PX_row (by decide)).symm) (lgeq 4 (by decide) (by decide) (by decide)) h
theorem k_X2_36 (h : Q (pE w 36 43 PL) (iE 36 43 IL) J0x) : CalN wX.1 (d + 2) 6 71 mX2_init [.ref 36, .ref 3, .ref 19, .ref 32] 37 (pS w 36 37 PL (List.replicate 6 none)) (iS 36 37 IL [0, 0, 0, 0, 0, 0]) J0x 43 Q := by
  refine CalN.of (by omega) (by decide) rfl (Nat.le_of_ble_eq_true rfl) ?_
  refine n_aload_n dX2_init_0 0 0 rfl rfl ?_
  refine n_obj dX2_init_1 (z_c2 22 (by decide +kernel) rfl) (z_c1 26 (by decide +kernel) rfl) (z_c1 27 (by decide +kernel) rfl) (by omega) ?_
  refine n_aload_n dX2_init_4 0 0 rfl rfl ?_
  refine c_newo (c := 9) dX2_init_5 (by decide) (z_c2 23 (by decide +kernel) rfl) (z_c1 102 (by decide +kernel) rfl) (z_c1 5 (by decide +kernel) rfl) (by decide) rfl (by decide) (by decide) (by decide) (by decide) ?_
  refine n_dup dX2_init_8 rfl ?_
  refine c_call (n := 37) (m := 9) (N1 := 5) (S1 := 62) (n1 := 43) (As := []) (rest := [.ref 37, .ref 36]) (bl := [0, 0, 0, 0, 0, 0, 0, 0, 0]) dX2_init_9 ml_X2_11 md_X9_init rfl rfl (z_c1 104 (by decide +kernel) rfl) rfl rfl (by decide) (by decide) (by decide) (by decide) rfl (lgeq 9 (by decide) (by decide) (by decide)) (fun h => k_X9 st_37 (d := d + 0) h) ?_
  refine c_putR (a := 37) [none, none, none, some 37, none, none] dX2_init_12 fl_X2_12 rfl rfl rfl (fun _ => rfl) (fun _ => rfl) ⟨rfl, Nat.le_of_ble_eq_true rfl, by decide, by decide⟩ (by decide) rfl ?_
  refine n_aload_n dX2_init_15 0 0 rfl rfl ?_
  refine n_iconst (v := (-1)) dX2_init_16 (by decide) ?_
  refine c_putI [0, 0, 0, 0, -1, 0] dX2_init_17 fl_X2_18 rfl rfl rfl rfl ⟨rfl, Nat.le_of_ble_eq_true rfl, by decide, by decide⟩ (by decide) rfl ?_
  refine n_aload_n dX2_init_20 0 0 rfl rfl ?_
  refine n_iconst (v := (-1)) dX2_init_21 (by decide) ?_
  refine c_putI [0, 0, 0, 0, -1, -1] dX2_init_22 fl_X2_22 rfl rfl rfl rfl ⟨rfl, Nat.le_of_ble_eq_true rfl, by decide, by decide⟩ (by decide) rfl ?_
  refine n_aload_n dX2_init_25 0 0 rfl rfl ?_
  refine n_aload_n dX2_init_26 1 1 rfl rfl ?_
  refine c_putR (a := 3) [some 3, none, none, some 37, none, none] dX2_init_27 fl_X2_25 rfl rfl rfl (fun _ => rfl) (fun _ => rfl) ⟨rfl, Nat.le_of_ble_eq_true rfl, by decide, by decide⟩ (by decide) rfl ?_
  refine n_aload_n dX2_init_30 0 0 rfl rfl ?_
  refine n_aload_n dX2_init_31 2 2 rfl rfl ?_
  refine c_putR (a := 19) [some 3, some 19, none, some 37, none, none] dX2_init_32 fl_X2_29 rfl rfl rfl (fun _ => rfl) (fun _ => rfl) ⟨rfl, Nat.le_of_ble_eq_true rfl, by decide, by decide⟩ (by decide) rfl ?_
  refine n_aload_n dX2_init_35 0 0 rfl rfl ?_
  refine n_aload_n dX2_init_36 3 3 rfl rfl ?_
  refine c_putR (a := 32) [some 3, some 19, some 32, some 37, none, none] dX2_init_37 fl_X2_32 rfl rfl rfl (fun _ => rfl) (fun _ => rfl) ⟨rfl, Nat.le_of_ble_eq_true rfl, by decide, by decide⟩ (by decide) rfl ?_
  exact c_ret dX2_init_40 rfl (by decide) (by decide) (by decide) ((lgeq 6 (by decide) (by decide) (by decide) : _ = fun j => (z_PXl.getD 36 []).getD j none).trans (PX_row (by decide)).symm) (lgeq 6 (by decide) (by decide) (by decide)) h
theorem k_X6_43 (h : Q (pE w 43 53 PL) (iE 43 53 IL) J0x) : CalN wX.1 (d + 2) 9 127 mX6_init [.ref 43, .ref 3, .ref 19, .ref 32] 44 (pS w 43 44 PL (List.replicate 10 none)) (iS 43 44 IL [0, 0, 0, 0, 0, 0, 0, 0, 0, 0]) J0x 53 Q := by
  refine CalN.of (by omega) (by decide) rfl (Nat.le_of_ble_eq_true rfl) ?_
  refine n_aload_n dX6_init_0 0 0 rfl rfl ?_
  refine n_obj dX6_init_1 (z_c2 51 (by decide +kernel) rfl) (z_c1 26 (by decide +kernel) rfl) (z_c1 27 (by decide +kernel) rfl) (by omega) ?_
  refine n_aload_n dX6_init_4 0 0 rfl rfl ?_
  refine c_newo (c := 9) dX6_init_5 (by decide) (z_c2 52 (by decide +kernel) rfl) (z_c1 102 (by decide +kernel) rfl) (z_c1 5 (by decide +kernel) rfl) (by decide) rfl (by decide) (by decide) (by decide) (by decide) ?_
  refine n_dup dX6_init_8 rfl ?_
  refine c_call (n := 44) (m := 9) (N1 := 5) (S1 := 62) (n1 := 50) (As := []) (rest := [.ref 44, .ref 43]) (bl := [0, 0, 0, 0, 0, 0, 0, 0, 0]) dX6_init_9 ml_X6_11 md_X9_init rfl rfl (z_c1 104 (by decide +kernel) rfl) rfl rfl (by decide) (by decide) (by decide) (by decide) rfl (lgeq 9 (by decide) (by decide) (by decide)) (fun h => k_X9 st_44 (d := d + 0) h) ?_
  refine c_putR (a := 44) [none, none, none, some 44, none, none, none, none, none, none] dX6_init_12 fl_X6_12 rfl rfl rfl (fun _ => rfl) (fun _ => rfl) ⟨rfl, Nat.le_of_ble_eq_true rfl, by decide, by decide⟩ (by decide) rfl ?_
  refine n_aload_n dX6_init_15 0 0 rfl rfl ?_
  refine n_bipush (v := 16) dX6_init_16 (by decide) ?_
  refine c_newI (n := 50) (k := 16) dX6_init_18 (by decide) rfl rfl (by decide) rfl (by decide) (by decide) (by decide) (by decide) (by decide) ?_
  refine c_putR (a := 50) [none, none, none, some 44, some 50, none, none, none, none, none] dX6_init_20 fl_X6_18 rfl rfl rfl (fun _ => rfl) (fun _ => rfl) ⟨rfl, Nat.le_of_ble_eq_true rfl, by decide, by decide⟩ (by decide) rfl ?_
  refine n_aload_n dX6_init_23 0 0 rfl rfl ?_
  refine n_bipush (v := 16) dX6_init_24 (by decide) ?_
  refine c_newI (n := 51) (k := 16) dX6_init_26 (by decide) rfl rfl (by decide) rfl (by decide) (by decide) (by decide) (by decide) (by decide) ?_
  refine c_putR (a := 51) [none, none, none, some 44, some 50, some 51, none, none, none, none] dX6_init_28 fl_X6_22 rfl rfl rfl (fun _ => rfl) (fun _ => rfl) ⟨rfl, Nat.le_of_ble_eq_true rfl, by decide, by decide⟩ (by decide) rfl ?_
  refine n_aload_n dX6_init_31 0 0 rfl rfl ?_
  refine n_iconst (v := 0) dX6_init_32 (by decide) ?_
  refine c_putI [0, 0, 0, 0, 0, 0, 0, 0, 0, 0] dX6_init_33 fl_X6_25 rfl rfl rfl rfl ⟨rfl, Nat.le_of_ble_eq_true rfl, by decide, by decide⟩ (by decide) rfl ?_
  refine n_aload_n dX6_init_36 0 0 rfl rfl ?_
  refine n_bipush (v := 24) dX6_init_37 (by decide) ?_
  refine c_newI (n := 52) (k := 24) dX6_init_39 (by decide) rfl rfl (by decide) rfl (by decide) (by decide) (by decide) (by decide) (by decide) ?_
  refine c_putR (a := 52) [none, none, none, some 44, some 50, some 51, none, some 52, none, none] dX6_init_41 fl_X6_29 rfl rfl rfl (fun _ => rfl) (fun _ => rfl) ⟨rfl, Nat.le_of_ble_eq_true rfl, by decide, by decide⟩ (by decide) rfl ?_
  refine n_aload_n dX6_init_44 0 0 rfl rfl ?_
  refine n_iconst (v := (-1)) dX6_init_45 (by decide) ?_
  refine c_putI [0, 0, 0, 0, 0, 0, 0, 0, -1, 0] dX6_init_46 fl_X6_32 rfl rfl rfl rfl ⟨rfl, Nat.le_of_ble_eq_true rfl, by decide, by decide⟩ (by decide) rfl ?_
  refine n_aload_n dX6_init_49 0 0 rfl rfl ?_
  refine n_iconst (v := (-1)) dX6_init_50 (by decide) ?_
  refine c_putI [0, 0, 0, 0, 0, 0, 0, 0, -1, -1] dX6_init_51 fl_X6_35 rfl rfl rfl rfl ⟨rfl, Nat.le_of_ble_eq_true rfl, by decide, by decide⟩ (by decide) rfl ?_
  refine n_aload_n dX6_init_54 0 0 rfl rfl ?_
  refine n_aload_n dX6_init_55 1 1 rfl rfl ?_
  refine c_putR (a := 3) [some 3, none, none, some 44, some 50, some 51, none, some 52, none, none] dX6_init_56 fl_X6_38 rfl rfl rfl (fun _ => rfl) (fun _ => rfl) ⟨rfl, Nat.le_of_ble_eq_true rfl, by decide, by decide⟩ (by decide) rfl ?_
  refine n_aload_n dX6_init_59 0 0 rfl rfl ?_
  refine n_aload_n dX6_init_60 2 2 rfl rfl ?_
  refine c_putR (a := 19) [some 3, some 19, none, some 44, some 50, some 51, none, some 52, none, none] dX6_init_61 fl_X6_42 rfl rfl rfl (fun _ => rfl) (fun _ => rfl) ⟨rfl, Nat.le_of_ble_eq_true rfl, by decide, by decide⟩ (by decide) rfl ?_
  refine n_aload_n dX6_init_64 0 0 rfl rfl ?_
  refine n_aload_n dX6_init_65 3 3 rfl rfl ?_
  refine c_putR (a := 32) [some 3, some 19, some 32, some 44, some 50, some 51, none, some 52, none, none] dX6_init_66 fl_X6_45 rfl rfl rfl (fun _ => rfl) (fun _ => rfl) ⟨rfl, Nat.le_of_ble_eq_true rfl, by decide, by decide⟩ (by decide) rfl ?_
  exact c_ret dX6_init_69 rfl (by decide) (by decide) (by decide) ((lgeq 10 (by decide) (by decide) (by decide) : _ = fun j => (z_PXl.getD 43 []).getD j none).trans (PX_row (by decide)).symm) (lgeq 10 (by decide) (by decide) (by decide)) h
theorem k_X4_70 (h : Q (pE w 70 71 PL) (iE 70 71 IL) J0x) : CalN wX.1 (d + 1) 0 0 mX4_init [.ref 70, .ref 1, .ref 59] 71 (pS w 70 71 PL (List.replicate 3 none)) (iS 70 71 IL [0, 0, 0]) J0x 71 Q := by
  refine CalN.of (by omega) (by decide) rfl (Nat.le_of_ble_eq_true rfl) ?_
  refine n_aload_n dX4_init_0 0 0 rfl rfl ?_
  refine n_obj dX4_init_1 (z_c2 101 (by decide +kernel) rfl) (z_c1 26 (by decide +kernel) rfl) (z_c1 27 (by decide +kernel) rfl) (by omega) ?_
  refine n_aload_n dX4_init_4 0 0 rfl rfl ?_
  refine n_iconst (v := 0) dX4_init_5 (by decide) ?_
  refine c_putI [0, 0, 0] dX4_init_6 fl_X4_9 rfl rfl rfl rfl ⟨rfl, Nat.le_of_ble_eq_true rfl, by decide, by decide⟩ (by decide) rfl ?_
  refine n_aload_n dX4_init_9 0 0 rfl rfl ?_
  refine n_aload_n dX4_init_10 1 1 rfl rfl ?_
  refine c_putR (a := 1) [some 1, none, none] dX4_init_11 fl_X4_15 rfl rfl rfl (fun _ => rfl) (fun _ => rfl) ⟨rfl, Nat.le_of_ble_eq_true rfl, by decide, by decide⟩ (by decide) rfl ?_
  refine n_aload_n dX4_init_14 0 0 rfl rfl ?_
  refine n_aload_n dX4_init_15 2 2 rfl rfl ?_
  refine c_putR (a := 59) [some 1, some 59, none] dX4_init_16 fl_X4_19 rfl rfl rfl (fun _ => rfl) (fun _ => rfl) ⟨rfl, Nat.le_of_ble_eq_true rfl, by decide, by decide⟩ (by decide) rfl ?_
  exact c_ret dX4_init_19 rfl (by decide) (by decide) (by decide) ((lgeq 3 (by decide) (by decide) (by decide) : _ = fun j => (z_PXl.getD 70 []).getD j none).trans (PX_row (by decide)).symm) (lgeq 3 (by decide) (by decide) (by decide)) h
theorem k_X4_78 (h : Q (pE w 78 79 PL) (u2 (iE 78 79 IL) 78 2 0) J0x) : CalN wX.1 (d + 1) 0 0 mX4_init [.ref 78, .ref 1, .ref 72] 79 (pS w 78 79 PL (List.replicate 3 none)) (iS 78 79 IL [0, 0, 0]) J0x 79 Q := by
  refine CalN.of (by omega) (by decide) rfl (Nat.le_of_ble_eq_true rfl) ?_
  refine n_aload_n dX4_init_0 0 0 rfl rfl ?_
  refine n_obj dX4_init_1 (z_c2 101 (by decide +kernel) rfl) (z_c1 26 (by decide +kernel) rfl) (z_c1 27 (by decide +kernel) rfl) (by omega) ?_
  refine n_aload_n dX4_init_4 0 0 rfl rfl ?_
  refine n_iconst (v := 0) dX4_init_5 (by decide) ?_
  refine c_putI [0, 0, 0] dX4_init_6 fl_X4_9 rfl rfl rfl rfl ⟨rfl, Nat.le_of_ble_eq_true rfl, by decide, by decide⟩ (by decide) rfl ?_
  refine n_aload_n dX4_init_9 0 0 rfl rfl ?_
  refine n_aload_n dX4_init_10 1 1 rfl rfl ?_
  refine c_putR (a := 1) [some 1, none, none] dX4_init_11 fl_X4_15 rfl rfl rfl (fun _ => rfl) (fun _ => rfl) ⟨rfl, Nat.le_of_ble_eq_true rfl, by decide, by decide⟩ (by decide) rfl ?_
  refine n_aload_n dX4_init_14 0 0 rfl rfl ?_
  refine n_aload_n dX4_init_15 2 2 rfl rfl ?_
  refine c_putR (a := 72) [some 1, some 72, none] dX4_init_16 fl_X4_19 rfl rfl rfl (fun _ => rfl) (fun _ => rfl) ⟨rfl, Nat.le_of_ble_eq_true rfl, by decide, by decide⟩ (by decide) rfl ?_
  refine n_return dX4_init_19 rfl (by decide) (by decide) ?_
  rw [pS_end (by decide) ((lgeq 3 (by decide) (by decide) (by decide) : _ = fun j => (z_PXl.getD 78 []).getD j none).trans (PX_row (by decide)).symm), show ([0, 0, 0] : List Int32) = List.set [0, 0, 4] 2 0 from rfl, ← iS_put (by decide), iS_end (by decide) (lgeq 3 (by decide) (by decide) (by decide))]
  exact h
theorem k_X8_53 (h : Q (pE w 53 71 PL) (iE 53 71 IL) J0x) : CalN wX.1 (d + 3) 17 1792 mX8_init [.ref 53, .ref 1] 54 (pS w 53 54 PL (List.replicate 3 none)) (iS 53 54 IL [0, 0, 0]) J0x 71 Q := by
  refine CalN.of (by omega) (by decide) rfl (Nat.le_of_ble_eq_true rfl) ?_
  refine n_aload_n dX8_init_0 0 0 rfl rfl ?_
  refine n_obj dX8_init_1 (z_c2 93 (by decide +kernel) rfl) (z_c1 26 (by decide +kernel) rfl) (z_c1 27 (by decide +kernel) rfl) (by omega) ?_
  refine n_aload_n dX8_init_4 0 0 rfl rfl ?_
  refine c_newo (c := 7) dX8_init_5 (by decide) (z_c2 94 (by decide +kernel) rfl) (z_c1 74 (by decide +kernel) rfl) (z_c1 3 (by decide +kernel) rfl) (by decide) rfl (by decide) (by decide) (by decide) (by decide) ?_
  refine n_dup dX8_init_8 rfl ?_
  refine c_call (n := 54) (m := 11) (N1 := 15) (S1 := 1778) (n1 := 70) (As := []) (rest := [.ref 54, .ref 53]) (bl := [0, 0, 0, 0, 0, 0, 0, 0, 0, 0, 0]) dX8_init_9 ml_X8_11 md_X7_init rfl rfl (z_c1 76 (by decide +kernel) rfl) rfl rfl (by decide) (by decide) (by decide) (by decide) rfl (lgeq 11 (by decide) (by decide) (by decide)) (fun h => k_X7_54 (d := d + 0) h) ?_
  refine c_putR (a := 54) [none, some 54, none] dX8_init_12 fl_X8_12 rfl rfl rfl (fun _ => rfl) (fun _ => rfl) ⟨rfl, Nat.le_of_ble_eq_true rfl, by decide, by decide⟩ (by decide) rfl ?_
  refine n_aload_n dX8_init_15 0 0 rfl rfl ?_
  refine n_aload_n dX8_init_16 1 1 rfl rfl ?_
  refine c_putR (a := 1) [some 1, some 54, none] dX8_init_17 fl_X8_18 rfl rfl rfl (fun _ => rfl) (fun _ => rfl) ⟨rfl, Nat.le_of_ble_eq_true rfl, by decide, by decide⟩ (by decide) rfl ?_
  refine n_aload_n dX8_init_20 0 0 rfl rfl ?_
  refine c_newo (c := 4) dX8_init_21 (by decide) (z_c2 96 (by decide +kernel) rfl) (z_c2 97 (by decide +kernel) rfl) (z_c1 11 (by decide +kernel) rfl) (by decide) rfl (by decide) (by decide) (by decide) (by decide) ?_
  refine n_dup dX8_init_24 rfl ?_
  refine n_aload_n dX8_init_25 1 1 rfl rfl ?_
  refine n_aload_n dX8_init_26 0 0 rfl rfl ?_
  refine n_getP (o := 53) (a := 54) dX8_init_27 fl_X8_12 rfl ⟨rfl, Nat.le_of_ble_eq_true rfl, by decide, by decide⟩ rfl ?_
  refine n_getP (o := 54) (a := 59) dX8_init_30 fl_X8_24 rfl ⟨rfl, Nat.le_of_ble_eq_true rfl, by decide, by decide⟩ rfl ?_
  refine c_call (n := 70) (m := 3) (N1 := 0) (S1 := 0) (n1 := 71) (As := [.ref 1, .ref 59]) (rest := [.ref 70, .ref 53]) (bl := [0, 0, 0]) dX8_init_33 ml_X8_28 md_X4_init rfl rfl (z_c2 99 (by decide +kernel) rfl) rfl rfl (by decide) (by decide) (by decide) (by decide) rfl (lgeq 3 (by decide) (by decide) (by decide)) (fun h => k_X4_70 (d := d + 1) h) ?_
  refine c_putR (a := 70) [some 1, some 54, some 70] dX8_init_36 fl_X8_31 rfl rfl rfl (fun _ => rfl) (fun _ => rfl) ⟨rfl, Nat.le_of_ble_eq_true rfl, by decide, by decide⟩ (by decide) rfl ?_
  exact c_ret dX8_init_39 rfl (by decide) (by decide) (by decide) ((lgeq 3 (by decide) (by decide) (by decide) : _ = fun j => (z_PXl.getD 53 []).getD j none).trans (PX_row (by decide)).symm) (lgeq 3 (by decide) (by decide) (by decide)) h
theorem k_X5_71 (h : Q (pE w 71 79 PL) (iE 71 79 IL) J0x) : CalN wX.1 (d + 2) 7 1691 mX5_init [.ref 71, .ref 1, .ref 3, .ref 19] 72 (pS w 71 72 PL (List.replicate 7 none)) (iS 71 72 IL [0, 0, 0, 0, 0, 0, -1]) J0x 79 Q := by
  refine CalN.of (by omega) (by decide) rfl (Nat.le_of_ble_eq_true rfl) ?_
  refine n_aload_n dX5_init_0 0 0 rfl rfl ?_
  refine n_obj dX5_init_1 (z_c2 130 (by decide +kernel) rfl) (z_c1 26 (by decide +kernel) rfl) (z_c1 27 (by decide +kernel) rfl) (by omega) ?_
  refine n_aload_n dX5_init_4 0 0 rfl rfl ?_
  refine c_newo (c := 3) dX5_init_5 (by decide) (z_c2 131 (by decide +kernel) rfl) (z_c1 80 (by decide +kernel) rfl) (z_c1 4 (by decide +kernel) rfl) (by decide) rfl (by decide) (by decide) (by decide) (by decide) ?_
  refine n_dup dX5_init_8 rfl ?_
  refine c_call (n := 72) (m := 5) (N1 := 4) (S1 := 1670) (n1 := 77) (As := []) (rest := [.ref 72, .ref 71]) (bl := [0, 0, 0, 0, 0]) dX5_init_9 ml_X5_11 md_X3_init rfl rfl (z_c1 82 (by decide +kernel) rfl) rfl rfl (by decide) (by decide) (by decide) (by decide) rfl (lgeq 5 (by decide) (by decide) (by decide)) (fun h => k_X3_72 (d := d + 0) h) ?_
  refine c_putR (a := 72) [none, none, none, some 72, none, none, none] dX5_init_12 fl_X5_12 rfl rfl rfl (fun _ => rfl) (fun _ => rfl) ⟨rfl, Nat.le_of_ble_eq_true rfl, by decide, by decide⟩ (by decide) rfl ?_
  refine n_aload_n dX5_init_15 0 0 rfl rfl ?_
  refine n_bipush (v := 13) dX5_init_16 (by decide) ?_
  refine c_newI (n := 77) (k := 13) dX5_init_18 (by decide) rfl rfl (by decide) rfl (by decide) (by decide) (by decide) (by decide) (by decide) ?_
  refine c_putR (a := 77) [none, none, none, some 72, some 77, none, none] dX5_init_20 fl_X5_18 rfl rfl rfl (fun _ => rfl) (fun _ => rfl) ⟨rfl, Nat.le_of_ble_eq_true rfl, by decide, by decide⟩ (by decide) rfl ?_
  refine n_aload_n dX5_init_23 0 0 rfl rfl ?_
  refine n_word (i := 30) dX5_init_24 wg_X5_22 (by decide) ?_
  refine n_putW dX5_init_27 fl_X5_28 rfl rfl (by decide) ⟨rfl, Nat.le_of_ble_eq_true rfl, by decide, by decide⟩ ?_
  rw [iS_put (by decide)]
  rw [show List.set [0, 0, 0, 0, 0, 0, -1] 6 (nI 30) = [0, 0, 0, 0, 0, 0, 30] from rfl]
  refine n_aload_n dX5_init_30 0 0 rfl rfl ?_
  refine n_aload_n dX5_init_31 1 1 rfl rfl ?_
  refine c_putR (a := 1) [some 1, none, none, some 72, some 77, none, none] dX5_init_32 fl_X5_31 rfl rfl rfl (fun _ => rfl) (fun _ => rfl) ⟨rfl, Nat.le_of_ble_eq_true rfl, by decide, by decide⟩ (by decide) rfl ?_
  refine n_aload_n dX5_init_35 0 0 rfl rfl ?_
  refine n_aload_n dX5_init_36 2 2 rfl rfl ?_
  refine c_putR (a := 3) [some 1, some 3, none, some 72, some 77, none, none] dX5_init_37 fl_X5_35 rfl rfl rfl (fun _ => rfl) (fun _ => rfl) ⟨rfl, Nat.le_of_ble_eq_true rfl, by decide, by decide⟩ (by decide) rfl ?_
  refine n_aload_n dX5_init_40 0 0 rfl rfl ?_
  refine n_aload_n dX5_init_41 3 3 rfl rfl ?_
  refine c_putR (a := 19) [some 1, some 3, some 19, some 72, some 77, none, none] dX5_init_42 fl_X5_39 rfl rfl rfl (fun _ => rfl) (fun _ => rfl) ⟨rfl, Nat.le_of_ble_eq_true rfl, by decide, by decide⟩ (by decide) rfl ?_
  refine n_aload_n dX5_init_45 0 0 rfl rfl ?_
  refine c_newo (c := 4) dX5_init_46 (by decide) (z_c2 135 (by decide +kernel) rfl) (z_c2 97 (by decide +kernel) rfl) (z_c1 11 (by decide +kernel) rfl) (by decide) rfl (by decide) (by decide) (by decide) (by decide) ?_
  refine n_dup dX5_init_49 rfl ?_
  refine n_aload_n dX5_init_50 1 1 rfl rfl ?_
  refine n_aload_n dX5_init_51 0 0 rfl rfl ?_
  refine n_getP (o := 71) (a := 72) dX5_init_52 fl_X5_12 rfl ⟨rfl, Nat.le_of_ble_eq_true rfl, by decide, by decide⟩ rfl ?_
  rw [pS_in (n := 78) (m := 3) (by decide), iS_in (n := 78) (bl := [0, 0, 0]) (by decide) (lgeq 3 (by decide) (by decide) (by decide))]
  refine n_callK (n1 := 79) (As := [.ref 1, .ref 72]) (rest := [.ref 78, .ref 71]) dX5_init_55 ml_X5_45 md_X4_init rfl rfl (z_c2 99 (by decide +kernel) rfl) rfl rfl (by decide) (by decide) (by decide) rfl (k_X4_78 (d := d + 0) (Q := fun P' I' J' => P' = pE w 78 79 (pS w 71 78 PL [some 1, some 3, some 19, some 72, some 77, none, none]) ∧ I' = u2 (iE 78 79 (iS 71 78 IL [0, 0, 0, 0, 0, 0, 30])) 78 2 0 ∧ J' = J0x) ⟨rfl, rfl, rfl⟩) (fun P' I' J' q => ?_)
  obtain ⟨rfl, rfl, rfl⟩ := q
  rw [pE_out (by decide) (by decide), iE_out (by decide) (by decide)]
  refine n_putR (a := 78) dX5_init_58 fl_X5_48 rfl rfl rfl (fun _ => rfl) (fun _ => rfl) ⟨rfl, Nat.le_of_ble_eq_true rfl, by decide, by decide⟩ ?_
  rw [pS_put (by decide), show List.set [some 1, some 3, some 19, some 72, some 77, none, none] 5 (some 78) = [some 1, some 3, some 19, some 72, some 77, some 78, none] from rfl]
  refine n_aload_n dX5_init_61 0 0 rfl rfl ?_
  refine n_getP (o := 71) (a := 78) dX5_init_62 fl_X5_48 rfl ⟨rfl, Nat.le_of_ble_eq_true rfl, by decide, by decide⟩ rfl ?_
  refine n_iconst (v := 4) dX5_init_65 (by decide) ?_
  refine n_putI (o := 78) dX5_init_66 fl_X5_52 rfl rfl rfl rfl ⟨rfl, Nat.le_of_ble_eq_true rfl, by decide, by decide⟩ ?_
  rw [uu78]
  exact c_ret dX5_init_69 rfl (by decide) (by decide) (by decide) ((lgeq 7 (by decide) (by decide) (by decide) : _ = fun j => (z_PXl.getD 71 []).getD j none).trans (PX_row (by decide)).symm) (lgeq 7 (by decide) (by decide) (by decide)) h
end MK
