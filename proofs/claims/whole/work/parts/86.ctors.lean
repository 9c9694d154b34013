theorem dX0_init_0 : decode cX0_init 0 = .ok (.aload_n 0, 1) := by decide +kernel
theorem dX0_init_1 : decode cX0_init 1 = .ok (.invokespecial 3, 3) := by decide +kernel
theorem dX0_init_4 : decode cX0_init 4 = .ok (.aload_n 0, 1) := by decide +kernel
theorem dX0_init_5 : decode cX0_init 5 = .ok (.new 9, 3) := by decide +kernel
theorem dX0_init_8 : decode cX0_init 8 = .ok (.dup, 1) := by decide +kernel
theorem dX0_init_9 : decode cX0_init 9 = .ok (.invokespecial 11, 3) := by decide +kernel
theorem dX0_init_12 : decode cX0_init 12 = .ok (.putfield 12, 3) := by decide +kernel
theorem dX0_init_15 : decode cX0_init 15 = .ok (.aload_n 0, 1) := by decide +kernel
theorem dX0_init_16 : decode cX0_init 16 = .ok (.new 9, 3) := by decide +kernel
theorem dX0_init_19 : decode cX0_init 19 = .ok (.dup, 1) := by decide +kernel
theorem dX0_init_20 : decode cX0_init 20 = .ok (.invokespecial 11, 3) := by decide +kernel
theorem dX0_init_23 : decode cX0_init 23 = .ok (.putfield 18, 3) := by decide +kernel
theorem dX0_init_26 : decode cX0_init 26 = .ok (.aload_n 0, 1) := by decide +kernel
theorem dX0_init_27 : decode cX0_init 27 = .ok (.iconst 0, 1) := by decide +kernel
theorem dX0_init_28 : decode cX0_init 28 = .ok (.putfield 21, 3) := by decide +kernel
theorem dX0_init_31 : decode cX0_init 31 = .ok (.aload_n 0, 1) := by decide +kernel
theorem dX0_init_32 : decode cX0_init 32 = .ok (.iconst 0, 1) := by decide +kernel
theorem dX0_init_33 : decode cX0_init 33 = .ok (.putfield 25, 3) := by decide +kernel
theorem dX0_init_36 : decode cX0_init 36 = .ok (.aload_n 0, 1) := by decide +kernel
theorem dX0_init_37 : decode cX0_init 37 = .ok (.aload_n 1, 1) := by decide +kernel
theorem dX0_init_38 : decode cX0_init 38 = .ok (.putfield 28, 3) := by decide +kernel
theorem dX0_init_41 : decode cX0_init 41 = .ok (.aload_n 0, 1) := by decide +kernel
theorem dX0_init_42 : decode cX0_init 42 = .ok (.aload_n 2, 1) := by decide +kernel
theorem dX0_init_43 : decode cX0_init 43 = .ok (.putfield 32, 3) := by decide +kernel
theorem dX0_init_46 : decode cX0_init 46 = .ok (.aload_n 0, 1) := by decide +kernel
theorem dX0_init_47 : decode cX0_init 47 = .ok (.aload_n 3, 1) := by decide +kernel
theorem dX0_init_48 : decode cX0_init 48 = .ok (.putfield 36, 3) := by decide +kernel
theorem dX0_init_51 : decode cX0_init 51 = .ok (.aload_n 0, 1) := by decide +kernel
theorem dX0_init_52 : decode cX0_init 52 = .ok (.iload 4, 2) := by decide +kernel
theorem dX0_init_54 : decode cX0_init 54 = .ok (.putfield 40, 3) := by decide +kernel
theorem dX0_init_57 : decode cX0_init 57 = .ok (.return_, 1) := by decide +kernel
theorem dX1_init_0 : decode cX1_init 0 = .ok (.aload_n 0, 1) := by decide +kernel
theorem dX1_init_1 : decode cX1_init 1 = .ok (.invokespecial 3, 3) := by decide +kernel
theorem dX1_init_4 : decode cX1_init 4 = .ok (.aload_n 0, 1) := by decide +kernel
theorem dX1_init_5 : decode cX1_init 5 = .ok (.iconst 0, 1) := by decide +kernel
theorem dX1_init_6 : decode cX1_init 6 = .ok (.putfield 9, 3) := by decide +kernel
theorem dX1_init_9 : decode cX1_init 9 = .ok (.aload_n 0, 1) := by decide +kernel
theorem dX1_init_10 : decode cX1_init 10 = .ok (.iconst 0, 1) := by decide +kernel
theorem dX1_init_11 : decode cX1_init 11 = .ok (.putfield 15, 3) := by decide +kernel
theorem dX1_init_14 : decode cX1_init 14 = .ok (.aload_n 0, 1) := by decide +kernel
theorem dX1_init_15 : decode cX1_init 15 = .ok (.iconst 0, 1) := by decide +kernel
theorem dX1_init_16 : decode cX1_init 16 = .ok (.putfield 19, 3) := by decide +kernel
theorem dX1_init_19 : decode cX1_init 19 = .ok (.aload_n 0, 1) := by decide +kernel
theorem dX1_init_20 : decode cX1_init 20 = .ok (.iconst 0, 1) := by decide +kernel
theorem dX1_init_21 : decode cX1_init 21 = .ok (.putfield 22, 3) := by decide +kernel
theorem dX1_init_24 : decode cX1_init 24 = .ok (.aload_n 0, 1) := by decide +kernel
theorem dX1_init_25 : decode cX1_init 25 = .ok (.iconst 0, 1) := by decide +kernel
theorem dX1_init_26 : decode cX1_init 26 = .ok (.putfield 25, 3) := by decide +kernel
theorem dX1_init_29 : decode cX1_init 29 = .ok (.aload_n 0, 1) := by decide +kernel
theorem dX1_init_30 : decode cX1_init 30 = .ok (.iconst 0, 1) := by decide +kernel
theorem dX1_init_31 : decode cX1_init 31 = .ok (.putfield 28, 3) := by decide +kernel
theorem dX1_init_34 : decode cX1_init 34 = .ok (.aload_n 0, 1) := by decide +kernel
theorem dX1_init_35 : decode cX1_init 35 = .ok (.iconst 0, 1) := by decide +kernel
theorem dX1_init_36 : decode cX1_init 36 = .ok (.putfield 31, 3) := by decide +kernel
theorem dX1_init_39 : decode cX1_init 39 = .ok (.aload_n 0, 1) := by decide +kernel
theorem dX1_init_40 : decode cX1_init 40 = .ok (.iconst 0, 1) := by decide +kernel
theorem dX1_init_41 : decode cX1_init 41 = .ok (.putfield 34, 3) := by decide +kernel
theorem dX1_init_44 : decode cX1_init 44 = .ok (.aload_n 0, 1) := by decide +kernel
theorem dX1_init_45 : decode cX1_init 45 = .ok (.iconst 0, 1) := by decide +kernel
theorem dX1_init_46 : decode cX1_init 46 = .ok (.putfield 37, 3) := by decide +kernel
theorem dX1_init_49 : decode cX1_init 49 = .ok (.aload_n 0, 1) := by decide +kernel
theorem dX1_init_50 : decode cX1_init 50 = .ok (.iconst 0, 1) := by decide +kernel
theorem dX1_init_51 : decode cX1_init 51 = .ok (.putfield 40, 3) := by decide +kernel
theorem dX1_init_54 : decode cX1_init 54 = .ok (.aload_n 0, 1) := by decide +kernel
theorem dX1_init_55 : decode cX1_init 55 = .ok (.aload_n 2, 1) := by decide +kernel
theorem dX1_init_56 : decode cX1_init 56 = .ok (.putfield 43, 3) := by decide +kernel
theorem dX1_init_59 : decode cX1_init 59 = .ok (.aload_n 0, 1) := by decide +kernel
theorem dX1_init_60 : decode cX1_init 60 = .ok (.aload_n 3, 1) := by decide +kernel
theorem dX1_init_61 : decode cX1_init 61 = .ok (.putfield 47, 3) := by decide +kernel
theorem dX1_init_64 : decode cX1_init 64 = .ok (.aload_n 0, 1) := by decide +kernel
theorem dX1_init_65 : decode cX1_init 65 = .ok (.new 51, 3) := by decide +kernel
theorem dX1_init_68 : decode cX1_init 68 = .ok (.dup, 1) := by decide +kernel
theorem dX1_init_69 : decode cX1_init 69 = .ok (.aload_n 1, 1) := by decide +kernel
theorem dX1_init_70 : decode cX1_init 70 = .ok (.invokespecial 53, 3) := by decide +kernel
theorem dX1_init_73 : decode cX1_init 73 = .ok (.putfield 56, 3) := by decide +kernel
theorem dX1_init_76 : decode cX1_init 76 = .ok (.return_, 1) := by decide +kernel
theorem dX2_init_0 : decode cX2_init 0 = .ok (.aload_n 0, 1) := by decide +kernel
theorem dX2_init_1 : decode cX2_init 1 = .ok (.invokespecial 3, 3) := by decide +kernel
theorem dX2_init_4 : decode cX2_init 4 = .ok (.aload_n 0, 1) := by decide +kernel
theorem dX2_init_5 : decode cX2_init 5 = .ok (.sipush 4096, 3) := by decide +kernel
theorem dX2_init_8 : decode cX2_init 8 = .ok (.newarray .int, 2) := by decide +kernel
theorem dX2_init_10 : decode cX2_init 10 = .ok (.putfield 9, 3) := by decide +kernel
theorem dX2_init_13 : decode cX2_init 13 = .ok (.aload_n 0, 1) := by decide +kernel
theorem dX2_init_14 : decode cX2_init 14 = .ok (.iconst 0, 1) := by decide +kernel
theorem dX2_init_15 : decode cX2_init 15 = .ok (.putfield 15, 3) := by decide +kernel
theorem dX2_init_18 : decode cX2_init 18 = .ok (.aload_n 0, 1) := by decide +kernel
theorem dX2_init_19 : decode cX2_init 19 = .ok (.iconst (-1), 1) := by decide +kernel
theorem dX2_init_20 : decode cX2_init 20 = .ok (.putfield 19, 3) := by decide +kernel
theorem dX2_init_23 : decode cX2_init 23 = .ok (.aload_n 0, 1) := by decide +kernel
theorem dX2_init_24 : decode cX2_init 24 = .ok (.iconst 0, 1) := by decide +kernel
theorem dX2_init_25 : decode cX2_init 25 = .ok (.putfield 22, 3) := by decide +kernel
theorem dX2_init_28 : decode cX2_init 28 = .ok (.return_, 1) := by decide +kernel
theorem dX3_init_0 : decode cX3_init 0 = .ok (.aload_n 0, 1) := by decide +kernel
theorem dX3_init_1 : decode cX3_init 1 = .ok (.invokespecial 3, 3) := by decide +kernel
theorem dX3_init_4 : decode cX3_init 4 = .ok (.aload_n 0, 1) := by decide +kernel
theorem dX3_init_5 : decode cX3_init 5 = .ok (.aload_n 1, 1) := by decide +kernel
theorem dX3_init_6 : decode cX3_init 6 = .ok (.putfield 9, 3) := by decide +kernel
theorem dX3_init_9 : decode cX3_init 9 = .ok (.return_, 1) := by decide +kernel
theorem dX4_init_0 : decode cX4_init 0 = .ok (.aload_n 0, 1) := by decide +kernel
theorem dX4_init_1 : decode cX4_init 1 = .ok (.invokespecial 3, 3) := by decide +kernel
theorem dX4_init_4 : decode cX4_init 4 = .ok (.aload_n 0, 1) := by decide +kernel
theorem dX4_init_5 : decode cX4_init 5 = .ok (.iconst 0, 1) := by decide +kernel
theorem dX4_init_6 : decode cX4_init 6 = .ok (.putfield 9, 3) := by decide +kernel
theorem dX4_init_9 : decode cX4_init 9 = .ok (.aload_n 0, 1) := by decide +kernel
theorem dX4_init_10 : decode cX4_init 10 = .ok (.aload_n 1, 1) := by decide +kernel
theorem dX4_init_11 : decode cX4_init 11 = .ok (.putfield 15, 3) := by decide +kernel
theorem dX4_init_14 : decode cX4_init 14 = .ok (.return_, 1) := by decide +kernel
theorem dX5_init_0 : decode cX5_init 0 = .ok (.aload_n 0, 1) := by decide +kernel
theorem dX5_init_1 : decode cX5_init 1 = .ok (.invokespecial 3, 3) := by decide +kernel
theorem dX5_init_4 : decode cX5_init 4 = .ok (.aload_n 0, 1) := by decide +kernel
theorem dX5_init_5 : decode cX5_init 5 = .ok (.sipush 1661, 3) := by decide +kernel
theorem dX5_init_8 : decode cX5_init 8 = .ok (.newarray .int, 2) := by decide +kernel
theorem dX5_init_10 : decode cX5_init 10 = .ok (.putfield 9, 3) := by decide +kernel
theorem dX5_init_13 : decode cX5_init 13 = .ok (.aload_n 0, 1) := by decide +kernel
theorem dX5_init_14 : decode cX5_init 14 = .ok (.iconst 0, 1) := by decide +kernel
theorem dX5_init_15 : decode cX5_init 15 = .ok (.putfield 15, 3) := by decide +kernel
theorem dX5_init_18 : decode cX5_init 18 = .ok (.aload_n 0, 1) := by decide +kernel
theorem dX5_init_19 : decode cX5_init 19 = .ok (.iconst 0, 1) := by decide +kernel
theorem dX5_init_20 : decode cX5_init 20 = .ok (.putfield 19, 3) := by decide +kernel
theorem dX5_init_23 : decode cX5_init 23 = .ok (.aload_n 0, 1) := by decide +kernel
theorem dX5_init_24 : decode cX5_init 24 = .ok (.iconst 0, 1) := by decide +kernel
theorem dX5_init_25 : decode cX5_init 25 = .ok (.putfield 22, 3) := by decide +kernel
theorem dX5_init_28 : decode cX5_init 28 = .ok (.aload_n 0, 1) := by decide +kernel
theorem dX5_init_29 : decode cX5_init 29 = .ok (.iconst 0, 1) := by decide +kernel
theorem dX5_init_30 : decode cX5_init 30 = .ok (.putfield 26, 3) := by decide +kernel
theorem dX5_init_33 : decode cX5_init 33 = .ok (.aload_n 0, 1) := by decide +kernel
theorem dX5_init_34 : decode cX5_init 34 = .ok (.iconst 0, 1) := by decide +kernel
theorem dX5_init_35 : decode cX5_init 35 = .ok (.putfield 29, 3) := by decide +kernel
theorem dX5_init_38 : decode cX5_init 38 = .ok (.aload_n 0, 1) := by decide +kernel
theorem dX5_init_39 : decode cX5_init 39 = .ok (.lconst 0, 1) := by decide +kernel
theorem dX5_init_40 : decode cX5_init 40 = .ok (.putfield 32, 3) := by decide +kernel
theorem dX5_init_43 : decode cX5_init 43 = .ok (.return_, 1) := by decide +kernel
theorem dX6_init_0 : decode cX6_init 0 = .ok (.aload_n 0, 1) := by decide +kernel
theorem dX6_init_1 : decode cX6_init 1 = .ok (.invokespecial 3, 3) := by decide +kernel
theorem dX6_init_4 : decode cX6_init 4 = .ok (.aload_n 0, 1) := by decide +kernel
theorem dX6_init_5 : decode cX6_init 5 = .ok (.iconst 0, 1) := by decide +kernel
theorem dX6_init_6 : decode cX6_init 6 = .ok (.putfield 9, 3) := by decide +kernel
theorem dX6_init_9 : decode cX6_init 9 = .ok (.aload_n 0, 1) := by decide +kernel
theorem dX6_init_10 : decode cX6_init 10 = .ok (.iconst 0, 1) := by decide +kernel
theorem dX6_init_11 : decode cX6_init 11 = .ok (.putfield 15, 3) := by decide +kernel
theorem dX6_init_14 : decode cX6_init 14 = .ok (.aload_n 0, 1) := by decide +kernel
theorem dX6_init_15 : decode cX6_init 15 = .ok (.iconst 0, 1) := by decide +kernel
theorem dX6_init_16 : decode cX6_init 16 = .ok (.putfield 18, 3) := by decide +kernel
theorem dX6_init_19 : decode cX6_init 19 = .ok (.aload_n 0, 1) := by decide +kernel
theorem dX6_init_20 : decode cX6_init 20 = .ok (.iconst 0, 1) := by decide +kernel
theorem dX6_init_21 : decode cX6_init 21 = .ok (.putfield 21, 3) := by decide +kernel
theorem dX6_init_24 : decode cX6_init 24 = .ok (.aload_n 0, 1) := by decide +kernel
theorem dX6_init_25 : decode cX6_init 25 = .ok (.iconst 0, 1) := by decide +kernel
theorem dX6_init_26 : decode cX6_init 26 = .ok (.putfield 24, 3) := by decide +kernel
theorem dX6_init_29 : decode cX6_init 29 = .ok (.aload_n 0, 1) := by decide +kernel
theorem dX6_init_30 : decode cX6_init 30 = .ok (.lconst 0, 1) := by decide +kernel
theorem dX6_init_31 : decode cX6_init 31 = .ok (.putfield 27, 3) := by decide +kernel
theorem dX6_init_34 : decode cX6_init 34 = .ok (.return_, 1) := by decide +kernel
theorem dX7_init_0 : decode cX7_init 0 = .ok (.aload_n 0, 1) := by decide +kernel
theorem dX7_init_1 : decode cX7_init 1 = .ok (.invokespecial 3, 3) := by decide +kernel
theorem dX7_init_4 : decode cX7_init 4 = .ok (.aload_n 0, 1) := by decide +kernel
theorem dX7_init_5 : decode cX7_init 5 = .ok (.new 9, 3) := by decide +kernel
theorem dX7_init_8 : decode cX7_init 8 = .ok (.dup, 1) := by decide +kernel
theorem dX7_init_9 : decode cX7_init 9 = .ok (.invokespecial 11, 3) := by decide +kernel
theorem dX7_init_12 : decode cX7_init 12 = .ok (.putfield 12, 3) := by decide +kernel
theorem dX7_init_15 : decode cX7_init 15 = .ok (.aload_n 0, 1) := by decide +kernel
theorem dX7_init_16 : decode cX7_init 16 = .ok (.new 18, 3) := by decide +kernel
theorem dX7_init_19 : decode cX7_init 19 = .ok (.dup, 1) := by decide +kernel
theorem dX7_init_20 : decode cX7_init 20 = .ok (.invokespecial 20, 3) := by decide +kernel
theorem dX7_init_23 : decode cX7_init 23 = .ok (.putfield 21, 3) := by decide +kernel
theorem dX7_init_26 : decode cX7_init 26 = .ok (.aload_n 0, 1) := by decide +kernel
theorem dX7_init_27 : decode cX7_init 27 = .ok (.sipush 961, 3) := by decide +kernel
theorem dX7_init_30 : decode cX7_init 30 = .ok (.newarray .int, 2) := by decide +kernel
theorem dX7_init_32 : decode cX7_init 32 = .ok (.putfield 25, 3) := by decide +kernel
theorem dX7_init_35 : decode cX7_init 35 = .ok (.aload_n 0, 1) := by decide +kernel
theorem dX7_init_36 : decode cX7_init 36 = .ok (.bipush 96, 2) := by decide +kernel
theorem dX7_init_38 : decode cX7_init 38 = .ok (.newarray .int, 2) := by decide +kernel
theorem dX7_init_40 : decode cX7_init 40 = .ok (.putfield 29, 3) := by decide +kernel
theorem dX7_init_43 : decode cX7_init 43 = .ok (.aload_n 0, 1) := by decide +kernel
theorem dX7_init_44 : decode cX7_init 44 = .ok (.sipush 1661, 3) := by decide +kernel
theorem dX7_init_47 : decode cX7_init 47 = .ok (.newarray .boolean, 2) := by decide +kernel
theorem dX7_init_49 : decode cX7_init 49 = .ok (.putfield 32, 3) := by decide +kernel
theorem dX7_init_52 : decode cX7_init 52 = .ok (.aload_n 0, 1) := by decide +kernel
theorem dX7_init_53 : decode cX7_init 53 = .ok (.iconst 0, 1) := by decide +kernel
theorem dX7_init_54 : decode cX7_init 54 = .ok (.putfield 36, 3) := by decide +kernel
theorem dX7_init_57 : decode cX7_init 57 = .ok (.aload_n 0, 1) := by decide +kernel
theorem dX7_init_58 : decode cX7_init 58 = .ok (.iconst 0, 1) := by decide +kernel
theorem dX7_init_59 : decode cX7_init 59 = .ok (.putfield 40, 3) := by decide +kernel
theorem dX7_init_62 : decode cX7_init 62 = .ok (.aload_n 0, 1) := by decide +kernel
theorem dX7_init_63 : decode cX7_init 63 = .ok (.iconst 0, 1) := by decide +kernel
theorem dX7_init_64 : decode cX7_init 64 = .ok (.putfield 43, 3) := by decide +kernel
theorem dX7_init_67 : decode cX7_init 67 = .ok (.aload_n 0, 1) := by decide +kernel
theorem dX7_init_68 : decode cX7_init 68 = .ok (.iconst 0, 1) := by decide +kernel
theorem dX7_init_69 : decode cX7_init 69 = .ok (.putfield 46, 3) := by decide +kernel
theorem dX7_init_72 : decode cX7_init 72 = .ok (.aload_n 0, 1) := by decide +kernel
theorem dX7_init_73 : decode cX7_init 73 = .ok (.aload_n 1, 1) := by decide +kernel
theorem dX7_init_74 : decode cX7_init 74 = .ok (.putfield 50, 3) := by decide +kernel
theorem dX7_init_77 : decode cX7_init 77 = .ok (.aload_n 0, 1) := by decide +kernel
theorem dX7_init_78 : decode cX7_init 78 = .ok (.aload_n 2, 1) := by decide +kernel
theorem dX7_init_79 : decode cX7_init 79 = .ok (.putfield 54, 3) := by decide +kernel
theorem dX7_init_82 : decode cX7_init 82 = .ok (.return_, 1) := by decide +kernel
theorem dX8_init_0 : decode cX8_init 0 = .ok (.aload_n 0, 1) := by decide +kernel
theorem dX8_init_1 : decode cX8_init 1 = .ok (.invokespecial 3, 3) := by decide +kernel
theorem dX8_init_4 : decode cX8_init 4 = .ok (.aload_n 0, 1) := by decide +kernel
theorem dX8_init_5 : decode cX8_init 5 = .ok (.iconst 0, 1) := by decide +kernel
theorem dX8_init_6 : decode cX8_init 6 = .ok (.putfield 9, 3) := by decide +kernel
theorem dX8_init_9 : decode cX8_init 9 = .ok (.aload_n 0, 1) := by decide +kernel
theorem dX8_init_10 : decode cX8_init 10 = .ok (.iconst 0, 1) := by decide +kernel
theorem dX8_init_11 : decode cX8_init 11 = .ok (.putfield 15, 3) := by decide +kernel
theorem dX8_init_14 : decode cX8_init 14 = .ok (.aload_n 0, 1) := by decide +kernel
theorem dX8_init_15 : decode cX8_init 15 = .ok (.iconst 0, 1) := by decide +kernel
theorem dX8_init_16 : decode cX8_init 16 = .ok (.putfield 18, 3) := by decide +kernel
theorem dX8_init_19 : decode cX8_init 19 = .ok (.aload_n 0, 1) := by decide +kernel
theorem dX8_init_20 : decode cX8_init 20 = .ok (.iconst 0, 1) := by decide +kernel
theorem dX8_init_21 : decode cX8_init 21 = .ok (.putfield 22, 3) := by decide +kernel
theorem dX8_init_24 : decode cX8_init 24 = .ok (.aload_n 0, 1) := by decide +kernel
theorem dX8_init_25 : decode cX8_init 25 = .ok (.iconst 0, 1) := by decide +kernel
theorem dX8_init_26 : decode cX8_init 26 = .ok (.putfield 25, 3) := by decide +kernel
theorem dX8_init_29 : decode cX8_init 29 = .ok (.aload_n 0, 1) := by decide +kernel
theorem dX8_init_30 : decode cX8_init 30 = .ok (.lconst 0, 1) := by decide +kernel
theorem dX8_init_31 : decode cX8_init 31 = .ok (.putfield 28, 3) := by decide +kernel
theorem dX8_init_34 : decode cX8_init 34 = .ok (.aload_n 0, 1) := by decide +kernel
theorem dX8_init_35 : decode cX8_init 35 = .ok (.aload_n 1, 1) := by decide +kernel
theorem dX8_init_36 : decode cX8_init 36 = .ok (.putfield 32, 3) := by decide +kernel
theorem dX8_init_39 : decode cX8_init 39 = .ok (.return_, 1) := by decide +kernel
theorem dX9_init_0 : decode cX9_init 0 = .ok (.aload_n 0, 1) := by decide +kernel
theorem dX9_init_1 : decode cX9_init 1 = .ok (.invokespecial 3, 3) := by decide +kernel
theorem dX9_init_4 : decode cX9_init 4 = .ok (.aload_n 0, 1) := by decide +kernel
theorem dX9_init_5 : decode cX9_init 5 = .ok (.iconst 0, 1) := by decide +kernel
theorem dX9_init_6 : decode cX9_init 6 = .ok (.putfield 9, 3) := by decide +kernel
theorem dX9_init_9 : decode cX9_init 9 = .ok (.aload_n 0, 1) := by decide +kernel
theorem dX9_init_10 : decode cX9_init 10 = .ok (.iload_n 1, 1) := by decide +kernel
theorem dX9_init_11 : decode cX9_init 11 = .ok (.iconst 1, 1) := by decide +kernel
theorem dX9_init_12 : decode cX9_init 12 = .ok (.bipush 8, 2) := by decide +kernel
theorem dX9_init_14 : decode cX9_init 14 = .ok (.invokestatic 13, 3) := by decide +kernel
theorem dX9_init_17 : decode cX9_init 17 = .ok (.putfield 17, 3) := by decide +kernel
theorem dX9_init_20 : decode cX9_init 20 = .ok (.aload_n 0, 1) := by decide +kernel
theorem dX9_init_21 : decode cX9_init 21 = .ok (.iload_n 2, 1) := by decide +kernel
theorem dX9_init_22 : decode cX9_init 22 = .ok (.iconst 2, 1) := by decide +kernel
theorem dX9_init_23 : decode cX9_init 23 = .ok (.bipush 64, 2) := by decide +kernel
theorem dX9_init_25 : decode cX9_init 25 = .ok (.invokestatic 13, 3) := by decide +kernel
theorem dX9_init_28 : decode cX9_init 28 = .ok (.putfield 20, 3) := by decide +kernel
theorem dX9_init_31 : decode cX9_init 31 = .ok (.aload_n 0, 1) := by decide +kernel
theorem dX9_init_32 : decode cX9_init 32 = .ok (.iload_n 3, 1) := by decide +kernel
theorem dX9_init_33 : decode cX9_init 33 = .ok (.iconst 2, 1) := by decide +kernel
theorem dX9_init_34 : decode cX9_init 34 = .ok (.bipush 8, 2) := by decide +kernel
theorem dX9_init_36 : decode cX9_init 36 = .ok (.invokestatic 13, 3) := by decide +kernel
theorem dX9_init_39 : decode cX9_init 39 = .ok (.putfield 23, 3) := by decide +kernel
theorem dX9_init_42 : decode cX9_init 42 = .ok (.aload_n 0, 1) := by decide +kernel
theorem dX9_init_43 : decode cX9_init 43 = .ok (.new 26, 3) := by decide +kernel
theorem dX9_init_46 : decode cX9_init 46 = .ok (.dup, 1) := by decide +kernel
theorem dX9_init_47 : decode cX9_init 47 = .ok (.invokespecial 28, 3) := by decide +kernel
theorem dX9_init_50 : decode cX9_init 50 = .ok (.putfield 29, 3) := by decide +kernel
theorem dX9_init_53 : decode cX9_init 53 = .ok (.aload_n 0, 1) := by decide +kernel
theorem dX9_init_54 : decode cX9_init 54 = .ok (.new 33, 3) := by decide +kernel
theorem dX9_init_57 : decode cX9_init 57 = .ok (.dup, 1) := by decide +kernel
theorem dX9_init_58 : decode cX9_init 58 = .ok (.aload_n 0, 1) := by decide +kernel
theorem dX9_init_59 : decode cX9_init 59 = .ok (.getfield 29, 3) := by decide +kernel
theorem dX9_init_62 : decode cX9_init 62 = .ok (.invokespecial 35, 3) := by decide +kernel
theorem dX9_init_65 : decode cX9_init 65 = .ok (.putfield 38, 3) := by decide +kernel
theorem dX9_init_68 : decode cX9_init 68 = .ok (.aload_n 0, 1) := by decide +kernel
theorem dX9_init_69 : decode cX9_init 69 = .ok (.new 42, 3) := by decide +kernel
theorem dX9_init_72 : decode cX9_init 72 = .ok (.dup, 1) := by decide +kernel
theorem dX9_init_73 : decode cX9_init 73 = .ok (.aload_n 0, 1) := by decide +kernel
theorem dX9_init_74 : decode cX9_init 74 = .ok (.getfield 29, 3) := by decide +kernel
theorem dX9_init_77 : decode cX9_init 77 = .ok (.invokespecial 44, 3) := by decide +kernel
theorem dX9_init_80 : decode cX9_init 80 = .ok (.putfield 45, 3) := by decide +kernel
theorem dX9_init_83 : decode cX9_init 83 = .ok (.aload_n 0, 1) := by decide +kernel
theorem dX9_init_84 : decode cX9_init 84 = .ok (.new 49, 3) := by decide +kernel
theorem dX9_init_87 : decode cX9_init 87 = .ok (.dup, 1) := by decide +kernel
theorem dX9_init_88 : decode cX9_init 88 = .ok (.aload_n 0, 1) := by decide +kernel
theorem dX9_init_89 : decode cX9_init 89 = .ok (.getfield 29, 3) := by decide +kernel
theorem dX9_init_92 : decode cX9_init 92 = .ok (.invokespecial 51, 3) := by decide +kernel
theorem dX9_init_95 : decode cX9_init 95 = .ok (.putfield 52, 3) := by decide +kernel
theorem dX9_init_98 : decode cX9_init 98 = .ok (.aload_n 0, 1) := by decide +kernel
theorem dX9_init_99 : decode cX9_init 99 = .ok (.new 56, 3) := by decide +kernel
theorem dX9_init_102 : decode cX9_init 102 = .ok (.dup, 1) := by decide +kernel
theorem dX9_init_103 : decode cX9_init 103 = .ok (.aload_n 0, 1) := by decide +kernel
theorem dX9_init_104 : decode cX9_init 104 = .ok (.getfield 29, 3) := by decide +kernel
theorem dX9_init_107 : decode cX9_init 107 = .ok (.aload_n 0, 1) := by decide +kernel
theorem dX9_init_108 : decode cX9_init 108 = .ok (.getfield 38, 3) := by decide +kernel
theorem dX9_init_111 : decode cX9_init 111 = .ok (.invokespecial 58, 3) := by decide +kernel
theorem dX9_init_114 : decode cX9_init 114 = .ok (.putfield 61, 3) := by decide +kernel
theorem dX9_init_117 : decode cX9_init 117 = .ok (.aload_n 0, 1) := by decide +kernel
theorem dX9_init_118 : decode cX9_init 118 = .ok (.new 65, 3) := by decide +kernel
theorem dX9_init_121 : decode cX9_init 121 = .ok (.dup, 1) := by decide +kernel
theorem dX9_init_122 : decode cX9_init 122 = .ok (.aload_n 0, 1) := by decide +kernel
theorem dX9_init_123 : decode cX9_init 123 = .ok (.getfield 38, 3) := by decide +kernel
theorem dX9_init_126 : decode cX9_init 126 = .ok (.aload_n 0, 1) := by decide +kernel
theorem dX9_init_127 : decode cX9_init 127 = .ok (.getfield 45, 3) := by decide +kernel
theorem dX9_init_130 : decode cX9_init 130 = .ok (.aload_n 0, 1) := by decide +kernel
theorem dX9_init_131 : decode cX9_init 131 = .ok (.getfield 52, 3) := by decide +kernel
theorem dX9_init_134 : decode cX9_init 134 = .ok (.aload_n 0, 1) := by decide +kernel
theorem dX9_init_135 : decode cX9_init 135 = .ok (.getfield 23, 3) := by decide +kernel
theorem dX9_init_138 : decode cX9_init 138 = .ok (.invokespecial 67, 3) := by decide +kernel
theorem dX9_init_141 : decode cX9_init 141 = .ok (.putfield 70, 3) := by decide +kernel
theorem dX9_init_144 : decode cX9_init 144 = .ok (.aload_n 0, 1) := by decide +kernel
theorem dX9_init_145 : decode cX9_init 145 = .ok (.new 74, 3) := by decide +kernel
theorem dX9_init_148 : decode cX9_init 148 = .ok (.dup, 1) := by decide +kernel
theorem dX9_init_149 : decode cX9_init 149 = .ok (.aload_n 0, 1) := by decide +kernel
theorem dX9_init_150 : decode cX9_init 150 = .ok (.getfield 29, 3) := by decide +kernel
theorem dX9_init_153 : decode cX9_init 153 = .ok (.aload_n 0, 1) := by decide +kernel
theorem dX9_init_154 : decode cX9_init 154 = .ok (.getfield 38, 3) := by decide +kernel
theorem dX9_init_157 : decode cX9_init 157 = .ok (.aload_n 0, 1) := by decide +kernel
theorem dX9_init_158 : decode cX9_init 158 = .ok (.getfield 45, 3) := by decide +kernel
theorem dX9_init_161 : decode cX9_init 161 = .ok (.invokespecial 76, 3) := by decide +kernel
theorem dX9_init_164 : decode cX9_init 164 = .ok (.putfield 79, 3) := by decide +kernel
theorem dX9_init_167 : decode cX9_init 167 = .ok (.return_, 1) := by decide +kernel
theorem dX10_init_0 : decode cX10_init 0 = .ok (.aload_n 0, 1) := by decide +kernel
theorem dX10_init_1 : decode cX10_init 1 = .ok (.invokespecial 1, 3) := by decide +kernel
theorem dX10_init_4 : decode cX10_init 4 = .ok (.aload_n 0, 1) := by decide +kernel
theorem dX10_init_5 : decode cX10_init 5 = .ok (.sipush 4096, 3) := by decide +kernel
theorem dX10_init_8 : decode cX10_init 8 = .ok (.newarray .int, 2) := by decide +kernel
theorem dX10_init_10 : decode cX10_init 10 = .ok (.putfield 7, 3) := by decide +kernel
theorem dX10_init_13 : decode cX10_init 13 = .ok (.aload_n 0, 1) := by decide +kernel
theorem dX10_init_14 : decode cX10_init 14 = .ok (.iconst (-1), 1) := by decide +kernel
theorem dX10_init_15 : decode cX10_init 15 = .ok (.putfield 13, 3) := by decide +kernel
theorem dX10_init_18 : decode cX10_init 18 = .ok (.aload_n 0, 1) := by decide +kernel
theorem dX10_init_19 : decode cX10_init 19 = .ok (.sipush 240, 3) := by decide +kernel
theorem dX10_init_22 : decode cX10_init 22 = .ok (.newarray .int, 2) := by decide +kernel
theorem dX10_init_24 : decode cX10_init 24 = .ok (.putfield 17, 3) := by decide +kernel
theorem dX10_init_27 : decode cX10_init 27 = .ok (.aload_n 0, 1) := by decide +kernel
theorem dX10_init_28 : decode cX10_init 28 = .ok (.sipush 240, 3) := by decide +kernel
theorem dX10_init_31 : decode cX10_init 31 = .ok (.newarray .int, 2) := by decide +kernel
theorem dX10_init_33 : decode cX10_init 33 = .ok (.putfield 20, 3) := by decide +kernel
theorem dX10_init_36 : decode cX10_init 36 = .ok (.aload_n 0, 1) := by decide +kernel
theorem dX10_init_37 : decode cX10_init 37 = .ok (.sipush 240, 3) := by decide +kernel
theorem dX10_init_40 : decode cX10_init 40 = .ok (.newarray .int, 2) := by decide +kernel
theorem dX10_init_42 : decode cX10_init 42 = .ok (.putfield 23, 3) := by decide +kernel
theorem dX10_init_45 : decode cX10_init 45 = .ok (.aload_n 0, 1) := by decide +kernel
theorem dX10_init_46 : decode cX10_init 46 = .ok (.sipush 240, 3) := by decide +kernel
theorem dX10_init_49 : decode cX10_init 49 = .ok (.newarray .int, 2) := by decide +kernel
theorem dX10_init_51 : decode cX10_init 51 = .ok (.putfield 26, 3) := by decide +kernel
theorem dX10_init_54 : decode cX10_init 54 = .ok (.aload_n 0, 1) := by decide +kernel
theorem dX10_init_55 : decode cX10_init 55 = .ok (.sipush 15360, 3) := by decide +kernel
theorem dX10_init_58 : decode cX10_init 58 = .ok (.newarray .int, 2) := by decide +kernel
theorem dX10_init_60 : decode cX10_init 60 = .ok (.putfield 29, 3) := by decide +kernel
theorem dX10_init_63 : decode cX10_init 63 = .ok (.aload_n 0, 1) := by decide +kernel
theorem dX10_init_64 : decode cX10_init 64 = .ok (.sipush 15360, 3) := by decide +kernel
theorem dX10_init_67 : decode cX10_init 67 = .ok (.newarray .int, 2) := by decide +kernel
theorem dX10_init_69 : decode cX10_init 69 = .ok (.putfield 32, 3) := by decide +kernel
theorem dX10_init_72 : decode cX10_init 72 = .ok (.aload_n 0, 1) := by decide +kernel
theorem dX10_init_73 : decode cX10_init 73 = .ok (.bipush 96, 2) := by decide +kernel
theorem dX10_init_75 : decode cX10_init 75 = .ok (.newarray .int, 2) := by decide +kernel
theorem dX10_init_77 : decode cX10_init 77 = .ok (.putfield 35, 3) := by decide +kernel
theorem dX10_init_80 : decode cX10_init 80 = .ok (.aload_n 0, 1) := by decide +kernel
theorem dX10_init_81 : decode cX10_init 81 = .ok (.sipush 128, 3) := by decide +kernel
theorem dX10_init_84 : decode cX10_init 84 = .ok (.newarray .int, 2) := by decide +kernel
theorem dX10_init_86 : decode cX10_init 86 = .ok (.putfield 38, 3) := by decide +kernel
theorem dX10_init_89 : decode cX10_init 89 = .ok (.aload_n 0, 1) := by decide +kernel
theorem dX10_init_90 : decode cX10_init 90 = .ok (.sipush 128, 3) := by decide +kernel
theorem dX10_init_93 : decode cX10_init 93 = .ok (.newarray .int, 2) := by decide +kernel
theorem dX10_init_95 : decode cX10_init 95 = .ok (.putfield 41, 3) := by decide +kernel
theorem dX10_init_98 : decode cX10_init 98 = .ok (.aload_n 0, 1) := by decide +kernel
theorem dX10_init_99 : decode cX10_init 99 = .ok (.sipush 128, 3) := by decide +kernel
theorem dX10_init_102 : decode cX10_init 102 = .ok (.newarray .int, 2) := by decide +kernel
theorem dX10_init_104 : decode cX10_init 104 = .ok (.putfield 44, 3) := by decide +kernel
theorem dX10_init_107 : decode cX10_init 107 = .ok (.aload_n 0, 1) := by decide +kernel
theorem dX10_init_108 : decode cX10_init 108 = .ok (.sipush 240, 3) := by decide +kernel
theorem dX10_init_111 : decode cX10_init 111 = .ok (.newarray .int, 2) := by decide +kernel
theorem dX10_init_113 : decode cX10_init 113 = .ok (.putfield 47, 3) := by decide +kernel
theorem dX10_init_116 : decode cX10_init 116 = .ok (.aload_n 0, 1) := by decide +kernel
theorem dX10_init_117 : decode cX10_init 117 = .ok (.sipush 240, 3) := by decide +kernel
theorem dX10_init_120 : decode cX10_init 120 = .ok (.newarray .boolean, 2) := by decide +kernel
theorem dX10_init_122 : decode cX10_init 122 = .ok (.putfield 50, 3) := by decide +kernel
theorem dX10_init_125 : decode cX10_init 125 = .ok (.aload_n 0, 1) := by decide +kernel
theorem dX10_init_126 : decode cX10_init 126 = .ok (.sipush 6300, 3) := by decide +kernel
theorem dX10_init_129 : decode cX10_init 129 = .ok (.newarray .int, 2) := by decide +kernel
theorem dX10_init_131 : decode cX10_init 131 = .ok (.putfield 54, 3) := by decide +kernel
theorem dX10_init_134 : decode cX10_init 134 = .ok (.aload_n 0, 1) := by decide +kernel
theorem dX10_init_135 : decode cX10_init 135 = .ok (.sipush 6300, 3) := by decide +kernel
theorem dX10_init_138 : decode cX10_init 138 = .ok (.newarray .int, 2) := by decide +kernel
theorem dX10_init_140 : decode cX10_init 140 = .ok (.putfield 57, 3) := by decide +kernel
theorem dX10_init_143 : decode cX10_init 143 = .ok (.aload_n 0, 1) := by decide +kernel
theorem dX10_init_144 : decode cX10_init 144 = .ok (.sipush 200, 3) := by decide +kernel
theorem dX10_init_147 : decode cX10_init 147 = .ok (.newarray .int, 2) := by decide +kernel
theorem dX10_init_149 : decode cX10_init 149 = .ok (.putfield 60, 3) := by decide +kernel
theorem dX10_init_152 : decode cX10_init 152 = .ok (.aload_n 0, 1) := by decide +kernel
theorem dX10_init_153 : decode cX10_init 153 = .ok (.iload_n 1, 1) := by decide +kernel
theorem dX10_init_154 : decode cX10_init 154 = .ok (.iconst 1, 1) := by decide +kernel
theorem dX10_init_155 : decode cX10_init 155 = .ok (.bipush 8, 2) := by decide +kernel
theorem dX10_init_157 : decode cX10_init 157 = .ok (.invokestatic 63, 3) := by decide +kernel
theorem dX10_init_160 : decode cX10_init 160 = .ok (.putfield 67, 3) := by decide +kernel
theorem dX10_init_163 : decode cX10_init 163 = .ok (.aload_n 0, 1) := by decide +kernel
theorem dX10_init_164 : decode cX10_init 164 = .ok (.iload_n 2, 1) := by decide +kernel
theorem dX10_init_165 : decode cX10_init 165 = .ok (.iconst 2, 1) := by decide +kernel
theorem dX10_init_166 : decode cX10_init 166 = .ok (.bipush 64, 2) := by decide +kernel
theorem dX10_init_168 : decode cX10_init 168 = .ok (.invokestatic 63, 3) := by decide +kernel
theorem dX10_init_171 : decode cX10_init 171 = .ok (.putfield 70, 3) := by decide +kernel
theorem dX10_init_174 : decode cX10_init 174 = .ok (.aload_n 0, 1) := by decide +kernel
theorem dX10_init_175 : decode cX10_init 175 = .ok (.iload_n 3, 1) := by decide +kernel
theorem dX10_init_176 : decode cX10_init 176 = .ok (.iconst 2, 1) := by decide +kernel
theorem dX10_init_177 : decode cX10_init 177 = .ok (.bipush 8, 2) := by decide +kernel
theorem dX10_init_179 : decode cX10_init 179 = .ok (.invokestatic 63, 3) := by decide +kernel
theorem dX10_init_182 : decode cX10_init 182 = .ok (.putfield 73, 3) := by decide +kernel
theorem dX10_init_185 : decode cX10_init 185 = .ok (.return_, 1) := by decide +kernel
abbrev rm_X2_init : Room := { frames := 1, cells := 1, slots := 4096, locals := 20 }
theorem hi_X2_init : yX2_init.cls ≠ "java/lang/invoke/MethodHandle" ∧ yX2_init.cls ≠ "java/lang/invoke/VarHandle" ∧ (parseMethodDescriptor yX2_init.desc).map (fun d => d.parameters.length) = some 0 := by decide +kernel
set_option maxHeartbeats 4000000 in
set_option maxRecDepth 100000 in
theorem n_X2_init (l : Launch) (G : va_G) (cI cZ cJ : ClassId) (a0 : Nat)   : NT l yX2_init cX2_init 1 rm_X2_init G (tyC cI cZ cJ) [.ref a0] [(a0, .inr (2, [.null, .int (0 : Int32), .int (0 : Int32), .int (0 : Int32)]))] 1 4096 (fun w => ∃ q1 : Nat, w = [(a0, .inr (2, [.ref q1, .int (0 : Int32), .int (-1 : Int32), .int (0 : Int32)])), rI q1 cI 4096 (fun _ => 0)]) := by
  refine NT.ofW (lvl := [(0, .ref a0)]) (by decide) (Nat.le_of_ble_eq_true rfl) rfl ?_
  intro p e s m args below meth c A ls0 QQ hQQ hin hx hb hml hr hlocks htc hN hown hK hA hw0 hl0
  refine lv_aload_n hx hb dX2_init_0 rfl (lv_at hl0 0 rfl) ?_
  refine W.objInit hx hb hown (htc _ mw_41) (htc _ mw_25) (htc _ mw_26) rfl (by rw [hml]; exact hl0.1) rfl dX2_init_1 (Nat.le_of_ble_eq_true rfl) (Nat.le_of_ble_eq_true rfl) ?_
  refine lv_aload_n hx hb dX2_init_4 rfl (lv_at hl0 0 rfl) ?_
  refine lv_sipush (v := (4096 : Int32)) hx hb dX2_init_5 (by decide) ?_
  refine nt_newI (N := 4096) hx hb htc hK hw0 hA (by decide) (by decide) (Nat.le_of_ble_eq_true rfl) (Nat.le_of_ble_eq_true rfl) (Nat.le_of_ble_eq_true rfl) dX2_init_8 (fun q1 H2 hw3 => ?_)
  refine va_putF (D := G) (ci := 2) (v := .ref q1) (ty := (.array .int)) (C := RX2) (T := TX2) (N := 4) hx hb htc iX2 tyX2 tyX2_ok nmX2 hown hK hw3.1 hw3.2.1 hw3.2.2 0 rfl rfl 0 (by decide) (htc _ mw_42) (fun _ h9 => h9) rfl hin rfl (tyX2_ok 0 (by decide)) rfl rfl (Nat.le_of_ble_eq_true rfl) dX2_init_10 (fun H4 lc6 hP hD hS => ?_)
  have hw5 : wS G A s H4 lc6 [(a0, .inr (2, [.ref q1, .int (0 : Int32), .int (0 : Int32), .int (0 : Int32)])), rI q1 cI 4096 (fun _ => 0)] := ⟨hP, hD, hS⟩
  clear hP hD hS hw3
  refine lv_aload_n hx hb dX2_init_13 rfl (lv_at hl0 0 rfl) ?_
  refine lv_iconst (v := (0 : Int32)) hx hb dX2_init_14 (by decide) ?_
  refine va_put (D := G) (ci := 2) (v := .int (0 : Int32)) (ty := .int) (C := RX2) (T := TX2) (N := 4) hx hb htc iX2 tyX2 tyX2_ok nmX2 hown hK hw5.1 hw5.2.1 hw5.2.2 0 rfl rfl 1 (by decide) (htc _ mw_43) (fun _ h9 => h9) rfl (tyX2_ok 1 (by decide)) rfl rfl (Nat.le_of_ble_eq_true rfl) dX2_init_15 (fun H7 lc9 hP hD hS => ?_)
  have hw8 : wS G A s H7 lc9 [(a0, .inr (2, [.ref q1, .int (0 : Int32), .int (0 : Int32), .int (0 : Int32)])), rI q1 cI 4096 (fun _ => 0)] := ⟨hP, hD, hS⟩
  clear hP hD hS hw5
  refine lv_aload_n hx hb dX2_init_18 rfl (lv_at hl0 0 rfl) ?_
  refine lv_iconst (v := (-1 : Int32)) hx hb dX2_init_19 (by decide) ?_
  refine va_put (D := G) (ci := 2) (v := .int (-1 : Int32)) (ty := .int) (C := RX2) (T := TX2) (N := 4) hx hb htc iX2 tyX2 tyX2_ok nmX2 hown hK hw8.1 hw8.2.1 hw8.2.2 0 rfl rfl 2 (by decide) (htc _ mw_44) (fun _ h9 => h9) rfl (tyX2_ok 2 (by decide)) rfl rfl (Nat.le_of_ble_eq_true rfl) dX2_init_20 (fun H10 lc12 hP hD hS => ?_)
  have hw11 : wS G A s H10 lc12 [(a0, .inr (2, [.ref q1, .int (0 : Int32), .int (-1 : Int32), .int (0 : Int32)])), rI q1 cI 4096 (fun _ => 0)] := ⟨hP, hD, hS⟩
  clear hP hD hS hw8
  refine lv_aload_n hx hb dX2_init_23 rfl (lv_at hl0 0 rfl) ?_
  refine lv_iconst (v := (0 : Int32)) hx hb dX2_init_24 (by decide) ?_
  refine va_put (D := G) (ci := 2) (v := .int (0 : Int32)) (ty := .boolean) (C := RX2) (T := TX2) (N := 4) hx hb htc iX2 tyX2 tyX2_ok nmX2 hown hK hw11.1 hw11.2.1 hw11.2.2 0 rfl rfl 3 (by decide) (htc _ mw_45) (fun _ h9 => h9) rfl (tyX2_ok 3 (by decide)) rfl rfl (Nat.le_of_ble_eq_true rfl) dX2_init_25 (fun H13 lc15 hP hD hS => ?_)
  have hw14 : wS G A s H13 lc15 [(a0, .inr (2, [.ref q1, .int (0 : Int32), .int (-1 : Int32), .int (0 : Int32)])), rI q1 cI 4096 (fun _ => 0)] := ⟨hP, hD, hS⟩
  clear hP hD hS hw11
  rw [hQQ]
  exact et_vret hx hb hr hlocks hw14 ⟨q1, rfl⟩ dX2_init_28
abbrev rm_X3_init : Room := { frames := 1, cells := 0, slots := 0, locals := 20 }
theorem hi_X3_init : yX3_init.cls ≠ "java/lang/invoke/MethodHandle" ∧ yX3_init.cls ≠ "java/lang/invoke/VarHandle" ∧ (parseMethodDescriptor yX3_init.desc).map (fun d => d.parameters.length) = some 1 := by decide +kernel
set_option maxHeartbeats 4000000 in
set_option maxRecDepth 100000 in
theorem n_X3_init (l : Launch) (G : va_G) (cI cZ cJ : ClassId) (a0 : Nat) (b1 : Nat)  : NT l yX3_init cX3_init 2 rm_X3_init G (tyC cI cZ cJ) [.ref a0, .ref b1] [(a0, .inr (3, [.null]))] 0 0 (fun w => w = [(a0, .inr (3, [.ref b1]))]) := by
  refine NT.ofW (lvl := [(0, .ref a0), (1, .ref b1)]) (by decide) (Nat.le_of_ble_eq_true rfl) rfl ?_
  intro p e s m args below meth c A ls0 QQ hQQ hin hx hb hml hr hlocks htc hN hown hK hA hw0 hl0
  refine lv_aload_n hx hb dX3_init_0 rfl (lv_at hl0 0 rfl) ?_
  refine W.objInit hx hb hown (htc _ mw_61) (htc _ mw_25) (htc _ mw_26) rfl (by rw [hml]; exact hl0.1) rfl dX3_init_1 (Nat.le_of_ble_eq_true rfl) (Nat.le_of_ble_eq_true rfl) ?_
  refine lv_aload_n hx hb dX3_init_4 rfl (lv_at hl0 0 rfl) ?_
  refine lv_aload_n hx hb dX3_init_5 rfl (lv_at hl0 1 rfl) ?_
  refine va_putF (D := G) (ci := 3) (v := .ref b1) (ty := (.object "PointLedger$Disk")) (C := RX3) (T := TX3) (N := 1) hx hb htc iX3 tyX3 tyX3_ok nmX3 hown hK hw0.1 hw0.2.1 hw0.2.2 0 rfl rfl 0 (by decide) (htc _ mw_62) (fun _ h9 => h9) rfl hin rfl (tyX3_ok 0 (by decide)) rfl rfl (Nat.le_of_ble_eq_true rfl) dX3_init_6 (fun H1 lc3 hP hD hS => ?_)
  have hw2 : wS G A s H1 lc3 [(a0, .inr (3, [.ref b1]))] := ⟨hP, hD, hS⟩
  clear hP hD hS hw0
  rw [hQQ]
  exact et_vret hx hb hr hlocks hw2 rfl dX3_init_9
abbrev rm_X4_init : Room := { frames := 1, cells := 0, slots := 0, locals := 20 }
theorem hi_X4_init : yX4_init.cls ≠ "java/lang/invoke/MethodHandle" ∧ yX4_init.cls ≠ "java/lang/invoke/VarHandle" ∧ (parseMethodDescriptor yX4_init.desc).map (fun d => d.parameters.length) = some 1 := by decide +kernel
set_option maxHeartbeats 4000000 in
set_option maxRecDepth 100000 in
theorem n_X4_init (l : Launch) (G : va_G) (cI cZ cJ : ClassId) (a0 : Nat) (b1 : Nat)  : NT l yX4_init cX4_init 2 rm_X4_init G (tyC cI cZ cJ) [.ref a0, .ref b1] [(a0, .inr (4, [.null, .int (0 : Int32)]))] 0 0 (fun w => w = [(a0, .inr (4, [.ref b1, .int (0 : Int32)]))]) := by
  refine NT.ofW (lvl := [(0, .ref a0), (1, .ref b1)]) (by decide) (Nat.le_of_ble_eq_true rfl) rfl ?_
  intro p e s m args below meth c A ls0 QQ hQQ hin hx hb hml hr hlocks htc hN hown hK hA hw0 hl0
  refine lv_aload_n hx hb dX4_init_0 rfl (lv_at hl0 0 rfl) ?_
  refine W.objInit hx hb hown (htc _ mw_71) (htc _ mw_25) (htc _ mw_26) rfl (by rw [hml]; exact hl0.1) rfl dX4_init_1 (Nat.le_of_ble_eq_true rfl) (Nat.le_of_ble_eq_true rfl) ?_
  refine lv_aload_n hx hb dX4_init_4 rfl (lv_at hl0 0 rfl) ?_
  refine lv_iconst (v := (0 : Int32)) hx hb dX4_init_5 (by decide) ?_
  refine va_put (D := G) (ci := 4) (v := .int (0 : Int32)) (ty := .int) (C := RX4) (T := TX4) (N := 2) hx hb htc iX4 tyX4 tyX4_ok nmX4 hown hK hw0.1 hw0.2.1 hw0.2.2 0 rfl rfl 1 (by decide) (htc _ mw_73) (fun _ h9 => h9) rfl (tyX4_ok 1 (by decide)) rfl rfl (Nat.le_of_ble_eq_true rfl) dX4_init_6 (fun H1 lc3 hP hD hS => ?_)
  have hw2 : wS G A s H1 lc3 [(a0, .inr (4, [.null, .int (0 : Int32)]))] := ⟨hP, hD, hS⟩
  clear hP hD hS hw0
  refine lv_aload_n hx hb dX4_init_9 rfl (lv_at hl0 0 rfl) ?_
  refine lv_aload_n hx hb dX4_init_10 rfl (lv_at hl0 1 rfl) ?_
  refine va_putF (D := G) (ci := 4) (v := .ref b1) (ty := (.object "PointLedger$Disk")) (C := RX4) (T := TX4) (N := 2) hx hb htc iX4 tyX4 tyX4_ok nmX4 hown hK hw2.1 hw2.2.1 hw2.2.2 0 rfl rfl 0 (by decide) (htc _ mw_72) (fun _ h9 => h9) rfl hin rfl (tyX4_ok 0 (by decide)) rfl rfl (Nat.le_of_ble_eq_true rfl) dX4_init_11 (fun H4 lc6 hP hD hS => ?_)
  have hw5 : wS G A s H4 lc6 [(a0, .inr (4, [.ref b1, .int (0 : Int32)]))] := ⟨hP, hD, hS⟩
  clear hP hD hS hw2
  rw [hQQ]
  exact et_vret hx hb hr hlocks hw5 rfl dX4_init_14
abbrev rm_X8_init : Room := { frames := 1, cells := 0, slots := 0, locals := 20 }
theorem hi_X8_init : yX8_init.cls ≠ "java/lang/invoke/MethodHandle" ∧ yX8_init.cls ≠ "java/lang/invoke/VarHandle" ∧ (parseMethodDescriptor yX8_init.desc).map (fun d => d.parameters.length) = some 1 := by decide +kernel
set_option maxHeartbeats 4000000 in
set_option maxRecDepth 100000 in
theorem n_X8_init (l : Launch) (G : va_G) (cI cZ cJ : ClassId) (a0 : Nat) (b1 : Nat)  : NT l yX8_init cX8_init 2 rm_X8_init G (tyC cI cZ cJ) [.ref a0, .ref b1] [(a0, .inr (8, [.null, .int (0 : Int32), .int (0 : Int32), .int (0 : Int32), .int (0 : Int32), .int (0 : Int32), .long (0 : Int64)]))] 0 0 (fun w => w = [(a0, .inr (8, [.ref b1, .int (0 : Int32), .int (0 : Int32), .int (0 : Int32), .int (0 : Int32), .int (0 : Int32), .long (0 : Int64)]))]) := by
  refine NT.ofW (lvl := [(0, .ref a0), (1, .ref b1)]) (by decide) (Nat.le_of_ble_eq_true rfl) rfl ?_
  intro p e s m args below meth c A ls0 QQ hQQ hin hx hb hml hr hlocks htc hN hown hK hA hw0 hl0
  refine lv_aload_n hx hb dX8_init_0 rfl (lv_at hl0 0 rfl) ?_
  refine W.objInit hx hb hown (htc _ mw_84) (htc _ mw_25) (htc _ mw_26) rfl (by rw [hml]; exact hl0.1) rfl dX8_init_1 (Nat.le_of_ble_eq_true rfl) (Nat.le_of_ble_eq_true rfl) ?_
  refine lv_aload_n hx hb dX8_init_4 rfl (lv_at hl0 0 rfl) ?_
  refine lv_iconst (v := (0 : Int32)) hx hb dX8_init_5 (by decide) ?_
  refine va_put (D := G) (ci := 8) (v := .int (0 : Int32)) (ty := .int) (C := RX8) (T := TX8) (N := 7) hx hb htc iX8 tyX8 tyX8_ok nmX8 hown hK hw0.1 hw0.2.1 hw0.2.2 0 rfl rfl 1 (by decide) (htc _ mw_86) (fun _ h9 => h9) rfl (tyX8_ok 1 (by decide)) rfl rfl (Nat.le_of_ble_eq_true rfl) dX8_init_6 (fun H1 lc3 hP hD hS => ?_)
  have hw2 : wS G A s H1 lc3 [(a0, .inr (8, [.null, .int (0 : Int32), .int (0 : Int32), .int (0 : Int32), .int (0 : Int32), .int (0 : Int32), .long (0 : Int64)]))] := ⟨hP, hD, hS⟩
  clear hP hD hS hw0
  refine lv_aload_n hx hb dX8_init_9 rfl (lv_at hl0 0 rfl) ?_
  refine lv_iconst (v := (0 : Int32)) hx hb dX8_init_10 (by decide) ?_
  refine va_put (D := G) (ci := 8) (v := .int (0 : Int32)) (ty := .int) (C := RX8) (T := TX8) (N := 7) hx hb htc iX8 tyX8 tyX8_ok nmX8 hown hK hw2.1 hw2.2.1 hw2.2.2 0 rfl rfl 2 (by decide) (htc _ mw_87) (fun _ h9 => h9) rfl (tyX8_ok 2 (by decide)) rfl rfl (Nat.le_of_ble_eq_true rfl) dX8_init_11 (fun H4 lc6 hP hD hS => ?_)
  have hw5 : wS G A s H4 lc6 [(a0, .inr (8, [.null, .int (0 : Int32), .int (0 : Int32), .int (0 : Int32), .int (0 : Int32), .int (0 : Int32), .long (0 : Int64)]))] := ⟨hP, hD, hS⟩
  clear hP hD hS hw2
  refine lv_aload_n hx hb dX8_init_14 rfl (lv_at hl0 0 rfl) ?_
  refine lv_iconst (v := (0 : Int32)) hx hb dX8_init_15 (by decide) ?_
  refine va_put (D := G) (ci := 8) (v := .int (0 : Int32)) (ty := .boolean) (C := RX8) (T := TX8) (N := 7) hx hb htc iX8 tyX8 tyX8_ok nmX8 hown hK hw5.1 hw5.2.1 hw5.2.2 0 rfl rfl 3 (by decide) (htc _ mw_88) (fun _ h9 => h9) rfl (tyX8_ok 3 (by decide)) rfl rfl (Nat.le_of_ble_eq_true rfl) dX8_init_16 (fun H7 lc9 hP hD hS => ?_)
  have hw8 : wS G A s H7 lc9 [(a0, .inr (8, [.null, .int (0 : Int32), .int (0 : Int32), .int (0 : Int32), .int (0 : Int32), .int (0 : Int32), .long (0 : Int64)]))] := ⟨hP, hD, hS⟩
  clear hP hD hS hw5
  refine lv_aload_n hx hb dX8_init_19 rfl (lv_at hl0 0 rfl) ?_
  refine lv_iconst (v := (0 : Int32)) hx hb dX8_init_20 (by decide) ?_
  refine va_put (D := G) (ci := 8) (v := .int (0 : Int32)) (ty := .int) (C := RX8) (T := TX8) (N := 7) hx hb htc iX8 tyX8 tyX8_ok nmX8 hown hK hw8.1 hw8.2.1 hw8.2.2 0 rfl rfl 4 (by decide) (htc _ mw_89) (fun _ h9 => h9) rfl (tyX8_ok 4 (by decide)) rfl rfl (Nat.le_of_ble_eq_true rfl) dX8_init_21 (fun H10 lc12 hP hD hS => ?_)
  have hw11 : wS G A s H10 lc12 [(a0, .inr (8, [.null, .int (0 : Int32), .int (0 : Int32), .int (0 : Int32), .int (0 : Int32), .int (0 : Int32), .long (0 : Int64)]))] := ⟨hP, hD, hS⟩
  clear hP hD hS hw8
  refine lv_aload_n hx hb dX8_init_24 rfl (lv_at hl0 0 rfl) ?_
  refine lv_iconst (v := (0 : Int32)) hx hb dX8_init_25 (by decide) ?_
  refine va_put (D := G) (ci := 8) (v := .int (0 : Int32)) (ty := .int) (C := RX8) (T := TX8) (N := 7) hx hb htc iX8 tyX8 tyX8_ok nmX8 hown hK hw11.1 hw11.2.1 hw11.2.2 0 rfl rfl 5 (by decide) (htc _ mw_93) (fun _ h9 => h9) rfl (tyX8_ok 5 (by decide)) rfl rfl (Nat.le_of_ble_eq_true rfl) dX8_init_26 (fun H13 lc15 hP hD hS => ?_)
  have hw14 : wS G A s H13 lc15 [(a0, .inr (8, [.null, .int (0 : Int32), .int (0 : Int32), .int (0 : Int32), .int (0 : Int32), .int (0 : Int32), .long (0 : Int64)]))] := ⟨hP, hD, hS⟩
  clear hP hD hS hw11
  refine lv_aload_n hx hb dX8_init_29 rfl (lv_at hl0 0 rfl) ?_
  refine lv_lconst (v := (0 : Int64)) hx hb dX8_init_30 (by decide) ?_
  refine va_put (D := G) (ci := 8) (v := .long (0 : Int64)) (ty := .long) (C := RX8) (T := TX8) (N := 7) hx hb htc iX8 tyX8 tyX8_ok nmX8 hown hK hw14.1 hw14.2.1 hw14.2.2 0 rfl rfl 6 (by decide) (htc _ mw_97) (fun _ h9 => h9) rfl (tyX8_ok 6 (by decide)) rfl rfl (Nat.le_of_ble_eq_true rfl) dX8_init_31 (fun H16 lc18 hP hD hS => ?_)
  have hw17 : wS G A s H16 lc18 [(a0, .inr (8, [.null, .int (0 : Int32), .int (0 : Int32), .int (0 : Int32), .int (0 : Int32), .int (0 : Int32), .long (0 : Int64)]))] := ⟨hP, hD, hS⟩
  clear hP hD hS hw14
  refine lv_aload_n hx hb dX8_init_34 rfl (lv_at hl0 0 rfl) ?_
  refine lv_aload_n hx hb dX8_init_35 rfl (lv_at hl0 1 rfl) ?_
  refine va_putF (D := G) (ci := 8) (v := .ref b1) (ty := (.object "PointLedger$Disk")) (C := RX8) (T := TX8) (N := 7) hx hb htc iX8 tyX8 tyX8_ok nmX8 hown hK hw17.1 hw17.2.1 hw17.2.2 0 rfl rfl 0 (by decide) (htc _ mw_85) (fun _ h9 => h9) rfl hin rfl (tyX8_ok 0 (by decide)) rfl rfl (Nat.le_of_ble_eq_true rfl) dX8_init_36 (fun H19 lc21 hP hD hS => ?_)
  have hw20 : wS G A s H19 lc21 [(a0, .inr (8, [.ref b1, .int (0 : Int32), .int (0 : Int32), .int (0 : Int32), .int (0 : Int32), .int (0 : Int32), .long (0 : Int64)]))] := ⟨hP, hD, hS⟩
  clear hP hD hS hw17
  rw [hQQ]
  exact et_vret hx hb hr hlocks hw20 rfl dX8_init_39
abbrev rm_X5_init : Room := { frames := 1, cells := 1, slots := 1661, locals := 20 }
theorem hi_X5_init : yX5_init.cls ≠ "java/lang/invoke/MethodHandle" ∧ yX5_init.cls ≠ "java/lang/invoke/VarHandle" ∧ (parseMethodDescriptor yX5_init.desc).map (fun d => d.parameters.length) = some 0 := by decide +kernel
set_option maxHeartbeats 4000000 in
set_option maxRecDepth 100000 in
theorem n_X5_init (l : Launch) (G : va_G) (cI cZ cJ : ClassId) (a0 : Nat)   : NT l yX5_init cX5_init 1 rm_X5_init G (tyC cI cZ cJ) [.ref a0] [(a0, .inr (5, [.null, .int (0 : Int32), .int (0 : Int32), .int (0 : Int32), .int (0 : Int32), .int (0 : Int32), .long (0 : Int64)]))] 1 1661 (fun w => ∃ q1 : Nat, w = [(a0, .inr (5, [.ref q1, .int (0 : Int32), .int (0 : Int32), .int (0 : Int32), .int (0 : Int32), .int (0 : Int32), .long (0 : Int64)])), rI q1 cI 1661 (fun _ => 0)]) := by
  refine NT.ofW (lvl := [(0, .ref a0)]) (by decide) (Nat.le_of_ble_eq_true rfl) rfl ?_
  intro p e s m args below meth c A ls0 QQ hQQ hin hx hb hml hr hlocks htc hN hown hK hA hw0 hl0
  refine lv_aload_n hx hb dX5_init_0 rfl (lv_at hl0 0 rfl) ?_
  refine W.objInit hx hb hown (htc _ mw_124) (htc _ mw_25) (htc _ mw_26) rfl (by rw [hml]; exact hl0.1) rfl dX5_init_1 (Nat.le_of_ble_eq_true rfl) (Nat.le_of_ble_eq_true rfl) ?_
  refine lv_aload_n hx hb dX5_init_4 rfl (lv_at hl0 0 rfl) ?_
  refine lv_sipush (v := (1661 : Int32)) hx hb dX5_init_5 (by decide) ?_
  refine nt_newI (N := 1661) hx hb htc hK hw0 hA (by decide) (by decide) (Nat.le_of_ble_eq_true rfl) (Nat.le_of_ble_eq_true rfl) (Nat.le_of_ble_eq_true rfl) dX5_init_8 (fun q1 H2 hw3 => ?_)
  refine va_putF (D := G) (ci := 5) (v := .ref q1) (ty := (.array .int)) (C := RX5) (T := TX5) (N := 7) hx hb htc iX5 tyX5 tyX5_ok nmX5 hown hK hw3.1 hw3.2.1 hw3.2.2 0 rfl rfl 0 (by decide) (htc _ mw_125) (fun _ h9 => h9) rfl hin rfl (tyX5_ok 0 (by decide)) rfl rfl (Nat.le_of_ble_eq_true rfl) dX5_init_10 (fun H4 lc6 hP hD hS => ?_)
  have hw5 : wS G A s H4 lc6 [(a0, .inr (5, [.ref q1, .int (0 : Int32), .int (0 : Int32), .int (0 : Int32), .int (0 : Int32), .int (0 : Int32), .long (0 : Int64)])), rI q1 cI 1661 (fun _ => 0)] := ⟨hP, hD, hS⟩
  clear hP hD hS hw3
  refine lv_aload_n hx hb dX5_init_13 rfl (lv_at hl0 0 rfl) ?_
  refine lv_iconst (v := (0 : Int32)) hx hb dX5_init_14 (by decide) ?_
  refine va_put (D := G) (ci := 5) (v := .int (0 : Int32)) (ty := .int) (C := RX5) (T := TX5) (N := 7) hx hb htc iX5 tyX5 tyX5_ok nmX5 hown hK hw5.1 hw5.2.1 hw5.2.2 0 rfl rfl 1 (by decide) (htc _ mw_126) (fun _ h9 => h9) rfl (tyX5_ok 1 (by decide)) rfl rfl (Nat.le_of_ble_eq_true rfl) dX5_init_15 (fun H7 lc9 hP hD hS => ?_)
  have hw8 : wS G A s H7 lc9 [(a0, .inr (5, [.ref q1, .int (0 : Int32), .int (0 : Int32), .int (0 : Int32), .int (0 : Int32), .int (0 : Int32), .long (0 : Int64)])), rI q1 cI 1661 (fun _ => 0)] := ⟨hP, hD, hS⟩
  clear hP hD hS hw5
  refine lv_aload_n hx hb dX5_init_18 rfl (lv_at hl0 0 rfl) ?_
  refine lv_iconst (v := (0 : Int32)) hx hb dX5_init_19 (by decide) ?_
  refine va_put (D := G) (ci := 5) (v := .int (0 : Int32)) (ty := .int) (C := RX5) (T := TX5) (N := 7) hx hb htc iX5 tyX5 tyX5_ok nmX5 hown hK hw8.1 hw8.2.1 hw8.2.2 0 rfl rfl 2 (by decide) (htc _ mw_127) (fun _ h9 => h9) rfl (tyX5_ok 2 (by decide)) rfl rfl (Nat.le_of_ble_eq_true rfl) dX5_init_20 (fun H10 lc12 hP hD hS => ?_)
  have hw11 : wS G A s H10 lc12 [(a0, .inr (5, [.ref q1, .int (0 : Int32), .int (0 : Int32), .int (0 : Int32), .int (0 : Int32), .int (0 : Int32), .long (0 : Int64)])), rI q1 cI 1661 (fun _ => 0)] := ⟨hP, hD, hS⟩
  clear hP hD hS hw8
  refine lv_aload_n hx hb dX5_init_23 rfl (lv_at hl0 0 rfl) ?_
  refine lv_iconst (v := (0 : Int32)) hx hb dX5_init_24 (by decide) ?_
  refine va_put (D := G) (ci := 5) (v := .int (0 : Int32)) (ty := .boolean) (C := RX5) (T := TX5) (N := 7) hx hb htc iX5 tyX5 tyX5_ok nmX5 hown hK hw11.1 hw11.2.1 hw11.2.2 0 rfl rfl 3 (by decide) (htc _ mw_128) (fun _ h9 => h9) rfl (tyX5_ok 3 (by decide)) rfl rfl (Nat.le_of_ble_eq_true rfl) dX5_init_25 (fun H13 lc15 hP hD hS => ?_)
  have hw14 : wS G A s H13 lc15 [(a0, .inr (5, [.ref q1, .int (0 : Int32), .int (0 : Int32), .int (0 : Int32), .int (0 : Int32), .int (0 : Int32), .long (0 : Int64)])), rI q1 cI 1661 (fun _ => 0)] := ⟨hP, hD, hS⟩
  clear hP hD hS hw11
  refine lv_aload_n hx hb dX5_init_28 rfl (lv_at hl0 0 rfl) ?_
  refine lv_iconst (v := (0 : Int32)) hx hb dX5_init_29 (by decide) ?_
  refine va_put (D := G) (ci := 5) (v := .int (0 : Int32)) (ty := .int) (C := RX5) (T := TX5) (N := 7) hx hb htc iX5 tyX5 tyX5_ok nmX5 hown hK hw14.1 hw14.2.1 hw14.2.2 0 rfl rfl 4 (by decide) (htc _ mw_129) (fun _ h9 => h9) rfl (tyX5_ok 4 (by decide)) rfl rfl (Nat.le_of_ble_eq_true rfl) dX5_init_30 (fun H16 lc18 hP hD hS => ?_)
  have hw17 : wS G A s H16 lc18 [(a0, .inr (5, [.ref q1, .int (0 : Int32), .int (0 : Int32), .int (0 : Int32), .int (0 : Int32), .int (0 : Int32), .long (0 : Int64)])), rI q1 cI 1661 (fun _ => 0)] := ⟨hP, hD, hS⟩
  clear hP hD hS hw14
  refine lv_aload_n hx hb dX5_init_33 rfl (lv_at hl0 0 rfl) ?_
  refine lv_iconst (v := (0 : Int32)) hx hb dX5_init_34 (by decide) ?_
  refine va_put (D := G) (ci := 5) (v := .int (0 : Int32)) (ty := .int) (C := RX5) (T := TX5) (N := 7) hx hb htc iX5 tyX5 tyX5_ok nmX5 hown hK hw17.1 hw17.2.1 hw17.2.2 0 rfl rfl 5 (by decide) (htc _ mw_130) (fun _ h9 => h9) rfl (tyX5_ok 5 (by decide)) rfl rfl (Nat.le_of_ble_eq_true rfl) dX5_init_35 (fun H19 lc21 hP hD hS => ?_)
  have hw20 : wS G A s H19 lc21 [(a0, .inr (5, [.ref q1, .int (0 : Int32), .int (0 : Int32), .int (0 : Int32), .int (0 : Int32), .int (0 : Int32), .long (0 : Int64)])), rI q1 cI 1661 (fun _ => 0)] := ⟨hP, hD, hS⟩
  clear hP hD hS hw17
  refine lv_aload_n hx hb dX5_init_38 rfl (lv_at hl0 0 rfl) ?_
  refine lv_lconst (v := (0 : Int64)) hx hb dX5_init_39 (by decide) ?_
  refine va_put (D := G) (ci := 5) (v := .long (0 : Int64)) (ty := .long) (C := RX5) (T := TX5) (N := 7) hx hb htc iX5 tyX5 tyX5_ok nmX5 hown hK hw20.1 hw20.2.1 hw20.2.2 0 rfl rfl 6 (by decide) (htc _ mw_131) (fun _ h9 => h9) rfl (tyX5_ok 6 (by decide)) rfl rfl (Nat.le_of_ble_eq_true rfl) dX5_init_40 (fun H22 lc24 hP hD hS => ?_)
  have hw23 : wS G A s H22 lc24 [(a0, .inr (5, [.ref q1, .int (0 : Int32), .int (0 : Int32), .int (0 : Int32), .int (0 : Int32), .int (0 : Int32), .long (0 : Int64)])), rI q1 cI 1661 (fun _ => 0)] := ⟨hP, hD, hS⟩
  clear hP hD hS hw20
  rw [hQQ]
  exact et_vret hx hb hr hlocks hw23 ⟨q1, rfl⟩ dX5_init_43
abbrev rm_X6_init : Room := { frames := 1, cells := 0, slots := 0, locals := 20 }
theorem hi_X6_init : yX6_init.cls ≠ "java/lang/invoke/MethodHandle" ∧ yX6_init.cls ≠ "java/lang/invoke/VarHandle" ∧ (parseMethodDescriptor yX6_init.desc).map (fun d => d.parameters.length) = some 0 := by decide +kernel
set_option maxHeartbeats 4000000 in
set_option maxRecDepth 100000 in
theorem n_X6_init (l : Launch) (G : va_G) (cI cZ cJ : ClassId) (a0 : Nat)   : NT l yX6_init cX6_init 1 rm_X6_init G (tyC cI cZ cJ) [.ref a0] [(a0, .inr (6, [.int (0 : Int32), .int (0 : Int32), .int (0 : Int32), .int (0 : Int32), .int (0 : Int32), .long (0 : Int64)]))] 0 0 (fun w => w = [(a0, .inr (6, [.int (0 : Int32), .int (0 : Int32), .int (0 : Int32), .int (0 : Int32), .int (0 : Int32), .long (0 : Int64)]))]) := by
  refine NT.ofW (lvl := [(0, .ref a0)]) (by decide) (Nat.le_of_ble_eq_true rfl) rfl ?_
  intro p e s m args below meth c A ls0 QQ hQQ hin hx hb hml hr hlocks htc hN hown hK hA hw0 hl0
  refine lv_aload_n hx hb dX6_init_0 rfl (lv_at hl0 0 rfl) ?_
  refine W.objInit hx hb hown (htc _ mw_152) (htc _ mw_25) (htc _ mw_26) rfl (by rw [hml]; exact hl0.1) rfl dX6_init_1 (Nat.le_of_ble_eq_true rfl) (Nat.le_of_ble_eq_true rfl) ?_
  refine lv_aload_n hx hb dX6_init_4 rfl (lv_at hl0 0 rfl) ?_
  refine lv_iconst (v := (0 : Int32)) hx hb dX6_init_5 (by decide) ?_
  refine va_put (D := G) (ci := 6) (v := .int (0 : Int32)) (ty := .int) (C := RX6) (T := TX6) (N := 6) hx hb htc iX6 tyX6 tyX6_ok nmX6 hown hK hw0.1 hw0.2.1 hw0.2.2 0 rfl rfl 0 (by decide) (htc _ mw_153) (fun _ h9 => h9) rfl (tyX6_ok 0 (by decide)) rfl rfl (Nat.le_of_ble_eq_true rfl) dX6_init_6 (fun H1 lc3 hP hD hS => ?_)
  have hw2 : wS G A s H1 lc3 [(a0, .inr (6, [.int (0 : Int32), .int (0 : Int32), .int (0 : Int32), .int (0 : Int32), .int (0 : Int32), .long (0 : Int64)]))] := ⟨hP, hD, hS⟩
  clear hP hD hS hw0
  refine lv_aload_n hx hb dX6_init_9 rfl (lv_at hl0 0 rfl) ?_
  refine lv_iconst (v := (0 : Int32)) hx hb dX6_init_10 (by decide) ?_
  refine va_put (D := G) (ci := 6) (v := .int (0 : Int32)) (ty := .int) (C := RX6) (T := TX6) (N := 6) hx hb htc iX6 tyX6 tyX6_ok nmX6 hown hK hw2.1 hw2.2.1 hw2.2.2 0 rfl rfl 1 (by decide) (htc _ mw_156) (fun _ h9 => h9) rfl (tyX6_ok 1 (by decide)) rfl rfl (Nat.le_of_ble_eq_true rfl) dX6_init_11 (fun H4 lc6 hP hD hS => ?_)
  have hw5 : wS G A s H4 lc6 [(a0, .inr (6, [.int (0 : Int32), .int (0 : Int32), .int (0 : Int32), .int (0 : Int32), .int (0 : Int32), .long (0 : Int64)]))] := ⟨hP, hD, hS⟩
  clear hP hD hS hw2
  refine lv_aload_n hx hb dX6_init_14 rfl (lv_at hl0 0 rfl) ?_
  refine lv_iconst (v := (0 : Int32)) hx hb dX6_init_15 (by decide) ?_
  refine va_put (D := G) (ci := 6) (v := .int (0 : Int32)) (ty := .int) (C := RX6) (T := TX6) (N := 6) hx hb htc iX6 tyX6 tyX6_ok nmX6 hown hK hw5.1 hw5.2.1 hw5.2.2 0 rfl rfl 2 (by decide) (htc _ mw_159) (fun _ h9 => h9) rfl (tyX6_ok 2 (by decide)) rfl rfl (Nat.le_of_ble_eq_true rfl) dX6_init_16 (fun H7 lc9 hP hD hS => ?_)
  have hw8 : wS G A s H7 lc9 [(a0, .inr (6, [.int (0 : Int32), .int (0 : Int32), .int (0 : Int32), .int (0 : Int32), .int (0 : Int32), .long (0 : Int64)]))] := ⟨hP, hD, hS⟩
  clear hP hD hS hw5
  refine lv_aload_n hx hb dX6_init_19 rfl (lv_at hl0 0 rfl) ?_
  refine lv_iconst (v := (0 : Int32)) hx hb dX6_init_20 (by decide) ?_
  refine va_put (D := G) (ci := 6) (v := .int (0 : Int32)) (ty := .int) (C := RX6) (T := TX6) (N := 6) hx hb htc iX6 tyX6 tyX6_ok nmX6 hown hK hw8.1 hw8.2.1 hw8.2.2 0 rfl rfl 3 (by decide) (htc _ mw_163) (fun _ h9 => h9) rfl (tyX6_ok 3 (by decide)) rfl rfl (Nat.le_of_ble_eq_true rfl) dX6_init_21 (fun H10 lc12 hP hD hS => ?_)
  have hw11 : wS G A s H10 lc12 [(a0, .inr (6, [.int (0 : Int32), .int (0 : Int32), .int (0 : Int32), .int (0 : Int32), .int (0 : Int32), .long (0 : Int64)]))] := ⟨hP, hD, hS⟩
  clear hP hD hS hw8
  refine lv_aload_n hx hb dX6_init_24 rfl (lv_at hl0 0 rfl) ?_
  refine lv_iconst (v := (0 : Int32)) hx hb dX6_init_25 (by decide) ?_
  refine va_put (D := G) (ci := 6) (v := .int (0 : Int32)) (ty := .int) (C := RX6) (T := TX6) (N := 6) hx hb htc iX6 tyX6 tyX6_ok nmX6 hown hK hw11.1 hw11.2.1 hw11.2.2 0 rfl rfl 4 (by decide) (htc _ mw_166) (fun _ h9 => h9) rfl (tyX6_ok 4 (by decide)) rfl rfl (Nat.le_of_ble_eq_true rfl) dX6_init_26 (fun H13 lc15 hP hD hS => ?_)
  have hw14 : wS G A s H13 lc15 [(a0, .inr (6, [.int (0 : Int32), .int (0 : Int32), .int (0 : Int32), .int (0 : Int32), .int (0 : Int32), .long (0 : Int64)]))] := ⟨hP, hD, hS⟩
  clear hP hD hS hw11
  refine lv_aload_n hx hb dX6_init_29 rfl (lv_at hl0 0 rfl) ?_
  refine lv_lconst (v := (0 : Int64)) hx hb dX6_init_30 (by decide) ?_
  refine va_put (D := G) (ci := 6) (v := .long (0 : Int64)) (ty := .long) (C := RX6) (T := TX6) (N := 6) hx hb htc iX6 tyX6 tyX6_ok nmX6 hown hK hw14.1 hw14.2.1 hw14.2.2 0 rfl rfl 5 (by decide) (htc _ mw_169) (fun _ h9 => h9) rfl (tyX6_ok 5 (by decide)) rfl rfl (Nat.le_of_ble_eq_true rfl) dX6_init_31 (fun H16 lc18 hP hD hS => ?_)
  have hw17 : wS G A s H16 lc18 [(a0, .inr (6, [.int (0 : Int32), .int (0 : Int32), .int (0 : Int32), .int (0 : Int32), .int (0 : Int32), .long (0 : Int64)]))] := ⟨hP, hD, hS⟩
  clear hP hD hS hw14
  rw [hQQ]
  exact et_vret hx hb hr hlocks hw17 rfl dX6_init_34
abbrev rm_X7_init : Room := { frames := 2, cells := 6, slots := 4392, locals := 40 }
theorem hi_X7_init : yX7_init.cls ≠ "java/lang/invoke/MethodHandle" ∧ yX7_init.cls ≠ "java/lang/invoke/VarHandle" ∧ (parseMethodDescriptor yX7_init.desc).map (fun d => d.parameters.length) = some 2 := by decide +kernel
set_option maxHeartbeats 4000000 in
set_option maxRecDepth 100000 in
theorem n_X7_init (l : Launch) (G : va_G) (cI cZ cJ : ClassId) (a0 : Nat) (b1 : Nat) (b2 : Nat)  : NT l yX7_init cX7_init 3 rm_X7_init G (tyC cI cZ cJ) [.ref a0, .ref b1, .ref b2] [(a0, .inr (7, [.null, .null, .null, .null, .null, .null, .null, .int (0 : Int32), .int (0 : Int32), .int (0 : Int32), .int (0 : Int32)]))] 6 4392 (fun w => ∃ q1 q4 q11 q20 q26 q32 : Nat, w = [(a0, .inr (7, [.ref b1, .ref b2, .ref q1, .ref q11, .ref q20, .ref q26, .ref q32, .int (0 : Int32), .int (0 : Int32), .int (0 : Int32), .int (0 : Int32)])), (q1, .inr (5, [.ref q4, .int (0 : Int32), .int (0 : Int32), .int (0 : Int32), .int (0 : Int32), .int (0 : Int32), .long (0 : Int64)])), rI q4 cI 1661 (fun _ => 0), (q11, .inr (6, [.int (0 : Int32), .int (0 : Int32), .int (0 : Int32), .int (0 : Int32), .int (0 : Int32), .long (0 : Int64)])), rI q20 cI 961 (fun _ => 0), rI q26 cI 96 (fun _ => 0), rI q32 cZ 1661 (fun _ => 0)]) := by
  refine NT.ofW (lvl := [(0, .ref a0), (1, .ref b1), (2, .ref b2)]) (by decide) (Nat.le_of_ble_eq_true rfl) rfl ?_
  intro p e s m args below meth c A ls0 QQ hQQ hin hx hb hml hr hlocks htc hN hown hK hA hw0 hl0
  refine lv_aload_n hx hb dX7_init_0 rfl (lv_at hl0 0 rfl) ?_
  refine W.objInit hx hb hown (htc _ mw_118) (htc _ mw_25) (htc _ mw_26) rfl (by rw [hml]; exact hl0.1) rfl dX7_init_1 (Nat.le_of_ble_eq_true rfl) (Nat.le_of_ble_eq_true rfl) ?_
  refine lv_aload_n hx hb dX7_init_4 rfl (lv_at hl0 0 rfl) ?_
  refine va_new (D := G) (ci := 5) (fs := [.null, .int (0 : Int32), .int (0 : Int32), .int (0 : Int32), .int (0 : Int32), .int (0 : Int32), .long (0 : Int64)]) (C := RX5) (T := TX5) (N := 7) hx hb htc iX5 tyX5 tyX5_ok hown (htc _ mw_119) (htc _ mw_120) (htc _ mw_8) hK hw0.1 hw0.2.1 hw0.2.2 hA rfl (fun j hj => by rcases (show j = 0 ∨ j = 1 ∨ j = 2 ∨ j = 3 ∨ j = 4 ∨ j = 5 ∨ j = 6 by omega) with rfl | rfl | rfl | rfl | rfl | rfl | rfl <;> rfl) (Nat.le_of_ble_eq_true rfl) (Nat.le_of_ble_eq_true rfl) dX7_init_5 (fun q1 H2 hP hD hS => ?_)
  have hw3 : wS G A s H2 _ [(a0, .inr (7, [.null, .null, .null, .null, .null, .null, .null, .int (0 : Int32), .int (0 : Int32), .int (0 : Int32), .int (0 : Int32)])), (q1, .inr (5, [.null, .int (0 : Int32), .int (0 : Int32), .int (0 : Int32), .int (0 : Int32), .int (0 : Int32), .long (0 : Int64)]))] := ⟨hP, hD, hS⟩
  clear hP hD hS
  refine lv_dup hx hb dX7_init_8 rfl ?_
  refine ntIN (a := q1) (As := []) (rest := [.ref q1, .ref a0]) (wc := [(q1, .inr (5, [.null, .int (0 : Int32), .int (0 : Int32), .int (0 : Int32), .int (0 : Int32), .int (0 : Int32), .long (0 : Int64)]))]) (wr := [(a0, .inr (7, [.null, .null, .null, .null, .null, .null, .null, .int (0 : Int32), .int (0 : Int32), .int (0 : Int32), .int (0 : Int32)]))]) hx hb hml hown htc hN (n_X5_init l G cI cZ cJ q1 ) (hN _ mn_7) mw_122 mw_8 mw_123 rfl hi_X5_init ⟨rfl, rfl⟩ ⟨Nat.le_of_ble_eq_true rfl, Nat.le_of_ble_eq_true rfl⟩ hK hw3 hA [1] [0] rfl rfl rfl rfl rfl (by decide) rfl hl0.1 rfl (Nat.le_of_ble_eq_true rfl) dX7_init_9 ⟨Nat.le_of_ble_eq_true rfl, Nat.le_of_ble_eq_true rfl⟩ (fun w9 hp9 H5 lc6 hw7 => ?_)
  obtain ⟨q4, rfl⟩ := hp9
  replace hw7 : wS G A s H5 lc6 [(a0, .inr (7, [.null, .null, .null, .null, .null, .null, .null, .int (0 : Int32), .int (0 : Int32), .int (0 : Int32), .int (0 : Int32)])), (q1, .inr (5, [.ref q4, .int (0 : Int32), .int (0 : Int32), .int (0 : Int32), .int (0 : Int32), .int (0 : Int32), .long (0 : Int64)])), rI q4 cI 1661 (fun _ => 0)] := hw7
  refine va_putF (D := G) (ci := 7) (v := .ref q1) (ty := (.object "PointLedger$Packer")) (C := RX7) (T := TX7) (N := 11) hx hb htc iX7 tyX7 tyX7_ok nmX7 hown hK hw7.1 hw7.2.1 hw7.2.2 0 rfl rfl 2 (by decide) (htc _ mw_187) (fun _ h9 => h9) rfl hin rfl (tyX7_ok 2 (by decide)) rfl rfl (Nat.le_of_ble_eq_true rfl) dX7_init_12 (fun H8 lc10 hP hD hS => ?_)
  have hw9 : wS G A s H8 lc10 [(a0, .inr (7, [.null, .null, .ref q1, .null, .null, .null, .null, .int (0 : Int32), .int (0 : Int32), .int (0 : Int32), .int (0 : Int32)])), (q1, .inr (5, [.ref q4, .int (0 : Int32), .int (0 : Int32), .int (0 : Int32), .int (0 : Int32), .int (0 : Int32), .long (0 : Int64)])), rI q4 cI 1661 (fun _ => 0)] := ⟨hP, hD, hS⟩
  clear hP hD hS hw7
  refine lv_aload_n hx hb dX7_init_15 rfl (lv_at hl0 0 rfl) ?_
  refine va_new (D := G) (ci := 6) (fs := [.int (0 : Int32), .int (0 : Int32), .int (0 : Int32), .int (0 : Int32), .int (0 : Int32), .long (0 : Int64)]) (C := RX6) (T := TX6) (N := 6) hx hb htc iX6 tyX6 tyX6_ok hown (htc _ mw_147) (htc _ mw_148) (htc _ mw_9) hK hw9.1 hw9.2.1 hw9.2.2 hA rfl (fun j hj => by rcases (show j = 0 ∨ j = 1 ∨ j = 2 ∨ j = 3 ∨ j = 4 ∨ j = 5 by omega) with rfl | rfl | rfl | rfl | rfl | rfl <;> rfl) (Nat.le_of_ble_eq_true rfl) (Nat.le_of_ble_eq_true rfl) dX7_init_16 (fun q11 H12 hP hD hS => ?_)
  have hw13 : wS G A s H12 _ [(a0, .inr (7, [.null, .null, .ref q1, .null, .null, .null, .null, .int (0 : Int32), .int (0 : Int32), .int (0 : Int32), .int (0 : Int32)])), (q1, .inr (5, [.ref q4, .int (0 : Int32), .int (0 : Int32), .int (0 : Int32), .int (0 : Int32), .int (0 : Int32), .long (0 : Int64)])), rI q4 cI 1661 (fun _ => 0), (q11, .inr (6, [.int (0 : Int32), .int (0 : Int32), .int (0 : Int32), .int (0 : Int32), .int (0 : Int32), .long (0 : Int64)]))] := ⟨hP, hD, hS⟩
  clear hP hD hS
  refine lv_dup hx hb dX7_init_19 rfl ?_
  refine ntIN (a := q11) (As := []) (rest := [.ref q11, .ref a0]) (wc := [(q11, .inr (6, [.int (0 : Int32), .int (0 : Int32), .int (0 : Int32), .int (0 : Int32), .int (0 : Int32), .long (0 : Int64)]))]) (wr := [(a0, .inr (7, [.null, .null, .ref q1, .null, .null, .null, .null, .int (0 : Int32), .int (0 : Int32), .int (0 : Int32), .int (0 : Int32)])), (q1, .inr (5, [.ref q4, .int (0 : Int32), .int (0 : Int32), .int (0 : Int32), .int (0 : Int32), .int (0 : Int32), .long (0 : Int64)])), rI q4 cI 1661 (fun _ => 0)]) hx hb hml hown htc hN (n_X6_init l G cI cZ cJ q11 ) (hN _ mn_8) mw_150 mw_9 mw_151 rfl hi_X6_init ⟨rfl, rfl⟩ ⟨Nat.le_of_ble_eq_true rfl, Nat.le_of_ble_eq_true rfl⟩ hK hw13 hA [3] [0, 1, 2] rfl rfl rfl rfl rfl (by decide) rfl hl0.1 rfl (Nat.le_of_ble_eq_true rfl) dX7_init_20 ⟨Nat.le_of_ble_eq_true rfl, Nat.le_of_ble_eq_true rfl⟩ (fun w9 hp9 H14 lc15 hw16 => ?_)
  obtain rfl := hp9
  replace hw16 : wS G A s H14 lc15 [(a0, .inr (7, [.null, .null, .ref q1, .null, .null, .null, .null, .int (0 : Int32), .int (0 : Int32), .int (0 : Int32), .int (0 : Int32)])), (q1, .inr (5, [.ref q4, .int (0 : Int32), .int (0 : Int32), .int (0 : Int32), .int (0 : Int32), .int (0 : Int32), .long (0 : Int64)])), rI q4 cI 1661 (fun _ => 0), (q11, .inr (6, [.int (0 : Int32), .int (0 : Int32), .int (0 : Int32), .int (0 : Int32), .int (0 : Int32), .long (0 : Int64)]))] := hw16
  refine va_putF (D := G) (ci := 7) (v := .ref q11) (ty := (.object "PointLedger$Summary")) (C := RX7) (T := TX7) (N := 11) hx hb htc iX7 tyX7 tyX7_ok nmX7 hown hK hw16.1 hw16.2.1 hw16.2.2 0 rfl rfl 3 (by decide) (htc _ mw_188) (fun _ h9 => h9) rfl hin rfl (tyX7_ok 3 (by decide)) rfl rfl (Nat.le_of_ble_eq_true rfl) dX7_init_23 (fun H17 lc19 hP hD hS => ?_)
  have hw18 : wS G A s H17 lc19 [(a0, .inr (7, [.null, .null, .ref q1, .ref q11, .null, .null, .null, .int (0 : Int32), .int (0 : Int32), .int (0 : Int32), .int (0 : Int32)])), (q1, .inr (5, [.ref q4, .int (0 : Int32), .int (0 : Int32), .int (0 : Int32), .int (0 : Int32), .int (0 : Int32), .long (0 : Int64)])), rI q4 cI 1661 (fun _ => 0), (q11, .inr (6, [.int (0 : Int32), .int (0 : Int32), .int (0 : Int32), .int (0 : Int32), .int (0 : Int32), .long (0 : Int64)]))] := ⟨hP, hD, hS⟩
  clear hP hD hS hw16
  refine lv_aload_n hx hb dX7_init_26 rfl (lv_at hl0 0 rfl) ?_
  refine lv_sipush (v := (961 : Int32)) hx hb dX7_init_27 (by decide) ?_
  refine nt_newI (N := 961) hx hb htc hK hw18 hA (by decide) (by decide) (Nat.le_of_ble_eq_true rfl) (Nat.le_of_ble_eq_true rfl) (Nat.le_of_ble_eq_true rfl) dX7_init_30 (fun q20 H21 hw22 => ?_)
  refine va_putF (D := G) (ci := 7) (v := .ref q20) (ty := (.array .int)) (C := RX7) (T := TX7) (N := 11) hx hb htc iX7 tyX7 tyX7_ok nmX7 hown hK hw22.1 hw22.2.1 hw22.2.2 0 rfl rfl 4 (by decide) (htc _ mw_189) (fun _ h9 => h9) rfl hin rfl (tyX7_ok 4 (by decide)) rfl rfl (Nat.le_of_ble_eq_true rfl) dX7_init_32 (fun H23 lc25 hP hD hS => ?_)
  have hw24 : wS G A s H23 lc25 [(a0, .inr (7, [.null, .null, .ref q1, .ref q11, .ref q20, .null, .null, .int (0 : Int32), .int (0 : Int32), .int (0 : Int32), .int (0 : Int32)])), (q1, .inr (5, [.ref q4, .int (0 : Int32), .int (0 : Int32), .int (0 : Int32), .int (0 : Int32), .int (0 : Int32), .long (0 : Int64)])), rI q4 cI 1661 (fun _ => 0), (q11, .inr (6, [.int (0 : Int32), .int (0 : Int32), .int (0 : Int32), .int (0 : Int32), .int (0 : Int32), .long (0 : Int64)])), rI q20 cI 961 (fun _ => 0)] := ⟨hP, hD, hS⟩
  clear hP hD hS hw22
  refine lv_aload_n hx hb dX7_init_35 rfl (lv_at hl0 0 rfl) ?_
  refine lv_bipush (v := (96 : Int32)) hx hb dX7_init_36 (by decide) ?_
  refine nt_newI (N := 96) hx hb htc hK hw24 hA (by decide) (by decide) (Nat.le_of_ble_eq_true rfl) (Nat.le_of_ble_eq_true rfl) (Nat.le_of_ble_eq_true rfl) dX7_init_38 (fun q26 H27 hw28 => ?_)
  refine va_putF (D := G) (ci := 7) (v := .ref q26) (ty := (.array .int)) (C := RX7) (T := TX7) (N := 11) hx hb htc iX7 tyX7 tyX7_ok nmX7 hown hK hw28.1 hw28.2.1 hw28.2.2 0 rfl rfl 5 (by decide) (htc _ mw_190) (fun _ h9 => h9) rfl hin rfl (tyX7_ok 5 (by decide)) rfl rfl (Nat.le_of_ble_eq_true rfl) dX7_init_40 (fun H29 lc31 hP hD hS => ?_)
  have hw30 : wS G A s H29 lc31 [(a0, .inr (7, [.null, .null, .ref q1, .ref q11, .ref q20, .ref q26, .null, .int (0 : Int32), .int (0 : Int32), .int (0 : Int32), .int (0 : Int32)])), (q1, .inr (5, [.ref q4, .int (0 : Int32), .int (0 : Int32), .int (0 : Int32), .int (0 : Int32), .int (0 : Int32), .long (0 : Int64)])), rI q4 cI 1661 (fun _ => 0), (q11, .inr (6, [.int (0 : Int32), .int (0 : Int32), .int (0 : Int32), .int (0 : Int32), .int (0 : Int32), .long (0 : Int64)])), rI q20 cI 961 (fun _ => 0), rI q26 cI 96 (fun _ => 0)] := ⟨hP, hD, hS⟩
  clear hP hD hS hw28
  refine lv_aload_n hx hb dX7_init_43 rfl (lv_at hl0 0 rfl) ?_
  refine lv_sipush (v := (1661 : Int32)) hx hb dX7_init_44 (by decide) ?_
  refine nt_newZ (N := 1661) hx hb htc hK hw30 hA (by decide) (by decide) (Nat.le_of_ble_eq_true rfl) (Nat.le_of_ble_eq_true rfl) (Nat.le_of_ble_eq_true rfl) dX7_init_47 (fun q32 H33 hw34 => ?_)
  refine va_putF (D := G) (ci := 7) (v := .ref q32) (ty := (.array .boolean)) (C := RX7) (T := TX7) (N := 11) hx hb htc iX7 tyX7 tyX7_ok nmX7 hown hK hw34.1 hw34.2.1 hw34.2.2 0 rfl rfl 6 (by decide) (htc _ mw_191) (fun _ h9 => h9) rfl hin rfl (tyX7_ok 6 (by decide)) rfl rfl (Nat.le_of_ble_eq_true rfl) dX7_init_49 (fun H35 lc37 hP hD hS => ?_)
  have hw36 : wS G A s H35 lc37 [(a0, .inr (7, [.null, .null, .ref q1, .ref q11, .ref q20, .ref q26, .ref q32, .int (0 : Int32), .int (0 : Int32), .int (0 : Int32), .int (0 : Int32)])), (q1, .inr (5, [.ref q4, .int (0 : Int32), .int (0 : Int32), .int (0 : Int32), .int (0 : Int32), .int (0 : Int32), .long (0 : Int64)])), rI q4 cI 1661 (fun _ => 0), (q11, .inr (6, [.int (0 : Int32), .int (0 : Int32), .int (0 : Int32), .int (0 : Int32), .int (0 : Int32), .long (0 : Int64)])), rI q20 cI 961 (fun _ => 0), rI q26 cI 96 (fun _ => 0), rI q32 cZ 1661 (fun _ => 0)] := ⟨hP, hD, hS⟩
  clear hP hD hS hw34
  refine lv_aload_n hx hb dX7_init_52 rfl (lv_at hl0 0 rfl) ?_
  refine lv_iconst (v := (0 : Int32)) hx hb dX7_init_53 (by decide) ?_
  refine va_put (D := G) (ci := 7) (v := .int (0 : Int32)) (ty := .int) (C := RX7) (T := TX7) (N := 11) hx hb htc iX7 tyX7 tyX7_ok nmX7 hown hK hw36.1 hw36.2.1 hw36.2.2 0 rfl rfl 7 (by decide) (htc _ mw_192) (fun _ h9 => h9) rfl (tyX7_ok 7 (by decide)) rfl rfl (Nat.le_of_ble_eq_true rfl) dX7_init_54 (fun H38 lc40 hP hD hS => ?_)
  have hw39 : wS G A s H38 lc40 [(a0, .inr (7, [.null, .null, .ref q1, .ref q11, .ref q20, .ref q26, .ref q32, .int (0 : Int32), .int (0 : Int32), .int (0 : Int32), .int (0 : Int32)])), (q1, .inr (5, [.ref q4, .int (0 : Int32), .int (0 : Int32), .int (0 : Int32), .int (0 : Int32), .int (0 : Int32), .long (0 : Int64)])), rI q4 cI 1661 (fun _ => 0), (q11, .inr (6, [.int (0 : Int32), .int (0 : Int32), .int (0 : Int32), .int (0 : Int32), .int (0 : Int32), .long (0 : Int64)])), rI q20 cI 961 (fun _ => 0), rI q26 cI 96 (fun _ => 0), rI q32 cZ 1661 (fun _ => 0)] := ⟨hP, hD, hS⟩
  clear hP hD hS hw36
  refine lv_aload_n hx hb dX7_init_57 rfl (lv_at hl0 0 rfl) ?_
  refine lv_iconst (v := (0 : Int32)) hx hb dX7_init_58 (by decide) ?_
  refine va_put (D := G) (ci := 7) (v := .int (0 : Int32)) (ty := .int) (C := RX7) (T := TX7) (N := 11) hx hb htc iX7 tyX7 tyX7_ok nmX7 hown hK hw39.1 hw39.2.1 hw39.2.2 0 rfl rfl 8 (by decide) (htc _ mw_193) (fun _ h9 => h9) rfl (tyX7_ok 8 (by decide)) rfl rfl (Nat.le_of_ble_eq_true rfl) dX7_init_59 (fun H41 lc43 hP hD hS => ?_)
  have hw42 : wS G A s H41 lc43 [(a0, .inr (7, [.null, .null, .ref q1, .ref q11, .ref q20, .ref q26, .ref q32, .int (0 : Int32), .int (0 : Int32), .int (0 : Int32), .int (0 : Int32)])), (q1, .inr (5, [.ref q4, .int (0 : Int32), .int (0 : Int32), .int (0 : Int32), .int (0 : Int32), .int (0 : Int32), .long (0 : Int64)])), rI q4 cI 1661 (fun _ => 0), (q11, .inr (6, [.int (0 : Int32), .int (0 : Int32), .int (0 : Int32), .int (0 : Int32), .int (0 : Int32), .long (0 : Int64)])), rI q20 cI 961 (fun _ => 0), rI q26 cI 96 (fun _ => 0), rI q32 cZ 1661 (fun _ => 0)] := ⟨hP, hD, hS⟩
  clear hP hD hS hw39
  refine lv_aload_n hx hb dX7_init_62 rfl (lv_at hl0 0 rfl) ?_
  refine lv_iconst (v := (0 : Int32)) hx hb dX7_init_63 (by decide) ?_
  refine va_put (D := G) (ci := 7) (v := .int (0 : Int32)) (ty := .int) (C := RX7) (T := TX7) (N := 11) hx hb htc iX7 tyX7 tyX7_ok nmX7 hown hK hw42.1 hw42.2.1 hw42.2.2 0 rfl rfl 9 (by decide) (htc _ mw_194) (fun _ h9 => h9) rfl (tyX7_ok 9 (by decide)) rfl rfl (Nat.le_of_ble_eq_true rfl) dX7_init_64 (fun H44 lc46 hP hD hS => ?_)
  have hw45 : wS G A s H44 lc46 [(a0, .inr (7, [.null, .null, .ref q1, .ref q11, .ref q20, .ref q26, .ref q32, .int (0 : Int32), .int (0 : Int32), .int (0 : Int32), .int (0 : Int32)])), (q1, .inr (5, [.ref q4, .int (0 : Int32), .int (0 : Int32), .int (0 : Int32), .int (0 : Int32), .int (0 : Int32), .long (0 : Int64)])), rI q4 cI 1661 (fun _ => 0), (q11, .inr (6, [.int (0 : Int32), .int (0 : Int32), .int (0 : Int32), .int (0 : Int32), .int (0 : Int32), .long (0 : Int64)])), rI q20 cI 961 (fun _ => 0), rI q26 cI 96 (fun _ => 0), rI q32 cZ 1661 (fun _ => 0)] := ⟨hP, hD, hS⟩
  clear hP hD hS hw42
  refine lv_aload_n hx hb dX7_init_67 rfl (lv_at hl0 0 rfl) ?_
  refine lv_iconst (v := (0 : Int32)) hx hb dX7_init_68 (by decide) ?_
  refine va_put (D := G) (ci := 7) (v := .int (0 : Int32)) (ty := .boolean) (C := RX7) (T := TX7) (N := 11) hx hb htc iX7 tyX7 tyX7_ok nmX7 hown hK hw45.1 hw45.2.1 hw45.2.2 0 rfl rfl 10 (by decide) (htc _ mw_195) (fun _ h9 => h9) rfl (tyX7_ok 10 (by decide)) rfl rfl (Nat.le_of_ble_eq_true rfl) dX7_init_69 (fun H47 lc49 hP hD hS => ?_)
  have hw48 : wS G A s H47 lc49 [(a0, .inr (7, [.null, .null, .ref q1, .ref q11, .ref q20, .ref q26, .ref q32, .int (0 : Int32), .int (0 : Int32), .int (0 : Int32), .int (0 : Int32)])), (q1, .inr (5, [.ref q4, .int (0 : Int32), .int (0 : Int32), .int (0 : Int32), .int (0 : Int32), .int (0 : Int32), .long (0 : Int64)])), rI q4 cI 1661 (fun _ => 0), (q11, .inr (6, [.int (0 : Int32), .int (0 : Int32), .int (0 : Int32), .int (0 : Int32), .int (0 : Int32), .long (0 : Int64)])), rI q20 cI 961 (fun _ => 0), rI q26 cI 96 (fun _ => 0), rI q32 cZ 1661 (fun _ => 0)] := ⟨hP, hD, hS⟩
  clear hP hD hS hw45
  refine lv_aload_n hx hb dX7_init_72 rfl (lv_at hl0 0 rfl) ?_
  refine lv_aload_n hx hb dX7_init_73 rfl (lv_at hl0 1 rfl) ?_
  refine va_putF (D := G) (ci := 7) (v := .ref b1) (ty := (.object "PointLedger$Disk")) (C := RX7) (T := TX7) (N := 11) hx hb htc iX7 tyX7 tyX7_ok nmX7 hown hK hw48.1 hw48.2.1 hw48.2.2 0 rfl rfl 0 (by decide) (htc _ mw_185) (fun _ h9 => h9) rfl hin rfl (tyX7_ok 0 (by decide)) rfl rfl (Nat.le_of_ble_eq_true rfl) dX7_init_74 (fun H50 lc52 hP hD hS => ?_)
  have hw51 : wS G A s H50 lc52 [(a0, .inr (7, [.ref b1, .null, .ref q1, .ref q11, .ref q20, .ref q26, .ref q32, .int (0 : Int32), .int (0 : Int32), .int (0 : Int32), .int (0 : Int32)])), (q1, .inr (5, [.ref q4, .int (0 : Int32), .int (0 : Int32), .int (0 : Int32), .int (0 : Int32), .int (0 : Int32), .long (0 : Int64)])), rI q4 cI 1661 (fun _ => 0), (q11, .inr (6, [.int (0 : Int32), .int (0 : Int32), .int (0 : Int32), .int (0 : Int32), .int (0 : Int32), .long (0 : Int64)])), rI q20 cI 961 (fun _ => 0), rI q26 cI 96 (fun _ => 0), rI q32 cZ 1661 (fun _ => 0)] := ⟨hP, hD, hS⟩
  clear hP hD hS hw48
  refine lv_aload_n hx hb dX7_init_77 rfl (lv_at hl0 0 rfl) ?_
  refine lv_aload_n hx hb dX7_init_78 rfl (lv_at hl0 2 rfl) ?_
  refine va_putF (D := G) (ci := 7) (v := .ref b2) (ty := (.object "PointLedger$Index")) (C := RX7) (T := TX7) (N := 11) hx hb htc iX7 tyX7 tyX7_ok nmX7 hown hK hw51.1 hw51.2.1 hw51.2.2 0 rfl rfl 1 (by decide) (htc _ mw_186) (fun _ h9 => h9) rfl hin rfl (tyX7_ok 1 (by decide)) rfl rfl (Nat.le_of_ble_eq_true rfl) dX7_init_79 (fun H53 lc55 hP hD hS => ?_)
  have hw54 : wS G A s H53 lc55 [(a0, .inr (7, [.ref b1, .ref b2, .ref q1, .ref q11, .ref q20, .ref q26, .ref q32, .int (0 : Int32), .int (0 : Int32), .int (0 : Int32), .int (0 : Int32)])), (q1, .inr (5, [.ref q4, .int (0 : Int32), .int (0 : Int32), .int (0 : Int32), .int (0 : Int32), .int (0 : Int32), .long (0 : Int64)])), rI q4 cI 1661 (fun _ => 0), (q11, .inr (6, [.int (0 : Int32), .int (0 : Int32), .int (0 : Int32), .int (0 : Int32), .int (0 : Int32), .long (0 : Int64)])), rI q20 cI 961 (fun _ => 0), rI q26 cI 96 (fun _ => 0), rI q32 cZ 1661 (fun _ => 0)] := ⟨hP, hD, hS⟩
  clear hP hD hS hw51
  rw [hQQ]
  exact et_vret hx hb hr hlocks hw54 ⟨q1, q4, q11, q20, q26, q32, rfl⟩ dX7_init_82
abbrev rm_X0_init : Room := { frames := 2, cells := 2, slots := 12, locals := 40 }
theorem hi_X0_init : yX0_init.cls ≠ "java/lang/invoke/MethodHandle" ∧ yX0_init.cls ≠ "java/lang/invoke/VarHandle" ∧ (parseMethodDescriptor yX0_init.desc).map (fun d => d.parameters.length) = some 4 := by decide +kernel
set_option maxHeartbeats 4000000 in
set_option maxRecDepth 100000 in
theorem n_X0_init (l : Launch) (G : va_G) (cI cZ cJ : ClassId) (a0 : Nat) (b1 : Nat) (b2 : Nat) (b3 : Nat) (p4 : Int32)  : NT l yX0_init cX0_init 5 rm_X0_init G (tyC cI cZ cJ) [.ref a0, .ref b1, .ref b2, .ref b3, .int p4] [(a0, .inr (0, [.null, .null, .null, .int (0 : Int32), .null, .null, .int (0 : Int32), .int (0 : Int32)]))] 2 12 (fun w => ∃ q1 q10 : Nat, w = [(a0, .inr (0, [.ref b1, .ref b2, .ref b3, .int p4, .ref q1, .ref q10, .int (0 : Int32), .int (0 : Int32)])), (q1, .inr (6, [.int (0 : Int32), .int (0 : Int32), .int (0 : Int32), .int (0 : Int32), .int (0 : Int32), .long (0 : Int64)])), (q10, .inr (6, [.int (0 : Int32), .int (0 : Int32), .int (0 : Int32), .int (0 : Int32), .int (0 : Int32), .long (0 : Int64)]))]) := by
  refine NT.ofW (lvl := [(0, .ref a0), (1, .ref b1), (2, .ref b2), (3, .ref b3), (4, .int p4)]) (by decide) (Nat.le_of_ble_eq_true rfl) rfl ?_
  intro p e s m args below meth c A ls0 QQ hQQ hin hx hb hml hr hlocks htc hN hown hK hA hw0 hl0
  refine lv_aload_n hx hb dX0_init_0 rfl (lv_at hl0 0 rfl) ?_
  refine W.objInit hx hb hown (htc _ mw_225) (htc _ mw_25) (htc _ mw_26) rfl (by rw [hml]; exact hl0.1) rfl dX0_init_1 (Nat.le_of_ble_eq_true rfl) (Nat.le_of_ble_eq_true rfl) ?_
  refine lv_aload_n hx hb dX0_init_4 rfl (lv_at hl0 0 rfl) ?_
  refine va_new (D := G) (ci := 6) (fs := [.int (0 : Int32), .int (0 : Int32), .int (0 : Int32), .int (0 : Int32), .int (0 : Int32), .long (0 : Int64)]) (C := RX6) (T := TX6) (N := 6) hx hb htc iX6 tyX6 tyX6_ok hown (htc _ mw_226) (htc _ mw_148) (htc _ mw_9) hK hw0.1 hw0.2.1 hw0.2.2 hA rfl (fun j hj => by rcases (show j = 0 ∨ j = 1 ∨ j = 2 ∨ j = 3 ∨ j = 4 ∨ j = 5 by omega) with rfl | rfl | rfl | rfl | rfl | rfl <;> rfl) (Nat.le_of_ble_eq_true rfl) (Nat.le_of_ble_eq_true rfl) dX0_init_5 (fun q1 H2 hP hD hS => ?_)
  have hw3 : wS G A s H2 _ [(a0, .inr (0, [.null, .null, .null, .int (0 : Int32), .null, .null, .int (0 : Int32), .int (0 : Int32)])), (q1, .inr (6, [.int (0 : Int32), .int (0 : Int32), .int (0 : Int32), .int (0 : Int32), .int (0 : Int32), .long (0 : Int64)]))] := ⟨hP, hD, hS⟩
  clear hP hD hS
  refine lv_dup hx hb dX0_init_8 rfl ?_
  refine ntIN (a := q1) (As := []) (rest := [.ref q1, .ref a0]) (wc := [(q1, .inr (6, [.int (0 : Int32), .int (0 : Int32), .int (0 : Int32), .int (0 : Int32), .int (0 : Int32), .long (0 : Int64)]))]) (wr := [(a0, .inr (0, [.null, .null, .null, .int (0 : Int32), .null, .null, .int (0 : Int32), .int (0 : Int32)]))]) hx hb hml hown htc hN (n_X6_init l G cI cZ cJ q1 ) (hN _ mn_22) mw_150 mw_9 mw_151 rfl hi_X6_init ⟨rfl, rfl⟩ ⟨Nat.le_of_ble_eq_true rfl, Nat.le_of_ble_eq_true rfl⟩ hK hw3 hA [1] [0] rfl rfl rfl rfl rfl (by decide) rfl hl0.1 rfl (Nat.le_of_ble_eq_true rfl) dX0_init_9 ⟨Nat.le_of_ble_eq_true rfl, Nat.le_of_ble_eq_true rfl⟩ (fun w9 hp9 H4 lc5 hw6 => ?_)
  obtain rfl := hp9
  replace hw6 : wS G A s H4 lc5 [(a0, .inr (0, [.null, .null, .null, .int (0 : Int32), .null, .null, .int (0 : Int32), .int (0 : Int32)])), (q1, .inr (6, [.int (0 : Int32), .int (0 : Int32), .int (0 : Int32), .int (0 : Int32), .int (0 : Int32), .long (0 : Int64)]))] := hw6
  refine va_putF (D := G) (ci := 0) (v := .ref q1) (ty := (.object "PointLedger$Summary")) (C := RX0) (T := TX0) (N := 8) hx hb htc iX0 tyX0 tyX0_ok nmX0 hown hK hw6.1 hw6.2.1 hw6.2.2 0 rfl rfl 4 (by decide) (htc _ mw_232) (fun _ h9 => h9) rfl hin rfl (tyX0_ok 4 (by decide)) rfl rfl (Nat.le_of_ble_eq_true rfl) dX0_init_12 (fun H7 lc9 hP hD hS => ?_)
  have hw8 : wS G A s H7 lc9 [(a0, .inr (0, [.null, .null, .null, .int (0 : Int32), .ref q1, .null, .int (0 : Int32), .int (0 : Int32)])), (q1, .inr (6, [.int (0 : Int32), .int (0 : Int32), .int (0 : Int32), .int (0 : Int32), .int (0 : Int32), .long (0 : Int64)]))] := ⟨hP, hD, hS⟩
  clear hP hD hS hw6
  refine lv_aload_n hx hb dX0_init_15 rfl (lv_at hl0 0 rfl) ?_
  refine va_new (D := G) (ci := 6) (fs := [.int (0 : Int32), .int (0 : Int32), .int (0 : Int32), .int (0 : Int32), .int (0 : Int32), .long (0 : Int64)]) (C := RX6) (T := TX6) (N := 6) hx hb htc iX6 tyX6 tyX6_ok hown (htc _ mw_226) (htc _ mw_148) (htc _ mw_9) hK hw8.1 hw8.2.1 hw8.2.2 hA rfl (fun j hj => by rcases (show j = 0 ∨ j = 1 ∨ j = 2 ∨ j = 3 ∨ j = 4 ∨ j = 5 by omega) with rfl | rfl | rfl | rfl | rfl | rfl <;> rfl) (Nat.le_of_ble_eq_true rfl) (Nat.le_of_ble_eq_true rfl) dX0_init_16 (fun q10 H11 hP hD hS => ?_)
  have hw12 : wS G A s H11 _ [(a0, .inr (0, [.null, .null, .null, .int (0 : Int32), .ref q1, .null, .int (0 : Int32), .int (0 : Int32)])), (q1, .inr (6, [.int (0 : Int32), .int (0 : Int32), .int (0 : Int32), .int (0 : Int32), .int (0 : Int32), .long (0 : Int64)])), (q10, .inr (6, [.int (0 : Int32), .int (0 : Int32), .int (0 : Int32), .int (0 : Int32), .int (0 : Int32), .long (0 : Int64)]))] := ⟨hP, hD, hS⟩
  clear hP hD hS
  refine lv_dup hx hb dX0_init_19 rfl ?_
  refine ntIN (a := q10) (As := []) (rest := [.ref q10, .ref a0]) (wc := [(q10, .inr (6, [.int (0 : Int32), .int (0 : Int32), .int (0 : Int32), .int (0 : Int32), .int (0 : Int32), .long (0 : Int64)]))]) (wr := [(a0, .inr (0, [.null, .null, .null, .int (0 : Int32), .ref q1, .null, .int (0 : Int32), .int (0 : Int32)])), (q1, .inr (6, [.int (0 : Int32), .int (0 : Int32), .int (0 : Int32), .int (0 : Int32), .int (0 : Int32), .long (0 : Int64)]))]) hx hb hml hown htc hN (n_X6_init l G cI cZ cJ q10 ) (hN _ mn_22) mw_150 mw_9 mw_151 rfl hi_X6_init ⟨rfl, rfl⟩ ⟨Nat.le_of_ble_eq_true rfl, Nat.le_of_ble_eq_true rfl⟩ hK hw12 hA [2] [0, 1] rfl rfl rfl rfl rfl (by decide) rfl hl0.1 rfl (Nat.le_of_ble_eq_true rfl) dX0_init_20 ⟨Nat.le_of_ble_eq_true rfl, Nat.le_of_ble_eq_true rfl⟩ (fun w9 hp9 H13 lc14 hw15 => ?_)
  obtain rfl := hp9
  replace hw15 : wS G A s H13 lc14 [(a0, .inr (0, [.null, .null, .null, .int (0 : Int32), .ref q1, .null, .int (0 : Int32), .int (0 : Int32)])), (q1, .inr (6, [.int (0 : Int32), .int (0 : Int32), .int (0 : Int32), .int (0 : Int32), .int (0 : Int32), .long (0 : Int64)])), (q10, .inr (6, [.int (0 : Int32), .int (0 : Int32), .int (0 : Int32), .int (0 : Int32), .int (0 : Int32), .long (0 : Int64)]))] := hw15
  refine va_putF (D := G) (ci := 0) (v := .ref q10) (ty := (.object "PointLedger$Summary")) (C := RX0) (T := TX0) (N := 8) hx hb htc iX0 tyX0 tyX0_ok nmX0 hown hK hw15.1 hw15.2.1 hw15.2.2 0 rfl rfl 5 (by decide) (htc _ mw_233) (fun _ h9 => h9) rfl hin rfl (tyX0_ok 5 (by decide)) rfl rfl (Nat.le_of_ble_eq_true rfl) dX0_init_23 (fun H16 lc18 hP hD hS => ?_)
  have hw17 : wS G A s H16 lc18 [(a0, .inr (0, [.null, .null, .null, .int (0 : Int32), .ref q1, .ref q10, .int (0 : Int32), .int (0 : Int32)])), (q1, .inr (6, [.int (0 : Int32), .int (0 : Int32), .int (0 : Int32), .int (0 : Int32), .int (0 : Int32), .long (0 : Int64)])), (q10, .inr (6, [.int (0 : Int32), .int (0 : Int32), .int (0 : Int32), .int (0 : Int32), .int (0 : Int32), .long (0 : Int64)]))] := ⟨hP, hD, hS⟩
  clear hP hD hS hw15
  refine lv_aload_n hx hb dX0_init_26 rfl (lv_at hl0 0 rfl) ?_
  refine lv_iconst (v := (0 : Int32)) hx hb dX0_init_27 (by decide) ?_
  refine va_put (D := G) (ci := 0) (v := .int (0 : Int32)) (ty := .int) (C := RX0) (T := TX0) (N := 8) hx hb htc iX0 tyX0 tyX0_ok nmX0 hown hK hw17.1 hw17.2.1 hw17.2.2 0 rfl rfl 6 (by decide) (htc _ mw_234) (fun _ h9 => h9) rfl (tyX0_ok 6 (by decide)) rfl rfl (Nat.le_of_ble_eq_true rfl) dX0_init_28 (fun H19 lc21 hP hD hS => ?_)
  have hw20 : wS G A s H19 lc21 [(a0, .inr (0, [.null, .null, .null, .int (0 : Int32), .ref q1, .ref q10, .int (0 : Int32), .int (0 : Int32)])), (q1, .inr (6, [.int (0 : Int32), .int (0 : Int32), .int (0 : Int32), .int (0 : Int32), .int (0 : Int32), .long (0 : Int64)])), (q10, .inr (6, [.int (0 : Int32), .int (0 : Int32), .int (0 : Int32), .int (0 : Int32), .int (0 : Int32), .long (0 : Int64)]))] := ⟨hP, hD, hS⟩
  clear hP hD hS hw17
  refine lv_aload_n hx hb dX0_init_31 rfl (lv_at hl0 0 rfl) ?_
  refine lv_iconst (v := (0 : Int32)) hx hb dX0_init_32 (by decide) ?_
  refine va_put (D := G) (ci := 0) (v := .int (0 : Int32)) (ty := .int) (C := RX0) (T := TX0) (N := 8) hx hb htc iX0 tyX0 tyX0_ok nmX0 hown hK hw20.1 hw20.2.1 hw20.2.2 0 rfl rfl 7 (by decide) (htc _ mw_235) (fun _ h9 => h9) rfl (tyX0_ok 7 (by decide)) rfl rfl (Nat.le_of_ble_eq_true rfl) dX0_init_33 (fun H22 lc24 hP hD hS => ?_)
  have hw23 : wS G A s H22 lc24 [(a0, .inr (0, [.null, .null, .null, .int (0 : Int32), .ref q1, .ref q10, .int (0 : Int32), .int (0 : Int32)])), (q1, .inr (6, [.int (0 : Int32), .int (0 : Int32), .int (0 : Int32), .int (0 : Int32), .int (0 : Int32), .long (0 : Int64)])), (q10, .inr (6, [.int (0 : Int32), .int (0 : Int32), .int (0 : Int32), .int (0 : Int32), .int (0 : Int32), .long (0 : Int64)]))] := ⟨hP, hD, hS⟩
  clear hP hD hS hw20
  refine lv_aload_n hx hb dX0_init_36 rfl (lv_at hl0 0 rfl) ?_
  refine lv_aload_n hx hb dX0_init_37 rfl (lv_at hl0 1 rfl) ?_
  refine va_putF (D := G) (ci := 0) (v := .ref b1) (ty := (.object "PointLedger$Index")) (C := RX0) (T := TX0) (N := 8) hx hb htc iX0 tyX0 tyX0_ok nmX0 hown hK hw23.1 hw23.2.1 hw23.2.2 0 rfl rfl 0 (by decide) (htc _ mw_228) (fun _ h9 => h9) rfl hin rfl (tyX0_ok 0 (by decide)) rfl rfl (Nat.le_of_ble_eq_true rfl) dX0_init_38 (fun H25 lc27 hP hD hS => ?_)
  have hw26 : wS G A s H25 lc27 [(a0, .inr (0, [.ref b1, .null, .null, .int (0 : Int32), .ref q1, .ref q10, .int (0 : Int32), .int (0 : Int32)])), (q1, .inr (6, [.int (0 : Int32), .int (0 : Int32), .int (0 : Int32), .int (0 : Int32), .int (0 : Int32), .long (0 : Int64)])), (q10, .inr (6, [.int (0 : Int32), .int (0 : Int32), .int (0 : Int32), .int (0 : Int32), .int (0 : Int32), .long (0 : Int64)]))] := ⟨hP, hD, hS⟩
  clear hP hD hS hw23
  refine lv_aload_n hx hb dX0_init_41 rfl (lv_at hl0 0 rfl) ?_
  refine lv_aload_n hx hb dX0_init_42 rfl (lv_at hl0 2 rfl) ?_
  refine va_putF (D := G) (ci := 0) (v := .ref b2) (ty := (.object "PointLedger$Log")) (C := RX0) (T := TX0) (N := 8) hx hb htc iX0 tyX0 tyX0_ok nmX0 hown hK hw26.1 hw26.2.1 hw26.2.2 0 rfl rfl 1 (by decide) (htc _ mw_229) (fun _ h9 => h9) rfl hin rfl (tyX0_ok 1 (by decide)) rfl rfl (Nat.le_of_ble_eq_true rfl) dX0_init_43 (fun H28 lc30 hP hD hS => ?_)
  have hw29 : wS G A s H28 lc30 [(a0, .inr (0, [.ref b1, .ref b2, .null, .int (0 : Int32), .ref q1, .ref q10, .int (0 : Int32), .int (0 : Int32)])), (q1, .inr (6, [.int (0 : Int32), .int (0 : Int32), .int (0 : Int32), .int (0 : Int32), .int (0 : Int32), .long (0 : Int64)])), (q10, .inr (6, [.int (0 : Int32), .int (0 : Int32), .int (0 : Int32), .int (0 : Int32), .int (0 : Int32), .long (0 : Int64)]))] := ⟨hP, hD, hS⟩
  clear hP hD hS hw26
  refine lv_aload_n hx hb dX0_init_46 rfl (lv_at hl0 0 rfl) ?_
  refine lv_aload_n hx hb dX0_init_47 rfl (lv_at hl0 3 rfl) ?_
  refine va_putF (D := G) (ci := 0) (v := .ref b3) (ty := (.object "PointLedger$Unpacker")) (C := RX0) (T := TX0) (N := 8) hx hb htc iX0 tyX0 tyX0_ok nmX0 hown hK hw29.1 hw29.2.1 hw29.2.2 0 rfl rfl 2 (by decide) (htc _ mw_230) (fun _ h9 => h9) rfl hin rfl (tyX0_ok 2 (by decide)) rfl rfl (Nat.le_of_ble_eq_true rfl) dX0_init_48 (fun H31 lc33 hP hD hS => ?_)
  have hw32 : wS G A s H31 lc33 [(a0, .inr (0, [.ref b1, .ref b2, .ref b3, .int (0 : Int32), .ref q1, .ref q10, .int (0 : Int32), .int (0 : Int32)])), (q1, .inr (6, [.int (0 : Int32), .int (0 : Int32), .int (0 : Int32), .int (0 : Int32), .int (0 : Int32), .long (0 : Int64)])), (q10, .inr (6, [.int (0 : Int32), .int (0 : Int32), .int (0 : Int32), .int (0 : Int32), .int (0 : Int32), .long (0 : Int64)]))] := ⟨hP, hD, hS⟩
  clear hP hD hS hw29
  refine lv_aload_n hx hb dX0_init_51 rfl (lv_at hl0 0 rfl) ?_
  refine lv_iload hx hb dX0_init_52 (lv_at hl0 4 rfl) ?_
  refine va_putF (D := G) (ci := 0) (v := .int p4) (ty := .int) (C := RX0) (T := TX0) (N := 8) hx hb htc iX0 tyX0 tyX0_ok nmX0 hown hK hw32.1 hw32.2.1 hw32.2.2 0 rfl rfl 3 (by decide) (htc _ mw_231) (fun _ h9 => h9) rfl hin rfl (tyX0_ok 3 (by decide)) rfl rfl (Nat.le_of_ble_eq_true rfl) dX0_init_54 (fun H34 lc36 hP hD hS => ?_)
  have hw35 : wS G A s H34 lc36 [(a0, .inr (0, [.ref b1, .ref b2, .ref b3, .int p4, .ref q1, .ref q10, .int (0 : Int32), .int (0 : Int32)])), (q1, .inr (6, [.int (0 : Int32), .int (0 : Int32), .int (0 : Int32), .int (0 : Int32), .int (0 : Int32), .long (0 : Int64)])), (q10, .inr (6, [.int (0 : Int32), .int (0 : Int32), .int (0 : Int32), .int (0 : Int32), .int (0 : Int32), .long (0 : Int64)]))] := ⟨hP, hD, hS⟩
  clear hP hD hS hw32
  rw [hQQ]
  exact et_vret hx hb hr hlocks hw35 ⟨q1, q10, rfl⟩ dX0_init_57
abbrev rm_X1_init : Room := { frames := 2, cells := 1, slots := 7, locals := 41 }
theorem hi_X1_init : yX1_init.cls ≠ "java/lang/invoke/MethodHandle" ∧ yX1_init.cls ≠ "java/lang/invoke/VarHandle" ∧ (parseMethodDescriptor yX1_init.desc).map (fun d => d.parameters.length) = some 3 := by decide +kernel
set_option maxHeartbeats 4000000 in
set_option maxRecDepth 100000 in
theorem n_X1_init (l : Launch) (G : va_G) (cI cZ cJ : ClassId) (a0 : Nat) (b1 : Nat) (b2 : Nat) (b3 : Nat)  : NT l yX1_init cX1_init 4 rm_X1_init G (tyC cI cZ cJ) [.ref a0, .ref b1, .ref b2, .ref b3] [(a0, .inr (1, [.null, .null, .null, .int (0 : Int32), .int (0 : Int32), .int (0 : Int32), .int (0 : Int32), .int (0 : Int32), .int (0 : Int32), .int (0 : Int32), .int (0 : Int32), .int (0 : Int32), .int (0 : Int32)]))] 1 7 (fun w => ∃ q37 : Nat, w = [(a0, .inr (1, [.ref b2, .ref b3, .ref q37, .int (0 : Int32), .int (0 : Int32), .int (0 : Int32), .int (0 : Int32), .int (0 : Int32), .int (0 : Int32), .int (0 : Int32), .int (0 : Int32), .int (0 : Int32), .int (0 : Int32)])), (q37, .inr (8, [.ref b1, .int (0 : Int32), .int (0 : Int32), .int (0 : Int32), .int (0 : Int32), .int (0 : Int32), .long (0 : Int64)]))]) := by
  refine NT.ofW (lvl := [(0, .ref a0), (1, .ref b1), (2, .ref b2), (3, .ref b3)]) (by decide) (Nat.le_of_ble_eq_true rfl) rfl ?_
  intro p e s m args below meth c A ls0 QQ hQQ hin hx hb hml hr hlocks htc hN hown hK hA hw0 hl0
  refine lv_aload_n hx hb dX1_init_0 rfl (lv_at hl0 0 rfl) ?_
  refine W.objInit hx hb hown (htc _ mw_258) (htc _ mw_25) (htc _ mw_26) rfl (by rw [hml]; exact hl0.1) rfl dX1_init_1 (Nat.le_of_ble_eq_true rfl) (Nat.le_of_ble_eq_true rfl) ?_
  refine lv_aload_n hx hb dX1_init_4 rfl (lv_at hl0 0 rfl) ?_
  refine lv_iconst (v := (0 : Int32)) hx hb dX1_init_5 (by decide) ?_
  refine va_put (D := G) (ci := 1) (v := .int (0 : Int32)) (ty := .boolean) (C := RX1) (T := TX1) (N := 13) hx hb htc iX1 tyX1 tyX1_ok nmX1 hown hK hw0.1 hw0.2.1 hw0.2.2 0 rfl rfl 3 (by decide) (htc _ mw_264) (fun _ h9 => h9) rfl (tyX1_ok 3 (by decide)) rfl rfl (Nat.le_of_ble_eq_true rfl) dX1_init_6 (fun H1 lc3 hP hD hS => ?_)
  have hw2 : wS G A s H1 lc3 [(a0, .inr (1, [.null, .null, .null, .int (0 : Int32), .int (0 : Int32), .int (0 : Int32), .int (0 : Int32), .int (0 : Int32), .int (0 : Int32), .int (0 : Int32), .int (0 : Int32), .int (0 : Int32), .int (0 : Int32)]))] := ⟨hP, hD, hS⟩
  clear hP hD hS hw0
  refine lv_aload_n hx hb dX1_init_9 rfl (lv_at hl0 0 rfl) ?_
  refine lv_iconst (v := (0 : Int32)) hx hb dX1_init_10 (by decide) ?_
  refine va_put (D := G) (ci := 1) (v := .int (0 : Int32)) (ty := .int) (C := RX1) (T := TX1) (N := 13) hx hb htc iX1 tyX1 tyX1_ok nmX1 hown hK hw2.1 hw2.2.1 hw2.2.2 0 rfl rfl 4 (by decide) (htc _ mw_265) (fun _ h9 => h9) rfl (tyX1_ok 4 (by decide)) rfl rfl (Nat.le_of_ble_eq_true rfl) dX1_init_11 (fun H4 lc6 hP hD hS => ?_)
  have hw5 : wS G A s H4 lc6 [(a0, .inr (1, [.null, .null, .null, .int (0 : Int32), .int (0 : Int32), .int (0 : Int32), .int (0 : Int32), .int (0 : Int32), .int (0 : Int32), .int (0 : Int32), .int (0 : Int32), .int (0 : Int32), .int (0 : Int32)]))] := ⟨hP, hD, hS⟩
  clear hP hD hS hw2
  refine lv_aload_n hx hb dX1_init_14 rfl (lv_at hl0 0 rfl) ?_
  refine lv_iconst (v := (0 : Int32)) hx hb dX1_init_15 (by decide) ?_
  refine va_put (D := G) (ci := 1) (v := .int (0 : Int32)) (ty := .int) (C := RX1) (T := TX1) (N := 13) hx hb htc iX1 tyX1 tyX1_ok nmX1 hown hK hw5.1 hw5.2.1 hw5.2.2 0 rfl rfl 5 (by decide) (htc _ mw_266) (fun _ h9 => h9) rfl (tyX1_ok 5 (by decide)) rfl rfl (Nat.le_of_ble_eq_true rfl) dX1_init_16 (fun H7 lc9 hP hD hS => ?_)
  have hw8 : wS G A s H7 lc9 [(a0, .inr (1, [.null, .null, .null, .int (0 : Int32), .int (0 : Int32), .int (0 : Int32), .int (0 : Int32), .int (0 : Int32), .int (0 : Int32), .int (0 : Int32), .int (0 : Int32), .int (0 : Int32), .int (0 : Int32)]))] := ⟨hP, hD, hS⟩
  clear hP hD hS hw5
  refine lv_aload_n hx hb dX1_init_19 rfl (lv_at hl0 0 rfl) ?_
  refine lv_iconst (v := (0 : Int32)) hx hb dX1_init_20 (by decide) ?_
  refine va_put (D := G) (ci := 1) (v := .int (0 : Int32)) (ty := .int) (C := RX1) (T := TX1) (N := 13) hx hb htc iX1 tyX1 tyX1_ok nmX1 hown hK hw8.1 hw8.2.1 hw8.2.2 0 rfl rfl 6 (by decide) (htc _ mw_267) (fun _ h9 => h9) rfl (tyX1_ok 6 (by decide)) rfl rfl (Nat.le_of_ble_eq_true rfl) dX1_init_21 (fun H10 lc12 hP hD hS => ?_)
  have hw11 : wS G A s H10 lc12 [(a0, .inr (1, [.null, .null, .null, .int (0 : Int32), .int (0 : Int32), .int (0 : Int32), .int (0 : Int32), .int (0 : Int32), .int (0 : Int32), .int (0 : Int32), .int (0 : Int32), .int (0 : Int32), .int (0 : Int32)]))] := ⟨hP, hD, hS⟩
  clear hP hD hS hw8
  refine lv_aload_n hx hb dX1_init_24 rfl (lv_at hl0 0 rfl) ?_
  refine lv_iconst (v := (0 : Int32)) hx hb dX1_init_25 (by decide) ?_
  refine va_put (D := G) (ci := 1) (v := .int (0 : Int32)) (ty := .int) (C := RX1) (T := TX1) (N := 13) hx hb htc iX1 tyX1 tyX1_ok nmX1 hown hK hw11.1 hw11.2.1 hw11.2.2 0 rfl rfl 7 (by decide) (htc _ mw_268) (fun _ h9 => h9) rfl (tyX1_ok 7 (by decide)) rfl rfl (Nat.le_of_ble_eq_true rfl) dX1_init_26 (fun H13 lc15 hP hD hS => ?_)
  have hw14 : wS G A s H13 lc15 [(a0, .inr (1, [.null, .null, .null, .int (0 : Int32), .int (0 : Int32), .int (0 : Int32), .int (0 : Int32), .int (0 : Int32), .int (0 : Int32), .int (0 : Int32), .int (0 : Int32), .int (0 : Int32), .int (0 : Int32)]))] := ⟨hP, hD, hS⟩
  clear hP hD hS hw11
  refine lv_aload_n hx hb dX1_init_29 rfl (lv_at hl0 0 rfl) ?_
  refine lv_iconst (v := (0 : Int32)) hx hb dX1_init_30 (by decide) ?_
  refine va_put (D := G) (ci := 1) (v := .int (0 : Int32)) (ty := .int) (C := RX1) (T := TX1) (N := 13) hx hb htc iX1 tyX1 tyX1_ok nmX1 hown hK hw14.1 hw14.2.1 hw14.2.2 0 rfl rfl 8 (by decide) (htc _ mw_269) (fun _ h9 => h9) rfl (tyX1_ok 8 (by decide)) rfl rfl (Nat.le_of_ble_eq_true rfl) dX1_init_31 (fun H16 lc18 hP hD hS => ?_)
  have hw17 : wS G A s H16 lc18 [(a0, .inr (1, [.null, .null, .null, .int (0 : Int32), .int (0 : Int32), .int (0 : Int32), .int (0 : Int32), .int (0 : Int32), .int (0 : Int32), .int (0 : Int32), .int (0 : Int32), .int (0 : Int32), .int (0 : Int32)]))] := ⟨hP, hD, hS⟩
  clear hP hD hS hw14
  refine lv_aload_n hx hb dX1_init_34 rfl (lv_at hl0 0 rfl) ?_
  refine lv_iconst (v := (0 : Int32)) hx hb dX1_init_35 (by decide) ?_
  refine va_put (D := G) (ci := 1) (v := .int (0 : Int32)) (ty := .int) (C := RX1) (T := TX1) (N := 13) hx hb htc iX1 tyX1 tyX1_ok nmX1 hown hK hw17.1 hw17.2.1 hw17.2.2 0 rfl rfl 9 (by decide) (htc _ mw_270) (fun _ h9 => h9) rfl (tyX1_ok 9 (by decide)) rfl rfl (Nat.le_of_ble_eq_true rfl) dX1_init_36 (fun H19 lc21 hP hD hS => ?_)
  have hw20 : wS G A s H19 lc21 [(a0, .inr (1, [.null, .null, .null, .int (0 : Int32), .int (0 : Int32), .int (0 : Int32), .int (0 : Int32), .int (0 : Int32), .int (0 : Int32), .int (0 : Int32), .int (0 : Int32), .int (0 : Int32), .int (0 : Int32)]))] := ⟨hP, hD, hS⟩
  clear hP hD hS hw17
  refine lv_aload_n hx hb dX1_init_39 rfl (lv_at hl0 0 rfl) ?_
  refine lv_iconst (v := (0 : Int32)) hx hb dX1_init_40 (by decide) ?_
  refine va_put (D := G) (ci := 1) (v := .int (0 : Int32)) (ty := .int) (C := RX1) (T := TX1) (N := 13) hx hb htc iX1 tyX1 tyX1_ok nmX1 hown hK hw20.1 hw20.2.1 hw20.2.2 0 rfl rfl 10 (by decide) (htc _ mw_271) (fun _ h9 => h9) rfl (tyX1_ok 10 (by decide)) rfl rfl (Nat.le_of_ble_eq_true rfl) dX1_init_41 (fun H22 lc24 hP hD hS => ?_)
  have hw23 : wS G A s H22 lc24 [(a0, .inr (1, [.null, .null, .null, .int (0 : Int32), .int (0 : Int32), .int (0 : Int32), .int (0 : Int32), .int (0 : Int32), .int (0 : Int32), .int (0 : Int32), .int (0 : Int32), .int (0 : Int32), .int (0 : Int32)]))] := ⟨hP, hD, hS⟩
  clear hP hD hS hw20
  refine lv_aload_n hx hb dX1_init_44 rfl (lv_at hl0 0 rfl) ?_
  refine lv_iconst (v := (0 : Int32)) hx hb dX1_init_45 (by decide) ?_
  refine va_put (D := G) (ci := 1) (v := .int (0 : Int32)) (ty := .int) (C := RX1) (T := TX1) (N := 13) hx hb htc iX1 tyX1 tyX1_ok nmX1 hown hK hw23.1 hw23.2.1 hw23.2.2 0 rfl rfl 11 (by decide) (htc _ mw_272) (fun _ h9 => h9) rfl (tyX1_ok 11 (by decide)) rfl rfl (Nat.le_of_ble_eq_true rfl) dX1_init_46 (fun H25 lc27 hP hD hS => ?_)
  have hw26 : wS G A s H25 lc27 [(a0, .inr (1, [.null, .null, .null, .int (0 : Int32), .int (0 : Int32), .int (0 : Int32), .int (0 : Int32), .int (0 : Int32), .int (0 : Int32), .int (0 : Int32), .int (0 : Int32), .int (0 : Int32), .int (0 : Int32)]))] := ⟨hP, hD, hS⟩
  clear hP hD hS hw23
  refine lv_aload_n hx hb dX1_init_49 rfl (lv_at hl0 0 rfl) ?_
  refine lv_iconst (v := (0 : Int32)) hx hb dX1_init_50 (by decide) ?_
  refine va_put (D := G) (ci := 1) (v := .int (0 : Int32)) (ty := .int) (C := RX1) (T := TX1) (N := 13) hx hb htc iX1 tyX1 tyX1_ok nmX1 hown hK hw26.1 hw26.2.1 hw26.2.2 0 rfl rfl 12 (by decide) (htc _ mw_274) (fun _ h9 => h9) rfl (tyX1_ok 12 (by decide)) rfl rfl (Nat.le_of_ble_eq_true rfl) dX1_init_51 (fun H28 lc30 hP hD hS => ?_)
  have hw29 : wS G A s H28 lc30 [(a0, .inr (1, [.null, .null, .null, .int (0 : Int32), .int (0 : Int32), .int (0 : Int32), .int (0 : Int32), .int (0 : Int32), .int (0 : Int32), .int (0 : Int32), .int (0 : Int32), .int (0 : Int32), .int (0 : Int32)]))] := ⟨hP, hD, hS⟩
  clear hP hD hS hw26
  refine lv_aload_n hx hb dX1_init_54 rfl (lv_at hl0 0 rfl) ?_
  refine lv_aload_n hx hb dX1_init_55 rfl (lv_at hl0 2 rfl) ?_
  refine va_putF (D := G) (ci := 1) (v := .ref b2) (ty := (.object "PointLedger$Index")) (C := RX1) (T := TX1) (N := 13) hx hb htc iX1 tyX1 tyX1_ok nmX1 hown hK hw29.1 hw29.2.1 hw29.2.2 0 rfl rfl 0 (by decide) (htc _ mw_261) (fun _ h9 => h9) rfl hin rfl (tyX1_ok 0 (by decide)) rfl rfl (Nat.le_of_ble_eq_true rfl) dX1_init_56 (fun H31 lc33 hP hD hS => ?_)
  have hw32 : wS G A s H31 lc33 [(a0, .inr (1, [.ref b2, .null, .null, .int (0 : Int32), .int (0 : Int32), .int (0 : Int32), .int (0 : Int32), .int (0 : Int32), .int (0 : Int32), .int (0 : Int32), .int (0 : Int32), .int (0 : Int32), .int (0 : Int32)]))] := ⟨hP, hD, hS⟩
  clear hP hD hS hw29
  refine lv_aload_n hx hb dX1_init_59 rfl (lv_at hl0 0 rfl) ?_
  refine lv_aload_n hx hb dX1_init_60 rfl (lv_at hl0 3 rfl) ?_
  refine va_putF (D := G) (ci := 1) (v := .ref b3) (ty := (.object "PointLedger$Log")) (C := RX1) (T := TX1) (N := 13) hx hb htc iX1 tyX1 tyX1_ok nmX1 hown hK hw32.1 hw32.2.1 hw32.2.2 0 rfl rfl 1 (by decide) (htc _ mw_262) (fun _ h9 => h9) rfl hin rfl (tyX1_ok 1 (by decide)) rfl rfl (Nat.le_of_ble_eq_true rfl) dX1_init_61 (fun H34 lc36 hP hD hS => ?_)
  have hw35 : wS G A s H34 lc36 [(a0, .inr (1, [.ref b2, .ref b3, .null, .int (0 : Int32), .int (0 : Int32), .int (0 : Int32), .int (0 : Int32), .int (0 : Int32), .int (0 : Int32), .int (0 : Int32), .int (0 : Int32), .int (0 : Int32), .int (0 : Int32)]))] := ⟨hP, hD, hS⟩
  clear hP hD hS hw32
  refine lv_aload_n hx hb dX1_init_64 rfl (lv_at hl0 0 rfl) ?_
  refine va_new (D := G) (ci := 8) (fs := [.null, .int (0 : Int32), .int (0 : Int32), .int (0 : Int32), .int (0 : Int32), .int (0 : Int32), .long (0 : Int64)]) (C := RX8) (T := TX8) (N := 7) hx hb htc iX8 tyX8 tyX8_ok hown (htc _ mw_259) (htc _ mw_80) (htc _ mw_6) hK hw35.1 hw35.2.1 hw35.2.2 hA rfl (fun j hj => by rcases (show j = 0 ∨ j = 1 ∨ j = 2 ∨ j = 3 ∨ j = 4 ∨ j = 5 ∨ j = 6 by omega) with rfl | rfl | rfl | rfl | rfl | rfl | rfl <;> rfl) (Nat.le_of_ble_eq_true rfl) (Nat.le_of_ble_eq_true rfl) dX1_init_65 (fun q37 H38 hP hD hS => ?_)
  have hw39 : wS G A s H38 _ [(a0, .inr (1, [.ref b2, .ref b3, .null, .int (0 : Int32), .int (0 : Int32), .int (0 : Int32), .int (0 : Int32), .int (0 : Int32), .int (0 : Int32), .int (0 : Int32), .int (0 : Int32), .int (0 : Int32), .int (0 : Int32)])), (q37, .inr (8, [.null, .int (0 : Int32), .int (0 : Int32), .int (0 : Int32), .int (0 : Int32), .int (0 : Int32), .long (0 : Int64)]))] := ⟨hP, hD, hS⟩
  clear hP hD hS
  refine lv_dup hx hb dX1_init_68 rfl ?_
  refine lv_aload_n hx hb dX1_init_69 rfl (lv_at hl0 1 rfl) ?_
  refine ntI (a := q37) (As := [.ref b1]) (rest := [.ref q37, .ref a0]) (wc := [(q37, .inr (8, [.null, .int (0 : Int32), .int (0 : Int32), .int (0 : Int32), .int (0 : Int32), .int (0 : Int32), .long (0 : Int64)]))]) (wr := [(a0, .inr (1, [.ref b2, .ref b3, .null, .int (0 : Int32), .int (0 : Int32), .int (0 : Int32), .int (0 : Int32), .int (0 : Int32), .int (0 : Int32), .int (0 : Int32), .int (0 : Int32), .int (0 : Int32), .int (0 : Int32)]))]) hx hb hml hown htc hN (n_X8_init l G cI cZ cJ q37 b1) mw_260 mw_82 mw_6 mw_83 rfl hi_X8_init ⟨rfl, rfl⟩ ⟨Nat.le_of_ble_eq_true rfl, Nat.le_of_ble_eq_true rfl⟩ hK hw39 hA [1] [0] rfl rfl rfl rfl rfl (by decide) rfl hl0.1 rfl (Nat.le_of_ble_eq_true rfl) dX1_init_70 ⟨Nat.le_of_ble_eq_true rfl, Nat.le_of_ble_eq_true rfl⟩ (fun w9 hp9 H40 lc41 hw42 => ?_)
  obtain rfl := hp9
  replace hw42 : wS G A s H40 lc41 [(a0, .inr (1, [.ref b2, .ref b3, .null, .int (0 : Int32), .int (0 : Int32), .int (0 : Int32), .int (0 : Int32), .int (0 : Int32), .int (0 : Int32), .int (0 : Int32), .int (0 : Int32), .int (0 : Int32), .int (0 : Int32)])), (q37, .inr (8, [.ref b1, .int (0 : Int32), .int (0 : Int32), .int (0 : Int32), .int (0 : Int32), .int (0 : Int32), .long (0 : Int64)]))] := hw42
  refine va_putF (D := G) (ci := 1) (v := .ref q37) (ty := (.object "PointLedger$Unpacker")) (C := RX1) (T := TX1) (N := 13) hx hb htc iX1 tyX1 tyX1_ok nmX1 hown hK hw42.1 hw42.2.1 hw42.2.2 0 rfl rfl 2 (by decide) (htc _ mw_263) (fun _ h9 => h9) rfl hin rfl (tyX1_ok 2 (by decide)) rfl rfl (Nat.le_of_ble_eq_true rfl) dX1_init_73 (fun H43 lc45 hP hD hS => ?_)
  have hw44 : wS G A s H43 lc45 [(a0, .inr (1, [.ref b2, .ref b3, .ref q37, .int (0 : Int32), .int (0 : Int32), .int (0 : Int32), .int (0 : Int32), .int (0 : Int32), .int (0 : Int32), .int (0 : Int32), .int (0 : Int32), .int (0 : Int32), .int (0 : Int32)])), (q37, .inr (8, [.ref b1, .int (0 : Int32), .int (0 : Int32), .int (0 : Int32), .int (0 : Int32), .int (0 : Int32), .long (0 : Int64)]))] := ⟨hP, hD, hS⟩
  clear hP hD hS hw42
  rw [hQQ]
  exact et_vret hx hb hr hlocks hw44 ⟨q37, rfl⟩ dX1_init_76
abbrev rm_X9_init : Room := { frames := 3, cells := 17, slots := 8553, locals := 64 }
theorem hi_X9_init : yX9_init.cls ≠ "java/lang/invoke/MethodHandle" ∧ yX9_init.cls ≠ "java/lang/invoke/VarHandle" ∧ (parseMethodDescriptor yX9_init.desc).map (fun d => d.parameters.length) = some 3 := by decide +kernel
set_option maxHeartbeats 4000000 in
set_option maxRecDepth 100000 in
theorem n_X9_init (l : Launch) (G : va_G) (cI cZ cJ : ClassId) (a0 : Nat) (p1 : Int32) (p2 : Int32) (p3 : Int32) {r4 : Int32} (hm5 : m_X9_nearest p1 (1 : Int32) (8 : Int32) = some r4) {r12 : Int32} (hm13 : m_X9_nearest p2 (2 : Int32) (64 : Int32) = some r12) {r20 : Int32} (hm21 : m_X9_nearest p3 (2 : Int32) (8 : Int32) = some r20) : NT l yX9_init cX9_init 4 rm_X9_init G (tyC cI cZ cJ) [.ref a0, .int p1, .int p2, .int p3] [(a0, .inr (9, [.int (0 : Int32), .int (0 : Int32), .int (0 : Int32), .null, .null, .null, .null, .null, .null, .null, .int (0 : Int32)]))] 17 8553 (fun w => ∃ q28 q31 q38 q47 q56 q65 q68 q69 q70 q71 q72 q73 q80 q83 q84 q91 q94 : Nat, w = [(a0, .inr (9, [.int r4, .int r12, .int r20, .ref q28, .ref q38, .ref q47, .ref q56, .ref q65, .ref q80, .ref q91, .int (0 : Int32)])), (q28, .inr (2, [.ref q31, .int (0 : Int32), .int (-1 : Int32), .int (0 : Int32)])), rI q31 cI 4096 (fun _ => 0), (q38, .inr (3, [.ref q28])), (q47, .inr (4, [.ref q28, .int (0 : Int32)])), (q56, .inr (8, [.ref q28, .int (0 : Int32), .int (0 : Int32), .int (0 : Int32), .int (0 : Int32), .int (0 : Int32), .long (0 : Int64)])), (q65, .inr (7, [.ref q28, .ref q38, .ref q68, .ref q70, .ref q71, .ref q72, .ref q73, .int (0 : Int32), .int (0 : Int32), .int (0 : Int32), .int (0 : Int32)])), (q68, .inr (5, [.ref q69, .int (0 : Int32), .int (0 : Int32), .int (0 : Int32), .int (0 : Int32), .int (0 : Int32), .long (0 : Int64)])), rI q69 cI 1661 (fun _ => 0), (q70, .inr (6, [.int (0 : Int32), .int (0 : Int32), .int (0 : Int32), .int (0 : Int32), .int (0 : Int32), .long (0 : Int64)])), rI q71 cI 961 (fun _ => 0), rI q72 cI 96 (fun _ => 0), rI q73 cZ 1661 (fun _ => 0), (q80, .inr (0, [.ref q38, .ref q47, .ref q56, .int r20, .ref q83, .ref q84, .int (0 : Int32), .int (0 : Int32)])), (q83, .inr (6, [.int (0 : Int32), .int (0 : Int32), .int (0 : Int32), .int (0 : Int32), .int (0 : Int32), .long (0 : Int64)])), (q84, .inr (6, [.int (0 : Int32), .int (0 : Int32), .int (0 : Int32), .int (0 : Int32), .int (0 : Int32), .long (0 : Int64)])), (q91, .inr (1, [.ref q38, .ref q47, .ref q94, .int (0 : Int32), .int (0 : Int32), .int (0 : Int32), .int (0 : Int32), .int (0 : Int32), .int (0 : Int32), .int (0 : Int32), .int (0 : Int32), .int (0 : Int32), .int (0 : Int32)])), (q94, .inr (8, [.ref q28, .int (0 : Int32), .int (0 : Int32), .int (0 : Int32), .int (0 : Int32), .int (0 : Int32), .long (0 : Int64)]))]) := by
  refine NT.ofW (lvl := [(0, .ref a0), (1, .int p1), (2, .int p2), (3, .int p3)]) (by decide) (Nat.le_of_ble_eq_true rfl) rfl ?_
  intro p e s m args below meth c A ls0 QQ hQQ hin hx hb hml hr hlocks htc hN hown hK hA hw0 hl0
  refine lv_aload_n hx hb dX9_init_0 rfl (lv_at hl0 0 rfl) ?_
  refine W.objInit hx hb hown (htc _ mw_24) (htc _ mw_25) (htc _ mw_26) rfl (by rw [hml]; exact hl0.1) rfl dX9_init_1 (Nat.le_of_ble_eq_true rfl) (Nat.le_of_ble_eq_true rfl) ?_
  refine lv_aload_n hx hb dX9_init_4 rfl (lv_at hl0 0 rfl) ?_
  refine lv_iconst (v := (0 : Int32)) hx hb dX9_init_5 (by decide) ?_
  refine va_put (D := G) (ci := 9) (v := .int (0 : Int32)) (ty := .int) (C := RX9) (T := TX9) (N := 11) hx hb htc iX9 tyX9 tyX9_ok nmX9 hown hK hw0.1 hw0.2.1 hw0.2.2 0 rfl rfl 10 (by decide) (htc _ mw_313) (fun _ h9 => h9) rfl (tyX9_ok 10 (by decide)) rfl rfl (Nat.le_of_ble_eq_true rfl) dX9_init_6 (fun H1 lc3 hP hD hS => ?_)
  have hw2 : wS G A s H1 lc3 [(a0, .inr (9, [.int (0 : Int32), .int (0 : Int32), .int (0 : Int32), .null, .null, .null, .null, .null, .null, .null, .int (0 : Int32)]))] := ⟨hP, hD, hS⟩
  clear hP hD hS hw0
  refine lv_aload_n hx hb dX9_init_9 rfl (lv_at hl0 0 rfl) ?_
  refine lv_iload_n hx hb dX9_init_10 rfl (lv_at hl0 1 rfl) ?_
  refine lv_iconst (v := (1 : Int32)) hx hb dX9_init_11 (by decide) ?_
  refine lv_bipush (v := (8 : Int32)) hx hb dX9_init_12 (by decide) ?_
  refine ctS (As := [.int p1, .int (1 : Int32), .int (8 : Int32)]) (rest := [.ref a0]) (st1 := [.int r4, .ref a0]) (wc := []) (w1 := []) (wr := [(a0, .inr (9, [.int (0 : Int32), .int (0 : Int32), .int (0 : Int32), .null, .null, .null, .null, .null, .null, .null, .int (0 : Int32)]))]) (wb := [(a0, .inr (9, [.int (0 : Int32), .int (0 : Int32), .int (0 : Int32), .null, .null, .null, .null, .null, .null, .null, .int (0 : Int32)]))]) (v := (some (.int r4))) hx hb hml hown htc hN (c_X9_nearest l G cI cZ cJ p1 (1 : Int32) (8 : Int32) hm5) mw_27 mw_28 mw_1 mw_29 hs_X9_nearest ⟨rfl, rfl⟩ ⟨Nat.le_of_ble_eq_true rfl, Nat.le_of_ble_eq_true rfl⟩ hK hw2 hA [] [0] [0] rfl rfl rfl rfl rfl (by decide) rfl rfl rfl rfl hl0.1 rfl rfl (Nat.le_of_ble_eq_true rfl) dX9_init_14 ⟨Nat.le_of_ble_eq_true rfl, Nat.le_of_ble_eq_true rfl⟩ (fun H6 lc7 hw8 => ?_)
  refine va_putF (D := G) (ci := 9) (v := .int r4) (ty := .int) (C := RX9) (T := TX9) (N := 11) hx hb htc iX9 tyX9 tyX9_ok nmX9 hown hK hw8.1 hw8.2.1 hw8.2.2 0 rfl rfl 0 (by decide) (htc _ mw_303) (fun _ h9 => h9) rfl hin rfl (tyX9_ok 0 (by decide)) rfl rfl (Nat.le_of_ble_eq_true rfl) dX9_init_17 (fun H9 lc11 hP hD hS => ?_)
  have hw10 : wS G A s H9 lc11 [(a0, .inr (9, [.int r4, .int (0 : Int32), .int (0 : Int32), .null, .null, .null, .null, .null, .null, .null, .int (0 : Int32)]))] := ⟨hP, hD, hS⟩
  clear hP hD hS hw8
  refine lv_aload_n hx hb dX9_init_20 rfl (lv_at hl0 0 rfl) ?_
  refine lv_iload_n hx hb dX9_init_21 rfl (lv_at hl0 2 rfl) ?_
  refine lv_iconst (v := (2 : Int32)) hx hb dX9_init_22 (by decide) ?_
  refine lv_bipush (v := (64 : Int32)) hx hb dX9_init_23 (by decide) ?_
  refine ctS (As := [.int p2, .int (2 : Int32), .int (64 : Int32)]) (rest := [.ref a0]) (st1 := [.int r12, .ref a0]) (wc := []) (w1 := []) (wr := [(a0, .inr (9, [.int r4, .int (0 : Int32), .int (0 : Int32), .null, .null, .null, .null, .null, .null, .null, .int (0 : Int32)]))]) (wb := [(a0, .inr (9, [.int r4, .int (0 : Int32), .int (0 : Int32), .null, .null, .null, .null, .null, .null, .null, .int (0 : Int32)]))]) (v := (some (.int r12))) hx hb hml hown htc hN (c_X9_nearest l G cI cZ cJ p2 (2 : Int32) (64 : Int32) hm13) mw_27 mw_28 mw_1 mw_29 hs_X9_nearest ⟨rfl, rfl⟩ ⟨Nat.le_of_ble_eq_true rfl, Nat.le_of_ble_eq_true rfl⟩ hK hw10 hA [] [0] [0] rfl rfl rfl rfl rfl (by decide) rfl rfl rfl rfl hl0.1 rfl rfl (Nat.le_of_ble_eq_true rfl) dX9_init_25 ⟨Nat.le_of_ble_eq_true rfl, Nat.le_of_ble_eq_true rfl⟩ (fun H14 lc15 hw16 => ?_)
  refine va_putF (D := G) (ci := 9) (v := .int r12) (ty := .int) (C := RX9) (T := TX9) (N := 11) hx hb htc iX9 tyX9 tyX9_ok nmX9 hown hK hw16.1 hw16.2.1 hw16.2.2 0 rfl rfl 1 (by decide) (htc _ mw_304) (fun _ h9 => h9) rfl hin rfl (tyX9_ok 1 (by decide)) rfl rfl (Nat.le_of_ble_eq_true rfl) dX9_init_28 (fun H17 lc19 hP hD hS => ?_)
  have hw18 : wS G A s H17 lc19 [(a0, .inr (9, [.int r4, .int r12, .int (0 : Int32), .null, .null, .null, .null, .null, .null, .null, .int (0 : Int32)]))] := ⟨hP, hD, hS⟩
  clear hP hD hS hw16
  refine lv_aload_n hx hb dX9_init_31 rfl (lv_at hl0 0 rfl) ?_
  refine lv_iload_n hx hb dX9_init_32 rfl (lv_at hl0 3 rfl) ?_
  refine lv_iconst (v := (2 : Int32)) hx hb dX9_init_33 (by decide) ?_
  refine lv_bipush (v := (8 : Int32)) hx hb dX9_init_34 (by decide) ?_
  refine ctS (As := [.int p3, .int (2 : Int32), .int (8 : Int32)]) (rest := [.ref a0]) (st1 := [.int r20, .ref a0]) (wc := []) (w1 := []) (wr := [(a0, .inr (9, [.int r4, .int r12, .int (0 : Int32), .null, .null, .null, .null, .null, .null, .null, .int (0 : Int32)]))]) (wb := [(a0, .inr (9, [.int r4, .int r12, .int (0 : Int32), .null, .null, .null, .null, .null, .null, .null, .int (0 : Int32)]))]) (v := (some (.int r20))) hx hb hml hown htc hN (c_X9_nearest l G cI cZ cJ p3 (2 : Int32) (8 : Int32) hm21) mw_27 mw_28 mw_1 mw_29 hs_X9_nearest ⟨rfl, rfl⟩ ⟨Nat.le_of_ble_eq_true rfl, Nat.le_of_ble_eq_true rfl⟩ hK hw18 hA [] [0] [0] rfl rfl rfl rfl rfl (by decide) rfl rfl rfl rfl hl0.1 rfl rfl (Nat.le_of_ble_eq_true rfl) dX9_init_36 ⟨Nat.le_of_ble_eq_true rfl, Nat.le_of_ble_eq_true rfl⟩ (fun H22 lc23 hw24 => ?_)
  refine va_putF (D := G) (ci := 9) (v := .int r20) (ty := .int) (C := RX9) (T := TX9) (N := 11) hx hb htc iX9 tyX9 tyX9_ok nmX9 hown hK hw24.1 hw24.2.1 hw24.2.2 0 rfl rfl 2 (by decide) (htc _ mw_305) (fun _ h9 => h9) rfl hin rfl (tyX9_ok 2 (by decide)) rfl rfl (Nat.le_of_ble_eq_true rfl) dX9_init_39 (fun H25 lc27 hP hD hS => ?_)
  have hw26 : wS G A s H25 lc27 [(a0, .inr (9, [.int r4, .int r12, .int r20, .null, .null, .null, .null, .null, .null, .null, .int (0 : Int32)]))] := ⟨hP, hD, hS⟩
  clear hP hD hS hw24
  refine lv_aload_n hx hb dX9_init_42 rfl (lv_at hl0 0 rfl) ?_
  refine va_new (D := G) (ci := 2) (fs := [.null, .int (0 : Int32), .int (0 : Int32), .int (0 : Int32)]) (C := RX2) (T := TX2) (N := 4) hx hb htc iX2 tyX2 tyX2_ok hown (htc _ mw_36) (htc _ mw_37) (htc _ mw_3) hK hw26.1 hw26.2.1 hw26.2.2 hA rfl (fun j hj => by rcases (show j = 0 ∨ j = 1 ∨ j = 2 ∨ j = 3 by omega) with rfl | rfl | rfl | rfl <;> rfl) (Nat.le_of_ble_eq_true rfl) (Nat.le_of_ble_eq_true rfl) dX9_init_43 (fun q28 H29 hP hD hS => ?_)
  have hw30 : wS G A s H29 _ [(a0, .inr (9, [.int r4, .int r12, .int r20, .null, .null, .null, .null, .null, .null, .null, .int (0 : Int32)])), (q28, .inr (2, [.null, .int (0 : Int32), .int (0 : Int32), .int (0 : Int32)]))] := ⟨hP, hD, hS⟩
  clear hP hD hS
  refine lv_dup hx hb dX9_init_46 rfl ?_
  refine ntIN (a := q28) (As := []) (rest := [.ref q28, .ref a0]) (wc := [(q28, .inr (2, [.null, .int (0 : Int32), .int (0 : Int32), .int (0 : Int32)]))]) (wr := [(a0, .inr (9, [.int r4, .int r12, .int r20, .null, .null, .null, .null, .null, .null, .null, .int (0 : Int32)]))]) hx hb hml hown htc hN (n_X2_init l G cI cZ cJ q28 ) (hN _ mn_0) mw_39 mw_3 mw_40 rfl hi_X2_init ⟨rfl, rfl⟩ ⟨Nat.le_of_ble_eq_true rfl, Nat.le_of_ble_eq_true rfl⟩ hK hw30 hA [1] [0] rfl rfl rfl rfl rfl (by decide) rfl hl0.1 rfl (Nat.le_of_ble_eq_true rfl) dX9_init_47 ⟨Nat.le_of_ble_eq_true rfl, Nat.le_of_ble_eq_true rfl⟩ (fun w9 hp9 H32 lc33 hw34 => ?_)
  obtain ⟨q31, rfl⟩ := hp9
  replace hw34 : wS G A s H32 lc33 [(a0, .inr (9, [.int r4, .int r12, .int r20, .null, .null, .null, .null, .null, .null, .null, .int (0 : Int32)])), (q28, .inr (2, [.ref q31, .int (0 : Int32), .int (-1 : Int32), .int (0 : Int32)])), rI q31 cI 4096 (fun _ => 0)] := hw34
  refine va_putF (D := G) (ci := 9) (v := .ref q28) (ty := (.object "PointLedger$Disk")) (C := RX9) (T := TX9) (N := 11) hx hb htc iX9 tyX9 tyX9_ok nmX9 hown hK hw34.1 hw34.2.1 hw34.2.2 0 rfl rfl 3 (by decide) (htc _ mw_306) (fun _ h9 => h9) rfl hin rfl (tyX9_ok 3 (by decide)) rfl rfl (Nat.le_of_ble_eq_true rfl) dX9_init_50 (fun H35 lc37 hP hD hS => ?_)
  have hw36 : wS G A s H35 lc37 [(a0, .inr (9, [.int r4, .int r12, .int r20, .ref q28, .null, .null, .null, .null, .null, .null, .int (0 : Int32)])), (q28, .inr (2, [.ref q31, .int (0 : Int32), .int (-1 : Int32), .int (0 : Int32)])), rI q31 cI 4096 (fun _ => 0)] := ⟨hP, hD, hS⟩
  clear hP hD hS hw34
  refine lv_aload_n hx hb dX9_init_53 rfl (lv_at hl0 0 rfl) ?_
  refine va_new (D := G) (ci := 3) (fs := [.null]) (C := RX3) (T := TX3) (N := 1) hx hb htc iX3 tyX3 tyX3_ok hown (htc _ mw_56) (htc _ mw_57) (htc _ mw_4) hK hw36.1 hw36.2.1 hw36.2.2 hA rfl (fun j hj => by rcases (show j = 0 by omega) with rfl <;> rfl) (Nat.le_of_ble_eq_true rfl) (Nat.le_of_ble_eq_true rfl) dX9_init_54 (fun q38 H39 hP hD hS => ?_)
  have hw40 : wS G A s H39 _ [(a0, .inr (9, [.int r4, .int r12, .int r20, .ref q28, .null, .null, .null, .null, .null, .null, .int (0 : Int32)])), (q28, .inr (2, [.ref q31, .int (0 : Int32), .int (-1 : Int32), .int (0 : Int32)])), rI q31 cI 4096 (fun _ => 0), (q38, .inr (3, [.null]))] := ⟨hP, hD, hS⟩
  clear hP hD hS
  refine lv_dup hx hb dX9_init_57 rfl ?_
  refine lv_aload_n hx hb dX9_init_58 rfl (lv_at hl0 0 rfl) ?_
  refine va_get (D := G) (ci := 9) (v := .ref q28) (C := RX9) (T := TX9) (N := 11) hx hb htc iX9 hown hK hw40.1 0 rfl rfl 3 (by decide) (htc _ mw_306) (fun _ h9 => h9) rfl dX9_init_59 ?_
  refine ntI (a := q38) (As := [.ref q28]) (rest := [.ref q38, .ref a0]) (wc := [(q38, .inr (3, [.null]))]) (wr := [(a0, .inr (9, [.int r4, .int r12, .int r20, .ref q28, .null, .null, .null, .null, .null, .null, .int (0 : Int32)])), (q28, .inr (2, [.ref q31, .int (0 : Int32), .int (-1 : Int32), .int (0 : Int32)])), rI q31 cI 4096 (fun _ => 0)]) hx hb hml hown htc hN (n_X3_init l G cI cZ cJ q38 q28) mw_58 mw_59 mw_4 mw_60 rfl hi_X3_init ⟨rfl, rfl⟩ ⟨Nat.le_of_ble_eq_true rfl, Nat.le_of_ble_eq_true rfl⟩ hK hw40 hA [3] [0, 1, 2] rfl rfl rfl rfl rfl (by decide) rfl hl0.1 rfl (Nat.le_of_ble_eq_true rfl) dX9_init_62 ⟨Nat.le_of_ble_eq_true rfl, Nat.le_of_ble_eq_true rfl⟩ (fun w9 hp9 H41 lc42 hw43 => ?_)
  obtain rfl := hp9
  replace hw43 : wS G A s H41 lc42 [(a0, .inr (9, [.int r4, .int r12, .int r20, .ref q28, .null, .null, .null, .null, .null, .null, .int (0 : Int32)])), (q28, .inr (2, [.ref q31, .int (0 : Int32), .int (-1 : Int32), .int (0 : Int32)])), rI q31 cI 4096 (fun _ => 0), (q38, .inr (3, [.ref q28]))] := hw43
  refine va_putF (D := G) (ci := 9) (v := .ref q38) (ty := (.object "PointLedger$Index")) (C := RX9) (T := TX9) (N := 11) hx hb htc iX9 tyX9 tyX9_ok nmX9 hown hK hw43.1 hw43.2.1 hw43.2.2 0 rfl rfl 4 (by decide) (htc _ mw_307) (fun _ h9 => h9) rfl hin rfl (tyX9_ok 4 (by decide)) rfl rfl (Nat.le_of_ble_eq_true rfl) dX9_init_65 (fun H44 lc46 hP hD hS => ?_)
  have hw45 : wS G A s H44 lc46 [(a0, .inr (9, [.int r4, .int r12, .int r20, .ref q28, .ref q38, .null, .null, .null, .null, .null, .int (0 : Int32)])), (q28, .inr (2, [.ref q31, .int (0 : Int32), .int (-1 : Int32), .int (0 : Int32)])), rI q31 cI 4096 (fun _ => 0), (q38, .inr (3, [.ref q28]))] := ⟨hP, hD, hS⟩
  clear hP hD hS hw43
  refine lv_aload_n hx hb dX9_init_68 rfl (lv_at hl0 0 rfl) ?_
  refine va_new (D := G) (ci := 4) (fs := [.null, .int (0 : Int32)]) (C := RX4) (T := TX4) (N := 2) hx hb htc iX4 tyX4 tyX4_ok hown (htc _ mw_66) (htc _ mw_67) (htc _ mw_5) hK hw45.1 hw45.2.1 hw45.2.2 hA rfl (fun j hj => by rcases (show j = 0 ∨ j = 1 by omega) with rfl | rfl <;> rfl) (Nat.le_of_ble_eq_true rfl) (Nat.le_of_ble_eq_true rfl) dX9_init_69 (fun q47 H48 hP hD hS => ?_)
  have hw49 : wS G A s H48 _ [(a0, .inr (9, [.int r4, .int r12, .int r20, .ref q28, .ref q38, .null, .null, .null, .null, .null, .int (0 : Int32)])), (q28, .inr (2, [.ref q31, .int (0 : Int32), .int (-1 : Int32), .int (0 : Int32)])), rI q31 cI 4096 (fun _ => 0), (q38, .inr (3, [.ref q28])), (q47, .inr (4, [.null, .int (0 : Int32)]))] := ⟨hP, hD, hS⟩
  clear hP hD hS
  refine lv_dup hx hb dX9_init_72 rfl ?_
  refine lv_aload_n hx hb dX9_init_73 rfl (lv_at hl0 0 rfl) ?_
  refine va_get (D := G) (ci := 9) (v := .ref q28) (C := RX9) (T := TX9) (N := 11) hx hb htc iX9 hown hK hw49.1 0 rfl rfl 3 (by decide) (htc _ mw_306) (fun _ h9 => h9) rfl dX9_init_74 ?_
  refine ntI (a := q47) (As := [.ref q28]) (rest := [.ref q47, .ref a0]) (wc := [(q47, .inr (4, [.null, .int (0 : Int32)]))]) (wr := [(a0, .inr (9, [.int r4, .int r12, .int r20, .ref q28, .ref q38, .null, .null, .null, .null, .null, .int (0 : Int32)])), (q28, .inr (2, [.ref q31, .int (0 : Int32), .int (-1 : Int32), .int (0 : Int32)])), rI q31 cI 4096 (fun _ => 0), (q38, .inr (3, [.ref q28]))]) hx hb hml hown htc hN (n_X4_init l G cI cZ cJ q47 q28) mw_68 mw_69 mw_5 mw_70 rfl hi_X4_init ⟨rfl, rfl⟩ ⟨Nat.le_of_ble_eq_true rfl, Nat.le_of_ble_eq_true rfl⟩ hK hw49 hA [4] [0, 1, 2, 3] rfl rfl rfl rfl rfl (by decide) rfl hl0.1 rfl (Nat.le_of_ble_eq_true rfl) dX9_init_77 ⟨Nat.le_of_ble_eq_true rfl, Nat.le_of_ble_eq_true rfl⟩ (fun w9 hp9 H50 lc51 hw52 => ?_)
  obtain rfl := hp9
  replace hw52 : wS G A s H50 lc51 [(a0, .inr (9, [.int r4, .int r12, .int r20, .ref q28, .ref q38, .null, .null, .null, .null, .null, .int (0 : Int32)])), (q28, .inr (2, [.ref q31, .int (0 : Int32), .int (-1 : Int32), .int (0 : Int32)])), rI q31 cI 4096 (fun _ => 0), (q38, .inr (3, [.ref q28])), (q47, .inr (4, [.ref q28, .int (0 : Int32)]))] := hw52
  refine va_putF (D := G) (ci := 9) (v := .ref q47) (ty := (.object "PointLedger$Log")) (C := RX9) (T := TX9) (N := 11) hx hb htc iX9 tyX9 tyX9_ok nmX9 hown hK hw52.1 hw52.2.1 hw52.2.2 0 rfl rfl 5 (by decide) (htc _ mw_308) (fun _ h9 => h9) rfl hin rfl (tyX9_ok 5 (by decide)) rfl rfl (Nat.le_of_ble_eq_true rfl) dX9_init_80 (fun H53 lc55 hP hD hS => ?_)
  have hw54 : wS G A s H53 lc55 [(a0, .inr (9, [.int r4, .int r12, .int r20, .ref q28, .ref q38, .ref q47, .null, .null, .null, .null, .int (0 : Int32)])), (q28, .inr (2, [.ref q31, .int (0 : Int32), .int (-1 : Int32), .int (0 : Int32)])), rI q31 cI 4096 (fun _ => 0), (q38, .inr (3, [.ref q28])), (q47, .inr (4, [.ref q28, .int (0 : Int32)]))] := ⟨hP, hD, hS⟩
  clear hP hD hS hw52
  refine lv_aload_n hx hb dX9_init_83 rfl (lv_at hl0 0 rfl) ?_
  refine va_new (D := G) (ci := 8) (fs := [.null, .int (0 : Int32), .int (0 : Int32), .int (0 : Int32), .int (0 : Int32), .int (0 : Int32), .long (0 : Int64)]) (C := RX8) (T := TX8) (N := 7) hx hb htc iX8 tyX8 tyX8_ok hown (htc _ mw_79) (htc _ mw_80) (htc _ mw_6) hK hw54.1 hw54.2.1 hw54.2.2 hA rfl (fun j hj => by rcases (show j = 0 ∨ j = 1 ∨ j = 2 ∨ j = 3 ∨ j = 4 ∨ j = 5 ∨ j = 6 by omega) with rfl | rfl | rfl | rfl | rfl | rfl | rfl <;> rfl) (Nat.le_of_ble_eq_true rfl) (Nat.le_of_ble_eq_true rfl) dX9_init_84 (fun q56 H57 hP hD hS => ?_)
  have hw58 : wS G A s H57 _ [(a0, .inr (9, [.int r4, .int r12, .int r20, .ref q28, .ref q38, .ref q47, .null, .null, .null, .null, .int (0 : Int32)])), (q28, .inr (2, [.ref q31, .int (0 : Int32), .int (-1 : Int32), .int (0 : Int32)])), rI q31 cI 4096 (fun _ => 0), (q38, .inr (3, [.ref q28])), (q47, .inr (4, [.ref q28, .int (0 : Int32)])), (q56, .inr (8, [.null, .int (0 : Int32), .int (0 : Int32), .int (0 : Int32), .int (0 : Int32), .int (0 : Int32), .long (0 : Int64)]))] := ⟨hP, hD, hS⟩
  clear hP hD hS
  refine lv_dup hx hb dX9_init_87 rfl ?_
  refine lv_aload_n hx hb dX9_init_88 rfl (lv_at hl0 0 rfl) ?_
  refine va_get (D := G) (ci := 9) (v := .ref q28) (C := RX9) (T := TX9) (N := 11) hx hb htc iX9 hown hK hw58.1 0 rfl rfl 3 (by decide) (htc _ mw_306) (fun _ h9 => h9) rfl dX9_init_89 ?_
  refine ntI (a := q56) (As := [.ref q28]) (rest := [.ref q56, .ref a0]) (wc := [(q56, .inr (8, [.null, .int (0 : Int32), .int (0 : Int32), .int (0 : Int32), .int (0 : Int32), .int (0 : Int32), .long (0 : Int64)]))]) (wr := [(a0, .inr (9, [.int r4, .int r12, .int r20, .ref q28, .ref q38, .ref q47, .null, .null, .null, .null, .int (0 : Int32)])), (q28, .inr (2, [.ref q31, .int (0 : Int32), .int (-1 : Int32), .int (0 : Int32)])), rI q31 cI 4096 (fun _ => 0), (q38, .inr (3, [.ref q28])), (q47, .inr (4, [.ref q28, .int (0 : Int32)]))]) hx hb hml hown htc hN (n_X8_init l G cI cZ cJ q56 q28) mw_81 mw_82 mw_6 mw_83 rfl hi_X8_init ⟨rfl, rfl⟩ ⟨Nat.le_of_ble_eq_true rfl, Nat.le_of_ble_eq_true rfl⟩ hK hw58 hA [5] [0, 1, 2, 3, 4] rfl rfl rfl rfl rfl (by decide) rfl hl0.1 rfl (Nat.le_of_ble_eq_true rfl) dX9_init_92 ⟨Nat.le_of_ble_eq_true rfl, Nat.le_of_ble_eq_true rfl⟩ (fun w9 hp9 H59 lc60 hw61 => ?_)
  obtain rfl := hp9
  replace hw61 : wS G A s H59 lc60 [(a0, .inr (9, [.int r4, .int r12, .int r20, .ref q28, .ref q38, .ref q47, .null, .null, .null, .null, .int (0 : Int32)])), (q28, .inr (2, [.ref q31, .int (0 : Int32), .int (-1 : Int32), .int (0 : Int32)])), rI q31 cI 4096 (fun _ => 0), (q38, .inr (3, [.ref q28])), (q47, .inr (4, [.ref q28, .int (0 : Int32)])), (q56, .inr (8, [.ref q28, .int (0 : Int32), .int (0 : Int32), .int (0 : Int32), .int (0 : Int32), .int (0 : Int32), .long (0 : Int64)]))] := hw61
  refine va_putF (D := G) (ci := 9) (v := .ref q56) (ty := (.object "PointLedger$Unpacker")) (C := RX9) (T := TX9) (N := 11) hx hb htc iX9 tyX9 tyX9_ok nmX9 hown hK hw61.1 hw61.2.1 hw61.2.2 0 rfl rfl 6 (by decide) (htc _ mw_309) (fun _ h9 => h9) rfl hin rfl (tyX9_ok 6 (by decide)) rfl rfl (Nat.le_of_ble_eq_true rfl) dX9_init_95 (fun H62 lc64 hP hD hS => ?_)
  have hw63 : wS G A s H62 lc64 [(a0, .inr (9, [.int r4, .int r12, .int r20, .ref q28, .ref q38, .ref q47, .ref q56, .null, .null, .null, .int (0 : Int32)])), (q28, .inr (2, [.ref q31, .int (0 : Int32), .int (-1 : Int32), .int (0 : Int32)])), rI q31 cI 4096 (fun _ => 0), (q38, .inr (3, [.ref q28])), (q47, .inr (4, [.ref q28, .int (0 : Int32)])), (q56, .inr (8, [.ref q28, .int (0 : Int32), .int (0 : Int32), .int (0 : Int32), .int (0 : Int32), .int (0 : Int32), .long (0 : Int64)]))] := ⟨hP, hD, hS⟩
  clear hP hD hS hw61
  refine lv_aload_n hx hb dX9_init_98 rfl (lv_at hl0 0 rfl) ?_
  refine va_new (D := G) (ci := 7) (fs := [.null, .null, .null, .null, .null, .null, .null, .int (0 : Int32), .int (0 : Int32), .int (0 : Int32), .int (0 : Int32)]) (C := RX7) (T := TX7) (N := 11) hx hb htc iX7 tyX7 tyX7_ok hown (htc _ mw_113) (htc _ mw_114) (htc _ mw_7) hK hw63.1 hw63.2.1 hw63.2.2 hA rfl (fun j hj => by rcases (show j = 0 ∨ j = 1 ∨ j = 2 ∨ j = 3 ∨ j = 4 ∨ j = 5 ∨ j = 6 ∨ j = 7 ∨ j = 8 ∨ j = 9 ∨ j = 10 by omega) with rfl | rfl | rfl | rfl | rfl | rfl | rfl | rfl | rfl | rfl | rfl <;> rfl) (Nat.le_of_ble_eq_true rfl) (Nat.le_of_ble_eq_true rfl) dX9_init_99 (fun q65 H66 hP hD hS => ?_)
  have hw67 : wS G A s H66 _ [(a0, .inr (9, [.int r4, .int r12, .int r20, .ref q28, .ref q38, .ref q47, .ref q56, .null, .null, .null, .int (0 : Int32)])), (q28, .inr (2, [.ref q31, .int (0 : Int32), .int (-1 : Int32), .int (0 : Int32)])), rI q31 cI 4096 (fun _ => 0), (q38, .inr (3, [.ref q28])), (q47, .inr (4, [.ref q28, .int (0 : Int32)])), (q56, .inr (8, [.ref q28, .int (0 : Int32), .int (0 : Int32), .int (0 : Int32), .int (0 : Int32), .int (0 : Int32), .long (0 : Int64)])), (q65, .inr (7, [.null, .null, .null, .null, .null, .null, .null, .int (0 : Int32), .int (0 : Int32), .int (0 : Int32), .int (0 : Int32)]))] := ⟨hP, hD, hS⟩
  clear hP hD hS
  refine lv_dup hx hb dX9_init_102 rfl ?_
  refine lv_aload_n hx hb dX9_init_103 rfl (lv_at hl0 0 rfl) ?_
  refine va_get (D := G) (ci := 9) (v := .ref q28) (C := RX9) (T := TX9) (N := 11) hx hb htc iX9 hown hK hw67.1 0 rfl rfl 3 (by decide) (htc _ mw_306) (fun _ h9 => h9) rfl dX9_init_104 ?_
  refine lv_aload_n hx hb dX9_init_107 rfl (lv_at hl0 0 rfl) ?_
  refine va_get (D := G) (ci := 9) (v := .ref q38) (C := RX9) (T := TX9) (N := 11) hx hb htc iX9 hown hK hw67.1 0 rfl rfl 4 (by decide) (htc _ mw_307) (fun _ h9 => h9) rfl dX9_init_108 ?_
  refine ntI (a := q65) (As := [.ref q28, .ref q38]) (rest := [.ref q65, .ref a0]) (wc := [(q65, .inr (7, [.null, .null, .null, .null, .null, .null, .null, .int (0 : Int32), .int (0 : Int32), .int (0 : Int32), .int (0 : Int32)]))]) (wr := [(a0, .inr (9, [.int r4, .int r12, .int r20, .ref q28, .ref q38, .ref q47, .ref q56, .null, .null, .null, .int (0 : Int32)])), (q28, .inr (2, [.ref q31, .int (0 : Int32), .int (-1 : Int32), .int (0 : Int32)])), rI q31 cI 4096 (fun _ => 0), (q38, .inr (3, [.ref q28])), (q47, .inr (4, [.ref q28, .int (0 : Int32)])), (q56, .inr (8, [.ref q28, .int (0 : Int32), .int (0 : Int32), .int (0 : Int32), .int (0 : Int32), .int (0 : Int32), .long (0 : Int64)]))]) hx hb hml hown htc hN (n_X7_init l G cI cZ cJ q65 q28 q38) mw_115 mw_116 mw_7 mw_117 rfl hi_X7_init ⟨rfl, rfl⟩ ⟨Nat.le_of_ble_eq_true rfl, Nat.le_of_ble_eq_true rfl⟩ hK hw67 hA [6] [0, 1, 2, 3, 4, 5] rfl rfl rfl rfl rfl (by decide) rfl hl0.1 rfl (Nat.le_of_ble_eq_true rfl) dX9_init_111 ⟨Nat.le_of_ble_eq_true rfl, Nat.le_of_ble_eq_true rfl⟩ (fun w9 hp9 H74 lc75 hw76 => ?_)
  obtain ⟨q68, q69, q70, q71, q72, q73, rfl⟩ := hp9
  replace hw76 : wS G A s H74 lc75 [(a0, .inr (9, [.int r4, .int r12, .int r20, .ref q28, .ref q38, .ref q47, .ref q56, .null, .null, .null, .int (0 : Int32)])), (q28, .inr (2, [.ref q31, .int (0 : Int32), .int (-1 : Int32), .int (0 : Int32)])), rI q31 cI 4096 (fun _ => 0), (q38, .inr (3, [.ref q28])), (q47, .inr (4, [.ref q28, .int (0 : Int32)])), (q56, .inr (8, [.ref q28, .int (0 : Int32), .int (0 : Int32), .int (0 : Int32), .int (0 : Int32), .int (0 : Int32), .long (0 : Int64)])), (q65, .inr (7, [.ref q28, .ref q38, .ref q68, .ref q70, .ref q71, .ref q72, .ref q73, .int (0 : Int32), .int (0 : Int32), .int (0 : Int32), .int (0 : Int32)])), (q68, .inr (5, [.ref q69, .int (0 : Int32), .int (0 : Int32), .int (0 : Int32), .int (0 : Int32), .int (0 : Int32), .long (0 : Int64)])), rI q69 cI 1661 (fun _ => 0), (q70, .inr (6, [.int (0 : Int32), .int (0 : Int32), .int (0 : Int32), .int (0 : Int32), .int (0 : Int32), .long (0 : Int64)])), rI q71 cI 961 (fun _ => 0), rI q72 cI 96 (fun _ => 0), rI q73 cZ 1661 (fun _ => 0)] := hw76
  refine va_putF (D := G) (ci := 9) (v := .ref q65) (ty := (.object "PointLedger$Turn")) (C := RX9) (T := TX9) (N := 11) hx hb htc iX9 tyX9 tyX9_ok nmX9 hown hK hw76.1 hw76.2.1 hw76.2.2 0 rfl rfl 7 (by decide) (htc _ mw_310) (fun _ h9 => h9) rfl hin rfl (tyX9_ok 7 (by decide)) rfl rfl (Nat.le_of_ble_eq_true rfl) dX9_init_114 (fun H77 lc79 hP hD hS => ?_)
  have hw78 : wS G A s H77 lc79 [(a0, .inr (9, [.int r4, .int r12, .int r20, .ref q28, .ref q38, .ref q47, .ref q56, .ref q65, .null, .null, .int (0 : Int32)])), (q28, .inr (2, [.ref q31, .int (0 : Int32), .int (-1 : Int32), .int (0 : Int32)])), rI q31 cI 4096 (fun _ => 0), (q38, .inr (3, [.ref q28])), (q47, .inr (4, [.ref q28, .int (0 : Int32)])), (q56, .inr (8, [.ref q28, .int (0 : Int32), .int (0 : Int32), .int (0 : Int32), .int (0 : Int32), .int (0 : Int32), .long (0 : Int64)])), (q65, .inr (7, [.ref q28, .ref q38, .ref q68, .ref q70, .ref q71, .ref q72, .ref q73, .int (0 : Int32), .int (0 : Int32), .int (0 : Int32), .int (0 : Int32)])), (q68, .inr (5, [.ref q69, .int (0 : Int32), .int (0 : Int32), .int (0 : Int32), .int (0 : Int32), .int (0 : Int32), .long (0 : Int64)])), rI q69 cI 1661 (fun _ => 0), (q70, .inr (6, [.int (0 : Int32), .int (0 : Int32), .int (0 : Int32), .int (0 : Int32), .int (0 : Int32), .long (0 : Int64)])), rI q71 cI 961 (fun _ => 0), rI q72 cI 96 (fun _ => 0), rI q73 cZ 1661 (fun _ => 0)] := ⟨hP, hD, hS⟩
  clear hP hD hS hw76
  refine lv_aload_n hx hb dX9_init_117 rfl (lv_at hl0 0 rfl) ?_
  refine va_new (D := G) (ci := 0) (fs := [.null, .null, .null, .int (0 : Int32), .null, .null, .int (0 : Int32), .int (0 : Int32)]) (C := RX0) (T := TX0) (N := 8) hx hb htc iX0 tyX0 tyX0_ok hown (htc _ mw_220) (htc _ mw_221) (htc _ mw_10) hK hw78.1 hw78.2.1 hw78.2.2 hA rfl (fun j hj => by rcases (show j = 0 ∨ j = 1 ∨ j = 2 ∨ j = 3 ∨ j = 4 ∨ j = 5 ∨ j = 6 ∨ j = 7 by omega) with rfl | rfl | rfl | rfl | rfl | rfl | rfl | rfl <;> rfl) (Nat.le_of_ble_eq_true rfl) (Nat.le_of_ble_eq_true rfl) dX9_init_118 (fun q80 H81 hP hD hS => ?_)
  have hw82 : wS G A s H81 _ [(a0, .inr (9, [.int r4, .int r12, .int r20, .ref q28, .ref q38, .ref q47, .ref q56, .ref q65, .null, .null, .int (0 : Int32)])), (q28, .inr (2, [.ref q31, .int (0 : Int32), .int (-1 : Int32), .int (0 : Int32)])), rI q31 cI 4096 (fun _ => 0), (q38, .inr (3, [.ref q28])), (q47, .inr (4, [.ref q28, .int (0 : Int32)])), (q56, .inr (8, [.ref q28, .int (0 : Int32), .int (0 : Int32), .int (0 : Int32), .int (0 : Int32), .int (0 : Int32), .long (0 : Int64)])), (q65, .inr (7, [.ref q28, .ref q38, .ref q68, .ref q70, .ref q71, .ref q72, .ref q73, .int (0 : Int32), .int (0 : Int32), .int (0 : Int32), .int (0 : Int32)])), (q68, .inr (5, [.ref q69, .int (0 : Int32), .int (0 : Int32), .int (0 : Int32), .int (0 : Int32), .int (0 : Int32), .long (0 : Int64)])), rI q69 cI 1661 (fun _ => 0), (q70, .inr (6, [.int (0 : Int32), .int (0 : Int32), .int (0 : Int32), .int (0 : Int32), .int (0 : Int32), .long (0 : Int64)])), rI q71 cI 961 (fun _ => 0), rI q72 cI 96 (fun _ => 0), rI q73 cZ 1661 (fun _ => 0), (q80, .inr (0, [.null, .null, .null, .int (0 : Int32), .null, .null, .int (0 : Int32), .int (0 : Int32)]))] := ⟨hP, hD, hS⟩
  clear hP hD hS
  refine lv_dup hx hb dX9_init_121 rfl ?_
  refine lv_aload_n hx hb dX9_init_122 rfl (lv_at hl0 0 rfl) ?_
  refine va_get (D := G) (ci := 9) (v := .ref q38) (C := RX9) (T := TX9) (N := 11) hx hb htc iX9 hown hK hw82.1 0 rfl rfl 4 (by decide) (htc _ mw_307) (fun _ h9 => h9) rfl dX9_init_123 ?_
  refine lv_aload_n hx hb dX9_init_126 rfl (lv_at hl0 0 rfl) ?_
  refine va_get (D := G) (ci := 9) (v := .ref q47) (C := RX9) (T := TX9) (N := 11) hx hb htc iX9 hown hK hw82.1 0 rfl rfl 5 (by decide) (htc _ mw_308) (fun _ h9 => h9) rfl dX9_init_127 ?_
  refine lv_aload_n hx hb dX9_init_130 rfl (lv_at hl0 0 rfl) ?_
  refine va_get (D := G) (ci := 9) (v := .ref q56) (C := RX9) (T := TX9) (N := 11) hx hb htc iX9 hown hK hw82.1 0 rfl rfl 6 (by decide) (htc _ mw_309) (fun _ h9 => h9) rfl dX9_init_131 ?_
  refine lv_aload_n hx hb dX9_init_134 rfl (lv_at hl0 0 rfl) ?_
  refine va_get (D := G) (ci := 9) (v := .int r20) (C := RX9) (T := TX9) (N := 11) hx hb htc iX9 hown hK hw82.1 0 rfl rfl 2 (by decide) (htc _ mw_305) (fun _ h9 => h9) rfl dX9_init_135 ?_
  refine ntI (a := q80) (As := [.ref q38, .ref q47, .ref q56, .int r20]) (rest := [.ref q80, .ref a0]) (wc := [(q80, .inr (0, [.null, .null, .null, .int (0 : Int32), .null, .null, .int (0 : Int32), .int (0 : Int32)]))]) (wr := [(a0, .inr (9, [.int r4, .int r12, .int r20, .ref q28, .ref q38, .ref q47, .ref q56, .ref q65, .null, .null, .int (0 : Int32)])), (q28, .inr (2, [.ref q31, .int (0 : Int32), .int (-1 : Int32), .int (0 : Int32)])), rI q31 cI 4096 (fun _ => 0), (q38, .inr (3, [.ref q28])), (q47, .inr (4, [.ref q28, .int (0 : Int32)])), (q56, .inr (8, [.ref q28, .int (0 : Int32), .int (0 : Int32), .int (0 : Int32), .int (0 : Int32), .int (0 : Int32), .long (0 : Int64)])), (q65, .inr (7, [.ref q28, .ref q38, .ref q68, .ref q70, .ref q71, .ref q72, .ref q73, .int (0 : Int32), .int (0 : Int32), .int (0 : Int32), .int (0 : Int32)])), (q68, .inr (5, [.ref q69, .int (0 : Int32), .int (0 : Int32), .int (0 : Int32), .int (0 : Int32), .int (0 : Int32), .long (0 : Int64)])), rI q69 cI 1661 (fun _ => 0), (q70, .inr (6, [.int (0 : Int32), .int (0 : Int32), .int (0 : Int32), .int (0 : Int32), .int (0 : Int32), .long (0 : Int64)])), rI q71 cI 961 (fun _ => 0), rI q72 cI 96 (fun _ => 0), rI q73 cZ 1661 (fun _ => 0)]) hx hb hml hown htc hN (n_X0_init l G cI cZ cJ q80 q38 q47 q56 r20) mw_222 mw_223 mw_10 mw_224 rfl hi_X0_init ⟨rfl, rfl⟩ ⟨Nat.le_of_ble_eq_true rfl, Nat.le_of_ble_eq_true rfl⟩ hK hw82 hA [13] [0, 1, 2, 3, 4, 5, 6, 7, 8, 9, 10, 11, 12] rfl rfl rfl rfl rfl (by decide) rfl hl0.1 rfl (Nat.le_of_ble_eq_true rfl) dX9_init_138 ⟨Nat.le_of_ble_eq_true rfl, Nat.le_of_ble_eq_true rfl⟩ (fun w9 hp9 H85 lc86 hw87 => ?_)
  obtain ⟨q83, q84, rfl⟩ := hp9
  replace hw87 : wS G A s H85 lc86 [(a0, .inr (9, [.int r4, .int r12, .int r20, .ref q28, .ref q38, .ref q47, .ref q56, .ref q65, .null, .null, .int (0 : Int32)])), (q28, .inr (2, [.ref q31, .int (0 : Int32), .int (-1 : Int32), .int (0 : Int32)])), rI q31 cI 4096 (fun _ => 0), (q38, .inr (3, [.ref q28])), (q47, .inr (4, [.ref q28, .int (0 : Int32)])), (q56, .inr (8, [.ref q28, .int (0 : Int32), .int (0 : Int32), .int (0 : Int32), .int (0 : Int32), .int (0 : Int32), .long (0 : Int64)])), (q65, .inr (7, [.ref q28, .ref q38, .ref q68, .ref q70, .ref q71, .ref q72, .ref q73, .int (0 : Int32), .int (0 : Int32), .int (0 : Int32), .int (0 : Int32)])), (q68, .inr (5, [.ref q69, .int (0 : Int32), .int (0 : Int32), .int (0 : Int32), .int (0 : Int32), .int (0 : Int32), .long (0 : Int64)])), rI q69 cI 1661 (fun _ => 0), (q70, .inr (6, [.int (0 : Int32), .int (0 : Int32), .int (0 : Int32), .int (0 : Int32), .int (0 : Int32), .long (0 : Int64)])), rI q71 cI 961 (fun _ => 0), rI q72 cI 96 (fun _ => 0), rI q73 cZ 1661 (fun _ => 0), (q80, .inr (0, [.ref q38, .ref q47, .ref q56, .int r20, .ref q83, .ref q84, .int (0 : Int32), .int (0 : Int32)])), (q83, .inr (6, [.int (0 : Int32), .int (0 : Int32), .int (0 : Int32), .int (0 : Int32), .int (0 : Int32), .long (0 : Int64)])), (q84, .inr (6, [.int (0 : Int32), .int (0 : Int32), .int (0 : Int32), .int (0 : Int32), .int (0 : Int32), .long (0 : Int64)]))] := hw87
  refine va_putF (D := G) (ci := 9) (v := .ref q80) (ty := (.object "PointLedger$Asking")) (C := RX9) (T := TX9) (N := 11) hx hb htc iX9 tyX9 tyX9_ok nmX9 hown hK hw87.1 hw87.2.1 hw87.2.2 0 rfl rfl 8 (by decide) (htc _ mw_311) (fun _ h9 => h9) rfl hin rfl (tyX9_ok 8 (by decide)) rfl rfl (Nat.le_of_ble_eq_true rfl) dX9_init_141 (fun H88 lc90 hP hD hS => ?_)
  have hw89 : wS G A s H88 lc90 [(a0, .inr (9, [.int r4, .int r12, .int r20, .ref q28, .ref q38, .ref q47, .ref q56, .ref q65, .ref q80, .null, .int (0 : Int32)])), (q28, .inr (2, [.ref q31, .int (0 : Int32), .int (-1 : Int32), .int (0 : Int32)])), rI q31 cI 4096 (fun _ => 0), (q38, .inr (3, [.ref q28])), (q47, .inr (4, [.ref q28, .int (0 : Int32)])), (q56, .inr (8, [.ref q28, .int (0 : Int32), .int (0 : Int32), .int (0 : Int32), .int (0 : Int32), .int (0 : Int32), .long (0 : Int64)])), (q65, .inr (7, [.ref q28, .ref q38, .ref q68, .ref q70, .ref q71, .ref q72, .ref q73, .int (0 : Int32), .int (0 : Int32), .int (0 : Int32), .int (0 : Int32)])), (q68, .inr (5, [.ref q69, .int (0 : Int32), .int (0 : Int32), .int (0 : Int32), .int (0 : Int32), .int (0 : Int32), .long (0 : Int64)])), rI q69 cI 1661 (fun _ => 0), (q70, .inr (6, [.int (0 : Int32), .int (0 : Int32), .int (0 : Int32), .int (0 : Int32), .int (0 : Int32), .long (0 : Int64)])), rI q71 cI 961 (fun _ => 0), rI q72 cI 96 (fun _ => 0), rI q73 cZ 1661 (fun _ => 0), (q80, .inr (0, [.ref q38, .ref q47, .ref q56, .int r20, .ref q83, .ref q84, .int (0 : Int32), .int (0 : Int32)])), (q83, .inr (6, [.int (0 : Int32), .int (0 : Int32), .int (0 : Int32), .int (0 : Int32), .int (0 : Int32), .long (0 : Int64)])), (q84, .inr (6, [.int (0 : Int32), .int (0 : Int32), .int (0 : Int32), .int (0 : Int32), .int (0 : Int32), .long (0 : Int64)]))] := ⟨hP, hD, hS⟩
  clear hP hD hS hw87
  refine lv_aload_n hx hb dX9_init_144 rfl (lv_at hl0 0 rfl) ?_
  refine va_new (D := G) (ci := 1) (fs := [.null, .null, .null, .int (0 : Int32), .int (0 : Int32), .int (0 : Int32), .int (0 : Int32), .int (0 : Int32), .int (0 : Int32), .int (0 : Int32), .int (0 : Int32), .int (0 : Int32), .int (0 : Int32)]) (C := RX1) (T := TX1) (N := 13) hx hb htc iX1 tyX1 tyX1_ok hown (htc _ mw_253) (htc _ mw_254) (htc _ mw_11) hK hw89.1 hw89.2.1 hw89.2.2 hA rfl (fun j hj => by rcases (show j = 0 ∨ j = 1 ∨ j = 2 ∨ j = 3 ∨ j = 4 ∨ j = 5 ∨ j = 6 ∨ j = 7 ∨ j = 8 ∨ j = 9 ∨ j = 10 ∨ j = 11 ∨ j = 12 by omega) with rfl | rfl | rfl | rfl | rfl | rfl | rfl | rfl | rfl | rfl | rfl | rfl | rfl <;> rfl) (Nat.le_of_ble_eq_true rfl) (Nat.le_of_ble_eq_true rfl) dX9_init_145 (fun q91 H92 hP hD hS => ?_)
  have hw93 : wS G A s H92 _ [(a0, .inr (9, [.int r4, .int r12, .int r20, .ref q28, .ref q38, .ref q47, .ref q56, .ref q65, .ref q80, .null, .int (0 : Int32)])), (q28, .inr (2, [.ref q31, .int (0 : Int32), .int (-1 : Int32), .int (0 : Int32)])), rI q31 cI 4096 (fun _ => 0), (q38, .inr (3, [.ref q28])), (q47, .inr (4, [.ref q28, .int (0 : Int32)])), (q56, .inr (8, [.ref q28, .int (0 : Int32), .int (0 : Int32), .int (0 : Int32), .int (0 : Int32), .int (0 : Int32), .long (0 : Int64)])), (q65, .inr (7, [.ref q28, .ref q38, .ref q68, .ref q70, .ref q71, .ref q72, .ref q73, .int (0 : Int32), .int (0 : Int32), .int (0 : Int32), .int (0 : Int32)])), (q68, .inr (5, [.ref q69, .int (0 : Int32), .int (0 : Int32), .int (0 : Int32), .int (0 : Int32), .int (0 : Int32), .long (0 : Int64)])), rI q69 cI 1661 (fun _ => 0), (q70, .inr (6, [.int (0 : Int32), .int (0 : Int32), .int (0 : Int32), .int (0 : Int32), .int (0 : Int32), .long (0 : Int64)])), rI q71 cI 961 (fun _ => 0), rI q72 cI 96 (fun _ => 0), rI q73 cZ 1661 (fun _ => 0), (q80, .inr (0, [.ref q38, .ref q47, .ref q56, .int r20, .ref q83, .ref q84, .int (0 : Int32), .int (0 : Int32)])), (q83, .inr (6, [.int (0 : Int32), .int (0 : Int32), .int (0 : Int32), .int (0 : Int32), .int (0 : Int32), .long (0 : Int64)])), (q84, .inr (6, [.int (0 : Int32), .int (0 : Int32), .int (0 : Int32), .int (0 : Int32), .int (0 : Int32), .long (0 : Int64)])), (q91, .inr (1, [.null, .null, .null, .int (0 : Int32), .int (0 : Int32), .int (0 : Int32), .int (0 : Int32), .int (0 : Int32), .int (0 : Int32), .int (0 : Int32), .int (0 : Int32), .int (0 : Int32), .int (0 : Int32)]))] := ⟨hP, hD, hS⟩
  clear hP hD hS
  refine lv_dup hx hb dX9_init_148 rfl ?_
  refine lv_aload_n hx hb dX9_init_149 rfl (lv_at hl0 0 rfl) ?_
  refine va_get (D := G) (ci := 9) (v := .ref q28) (C := RX9) (T := TX9) (N := 11) hx hb htc iX9 hown hK hw93.1 0 rfl rfl 3 (by decide) (htc _ mw_306) (fun _ h9 => h9) rfl dX9_init_150 ?_
  refine lv_aload_n hx hb dX9_init_153 rfl (lv_at hl0 0 rfl) ?_
  refine va_get (D := G) (ci := 9) (v := .ref q38) (C := RX9) (T := TX9) (N := 11) hx hb htc iX9 hown hK hw93.1 0 rfl rfl 4 (by decide) (htc _ mw_307) (fun _ h9 => h9) rfl dX9_init_154 ?_
  refine lv_aload_n hx hb dX9_init_157 rfl (lv_at hl0 0 rfl) ?_
  refine va_get (D := G) (ci := 9) (v := .ref q47) (C := RX9) (T := TX9) (N := 11) hx hb htc iX9 hown hK hw93.1 0 rfl rfl 5 (by decide) (htc _ mw_308) (fun _ h9 => h9) rfl dX9_init_158 ?_
  refine ntI (a := q91) (As := [.ref q28, .ref q38, .ref q47]) (rest := [.ref q91, .ref a0]) (wc := [(q91, .inr (1, [.null, .null, .null, .int (0 : Int32), .int (0 : Int32), .int (0 : Int32), .int (0 : Int32), .int (0 : Int32), .int (0 : Int32), .int (0 : Int32), .int (0 : Int32), .int (0 : Int32), .int (0 : Int32)]))]) (wr := [(a0, .inr (9, [.int r4, .int r12, .int r20, .ref q28, .ref q38, .ref q47, .ref q56, .ref q65, .ref q80, .null, .int (0 : Int32)])), (q28, .inr (2, [.ref q31, .int (0 : Int32), .int (-1 : Int32), .int (0 : Int32)])), rI q31 cI 4096 (fun _ => 0), (q38, .inr (3, [.ref q28])), (q47, .inr (4, [.ref q28, .int (0 : Int32)])), (q56, .inr (8, [.ref q28, .int (0 : Int32), .int (0 : Int32), .int (0 : Int32), .int (0 : Int32), .int (0 : Int32), .long (0 : Int64)])), (q65, .inr (7, [.ref q28, .ref q38, .ref q68, .ref q70, .ref q71, .ref q72, .ref q73, .int (0 : Int32), .int (0 : Int32), .int (0 : Int32), .int (0 : Int32)])), (q68, .inr (5, [.ref q69, .int (0 : Int32), .int (0 : Int32), .int (0 : Int32), .int (0 : Int32), .int (0 : Int32), .long (0 : Int64)])), rI q69 cI 1661 (fun _ => 0), (q70, .inr (6, [.int (0 : Int32), .int (0 : Int32), .int (0 : Int32), .int (0 : Int32), .int (0 : Int32), .long (0 : Int64)])), rI q71 cI 961 (fun _ => 0), rI q72 cI 96 (fun _ => 0), rI q73 cZ 1661 (fun _ => 0), (q80, .inr (0, [.ref q38, .ref q47, .ref q56, .int r20, .ref q83, .ref q84, .int (0 : Int32), .int (0 : Int32)])), (q83, .inr (6, [.int (0 : Int32), .int (0 : Int32), .int (0 : Int32), .int (0 : Int32), .int (0 : Int32), .long (0 : Int64)])), (q84, .inr (6, [.int (0 : Int32), .int (0 : Int32), .int (0 : Int32), .int (0 : Int32), .int (0 : Int32), .long (0 : Int64)]))]) hx hb hml hown htc hN (n_X1_init l G cI cZ cJ q91 q28 q38 q47) mw_255 mw_256 mw_11 mw_257 rfl hi_X1_init ⟨rfl, rfl⟩ ⟨Nat.le_of_ble_eq_true rfl, Nat.le_of_ble_eq_true rfl⟩ hK hw93 hA [16] [0, 1, 2, 3, 4, 5, 6, 7, 8, 9, 10, 11, 12, 13, 14, 15] rfl rfl rfl rfl rfl (by decide) rfl hl0.1 rfl (Nat.le_of_ble_eq_true rfl) dX9_init_161 ⟨Nat.le_of_ble_eq_true rfl, Nat.le_of_ble_eq_true rfl⟩ (fun w9 hp9 H95 lc96 hw97 => ?_)
  obtain ⟨q94, rfl⟩ := hp9
  replace hw97 : wS G A s H95 lc96 [(a0, .inr (9, [.int r4, .int r12, .int r20, .ref q28, .ref q38, .ref q47, .ref q56, .ref q65, .ref q80, .null, .int (0 : Int32)])), (q28, .inr (2, [.ref q31, .int (0 : Int32), .int (-1 : Int32), .int (0 : Int32)])), rI q31 cI 4096 (fun _ => 0), (q38, .inr (3, [.ref q28])), (q47, .inr (4, [.ref q28, .int (0 : Int32)])), (q56, .inr (8, [.ref q28, .int (0 : Int32), .int (0 : Int32), .int (0 : Int32), .int (0 : Int32), .int (0 : Int32), .long (0 : Int64)])), (q65, .inr (7, [.ref q28, .ref q38, .ref q68, .ref q70, .ref q71, .ref q72, .ref q73, .int (0 : Int32), .int (0 : Int32), .int (0 : Int32), .int (0 : Int32)])), (q68, .inr (5, [.ref q69, .int (0 : Int32), .int (0 : Int32), .int (0 : Int32), .int (0 : Int32), .int (0 : Int32), .long (0 : Int64)])), rI q69 cI 1661 (fun _ => 0), (q70, .inr (6, [.int (0 : Int32), .int (0 : Int32), .int (0 : Int32), .int (0 : Int32), .int (0 : Int32), .long (0 : Int64)])), rI q71 cI 961 (fun _ => 0), rI q72 cI 96 (fun _ => 0), rI q73 cZ 1661 (fun _ => 0), (q80, .inr (0, [.ref q38, .ref q47, .ref q56, .int r20, .ref q83, .ref q84, .int (0 : Int32), .int (0 : Int32)])), (q83, .inr (6, [.int (0 : Int32), .int (0 : Int32), .int (0 : Int32), .int (0 : Int32), .int (0 : Int32), .long (0 : Int64)])), (q84, .inr (6, [.int (0 : Int32), .int (0 : Int32), .int (0 : Int32), .int (0 : Int32), .int (0 : Int32), .long (0 : Int64)])), (q91, .inr (1, [.ref q38, .ref q47, .ref q94, .int (0 : Int32), .int (0 : Int32), .int (0 : Int32), .int (0 : Int32), .int (0 : Int32), .int (0 : Int32), .int (0 : Int32), .int (0 : Int32), .int (0 : Int32), .int (0 : Int32)])), (q94, .inr (8, [.ref q28, .int (0 : Int32), .int (0 : Int32), .int (0 : Int32), .int (0 : Int32), .int (0 : Int32), .long (0 : Int64)]))] := hw97
  refine va_putF (D := G) (ci := 9) (v := .ref q91) (ty := (.object "PointLedger$Cursor")) (C := RX9) (T := TX9) (N := 11) hx hb htc iX9 tyX9 tyX9_ok nmX9 hown hK hw97.1 hw97.2.1 hw97.2.2 0 rfl rfl 9 (by decide) (htc _ mw_312) (fun _ h9 => h9) rfl hin rfl (tyX9_ok 9 (by decide)) rfl rfl (Nat.le_of_ble_eq_true rfl) dX9_init_164 (fun H98 lc100 hP hD hS => ?_)
  have hw99 : wS G A s H98 lc100 [(a0, .inr (9, [.int r4, .int r12, .int r20, .ref q28, .ref q38, .ref q47, .ref q56, .ref q65, .ref q80, .ref q91, .int (0 : Int32)])), (q28, .inr (2, [.ref q31, .int (0 : Int32), .int (-1 : Int32), .int (0 : Int32)])), rI q31 cI 4096 (fun _ => 0), (q38, .inr (3, [.ref q28])), (q47, .inr (4, [.ref q28, .int (0 : Int32)])), (q56, .inr (8, [.ref q28, .int (0 : Int32), .int (0 : Int32), .int (0 : Int32), .int (0 : Int32), .int (0 : Int32), .long (0 : Int64)])), (q65, .inr (7, [.ref q28, .ref q38, .ref q68, .ref q70, .ref q71, .ref q72, .ref q73, .int (0 : Int32), .int (0 : Int32), .int (0 : Int32), .int (0 : Int32)])), (q68, .inr (5, [.ref q69, .int (0 : Int32), .int (0 : Int32), .int (0 : Int32), .int (0 : Int32), .int (0 : Int32), .long (0 : Int64)])), rI q69 cI 1661 (fun _ => 0), (q70, .inr (6, [.int (0 : Int32), .int (0 : Int32), .int (0 : Int32), .int (0 : Int32), .int (0 : Int32), .long (0 : Int64)])), rI q71 cI 961 (fun _ => 0), rI q72 cI 96 (fun _ => 0), rI q73 cZ 1661 (fun _ => 0), (q80, .inr (0, [.ref q38, .ref q47, .ref q56, .int r20, .ref q83, .ref q84, .int (0 : Int32), .int (0 : Int32)])), (q83, .inr (6, [.int (0 : Int32), .int (0 : Int32), .int (0 : Int32), .int (0 : Int32), .int (0 : Int32), .long (0 : Int64)])), (q84, .inr (6, [.int (0 : Int32), .int (0 : Int32), .int (0 : Int32), .int (0 : Int32), .int (0 : Int32), .long (0 : Int64)])), (q91, .inr (1, [.ref q38, .ref q47, .ref q94, .int (0 : Int32), .int (0 : Int32), .int (0 : Int32), .int (0 : Int32), .int (0 : Int32), .int (0 : Int32), .int (0 : Int32), .int (0 : Int32), .int (0 : Int32), .int (0 : Int32)])), (q94, .inr (8, [.ref q28, .int (0 : Int32), .int (0 : Int32), .int (0 : Int32), .int (0 : Int32), .int (0 : Int32), .long (0 : Int64)]))] := ⟨hP, hD, hS⟩
  clear hP hD hS hw97
  rw [hQQ]
  exact et_vret hx hb hr hlocks hw99 ⟨q28, q31, q38, q47, q56, q65, q68, q69, q70, q71, q72, q73, q80, q83, q84, q91, q94, rfl⟩ dX9_init_167
abbrev rm_X10_init : Room := { frames := 1, cells := 16, slots := 49536, locals := 22 }
theorem hi_X10_init : yX10_init.cls ≠ "java/lang/invoke/MethodHandle" ∧ yX10_init.cls ≠ "java/lang/invoke/VarHandle" ∧ (parseMethodDescriptor yX10_init.desc).map (fun d => d.parameters.length) = some 3 := by decide +kernel
set_option maxHeartbeats 4000000 in
set_option maxRecDepth 100000 in
theorem n_X10_init (l : Launch) (G : va_G) (cI cZ cJ : ClassId) (a0 : Nat) (p1 : Int32) (p2 : Int32) (p3 : Int32) {r100 : Int32} (hm101 : m_X10_between p1 (1 : Int32) (8 : Int32) = some r100) {r108 : Int32} (hm109 : m_X10_between p2 (2 : Int32) (64 : Int32) = some r108) {r116 : Int32} (hm117 : m_X10_between p3 (2 : Int32) (8 : Int32) = some r116) : NT l yX10_init cX10_init 4 rm_X10_init G (tyC cI cZ cJ) [.ref a0, .int p1, .int p2, .int p3] [(a0, .inr (10, [.int (0 : Int32), .int (0 : Int32), .int (0 : Int32), .int (0 : Int32), .null, .int (0 : Int32), .int (0 : Int32), .int (0 : Int32), .int (0 : Int32), .int (0 : Int32), .int (0 : Int32), .null, .null, .null, .null, .null, .null, .null, .int (0 : Int32), .int (0 : Int32), .int (0 : Int32), .null, .null, .null, .int (0 : Int32), .null, .null, .int (0 : Int32), .null, .null, .int (0 : Int32), .int (0 : Int32), .int (0 : Int32), .null, .int (0 : Int32), .int (0 : Int32), .int (0 : Int32), .int (0 : Int32), .int (0 : Int32), .long (0 : Int64)]))] 16 49536 (fun w => ∃ q1 q10 q16 q22 q28 q34 q40 q46 q52 q58 q64 q70 q76 q82 q88 q94 : Nat, w = [(a0, .inr (10, [.int (0 : Int32), .int r100, .int r108, .int r116, .ref q1, .int (0 : Int32), .int (-1 : Int32), .int (0 : Int32), .int (0 : Int32), .int (0 : Int32), .int (0 : Int32), .ref q10, .ref q16, .ref q22, .ref q28, .ref q34, .ref q40, .ref q46, .int (0 : Int32), .int (0 : Int32), .int (0 : Int32), .ref q52, .ref q58, .ref q64, .int (0 : Int32), .ref q70, .ref q76, .int (0 : Int32), .ref q82, .ref q88, .int (0 : Int32), .int (0 : Int32), .int (0 : Int32), .ref q94, .int (0 : Int32), .int (0 : Int32), .int (0 : Int32), .int (0 : Int32), .int (0 : Int32), .long (0 : Int64)])), rI q1 cI 4096 (fun _ => 0), rI q10 cI 240 (fun _ => 0), rI q16 cI 240 (fun _ => 0), rI q22 cI 240 (fun _ => 0), rI q28 cI 240 (fun _ => 0), rI q34 cI 15360 (fun _ => 0), rI q40 cI 15360 (fun _ => 0), rI q46 cI 96 (fun _ => 0), rI q52 cI 128 (fun _ => 0), rI q58 cI 128 (fun _ => 0), rI q64 cI 128 (fun _ => 0), rI q70 cI 240 (fun _ => 0), rI q76 cZ 240 (fun _ => 0), rI q82 cI 6300 (fun _ => 0), rI q88 cI 6300 (fun _ => 0), rI q94 cI 200 (fun _ => 0)]) := by
  refine NT.ofW (lvl := [(0, .ref a0), (1, .int p1), (2, .int p2), (3, .int p3)]) (by decide) (Nat.le_of_ble_eq_true rfl) rfl ?_
  intro p e s m args below meth c A ls0 QQ hQQ hin hx hb hml hr hlocks htc hN hown hK hA hw0 hl0
  refine lv_aload_n hx hb dX10_init_0 rfl (lv_at hl0 0 rfl) ?_
  refine W.objInit hx hb hown (htc _ mw_943) (htc _ mw_25) (htc _ mw_26) rfl (by rw [hml]; exact hl0.1) rfl dX10_init_1 (Nat.le_of_ble_eq_true rfl) (Nat.le_of_ble_eq_true rfl) ?_
  refine lv_aload_n hx hb dX10_init_4 rfl (lv_at hl0 0 rfl) ?_
  refine lv_sipush (v := (4096 : Int32)) hx hb dX10_init_5 (by decide) ?_
  refine nt_newI (N := 4096) hx hb htc hK hw0 hA (by decide) (by decide) (Nat.le_of_ble_eq_true rfl) (Nat.le_of_ble_eq_true rfl) (Nat.le_of_ble_eq_true rfl) dX10_init_8 (fun q1 H2 hw3 => ?_)
  refine va_putF (D := G) (ci := 10) (v := .ref q1) (ty := (.array .int)) (C := RX10) (T := TX10) (N := 40) hx hb htc iX10 tyX10 tyX10_ok nmX10 hown hK hw3.1 hw3.2.1 hw3.2.2 0 rfl rfl 4 (by decide) (htc _ mw_951) (fun _ h9 => h9) rfl hin rfl (tyX10_ok 4 (by decide)) rfl rfl (Nat.le_of_ble_eq_true rfl) dX10_init_10 (fun H4 lc6 hP hD hS => ?_)
  have hw5 : wS G A s H4 lc6 [(a0, .inr (10, [.int (0 : Int32), .int (0 : Int32), .int (0 : Int32), .int (0 : Int32), .ref q1, .int (0 : Int32), .int (0 : Int32), .int (0 : Int32), .int (0 : Int32), .int (0 : Int32), .int (0 : Int32), .null, .null, .null, .null, .null, .null, .null, .int (0 : Int32), .int (0 : Int32), .int (0 : Int32), .null, .null, .null, .int (0 : Int32), .null, .null, .int (0 : Int32), .null, .null, .int (0 : Int32), .int (0 : Int32), .int (0 : Int32), .null, .int (0 : Int32), .int (0 : Int32), .int (0 : Int32), .int (0 : Int32), .int (0 : Int32), .long (0 : Int64)])), rI q1 cI 4096 (fun _ => 0)] := ⟨hP, hD, hS⟩
  clear hP hD hS hw3
  refine lv_aload_n hx hb dX10_init_13 rfl (lv_at hl0 0 rfl) ?_
  refine lv_iconst (v := (-1 : Int32)) hx hb dX10_init_14 (by decide) ?_
  refine va_put (D := G) (ci := 10) (v := .int (-1 : Int32)) (ty := .int) (C := RX10) (T := TX10) (N := 40) hx hb htc iX10 tyX10 tyX10_ok nmX10 hown hK hw5.1 hw5.2.1 hw5.2.2 0 rfl rfl 6 (by decide) (htc _ mw_953) (fun _ h9 => h9) rfl (tyX10_ok 6 (by decide)) rfl rfl (Nat.le_of_ble_eq_true rfl) dX10_init_15 (fun H7 lc9 hP hD hS => ?_)
  have hw8 : wS G A s H7 lc9 [(a0, .inr (10, [.int (0 : Int32), .int (0 : Int32), .int (0 : Int32), .int (0 : Int32), .ref q1, .int (0 : Int32), .int (-1 : Int32), .int (0 : Int32), .int (0 : Int32), .int (0 : Int32), .int (0 : Int32), .null, .null, .null, .null, .null, .null, .null, .int (0 : Int32), .int (0 : Int32), .int (0 : Int32), .null, .null, .null, .int (0 : Int32), .null, .null, .int (0 : Int32), .null, .null, .int (0 : Int32), .int (0 : Int32), .int (0 : Int32), .null, .int (0 : Int32), .int (0 : Int32), .int (0 : Int32), .int (0 : Int32), .int (0 : Int32), .long (0 : Int64)])), rI q1 cI 4096 (fun _ => 0)] := ⟨hP, hD, hS⟩
  clear hP hD hS hw5
  refine lv_aload_n hx hb dX10_init_18 rfl (lv_at hl0 0 rfl) ?_
  refine lv_sipush (v := (240 : Int32)) hx hb dX10_init_19 (by decide) ?_
  refine nt_newI (N := 240) hx hb htc hK hw8 hA (by decide) (by decide) (Nat.le_of_ble_eq_true rfl) (Nat.le_of_ble_eq_true rfl) (Nat.le_of_ble_eq_true rfl) dX10_init_22 (fun q10 H11 hw12 => ?_)
  refine va_putF (D := G) (ci := 10) (v := .ref q10) (ty := (.array .int)) (C := RX10) (T := TX10) (N := 40) hx hb htc iX10 tyX10 tyX10_ok nmX10 hown hK hw12.1 hw12.2.1 hw12.2.2 0 rfl rfl 11 (by decide) (htc _ mw_958) (fun _ h9 => h9) rfl hin rfl (tyX10_ok 11 (by decide)) rfl rfl (Nat.le_of_ble_eq_true rfl) dX10_init_24 (fun H13 lc15 hP hD hS => ?_)
  have hw14 : wS G A s H13 lc15 [(a0, .inr (10, [.int (0 : Int32), .int (0 : Int32), .int (0 : Int32), .int (0 : Int32), .ref q1, .int (0 : Int32), .int (-1 : Int32), .int (0 : Int32), .int (0 : Int32), .int (0 : Int32), .int (0 : Int32), .ref q10, .null, .null, .null, .null, .null, .null, .int (0 : Int32), .int (0 : Int32), .int (0 : Int32), .null, .null, .null, .int (0 : Int32), .null, .null, .int (0 : Int32), .null, .null, .int (0 : Int32), .int (0 : Int32), .int (0 : Int32), .null, .int (0 : Int32), .int (0 : Int32), .int (0 : Int32), .int (0 : Int32), .int (0 : Int32), .long (0 : Int64)])), rI q1 cI 4096 (fun _ => 0), rI q10 cI 240 (fun _ => 0)] := ⟨hP, hD, hS⟩
  clear hP hD hS hw12
  refine lv_aload_n hx hb dX10_init_27 rfl (lv_at hl0 0 rfl) ?_
  refine lv_sipush (v := (240 : Int32)) hx hb dX10_init_28 (by decide) ?_
  refine nt_newI (N := 240) hx hb htc hK hw14 hA (by decide) (by decide) (Nat.le_of_ble_eq_true rfl) (Nat.le_of_ble_eq_true rfl) (Nat.le_of_ble_eq_true rfl) dX10_init_31 (fun q16 H17 hw18 => ?_)
  refine va_putF (D := G) (ci := 10) (v := .ref q16) (ty := (.array .int)) (C := RX10) (T := TX10) (N := 40) hx hb htc iX10 tyX10 tyX10_ok nmX10 hown hK hw18.1 hw18.2.1 hw18.2.2 0 rfl rfl 12 (by decide) (htc _ mw_959) (fun _ h9 => h9) rfl hin rfl (tyX10_ok 12 (by decide)) rfl rfl (Nat.le_of_ble_eq_true rfl) dX10_init_33 (fun H19 lc21 hP hD hS => ?_)
  have hw20 : wS G A s H19 lc21 [(a0, .inr (10, [.int (0 : Int32), .int (0 : Int32), .int (0 : Int32), .int (0 : Int32), .ref q1, .int (0 : Int32), .int (-1 : Int32), .int (0 : Int32), .int (0 : Int32), .int (0 : Int32), .int (0 : Int32), .ref q10, .ref q16, .null, .null, .null, .null, .null, .int (0 : Int32), .int (0 : Int32), .int (0 : Int32), .null, .null, .null, .int (0 : Int32), .null, .null, .int (0 : Int32), .null, .null, .int (0 : Int32), .int (0 : Int32), .int (0 : Int32), .null, .int (0 : Int32), .int (0 : Int32), .int (0 : Int32), .int (0 : Int32), .int (0 : Int32), .long (0 : Int64)])), rI q1 cI 4096 (fun _ => 0), rI q10 cI 240 (fun _ => 0), rI q16 cI 240 (fun _ => 0)] := ⟨hP, hD, hS⟩
  clear hP hD hS hw18
  refine lv_aload_n hx hb dX10_init_36 rfl (lv_at hl0 0 rfl) ?_
  refine lv_sipush (v := (240 : Int32)) hx hb dX10_init_37 (by decide) ?_
  refine nt_newI (N := 240) hx hb htc hK hw20 hA (by decide) (by decide) (Nat.le_of_ble_eq_true rfl) (Nat.le_of_ble_eq_true rfl) (Nat.le_of_ble_eq_true rfl) dX10_init_40 (fun q22 H23 hw24 => ?_)
  refine va_putF (D := G) (ci := 10) (v := .ref q22) (ty := (.array .int)) (C := RX10) (T := TX10) (N := 40) hx hb htc iX10 tyX10 tyX10_ok nmX10 hown hK hw24.1 hw24.2.1 hw24.2.2 0 rfl rfl 13 (by decide) (htc _ mw_960) (fun _ h9 => h9) rfl hin rfl (tyX10_ok 13 (by decide)) rfl rfl (Nat.le_of_ble_eq_true rfl) dX10_init_42 (fun H25 lc27 hP hD hS => ?_)
  have hw26 : wS G A s H25 lc27 [(a0, .inr (10, [.int (0 : Int32), .int (0 : Int32), .int (0 : Int32), .int (0 : Int32), .ref q1, .int (0 : Int32), .int (-1 : Int32), .int (0 : Int32), .int (0 : Int32), .int (0 : Int32), .int (0 : Int32), .ref q10, .ref q16, .ref q22, .null, .null, .null, .null, .int (0 : Int32), .int (0 : Int32), .int (0 : Int32), .null, .null, .null, .int (0 : Int32), .null, .null, .int (0 : Int32), .null, .null, .int (0 : Int32), .int (0 : Int32), .int (0 : Int32), .null, .int (0 : Int32), .int (0 : Int32), .int (0 : Int32), .int (0 : Int32), .int (0 : Int32), .long (0 : Int64)])), rI q1 cI 4096 (fun _ => 0), rI q10 cI 240 (fun _ => 0), rI q16 cI 240 (fun _ => 0), rI q22 cI 240 (fun _ => 0)] := ⟨hP, hD, hS⟩
  clear hP hD hS hw24
  refine lv_aload_n hx hb dX10_init_45 rfl (lv_at hl0 0 rfl) ?_
  refine lv_sipush (v := (240 : Int32)) hx hb dX10_init_46 (by decide) ?_
  refine nt_newI (N := 240) hx hb htc hK hw26 hA (by decide) (by decide) (Nat.le_of_ble_eq_true rfl) (Nat.le_of_ble_eq_true rfl) (Nat.le_of_ble_eq_true rfl) dX10_init_49 (fun q28 H29 hw30 => ?_)
  refine va_putF (D := G) (ci := 10) (v := .ref q28) (ty := (.array .int)) (C := RX10) (T := TX10) (N := 40) hx hb htc iX10 tyX10 tyX10_ok nmX10 hown hK hw30.1 hw30.2.1 hw30.2.2 0 rfl rfl 14 (by decide) (htc _ mw_961) (fun _ h9 => h9) rfl hin rfl (tyX10_ok 14 (by decide)) rfl rfl (Nat.le_of_ble_eq_true rfl) dX10_init_51 (fun H31 lc33 hP hD hS => ?_)
  have hw32 : wS G A s H31 lc33 [(a0, .inr (10, [.int (0 : Int32), .int (0 : Int32), .int (0 : Int32), .int (0 : Int32), .ref q1, .int (0 : Int32), .int (-1 : Int32), .int (0 : Int32), .int (0 : Int32), .int (0 : Int32), .int (0 : Int32), .ref q10, .ref q16, .ref q22, .ref q28, .null, .null, .null, .int (0 : Int32), .int (0 : Int32), .int (0 : Int32), .null, .null, .null, .int (0 : Int32), .null, .null, .int (0 : Int32), .null, .null, .int (0 : Int32), .int (0 : Int32), .int (0 : Int32), .null, .int (0 : Int32), .int (0 : Int32), .int (0 : Int32), .int (0 : Int32), .int (0 : Int32), .long (0 : Int64)])), rI q1 cI 4096 (fun _ => 0), rI q10 cI 240 (fun _ => 0), rI q16 cI 240 (fun _ => 0), rI q22 cI 240 (fun _ => 0), rI q28 cI 240 (fun _ => 0)] := ⟨hP, hD, hS⟩
  clear hP hD hS hw30
  refine lv_aload_n hx hb dX10_init_54 rfl (lv_at hl0 0 rfl) ?_
  refine lv_sipush (v := (15360 : Int32)) hx hb dX10_init_55 (by decide) ?_
  refine nt_newI (N := 15360) hx hb htc hK hw32 hA (by decide) (by decide) (Nat.le_of_ble_eq_true rfl) (Nat.le_of_ble_eq_true rfl) (Nat.le_of_ble_eq_true rfl) dX10_init_58 (fun q34 H35 hw36 => ?_)
  refine va_putF (D := G) (ci := 10) (v := .ref q34) (ty := (.array .int)) (C := RX10) (T := TX10) (N := 40) hx hb htc iX10 tyX10 tyX10_ok nmX10 hown hK hw36.1 hw36.2.1 hw36.2.2 0 rfl rfl 15 (by decide) (htc _ mw_962) (fun _ h9 => h9) rfl hin rfl (tyX10_ok 15 (by decide)) rfl rfl (Nat.le_of_ble_eq_true rfl) dX10_init_60 (fun H37 lc39 hP hD hS => ?_)
  have hw38 : wS G A s H37 lc39 [(a0, .inr (10, [.int (0 : Int32), .int (0 : Int32), .int (0 : Int32), .int (0 : Int32), .ref q1, .int (0 : Int32), .int (-1 : Int32), .int (0 : Int32), .int (0 : Int32), .int (0 : Int32), .int (0 : Int32), .ref q10, .ref q16, .ref q22, .ref q28, .ref q34, .null, .null, .int (0 : Int32), .int (0 : Int32), .int (0 : Int32), .null, .null, .null, .int (0 : Int32), .null, .null, .int (0 : Int32), .null, .null, .int (0 : Int32), .int (0 : Int32), .int (0 : Int32), .null, .int (0 : Int32), .int (0 : Int32), .int (0 : Int32), .int (0 : Int32), .int (0 : Int32), .long (0 : Int64)])), rI q1 cI 4096 (fun _ => 0), rI q10 cI 240 (fun _ => 0), rI q16 cI 240 (fun _ => 0), rI q22 cI 240 (fun _ => 0), rI q28 cI 240 (fun _ => 0), rI q34 cI 15360 (fun _ => 0)] := ⟨hP, hD, hS⟩
  clear hP hD hS hw36
  refine lv_aload_n hx hb dX10_init_63 rfl (lv_at hl0 0 rfl) ?_
  refine lv_sipush (v := (15360 : Int32)) hx hb dX10_init_64 (by decide) ?_
  refine nt_newI (N := 15360) hx hb htc hK hw38 hA (by decide) (by decide) (Nat.le_of_ble_eq_true rfl) (Nat.le_of_ble_eq_true rfl) (Nat.le_of_ble_eq_true rfl) dX10_init_67 (fun q40 H41 hw42 => ?_)
  refine va_putF (D := G) (ci := 10) (v := .ref q40) (ty := (.array .int)) (C := RX10) (T := TX10) (N := 40) hx hb htc iX10 tyX10 tyX10_ok nmX10 hown hK hw42.1 hw42.2.1 hw42.2.2 0 rfl rfl 16 (by decide) (htc _ mw_963) (fun _ h9 => h9) rfl hin rfl (tyX10_ok 16 (by decide)) rfl rfl (Nat.le_of_ble_eq_true rfl) dX10_init_69 (fun H43 lc45 hP hD hS => ?_)
  have hw44 : wS G A s H43 lc45 [(a0, .inr (10, [.int (0 : Int32), .int (0 : Int32), .int (0 : Int32), .int (0 : Int32), .ref q1, .int (0 : Int32), .int (-1 : Int32), .int (0 : Int32), .int (0 : Int32), .int (0 : Int32), .int (0 : Int32), .ref q10, .ref q16, .ref q22, .ref q28, .ref q34, .ref q40, .null, .int (0 : Int32), .int (0 : Int32), .int (0 : Int32), .null, .null, .null, .int (0 : Int32), .null, .null, .int (0 : Int32), .null, .null, .int (0 : Int32), .int (0 : Int32), .int (0 : Int32), .null, .int (0 : Int32), .int (0 : Int32), .int (0 : Int32), .int (0 : Int32), .int (0 : Int32), .long (0 : Int64)])), rI q1 cI 4096 (fun _ => 0), rI q10 cI 240 (fun _ => 0), rI q16 cI 240 (fun _ => 0), rI q22 cI 240 (fun _ => 0), rI q28 cI 240 (fun _ => 0), rI q34 cI 15360 (fun _ => 0), rI q40 cI 15360 (fun _ => 0)] := ⟨hP, hD, hS⟩
  clear hP hD hS hw42
  refine lv_aload_n hx hb dX10_init_72 rfl (lv_at hl0 0 rfl) ?_
  refine lv_bipush (v := (96 : Int32)) hx hb dX10_init_73 (by decide) ?_
  refine nt_newI (N := 96) hx hb htc hK hw44 hA (by decide) (by decide) (Nat.le_of_ble_eq_true rfl) (Nat.le_of_ble_eq_true rfl) (Nat.le_of_ble_eq_true rfl) dX10_init_75 (fun q46 H47 hw48 => ?_)
  refine va_putF (D := G) (ci := 10) (v := .ref q46) (ty := (.array .int)) (C := RX10) (T := TX10) (N := 40) hx hb htc iX10 tyX10 tyX10_ok nmX10 hown hK hw48.1 hw48.2.1 hw48.2.2 0 rfl rfl 17 (by decide) (htc _ mw_964) (fun _ h9 => h9) rfl hin rfl (tyX10_ok 17 (by decide)) rfl rfl (Nat.le_of_ble_eq_true rfl) dX10_init_77 (fun H49 lc51 hP hD hS => ?_)
  have hw50 : wS G A s H49 lc51 [(a0, .inr (10, [.int (0 : Int32), .int (0 : Int32), .int (0 : Int32), .int (0 : Int32), .ref q1, .int (0 : Int32), .int (-1 : Int32), .int (0 : Int32), .int (0 : Int32), .int (0 : Int32), .int (0 : Int32), .ref q10, .ref q16, .ref q22, .ref q28, .ref q34, .ref q40, .ref q46, .int (0 : Int32), .int (0 : Int32), .int (0 : Int32), .null, .null, .null, .int (0 : Int32), .null, .null, .int (0 : Int32), .null, .null, .int (0 : Int32), .int (0 : Int32), .int (0 : Int32), .null, .int (0 : Int32), .int (0 : Int32), .int (0 : Int32), .int (0 : Int32), .int (0 : Int32), .long (0 : Int64)])), rI q1 cI 4096 (fun _ => 0), rI q10 cI 240 (fun _ => 0), rI q16 cI 240 (fun _ => 0), rI q22 cI 240 (fun _ => 0), rI q28 cI 240 (fun _ => 0), rI q34 cI 15360 (fun _ => 0), rI q40 cI 15360 (fun _ => 0), rI q46 cI 96 (fun _ => 0)] := ⟨hP, hD, hS⟩
  clear hP hD hS hw48
  refine lv_aload_n hx hb dX10_init_80 rfl (lv_at hl0 0 rfl) ?_
  refine lv_sipush (v := (128 : Int32)) hx hb dX10_init_81 (by decide) ?_
  refine nt_newI (N := 128) hx hb htc hK hw50 hA (by decide) (by decide) (Nat.le_of_ble_eq_true rfl) (Nat.le_of_ble_eq_true rfl) (Nat.le_of_ble_eq_true rfl) dX10_init_84 (fun q52 H53 hw54 => ?_)
  refine va_putF (D := G) (ci := 10) (v := .ref q52) (ty := (.array .int)) (C := RX10) (T := TX10) (N := 40) hx hb htc iX10 tyX10 tyX10_ok nmX10 hown hK hw54.1 hw54.2.1 hw54.2.2 0 rfl rfl 21 (by decide) (htc _ mw_968) (fun _ h9 => h9) rfl hin rfl (tyX10_ok 21 (by decide)) rfl rfl (Nat.le_of_ble_eq_true rfl) dX10_init_86 (fun H55 lc57 hP hD hS => ?_)
  have hw56 : wS G A s H55 lc57 [(a0, .inr (10, [.int (0 : Int32), .int (0 : Int32), .int (0 : Int32), .int (0 : Int32), .ref q1, .int (0 : Int32), .int (-1 : Int32), .int (0 : Int32), .int (0 : Int32), .int (0 : Int32), .int (0 : Int32), .ref q10, .ref q16, .ref q22, .ref q28, .ref q34, .ref q40, .ref q46, .int (0 : Int32), .int (0 : Int32), .int (0 : Int32), .ref q52, .null, .null, .int (0 : Int32), .null, .null, .int (0 : Int32), .null, .null, .int (0 : Int32), .int (0 : Int32), .int (0 : Int32), .null, .int (0 : Int32), .int (0 : Int32), .int (0 : Int32), .int (0 : Int32), .int (0 : Int32), .long (0 : Int64)])), rI q1 cI 4096 (fun _ => 0), rI q10 cI 240 (fun _ => 0), rI q16 cI 240 (fun _ => 0), rI q22 cI 240 (fun _ => 0), rI q28 cI 240 (fun _ => 0), rI q34 cI 15360 (fun _ => 0), rI q40 cI 15360 (fun _ => 0), rI q46 cI 96 (fun _ => 0), rI q52 cI 128 (fun _ => 0)] := ⟨hP, hD, hS⟩
  clear hP hD hS hw54
  refine lv_aload_n hx hb dX10_init_89 rfl (lv_at hl0 0 rfl) ?_
  refine lv_sipush (v := (128 : Int32)) hx hb dX10_init_90 (by decide) ?_
  refine nt_newI (N := 128) hx hb htc hK hw56 hA (by decide) (by decide) (Nat.le_of_ble_eq_true rfl) (Nat.le_of_ble_eq_true rfl) (Nat.le_of_ble_eq_true rfl) dX10_init_93 (fun q58 H59 hw60 => ?_)
  refine va_putF (D := G) (ci := 10) (v := .ref q58) (ty := (.array .int)) (C := RX10) (T := TX10) (N := 40) hx hb htc iX10 tyX10 tyX10_ok nmX10 hown hK hw60.1 hw60.2.1 hw60.2.2 0 rfl rfl 22 (by decide) (htc _ mw_969) (fun _ h9 => h9) rfl hin rfl (tyX10_ok 22 (by decide)) rfl rfl (Nat.le_of_ble_eq_true rfl) dX10_init_95 (fun H61 lc63 hP hD hS => ?_)
  have hw62 : wS G A s H61 lc63 [(a0, .inr (10, [.int (0 : Int32), .int (0 : Int32), .int (0 : Int32), .int (0 : Int32), .ref q1, .int (0 : Int32), .int (-1 : Int32), .int (0 : Int32), .int (0 : Int32), .int (0 : Int32), .int (0 : Int32), .ref q10, .ref q16, .ref q22, .ref q28, .ref q34, .ref q40, .ref q46, .int (0 : Int32), .int (0 : Int32), .int (0 : Int32), .ref q52, .ref q58, .null, .int (0 : Int32), .null, .null, .int (0 : Int32), .null, .null, .int (0 : Int32), .int (0 : Int32), .int (0 : Int32), .null, .int (0 : Int32), .int (0 : Int32), .int (0 : Int32), .int (0 : Int32), .int (0 : Int32), .long (0 : Int64)])), rI q1 cI 4096 (fun _ => 0), rI q10 cI 240 (fun _ => 0), rI q16 cI 240 (fun _ => 0), rI q22 cI 240 (fun _ => 0), rI q28 cI 240 (fun _ => 0), rI q34 cI 15360 (fun _ => 0), rI q40 cI 15360 (fun _ => 0), rI q46 cI 96 (fun _ => 0), rI q52 cI 128 (fun _ => 0), rI q58 cI 128 (fun _ => 0)] := ⟨hP, hD, hS⟩
  clear hP hD hS hw60
  refine lv_aload_n hx hb dX10_init_98 rfl (lv_at hl0 0 rfl) ?_
  refine lv_sipush (v := (128 : Int32)) hx hb dX10_init_99 (by decide) ?_
  refine nt_newI (N := 128) hx hb htc hK hw62 hA (by decide) (by decide) (Nat.le_of_ble_eq_true rfl) (Nat.le_of_ble_eq_true rfl) (Nat.le_of_ble_eq_true rfl) dX10_init_102 (fun q64 H65 hw66 => ?_)
  refine va_putF (D := G) (ci := 10) (v := .ref q64) (ty := (.array .int)) (C := RX10) (T := TX10) (N := 40) hx hb htc iX10 tyX10 tyX10_ok nmX10 hown hK hw66.1 hw66.2.1 hw66.2.2 0 rfl rfl 23 (by decide) (htc _ mw_970) (fun _ h9 => h9) rfl hin rfl (tyX10_ok 23 (by decide)) rfl rfl (Nat.le_of_ble_eq_true rfl) dX10_init_104 (fun H67 lc69 hP hD hS => ?_)
  have hw68 : wS G A s H67 lc69 [(a0, .inr (10, [.int (0 : Int32), .int (0 : Int32), .int (0 : Int32), .int (0 : Int32), .ref q1, .int (0 : Int32), .int (-1 : Int32), .int (0 : Int32), .int (0 : Int32), .int (0 : Int32), .int (0 : Int32), .ref q10, .ref q16, .ref q22, .ref q28, .ref q34, .ref q40, .ref q46, .int (0 : Int32), .int (0 : Int32), .int (0 : Int32), .ref q52, .ref q58, .ref q64, .int (0 : Int32), .null, .null, .int (0 : Int32), .null, .null, .int (0 : Int32), .int (0 : Int32), .int (0 : Int32), .null, .int (0 : Int32), .int (0 : Int32), .int (0 : Int32), .int (0 : Int32), .int (0 : Int32), .long (0 : Int64)])), rI q1 cI 4096 (fun _ => 0), rI q10 cI 240 (fun _ => 0), rI q16 cI 240 (fun _ => 0), rI q22 cI 240 (fun _ => 0), rI q28 cI 240 (fun _ => 0), rI q34 cI 15360 (fun _ => 0), rI q40 cI 15360 (fun _ => 0), rI q46 cI 96 (fun _ => 0), rI q52 cI 128 (fun _ => 0), rI q58 cI 128 (fun _ => 0), rI q64 cI 128 (fun _ => 0)] := ⟨hP, hD, hS⟩
  clear hP hD hS hw66
  refine lv_aload_n hx hb dX10_init_107 rfl (lv_at hl0 0 rfl) ?_
  refine lv_sipush (v := (240 : Int32)) hx hb dX10_init_108 (by decide) ?_
  refine nt_newI (N := 240) hx hb htc hK hw68 hA (by decide) (by decide) (Nat.le_of_ble_eq_true rfl) (Nat.le_of_ble_eq_true rfl) (Nat.le_of_ble_eq_true rfl) dX10_init_111 (fun q70 H71 hw72 => ?_)
  refine va_putF (D := G) (ci := 10) (v := .ref q70) (ty := (.array .int)) (C := RX10) (T := TX10) (N := 40) hx hb htc iX10 tyX10 tyX10_ok nmX10 hown hK hw72.1 hw72.2.1 hw72.2.2 0 rfl rfl 25 (by decide) (htc _ mw_972) (fun _ h9 => h9) rfl hin rfl (tyX10_ok 25 (by decide)) rfl rfl (Nat.le_of_ble_eq_true rfl) dX10_init_113 (fun H73 lc75 hP hD hS => ?_)
  have hw74 : wS G A s H73 lc75 [(a0, .inr (10, [.int (0 : Int32), .int (0 : Int32), .int (0 : Int32), .int (0 : Int32), .ref q1, .int (0 : Int32), .int (-1 : Int32), .int (0 : Int32), .int (0 : Int32), .int (0 : Int32), .int (0 : Int32), .ref q10, .ref q16, .ref q22, .ref q28, .ref q34, .ref q40, .ref q46, .int (0 : Int32), .int (0 : Int32), .int (0 : Int32), .ref q52, .ref q58, .ref q64, .int (0 : Int32), .ref q70, .null, .int (0 : Int32), .null, .null, .int (0 : Int32), .int (0 : Int32), .int (0 : Int32), .null, .int (0 : Int32), .int (0 : Int32), .int (0 : Int32), .int (0 : Int32), .int (0 : Int32), .long (0 : Int64)])), rI q1 cI 4096 (fun _ => 0), rI q10 cI 240 (fun _ => 0), rI q16 cI 240 (fun _ => 0), rI q22 cI 240 (fun _ => 0), rI q28 cI 240 (fun _ => 0), rI q34 cI 15360 (fun _ => 0), rI q40 cI 15360 (fun _ => 0), rI q46 cI 96 (fun _ => 0), rI q52 cI 128 (fun _ => 0), rI q58 cI 128 (fun _ => 0), rI q64 cI 128 (fun _ => 0), rI q70 cI 240 (fun _ => 0)] := ⟨hP, hD, hS⟩
  clear hP hD hS hw72
  refine lv_aload_n hx hb dX10_init_116 rfl (lv_at hl0 0 rfl) ?_
  refine lv_sipush (v := (240 : Int32)) hx hb dX10_init_117 (by decide) ?_
  refine nt_newZ (N := 240) hx hb htc hK hw74 hA (by decide) (by decide) (Nat.le_of_ble_eq_true rfl) (Nat.le_of_ble_eq_true rfl) (Nat.le_of_ble_eq_true rfl) dX10_init_120 (fun q76 H77 hw78 => ?_)
  refine va_putF (D := G) (ci := 10) (v := .ref q76) (ty := (.array .boolean)) (C := RX10) (T := TX10) (N := 40) hx hb htc iX10 tyX10 tyX10_ok nmX10 hown hK hw78.1 hw78.2.1 hw78.2.2 0 rfl rfl 26 (by decide) (htc _ mw_973) (fun _ h9 => h9) rfl hin rfl (tyX10_ok 26 (by decide)) rfl rfl (Nat.le_of_ble_eq_true rfl) dX10_init_122 (fun H79 lc81 hP hD hS => ?_)
  have hw80 : wS G A s H79 lc81 [(a0, .inr (10, [.int (0 : Int32), .int (0 : Int32), .int (0 : Int32), .int (0 : Int32), .ref q1, .int (0 : Int32), .int (-1 : Int32), .int (0 : Int32), .int (0 : Int32), .int (0 : Int32), .int (0 : Int32), .ref q10, .ref q16, .ref q22, .ref q28, .ref q34, .ref q40, .ref q46, .int (0 : Int32), .int (0 : Int32), .int (0 : Int32), .ref q52, .ref q58, .ref q64, .int (0 : Int32), .ref q70, .ref q76, .int (0 : Int32), .null, .null, .int (0 : Int32), .int (0 : Int32), .int (0 : Int32), .null, .int (0 : Int32), .int (0 : Int32), .int (0 : Int32), .int (0 : Int32), .int (0 : Int32), .long (0 : Int64)])), rI q1 cI 4096 (fun _ => 0), rI q10 cI 240 (fun _ => 0), rI q16 cI 240 (fun _ => 0), rI q22 cI 240 (fun _ => 0), rI q28 cI 240 (fun _ => 0), rI q34 cI 15360 (fun _ => 0), rI q40 cI 15360 (fun _ => 0), rI q46 cI 96 (fun _ => 0), rI q52 cI 128 (fun _ => 0), rI q58 cI 128 (fun _ => 0), rI q64 cI 128 (fun _ => 0), rI q70 cI 240 (fun _ => 0), rI q76 cZ 240 (fun _ => 0)] := ⟨hP, hD, hS⟩
  clear hP hD hS hw78
  refine lv_aload_n hx hb dX10_init_125 rfl (lv_at hl0 0 rfl) ?_
  refine lv_sipush (v := (6300 : Int32)) hx hb dX10_init_126 (by decide) ?_
  refine nt_newI (N := 6300) hx hb htc hK hw80 hA (by decide) (by decide) (Nat.le_of_ble_eq_true rfl) (Nat.le_of_ble_eq_true rfl) (Nat.le_of_ble_eq_true rfl) dX10_init_129 (fun q82 H83 hw84 => ?_)
  refine va_putF (D := G) (ci := 10) (v := .ref q82) (ty := (.array .int)) (C := RX10) (T := TX10) (N := 40) hx hb htc iX10 tyX10 tyX10_ok nmX10 hown hK hw84.1 hw84.2.1 hw84.2.2 0 rfl rfl 28 (by decide) (htc _ mw_975) (fun _ h9 => h9) rfl hin rfl (tyX10_ok 28 (by decide)) rfl rfl (Nat.le_of_ble_eq_true rfl) dX10_init_131 (fun H85 lc87 hP hD hS => ?_)
  have hw86 : wS G A s H85 lc87 [(a0, .inr (10, [.int (0 : Int32), .int (0 : Int32), .int (0 : Int32), .int (0 : Int32), .ref q1, .int (0 : Int32), .int (-1 : Int32), .int (0 : Int32), .int (0 : Int32), .int (0 : Int32), .int (0 : Int32), .ref q10, .ref q16, .ref q22, .ref q28, .ref q34, .ref q40, .ref q46, .int (0 : Int32), .int (0 : Int32), .int (0 : Int32), .ref q52, .ref q58, .ref q64, .int (0 : Int32), .ref q70, .ref q76, .int (0 : Int32), .ref q82, .null, .int (0 : Int32), .int (0 : Int32), .int (0 : Int32), .null, .int (0 : Int32), .int (0 : Int32), .int (0 : Int32), .int (0 : Int32), .int (0 : Int32), .long (0 : Int64)])), rI q1 cI 4096 (fun _ => 0), rI q10 cI 240 (fun _ => 0), rI q16 cI 240 (fun _ => 0), rI q22 cI 240 (fun _ => 0), rI q28 cI 240 (fun _ => 0), rI q34 cI 15360 (fun _ => 0), rI q40 cI 15360 (fun _ => 0), rI q46 cI 96 (fun _ => 0), rI q52 cI 128 (fun _ => 0), rI q58 cI 128 (fun _ => 0), rI q64 cI 128 (fun _ => 0), rI q70 cI 240 (fun _ => 0), rI q76 cZ 240 (fun _ => 0), rI q82 cI 6300 (fun _ => 0)] := ⟨hP, hD, hS⟩
  clear hP hD hS hw84
  refine lv_aload_n hx hb dX10_init_134 rfl (lv_at hl0 0 rfl) ?_
  refine lv_sipush (v := (6300 : Int32)) hx hb dX10_init_135 (by decide) ?_
  refine nt_newI (N := 6300) hx hb htc hK hw86 hA (by decide) (by decide) (Nat.le_of_ble_eq_true rfl) (Nat.le_of_ble_eq_true rfl) (Nat.le_of_ble_eq_true rfl) dX10_init_138 (fun q88 H89 hw90 => ?_)
  refine va_putF (D := G) (ci := 10) (v := .ref q88) (ty := (.array .int)) (C := RX10) (T := TX10) (N := 40) hx hb htc iX10 tyX10 tyX10_ok nmX10 hown hK hw90.1 hw90.2.1 hw90.2.2 0 rfl rfl 29 (by decide) (htc _ mw_976) (fun _ h9 => h9) rfl hin rfl (tyX10_ok 29 (by decide)) rfl rfl (Nat.le_of_ble_eq_true rfl) dX10_init_140 (fun H91 lc93 hP hD hS => ?_)
  have hw92 : wS G A s H91 lc93 [(a0, .inr (10, [.int (0 : Int32), .int (0 : Int32), .int (0 : Int32), .int (0 : Int32), .ref q1, .int (0 : Int32), .int (-1 : Int32), .int (0 : Int32), .int (0 : Int32), .int (0 : Int32), .int (0 : Int32), .ref q10, .ref q16, .ref q22, .ref q28, .ref q34, .ref q40, .ref q46, .int (0 : Int32), .int (0 : Int32), .int (0 : Int32), .ref q52, .ref q58, .ref q64, .int (0 : Int32), .ref q70, .ref q76, .int (0 : Int32), .ref q82, .ref q88, .int (0 : Int32), .int (0 : Int32), .int (0 : Int32), .null, .int (0 : Int32), .int (0 : Int32), .int (0 : Int32), .int (0 : Int32), .int (0 : Int32), .long (0 : Int64)])), rI q1 cI 4096 (fun _ => 0), rI q10 cI 240 (fun _ => 0), rI q16 cI 240 (fun _ => 0), rI q22 cI 240 (fun _ => 0), rI q28 cI 240 (fun _ => 0), rI q34 cI 15360 (fun _ => 0), rI q40 cI 15360 (fun _ => 0), rI q46 cI 96 (fun _ => 0), rI q52 cI 128 (fun _ => 0), rI q58 cI 128 (fun _ => 0), rI q64 cI 128 (fun _ => 0), rI q70 cI 240 (fun _ => 0), rI q76 cZ 240 (fun _ => 0), rI q82 cI 6300 (fun _ => 0), rI q88 cI 6300 (fun _ => 0)] := ⟨hP, hD, hS⟩
  clear hP hD hS hw90
  refine lv_aload_n hx hb dX10_init_143 rfl (lv_at hl0 0 rfl) ?_
  refine lv_sipush (v := (200 : Int32)) hx hb dX10_init_144 (by decide) ?_
  refine nt_newI (N := 200) hx hb htc hK hw92 hA (by decide) (by decide) (Nat.le_of_ble_eq_true rfl) (Nat.le_of_ble_eq_true rfl) (Nat.le_of_ble_eq_true rfl) dX10_init_147 (fun q94 H95 hw96 => ?_)
  refine va_putF (D := G) (ci := 10) (v := .ref q94) (ty := (.array .int)) (C := RX10) (T := TX10) (N := 40) hx hb htc iX10 tyX10 tyX10_ok nmX10 hown hK hw96.1 hw96.2.1 hw96.2.2 0 rfl rfl 33 (by decide) (htc _ mw_980) (fun _ h9 => h9) rfl hin rfl (tyX10_ok 33 (by decide)) rfl rfl (Nat.le_of_ble_eq_true rfl) dX10_init_149 (fun H97 lc99 hP hD hS => ?_)
  have hw98 : wS G A s H97 lc99 [(a0, .inr (10, [.int (0 : Int32), .int (0 : Int32), .int (0 : Int32), .int (0 : Int32), .ref q1, .int (0 : Int32), .int (-1 : Int32), .int (0 : Int32), .int (0 : Int32), .int (0 : Int32), .int (0 : Int32), .ref q10, .ref q16, .ref q22, .ref q28, .ref q34, .ref q40, .ref q46, .int (0 : Int32), .int (0 : Int32), .int (0 : Int32), .ref q52, .ref q58, .ref q64, .int (0 : Int32), .ref q70, .ref q76, .int (0 : Int32), .ref q82, .ref q88, .int (0 : Int32), .int (0 : Int32), .int (0 : Int32), .ref q94, .int (0 : Int32), .int (0 : Int32), .int (0 : Int32), .int (0 : Int32), .int (0 : Int32), .long (0 : Int64)])), rI q1 cI 4096 (fun _ => 0), rI q10 cI 240 (fun _ => 0), rI q16 cI 240 (fun _ => 0), rI q22 cI 240 (fun _ => 0), rI q28 cI 240 (fun _ => 0), rI q34 cI 15360 (fun _ => 0), rI q40 cI 15360 (fun _ => 0), rI q46 cI 96 (fun _ => 0), rI q52 cI 128 (fun _ => 0), rI q58 cI 128 (fun _ => 0), rI q64 cI 128 (fun _ => 0), rI q70 cI 240 (fun _ => 0), rI q76 cZ 240 (fun _ => 0), rI q82 cI 6300 (fun _ => 0), rI q88 cI 6300 (fun _ => 0), rI q94 cI 200 (fun _ => 0)] := ⟨hP, hD, hS⟩
  clear hP hD hS hw96
  refine lv_aload_n hx hb dX10_init_152 rfl (lv_at hl0 0 rfl) ?_
  refine lv_iload_n hx hb dX10_init_153 rfl (lv_at hl0 1 rfl) ?_
  refine lv_iconst (v := (1 : Int32)) hx hb dX10_init_154 (by decide) ?_
  refine lv_bipush (v := (8 : Int32)) hx hb dX10_init_155 (by decide) ?_
  refine ctS (As := [.int p1, .int (1 : Int32), .int (8 : Int32)]) (rest := [.ref a0]) (st1 := [.int r100, .ref a0]) (wc := []) (w1 := []) (wr := [(a0, .inr (10, [.int (0 : Int32), .int (0 : Int32), .int (0 : Int32), .int (0 : Int32), .ref q1, .int (0 : Int32), .int (-1 : Int32), .int (0 : Int32), .int (0 : Int32), .int (0 : Int32), .int (0 : Int32), .ref q10, .ref q16, .ref q22, .ref q28, .ref q34, .ref q40, .ref q46, .int (0 : Int32), .int (0 : Int32), .int (0 : Int32), .ref q52, .ref q58, .ref q64, .int (0 : Int32), .ref q70, .ref q76, .int (0 : Int32), .ref q82, .ref q88, .int (0 : Int32), .int (0 : Int32), .int (0 : Int32), .ref q94, .int (0 : Int32), .int (0 : Int32), .int (0 : Int32), .int (0 : Int32), .int (0 : Int32), .long (0 : Int64)])), rI q1 cI 4096 (fun _ => 0), rI q10 cI 240 (fun _ => 0), rI q16 cI 240 (fun _ => 0), rI q22 cI 240 (fun _ => 0), rI q28 cI 240 (fun _ => 0), rI q34 cI 15360 (fun _ => 0), rI q40 cI 15360 (fun _ => 0), rI q46 cI 96 (fun _ => 0), rI q52 cI 128 (fun _ => 0), rI q58 cI 128 (fun _ => 0), rI q64 cI 128 (fun _ => 0), rI q70 cI 240 (fun _ => 0), rI q76 cZ 240 (fun _ => 0), rI q82 cI 6300 (fun _ => 0), rI q88 cI 6300 (fun _ => 0), rI q94 cI 200 (fun _ => 0)]) (wb := [(a0, .inr (10, [.int (0 : Int32), .int (0 : Int32), .int (0 : Int32), .int (0 : Int32), .ref q1, .int (0 : Int32), .int (-1 : Int32), .int (0 : Int32), .int (0 : Int32), .int (0 : Int32), .int (0 : Int32), .ref q10, .ref q16, .ref q22, .ref q28, .ref q34, .ref q40, .ref q46, .int (0 : Int32), .int (0 : Int32), .int (0 : Int32), .ref q52, .ref q58, .ref q64, .int (0 : Int32), .ref q70, .ref q76, .int (0 : Int32), .ref q82, .ref q88, .int (0 : Int32), .int (0 : Int32), .int (0 : Int32), .ref q94, .int (0 : Int32), .int (0 : Int32), .int (0 : Int32), .int (0 : Int32), .int (0 : Int32), .long (0 : Int64)])), rI q1 cI 4096 (fun _ => 0), rI q10 cI 240 (fun _ => 0), rI q16 cI 240 (fun _ => 0), rI q22 cI 240 (fun _ => 0), rI q28 cI 240 (fun _ => 0), rI q34 cI 15360 (fun _ => 0), rI q40 cI 15360 (fun _ => 0), rI q46 cI 96 (fun _ => 0), rI q52 cI 128 (fun _ => 0), rI q58 cI 128 (fun _ => 0), rI q64 cI 128 (fun _ => 0), rI q70 cI 240 (fun _ => 0), rI q76 cZ 240 (fun _ => 0), rI q82 cI 6300 (fun _ => 0), rI q88 cI 6300 (fun _ => 0), rI q94 cI 200 (fun _ => 0)]) (v := (some (.int r100))) hx hb hml hown htc hN (c_X10_between l G cI cZ cJ p1 (1 : Int32) (8 : Int32) hm101) mw_944 mw_945 mw_12 mw_946 hs_X10_between ⟨rfl, rfl⟩ ⟨Nat.le_of_ble_eq_true rfl, Nat.le_of_ble_eq_true rfl⟩ hK hw98 hA [] [0, 1, 2, 3, 4, 5, 6, 7, 8, 9, 10, 11, 12, 13, 14, 15, 16] [0, 1, 2, 3, 4, 5, 6, 7, 8, 9, 10, 11, 12, 13, 14, 15, 16] rfl rfl rfl rfl rfl (by decide) rfl rfl rfl rfl hl0.1 rfl rfl (Nat.le_of_ble_eq_true rfl) dX10_init_157 ⟨Nat.le_of_ble_eq_true rfl, Nat.le_of_ble_eq_true rfl⟩ (fun H102 lc103 hw104 => ?_)
  refine va_putF (D := G) (ci := 10) (v := .int r100) (ty := .int) (C := RX10) (T := TX10) (N := 40) hx hb htc iX10 tyX10 tyX10_ok nmX10 hown hK hw104.1 hw104.2.1 hw104.2.2 0 rfl rfl 1 (by decide) (htc _ mw_948) (fun _ h9 => h9) rfl hin rfl (tyX10_ok 1 (by decide)) rfl rfl (Nat.le_of_ble_eq_true rfl) dX10_init_160 (fun H105 lc107 hP hD hS => ?_)
  have hw106 : wS G A s H105 lc107 [(a0, .inr (10, [.int (0 : Int32), .int r100, .int (0 : Int32), .int (0 : Int32), .ref q1, .int (0 : Int32), .int (-1 : Int32), .int (0 : Int32), .int (0 : Int32), .int (0 : Int32), .int (0 : Int32), .ref q10, .ref q16, .ref q22, .ref q28, .ref q34, .ref q40, .ref q46, .int (0 : Int32), .int (0 : Int32), .int (0 : Int32), .ref q52, .ref q58, .ref q64, .int (0 : Int32), .ref q70, .ref q76, .int (0 : Int32), .ref q82, .ref q88, .int (0 : Int32), .int (0 : Int32), .int (0 : Int32), .ref q94, .int (0 : Int32), .int (0 : Int32), .int (0 : Int32), .int (0 : Int32), .int (0 : Int32), .long (0 : Int64)])), rI q1 cI 4096 (fun _ => 0), rI q10 cI 240 (fun _ => 0), rI q16 cI 240 (fun _ => 0), rI q22 cI 240 (fun _ => 0), rI q28 cI 240 (fun _ => 0), rI q34 cI 15360 (fun _ => 0), rI q40 cI 15360 (fun _ => 0), rI q46 cI 96 (fun _ => 0), rI q52 cI 128 (fun _ => 0), rI q58 cI 128 (fun _ => 0), rI q64 cI 128 (fun _ => 0), rI q70 cI 240 (fun _ => 0), rI q76 cZ 240 (fun _ => 0), rI q82 cI 6300 (fun _ => 0), rI q88 cI 6300 (fun _ => 0), rI q94 cI 200 (fun _ => 0)] := ⟨hP, hD, hS⟩
  clear hP hD hS hw104
  refine lv_aload_n hx hb dX10_init_163 rfl (lv_at hl0 0 rfl) ?_
  refine lv_iload_n hx hb dX10_init_164 rfl (lv_at hl0 2 rfl) ?_
  refine lv_iconst (v := (2 : Int32)) hx hb dX10_init_165 (by decide) ?_
  refine lv_bipush (v := (64 : Int32)) hx hb dX10_init_166 (by decide) ?_
  refine ctS (As := [.int p2, .int (2 : Int32), .int (64 : Int32)]) (rest := [.ref a0]) (st1 := [.int r108, .ref a0]) (wc := []) (w1 := []) (wr := [(a0, .inr (10, [.int (0 : Int32), .int r100, .int (0 : Int32), .int (0 : Int32), .ref q1, .int (0 : Int32), .int (-1 : Int32), .int (0 : Int32), .int (0 : Int32), .int (0 : Int32), .int (0 : Int32), .ref q10, .ref q16, .ref q22, .ref q28, .ref q34, .ref q40, .ref q46, .int (0 : Int32), .int (0 : Int32), .int (0 : Int32), .ref q52, .ref q58, .ref q64, .int (0 : Int32), .ref q70, .ref q76, .int (0 : Int32), .ref q82, .ref q88, .int (0 : Int32), .int (0 : Int32), .int (0 : Int32), .ref q94, .int (0 : Int32), .int (0 : Int32), .int (0 : Int32), .int (0 : Int32), .int (0 : Int32), .long (0 : Int64)])), rI q1 cI 4096 (fun _ => 0), rI q10 cI 240 (fun _ => 0), rI q16 cI 240 (fun _ => 0), rI q22 cI 240 (fun _ => 0), rI q28 cI 240 (fun _ => 0), rI q34 cI 15360 (fun _ => 0), rI q40 cI 15360 (fun _ => 0), rI q46 cI 96 (fun _ => 0), rI q52 cI 128 (fun _ => 0), rI q58 cI 128 (fun _ => 0), rI q64 cI 128 (fun _ => 0), rI q70 cI 240 (fun _ => 0), rI q76 cZ 240 (fun _ => 0), rI q82 cI 6300 (fun _ => 0), rI q88 cI 6300 (fun _ => 0), rI q94 cI 200 (fun _ => 0)]) (wb := [(a0, .inr (10, [.int (0 : Int32), .int r100, .int (0 : Int32), .int (0 : Int32), .ref q1, .int (0 : Int32), .int (-1 : Int32), .int (0 : Int32), .int (0 : Int32), .int (0 : Int32), .int (0 : Int32), .ref q10, .ref q16, .ref q22, .ref q28, .ref q34, .ref q40, .ref q46, .int (0 : Int32), .int (0 : Int32), .int (0 : Int32), .ref q52, .ref q58, .ref q64, .int (0 : Int32), .ref q70, .ref q76, .int (0 : Int32), .ref q82, .ref q88, .int (0 : Int32), .int (0 : Int32), .int (0 : Int32), .ref q94, .int (0 : Int32), .int (0 : Int32), .int (0 : Int32), .int (0 : Int32), .int (0 : Int32), .long (0 : Int64)])), rI q1 cI 4096 (fun _ => 0), rI q10 cI 240 (fun _ => 0), rI q16 cI 240 (fun _ => 0), rI q22 cI 240 (fun _ => 0), rI q28 cI 240 (fun _ => 0), rI q34 cI 15360 (fun _ => 0), rI q40 cI 15360 (fun _ => 0), rI q46 cI 96 (fun _ => 0), rI q52 cI 128 (fun _ => 0), rI q58 cI 128 (fun _ => 0), rI q64 cI 128 (fun _ => 0), rI q70 cI 240 (fun _ => 0), rI q76 cZ 240 (fun _ => 0), rI q82 cI 6300 (fun _ => 0), rI q88 cI 6300 (fun _ => 0), rI q94 cI 200 (fun _ => 0)]) (v := (some (.int r108))) hx hb hml hown htc hN (c_X10_between l G cI cZ cJ p2 (2 : Int32) (64 : Int32) hm109) mw_944 mw_945 mw_12 mw_946 hs_X10_between ⟨rfl, rfl⟩ ⟨Nat.le_of_ble_eq_true rfl, Nat.le_of_ble_eq_true rfl⟩ hK hw106 hA [] [0, 1, 2, 3, 4, 5, 6, 7, 8, 9, 10, 11, 12, 13, 14, 15, 16] [0, 1, 2, 3, 4, 5, 6, 7, 8, 9, 10, 11, 12, 13, 14, 15, 16] rfl rfl rfl rfl rfl (by decide) rfl rfl rfl rfl hl0.1 rfl rfl (Nat.le_of_ble_eq_true rfl) dX10_init_168 ⟨Nat.le_of_ble_eq_true rfl, Nat.le_of_ble_eq_true rfl⟩ (fun H110 lc111 hw112 => ?_)
  refine va_putF (D := G) (ci := 10) (v := .int r108) (ty := .int) (C := RX10) (T := TX10) (N := 40) hx hb htc iX10 tyX10 tyX10_ok nmX10 hown hK hw112.1 hw112.2.1 hw112.2.2 0 rfl rfl 2 (by decide) (htc _ mw_949) (fun _ h9 => h9) rfl hin rfl (tyX10_ok 2 (by decide)) rfl rfl (Nat.le_of_ble_eq_true rfl) dX10_init_171 (fun H113 lc115 hP hD hS => ?_)
  have hw114 : wS G A s H113 lc115 [(a0, .inr (10, [.int (0 : Int32), .int r100, .int r108, .int (0 : Int32), .ref q1, .int (0 : Int32), .int (-1 : Int32), .int (0 : Int32), .int (0 : Int32), .int (0 : Int32), .int (0 : Int32), .ref q10, .ref q16, .ref q22, .ref q28, .ref q34, .ref q40, .ref q46, .int (0 : Int32), .int (0 : Int32), .int (0 : Int32), .ref q52, .ref q58, .ref q64, .int (0 : Int32), .ref q70, .ref q76, .int (0 : Int32), .ref q82, .ref q88, .int (0 : Int32), .int (0 : Int32), .int (0 : Int32), .ref q94, .int (0 : Int32), .int (0 : Int32), .int (0 : Int32), .int (0 : Int32), .int (0 : Int32), .long (0 : Int64)])), rI q1 cI 4096 (fun _ => 0), rI q10 cI 240 (fun _ => 0), rI q16 cI 240 (fun _ => 0), rI q22 cI 240 (fun _ => 0), rI q28 cI 240 (fun _ => 0), rI q34 cI 15360 (fun _ => 0), rI q40 cI 15360 (fun _ => 0), rI q46 cI 96 (fun _ => 0), rI q52 cI 128 (fun _ => 0), rI q58 cI 128 (fun _ => 0), rI q64 cI 128 (fun _ => 0), rI q70 cI 240 (fun _ => 0), rI q76 cZ 240 (fun _ => 0), rI q82 cI 6300 (fun _ => 0), rI q88 cI 6300 (fun _ => 0), rI q94 cI 200 (fun _ => 0)] := ⟨hP, hD, hS⟩
  clear hP hD hS hw112
  refine lv_aload_n hx hb dX10_init_174 rfl (lv_at hl0 0 rfl) ?_
  refine lv_iload_n hx hb dX10_init_175 rfl (lv_at hl0 3 rfl) ?_
  refine lv_iconst (v := (2 : Int32)) hx hb dX10_init_176 (by decide) ?_
  refine lv_bipush (v := (8 : Int32)) hx hb dX10_init_177 (by decide) ?_
  refine ctS (As := [.int p3, .int (2 : Int32), .int (8 : Int32)]) (rest := [.ref a0]) (st1 := [.int r116, .ref a0]) (wc := []) (w1 := []) (wr := [(a0, .inr (10, [.int (0 : Int32), .int r100, .int r108, .int (0 : Int32), .ref q1, .int (0 : Int32), .int (-1 : Int32), .int (0 : Int32), .int (0 : Int32), .int (0 : Int32), .int (0 : Int32), .ref q10, .ref q16, .ref q22, .ref q28, .ref q34, .ref q40, .ref q46, .int (0 : Int32), .int (0 : Int32), .int (0 : Int32), .ref q52, .ref q58, .ref q64, .int (0 : Int32), .ref q70, .ref q76, .int (0 : Int32), .ref q82, .ref q88, .int (0 : Int32), .int (0 : Int32), .int (0 : Int32), .ref q94, .int (0 : Int32), .int (0 : Int32), .int (0 : Int32), .int (0 : Int32), .int (0 : Int32), .long (0 : Int64)])), rI q1 cI 4096 (fun _ => 0), rI q10 cI 240 (fun _ => 0), rI q16 cI 240 (fun _ => 0), rI q22 cI 240 (fun _ => 0), rI q28 cI 240 (fun _ => 0), rI q34 cI 15360 (fun _ => 0), rI q40 cI 15360 (fun _ => 0), rI q46 cI 96 (fun _ => 0), rI q52 cI 128 (fun _ => 0), rI q58 cI 128 (fun _ => 0), rI q64 cI 128 (fun _ => 0), rI q70 cI 240 (fun _ => 0), rI q76 cZ 240 (fun _ => 0), rI q82 cI 6300 (fun _ => 0), rI q88 cI 6300 (fun _ => 0), rI q94 cI 200 (fun _ => 0)]) (wb := [(a0, .inr (10, [.int (0 : Int32), .int r100, .int r108, .int (0 : Int32), .ref q1, .int (0 : Int32), .int (-1 : Int32), .int (0 : Int32), .int (0 : Int32), .int (0 : Int32), .int (0 : Int32), .ref q10, .ref q16, .ref q22, .ref q28, .ref q34, .ref q40, .ref q46, .int (0 : Int32), .int (0 : Int32), .int (0 : Int32), .ref q52, .ref q58, .ref q64, .int (0 : Int32), .ref q70, .ref q76, .int (0 : Int32), .ref q82, .ref q88, .int (0 : Int32), .int (0 : Int32), .int (0 : Int32), .ref q94, .int (0 : Int32), .int (0 : Int32), .int (0 : Int32), .int (0 : Int32), .int (0 : Int32), .long (0 : Int64)])), rI q1 cI 4096 (fun _ => 0), rI q10 cI 240 (fun _ => 0), rI q16 cI 240 (fun _ => 0), rI q22 cI 240 (fun _ => 0), rI q28 cI 240 (fun _ => 0), rI q34 cI 15360 (fun _ => 0), rI q40 cI 15360 (fun _ => 0), rI q46 cI 96 (fun _ => 0), rI q52 cI 128 (fun _ => 0), rI q58 cI 128 (fun _ => 0), rI q64 cI 128 (fun _ => 0), rI q70 cI 240 (fun _ => 0), rI q76 cZ 240 (fun _ => 0), rI q82 cI 6300 (fun _ => 0), rI q88 cI 6300 (fun _ => 0), rI q94 cI 200 (fun _ => 0)]) (v := (some (.int r116))) hx hb hml hown htc hN (c_X10_between l G cI cZ cJ p3 (2 : Int32) (8 : Int32) hm117) mw_944 mw_945 mw_12 mw_946 hs_X10_between ⟨rfl, rfl⟩ ⟨Nat.le_of_ble_eq_true rfl, Nat.le_of_ble_eq_true rfl⟩ hK hw114 hA [] [0, 1, 2, 3, 4, 5, 6, 7, 8, 9, 10, 11, 12, 13, 14, 15, 16] [0, 1, 2, 3, 4, 5, 6, 7, 8, 9, 10, 11, 12, 13, 14, 15, 16] rfl rfl rfl rfl rfl (by decide) rfl rfl rfl rfl hl0.1 rfl rfl (Nat.le_of_ble_eq_true rfl) dX10_init_179 ⟨Nat.le_of_ble_eq_true rfl, Nat.le_of_ble_eq_true rfl⟩ (fun H118 lc119 hw120 => ?_)
  refine va_putF (D := G) (ci := 10) (v := .int r116) (ty := .int) (C := RX10) (T := TX10) (N := 40) hx hb htc iX10 tyX10 tyX10_ok nmX10 hown hK hw120.1 hw120.2.1 hw120.2.2 0 rfl rfl 3 (by decide) (htc _ mw_950) (fun _ h9 => h9) rfl hin rfl (tyX10_ok 3 (by decide)) rfl rfl (Nat.le_of_ble_eq_true rfl) dX10_init_182 (fun H121 lc123 hP hD hS => ?_)
  have hw122 : wS G A s H121 lc123 [(a0, .inr (10, [.int (0 : Int32), .int r100, .int r108, .int r116, .ref q1, .int (0 : Int32), .int (-1 : Int32), .int (0 : Int32), .int (0 : Int32), .int (0 : Int32), .int (0 : Int32), .ref q10, .ref q16, .ref q22, .ref q28, .ref q34, .ref q40, .ref q46, .int (0 : Int32), .int (0 : Int32), .int (0 : Int32), .ref q52, .ref q58, .ref q64, .int (0 : Int32), .ref q70, .ref q76, .int (0 : Int32), .ref q82, .ref q88, .int (0 : Int32), .int (0 : Int32), .int (0 : Int32), .ref q94, .int (0 : Int32), .int (0 : Int32), .int (0 : Int32), .int (0 : Int32), .int (0 : Int32), .long (0 : Int64)])), rI q1 cI 4096 (fun _ => 0), rI q10 cI 240 (fun _ => 0), rI q16 cI 240 (fun _ => 0), rI q22 cI 240 (fun _ => 0), rI q28 cI 240 (fun _ => 0), rI q34 cI 15360 (fun _ => 0), rI q40 cI 15360 (fun _ => 0), rI q46 cI 96 (fun _ => 0), rI q52 cI 128 (fun _ => 0), rI q58 cI 128 (fun _ => 0), rI q64 cI 128 (fun _ => 0), rI q70 cI 240 (fun _ => 0), rI q76 cZ 240 (fun _ => 0), rI q82 cI 6300 (fun _ => 0), rI q88 cI 6300 (fun _ => 0), rI q94 cI 200 (fun _ => 0)] := ⟨hP, hD, hS⟩
  clear hP hD hS hw120
  rw [hQQ]
  exact et_vret hx hb hr hlocks hw122 ⟨q1, q10, q16, q22, q28, q34, q40, q46, q52, q58, q64, q70, q76, q82, q88, q94, rfl⟩ dX10_init_185
