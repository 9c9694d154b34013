theorem dX5_clear_0 : decode cX5_clear 0 = .ok (.aload_n 0, 1) := by decide +kernel
theorem dX5_clear_1 : decode cX5_clear 1 = .ok (.iconst 0, 1) := by decide +kernel
theorem dX5_clear_2 : decode cX5_clear 2 = .ok (.putfield 15, 3) := by decide +kernel
theorem dX5_clear_5 : decode cX5_clear 5 = .ok (.aload_n 0, 1) := by decide +kernel
theorem dX5_clear_6 : decode cX5_clear 6 = .ok (.iconst 0, 1) := by decide +kernel
theorem dX5_clear_7 : decode cX5_clear 7 = .ok (.putfield 19, 3) := by decide +kernel
theorem dX5_clear_10 : decode cX5_clear 10 = .ok (.aload_n 0, 1) := by decide +kernel
theorem dX5_clear_11 : decode cX5_clear 11 = .ok (.iconst 0, 1) := by decide +kernel
theorem dX5_clear_12 : decode cX5_clear 12 = .ok (.putfield 22, 3) := by decide +kernel
theorem dX5_clear_15 : decode cX5_clear 15 = .ok (.return_, 1) := by decide +kernel
theorem dX5_used_0 : decode cX5_used 0 = .ok (.aload_n 0, 1) := by decide +kernel
theorem dX5_used_1 : decode cX5_used 1 = .ok (.getfield 15, 3) := by decide +kernel
theorem dX5_used_4 : decode cX5_used 4 = .ok (.ireturn, 1) := by decide +kernel
theorem dX5_isFull_0 : decode cX5_isFull 0 = .ok (.aload_n 0, 1) := by decide +kernel
theorem dX5_isFull_1 : decode cX5_isFull 1 = .ok (.getfield 22, 3) := by decide +kernel
theorem dX5_isFull_4 : decode cX5_isFull 4 = .ok (.ireturn, 1) := by decide +kernel
theorem dX5_at_0 : decode cX5_at 0 = .ok (.iload_n 1, 1) := by decide +kernel
theorem dX5_at_1 : decode cX5_at 1 = .ok (.ifCond .lt 20, 3) := by decide +kernel
theorem dX5_at_4 : decode cX5_at 4 = .ok (.iload_n 1, 1) := by decide +kernel
theorem dX5_at_5 : decode cX5_at 5 = .ok (.aload_n 0, 1) := by decide +kernel
theorem dX5_at_6 : decode cX5_at 6 = .ok (.getfield 15, 3) := by decide +kernel
theorem dX5_at_9 : decode cX5_at 9 = .ok (.if_icmp .ge 12, 3) := by decide +kernel
theorem dX5_at_12 : decode cX5_at 12 = .ok (.aload_n 0, 1) := by decide +kernel
theorem dX5_at_13 : decode cX5_at 13 = .ok (.getfield 9, 3) := by decide +kernel
theorem dX5_at_16 : decode cX5_at 16 = .ok (.iload_n 1, 1) := by decide +kernel
theorem dX5_at_17 : decode cX5_at 17 = .ok (.iaload, 1) := by decide +kernel
theorem dX5_at_18 : decode cX5_at 18 = .ok (.goto 4, 3) := by decide +kernel
theorem dX5_at_21 : decode cX5_at 21 = .ok (.iconst 0, 1) := by decide +kernel
theorem dX5_at_22 : decode cX5_at 22 = .ok (.ireturn, 1) := by decide +kernel
theorem dX5_packFirst_0 : decode cX5_packFirst 0 = .ok (.aload_n 0, 1) := by decide +kernel
theorem dX5_packFirst_1 : decode cX5_packFirst 1 = .ok (.iload_n 1, 1) := by decide +kernel
theorem dX5_packFirst_2 : decode cX5_packFirst 2 = .ok (.invokevirtual 36, 3) := by decide +kernel
theorem dX5_packFirst_5 : decode cX5_packFirst 5 = .ok (.aload_n 0, 1) := by decide +kernel
theorem dX5_packFirst_6 : decode cX5_packFirst 6 = .ok (.iload_n 2, 1) := by decide +kernel
theorem dX5_packFirst_7 : decode cX5_packFirst 7 = .ok (.invokevirtual 36, 3) := by decide +kernel
theorem dX5_packFirst_10 : decode cX5_packFirst 10 = .ok (.aload_n 0, 1) := by decide +kernel
theorem dX5_packFirst_11 : decode cX5_packFirst 11 = .ok (.iconst 0, 1) := by decide +kernel
theorem dX5_packFirst_12 : decode cX5_packFirst 12 = .ok (.putfield 19, 3) := by decide +kernel
theorem dX5_packFirst_15 : decode cX5_packFirst 15 = .ok (.aload_n 0, 1) := by decide +kernel
theorem dX5_packFirst_16 : decode cX5_packFirst 16 = .ok (.iload_n 1, 1) := by decide +kernel
theorem dX5_packFirst_17 : decode cX5_packFirst 17 = .ok (.putfield 26, 3) := by decide +kernel
theorem dX5_packFirst_20 : decode cX5_packFirst 20 = .ok (.aload_n 0, 1) := by decide +kernel
theorem dX5_packFirst_21 : decode cX5_packFirst 21 = .ok (.iload_n 2, 1) := by decide +kernel
theorem dX5_packFirst_22 : decode cX5_packFirst 22 = .ok (.putfield 29, 3) := by decide +kernel
theorem dX5_packFirst_25 : decode cX5_packFirst 25 = .ok (.aload_n 0, 1) := by decide +kernel
theorem dX5_packFirst_26 : decode cX5_packFirst 26 = .ok (.lconst 0, 1) := by decide +kernel
theorem dX5_packFirst_27 : decode cX5_packFirst 27 = .ok (.putfield 32, 3) := by decide +kernel
theorem dX5_packFirst_30 : decode cX5_packFirst 30 = .ok (.return_, 1) := by decide +kernel
theorem dX5_packFurther_0 : decode cX5_packFurther 0 = .ok (.iload_n 1, 1) := by decide +kernel
theorem dX5_packFurther_1 : decode cX5_packFurther 1 = .ok (.i2l, 1) := by decide +kernel
theorem dX5_packFurther_2 : decode cX5_packFurther 2 = .ok (.aload_n 0, 1) := by decide +kernel
theorem dX5_packFurther_3 : decode cX5_packFurther 3 = .ok (.getfield 26, 3) := by decide +kernel
theorem dX5_packFurther_6 : decode cX5_packFurther 6 = .ok (.i2l, 1) := by decide +kernel
theorem dX5_packFurther_7 : decode cX5_packFurther 7 = .ok (.lsub, 1) := by decide +kernel
theorem dX5_packFurther_8 : decode cX5_packFurther 8 = .ok (.lstore_n 3, 1) := by decide +kernel
theorem dX5_packFurther_9 : decode cX5_packFurther 9 = .ok (.aload_n 0, 1) := by decide +kernel
theorem dX5_packFurther_10 : decode cX5_packFurther 10 = .ok (.lload_n 3, 1) := by decide +kernel
theorem dX5_packFurther_11 : decode cX5_packFurther 11 = .ok (.aload_n 0, 1) := by decide +kernel
theorem dX5_packFurther_12 : decode cX5_packFurther 12 = .ok (.getfield 32, 3) := by decide +kernel
theorem dX5_packFurther_15 : decode cX5_packFurther 15 = .ok (.lsub, 1) := by decide +kernel
theorem dX5_packFurther_16 : decode cX5_packFurther 16 = .ok (.invokevirtual 40, 3) := by decide +kernel
theorem dX5_packFurther_19 : decode cX5_packFurther 19 = .ok (.aload_n 0, 1) := by decide +kernel
theorem dX5_packFurther_20 : decode cX5_packFurther 20 = .ok (.iload_n 2, 1) := by decide +kernel
theorem dX5_packFurther_21 : decode cX5_packFurther 21 = .ok (.aload_n 0, 1) := by decide +kernel
theorem dX5_packFurther_22 : decode cX5_packFurther 22 = .ok (.getfield 29, 3) := by decide +kernel
theorem dX5_packFurther_25 : decode cX5_packFurther 25 = .ok (.isub, 1) := by decide +kernel
theorem dX5_packFurther_26 : decode cX5_packFurther 26 = .ok (.invokevirtual 44, 3) := by decide +kernel
theorem dX5_packFurther_29 : decode cX5_packFurther 29 = .ok (.aload_n 0, 1) := by decide +kernel
theorem dX5_packFurther_30 : decode cX5_packFurther 30 = .ok (.iload_n 1, 1) := by decide +kernel
theorem dX5_packFurther_31 : decode cX5_packFurther 31 = .ok (.putfield 26, 3) := by decide +kernel
theorem dX5_packFurther_34 : decode cX5_packFurther 34 = .ok (.aload_n 0, 1) := by decide +kernel
theorem dX5_packFurther_35 : decode cX5_packFurther 35 = .ok (.iload_n 2, 1) := by decide +kernel
theorem dX5_packFurther_36 : decode cX5_packFurther 36 = .ok (.putfield 29, 3) := by decide +kernel
theorem dX5_packFurther_39 : decode cX5_packFurther 39 = .ok (.aload_n 0, 1) := by decide +kernel
theorem dX5_packFurther_40 : decode cX5_packFurther 40 = .ok (.lload_n 3, 1) := by decide +kernel
theorem dX5_packFurther_41 : decode cX5_packFurther 41 = .ok (.putfield 32, 3) := by decide +kernel
theorem dX5_packFurther_44 : decode cX5_packFurther 44 = .ok (.return_, 1) := by decide +kernel
theorem dX5_packChange_0 : decode cX5_packChange 0 = .ok (.lload_n 1, 1) := by decide +kernel
theorem dX5_packChange_1 : decode cX5_packChange 1 = .ok (.lconst 0, 1) := by decide +kernel
theorem dX5_packChange_2 : decode cX5_packChange 2 = .ok (.lcmp, 1) := by decide +kernel
theorem dX5_packChange_3 : decode cX5_packChange 3 = .ok (.ifCond .ne 12, 3) := by decide +kernel
theorem dX5_packChange_6 : decode cX5_packChange 6 = .ok (.aload_n 0, 1) := by decide +kernel
theorem dX5_packChange_7 : decode cX5_packChange 7 = .ok (.lconst 0, 1) := by decide +kernel
theorem dX5_packChange_8 : decode cX5_packChange 8 = .ok (.iconst 1, 1) := by decide +kernel
theorem dX5_packChange_9 : decode cX5_packChange 9 = .ok (.invokevirtual 47, 3) := by decide +kernel
theorem dX5_packChange_12 : decode cX5_packChange 12 = .ok (.goto 136, 3) := by decide +kernel
theorem dX5_packChange_15 : decode cX5_packChange 15 = .ok (.lload_n 1, 1) := by decide +kernel
theorem dX5_packChange_16 : decode cX5_packChange 16 = .ok (.ldc2_w 51, 3) := by decide +kernel
theorem dX5_packChange_19 : decode cX5_packChange 19 = .ok (.lcmp, 1) := by decide +kernel
theorem dX5_packChange_20 : decode cX5_packChange 20 = .ok (.ifCond .lt 33, 3) := by decide +kernel
theorem dX5_packChange_23 : decode cX5_packChange 23 = .ok (.lload_n 1, 1) := by decide +kernel
theorem dX5_packChange_24 : decode cX5_packChange 24 = .ok (.ldc2_w 53, 3) := by decide +kernel
theorem dX5_packChange_27 : decode cX5_packChange 27 = .ok (.lcmp, 1) := by decide +kernel
theorem dX5_packChange_28 : decode cX5_packChange 28 = .ok (.ifCond .ge 25, 3) := by decide +kernel
theorem dX5_packChange_31 : decode cX5_packChange 31 = .ok (.aload_n 0, 1) := by decide +kernel
theorem dX5_packChange_32 : decode cX5_packChange 32 = .ok (.ldc2_w 55, 3) := by decide +kernel
theorem dX5_packChange_35 : decode cX5_packChange 35 = .ok (.iconst 2, 1) := by decide +kernel
theorem dX5_packChange_36 : decode cX5_packChange 36 = .ok (.invokevirtual 47, 3) := by decide +kernel
theorem dX5_packChange_39 : decode cX5_packChange 39 = .ok (.aload_n 0, 1) := by decide +kernel
theorem dX5_packChange_40 : decode cX5_packChange 40 = .ok (.lload_n 1, 1) := by decide +kernel
theorem dX5_packChange_41 : decode cX5_packChange 41 = .ok (.ldc2_w 53, 3) := by decide +kernel
theorem dX5_packChange_44 : decode cX5_packChange 44 = .ok (.ladd, 1) := by decide +kernel
theorem dX5_packChange_45 : decode cX5_packChange 45 = .ok (.bipush 7, 2) := by decide +kernel
theorem dX5_packChange_47 : decode cX5_packChange 47 = .ok (.invokevirtual 47, 3) := by decide +kernel
theorem dX5_packChange_50 : decode cX5_packChange 50 = .ok (.goto 98, 3) := by decide +kernel
theorem dX5_packChange_53 : decode cX5_packChange 53 = .ok (.lload_n 1, 1) := by decide +kernel
theorem dX5_packChange_54 : decode cX5_packChange 54 = .ok (.ldc2_w 57, 3) := by decide +kernel
theorem dX5_packChange_57 : decode cX5_packChange 57 = .ok (.lcmp, 1) := by decide +kernel
theorem dX5_packChange_58 : decode cX5_packChange 58 = .ok (.ifCond .lt 33, 3) := by decide +kernel
theorem dX5_packChange_61 : decode cX5_packChange 61 = .ok (.lload_n 1, 1) := by decide +kernel
theorem dX5_packChange_62 : decode cX5_packChange 62 = .ok (.ldc2_w 59, 3) := by decide +kernel
theorem dX5_packChange_65 : decode cX5_packChange 65 = .ok (.lcmp, 1) := by decide +kernel
theorem dX5_packChange_66 : decode cX5_packChange 66 = .ok (.ifCond .ge 25, 3) := by decide +kernel
theorem dX5_packChange_69 : decode cX5_packChange 69 = .ok (.aload_n 0, 1) := by decide +kernel
theorem dX5_packChange_70 : decode cX5_packChange 70 = .ok (.ldc2_w 61, 3) := by decide +kernel
theorem dX5_packChange_73 : decode cX5_packChange 73 = .ok (.iconst 3, 1) := by decide +kernel
theorem dX5_packChange_74 : decode cX5_packChange 74 = .ok (.invokevirtual 47, 3) := by decide +kernel
theorem dX5_packChange_77 : decode cX5_packChange 77 = .ok (.aload_n 0, 1) := by decide +kernel
theorem dX5_packChange_78 : decode cX5_packChange 78 = .ok (.lload_n 1, 1) := by decide +kernel
theorem dX5_packChange_79 : decode cX5_packChange 79 = .ok (.ldc2_w 59, 3) := by decide +kernel
theorem dX5_packChange_82 : decode cX5_packChange 82 = .ok (.ladd, 1) := by decide +kernel
theorem dX5_packChange_83 : decode cX5_packChange 83 = .ok (.bipush 9, 2) := by decide +kernel
theorem dX5_packChange_85 : decode cX5_packChange 85 = .ok (.invokevirtual 47, 3) := by decide +kernel
theorem dX5_packChange_88 : decode cX5_packChange 88 = .ok (.goto 60, 3) := by decide +kernel
theorem dX5_packChange_91 : decode cX5_packChange 91 = .ok (.lload_n 1, 1) := by decide +kernel
theorem dX5_packChange_92 : decode cX5_packChange 92 = .ok (.ldc2_w 63, 3) := by decide +kernel
theorem dX5_packChange_95 : decode cX5_packChange 95 = .ok (.lcmp, 1) := by decide +kernel
theorem dX5_packChange_96 : decode cX5_packChange 96 = .ok (.ifCond .lt 33, 3) := by decide +kernel
theorem dX5_packChange_99 : decode cX5_packChange 99 = .ok (.lload_n 1, 1) := by decide +kernel
theorem dX5_packChange_100 : decode cX5_packChange 100 = .ok (.ldc2_w 65, 3) := by decide +kernel
theorem dX5_packChange_103 : decode cX5_packChange 103 = .ok (.lcmp, 1) := by decide +kernel
theorem dX5_packChange_104 : decode cX5_packChange 104 = .ok (.ifCond .ge 25, 3) := by decide +kernel
theorem dX5_packChange_107 : decode cX5_packChange 107 = .ok (.aload_n 0, 1) := by decide +kernel
theorem dX5_packChange_108 : decode cX5_packChange 108 = .ok (.ldc2_w 67, 3) := by decide +kernel
theorem dX5_packChange_111 : decode cX5_packChange 111 = .ok (.iconst 4, 1) := by decide +kernel
theorem dX5_packChange_112 : decode cX5_packChange 112 = .ok (.invokevirtual 47, 3) := by decide +kernel
theorem dX5_packChange_115 : decode cX5_packChange 115 = .ok (.aload_n 0, 1) := by decide +kernel
theorem dX5_packChange_116 : decode cX5_packChange 116 = .ok (.lload_n 1, 1) := by decide +kernel
theorem dX5_packChange_117 : decode cX5_packChange 117 = .ok (.ldc2_w 65, 3) := by decide +kernel
theorem dX5_packChange_120 : decode cX5_packChange 120 = .ok (.ladd, 1) := by decide +kernel
theorem dX5_packChange_121 : decode cX5_packChange 121 = .ok (.bipush 12, 2) := by decide +kernel
theorem dX5_packChange_123 : decode cX5_packChange 123 = .ok (.invokevirtual 47, 3) := by decide +kernel
theorem dX5_packChange_126 : decode cX5_packChange 126 = .ok (.goto 22, 3) := by decide +kernel
theorem dX5_packChange_129 : decode cX5_packChange 129 = .ok (.aload_n 0, 1) := by decide +kernel
theorem dX5_packChange_130 : decode cX5_packChange 130 = .ok (.ldc2_w 69, 3) := by decide +kernel
theorem dX5_packChange_133 : decode cX5_packChange 133 = .ok (.iconst 4, 1) := by decide +kernel
theorem dX5_packChange_134 : decode cX5_packChange 134 = .ok (.invokevirtual 47, 3) := by decide +kernel
theorem dX5_packChange_137 : decode cX5_packChange 137 = .ok (.aload_n 0, 1) := by decide +kernel
theorem dX5_packChange_138 : decode cX5_packChange 138 = .ok (.lload_n 1, 1) := by decide +kernel
theorem dX5_packChange_139 : decode cX5_packChange 139 = .ok (.ldc2_w 71, 3) := by decide +kernel
theorem dX5_packChange_142 : decode cX5_packChange 142 = .ok (.ladd, 1) := by decide +kernel
theorem dX5_packChange_143 : decode cX5_packChange 143 = .ok (.bipush 34, 2) := by decide +kernel
theorem dX5_packChange_145 : decode cX5_packChange 145 = .ok (.invokevirtual 47, 3) := by decide +kernel
theorem dX5_packChange_148 : decode cX5_packChange 148 = .ok (.return_, 1) := by decide +kernel
theorem dX5_packDifference_0 : decode cX5_packDifference 0 = .ok (.iload_n 1, 1) := by decide +kernel
theorem dX5_packDifference_1 : decode cX5_packDifference 1 = .ok (.ifCond .ge 12, 3) := by decide +kernel
theorem dX5_packDifference_4 : decode cX5_packDifference 4 = .ok (.bipush (-2), 2) := by decide +kernel
theorem dX5_packDifference_6 : decode cX5_packDifference 6 = .ok (.iload_n 1, 1) := by decide +kernel
theorem dX5_packDifference_7 : decode cX5_packDifference 7 = .ok (.imul, 1) := by decide +kernel
theorem dX5_packDifference_8 : decode cX5_packDifference 8 = .ok (.iconst 1, 1) := by decide +kernel
theorem dX5_packDifference_9 : decode cX5_packDifference 9 = .ok (.isub, 1) := by decide +kernel
theorem dX5_packDifference_10 : decode cX5_packDifference 10 = .ok (.goto 6, 3) := by decide +kernel
theorem dX5_packDifference_13 : decode cX5_packDifference 13 = .ok (.iconst 2, 1) := by decide +kernel
theorem dX5_packDifference_14 : decode cX5_packDifference 14 = .ok (.iload_n 1, 1) := by decide +kernel
theorem dX5_packDifference_15 : decode cX5_packDifference 15 = .ok (.imul, 1) := by decide +kernel
theorem dX5_packDifference_16 : decode cX5_packDifference 16 = .ok (.istore_n 2, 1) := by decide +kernel
theorem dX5_packDifference_17 : decode cX5_packDifference 17 = .ok (.iconst 0, 1) := by decide +kernel
theorem dX5_packDifference_18 : decode cX5_packDifference 18 = .ok (.istore_n 3, 1) := by decide +kernel
theorem dX5_packDifference_19 : decode cX5_packDifference 19 = .ok (.iload_n 3, 1) := by decide +kernel
theorem dX5_packDifference_20 : decode cX5_packDifference 20 = .ok (.bipush 32, 2) := by decide +kernel
theorem dX5_packDifference_22 : decode cX5_packDifference 22 = .ok (.if_icmp .ge 30, 3) := by decide +kernel
theorem dX5_packDifference_25 : decode cX5_packDifference 25 = .ok (.iload_n 2, 1) := by decide +kernel
theorem dX5_packDifference_26 : decode cX5_packDifference 26 = .ok (.iload_n 3, 1) := by decide +kernel
theorem dX5_packDifference_27 : decode cX5_packDifference 27 = .ok (.iushr, 1) := by decide +kernel
theorem dX5_packDifference_28 : decode cX5_packDifference 28 = .ok (.ifCond .eq 24, 3) := by decide +kernel
theorem dX5_packDifference_31 : decode cX5_packDifference 31 = .ok (.aload_n 0, 1) := by decide +kernel
theorem dX5_packDifference_32 : decode cX5_packDifference 32 = .ok (.lconst 1, 1) := by decide +kernel
theorem dX5_packDifference_33 : decode cX5_packDifference 33 = .ok (.iconst 1, 1) := by decide +kernel
theorem dX5_packDifference_34 : decode cX5_packDifference 34 = .ok (.invokevirtual 47, 3) := by decide +kernel
theorem dX5_packDifference_37 : decode cX5_packDifference 37 = .ok (.aload_n 0, 1) := by decide +kernel
theorem dX5_packDifference_38 : decode cX5_packDifference 38 = .ok (.iload_n 2, 1) := by decide +kernel
theorem dX5_packDifference_39 : decode cX5_packDifference 39 = .ok (.iload_n 3, 1) := by decide +kernel
theorem dX5_packDifference_40 : decode cX5_packDifference 40 = .ok (.iushr, 1) := by decide +kernel
theorem dX5_packDifference_41 : decode cX5_packDifference 41 = .ok (.i2l, 1) := by decide +kernel
theorem dX5_packDifference_42 : decode cX5_packDifference 42 = .ok (.iconst 4, 1) := by decide +kernel
theorem dX5_packDifference_43 : decode cX5_packDifference 43 = .ok (.invokevirtual 47, 3) := by decide +kernel
theorem dX5_packDifference_46 : decode cX5_packDifference 46 = .ok (.iinc 3 4, 3) := by decide +kernel
theorem dX5_packDifference_49 : decode cX5_packDifference 49 = .ok (.goto (-30), 3) := by decide +kernel
theorem dX5_packDifference_52 : decode cX5_packDifference 52 = .ok (.aload_n 0, 1) := by decide +kernel
theorem dX5_packDifference_53 : decode cX5_packDifference 53 = .ok (.lconst 0, 1) := by decide +kernel
theorem dX5_packDifference_54 : decode cX5_packDifference 54 = .ok (.iconst 1, 1) := by decide +kernel
theorem dX5_packDifference_55 : decode cX5_packDifference 55 = .ok (.invokevirtual 47, 3) := by decide +kernel
theorem dX5_packDifference_58 : decode cX5_packDifference 58 = .ok (.return_, 1) := by decide +kernel
theorem dX5_addBits_0 : decode cX5_addBits 0 = .ok (.iload_n 3, 1) := by decide +kernel
theorem dX5_addBits_1 : decode cX5_addBits 1 = .ok (.iconst 1, 1) := by decide +kernel
theorem dX5_addBits_2 : decode cX5_addBits 2 = .ok (.isub, 1) := by decide +kernel
theorem dX5_addBits_3 : decode cX5_addBits 3 = .ok (.istore 4, 2) := by decide +kernel
theorem dX5_addBits_5 : decode cX5_addBits 5 = .ok (.iload 4, 2) := by decide +kernel
theorem dX5_addBits_7 : decode cX5_addBits 7 = .ok (.ifCond .lt 70, 3) := by decide +kernel
theorem dX5_addBits_10 : decode cX5_addBits 10 = .ok (.aload_n 0, 1) := by decide +kernel
theorem dX5_addBits_11 : decode cX5_addBits 11 = .ok (.getfield 19, 3) := by decide +kernel
theorem dX5_addBits_14 : decode cX5_addBits 14 = .ok (.ifCond .ne 14, 3) := by decide +kernel
theorem dX5_addBits_17 : decode cX5_addBits 17 = .ok (.aload_n 0, 1) := by decide +kernel
theorem dX5_addBits_18 : decode cX5_addBits 18 = .ok (.iconst 0, 1) := by decide +kernel
theorem dX5_addBits_19 : decode cX5_addBits 19 = .ok (.invokevirtual 36, 3) := by decide +kernel
theorem dX5_addBits_22 : decode cX5_addBits 22 = .ok (.aload_n 0, 1) := by decide +kernel
theorem dX5_addBits_23 : decode cX5_addBits 23 = .ok (.bipush 32, 2) := by decide +kernel
theorem dX5_addBits_25 : decode cX5_addBits 25 = .ok (.putfield 19, 3) := by decide +kernel
theorem dX5_addBits_28 : decode cX5_addBits 28 = .ok (.aload_n 0, 1) := by decide +kernel
theorem dX5_addBits_29 : decode cX5_addBits 29 = .ok (.dup, 1) := by decide +kernel
theorem dX5_addBits_30 : decode cX5_addBits 30 = .ok (.getfield 19, 3) := by decide +kernel
theorem dX5_addBits_33 : decode cX5_addBits 33 = .ok (.iconst 1, 1) := by decide +kernel
theorem dX5_addBits_34 : decode cX5_addBits 34 = .ok (.isub, 1) := by decide +kernel
theorem dX5_addBits_35 : decode cX5_addBits 35 = .ok (.putfield 19, 3) := by decide +kernel
theorem dX5_addBits_38 : decode cX5_addBits 38 = .ok (.aload_n 0, 1) := by decide +kernel
theorem dX5_addBits_39 : decode cX5_addBits 39 = .ok (.getfield 15, 3) := by decide +kernel
theorem dX5_addBits_42 : decode cX5_addBits 42 = .ok (.ifCond .le 29, 3) := by decide +kernel
theorem dX5_addBits_45 : decode cX5_addBits 45 = .ok (.aload_n 0, 1) := by decide +kernel
theorem dX5_addBits_46 : decode cX5_addBits 46 = .ok (.getfield 9, 3) := by decide +kernel
theorem dX5_addBits_49 : decode cX5_addBits 49 = .ok (.aload_n 0, 1) := by decide +kernel
theorem dX5_addBits_50 : decode cX5_addBits 50 = .ok (.getfield 15, 3) := by decide +kernel
theorem dX5_addBits_53 : decode cX5_addBits 53 = .ok (.iconst 1, 1) := by decide +kernel
theorem dX5_addBits_54 : decode cX5_addBits 54 = .ok (.isub, 1) := by decide +kernel
theorem dX5_addBits_55 : decode cX5_addBits 55 = .ok (.dup2, 1) := by decide +kernel
theorem dX5_addBits_56 : decode cX5_addBits 56 = .ok (.iaload, 1) := by decide +kernel
theorem dX5_addBits_57 : decode cX5_addBits 57 = .ok (.lload_n 1, 1) := by decide +kernel
theorem dX5_addBits_58 : decode cX5_addBits 58 = .ok (.iload 4, 2) := by decide +kernel
theorem dX5_addBits_60 : decode cX5_addBits 60 = .ok (.lushr, 1) := by decide +kernel
theorem dX5_addBits_61 : decode cX5_addBits 61 = .ok (.lconst 1, 1) := by decide +kernel
theorem dX5_addBits_62 : decode cX5_addBits 62 = .ok (.land, 1) := by decide +kernel
theorem dX5_addBits_63 : decode cX5_addBits 63 = .ok (.l2i, 1) := by decide +kernel
theorem dX5_addBits_64 : decode cX5_addBits 64 = .ok (.aload_n 0, 1) := by decide +kernel
theorem dX5_addBits_65 : decode cX5_addBits 65 = .ok (.getfield 19, 3) := by decide +kernel
theorem dX5_addBits_68 : decode cX5_addBits 68 = .ok (.ishl, 1) := by decide +kernel
theorem dX5_addBits_69 : decode cX5_addBits 69 = .ok (.ior, 1) := by decide +kernel
theorem dX5_addBits_70 : decode cX5_addBits 70 = .ok (.iastore, 1) := by decide +kernel
theorem dX5_addBits_71 : decode cX5_addBits 71 = .ok (.iinc 4 (-1), 3) := by decide +kernel
theorem dX5_addBits_74 : decode cX5_addBits 74 = .ok (.goto (-69), 3) := by decide +kernel
theorem dX5_addBits_77 : decode cX5_addBits 77 = .ok (.return_, 1) := by decide +kernel
theorem dX5_addCell_0 : decode cX5_addCell 0 = .ok (.aload_n 0, 1) := by decide +kernel
theorem dX5_addCell_1 : decode cX5_addCell 1 = .ok (.getfield 15, 3) := by decide +kernel
theorem dX5_addCell_4 : decode cX5_addCell 4 = .ok (.sipush 1661, 3) := by decide +kernel
theorem dX5_addCell_7 : decode cX5_addCell 7 = .ok (.if_icmp .lt 9, 3) := by decide +kernel
theorem dX5_addCell_10 : decode cX5_addCell 10 = .ok (.aload_n 0, 1) := by decide +kernel
theorem dX5_addCell_11 : decode cX5_addCell 11 = .ok (.iconst 1, 1) := by decide +kernel
theorem dX5_addCell_12 : decode cX5_addCell 12 = .ok (.putfield 22, 3) := by decide +kernel
theorem dX5_addCell_15 : decode cX5_addCell 15 = .ok (.return_, 1) := by decide +kernel
theorem dX5_addCell_16 : decode cX5_addCell 16 = .ok (.aload_n 0, 1) := by decide +kernel
theorem dX5_addCell_17 : decode cX5_addCell 17 = .ok (.getfield 9, 3) := by decide +kernel
theorem dX5_addCell_20 : decode cX5_addCell 20 = .ok (.aload_n 0, 1) := by decide +kernel
theorem dX5_addCell_21 : decode cX5_addCell 21 = .ok (.getfield 15, 3) := by decide +kernel
theorem dX5_addCell_24 : decode cX5_addCell 24 = .ok (.iload_n 1, 1) := by decide +kernel
theorem dX5_addCell_25 : decode cX5_addCell 25 = .ok (.iastore, 1) := by decide +kernel
theorem dX5_addCell_26 : decode cX5_addCell 26 = .ok (.aload_n 0, 1) := by decide +kernel
theorem dX5_addCell_27 : decode cX5_addCell 27 = .ok (.dup, 1) := by decide +kernel
theorem dX5_addCell_28 : decode cX5_addCell 28 = .ok (.getfield 15, 3) := by decide +kernel
theorem dX5_addCell_31 : decode cX5_addCell 31 = .ok (.iconst 1, 1) := by decide +kernel
theorem dX5_addCell_32 : decode cX5_addCell 32 = .ok (.iadd, 1) := by decide +kernel
theorem dX5_addCell_33 : decode cX5_addCell 33 = .ok (.putfield 15, 3) := by decide +kernel
theorem dX5_addCell_36 : decode cX5_addCell 36 = .ok (.return_, 1) := by decide +kernel
def m_X5_clear (K_used : Int32) (K_bitsFree : Int32) (K_full : Int32) : Option (Int32 × Int32 × Int32) :=
  some ((0 : Int32), (0 : Int32), (0 : Int32))
abbrev rm_X5_clear : Room := { frames := 0, cells := 0, slots := 0, locals := 0 }
theorem hd_X5_clear : yX5_clear.cls = RX5 ∧ yX5_clear.cls ≠ "java/lang/invoke/MethodHandle" ∧ yX5_clear.cls ≠ "java/lang/invoke/VarHandle" ∧ (parseMethodDescriptor yX5_clear.desc).map (fun d => d.parameters.length) = some 0 := by decide +kernel
set_option maxHeartbeats 4000000 in
set_option maxRecDepth 100000 in
theorem c_X5_clear (l : Launch) (G : va_G) (cI cZ cJ : ClassId) (aK aKc : Nat) (K_used : Int32) (K_bitsFree : Int32) (K_full : Int32) (K_time : Int32) (K_value : Int32) (K_rise : Int64)  {o_K_used : Int32} {o_K_bitsFree : Int32} {o_K_full : Int32} (hfin : m_X5_clear K_used K_bitsFree K_full = some (o_K_used, o_K_bitsFree, o_K_full)) : CT l yX5_clear cX5_clear 1 none rm_X5_clear G (tyC cI cZ cJ) [.ref aK] [(aK, .inr (5, [.ref aKc, .int K_used, .int K_bitsFree, .int K_full, .int K_time, .int K_value, .long K_rise]))] none [(aK, .inr (5, [.ref aKc, .int o_K_used, .int o_K_bitsFree, .int o_K_full, .int K_time, .int K_value, .long K_rise]))] := by
  refine CT.ofW (lvl := [(0, .ref aK)]) (by decide) (Nat.le_of_ble_eq_true rfl) rfl ?_
  intro p e s m args below meth c A ls QQ hQQ hx hb hml hr hlocks htc hN hown hK hA hP hD hS hl
  rw [m_X5_clear] at hfin
  refine lv_aload_n hx hb dX5_clear_0 rfl (lv_at hl 0 rfl) ?_
  refine lv_iconst (v := (0 : Int32)) hx hb dX5_clear_1 (by decide) ?_
  refine va_put (D := G) (ci := 5) (v := .int (0 : Int32)) (ty := .int) (C := RX5) (T := TX5) (N := 7) hx hb htc iX5 tyX5 tyX5_ok nmX5 hown hK hP hD hS 0 rfl rfl 1 (by decide) (htc _ mw_126) (fun _ h9 => h9) rfl (tyX5_ok 1 (by decide)) rfl rfl (Nat.le_of_ble_eq_true rfl) dX5_clear_2 (fun H locs hP hD hS => ?_)
  have hP : va_P G classes [(aK, .inr (5, [.ref aKc, .int (0 : Int32), .int K_bitsFree, .int K_full, .int K_time, .int K_value, .long K_rise]))] H := hP
  have hD : va_D A [(aK, .inr (5, [.ref aKc, .int (0 : Int32), .int K_bitsFree, .int K_full, .int K_time, .int K_value, .long K_rise]))] := hD
  refine lv_aload_n hx hb dX5_clear_5 rfl (lv_at hl 0 rfl) ?_
  refine lv_iconst (v := (0 : Int32)) hx hb dX5_clear_6 (by decide) ?_
  refine va_put (D := G) (ci := 5) (v := .int (0 : Int32)) (ty := .int) (C := RX5) (T := TX5) (N := 7) hx hb htc iX5 tyX5 tyX5_ok nmX5 hown hK hP hD hS 0 rfl rfl 2 (by decide) (htc _ mw_127) (fun _ h9 => h9) rfl (tyX5_ok 2 (by decide)) rfl rfl (Nat.le_of_ble_eq_true rfl) dX5_clear_7 (fun H locs hP hD hS => ?_)
  have hP : va_P G classes [(aK, .inr (5, [.ref aKc, .int (0 : Int32), .int (0 : Int32), .int K_full, .int K_time, .int K_value, .long K_rise]))] H := hP
  have hD : va_D A [(aK, .inr (5, [.ref aKc, .int (0 : Int32), .int (0 : Int32), .int K_full, .int K_time, .int K_value, .long K_rise]))] := hD
  refine lv_aload_n hx hb dX5_clear_10 rfl (lv_at hl 0 rfl) ?_
  refine lv_iconst (v := (0 : Int32)) hx hb dX5_clear_11 (by decide) ?_
  refine va_put (D := G) (ci := 5) (v := .int (0 : Int32)) (ty := .boolean) (C := RX5) (T := TX5) (N := 7) hx hb htc iX5 tyX5 tyX5_ok nmX5 hown hK hP hD hS 0 rfl rfl 3 (by decide) (htc _ mw_128) (fun _ h9 => h9) rfl (tyX5_ok 3 (by decide)) rfl rfl (Nat.le_of_ble_eq_true rfl) dX5_clear_12 (fun H locs hP hD hS => ?_)
  have hP : va_P G classes [(aK, .inr (5, [.ref aKc, .int (0 : Int32), .int (0 : Int32), .int (0 : Int32), .int K_time, .int K_value, .long K_rise]))] H := hP
  have hD : va_D A [(aK, .inr (5, [.ref aKc, .int (0 : Int32), .int (0 : Int32), .int (0 : Int32), .int K_time, .int K_value, .long K_rise]))] := hD
  cases hfin
  rw [hQQ]
  exact ct_vret hx hb hr hlocks hP hD hS dX5_clear_15
def m_X5_used (K_used : Int32) : Option (Int32) :=
  some (K_used)
abbrev rm_X5_used : Room := { frames := 0, cells := 0, slots := 0, locals := 0 }
theorem hd_X5_used : yX5_used.cls = RX5 ∧ yX5_used.cls ≠ "java/lang/invoke/MethodHandle" ∧ yX5_used.cls ≠ "java/lang/invoke/VarHandle" ∧ (parseMethodDescriptor yX5_used.desc).map (fun d => d.parameters.length) = some 0 := by decide +kernel
set_option maxHeartbeats 4000000 in
set_option maxRecDepth 100000 in
theorem c_X5_used (l : Launch) (G : va_G) (cI cZ cJ : ClassId) (aK aKc : Nat) (K_used : Int32) (K_bitsFree : Int32) (K_full : Int32) (K_time : Int32) (K_value : Int32) (K_rise : Int64)  {r : Int32} (hfin : m_X5_used K_used = some (r)) : CT l yX5_used cX5_used 1 (some .int) rm_X5_used G (tyC cI cZ cJ) [.ref aK] [(aK, .inr (5, [.ref aKc, .int K_used, .int K_bitsFree, .int K_full, .int K_time, .int K_value, .long K_rise]))] (some (.int r)) [(aK, .inr (5, [.ref aKc, .int K_used, .int K_bitsFree, .int K_full, .int K_time, .int K_value, .long K_rise]))] := by
  refine CT.ofW (lvl := [(0, .ref aK)]) (by decide) (Nat.le_of_ble_eq_true rfl) rfl ?_
  intro p e s m args below meth c A ls QQ hQQ hx hb hml hr hlocks htc hN hown hK hA hP hD hS hl
  rw [m_X5_used] at hfin
  refine lv_aload_n hx hb dX5_used_0 rfl (lv_at hl 0 rfl) ?_
  refine va_get (D := G) (ci := 5) (v := .int K_used) (C := RX5) (T := TX5) (N := 7) hx hb htc iX5 hown hK hP 0 rfl rfl 1 (by decide) (htc _ mw_126) (fun _ h9 => h9) rfl dX5_used_1 ?_
  cases hfin
  rw [hQQ]
  exact ct_iret hx hb hr hlocks hP hD hS dX5_used_4
def m_X5_isFull (K_full : Int32) : Option (Int32) :=
  ckz K_full <|
  some (K_full)
abbrev rm_X5_isFull : Room := { frames := 0, cells := 0, slots := 0, locals := 0 }
theorem hd_X5_isFull : yX5_isFull.cls = RX5 ∧ yX5_isFull.cls ≠ "java/lang/invoke/MethodHandle" ∧ yX5_isFull.cls ≠ "java/lang/invoke/VarHandle" ∧ (parseMethodDescriptor yX5_isFull.desc).map (fun d => d.parameters.length) = some 0 := by decide +kernel
set_option maxHeartbeats 4000000 in
set_option maxRecDepth 100000 in
theorem c_X5_isFull (l : Launch) (G : va_G) (cI cZ cJ : ClassId) (aK aKc : Nat) (K_used : Int32) (K_bitsFree : Int32) (K_full : Int32) (K_time : Int32) (K_value : Int32) (K_rise : Int64)  {r : Int32} (hfin : m_X5_isFull K_full = some (r)) : CT l yX5_isFull cX5_isFull 1 (some .boolean) rm_X5_isFull G (tyC cI cZ cJ) [.ref aK] [(aK, .inr (5, [.ref aKc, .int K_used, .int K_bitsFree, .int K_full, .int K_time, .int K_value, .long K_rise]))] (some (.int r)) [(aK, .inr (5, [.ref aKc, .int K_used, .int K_bitsFree, .int K_full, .int K_time, .int K_value, .long K_rise]))] := by
  refine CT.ofW (lvl := [(0, .ref aK)]) (by decide) (Nat.le_of_ble_eq_true rfl) rfl ?_
  intro p e s m args below meth c A ls QQ hQQ hx hb hml hr hlocks htc hN hown hK hA hP hD hS hl
  rw [m_X5_isFull] at hfin
  refine lv_aload_n hx hb dX5_isFull_0 rfl (lv_at hl 0 rfl) ?_
  refine va_get (D := G) (ci := 5) (v := .int K_full) (C := RX5) (T := TX5) (N := 7) hx hb htc iX5 hown hK hP 0 rfl rfl 3 (by decide) (htc _ mw_128) (fun _ h9 => h9) rfl dX5_isFull_1 ?_
  obtain ⟨hz_1, hfin⟩ := ckz_some hfin
  cases hfin
  rw [hQQ]
  exact ct_zret hx hb hr hlocks hz_1 hP hD hS dX5_isFull_4
def m_X5_addCell (K_used : Int32) (K_full : Int32) (K_cells : Nat → Int32) (p0 : Int32) : Option (Int32 × Int32 × (Nat → Int32)) :=
  if K_used < (1661 : Int32) then (
    ckb K_used 1661 <|
    some ((K_used + (1 : Int32)), K_full, (upd K_cells (Int32.toNatClampNeg K_used) p0))) else (
    some (K_used, (1 : Int32), K_cells))
abbrev rm_X5_addCell : Room := { frames := 0, cells := 0, slots := 0, locals := 0 }
theorem hd_X5_addCell : yX5_addCell.cls = RX5 ∧ yX5_addCell.cls ≠ "java/lang/invoke/MethodHandle" ∧ yX5_addCell.cls ≠ "java/lang/invoke/VarHandle" ∧ (parseMethodDescriptor yX5_addCell.desc).map (fun d => d.parameters.length) = some 1 := by decide +kernel
set_option maxHeartbeats 4000000 in
set_option maxRecDepth 100000 in
theorem c_X5_addCell (l : Launch) (G : va_G) (cI cZ cJ : ClassId) (aK aKc : Nat) (K_used : Int32) (K_bitsFree : Int32) (K_full : Int32) (K_time : Int32) (K_value : Int32) (K_rise : Int64) (K_cells : Nat → Int32) (p0 : Int32) {o_K_used : Int32} {o_K_full : Int32} {o_K_cells : Nat → Int32} (hfin : m_X5_addCell K_used K_full K_cells p0 = some (o_K_used, o_K_full, o_K_cells)) : CT l yX5_addCell cX5_addCell 2 none rm_X5_addCell G (tyC cI cZ cJ) [.ref aK, .int p0] [(aK, .inr (5, [.ref aKc, .int K_used, .int K_bitsFree, .int K_full, .int K_time, .int K_value, .long K_rise])), (aKc, .inl (cI, 1661, .inl K_cells))] none [(aK, .inr (5, [.ref aKc, .int o_K_used, .int K_bitsFree, .int o_K_full, .int K_time, .int K_value, .long K_rise])), (aKc, .inl (cI, 1661, .inl o_K_cells))] := by
  refine CT.ofW (lvl := [(0, .ref aK), (1, .int p0)]) (by decide) (Nat.le_of_ble_eq_true rfl) rfl ?_
  intro p e s m args below meth c A ls QQ hQQ hx hb hml hr hlocks htc hN hown hK hA hP hD hS hl
  rw [m_X5_addCell] at hfin
  refine lv_aload_n hx hb dX5_addCell_0 rfl (lv_at hl 0 rfl) ?_
  refine va_get (D := G) (ci := 5) (v := .int K_used) (C := RX5) (T := TX5) (N := 7) hx hb htc iX5 hown hK hP 0 rfl rfl 1 (by decide) (htc _ mw_126) (fun _ h9 => h9) rfl dX5_addCell_1 ?_
  refine lv_sipush (v := (1661 : Int32)) hx hb dX5_addCell_4 (by decide) ?_
  refine lv_icmp_lt (tgt := 16) hx hb dX5_addCell_7 (by decide) (fun c_1 => ?_) (fun c_1 => ?_)
  · have hfin := it_t c_1 hfin
    refine lv_aload_n hx hb dX5_addCell_16 rfl (lv_at hl 0 rfl) ?_
    refine va_get (D := G) (ci := 5) (v := .ref aKc) (C := RX5) (T := TX5) (N := 7) hx hb htc iX5 hown hK hP 0 rfl rfl 0 (by decide) (htc _ mw_125) (fun _ h9 => h9) rfl dX5_addCell_17 ?_
    refine lv_aload_n hx hb dX5_addCell_20 rfl (lv_at hl 0 rfl) ?_
    refine va_get (D := G) (ci := 5) (v := .int K_used) (C := RX5) (T := TX5) (N := 7) hx hb htc iX5 hown hK hP 0 rfl rfl 1 (by decide) (htc _ mw_126) (fun _ h9 => h9) rfl dX5_addCell_21 ?_
    refine lv_iload_n hx hb dX5_addCell_24 rfl (lv_at hl 1 rfl) ?_
    obtain ⟨hin_2, hfin⟩ := ckb_some hfin
    refine va_iast hx hb hK hP hD hS 1 0 rfl rfl hin_2 dX5_addCell_25 (fun H locs hP hD hS => ?_)
    have hP : va_P G classes [(aK, .inr (5, [.ref aKc, .int K_used, .int K_bitsFree, .int K_full, .int K_time, .int K_value, .long K_rise])), (aKc, .inl (cI, 1661, .inl (upd K_cells (Int32.toNatClampNeg K_used) p0)))] H := hP
    have hD : va_D A [(aK, .inr (5, [.ref aKc, .int K_used, .int K_bitsFree, .int K_full, .int K_time, .int K_value, .long K_rise])), (aKc, .inl (cI, 1661, .inl (upd K_cells (Int32.toNatClampNeg K_used) p0)))] := hD
    refine lv_aload_n hx hb dX5_addCell_26 rfl (lv_at hl 0 rfl) ?_
    refine lv_dup hx hb dX5_addCell_27 rfl ?_
    refine va_get (D := G) (ci := 5) (v := .int K_used) (C := RX5) (T := TX5) (N := 7) hx hb htc iX5 hown hK hP 0 rfl rfl 1 (by decide) (htc _ mw_126) (fun _ h9 => h9) rfl dX5_addCell_28 ?_
    refine lv_iconst (v := (1 : Int32)) hx hb dX5_addCell_31 (by decide) ?_
    refine lv_iadd hx hb dX5_addCell_32 ?_
    refine va_put (D := G) (ci := 5) (v := .int (K_used + (1 : Int32))) (ty := .int) (C := RX5) (T := TX5) (N := 7) hx hb htc iX5 tyX5 tyX5_ok nmX5 hown hK hP hD hS 0 rfl rfl 1 (by decide) (htc _ mw_126) (fun _ h9 => h9) rfl (tyX5_ok 1 (by decide)) rfl rfl (Nat.le_of_ble_eq_true rfl) dX5_addCell_33 (fun H locs hP hD hS => ?_)
    have hP : va_P G classes [(aK, .inr (5, [.ref aKc, .int (K_used + (1 : Int32)), .int K_bitsFree, .int K_full, .int K_time, .int K_value, .long K_rise])), (aKc, .inl (cI, 1661, .inl (upd K_cells (Int32.toNatClampNeg K_used) p0)))] H := hP
    have hD : va_D A [(aK, .inr (5, [.ref aKc, .int (K_used + (1 : Int32)), .int K_bitsFree, .int K_full, .int K_time, .int K_value, .long K_rise])), (aKc, .inl (cI, 1661, .inl (upd K_cells (Int32.toNatClampNeg K_used) p0)))] := hD
    cases hfin
    rw [hQQ]
    exact ct_vret hx hb hr hlocks hP hD hS dX5_addCell_36
  · have hfin := it_f c_1 hfin
    refine lv_aload_n hx hb dX5_addCell_10 rfl (lv_at hl 0 rfl) ?_
    refine lv_iconst (v := (1 : Int32)) hx hb dX5_addCell_11 (by decide) ?_
    refine va_put (D := G) (ci := 5) (v := .int (1 : Int32)) (ty := .boolean) (C := RX5) (T := TX5) (N := 7) hx hb htc iX5 tyX5 tyX5_ok nmX5 hown hK hP hD hS 0 rfl rfl 3 (by decide) (htc _ mw_128) (fun _ h9 => h9) rfl (tyX5_ok 3 (by decide)) rfl rfl (Nat.le_of_ble_eq_true rfl) dX5_addCell_12 (fun H locs hP hD hS => ?_)
    have hP : va_P G classes [(aK, .inr (5, [.ref aKc, .int K_used, .int K_bitsFree, .int (1 : Int32), .int K_time, .int K_value, .long K_rise])), (aKc, .inl (cI, 1661, .inl K_cells))] H := hP
    have hD : va_D A [(aK, .inr (5, [.ref aKc, .int K_used, .int K_bitsFree, .int (1 : Int32), .int K_time, .int K_value, .long K_rise])), (aKc, .inl (cI, 1661, .inl K_cells))] := hD
    cases hfin
    rw [hQQ]
    exact ct_vret hx hb hr hlocks hP hD hS dX5_addCell_15
def m_X5_packFirst (K_used : Int32) (K_bitsFree : Int32) (K_full : Int32) (K_time : Int32) (K_value : Int32) (K_rise : Int64) (K_cells : Nat → Int32) (p0 : Int32) (p1 : Int32) : Option (Int32 × Int32 × Int32 × Int32 × Int32 × Int64 × (Nat → Int32)) :=
  ob3 (m_X5_addCell K_used K_full K_cells p0) fun K_used_2 K_full_3 K_cells_4 =>
  ob3 (m_X5_addCell K_used_2 K_full_3 K_cells_4 p1) fun K_used_6 K_full_7 K_cells_8 =>
  some (K_used_6, (0 : Int32), K_full_7, p0, p1, (0 : Int64), K_cells_8)
abbrev rm_X5_packFirst : Room := { frames := 1, cells := 0, slots := 0, locals := 21 }
theorem hd_X5_packFirst : yX5_packFirst.cls = RX5 ∧ yX5_packFirst.cls ≠ "java/lang/invoke/MethodHandle" ∧ yX5_packFirst.cls ≠ "java/lang/invoke/VarHandle" ∧ (parseMethodDescriptor yX5_packFirst.desc).map (fun d => d.parameters.length) = some 2 := by decide +kernel
set_option maxHeartbeats 4000000 in
set_option maxRecDepth 100000 in
theorem c_X5_packFirst (l : Launch) (G : va_G) (cI cZ cJ : ClassId) (aK aKc : Nat) (K_used : Int32) (K_bitsFree : Int32) (K_full : Int32) (K_time : Int32) (K_value : Int32) (K_rise : Int64) (K_cells : Nat → Int32) (p0 : Int32) (p1 : Int32) {o_K_used : Int32} {o_K_bitsFree : Int32} {o_K_full : Int32} {o_K_time : Int32} {o_K_value : Int32} {o_K_rise : Int64} {o_K_cells : Nat → Int32} (hfin : m_X5_packFirst K_used K_bitsFree K_full K_time K_value K_rise K_cells p0 p1 = some (o_K_used, o_K_bitsFree, o_K_full, o_K_time, o_K_value, o_K_rise, o_K_cells)) : CT l yX5_packFirst cX5_packFirst 3 none rm_X5_packFirst G (tyC cI cZ cJ) [.ref aK, .int p0, .int p1] [(aK, .inr (5, [.ref aKc, .int K_used, .int K_bitsFree, .int K_full, .int K_time, .int K_value, .long K_rise])), (aKc, .inl (cI, 1661, .inl K_cells))] none [(aK, .inr (5, [.ref aKc, .int o_K_used, .int o_K_bitsFree, .int o_K_full, .int o_K_time, .int o_K_value, .long o_K_rise])), (aKc, .inl (cI, 1661, .inl o_K_cells))] := by
  refine CT.ofW (lvl := [(0, .ref aK), (1, .int p0), (2, .int p1)]) (by decide) (Nat.le_of_ble_eq_true rfl) rfl ?_
  intro p e s m args below meth c A ls QQ hQQ hx hb hml hr hlocks htc hN hown hK hA hP hD hS hl
  rw [m_X5_packFirst] at hfin
  refine lv_aload_n hx hb dX5_packFirst_0 rfl (lv_at hl 0 rfl) ?_
  refine lv_iload_n hx hb dX5_packFirst_1 rfl (lv_at hl 1 rfl) ?_
  obtain ⟨K_used_2, K_full_3, K_cells_4, hE_1, hfin⟩ := ob3_some hfin
  refine ctV (a := aK) (As := [.int p0]) (rest := []) (st1 := []) (wc := [(aK, .inr (5, [.ref aKc, .int K_used, .int K_bitsFree, .int K_full, .int K_time, .int K_value, .long K_rise])), (aKc, .inl (cI, 1661, .inl K_cells))]) (w1 := [(aK, .inr (5, [.ref aKc, .int K_used_2, .int K_bitsFree, .int K_full_3, .int K_time, .int K_value, .long K_rise])), (aKc, .inl (cI, 1661, .inl K_cells_4))]) (wr := []) (wb := [(aK, .inr (5, [.ref aKc, .int K_used_2, .int K_bitsFree, .int K_full_3, .int K_time, .int K_value, .long K_rise])), (aKc, .inl (cI, 1661, .inl K_cells_4))]) (v := none) hx hb hml hown htc hN (c_X5_addCell l G cI cZ cJ aK aKc K_used K_bitsFree K_full K_time K_value K_rise K_cells p0 hE_1) mw_482 mw_484 mp_7 mw_8 mw_485 hd_X5_addCell ⟨rfl, rfl⟩ ⟨Nat.le_of_ble_eq_true rfl, Nat.le_of_ble_eq_true rfl⟩ hK hP hD hS hA [0, 1] [] [0, 1] rfl rfl rfl rfl rfl (by decide) rfl rfl rfl 0 rfl rfl rfl rfl hl.1 rfl rfl (Nat.le_of_ble_eq_true rfl) dX5_packFirst_2 ⟨Nat.zero_le _, Nat.zero_le _⟩ (fun H locs hP hD hS => ?_)
  refine lv_aload_n hx hb dX5_packFirst_5 rfl (lv_at hl 0 rfl) ?_
  refine lv_iload_n hx hb dX5_packFirst_6 rfl (lv_at hl 2 rfl) ?_
  obtain ⟨K_used_6, K_full_7, K_cells_8, hE_5, hfin⟩ := ob3_some hfin
  refine ctV (a := aK) (As := [.int p1]) (rest := []) (st1 := []) (wc := [(aK, .inr (5, [.ref aKc, .int K_used_2, .int K_bitsFree, .int K_full_3, .int K_time, .int K_value, .long K_rise])), (aKc, .inl (cI, 1661, .inl K_cells_4))]) (w1 := [(aK, .inr (5, [.ref aKc, .int K_used_6, .int K_bitsFree, .int K_full_7, .int K_time, .int K_value, .long K_rise])), (aKc, .inl (cI, 1661, .inl K_cells_8))]) (wr := []) (wb := [(aK, .inr (5, [.ref aKc, .int K_used_6, .int K_bitsFree, .int K_full_7, .int K_time, .int K_value, .long K_rise])), (aKc, .inl (cI, 1661, .inl K_cells_8))]) (v := none) hx hb hml hown htc hN (c_X5_addCell l G cI cZ cJ aK aKc K_used_2 K_bitsFree K_full_3 K_time K_value K_rise K_cells_4 p1 hE_5) mw_482 mw_484 mp_7 mw_8 mw_485 hd_X5_addCell ⟨rfl, rfl⟩ ⟨Nat.le_of_ble_eq_true rfl, Nat.le_of_ble_eq_true rfl⟩ hK hP hD hS hA [0, 1] [] [0, 1] rfl rfl rfl rfl rfl (by decide) rfl rfl rfl 0 rfl rfl rfl rfl hl.1 rfl rfl (Nat.le_of_ble_eq_true rfl) dX5_packFirst_7 ⟨Nat.zero_le _, Nat.zero_le _⟩ (fun H locs hP hD hS => ?_)
  refine lv_aload_n hx hb dX5_packFirst_10 rfl (lv_at hl 0 rfl) ?_
  refine lv_iconst (v := (0 : Int32)) hx hb dX5_packFirst_11 (by decide) ?_
  refine va_put (D := G) (ci := 5) (v := .int (0 : Int32)) (ty := .int) (C := RX5) (T := TX5) (N := 7) hx hb htc iX5 tyX5 tyX5_ok nmX5 hown hK hP hD hS 0 rfl rfl 2 (by decide) (htc _ mw_127) (fun _ h9 => h9) rfl (tyX5_ok 2 (by decide)) rfl rfl (Nat.le_of_ble_eq_true rfl) dX5_packFirst_12 (fun H locs hP hD hS => ?_)
  have hP : va_P G classes [(aK, .inr (5, [.ref aKc, .int K_used_6, .int (0 : Int32), .int K_full_7, .int K_time, .int K_value, .long K_rise])), (aKc, .inl (cI, 1661, .inl K_cells_8))] H := hP
  have hD : va_D A [(aK, .inr (5, [.ref aKc, .int K_used_6, .int (0 : Int32), .int K_full_7, .int K_time, .int K_value, .long K_rise])), (aKc, .inl (cI, 1661, .inl K_cells_8))] := hD
  refine lv_aload_n hx hb dX5_packFirst_15 rfl (lv_at hl 0 rfl) ?_
  refine lv_iload_n hx hb dX5_packFirst_16 rfl (lv_at hl 1 rfl) ?_
  refine va_put (D := G) (ci := 5) (v := .int p0) (ty := .int) (C := RX5) (T := TX5) (N := 7) hx hb htc iX5 tyX5 tyX5_ok nmX5 hown hK hP hD hS 0 rfl rfl 4 (by decide) (htc _ mw_129) (fun _ h9 => h9) rfl (tyX5_ok 4 (by decide)) rfl rfl (Nat.le_of_ble_eq_true rfl) dX5_packFirst_17 (fun H locs hP hD hS => ?_)
  have hP : va_P G classes [(aK, .inr (5, [.ref aKc, .int K_used_6, .int (0 : Int32), .int K_full_7, .int p0, .int K_value, .long K_rise])), (aKc, .inl (cI, 1661, .inl K_cells_8))] H := hP
  have hD : va_D A [(aK, .inr (5, [.ref aKc, .int K_used_6, .int (0 : Int32), .int K_full_7, .int p0, .int K_value, .long K_rise])), (aKc, .inl (cI, 1661, .inl K_cells_8))] := hD
  refine lv_aload_n hx hb dX5_packFirst_20 rfl (lv_at hl 0 rfl) ?_
  refine lv_iload_n hx hb dX5_packFirst_21 rfl (lv_at hl 2 rfl) ?_
  refine va_put (D := G) (ci := 5) (v := .int p1) (ty := .int) (C := RX5) (T := TX5) (N := 7) hx hb htc iX5 tyX5 tyX5_ok nmX5 hown hK hP hD hS 0 rfl rfl 5 (by decide) (htc _ mw_130) (fun _ h9 => h9) rfl (tyX5_ok 5 (by decide)) rfl rfl (Nat.le_of_ble_eq_true rfl) dX5_packFirst_22 (fun H locs hP hD hS => ?_)
  have hP : va_P G classes [(aK, .inr (5, [.ref aKc, .int K_used_6, .int (0 : Int32), .int K_full_7, .int p0, .int p1, .long K_rise])), (aKc, .inl (cI, 1661, .inl K_cells_8))] H := hP
  have hD : va_D A [(aK, .inr (5, [.ref aKc, .int K_used_6, .int (0 : Int32), .int K_full_7, .int p0, .int p1, .long K_rise])), (aKc, .inl (cI, 1661, .inl K_cells_8))] := hD
  refine lv_aload_n hx hb dX5_packFirst_25 rfl (lv_at hl 0 rfl) ?_
  refine lv_lconst (v := (0 : Int64)) hx hb dX5_packFirst_26 (by decide) ?_
  refine va_put (D := G) (ci := 5) (v := .long (0 : Int64)) (ty := .long) (C := RX5) (T := TX5) (N := 7) hx hb htc iX5 tyX5 tyX5_ok nmX5 hown hK hP hD hS 0 rfl rfl 6 (by decide) (htc _ mw_131) (fun _ h9 => h9) rfl (tyX5_ok 6 (by decide)) rfl rfl (Nat.le_of_ble_eq_true rfl) dX5_packFirst_27 (fun H locs hP hD hS => ?_)
  have hP : va_P G classes [(aK, .inr (5, [.ref aKc, .int K_used_6, .int (0 : Int32), .int K_full_7, .int p0, .int p1, .long (0 : Int64)])), (aKc, .inl (cI, 1661, .inl K_cells_8))] H := hP
  have hD : va_D A [(aK, .inr (5, [.ref aKc, .int K_used_6, .int (0 : Int32), .int K_full_7, .int p0, .int p1, .long (0 : Int64)])), (aKc, .inl (cI, 1661, .inl K_cells_8))] := hD
  cases hfin
  rw [hQQ]
  exact ct_vret hx hb hr hlocks hP hD hS dX5_packFirst_30
def lp_X5_addBits_5 (p0 : Int64) : Nat → Int32 → Int32 → Int32 → Int32 → (Nat → Int32) → Option (Int32 × Int32 × Int32 × (Nat → Int32))
  | 0, _, _, _, _, _ => none
  | n + 1, v4_1, K_used_2, K_bitsFree_3, K_full_4, K_cells_5 =>
    if v4_1 < 0 then (
      some (K_used_2, K_bitsFree_3, K_full_4, K_cells_5)) else (
      ob4 (
        if K_bitsFree_3 = 0 then (
          ob3 (m_X5_addCell K_used_2 K_full_4 K_cells_5 (0 : Int32)) fun K_used_23 K_full_24 K_cells_25 =>
          some (K_used_23, (32 : Int32), K_full_24, K_cells_25)) else (
          some (K_used_2, K_bitsFree_3, K_full_4, K_cells_5))) fun K_used_15 K_bitsFree_16 K_full_17 K_cells_18 =>
      ob1 (
        if K_used_15 ≤ 0 then (
          some (K_cells_18)) else (
          ckb (K_used_15 - (1 : Int32)) 1661 <|
          ckb (K_used_15 - (1 : Int32)) 1661 <|
          some ((upd K_cells_18 (Int32.toNatClampNeg (K_used_15 - (1 : Int32))) ((K_cells_18 (Int32.toNatClampNeg (K_used_15 - (1 : Int32)))) ||| ((Int64.toInt32 (((Int64.toUInt64 p0 >>> ((Int32.toInt64 v4_1).toUInt64 &&& Int64.toUInt64 63)).toInt64) &&& (1 : Int64))) <<< ((K_bitsFree_16 - (1 : Int32)) &&& 31))))))) fun K_cells_26 =>
      lp_X5_addBits_5 p0 n (v4_1 + (-1 : Int32)) K_used_15 (K_bitsFree_16 - (1 : Int32)) K_full_17 K_cells_26)
def m_X5_addBits (K_used : Int32) (K_bitsFree : Int32) (K_full : Int32) (K_cells : Nat → Int32) (p0 : Int64) (p1 : Int32) : Option (Int32 × Int32 × Int32 × (Nat → Int32)) :=
  ob4 (lp_X5_addBits_5 p0 NN (p1 - (1 : Int32)) K_used K_bitsFree K_full K_cells) fun K_used_10 K_bitsFree_11 K_full_12 K_cells_13 =>
  some (K_used_10, K_bitsFree_11, K_full_12, K_cells_13)
abbrev rm_X5_addBits : Room := { frames := 1, cells := 0, slots := 0, locals := 21 }
theorem hd_X5_addBits : yX5_addBits.cls = RX5 ∧ yX5_addBits.cls ≠ "java/lang/invoke/MethodHandle" ∧ yX5_addBits.cls ≠ "java/lang/invoke/VarHandle" ∧ (parseMethodDescriptor yX5_addBits.desc).map (fun d => d.parameters.length) = some 2 := by decide +kernel
set_option maxHeartbeats 4000000 in
set_option maxRecDepth 100000 in
theorem c_X5_addBits (l : Launch) (G : va_G) (cI cZ cJ : ClassId) (aK aKc : Nat) (K_used : Int32) (K_bitsFree : Int32) (K_full : Int32) (K_time : Int32) (K_value : Int32) (K_rise : Int64) (K_cells : Nat → Int32) (p0 : Int64) (p1 : Int32) {o_K_used : Int32} {o_K_bitsFree : Int32} {o_K_full : Int32} {o_K_cells : Nat → Int32} (hfin : m_X5_addBits K_used K_bitsFree K_full K_cells p0 p1 = some (o_K_used, o_K_bitsFree, o_K_full, o_K_cells)) : CT l yX5_addBits cX5_addBits 5 none rm_X5_addBits G (tyC cI cZ cJ) [.ref aK, .long p0, .int p1] [(aK, .inr (5, [.ref aKc, .int K_used, .int K_bitsFree, .int K_full, .int K_time, .int K_value, .long K_rise])), (aKc, .inl (cI, 1661, .inl K_cells))] none [(aK, .inr (5, [.ref aKc, .int o_K_used, .int o_K_bitsFree, .int o_K_full, .int K_time, .int K_value, .long K_rise])), (aKc, .inl (cI, 1661, .inl o_K_cells))] := by
  refine CT.ofW (lvl := [(0, .ref aK), (1, .long p0), (3, .int p1)]) (by decide) (Nat.le_of_ble_eq_true rfl) rfl ?_
  intro p e s m args below meth c A ls QQ hQQ hx hb hml hr hlocks htc hN hown hK hA hP hD hS hl
  rw [m_X5_addBits] at hfin
  refine lv_iload_n hx hb dX5_addBits_0 rfl (lv_at hl 2 rfl) ?_
  refine lv_iconst (v := (1 : Int32)) hx hb dX5_addBits_1 (by decide) ?_
  refine lv_isub hx hb dX5_addBits_2 ?_
  refine lv_istore (lv' := [(4, .int (p1 - (1 : Int32))), (0, .ref aK), (1, .long p0), (3, .int p1)]) hx hb dX5_addBits_3 hl (by decide) rfl (fun ls hl => ?_)
  obtain ⟨K_used_10, K_bitsFree_11, K_full_12, K_cells_13, hL_6, hfin⟩ := ob4_some hfin
  have kx_7 : ∀ (H : Heap) (locs : List Loc) (ls : Array Slot), va_P G classes [(aK, .inr (5, [.ref aKc, .int K_used_10, .int K_bitsFree_11, .int K_full_12, .int K_time, .int K_value, .long K_rise])), (aKc, .inl (cI, 1661, .inl K_cells_13))] H → va_D A [(aK, .inr (5, [.ref aKc, .int K_used_10, .int K_bitsFree_11, .int K_full_12, .int K_time, .int K_value, .long K_rise])), (aKc, .inl (cI, 1661, .inl K_cells_13))] → va_S A s.heap H locs → lv_has ls 5 [] → W p l e rm_X5_addBits s m args below meth c H locs 0 0 QQ (F0 m 77 ls []) := by
    intro H locs ls hP hD hS hl
    cases hfin
    rw [hQQ]
    exact ct_vret hx hb hr hlocks hP hD hS dX5_addBits_77
  have lp_8 : ∀ (n : Nat) (v4_1 : Int32) (K_used_2 : Int32) (K_bitsFree_3 : Int32) (K_full_4 : Int32) (K_cells_5 : Nat → Int32), lp_X5_addBits_5 p0 n v4_1 K_used_2 K_bitsFree_3 K_full_4 K_cells_5 = some (K_used_10, K_bitsFree_11, K_full_12, K_cells_13) → ∀ (H : Heap) (locs : List Loc) (ls : Array Slot), va_P G classes [(aK, .inr (5, [.ref aKc, .int K_used_2, .int K_bitsFree_3, .int K_full_4, .int K_time, .int K_value, .long K_rise])), (aKc, .inl (cI, 1661, .inl K_cells_5))] H → va_D A [(aK, .inr (5, [.ref aKc, .int K_used_2, .int K_bitsFree_3, .int K_full_4, .int K_time, .int K_value, .long K_rise])), (aKc, .inl (cI, 1661, .inl K_cells_5))] → va_S A s.heap H locs → lv_has ls 5 [(0, .ref aK), (1, .long p0), (4, .int v4_1)] → W p l e rm_X5_addBits s m args below meth c H locs 0 0 QQ (F0 m 5 ls []) := by
    intro n
    induction n with
    | zero =>
      intro v4_1 K_used_2 K_bitsFree_3 K_full_4 K_cells_5 hB_9
      exact absurd hB_9 (by rw [lp_X5_addBits_5]; exact fun h9 => nomatch h9)
    | succ n ih =>
      intro v4_1 K_used_2 K_bitsFree_3 K_full_4 K_cells_5 hB_9 H locs ls hP hD hS hl
      rw [lp_X5_addBits_5] at hB_9
      refine lv_iload hx hb dX5_addBits_5 (lv_at hl 2 rfl) ?_
      refine lv_if_lt (tgt := 77) hx hb dX5_addBits_7 (by decide) (fun c_14 => ?_) (fun c_14 => ?_)
      · have hB_9 := it_t c_14 hB_9
        cases hB_9
        exact kx_7 _ _ _ hP hD hS (lv_sub hl [] rfl)
      · have hB_9 := it_f c_14 hB_9
        refine lv_aload_n hx hb dX5_addBits_10 rfl (lv_at hl 0 rfl) ?_
        refine va_get (D := G) (ci := 5) (v := .int K_bitsFree_3) (C := RX5) (T := TX5) (N := 7) hx hb htc iX5 hown hK hP 0 rfl rfl 2 (by decide) (htc _ mw_127) (fun _ h9 => h9) rfl dX5_addBits_11 ?_
        obtain ⟨K_used_15, K_bitsFree_16, K_full_17, K_cells_18, hJ_19, hB_9⟩ := ob4_some hB_9
        have kj_20 : ∀ (H : Heap) (locs : List Loc) (ls : Array Slot), va_P G classes [(aK, .inr (5, [.ref aKc, .int K_used_15, .int K_bitsFree_16, .int K_full_17, .int K_time, .int K_value, .long K_rise])), (aKc, .inl (cI, 1661, .inl K_cells_18))] H → va_D A [(aK, .inr (5, [.ref aKc, .int K_used_15, .int K_bitsFree_16, .int K_full_17, .int K_time, .int K_value, .long K_rise])), (aKc, .inl (cI, 1661, .inl K_cells_18))] → va_S A s.heap H locs → lv_has ls 5 [(0, .ref aK), (1, .long p0), (4, .int v4_1)] → W p l e rm_X5_addBits s m args below meth c H locs 0 0 QQ (F0 m 28 ls []) := by
          intro H locs ls hP hD hS hl
          refine lv_aload_n hx hb dX5_addBits_28 rfl (lv_at hl 0 rfl) ?_
          refine lv_dup hx hb dX5_addBits_29 rfl ?_
          refine va_get (D := G) (ci := 5) (v := .int K_bitsFree_16) (C := RX5) (T := TX5) (N := 7) hx hb htc iX5 hown hK hP 0 rfl rfl 2 (by decide) (htc _ mw_127) (fun _ h9 => h9) rfl dX5_addBits_30 ?_
          refine lv_iconst (v := (1 : Int32)) hx hb dX5_addBits_33 (by decide) ?_
          refine lv_isub hx hb dX5_addBits_34 ?_
          refine va_put (D := G) (ci := 5) (v := .int (K_bitsFree_16 - (1 : Int32))) (ty := .int) (C := RX5) (T := TX5) (N := 7) hx hb htc iX5 tyX5 tyX5_ok nmX5 hown hK hP hD hS 0 rfl rfl 2 (by decide) (htc _ mw_127) (fun _ h9 => h9) rfl (tyX5_ok 2 (by decide)) rfl rfl (Nat.le_of_ble_eq_true rfl) dX5_addBits_35 (fun H locs hP hD hS => ?_)
          have hP : va_P G classes [(aK, .inr (5, [.ref aKc, .int K_used_15, .int (K_bitsFree_16 - (1 : Int32)), .int K_full_17, .int K_time, .int K_value, .long K_rise])), (aKc, .inl (cI, 1661, .inl K_cells_18))] H := hP
          have hD : va_D A [(aK, .inr (5, [.ref aKc, .int K_used_15, .int (K_bitsFree_16 - (1 : Int32)), .int K_full_17, .int K_time, .int K_value, .long K_rise])), (aKc, .inl (cI, 1661, .inl K_cells_18))] := hD
          refine lv_aload_n hx hb dX5_addBits_38 rfl (lv_at hl 0 rfl) ?_
          refine va_get (D := G) (ci := 5) (v := .int K_used_15) (C := RX5) (T := TX5) (N := 7) hx hb htc iX5 hown hK hP 0 rfl rfl 1 (by decide) (htc _ mw_126) (fun _ h9 => h9) rfl dX5_addBits_39 ?_
          obtain ⟨K_cells_26, hJ_27, hB_9⟩ := ob1_some hB_9
          have kj_28 : ∀ (H : Heap) (locs : List Loc) (ls : Array Slot), va_P G classes [(aK, .inr (5, [.ref aKc, .int K_used_15, .int (K_bitsFree_16 - (1 : Int32)), .int K_full_17, .int K_time, .int K_value, .long K_rise])), (aKc, .inl (cI, 1661, .inl K_cells_26))] H → va_D A [(aK, .inr (5, [.ref aKc, .int K_used_15, .int (K_bitsFree_16 - (1 : Int32)), .int K_full_17, .int K_time, .int K_value, .long K_rise])), (aKc, .inl (cI, 1661, .inl K_cells_26))] → va_S A s.heap H locs → lv_has ls 5 [(0, .ref aK), (1, .long p0), (4, .int v4_1)] → W p l e rm_X5_addBits s m args below meth c H locs 0 0 QQ (F0 m 71 ls []) := by
            intro H locs ls hP hD hS hl
            refine lv_iinc (v := (v4_1 + (-1 : Int32))) (lv' := [(4, .int (v4_1 + (-1 : Int32))), (0, .ref aK), (1, .long p0)]) hx hb dX5_addBits_71 hl (k := 2) rfl rfl (by decide) rfl (fun ls hl => ?_)
            refine lv_goto (tgt := 5) hx hb dX5_addBits_74 (by decide) ?_
            exact ih (v4_1 + (-1 : Int32)) K_used_15 (K_bitsFree_16 - (1 : Int32)) K_full_17 K_cells_26 hB_9 _ _ _ hP hD hS (lv_sub hl [1, 2, 0] rfl)
          refine lv_if_le (tgt := 71) hx hb dX5_addBits_42 (by decide) (fun c_29 => ?_) (fun c_29 => ?_)
          · have hJ_27 := it_t c_29 hJ_27
            cases hJ_27
            exact kj_28 _ _ _ hP hD hS (lv_sub hl [0, 1, 2] rfl)
          · have hJ_27 := it_f c_29 hJ_27
            refine lv_aload_n hx hb dX5_addBits_45 rfl (lv_at hl 0 rfl) ?_
            refine va_get (D := G) (ci := 5) (v := .ref aKc) (C := RX5) (T := TX5) (N := 7) hx hb htc iX5 hown hK hP 0 rfl rfl 0 (by decide) (htc _ mw_125) (fun _ h9 => h9) rfl dX5_addBits_46 ?_
            refine lv_aload_n hx hb dX5_addBits_49 rfl (lv_at hl 0 rfl) ?_
            refine va_get (D := G) (ci := 5) (v := .int K_used_15) (C := RX5) (T := TX5) (N := 7) hx hb htc iX5 hown hK hP 0 rfl rfl 1 (by decide) (htc _ mw_126) (fun _ h9 => h9) rfl dX5_addBits_50 ?_
            refine lv_iconst (v := (1 : Int32)) hx hb dX5_addBits_53 (by decide) ?_
            refine lv_isub hx hb dX5_addBits_54 ?_
            refine lv_dup2_11 hx hb dX5_addBits_55 rfl rfl ?_
            obtain ⟨hin_30, hJ_27⟩ := ckb_some hJ_27
            refine va_iald hx hb hK hP 1 0 rfl rfl hin_30 dX5_addBits_56 ?_
            refine lv_lload_n hx hb dX5_addBits_57 rfl (lv_at hl 1 rfl) ?_
            refine lv_iload hx hb dX5_addBits_58 (lv_at hl 2 rfl) ?_
            refine lv_lushr hx hb dX5_addBits_60 rfl ?_
            refine lv_lconst (v := (1 : Int64)) hx hb dX5_addBits_61 (by decide) ?_
            refine lv_land hx hb dX5_addBits_62 ?_
            refine lv_l2i hx hb dX5_addBits_63 rfl ?_
            refine lv_aload_n hx hb dX5_addBits_64 rfl (lv_at hl 0 rfl) ?_
            refine va_get (D := G) (ci := 5) (v := .int (K_bitsFree_16 - (1 : Int32))) (C := RX5) (T := TX5) (N := 7) hx hb htc iX5 hown hK hP 0 rfl rfl 2 (by decide) (htc _ mw_127) (fun _ h9 => h9) rfl dX5_addBits_65 ?_
            refine lv_ishl hx hb dX5_addBits_68 ?_
            refine lv_ior hx hb dX5_addBits_69 ?_
            obtain ⟨hin_31, hJ_27⟩ := ckb_some hJ_27
            refine va_iast hx hb hK hP hD hS 1 0 rfl rfl hin_31 dX5_addBits_70 (fun H locs hP hD hS => ?_)
            have hP : va_P G classes [(aK, .inr (5, [.ref aKc, .int K_used_15, .int (K_bitsFree_16 - (1 : Int32)), .int K_full_17, .int K_time, .int K_value, .long K_rise])), (aKc, .inl (cI, 1661, .inl (upd K_cells_18 (Int32.toNatClampNeg (K_used_15 - (1 : Int32))) ((K_cells_18 (Int32.toNatClampNeg (K_used_15 - (1 : Int32)))) ||| ((Int64.toInt32 (((Int64.toUInt64 p0 >>> ((Int32.toInt64 v4_1).toUInt64 &&& Int64.toUInt64 63)).toInt64) &&& (1 : Int64))) <<< ((K_bitsFree_16 - (1 : Int32)) &&& 31))))))] H := hP
            have hD : va_D A [(aK, .inr (5, [.ref aKc, .int K_used_15, .int (K_bitsFree_16 - (1 : Int32)), .int K_full_17, .int K_time, .int K_value, .long K_rise])), (aKc, .inl (cI, 1661, .inl (upd K_cells_18 (Int32.toNatClampNeg (K_used_15 - (1 : Int32))) ((K_cells_18 (Int32.toNatClampNeg (K_used_15 - (1 : Int32)))) ||| ((Int64.toInt32 (((Int64.toUInt64 p0 >>> ((Int32.toInt64 v4_1).toUInt64 &&& Int64.toUInt64 63)).toInt64) &&& (1 : Int64))) <<< ((K_bitsFree_16 - (1 : Int32)) &&& 31))))))] := hD
            cases hJ_27
            exact kj_28 _ _ _ hP hD hS (lv_sub hl [0, 1, 2] rfl)
        refine lv_if_ne (tgt := 28) hx hb dX5_addBits_14 (by decide) (fun c_21 => ?_) (fun c_21 => ?_)
        · have hJ_19 := it_f c_21 hJ_19
          cases hJ_19
          exact kj_20 _ _ _ hP hD hS (lv_sub hl [0, 1, 2] rfl)
        · have hJ_19 := it_t c_21 hJ_19
          refine lv_aload_n hx hb dX5_addBits_17 rfl (lv_at hl 0 rfl) ?_
          refine lv_iconst (v := (0 : Int32)) hx hb dX5_addBits_18 (by decide) ?_
          obtain ⟨K_used_23, K_full_24, K_cells_25, hE_22, hJ_19⟩ := ob3_some hJ_19
          refine ctV (a := aK) (As := [.int (0 : Int32)]) (rest := []) (st1 := []) (wc := [(aK, .inr (5, [.ref aKc, .int K_used_2, .int K_bitsFree_3, .int K_full_4, .int K_time, .int K_value, .long K_rise])), (aKc, .inl (cI, 1661, .inl K_cells_5))]) (w1 := [(aK, .inr (5, [.ref aKc, .int K_used_23, .int K_bitsFree_3, .int K_full_24, .int K_time, .int K_value, .long K_rise])), (aKc, .inl (cI, 1661, .inl K_cells_25))]) (wr := []) (wb := [(aK, .inr (5, [.ref aKc, .int K_used_23, .int K_bitsFree_3, .int K_full_24, .int K_time, .int K_value, .long K_rise])), (aKc, .inl (cI, 1661, .inl K_cells_25))]) (v := none) hx hb hml hown htc hN (c_X5_addCell l G cI cZ cJ aK aKc K_used_2 K_bitsFree_3 K_full_4 K_time K_value K_rise K_cells_5 (0 : Int32) hE_22) mw_482 mw_484 mp_7 mw_8 mw_485 hd_X5_addCell ⟨rfl, rfl⟩ ⟨Nat.le_of_ble_eq_true rfl, Nat.le_of_ble_eq_true rfl⟩ hK hP hD hS hA [0, 1] [] [0, 1] rfl rfl rfl rfl rfl (by decide) rfl rfl rfl 0 rfl rfl rfl rfl hl.1 rfl rfl (Nat.le_of_ble_eq_true rfl) dX5_addBits_19 ⟨Nat.zero_le _, Nat.zero_le _⟩ (fun H locs hP hD hS => ?_)
          refine lv_aload_n hx hb dX5_addBits_22 rfl (lv_at hl 0 rfl) ?_
          refine lv_bipush (v := (32 : Int32)) hx hb dX5_addBits_23 (by decide) ?_
          refine va_put (D := G) (ci := 5) (v := .int (32 : Int32)) (ty := .int) (C := RX5) (T := TX5) (N := 7) hx hb htc iX5 tyX5 tyX5_ok nmX5 hown hK hP hD hS 0 rfl rfl 2 (by decide) (htc _ mw_127) (fun _ h9 => h9) rfl (tyX5_ok 2 (by decide)) rfl rfl (Nat.le_of_ble_eq_true rfl) dX5_addBits_25 (fun H locs hP hD hS => ?_)
          have hP : va_P G classes [(aK, .inr (5, [.ref aKc, .int K_used_23, .int (32 : Int32), .int K_full_24, .int K_time, .int K_value, .long K_rise])), (aKc, .inl (cI, 1661, .inl K_cells_25))] H := hP
          have hD : va_D A [(aK, .inr (5, [.ref aKc, .int K_used_23, .int (32 : Int32), .int K_full_24, .int K_time, .int K_value, .long K_rise])), (aKc, .inl (cI, 1661, .inl K_cells_25))] := hD
          cases hJ_19
          exact kj_20 _ _ _ hP hD hS (lv_sub hl [0, 1, 2] rfl)
  exact lp_8 NN (p1 - (1 : Int32)) K_used K_bitsFree K_full K_cells hL_6 _ _ _ hP hD hS (lv_sub hl [1, 2, 0] rfl)
def m_X5_packChange (K_used : Int32) (K_bitsFree : Int32) (K_full : Int32) (K_cells : Nat → Int32) (p0 : Int64) : Option (Int32 × Int32 × Int32 × (Nat → Int32)) :=
  ob4 (
    if (lg_cmp p0 (0 : Int64)) = 0 then (
      ob4 (m_X5_addBits K_used K_bitsFree K_full K_cells (0 : Int64) (1 : Int32)) fun K_used_173 K_bitsFree_174 K_full_175 K_cells_176 =>
      some (K_used_173, K_bitsFree_174, K_full_175, K_cells_176)) else (
      if (lg_cmp p0 (-64 : Int64)) < 0 then (
        if (lg_cmp p0 (-256 : Int64)) < 0 then (
          if (lg_cmp p0 (-2048 : Int64)) < 0 then (
            ob4 (m_X5_addBits K_used K_bitsFree K_full K_cells (15 : Int64) (4 : Int32)) fun K_used_12 K_bitsFree_13 K_full_14 K_cells_15 =>
            ob4 (m_X5_addBits K_used_12 K_bitsFree_13 K_full_14 K_cells_15 (p0 + (8589934592 : Int64)) (34 : Int32)) fun K_used_17 K_bitsFree_18 K_full_19 K_cells_20 =>
            some (K_used_17, K_bitsFree_18, K_full_19, K_cells_20)) else (
            if 0 ≤ (lg_cmp p0 (2048 : Int64)) then (
              ob4 (m_X5_addBits K_used K_bitsFree K_full K_cells (15 : Int64) (4 : Int32)) fun K_used_23 K_bitsFree_24 K_full_25 K_cells_26 =>
              ob4 (m_X5_addBits K_used_23 K_bitsFree_24 K_full_25 K_cells_26 (p0 + (8589934592 : Int64)) (34 : Int32)) fun K_used_28 K_bitsFree_29 K_full_30 K_cells_31 =>
              some (K_used_28, K_bitsFree_29, K_full_30, K_cells_31)) else (
              ob4 (m_X5_addBits K_used K_bitsFree K_full K_cells (14 : Int64) (4 : Int32)) fun K_used_33 K_bitsFree_34 K_full_35 K_cells_36 =>
              ob4 (m_X5_addBits K_used_33 K_bitsFree_34 K_full_35 K_cells_36 (p0 + (2048 : Int64)) (12 : Int32)) fun K_used_38 K_bitsFree_39 K_full_40 K_cells_41 =>
              some (K_used_38, K_bitsFree_39, K_full_40, K_cells_41)))) else (
          if 0 ≤ (lg_cmp p0 (256 : Int64)) then (
            if (lg_cmp p0 (-2048 : Int64)) < 0 then (
              ob4 (m_X5_addBits K_used K_bitsFree K_full K_cells (15 : Int64) (4 : Int32)) fun K_used_45 K_bitsFree_46 K_full_47 K_cells_48 =>
              ob4 (m_X5_addBits K_used_45 K_bitsFree_46 K_full_47 K_cells_48 (p0 + (8589934592 : Int64)) (34 : Int32)) fun K_used_50 K_bitsFree_51 K_full_52 K_cells_53 =>
              some (K_used_50, K_bitsFree_51, K_full_52, K_cells_53)) else (
              if 0 ≤ (lg_cmp p0 (2048 : Int64)) then (
                ob4 (m_X5_addBits K_used K_bitsFree K_full K_cells (15 : Int64) (4 : Int32)) fun K_used_56 K_bitsFree_57 K_full_58 K_cells_59 =>
                ob4 (m_X5_addBits K_used_56 K_bitsFree_57 K_full_58 K_cells_59 (p0 + (8589934592 : Int64)) (34 : Int32)) fun K_used_61 K_bitsFree_62 K_full_63 K_cells_64 =>
                some (K_used_61, K_bitsFree_62, K_full_63, K_cells_64)) else (
                ob4 (m_X5_addBits K_used K_bitsFree K_full K_cells (14 : Int64) (4 : Int32)) fun K_used_66 K_bitsFree_67 K_full_68 K_cells_69 =>
                ob4 (m_X5_addBits K_used_66 K_bitsFree_67 K_full_68 K_cells_69 (p0 + (2048 : Int64)) (12 : Int32)) fun K_used_71 K_bitsFree_72 K_full_73 K_cells_74 =>
                some (K_used_71, K_bitsFree_72, K_full_73, K_cells_74)))) else (
            ob4 (m_X5_addBits K_used K_bitsFree K_full K_cells (6 : Int64) (3 : Int32)) fun K_used_76 K_bitsFree_77 K_full_78 K_cells_79 =>
            ob4 (m_X5_addBits K_used_76 K_bitsFree_77 K_full_78 K_cells_79 (p0 + (256 : Int64)) (9 : Int32)) fun K_used_81 K_bitsFree_82 K_full_83 K_cells_84 =>
            some (K_used_81, K_bitsFree_82, K_full_83, K_cells_84)))) else (
        if 0 ≤ (lg_cmp p0 (64 : Int64)) then (
          if (lg_cmp p0 (-256 : Int64)) < 0 then (
            if (lg_cmp p0 (-2048 : Int64)) < 0 then (
              ob4 (m_X5_addBits K_used K_bitsFree K_full K_cells (15 : Int64) (4 : Int32)) fun K_used_89 K_bitsFree_90 K_full_91 K_cells_92 =>
              ob4 (m_X5_addBits K_used_89 K_bitsFree_90 K_full_91 K_cells_92 (p0 + (8589934592 : Int64)) (34 : Int32)) fun K_used_94 K_bitsFree_95 K_full_96 K_cells_97 =>
              some (K_used_94, K_bitsFree_95, K_full_96, K_cells_97)) else (
              if 0 ≤ (lg_cmp p0 (2048 : Int64)) then (
                ob4 (m_X5_addBits K_used K_bitsFree K_full K_cells (15 : Int64) (4 : Int32)) fun K_used_100 K_bitsFree_101 K_full_102 K_cells_103 =>
                ob4 (m_X5_addBits K_used_100 K_bitsFree_101 K_full_102 K_cells_103 (p0 + (8589934592 : Int64)) (34 : Int32)) fun K_used_105 K_bitsFree_106 K_full_107 K_cells_108 =>
                some (K_used_105, K_bitsFree_106, K_full_107, K_cells_108)) else (
                ob4 (m_X5_addBits K_used K_bitsFree K_full K_cells (14 : Int64) (4 : Int32)) fun K_used_110 K_bitsFree_111 K_full_112 K_cells_113 =>
                ob4 (m_X5_addBits K_used_110 K_bitsFree_111 K_full_112 K_cells_113 (p0 + (2048 : Int64)) (12 : Int32)) fun K_used_115 K_bitsFree_116 K_full_117 K_cells_118 =>
                some (K_used_115, K_bitsFree_116, K_full_117, K_cells_118)))) else (
            if 0 ≤ (lg_cmp p0 (256 : Int64)) then (
              if (lg_cmp p0 (-2048 : Int64)) < 0 then (
                ob4 (m_X5_addBits K_used K_bitsFree K_full K_cells (15 : Int64) (4 : Int32)) fun K_used_122 K_bitsFree_123 K_full_124 K_cells_125 =>
                ob4 (m_X5_addBits K_used_122 K_bitsFree_123 K_full_124 K_cells_125 (p0 + (8589934592 : Int64)) (34 : Int32)) fun K_used_127 K_bitsFree_128 K_full_129 K_cells_130 =>
                some (K_used_127, K_bitsFree_128, K_full_129, K_cells_130)) else (
                if 0 ≤ (lg_cmp p0 (2048 : Int64)) then (
                  ob4 (m_X5_addBits K_used K_bitsFree K_full K_cells (15 : Int64) (4 : Int32)) fun K_used_133 K_bitsFree_134 K_full_135 K_cells_136 =>
                  ob4 (m_X5_addBits K_used_133 K_bitsFree_134 K_full_135 K_cells_136 (p0 + (8589934592 : Int64)) (34 : Int32)) fun K_used_138 K_bitsFree_139 K_full_140 K_cells_141 =>
                  some (K_used_138, K_bitsFree_139, K_full_140, K_cells_141)) else (
                  ob4 (m_X5_addBits K_used K_bitsFree K_full K_cells (14 : Int64) (4 : Int32)) fun K_used_143 K_bitsFree_144 K_full_145 K_cells_146 =>
                  ob4 (m_X5_addBits K_used_143 K_bitsFree_144 K_full_145 K_cells_146 (p0 + (2048 : Int64)) (12 : Int32)) fun K_used_148 K_bitsFree_149 K_full_150 K_cells_151 =>
                  some (K_used_148, K_bitsFree_149, K_full_150, K_cells_151)))) else (
              ob4 (m_X5_addBits K_used K_bitsFree K_full K_cells (6 : Int64) (3 : Int32)) fun K_used_153 K_bitsFree_154 K_full_155 K_cells_156 =>
              ob4 (m_X5_addBits K_used_153 K_bitsFree_154 K_full_155 K_cells_156 (p0 + (256 : Int64)) (9 : Int32)) fun K_used_158 K_bitsFree_159 K_full_160 K_cells_161 =>
              some (K_used_158, K_bitsFree_159, K_full_160, K_cells_161)))) else (
          ob4 (m_X5_addBits K_used K_bitsFree K_full K_cells (2 : Int64) (2 : Int32)) fun K_used_163 K_bitsFree_164 K_full_165 K_cells_166 =>
          ob4 (m_X5_addBits K_used_163 K_bitsFree_164 K_full_165 K_cells_166 (p0 + (64 : Int64)) (7 : Int32)) fun K_used_168 K_bitsFree_169 K_full_170 K_cells_171 =>
          some (K_used_168, K_bitsFree_169, K_full_170, K_cells_171))))) fun K_used_1 K_bitsFree_2 K_full_3 K_cells_4 =>
  some (K_used_1, K_bitsFree_2, K_full_3, K_cells_4)
abbrev rm_X5_packChange : Room := { frames := 2, cells := 0, slots := 0, locals := 45 }
theorem hd_X5_packChange : yX5_packChange.cls = RX5 ∧ yX5_packChange.cls ≠ "java/lang/invoke/MethodHandle" ∧ yX5_packChange.cls ≠ "java/lang/invoke/VarHandle" ∧ (parseMethodDescriptor yX5_packChange.desc).map (fun d => d.parameters.length) = some 1 := by decide +kernel
set_option maxHeartbeats 4000000 in
set_option maxRecDepth 100000 in
theorem c_X5_packChange (l : Launch) (G : va_G) (cI cZ cJ : ClassId) (aK aKc : Nat) (K_used : Int32) (K_bitsFree : Int32) (K_full : Int32) (K_time : Int32) (K_value : Int32) (K_rise : Int64) (K_cells : Nat → Int32) (p0 : Int64) {o_K_used : Int32} {o_K_bitsFree : Int32} {o_K_full : Int32} {o_K_cells : Nat → Int32} (hfin : m_X5_packChange K_used K_bitsFree K_full K_cells p0 = some (o_K_used, o_K_bitsFree, o_K_full, o_K_cells)) : CT l yX5_packChange cX5_packChange 3 none rm_X5_packChange G (tyC cI cZ cJ) [.ref aK, .long p0] [(aK, .inr (5, [.ref aKc, .int K_used, .int K_bitsFree, .int K_full, .int K_time, .int K_value, .long K_rise])), (aKc, .inl (cI, 1661, .inl K_cells))] none [(aK, .inr (5, [.ref aKc, .int o_K_used, .int o_K_bitsFree, .int o_K_full, .int K_time, .int K_value, .long K_rise])), (aKc, .inl (cI, 1661, .inl o_K_cells))] := by
  refine CT.ofW (lvl := [(0, .ref aK), (1, .long p0)]) (by decide) (Nat.le_of_ble_eq_true rfl) rfl ?_
  intro p e s m args below meth c A ls QQ hQQ hx hb hml hr hlocks htc hN hown hK hA hP hD hS hl
  rw [m_X5_packChange] at hfin
  refine lv_lload_n hx hb dX5_packChange_0 rfl (lv_at hl 1 rfl) ?_
  refine lv_lconst (v := (0 : Int64)) hx hb dX5_packChange_1 (by decide) ?_
  refine W.lcmp hx hb dX5_packChange_2 ?_
  obtain ⟨K_used_1, K_bitsFree_2, K_full_3, K_cells_4, hJ_5, hfin⟩ := ob4_some hfin
  have kj_6 : ∀ (H : Heap) (locs : List Loc) (ls : Array Slot), va_P G classes [(aK, .inr (5, [.ref aKc, .int K_used_1, .int K_bitsFree_2, .int K_full_3, .int K_time, .int K_value, .long K_rise])), (aKc, .inl (cI, 1661, .inl K_cells_4))] H → va_D A [(aK, .inr (5, [.ref aKc, .int K_used_1, .int K_bitsFree_2, .int K_full_3, .int K_time, .int K_value, .long K_rise])), (aKc, .inl (cI, 1661, .inl K_cells_4))] → va_S A s.heap H locs → lv_has ls 3 [] → W p l e rm_X5_packChange s m args below meth c H locs 0 0 QQ (F0 m 148 ls []) := by
    intro H locs ls hP hD hS hl
    cases hfin
    rw [hQQ]
    exact ct_vret hx hb hr hlocks hP hD hS dX5_packChange_148
  refine lv_if_ne (tgt := 15) hx hb dX5_packChange_3 (by decide) (fun c_7 => ?_) (fun c_7 => ?_)
  · have hJ_5 := it_f c_7 hJ_5
    refine lv_lload_n hx hb dX5_packChange_15 rfl (lv_at hl 1 rfl) ?_
    refine lv_ldc2 (v := (-64 : Int64)) hx hb hown (htc _ mw_498) dX5_packChange_16 ?_
    refine W.lcmp hx hb dX5_packChange_19 ?_
    refine lv_if_lt (tgt := 53) hx hb dX5_packChange_20 (by decide) (fun c_8 => ?_) (fun c_8 => ?_)
    · have hJ_5 := it_t c_8 hJ_5
      refine lv_lload_n hx hb dX5_packChange_53 rfl (lv_at hl 1 rfl) ?_
      refine lv_ldc2 (v := (-256 : Int64)) hx hb hown (htc _ mw_501) dX5_packChange_54 ?_
      refine W.lcmp hx hb dX5_packChange_57 ?_
      refine lv_if_lt (tgt := 91) hx hb dX5_packChange_58 (by decide) (fun c_9 => ?_) (fun c_9 => ?_)
      · have hJ_5 := it_t c_9 hJ_5
        refine lv_lload_n hx hb dX5_packChange_91 rfl (lv_at hl 1 rfl) ?_
        refine lv_ldc2 (v := (-2048 : Int64)) hx hb hown (htc _ mw_504) dX5_packChange_92 ?_
        refine W.lcmp hx hb dX5_packChange_95 ?_
        refine lv_if_lt (tgt := 129) hx hb dX5_packChange_96 (by decide) (fun c_10 => ?_) (fun c_10 => ?_)
        · have hJ_5 := it_t c_10 hJ_5
          refine lv_aload_n hx hb dX5_packChange_129 rfl (lv_at hl 0 rfl) ?_
          refine lv_ldc2 (v := (15 : Int64)) hx hb hown (htc _ mw_507) dX5_packChange_130 ?_
          refine lv_iconst (v := (4 : Int32)) hx hb dX5_packChange_133 (by decide) ?_
          obtain ⟨K_used_12, K_bitsFree_13, K_full_14, K_cells_15, hE_11, hJ_5⟩ := ob4_some hJ_5
          refine ctV (a := aK) (As := [.long (15 : Int64), .int (4 : Int32)]) (rest := []) (st1 := []) (wc := [(aK, .inr (5, [.ref aKc, .int K_used, .int K_bitsFree, .int K_full, .int K_time, .int K_value, .long K_rise])), (aKc, .inl (cI, 1661, .inl K_cells))]) (w1 := [(aK, .inr (5, [.ref aKc, .int K_used_12, .int K_bitsFree_13, .int K_full_14, .int K_time, .int K_value, .long K_rise])), (aKc, .inl (cI, 1661, .inl K_cells_15))]) (wr := []) (wb := [(aK, .inr (5, [.ref aKc, .int K_used_12, .int K_bitsFree_13, .int K_full_14, .int K_time, .int K_value, .long K_rise])), (aKc, .inl (cI, 1661, .inl K_cells_15))]) (v := none) hx hb hml hown htc hN (c_X5_addBits l G cI cZ cJ aK aKc K_used K_bitsFree K_full K_time K_value K_rise K_cells (15 : Int64) (4 : Int32) hE_11) mw_494 mw_496 mp_9 mw_8 mw_497 hd_X5_addBits ⟨rfl, rfl⟩ ⟨Nat.le_of_ble_eq_true rfl, Nat.le_of_ble_eq_true rfl⟩ hK hP hD hS hA [0, 1] [] [0, 1] rfl rfl rfl rfl rfl (by decide) rfl rfl rfl 0 rfl rfl rfl rfl hl.1 rfl rfl (Nat.le_of_ble_eq_true rfl) dX5_packChange_134 ⟨Nat.zero_le _, Nat.zero_le _⟩ (fun H locs hP hD hS => ?_)
          refine lv_aload_n hx hb dX5_packChange_137 rfl (lv_at hl 0 rfl) ?_
          refine lv_lload_n hx hb dX5_packChange_138 rfl (lv_at hl 1 rfl) ?_
          refine lv_ldc2 (v := (8589934592 : Int64)) hx hb hown (htc _ mw_508) dX5_packChange_139 ?_
          refine lv_ladd hx hb dX5_packChange_142 ?_
          refine lv_bipush (v := (34 : Int32)) hx hb dX5_packChange_143 (by decide) ?_
          obtain ⟨K_used_17, K_bitsFree_18, K_full_19, K_cells_20, hE_16, hJ_5⟩ := ob4_some hJ_5
          refine ctV (a := aK) (As := [.long (p0 + (8589934592 : Int64)), .int (34 : Int32)]) (rest := []) (st1 := []) (wc := [(aK, .inr (5, [.ref aKc, .int K_used_12, .int K_bitsFree_13, .int K_full_14, .int K_time, .int K_value, .long K_rise])), (aKc, .inl (cI, 1661, .inl K_cells_15))]) (w1 := [(aK, .inr (5, [.ref aKc, .int K_used_17, .int K_bitsFree_18, .int K_full_19, .int K_time, .int K_value, .long K_rise])), (aKc, .inl (cI, 1661, .inl K_cells_20))]) (wr := []) (wb := [(aK, .inr (5, [.ref aKc, .int K_used_17, .int K_bitsFree_18, .int K_full_19, .int K_time, .int K_value, .long K_rise])), (aKc, .inl (cI, 1661, .inl K_cells_20))]) (v := none) hx hb hml hown htc hN (c_X5_addBits l G cI cZ cJ aK aKc K_used_12 K_bitsFree_13 K_full_14 K_time K_value K_rise K_cells_15 (p0 + (8589934592 : Int64)) (34 : Int32) hE_16) mw_494 mw_496 mp_9 mw_8 mw_497 hd_X5_addBits ⟨rfl, rfl⟩ ⟨Nat.le_of_ble_eq_true rfl, Nat.le_of_ble_eq_true rfl⟩ hK hP hD hS hA [0, 1] [] [0, 1] rfl rfl rfl rfl rfl (by decide) rfl rfl rfl 0 rfl rfl rfl rfl hl.1 rfl rfl (Nat.le_of_ble_eq_true rfl) dX5_packChange_145 ⟨Nat.zero_le _, Nat.zero_le _⟩ (fun H locs hP hD hS => ?_)
          cases hJ_5
          exact kj_6 _ _ _ hP hD hS (lv_sub hl [] rfl)
        · have hJ_5 := it_f c_10 hJ_5
          refine lv_lload_n hx hb dX5_packChange_99 rfl (lv_at hl 1 rfl) ?_
          refine lv_ldc2 (v := (2048 : Int64)) hx hb hown (htc _ mw_505) dX5_packChange_100 ?_
          refine W.lcmp hx hb dX5_packChange_103 ?_
          refine lv_if_ge (tgt := 129) hx hb dX5_packChange_104 (by decide) (fun c_21 => ?_) (fun c_21 => ?_)
          · have hJ_5 := it_t c_21 hJ_5
            refine lv_aload_n hx hb dX5_packChange_129 rfl (lv_at hl 0 rfl) ?_
            refine lv_ldc2 (v := (15 : Int64)) hx hb hown (htc _ mw_507) dX5_packChange_130 ?_
            refine lv_iconst (v := (4 : Int32)) hx hb dX5_packChange_133 (by decide) ?_
            obtain ⟨K_used_23, K_bitsFree_24, K_full_25, K_cells_26, hE_22, hJ_5⟩ := ob4_some hJ_5
            refine ctV (a := aK) (As := [.long (15 : Int64), .int (4 : Int32)]) (rest := []) (st1 := []) (wc := [(aK, .inr (5, [.ref aKc, .int K_used, .int K_bitsFree, .int K_full, .int K_time, .int K_value, .long K_rise])), (aKc, .inl (cI, 1661, .inl K_cells))]) (w1 := [(aK, .inr (5, [.ref aKc, .int K_used_23, .int K_bitsFree_24, .int K_full_25, .int K_time, .int K_value, .long K_rise])), (aKc, .inl (cI, 1661, .inl K_cells_26))]) (wr := []) (wb := [(aK, .inr (5, [.ref aKc, .int K_used_23, .int K_bitsFree_24, .int K_full_25, .int K_time, .int K_value, .long K_rise])), (aKc, .inl (cI, 1661, .inl K_cells_26))]) (v := none) hx hb hml hown htc hN (c_X5_addBits l G cI cZ cJ aK aKc K_used K_bitsFree K_full K_time K_value K_rise K_cells (15 : Int64) (4 : Int32) hE_22) mw_494 mw_496 mp_9 mw_8 mw_497 hd_X5_addBits ⟨rfl, rfl⟩ ⟨Nat.le_of_ble_eq_true rfl, Nat.le_of_ble_eq_true rfl⟩ hK hP hD hS hA [0, 1] [] [0, 1] rfl rfl rfl rfl rfl (by decide) rfl rfl rfl 0 rfl rfl rfl rfl hl.1 rfl rfl (Nat.le_of_ble_eq_true rfl) dX5_packChange_134 ⟨Nat.zero_le _, Nat.zero_le _⟩ (fun H locs hP hD hS => ?_)
            refine lv_aload_n hx hb dX5_packChange_137 rfl (lv_at hl 0 rfl) ?_
            refine lv_lload_n hx hb dX5_packChange_138 rfl (lv_at hl 1 rfl) ?_
            refine lv_ldc2 (v := (8589934592 : Int64)) hx hb hown (htc _ mw_508) dX5_packChange_139 ?_
            refine lv_ladd hx hb dX5_packChange_142 ?_
            refine lv_bipush (v := (34 : Int32)) hx hb dX5_packChange_143 (by decide) ?_
            obtain ⟨K_used_28, K_bitsFree_29, K_full_30, K_cells_31, hE_27, hJ_5⟩ := ob4_some hJ_5
            refine ctV (a := aK) (As := [.long (p0 + (8589934592 : Int64)), .int (34 : Int32)]) (rest := []) (st1 := []) (wc := [(aK, .inr (5, [.ref aKc, .int K_used_23, .int K_bitsFree_24, .int K_full_25, .int K_time, .int K_value, .long K_rise])), (aKc, .inl (cI, 1661, .inl K_cells_26))]) (w1 := [(aK, .inr (5, [.ref aKc, .int K_used_28, .int K_bitsFree_29, .int K_full_30, .int K_time, .int K_value, .long K_rise])), (aKc, .inl (cI, 1661, .inl K_cells_31))]) (wr := []) (wb := [(aK, .inr (5, [.ref aKc, .int K_used_28, .int K_bitsFree_29, .int K_full_30, .int K_time, .int K_value, .long K_rise])), (aKc, .inl (cI, 1661, .inl K_cells_31))]) (v := none) hx hb hml hown htc hN (c_X5_addBits l G cI cZ cJ aK aKc K_used_23 K_bitsFree_24 K_full_25 K_time K_value K_rise K_cells_26 (p0 + (8589934592 : Int64)) (34 : Int32) hE_27) mw_494 mw_496 mp_9 mw_8 mw_497 hd_X5_addBits ⟨rfl, rfl⟩ ⟨Nat.le_of_ble_eq_true rfl, Nat.le_of_ble_eq_true rfl⟩ hK hP hD hS hA [0, 1] [] [0, 1] rfl rfl rfl rfl rfl (by decide) rfl rfl rfl 0 rfl rfl rfl rfl hl.1 rfl rfl (Nat.le_of_ble_eq_true rfl) dX5_packChange_145 ⟨Nat.zero_le _, Nat.zero_le _⟩ (fun H locs hP hD hS => ?_)
            cases hJ_5
            exact kj_6 _ _ _ hP hD hS (lv_sub hl [] rfl)
          · have hJ_5 := it_f c_21 hJ_5
            refine lv_aload_n hx hb dX5_packChange_107 rfl (lv_at hl 0 rfl) ?_
            refine lv_ldc2 (v := (14 : Int64)) hx hb hown (htc _ mw_506) dX5_packChange_108 ?_
            refine lv_iconst (v := (4 : Int32)) hx hb dX5_packChange_111 (by decide) ?_
            obtain ⟨K_used_33, K_bitsFree_34, K_full_35, K_cells_36, hE_32, hJ_5⟩ := ob4_some hJ_5
            refine ctV (a := aK) (As := [.long (14 : Int64), .int (4 : Int32)]) (rest := []) (st1 := []) (wc := [(aK, .inr (5, [.ref aKc, .int K_used, .int K_bitsFree, .int K_full, .int K_time, .int K_value, .long K_rise])), (aKc, .inl (cI, 1661, .inl K_cells))]) (w1 := [(aK, .inr (5, [.ref aKc, .int K_used_33, .int K_bitsFree_34, .int K_full_35, .int K_time, .int K_value, .long K_rise])), (aKc, .inl (cI, 1661, .inl K_cells_36))]) (wr := []) (wb := [(aK, .inr (5, [.ref aKc, .int K_used_33, .int K_bitsFree_34, .int K_full_35, .int K_time, .int K_value, .long K_rise])), (aKc, .inl (cI, 1661, .inl K_cells_36))]) (v := none) hx hb hml hown htc hN (c_X5_addBits l G cI cZ cJ aK aKc K_used K_bitsFree K_full K_time K_value K_rise K_cells (14 : Int64) (4 : Int32) hE_32) mw_494 mw_496 mp_9 mw_8 mw_497 hd_X5_addBits ⟨rfl, rfl⟩ ⟨Nat.le_of_ble_eq_true rfl, Nat.le_of_ble_eq_true rfl⟩ hK hP hD hS hA [0, 1] [] [0, 1] rfl rfl rfl rfl rfl (by decide) rfl rfl rfl 0 rfl rfl rfl rfl hl.1 rfl rfl (Nat.le_of_ble_eq_true rfl) dX5_packChange_112 ⟨Nat.zero_le _, Nat.zero_le _⟩ (fun H locs hP hD hS => ?_)
            refine lv_aload_n hx hb dX5_packChange_115 rfl (lv_at hl 0 rfl) ?_
            refine lv_lload_n hx hb dX5_packChange_116 rfl (lv_at hl 1 rfl) ?_
            refine lv_ldc2 (v := (2048 : Int64)) hx hb hown (htc _ mw_505) dX5_packChange_117 ?_
            refine lv_ladd hx hb dX5_packChange_120 ?_
            refine lv_bipush (v := (12 : Int32)) hx hb dX5_packChange_121 (by decide) ?_
            obtain ⟨K_used_38, K_bitsFree_39, K_full_40, K_cells_41, hE_37, hJ_5⟩ := ob4_some hJ_5
            refine ctV (a := aK) (As := [.long (p0 + (2048 : Int64)), .int (12 : Int32)]) (rest := []) (st1 := []) (wc := [(aK, .inr (5, [.ref aKc, .int K_used_33, .int K_bitsFree_34, .int K_full_35, .int K_time, .int K_value, .long K_rise])), (aKc, .inl (cI, 1661, .inl K_cells_36))]) (w1 := [(aK, .inr (5, [.ref aKc, .int K_used_38, .int K_bitsFree_39, .int K_full_40, .int K_time, .int K_value, .long K_rise])), (aKc, .inl (cI, 1661, .inl K_cells_41))]) (wr := []) (wb := [(aK, .inr (5, [.ref aKc, .int K_used_38, .int K_bitsFree_39, .int K_full_40, .int K_time, .int K_value, .long K_rise])), (aKc, .inl (cI, 1661, .inl K_cells_41))]) (v := none) hx hb hml hown htc hN (c_X5_addBits l G cI cZ cJ aK aKc K_used_33 K_bitsFree_34 K_full_35 K_time K_value K_rise K_cells_36 (p0 + (2048 : Int64)) (12 : Int32) hE_37) mw_494 mw_496 mp_9 mw_8 mw_497 hd_X5_addBits ⟨rfl, rfl⟩ ⟨Nat.le_of_ble_eq_true rfl, Nat.le_of_ble_eq_true rfl⟩ hK hP hD hS hA [0, 1] [] [0, 1] rfl rfl rfl rfl rfl (by decide) rfl rfl rfl 0 rfl rfl rfl rfl hl.1 rfl rfl (Nat.le_of_ble_eq_true rfl) dX5_packChange_123 ⟨Nat.zero_le _, Nat.zero_le _⟩ (fun H locs hP hD hS => ?_)
            refine lv_goto (tgt := 148) hx hb dX5_packChange_126 (by decide) ?_
            cases hJ_5
            exact kj_6 _ _ _ hP hD hS (lv_sub hl [] rfl)
      · have hJ_5 := it_f c_9 hJ_5
        refine lv_lload_n hx hb dX5_packChange_61 rfl (lv_at hl 1 rfl) ?_
        refine lv_ldc2 (v := (256 : Int64)) hx hb hown (htc _ mw_502) dX5_packChange_62 ?_
        refine W.lcmp hx hb dX5_packChange_65 ?_
        refine lv_if_ge (tgt := 91) hx hb dX5_packChange_66 (by decide) (fun c_42 => ?_) (fun c_42 => ?_)
        · have hJ_5 := it_t c_42 hJ_5
          refine lv_lload_n hx hb dX5_packChange_91 rfl (lv_at hl 1 rfl) ?_
          refine lv_ldc2 (v := (-2048 : Int64)) hx hb hown (htc _ mw_504) dX5_packChange_92 ?_
          refine W.lcmp hx hb dX5_packChange_95 ?_
          refine lv_if_lt (tgt := 129) hx hb dX5_packChange_96 (by decide) (fun c_43 => ?_) (fun c_43 => ?_)
          · have hJ_5 := it_t c_43 hJ_5
            refine lv_aload_n hx hb dX5_packChange_129 rfl (lv_at hl 0 rfl) ?_
            refine lv_ldc2 (v := (15 : Int64)) hx hb hown (htc _ mw_507) dX5_packChange_130 ?_
            refine lv_iconst (v := (4 : Int32)) hx hb dX5_packChange_133 (by decide) ?_
            obtain ⟨K_used_45, K_bitsFree_46, K_full_47, K_cells_48, hE_44, hJ_5⟩ := ob4_some hJ_5
            refine ctV (a := aK) (As := [.long (15 : Int64), .int (4 : Int32)]) (rest := []) (st1 := []) (wc := [(aK, .inr (5, [.ref aKc, .int K_used, .int K_bitsFree, .int K_full, .int K_time, .int K_value, .long K_rise])), (aKc, .inl (cI, 1661, .inl K_cells))]) (w1 := [(aK, .inr (5, [.ref aKc, .int K_used_45, .int K_bitsFree_46, .int K_full_47, .int K_time, .int K_value, .long K_rise])), (aKc, .inl (cI, 1661, .inl K_cells_48))]) (wr := []) (wb := [(aK, .inr (5, [.ref aKc, .int K_used_45, .int K_bitsFree_46, .int K_full_47, .int K_time, .int K_value, .long K_rise])), (aKc, .inl (cI, 1661, .inl K_cells_48))]) (v := none) hx hb hml hown htc hN (c_X5_addBits l G cI cZ cJ aK aKc K_used K_bitsFree K_full K_time K_value K_rise K_cells (15 : Int64) (4 : Int32) hE_44) mw_494 mw_496 mp_9 mw_8 mw_497 hd_X5_addBits ⟨rfl, rfl⟩ ⟨Nat.le_of_ble_eq_true rfl, Nat.le_of_ble_eq_true rfl⟩ hK hP hD hS hA [0, 1] [] [0, 1] rfl rfl rfl rfl rfl (by decide) rfl rfl rfl 0 rfl rfl rfl rfl hl.1 rfl rfl (Nat.le_of_ble_eq_true rfl) dX5_packChange_134 ⟨Nat.zero_le _, Nat.zero_le _⟩ (fun H locs hP hD hS => ?_)
            refine lv_aload_n hx hb dX5_packChange_137 rfl (lv_at hl 0 rfl) ?_
            refine lv_lload_n hx hb dX5_packChange_138 rfl (lv_at hl 1 rfl) ?_
            refine lv_ldc2 (v := (8589934592 : Int64)) hx hb hown (htc _ mw_508) dX5_packChange_139 ?_
            refine lv_ladd hx hb dX5_packChange_142 ?_
            refine lv_bipush (v := (34 : Int32)) hx hb dX5_packChange_143 (by decide) ?_
            obtain ⟨K_used_50, K_bitsFree_51, K_full_52, K_cells_53, hE_49, hJ_5⟩ := ob4_some hJ_5
            refine ctV (a := aK) (As := [.long (p0 + (8589934592 : Int64)), .int (34 : Int32)]) (rest := []) (st1 := []) (wc := [(aK, .inr (5, [.ref aKc, .int K_used_45, .int K_bitsFree_46, .int K_full_47, .int K_time, .int K_value, .long K_rise])), (aKc, .inl (cI, 1661, .inl K_cells_48))]) (w1 := [(aK, .inr (5, [.ref aKc, .int K_used_50, .int K_bitsFree_51, .int K_full_52, .int K_time, .int K_value, .long K_rise])), (aKc, .inl (cI, 1661, .inl K_cells_53))]) (wr := []) (wb := [(aK, .inr (5, [.ref aKc, .int K_used_50, .int K_bitsFree_51, .int K_full_52, .int K_time, .int K_value, .long K_rise])), (aKc, .inl (cI, 1661, .inl K_cells_53))]) (v := none) hx hb hml hown htc hN (c_X5_addBits l G cI cZ cJ aK aKc K_used_45 K_bitsFree_46 K_full_47 K_time K_value K_rise K_cells_48 (p0 + (8589934592 : Int64)) (34 : Int32) hE_49) mw_494 mw_496 mp_9 mw_8 mw_497 hd_X5_addBits ⟨rfl, rfl⟩ ⟨Nat.le_of_ble_eq_true rfl, Nat.le_of_ble_eq_true rfl⟩ hK hP hD hS hA [0, 1] [] [0, 1] rfl rfl rfl rfl rfl (by decide) rfl rfl rfl 0 rfl rfl rfl rfl hl.1 rfl rfl (Nat.le_of_ble_eq_true rfl) dX5_packChange_145 ⟨Nat.zero_le _, Nat.zero_le _⟩ (fun H locs hP hD hS => ?_)
            cases hJ_5
            exact kj_6 _ _ _ hP hD hS (lv_sub hl [] rfl)
          · have hJ_5 := it_f c_43 hJ_5
            refine lv_lload_n hx hb dX5_packChange_99 rfl (lv_at hl 1 rfl) ?_
            refine lv_ldc2 (v := (2048 : Int64)) hx hb hown (htc _ mw_505) dX5_packChange_100 ?_
            refine W.lcmp hx hb dX5_packChange_103 ?_
            refine lv_if_ge (tgt := 129) hx hb dX5_packChange_104 (by decide) (fun c_54 => ?_) (fun c_54 => ?_)
            · have hJ_5 := it_t c_54 hJ_5
              refine lv_aload_n hx hb dX5_packChange_129 rfl (lv_at hl 0 rfl) ?_
              refine lv_ldc2 (v := (15 : Int64)) hx hb hown (htc _ mw_507) dX5_packChange_130 ?_
              refine lv_iconst (v := (4 : Int32)) hx hb dX5_packChange_133 (by decide) ?_
              obtain ⟨K_used_56, K_bitsFree_57, K_full_58, K_cells_59, hE_55, hJ_5⟩ := ob4_some hJ_5
              refine ctV (a := aK) (As := [.long (15 : Int64), .int (4 : Int32)]) (rest := []) (st1 := []) (wc := [(aK, .inr (5, [.ref aKc, .int K_used, .int K_bitsFree, .int K_full, .int K_time, .int K_value, .long K_rise])), (aKc, .inl (cI, 1661, .inl K_cells))]) (w1 := [(aK, .inr (5, [.ref aKc, .int K_used_56, .int K_bitsFree_57, .int K_full_58, .int K_time, .int K_value, .long K_rise])), (aKc, .inl (cI, 1661, .inl K_cells_59))]) (wr := []) (wb := [(aK, .inr (5, [.ref aKc, .int K_used_56, .int K_bitsFree_57, .int K_full_58, .int K_time, .int K_value, .long K_rise])), (aKc, .inl (cI, 1661, .inl K_cells_59))]) (v := none) hx hb hml hown htc hN (c_X5_addBits l G cI cZ cJ aK aKc K_used K_bitsFree K_full K_time K_value K_rise K_cells (15 : Int64) (4 : Int32) hE_55) mw_494 mw_496 mp_9 mw_8 mw_497 hd_X5_addBits ⟨rfl, rfl⟩ ⟨Nat.le_of_ble_eq_true rfl, Nat.le_of_ble_eq_true rfl⟩ hK hP hD hS hA [0, 1] [] [0, 1] rfl rfl rfl rfl rfl (by decide) rfl rfl rfl 0 rfl rfl rfl rfl hl.1 rfl rfl (Nat.le_of_ble_eq_true rfl) dX5_packChange_134 ⟨Nat.zero_le _, Nat.zero_le _⟩ (fun H locs hP hD hS => ?_)
              refine lv_aload_n hx hb dX5_packChange_137 rfl (lv_at hl 0 rfl) ?_
              refine lv_lload_n hx hb dX5_packChange_138 rfl (lv_at hl 1 rfl) ?_
              refine lv_ldc2 (v := (8589934592 : Int64)) hx hb hown (htc _ mw_508) dX5_packChange_139 ?_
              refine lv_ladd hx hb dX5_packChange_142 ?_
              refine lv_bipush (v := (34 : Int32)) hx hb dX5_packChange_143 (by decide) ?_
              obtain ⟨K_used_61, K_bitsFree_62, K_full_63, K_cells_64, hE_60, hJ_5⟩ := ob4_some hJ_5
              refine ctV (a := aK) (As := [.long (p0 + (8589934592 : Int64)), .int (34 : Int32)]) (rest := []) (st1 := []) (wc := [(aK, .inr (5, [.ref aKc, .int K_used_56, .int K_bitsFree_57, .int K_full_58, .int K_time, .int K_value, .long K_rise])), (aKc, .inl (cI, 1661, .inl K_cells_59))]) (w1 := [(aK, .inr (5, [.ref aKc, .int K_used_61, .int K_bitsFree_62, .int K_full_63, .int K_time, .int K_value, .long K_rise])), (aKc, .inl (cI, 1661, .inl K_cells_64))]) (wr := []) (wb := [(aK, .inr (5, [.ref aKc, .int K_used_61, .int K_bitsFree_62, .int K_full_63, .int K_time, .int K_value, .long K_rise])), (aKc, .inl (cI, 1661, .inl K_cells_64))]) (v := none) hx hb hml hown htc hN (c_X5_addBits l G cI cZ cJ aK aKc K_used_56 K_bitsFree_57 K_full_58 K_time K_value K_rise K_cells_59 (p0 + (8589934592 : Int64)) (34 : Int32) hE_60) mw_494 mw_496 mp_9 mw_8 mw_497 hd_X5_addBits ⟨rfl, rfl⟩ ⟨Nat.le_of_ble_eq_true rfl, Nat.le_of_ble_eq_true rfl⟩ hK hP hD hS hA [0, 1] [] [0, 1] rfl rfl rfl rfl rfl (by decide) rfl rfl rfl 0 rfl rfl rfl rfl hl.1 rfl rfl (Nat.le_of_ble_eq_true rfl) dX5_packChange_145 ⟨Nat.zero_le _, Nat.zero_le _⟩ (fun H locs hP hD hS => ?_)
              cases hJ_5
              exact kj_6 _ _ _ hP hD hS (lv_sub hl [] rfl)
            · have hJ_5 := it_f c_54 hJ_5
              refine lv_aload_n hx hb dX5_packChange_107 rfl (lv_at hl 0 rfl) ?_
              refine lv_ldc2 (v := (14 : Int64)) hx hb hown (htc _ mw_506) dX5_packChange_108 ?_
              refine lv_iconst (v := (4 : Int32)) hx hb dX5_packChange_111 (by decide) ?_
              obtain ⟨K_used_66, K_bitsFree_67, K_full_68, K_cells_69, hE_65, hJ_5⟩ := ob4_some hJ_5
              refine ctV (a := aK) (As := [.long (14 : Int64), .int (4 : Int32)]) (rest := []) (st1 := []) (wc := [(aK, .inr (5, [.ref aKc, .int K_used, .int K_bitsFree, .int K_full, .int K_time, .int K_value, .long K_rise])), (aKc, .inl (cI, 1661, .inl K_cells))]) (w1 := [(aK, .inr (5, [.ref aKc, .int K_used_66, .int K_bitsFree_67, .int K_full_68, .int K_time, .int K_value, .long K_rise])), (aKc, .inl (cI, 1661, .inl K_cells_69))]) (wr := []) (wb := [(aK, .inr (5, [.ref aKc, .int K_used_66, .int K_bitsFree_67, .int K_full_68, .int K_time, .int K_value, .long K_rise])), (aKc, .inl (cI, 1661, .inl K_cells_69))]) (v := none) hx hb hml hown htc hN (c_X5_addBits l G cI cZ cJ aK aKc K_used K_bitsFree K_full K_time K_value K_rise K_cells (14 : Int64) (4 : Int32) hE_65) mw_494 mw_496 mp_9 mw_8 mw_497 hd_X5_addBits ⟨rfl, rfl⟩ ⟨Nat.le_of_ble_eq_true rfl, Nat.le_of_ble_eq_true rfl⟩ hK hP hD hS hA [0, 1] [] [0, 1] rfl rfl rfl rfl rfl (by decide) rfl rfl rfl 0 rfl rfl rfl rfl hl.1 rfl rfl (Nat.le_of_ble_eq_true rfl) dX5_packChange_112 ⟨Nat.zero_le _, Nat.zero_le _⟩ (fun H locs hP hD hS => ?_)
              refine lv_aload_n hx hb dX5_packChange_115 rfl (lv_at hl 0 rfl) ?_
              refine lv_lload_n hx hb dX5_packChange_116 rfl (lv_at hl 1 rfl) ?_
              refine lv_ldc2 (v := (2048 : Int64)) hx hb hown (htc _ mw_505) dX5_packChange_117 ?_
              refine lv_ladd hx hb dX5_packChange_120 ?_
              refine lv_bipush (v := (12 : Int32)) hx hb dX5_packChange_121 (by decide) ?_
              obtain ⟨K_used_71, K_bitsFree_72, K_full_73, K_cells_74, hE_70, hJ_5⟩ := ob4_some hJ_5
              refine ctV (a := aK) (As := [.long (p0 + (2048 : Int64)), .int (12 : Int32)]) (rest := []) (st1 := []) (wc := [(aK, .inr (5, [.ref aKc, .int K_used_66, .int K_bitsFree_67, .int K_full_68, .int K_time, .int K_value, .long K_rise])), (aKc, .inl (cI, 1661, .inl K_cells_69))]) (w1 := [(aK, .inr (5, [.ref aKc, .int K_used_71, .int K_bitsFree_72, .int K_full_73, .int K_time, .int K_value, .long K_rise])), (aKc, .inl (cI, 1661, .inl K_cells_74))]) (wr := []) (wb := [(aK, .inr (5, [.ref aKc, .int K_used_71, .int K_bitsFree_72, .int K_full_73, .int K_time, .int K_value, .long K_rise])), (aKc, .inl (cI, 1661, .inl K_cells_74))]) (v := none) hx hb hml hown htc hN (c_X5_addBits l G cI cZ cJ aK aKc K_used_66 K_bitsFree_67 K_full_68 K_time K_value K_rise K_cells_69 (p0 + (2048 : Int64)) (12 : Int32) hE_70) mw_494 mw_496 mp_9 mw_8 mw_497 hd_X5_addBits ⟨rfl, rfl⟩ ⟨Nat.le_of_ble_eq_true rfl, Nat.le_of_ble_eq_true rfl⟩ hK hP hD hS hA [0, 1] [] [0, 1] rfl rfl rfl rfl rfl (by decide) rfl rfl rfl 0 rfl rfl rfl rfl hl.1 rfl rfl (Nat.le_of_ble_eq_true rfl) dX5_packChange_123 ⟨Nat.zero_le _, Nat.zero_le _⟩ (fun H locs hP hD hS => ?_)
              refine lv_goto (tgt := 148) hx hb dX5_packChange_126 (by decide) ?_
              cases hJ_5
              exact kj_6 _ _ _ hP hD hS (lv_sub hl [] rfl)
        · have hJ_5 := it_f c_42 hJ_5
          refine lv_aload_n hx hb dX5_packChange_69 rfl (lv_at hl 0 rfl) ?_
          refine lv_ldc2 (v := (6 : Int64)) hx hb hown (htc _ mw_503) dX5_packChange_70 ?_
          refine lv_iconst (v := (3 : Int32)) hx hb dX5_packChange_73 (by decide) ?_
          obtain ⟨K_used_76, K_bitsFree_77, K_full_78, K_cells_79, hE_75, hJ_5⟩ := ob4_some hJ_5
          refine ctV (a := aK) (As := [.long (6 : Int64), .int (3 : Int32)]) (rest := []) (st1 := []) (wc := [(aK, .inr (5, [.ref aKc, .int K_used, .int K_bitsFree, .int K_full, .int K_time, .int K_value, .long K_rise])), (aKc, .inl (cI, 1661, .inl K_cells))]) (w1 := [(aK, .inr (5, [.ref aKc, .int K_used_76, .int K_bitsFree_77, .int K_full_78, .int K_time, .int K_value, .long K_rise])), (aKc, .inl (cI, 1661, .inl K_cells_79))]) (wr := []) (wb := [(aK, .inr (5, [.ref aKc, .int K_used_76, .int K_bitsFree_77, .int K_full_78, .int K_time, .int K_value, .long K_rise])), (aKc, .inl (cI, 1661, .inl K_cells_79))]) (v := none) hx hb hml hown htc hN (c_X5_addBits l G cI cZ cJ aK aKc K_used K_bitsFree K_full K_time K_value K_rise K_cells (6 : Int64) (3 : Int32) hE_75) mw_494 mw_496 mp_9 mw_8 mw_497 hd_X5_addBits ⟨rfl, rfl⟩ ⟨Nat.le_of_ble_eq_true rfl, Nat.le_of_ble_eq_true rfl⟩ hK hP hD hS hA [0, 1] [] [0, 1] rfl rfl rfl rfl rfl (by decide) rfl rfl rfl 0 rfl rfl rfl rfl hl.1 rfl rfl (Nat.le_of_ble_eq_true rfl) dX5_packChange_74 ⟨Nat.zero_le _, Nat.zero_le _⟩ (fun H locs hP hD hS => ?_)
          refine lv_aload_n hx hb dX5_packChange_77 rfl (lv_at hl 0 rfl) ?_
          refine lv_lload_n hx hb dX5_packChange_78 rfl (lv_at hl 1 rfl) ?_
          refine lv_ldc2 (v := (256 : Int64)) hx hb hown (htc _ mw_502) dX5_packChange_79 ?_
          refine lv_ladd hx hb dX5_packChange_82 ?_
          refine lv_bipush (v := (9 : Int32)) hx hb dX5_packChange_83 (by decide) ?_
          obtain ⟨K_used_81, K_bitsFree_82, K_full_83, K_cells_84, hE_80, hJ_5⟩ := ob4_some hJ_5
          refine ctV (a := aK) (As := [.long (p0 + (256 : Int64)), .int (9 : Int32)]) (rest := []) (st1 := []) (wc := [(aK, .inr (5, [.ref aKc, .int K_used_76, .int K_bitsFree_77, .int K_full_78, .int K_time, .int K_value, .long K_rise])), (aKc, .inl (cI, 1661, .inl K_cells_79))]) (w1 := [(aK, .inr (5, [.ref aKc, .int K_used_81, .int K_bitsFree_82, .int K_full_83, .int K_time, .int K_value, .long K_rise])), (aKc, .inl (cI, 1661, .inl K_cells_84))]) (wr := []) (wb := [(aK, .inr (5, [.ref aKc, .int K_used_81, .int K_bitsFree_82, .int K_full_83, .int K_time, .int K_value, .long K_rise])), (aKc, .inl (cI, 1661, .inl K_cells_84))]) (v := none) hx hb hml hown htc hN (c_X5_addBits l G cI cZ cJ aK aKc K_used_76 K_bitsFree_77 K_full_78 K_time K_value K_rise K_cells_79 (p0 + (256 : Int64)) (9 : Int32) hE_80) mw_494 mw_496 mp_9 mw_8 mw_497 hd_X5_addBits ⟨rfl, rfl⟩ ⟨Nat.le_of_ble_eq_true rfl, Nat.le_of_ble_eq_true rfl⟩ hK hP hD hS hA [0, 1] [] [0, 1] rfl rfl rfl rfl rfl (by decide) rfl rfl rfl 0 rfl rfl rfl rfl hl.1 rfl rfl (Nat.le_of_ble_eq_true rfl) dX5_packChange_85 ⟨Nat.zero_le _, Nat.zero_le _⟩ (fun H locs hP hD hS => ?_)
          refine lv_goto (tgt := 148) hx hb dX5_packChange_88 (by decide) ?_
          cases hJ_5
          exact kj_6 _ _ _ hP hD hS (lv_sub hl [] rfl)
    · have hJ_5 := it_f c_8 hJ_5
      refine lv_lload_n hx hb dX5_packChange_23 rfl (lv_at hl 1 rfl) ?_
      refine lv_ldc2 (v := (64 : Int64)) hx hb hown (htc _ mw_499) dX5_packChange_24 ?_
      refine W.lcmp hx hb dX5_packChange_27 ?_
      refine lv_if_ge (tgt := 53) hx hb dX5_packChange_28 (by decide) (fun c_85 => ?_) (fun c_85 => ?_)
      · have hJ_5 := it_t c_85 hJ_5
        refine lv_lload_n hx hb dX5_packChange_53 rfl (lv_at hl 1 rfl) ?_
        refine lv_ldc2 (v := (-256 : Int64)) hx hb hown (htc _ mw_501) dX5_packChange_54 ?_
        refine W.lcmp hx hb dX5_packChange_57 ?_
        refine lv_if_lt (tgt := 91) hx hb dX5_packChange_58 (by decide) (fun c_86 => ?_) (fun c_86 => ?_)
        · have hJ_5 := it_t c_86 hJ_5
          refine lv_lload_n hx hb dX5_packChange_91 rfl (lv_at hl 1 rfl) ?_
          refine lv_ldc2 (v := (-2048 : Int64)) hx hb hown (htc _ mw_504) dX5_packChange_92 ?_
          refine W.lcmp hx hb dX5_packChange_95 ?_
          refine lv_if_lt (tgt := 129) hx hb dX5_packChange_96 (by decide) (fun c_87 => ?_) (fun c_87 => ?_)
          · have hJ_5 := it_t c_87 hJ_5
            refine lv_aload_n hx hb dX5_packChange_129 rfl (lv_at hl 0 rfl) ?_
            refine lv_ldc2 (v := (15 : Int64)) hx hb hown (htc _ mw_507) dX5_packChange_130 ?_
            refine lv_iconst (v := (4 : Int32)) hx hb dX5_packChange_133 (by decide) ?_
            obtain ⟨K_used_89, K_bitsFree_90, K_full_91, K_cells_92, hE_88, hJ_5⟩ := ob4_some hJ_5
            refine ctV (a := aK) (As := [.long (15 : Int64), .int (4 : Int32)]) (rest := []) (st1 := []) (wc := [(aK, .inr (5, [.ref aKc, .int K_used, .int K_bitsFree, .int K_full, .int K_time, .int K_value, .long K_rise])), (aKc, .inl (cI, 1661, .inl K_cells))]) (w1 := [(aK, .inr (5, [.ref aKc, .int K_used_89, .int K_bitsFree_90, .int K_full_91, .int K_time, .int K_value, .long K_rise])), (aKc, .inl (cI, 1661, .inl K_cells_92))]) (wr := []) (wb := [(aK, .inr (5, [.ref aKc, .int K_used_89, .int K_bitsFree_90, .int K_full_91, .int K_time, .int K_value, .long K_rise])), (aKc, .inl (cI, 1661, .inl K_cells_92))]) (v := none) hx hb hml hown htc hN (c_X5_addBits l G cI cZ cJ aK aKc K_used K_bitsFree K_full K_time K_value K_rise K_cells (15 : Int64) (4 : Int32) hE_88) mw_494 mw_496 mp_9 mw_8 mw_497 hd_X5_addBits ⟨rfl, rfl⟩ ⟨Nat.le_of_ble_eq_true rfl, Nat.le_of_ble_eq_true rfl⟩ hK hP hD hS hA [0, 1] [] [0, 1] rfl rfl rfl rfl rfl (by decide) rfl rfl rfl 0 rfl rfl rfl rfl hl.1 rfl rfl (Nat.le_of_ble_eq_true rfl) dX5_packChange_134 ⟨Nat.zero_le _, Nat.zero_le _⟩ (fun H locs hP hD hS => ?_)
            refine lv_aload_n hx hb dX5_packChange_137 rfl (lv_at hl 0 rfl) ?_
            refine lv_lload_n hx hb dX5_packChange_138 rfl (lv_at hl 1 rfl) ?_
            refine lv_ldc2 (v := (8589934592 : Int64)) hx hb hown (htc _ mw_508) dX5_packChange_139 ?_
            refine lv_ladd hx hb dX5_packChange_142 ?_
            refine lv_bipush (v := (34 : Int32)) hx hb dX5_packChange_143 (by decide) ?_
            obtain ⟨K_used_94, K_bitsFree_95, K_full_96, K_cells_97, hE_93, hJ_5⟩ := ob4_some hJ_5
            refine ctV (a := aK) (As := [.long (p0 + (8589934592 : Int64)), .int (34 : Int32)]) (rest := []) (st1 := []) (wc := [(aK, .inr (5, [.ref aKc, .int K_used_89, .int K_bitsFree_90, .int K_full_91, .int K_time, .int K_value, .long K_rise])), (aKc, .inl (cI, 1661, .inl K_cells_92))]) (w1 := [(aK, .inr (5, [.ref aKc, .int K_used_94, .int K_bitsFree_95, .int K_full_96, .int K_time, .int K_value, .long K_rise])), (aKc, .inl (cI, 1661, .inl K_cells_97))]) (wr := []) (wb := [(aK, .inr (5, [.ref aKc, .int K_used_94, .int K_bitsFree_95, .int K_full_96, .int K_time, .int K_value, .long K_rise])), (aKc, .inl (cI, 1661, .inl K_cells_97))]) (v := none) hx hb hml hown htc hN (c_X5_addBits l G cI cZ cJ aK aKc K_used_89 K_bitsFree_90 K_full_91 K_time K_value K_rise K_cells_92 (p0 + (8589934592 : Int64)) (34 : Int32) hE_93) mw_494 mw_496 mp_9 mw_8 mw_497 hd_X5_addBits ⟨rfl, rfl⟩ ⟨Nat.le_of_ble_eq_true rfl, Nat.le_of_ble_eq_true rfl⟩ hK hP hD hS hA [0, 1] [] [0, 1] rfl rfl rfl rfl rfl (by decide) rfl rfl rfl 0 rfl rfl rfl rfl hl.1 rfl rfl (Nat.le_of_ble_eq_true rfl) dX5_packChange_145 ⟨Nat.zero_le _, Nat.zero_le _⟩ (fun H locs hP hD hS => ?_)
            cases hJ_5
            exact kj_6 _ _ _ hP hD hS (lv_sub hl [] rfl)
          · have hJ_5 := it_f c_87 hJ_5
            refine lv_lload_n hx hb dX5_packChange_99 rfl (lv_at hl 1 rfl) ?_
            refine lv_ldc2 (v := (2048 : Int64)) hx hb hown (htc _ mw_505) dX5_packChange_100 ?_
            refine W.lcmp hx hb dX5_packChange_103 ?_
            refine lv_if_ge (tgt := 129) hx hb dX5_packChange_104 (by decide) (fun c_98 => ?_) (fun c_98 => ?_)
            · have hJ_5 := it_t c_98 hJ_5
              refine lv_aload_n hx hb dX5_packChange_129 rfl (lv_at hl 0 rfl) ?_
              refine lv_ldc2 (v := (15 : Int64)) hx hb hown (htc _ mw_507) dX5_packChange_130 ?_
              refine lv_iconst (v := (4 : Int32)) hx hb dX5_packChange_133 (by decide) ?_
              obtain ⟨K_used_100, K_bitsFree_101, K_full_102, K_cells_103, hE_99, hJ_5⟩ := ob4_some hJ_5
              refine ctV (a := aK) (As := [.long (15 : Int64), .int (4 : Int32)]) (rest := []) (st1 := []) (wc := [(aK, .inr (5, [.ref aKc, .int K_used, .int K_bitsFree, .int K_full, .int K_time, .int K_value, .long K_rise])), (aKc, .inl (cI, 1661, .inl K_cells))]) (w1 := [(aK, .inr (5, [.ref aKc, .int K_used_100, .int K_bitsFree_101, .int K_full_102, .int K_time, .int K_value, .long K_rise])), (aKc, .inl (cI, 1661, .inl K_cells_103))]) (wr := []) (wb := [(aK, .inr (5, [.ref aKc, .int K_used_100, .int K_bitsFree_101, .int K_full_102, .int K_time, .int K_value, .long K_rise])), (aKc, .inl (cI, 1661, .inl K_cells_103))]) (v := none) hx hb hml hown htc hN (c_X5_addBits l G cI cZ cJ aK aKc K_used K_bitsFree K_full K_time K_value K_rise K_cells (15 : Int64) (4 : Int32) hE_99) mw_494 mw_496 mp_9 mw_8 mw_497 hd_X5_addBits ⟨rfl, rfl⟩ ⟨Nat.le_of_ble_eq_true rfl, Nat.le_of_ble_eq_true rfl⟩ hK hP hD hS hA [0, 1] [] [0, 1] rfl rfl rfl rfl rfl (by decide) rfl rfl rfl 0 rfl rfl rfl rfl hl.1 rfl rfl (Nat.le_of_ble_eq_true rfl) dX5_packChange_134 ⟨Nat.zero_le _, Nat.zero_le _⟩ (fun H locs hP hD hS => ?_)
              refine lv_aload_n hx hb dX5_packChange_137 rfl (lv_at hl 0 rfl) ?_
              refine lv_lload_n hx hb dX5_packChange_138 rfl (lv_at hl 1 rfl) ?_
              refine lv_ldc2 (v := (8589934592 : Int64)) hx hb hown (htc _ mw_508) dX5_packChange_139 ?_
              refine lv_ladd hx hb dX5_packChange_142 ?_
              refine lv_bipush (v := (34 : Int32)) hx hb dX5_packChange_143 (by decide) ?_
              obtain ⟨K_used_105, K_bitsFree_106, K_full_107, K_cells_108, hE_104, hJ_5⟩ := ob4_some hJ_5
              refine ctV (a := aK) (As := [.long (p0 + (8589934592 : Int64)), .int (34 : Int32)]) (rest := []) (st1 := []) (wc := [(aK, .inr (5, [.ref aKc, .int K_used_100, .int K_bitsFree_101, .int K_full_102, .int K_time, .int K_value, .long K_rise])), (aKc, .inl (cI, 1661, .inl K_cells_103))]) (w1 := [(aK, .inr (5, [.ref aKc, .int K_used_105, .int K_bitsFree_106, .int K_full_107, .int K_time, .int K_value, .long K_rise])), (aKc, .inl (cI, 1661, .inl K_cells_108))]) (wr := []) (wb := [(aK, .inr (5, [.ref aKc, .int K_used_105, .int K_bitsFree_106, .int K_full_107, .int K_time, .int K_value, .long K_rise])), (aKc, .inl (cI, 1661, .inl K_cells_108))]) (v := none) hx hb hml hown htc hN (c_X5_addBits l G cI cZ cJ aK aKc K_used_100 K_bitsFree_101 K_full_102 K_time K_value K_rise K_cells_103 (p0 + (8589934592 : Int64)) (34 : Int32) hE_104) mw_494 mw_496 mp_9 mw_8 mw_497 hd_X5_addBits ⟨rfl, rfl⟩ ⟨Nat.le_of_ble_eq_true rfl, Nat.le_of_ble_eq_true rfl⟩ hK hP hD hS hA [0, 1] [] [0, 1] rfl rfl rfl rfl rfl (by decide) rfl rfl rfl 0 rfl rfl rfl rfl hl.1 rfl rfl (Nat.le_of_ble_eq_true rfl) dX5_packChange_145 ⟨Nat.zero_le _, Nat.zero_le _⟩ (fun H locs hP hD hS => ?_)
              cases hJ_5
              exact kj_6 _ _ _ hP hD hS (lv_sub hl [] rfl)
            · have hJ_5 := it_f c_98 hJ_5
              refine lv_aload_n hx hb dX5_packChange_107 rfl (lv_at hl 0 rfl) ?_
              refine lv_ldc2 (v := (14 : Int64)) hx hb hown (htc _ mw_506) dX5_packChange_108 ?_
              refine lv_iconst (v := (4 : Int32)) hx hb dX5_packChange_111 (by decide) ?_
              obtain ⟨K_used_110, K_bitsFree_111, K_full_112, K_cells_113, hE_109, hJ_5⟩ := ob4_some hJ_5
              refine ctV (a := aK) (As := [.long (14 : Int64), .int (4 : Int32)]) (rest := []) (st1 := []) (wc := [(aK, .inr (5, [.ref aKc, .int K_used, .int K_bitsFree, .int K_full, .int K_time, .int K_value, .long K_rise])), (aKc, .inl (cI, 1661, .inl K_cells))]) (w1 := [(aK, .inr (5, [.ref aKc, .int K_used_110, .int K_bitsFree_111, .int K_full_112, .int K_time, .int K_value, .long K_rise])), (aKc, .inl (cI, 1661, .inl K_cells_113))]) (wr := []) (wb := [(aK, .inr (5, [.ref aKc, .int K_used_110, .int K_bitsFree_111, .int K_full_112, .int K_time, .int K_value, .long K_rise])), (aKc, .inl (cI, 1661, .inl K_cells_113))]) (v := none) hx hb hml hown htc hN (c_X5_addBits l G cI cZ cJ aK aKc K_used K_bitsFree K_full K_time K_value K_rise K_cells (14 : Int64) (4 : Int32) hE_109) mw_494 mw_496 mp_9 mw_8 mw_497 hd_X5_addBits ⟨rfl, rfl⟩ ⟨Nat.le_of_ble_eq_true rfl, Nat.le_of_ble_eq_true rfl⟩ hK hP hD hS hA [0, 1] [] [0, 1] rfl rfl rfl rfl rfl (by decide) rfl rfl rfl 0 rfl rfl rfl rfl hl.1 rfl rfl (Nat.le_of_ble_eq_true rfl) dX5_packChange_112 ⟨Nat.zero_le _, Nat.zero_le _⟩ (fun H locs hP hD hS => ?_)
              refine lv_aload_n hx hb dX5_packChange_115 rfl (lv_at hl 0 rfl) ?_
              refine lv_lload_n hx hb dX5_packChange_116 rfl (lv_at hl 1 rfl) ?_
              refine lv_ldc2 (v := (2048 : Int64)) hx hb hown (htc _ mw_505) dX5_packChange_117 ?_
              refine lv_ladd hx hb dX5_packChange_120 ?_
              refine lv_bipush (v := (12 : Int32)) hx hb dX5_packChange_121 (by decide) ?_
              obtain ⟨K_used_115, K_bitsFree_116, K_full_117, K_cells_118, hE_114, hJ_5⟩ := ob4_some hJ_5
              refine ctV (a := aK) (As := [.long (p0 + (2048 : Int64)), .int (12 : Int32)]) (rest := []) (st1 := []) (wc := [(aK, .inr (5, [.ref aKc, .int K_used_110, .int K_bitsFree_111, .int K_full_112, .int K_time, .int K_value, .long K_rise])), (aKc, .inl (cI, 1661, .inl K_cells_113))]) (w1 := [(aK, .inr (5, [.ref aKc, .int K_used_115, .int K_bitsFree_116, .int K_full_117, .int K_time, .int K_value, .long K_rise])), (aKc, .inl (cI, 1661, .inl K_cells_118))]) (wr := []) (wb := [(aK, .inr (5, [.ref aKc, .int K_used_115, .int K_bitsFree_116, .int K_full_117, .int K_time, .int K_value, .long K_rise])), (aKc, .inl (cI, 1661, .inl K_cells_118))]) (v := none) hx hb hml hown htc hN (c_X5_addBits l G cI cZ cJ aK aKc K_used_110 K_bitsFree_111 K_full_112 K_time K_value K_rise K_cells_113 (p0 + (2048 : Int64)) (12 : Int32) hE_114) mw_494 mw_496 mp_9 mw_8 mw_497 hd_X5_addBits ⟨rfl, rfl⟩ ⟨Nat.le_of_ble_eq_true rfl, Nat.le_of_ble_eq_true rfl⟩ hK hP hD hS hA [0, 1] [] [0, 1] rfl rfl rfl rfl rfl (by decide) rfl rfl rfl 0 rfl rfl rfl rfl hl.1 rfl rfl (Nat.le_of_ble_eq_true rfl) dX5_packChange_123 ⟨Nat.zero_le _, Nat.zero_le _⟩ (fun H locs hP hD hS => ?_)
              refine lv_goto (tgt := 148) hx hb dX5_packChange_126 (by decide) ?_
              cases hJ_5
              exact kj_6 _ _ _ hP hD hS (lv_sub hl [] rfl)
        · have hJ_5 := it_f c_86 hJ_5
          refine lv_lload_n hx hb dX5_packChange_61 rfl (lv_at hl 1 rfl) ?_
          refine lv_ldc2 (v := (256 : Int64)) hx hb hown (htc _ mw_502) dX5_packChange_62 ?_
          refine W.lcmp hx hb dX5_packChange_65 ?_
          refine lv_if_ge (tgt := 91) hx hb dX5_packChange_66 (by decide) (fun c_119 => ?_) (fun c_119 => ?_)
          · have hJ_5 := it_t c_119 hJ_5
            refine lv_lload_n hx hb dX5_packChange_91 rfl (lv_at hl 1 rfl) ?_
            refine lv_ldc2 (v := (-2048 : Int64)) hx hb hown (htc _ mw_504) dX5_packChange_92 ?_
            refine W.lcmp hx hb dX5_packChange_95 ?_
            refine lv_if_lt (tgt := 129) hx hb dX5_packChange_96 (by decide) (fun c_120 => ?_) (fun c_120 => ?_)
            · have hJ_5 := it_t c_120 hJ_5
              refine lv_aload_n hx hb dX5_packChange_129 rfl (lv_at hl 0 rfl) ?_
              refine lv_ldc2 (v := (15 : Int64)) hx hb hown (htc _ mw_507) dX5_packChange_130 ?_
              refine lv_iconst (v := (4 : Int32)) hx hb dX5_packChange_133 (by decide) ?_
              obtain ⟨K_used_122, K_bitsFree_123, K_full_124, K_cells_125, hE_121, hJ_5⟩ := ob4_some hJ_5
              refine ctV (a := aK) (As := [.long (15 : Int64), .int (4 : Int32)]) (rest := []) (st1 := []) (wc := [(aK, .inr (5, [.ref aKc, .int K_used, .int K_bitsFree, .int K_full, .int K_time, .int K_value, .long K_rise])), (aKc, .inl (cI, 1661, .inl K_cells))]) (w1 := [(aK, .inr (5, [.ref aKc, .int K_used_122, .int K_bitsFree_123, .int K_full_124, .int K_time, .int K_value, .long K_rise])), (aKc, .inl (cI, 1661, .inl K_cells_125))]) (wr := []) (wb := [(aK, .inr (5, [.ref aKc, .int K_used_122, .int K_bitsFree_123, .int K_full_124, .int K_time, .int K_value, .long K_rise])), (aKc, .inl (cI, 1661, .inl K_cells_125))]) (v := none) hx hb hml hown htc hN (c_X5_addBits l G cI cZ cJ aK aKc K_used K_bitsFree K_full K_time K_value K_rise K_cells (15 : Int64) (4 : Int32) hE_121) mw_494 mw_496 mp_9 mw_8 mw_497 hd_X5_addBits ⟨rfl, rfl⟩ ⟨Nat.le_of_ble_eq_true rfl, Nat.le_of_ble_eq_true rfl⟩ hK hP hD hS hA [0, 1] [] [0, 1] rfl rfl rfl rfl rfl (by decide) rfl rfl rfl 0 rfl rfl rfl rfl hl.1 rfl rfl (Nat.le_of_ble_eq_true rfl) dX5_packChange_134 ⟨Nat.zero_le _, Nat.zero_le _⟩ (fun H locs hP hD hS => ?_)
              refine lv_aload_n hx hb dX5_packChange_137 rfl (lv_at hl 0 rfl) ?_
              refine lv_lload_n hx hb dX5_packChange_138 rfl (lv_at hl 1 rfl) ?_
              refine lv_ldc2 (v := (8589934592 : Int64)) hx hb hown (htc _ mw_508) dX5_packChange_139 ?_
              refine lv_ladd hx hb dX5_packChange_142 ?_
              refine lv_bipush (v := (34 : Int32)) hx hb dX5_packChange_143 (by decide) ?_
              obtain ⟨K_used_127, K_bitsFree_128, K_full_129, K_cells_130, hE_126, hJ_5⟩ := ob4_some hJ_5
              refine ctV (a := aK) (As := [.long (p0 + (8589934592 : Int64)), .int (34 : Int32)]) (rest := []) (st1 := []) (wc := [(aK, .inr (5, [.ref aKc, .int K_used_122, .int K_bitsFree_123, .int K_full_124, .int K_time, .int K_value, .long K_rise])), (aKc, .inl (cI, 1661, .inl K_cells_125))]) (w1 := [(aK, .inr (5, [.ref aKc, .int K_used_127, .int K_bitsFree_128, .int K_full_129, .int K_time, .int K_value, .long K_rise])), (aKc, .inl (cI, 1661, .inl K_cells_130))]) (wr := []) (wb := [(aK, .inr (5, [.ref aKc, .int K_used_127, .int K_bitsFree_128, .int K_full_129, .int K_time, .int K_value, .long K_rise])), (aKc, .inl (cI, 1661, .inl K_cells_130))]) (v := none) hx hb hml hown htc hN (c_X5_addBits l G cI cZ cJ aK aKc K_used_122 K_bitsFree_123 K_full_124 K_time K_value K_rise K_cells_125 (p0 + (8589934592 : Int64)) (34 : Int32) hE_126) mw_494 mw_496 mp_9 mw_8 mw_497 hd_X5_addBits ⟨rfl, rfl⟩ ⟨Nat.le_of_ble_eq_true rfl, Nat.le_of_ble_eq_true rfl⟩ hK hP hD hS hA [0, 1] [] [0, 1] rfl rfl rfl rfl rfl (by decide) rfl rfl rfl 0 rfl rfl rfl rfl hl.1 rfl rfl (Nat.le_of_ble_eq_true rfl) dX5_packChange_145 ⟨Nat.zero_le _, Nat.zero_le _⟩ (fun H locs hP hD hS => ?_)
              cases hJ_5
              exact kj_6 _ _ _ hP hD hS (lv_sub hl [] rfl)
            · have hJ_5 := it_f c_120 hJ_5
              refine lv_lload_n hx hb dX5_packChange_99 rfl (lv_at hl 1 rfl) ?_
              refine lv_ldc2 (v := (2048 : Int64)) hx hb hown (htc _ mw_505) dX5_packChange_100 ?_
              refine W.lcmp hx hb dX5_packChange_103 ?_
              refine lv_if_ge (tgt := 129) hx hb dX5_packChange_104 (by decide) (fun c_131 => ?_) (fun c_131 => ?_)
              · have hJ_5 := it_t c_131 hJ_5
                refine lv_aload_n hx hb dX5_packChange_129 rfl (lv_at hl 0 rfl) ?_
                refine lv_ldc2 (v := (15 : Int64)) hx hb hown (htc _ mw_507) dX5_packChange_130 ?_
                refine lv_iconst (v := (4 : Int32)) hx hb dX5_packChange_133 (by decide) ?_
                obtain ⟨K_used_133, K_bitsFree_134, K_full_135, K_cells_136, hE_132, hJ_5⟩ := ob4_some hJ_5
                refine ctV (a := aK) (As := [.long (15 : Int64), .int (4 : Int32)]) (rest := []) (st1 := []) (wc := [(aK, .inr (5, [.ref aKc, .int K_used, .int K_bitsFree, .int K_full, .int K_time, .int K_value, .long K_rise])), (aKc, .inl (cI, 1661, .inl K_cells))]) (w1 := [(aK, .inr (5, [.ref aKc, .int K_used_133, .int K_bitsFree_134, .int K_full_135, .int K_time, .int K_value, .long K_rise])), (aKc, .inl (cI, 1661, .inl K_cells_136))]) (wr := []) (wb := [(aK, .inr (5, [.ref aKc, .int K_used_133, .int K_bitsFree_134, .int K_full_135, .int K_time, .int K_value, .long K_rise])), (aKc, .inl (cI, 1661, .inl K_cells_136))]) (v := none) hx hb hml hown htc hN (c_X5_addBits l G cI cZ cJ aK aKc K_used K_bitsFree K_full K_time K_value K_rise K_cells (15 : Int64) (4 : Int32) hE_132) mw_494 mw_496 mp_9 mw_8 mw_497 hd_X5_addBits ⟨rfl, rfl⟩ ⟨Nat.le_of_ble_eq_true rfl, Nat.le_of_ble_eq_true rfl⟩ hK hP hD hS hA [0, 1] [] [0, 1] rfl rfl rfl rfl rfl (by decide) rfl rfl rfl 0 rfl rfl rfl rfl hl.1 rfl rfl (Nat.le_of_ble_eq_true rfl) dX5_packChange_134 ⟨Nat.zero_le _, Nat.zero_le _⟩ (fun H locs hP hD hS => ?_)
                refine lv_aload_n hx hb dX5_packChange_137 rfl (lv_at hl 0 rfl) ?_
                refine lv_lload_n hx hb dX5_packChange_138 rfl (lv_at hl 1 rfl) ?_
                refine lv_ldc2 (v := (8589934592 : Int64)) hx hb hown (htc _ mw_508) dX5_packChange_139 ?_
                refine lv_ladd hx hb dX5_packChange_142 ?_
                refine lv_bipush (v := (34 : Int32)) hx hb dX5_packChange_143 (by decide) ?_
                obtain ⟨K_used_138, K_bitsFree_139, K_full_140, K_cells_141, hE_137, hJ_5⟩ := ob4_some hJ_5
                refine ctV (a := aK) (As := [.long (p0 + (8589934592 : Int64)), .int (34 : Int32)]) (rest := []) (st1 := []) (wc := [(aK, .inr (5, [.ref aKc, .int K_used_133, .int K_bitsFree_134, .int K_full_135, .int K_time, .int K_value, .long K_rise])), (aKc, .inl (cI, 1661, .inl K_cells_136))]) (w1 := [(aK, .inr (5, [.ref aKc, .int K_used_138, .int K_bitsFree_139, .int K_full_140, .int K_time, .int K_value, .long K_rise])), (aKc, .inl (cI, 1661, .inl K_cells_141))]) (wr := []) (wb := [(aK, .inr (5, [.ref aKc, .int K_used_138, .int K_bitsFree_139, .int K_full_140, .int K_time, .int K_value, .long K_rise])), (aKc, .inl (cI, 1661, .inl K_cells_141))]) (v := none) hx hb hml hown htc hN (c_X5_addBits l G cI cZ cJ aK aKc K_used_133 K_bitsFree_134 K_full_135 K_time K_value K_rise K_cells_136 (p0 + (8589934592 : Int64)) (34 : Int32) hE_137) mw_494 mw_496 mp_9 mw_8 mw_497 hd_X5_addBits ⟨rfl, rfl⟩ ⟨Nat.le_of_ble_eq_true rfl, Nat.le_of_ble_eq_true rfl⟩ hK hP hD hS hA [0, 1] [] [0, 1] rfl rfl rfl rfl rfl (by decide) rfl rfl rfl 0 rfl rfl rfl rfl hl.1 rfl rfl (Nat.le_of_ble_eq_true rfl) dX5_packChange_145 ⟨Nat.zero_le _, Nat.zero_le _⟩ (fun H locs hP hD hS => ?_)
                cases hJ_5
                exact kj_6 _ _ _ hP hD hS (lv_sub hl [] rfl)
              · have hJ_5 := it_f c_131 hJ_5
                refine lv_aload_n hx hb dX5_packChange_107 rfl (lv_at hl 0 rfl) ?_
                refine lv_ldc2 (v := (14 : Int64)) hx hb hown (htc _ mw_506) dX5_packChange_108 ?_
                refine lv_iconst (v := (4 : Int32)) hx hb dX5_packChange_111 (by decide) ?_
                obtain ⟨K_used_143, K_bitsFree_144, K_full_145, K_cells_146, hE_142, hJ_5⟩ := ob4_some hJ_5
                refine ctV (a := aK) (As := [.long (14 : Int64), .int (4 : Int32)]) (rest := []) (st1 := []) (wc := [(aK, .inr (5, [.ref aKc, .int K_used, .int K_bitsFree, .int K_full, .int K_time, .int K_value, .long K_rise])), (aKc, .inl (cI, 1661, .inl K_cells))]) (w1 := [(aK, .inr (5, [.ref aKc, .int K_used_143, .int K_bitsFree_144, .int K_full_145, .int K_time, .int K_value, .long K_rise])), (aKc, .inl (cI, 1661, .inl K_cells_146))]) (wr := []) (wb := [(aK, .inr (5, [.ref aKc, .int K_used_143, .int K_bitsFree_144, .int K_full_145, .int K_time, .int K_value, .long K_rise])), (aKc, .inl (cI, 1661, .inl K_cells_146))]) (v := none) hx hb hml hown htc hN (c_X5_addBits l G cI cZ cJ aK aKc K_used K_bitsFree K_full K_time K_value K_rise K_cells (14 : Int64) (4 : Int32) hE_142) mw_494 mw_496 mp_9 mw_8 mw_497 hd_X5_addBits ⟨rfl, rfl⟩ ⟨Nat.le_of_ble_eq_true rfl, Nat.le_of_ble_eq_true rfl⟩ hK hP hD hS hA [0, 1] [] [0, 1] rfl rfl rfl rfl rfl (by decide) rfl rfl rfl 0 rfl rfl rfl rfl hl.1 rfl rfl (Nat.le_of_ble_eq_true rfl) dX5_packChange_112 ⟨Nat.zero_le _, Nat.zero_le _⟩ (fun H locs hP hD hS => ?_)
                refine lv_aload_n hx hb dX5_packChange_115 rfl (lv_at hl 0 rfl) ?_
                refine lv_lload_n hx hb dX5_packChange_116 rfl (lv_at hl 1 rfl) ?_
                refine lv_ldc2 (v := (2048 : Int64)) hx hb hown (htc _ mw_505) dX5_packChange_117 ?_
                refine lv_ladd hx hb dX5_packChange_120 ?_
                refine lv_bipush (v := (12 : Int32)) hx hb dX5_packChange_121 (by decide) ?_
                obtain ⟨K_used_148, K_bitsFree_149, K_full_150, K_cells_151, hE_147, hJ_5⟩ := ob4_some hJ_5
                refine ctV (a := aK) (As := [.long (p0 + (2048 : Int64)), .int (12 : Int32)]) (rest := []) (st1 := []) (wc := [(aK, .inr (5, [.ref aKc, .int K_used_143, .int K_bitsFree_144, .int K_full_145, .int K_time, .int K_value, .long K_rise])), (aKc, .inl (cI, 1661, .inl K_cells_146))]) (w1 := [(aK, .inr (5, [.ref aKc, .int K_used_148, .int K_bitsFree_149, .int K_full_150, .int K_time, .int K_value, .long K_rise])), (aKc, .inl (cI, 1661, .inl K_cells_151))]) (wr := []) (wb := [(aK, .inr (5, [.ref aKc, .int K_used_148, .int K_bitsFree_149, .int K_full_150, .int K_time, .int K_value, .long K_rise])), (aKc, .inl (cI, 1661, .inl K_cells_151))]) (v := none) hx hb hml hown htc hN (c_X5_addBits l G cI cZ cJ aK aKc K_used_143 K_bitsFree_144 K_full_145 K_time K_value K_rise K_cells_146 (p0 + (2048 : Int64)) (12 : Int32) hE_147) mw_494 mw_496 mp_9 mw_8 mw_497 hd_X5_addBits ⟨rfl, rfl⟩ ⟨Nat.le_of_ble_eq_true rfl, Nat.le_of_ble_eq_true rfl⟩ hK hP hD hS hA [0, 1] [] [0, 1] rfl rfl rfl rfl rfl (by decide) rfl rfl rfl 0 rfl rfl rfl rfl hl.1 rfl rfl (Nat.le_of_ble_eq_true rfl) dX5_packChange_123 ⟨Nat.zero_le _, Nat.zero_le _⟩ (fun H locs hP hD hS => ?_)
                refine lv_goto (tgt := 148) hx hb dX5_packChange_126 (by decide) ?_
                cases hJ_5
                exact kj_6 _ _ _ hP hD hS (lv_sub hl [] rfl)
          · have hJ_5 := it_f c_119 hJ_5
            refine lv_aload_n hx hb dX5_packChange_69 rfl (lv_at hl 0 rfl) ?_
            refine lv_ldc2 (v := (6 : Int64)) hx hb hown (htc _ mw_503) dX5_packChange_70 ?_
            refine lv_iconst (v := (3 : Int32)) hx hb dX5_packChange_73 (by decide) ?_
            obtain ⟨K_used_153, K_bitsFree_154, K_full_155, K_cells_156, hE_152, hJ_5⟩ := ob4_some hJ_5
            refine ctV (a := aK) (As := [.long (6 : Int64), .int (3 : Int32)]) (rest := []) (st1 := []) (wc := [(aK, .inr (5, [.ref aKc, .int K_used, .int K_bitsFree, .int K_full, .int K_time, .int K_value, .long K_rise])), (aKc, .inl (cI, 1661, .inl K_cells))]) (w1 := [(aK, .inr (5, [.ref aKc, .int K_used_153, .int K_bitsFree_154, .int K_full_155, .int K_time, .int K_value, .long K_rise])), (aKc, .inl (cI, 1661, .inl K_cells_156))]) (wr := []) (wb := [(aK, .inr (5, [.ref aKc, .int K_used_153, .int K_bitsFree_154, .int K_full_155, .int K_time, .int K_value, .long K_rise])), (aKc, .inl (cI, 1661, .inl K_cells_156))]) (v := none) hx hb hml hown htc hN (c_X5_addBits l G cI cZ cJ aK aKc K_used K_bitsFree K_full K_time K_value K_rise K_cells (6 : Int64) (3 : Int32) hE_152) mw_494 mw_496 mp_9 mw_8 mw_497 hd_X5_addBits ⟨rfl, rfl⟩ ⟨Nat.le_of_ble_eq_true rfl, Nat.le_of_ble_eq_true rfl⟩ hK hP hD hS hA [0, 1] [] [0, 1] rfl rfl rfl rfl rfl (by decide) rfl rfl rfl 0 rfl rfl rfl rfl hl.1 rfl rfl (Nat.le_of_ble_eq_true rfl) dX5_packChange_74 ⟨Nat.zero_le _, Nat.zero_le _⟩ (fun H locs hP hD hS => ?_)
            refine lv_aload_n hx hb dX5_packChange_77 rfl (lv_at hl 0 rfl) ?_
            refine lv_lload_n hx hb dX5_packChange_78 rfl (lv_at hl 1 rfl) ?_
            refine lv_ldc2 (v := (256 : Int64)) hx hb hown (htc _ mw_502) dX5_packChange_79 ?_
            refine lv_ladd hx hb dX5_packChange_82 ?_
            refine lv_bipush (v := (9 : Int32)) hx hb dX5_packChange_83 (by decide) ?_
            obtain ⟨K_used_158, K_bitsFree_159, K_full_160, K_cells_161, hE_157, hJ_5⟩ := ob4_some hJ_5
            refine ctV (a := aK) (As := [.long (p0 + (256 : Int64)), .int (9 : Int32)]) (rest := []) (st1 := []) (wc := [(aK, .inr (5, [.ref aKc, .int K_used_153, .int K_bitsFree_154, .int K_full_155, .int K_time, .int K_value, .long K_rise])), (aKc, .inl (cI, 1661, .inl K_cells_156))]) (w1 := [(aK, .inr (5, [.ref aKc, .int K_used_158, .int K_bitsFree_159, .int K_full_160, .int K_time, .int K_value, .long K_rise])), (aKc, .inl (cI, 1661, .inl K_cells_161))]) (wr := []) (wb := [(aK, .inr (5, [.ref aKc, .int K_used_158, .int K_bitsFree_159, .int K_full_160, .int K_time, .int K_value, .long K_rise])), (aKc, .inl (cI, 1661, .inl K_cells_161))]) (v := none) hx hb hml hown htc hN (c_X5_addBits l G cI cZ cJ aK aKc K_used_153 K_bitsFree_154 K_full_155 K_time K_value K_rise K_cells_156 (p0 + (256 : Int64)) (9 : Int32) hE_157) mw_494 mw_496 mp_9 mw_8 mw_497 hd_X5_addBits ⟨rfl, rfl⟩ ⟨Nat.le_of_ble_eq_true rfl, Nat.le_of_ble_eq_true rfl⟩ hK hP hD hS hA [0, 1] [] [0, 1] rfl rfl rfl rfl rfl (by decide) rfl rfl rfl 0 rfl rfl rfl rfl hl.1 rfl rfl (Nat.le_of_ble_eq_true rfl) dX5_packChange_85 ⟨Nat.zero_le _, Nat.zero_le _⟩ (fun H locs hP hD hS => ?_)
            refine lv_goto (tgt := 148) hx hb dX5_packChange_88 (by decide) ?_
            cases hJ_5
            exact kj_6 _ _ _ hP hD hS (lv_sub hl [] rfl)
      · have hJ_5 := it_f c_85 hJ_5
        refine lv_aload_n hx hb dX5_packChange_31 rfl (lv_at hl 0 rfl) ?_
        refine lv_ldc2 (v := (2 : Int64)) hx hb hown (htc _ mw_500) dX5_packChange_32 ?_
        refine lv_iconst (v := (2 : Int32)) hx hb dX5_packChange_35 (by decide) ?_
        obtain ⟨K_used_163, K_bitsFree_164, K_full_165, K_cells_166, hE_162, hJ_5⟩ := ob4_some hJ_5
        refine ctV (a := aK) (As := [.long (2 : Int64), .int (2 : Int32)]) (rest := []) (st1 := []) (wc := [(aK, .inr (5, [.ref aKc, .int K_used, .int K_bitsFree, .int K_full, .int K_time, .int K_value, .long K_rise])), (aKc, .inl (cI, 1661, .inl K_cells))]) (w1 := [(aK, .inr (5, [.ref aKc, .int K_used_163, .int K_bitsFree_164, .int K_full_165, .int K_time, .int K_value, .long K_rise])), (aKc, .inl (cI, 1661, .inl K_cells_166))]) (wr := []) (wb := [(aK, .inr (5, [.ref aKc, .int K_used_163, .int K_bitsFree_164, .int K_full_165, .int K_time, .int K_value, .long K_rise])), (aKc, .inl (cI, 1661, .inl K_cells_166))]) (v := none) hx hb hml hown htc hN (c_X5_addBits l G cI cZ cJ aK aKc K_used K_bitsFree K_full K_time K_value K_rise K_cells (2 : Int64) (2 : Int32) hE_162) mw_494 mw_496 mp_9 mw_8 mw_497 hd_X5_addBits ⟨rfl, rfl⟩ ⟨Nat.le_of_ble_eq_true rfl, Nat.le_of_ble_eq_true rfl⟩ hK hP hD hS hA [0, 1] [] [0, 1] rfl rfl rfl rfl rfl (by decide) rfl rfl rfl 0 rfl rfl rfl rfl hl.1 rfl rfl (Nat.le_of_ble_eq_true rfl) dX5_packChange_36 ⟨Nat.zero_le _, Nat.zero_le _⟩ (fun H locs hP hD hS => ?_)
        refine lv_aload_n hx hb dX5_packChange_39 rfl (lv_at hl 0 rfl) ?_
        refine lv_lload_n hx hb dX5_packChange_40 rfl (lv_at hl 1 rfl) ?_
        refine lv_ldc2 (v := (64 : Int64)) hx hb hown (htc _ mw_499) dX5_packChange_41 ?_
        refine lv_ladd hx hb dX5_packChange_44 ?_
        refine lv_bipush (v := (7 : Int32)) hx hb dX5_packChange_45 (by decide) ?_
        obtain ⟨K_used_168, K_bitsFree_169, K_full_170, K_cells_171, hE_167, hJ_5⟩ := ob4_some hJ_5
        refine ctV (a := aK) (As := [.long (p0 + (64 : Int64)), .int (7 : Int32)]) (rest := []) (st1 := []) (wc := [(aK, .inr (5, [.ref aKc, .int K_used_163, .int K_bitsFree_164, .int K_full_165, .int K_time, .int K_value, .long K_rise])), (aKc, .inl (cI, 1661, .inl K_cells_166))]) (w1 := [(aK, .inr (5, [.ref aKc, .int K_used_168, .int K_bitsFree_169, .int K_full_170, .int K_time, .int K_value, .long K_rise])), (aKc, .inl (cI, 1661, .inl K_cells_171))]) (wr := []) (wb := [(aK, .inr (5, [.ref aKc, .int K_used_168, .int K_bitsFree_169, .int K_full_170, .int K_time, .int K_value, .long K_rise])), (aKc, .inl (cI, 1661, .inl K_cells_171))]) (v := none) hx hb hml hown htc hN (c_X5_addBits l G cI cZ cJ aK aKc K_used_163 K_bitsFree_164 K_full_165 K_time K_value K_rise K_cells_166 (p0 + (64 : Int64)) (7 : Int32) hE_167) mw_494 mw_496 mp_9 mw_8 mw_497 hd_X5_addBits ⟨rfl, rfl⟩ ⟨Nat.le_of_ble_eq_true rfl, Nat.le_of_ble_eq_true rfl⟩ hK hP hD hS hA [0, 1] [] [0, 1] rfl rfl rfl rfl rfl (by decide) rfl rfl rfl 0 rfl rfl rfl rfl hl.1 rfl rfl (Nat.le_of_ble_eq_true rfl) dX5_packChange_47 ⟨Nat.zero_le _, Nat.zero_le _⟩ (fun H locs hP hD hS => ?_)
        refine lv_goto (tgt := 148) hx hb dX5_packChange_50 (by decide) ?_
        cases hJ_5
        exact kj_6 _ _ _ hP hD hS (lv_sub hl [] rfl)
  · have hJ_5 := it_t c_7 hJ_5
    refine lv_aload_n hx hb dX5_packChange_6 rfl (lv_at hl 0 rfl) ?_
    refine lv_lconst (v := (0 : Int64)) hx hb dX5_packChange_7 (by decide) ?_
    refine lv_iconst (v := (1 : Int32)) hx hb dX5_packChange_8 (by decide) ?_
    obtain ⟨K_used_173, K_bitsFree_174, K_full_175, K_cells_176, hE_172, hJ_5⟩ := ob4_some hJ_5
    refine ctV (a := aK) (As := [.long (0 : Int64), .int (1 : Int32)]) (rest := []) (st1 := []) (wc := [(aK, .inr (5, [.ref aKc, .int K_used, .int K_bitsFree, .int K_full, .int K_time, .int K_value, .long K_rise])), (aKc, .inl (cI, 1661, .inl K_cells))]) (w1 := [(aK, .inr (5, [.ref aKc, .int K_used_173, .int K_bitsFree_174, .int K_full_175, .int K_time, .int K_value, .long K_rise])), (aKc, .inl (cI, 1661, .inl K_cells_176))]) (wr := []) (wb := [(aK, .inr (5, [.ref aKc, .int K_used_173, .int K_bitsFree_174, .int K_full_175, .int K_time, .int K_value, .long K_rise])), (aKc, .inl (cI, 1661, .inl K_cells_176))]) (v := none) hx hb hml hown htc hN (c_X5_addBits l G cI cZ cJ aK aKc K_used K_bitsFree K_full K_time K_value K_rise K_cells (0 : Int64) (1 : Int32) hE_172) mw_494 mw_496 mp_9 mw_8 mw_497 hd_X5_addBits ⟨rfl, rfl⟩ ⟨Nat.le_of_ble_eq_true rfl, Nat.le_of_ble_eq_true rfl⟩ hK hP hD hS hA [0, 1] [] [0, 1] rfl rfl rfl rfl rfl (by decide) rfl rfl rfl 0 rfl rfl rfl rfl hl.1 rfl rfl (Nat.le_of_ble_eq_true rfl) dX5_packChange_9 ⟨Nat.zero_le _, Nat.zero_le _⟩ (fun H locs hP hD hS => ?_)
    refine lv_goto (tgt := 148) hx hb dX5_packChange_12 (by decide) ?_
    cases hJ_5
    exact kj_6 _ _ _ hP hD hS (lv_sub hl [] rfl)
def lp_X5_packDifference_19 (s_1 : Int32) : Nat → Int32 → Int32 → Int32 → Int32 → (Nat → Int32) → Option (Int32 × Int32 × Int32 × (Nat → Int32))
  | 0, _, _, _, _, _ => none
  | n + 1, v3_5, K_used_6, K_bitsFree_7, K_full_8, K_cells_9 =>
    if (32 : Int32) ≤ v3_5 then (
      some (K_used_6, K_bitsFree_7, K_full_8, K_cells_9)) else (
      if ((Int32.toUInt32 s_1 >>> (Int32.toUInt32 v3_5 &&& Int32.toUInt32 31)).toInt32) = 0 then (
        some (K_used_6, K_bitsFree_7, K_full_8, K_cells_9)) else (
        ob4 (m_X5_addBits K_used_6 K_bitsFree_7 K_full_8 K_cells_9 (1 : Int64) (1 : Int32)) fun K_used_21 K_bitsFree_22 K_full_23 K_cells_24 =>
        ob4 (m_X5_addBits K_used_21 K_bitsFree_22 K_full_23 K_cells_24 (Int32.toInt64 ((Int32.toUInt32 s_1 >>> (Int32.toUInt32 v3_5 &&& Int32.toUInt32 31)).toInt32)) (4 : Int32)) fun K_used_26 K_bitsFree_27 K_full_28 K_cells_29 =>
        lp_X5_packDifference_19 s_1 n (v3_5 + (4 : Int32)) K_used_26 K_bitsFree_27 K_full_28 K_cells_29))
def m_X5_packDifference (K_used : Int32) (K_bitsFree : Int32) (K_full : Int32) (K_cells : Nat → Int32) (p0 : Int32) : Option (Int32 × Int32 × Int32 × (Nat → Int32)) :=
  ob1 (
    if 0 ≤ p0 then (
      some (((2 : Int32) * p0))) else (
      some ((((-2 : Int32) * p0) - (1 : Int32))))) fun s_1 =>
  ob4 (lp_X5_packDifference_19 s_1 NN (0 : Int32) K_used K_bitsFree K_full K_cells) fun K_used_14 K_bitsFree_15 K_full_16 K_cells_17 =>
  ob4 (m_X5_addBits K_used_14 K_bitsFree_15 K_full_16 K_cells_17 (0 : Int64) (1 : Int32)) fun K_used_31 K_bitsFree_32 K_full_33 K_cells_34 =>
  some (K_used_31, K_bitsFree_32, K_full_33, K_cells_34)
abbrev rm_X5_packDifference : Room := { frames := 2, cells := 0, slots := 0, locals := 45 }
theorem hd_X5_packDifference : yX5_packDifference.cls = RX5 ∧ yX5_packDifference.cls ≠ "java/lang/invoke/MethodHandle" ∧ yX5_packDifference.cls ≠ "java/lang/invoke/VarHandle" ∧ (parseMethodDescriptor yX5_packDifference.desc).map (fun d => d.parameters.length) = some 1 := by decide +kernel
set_option maxHeartbeats 4000000 in
set_option maxRecDepth 100000 in
theorem c_X5_packDifference (l : Launch) (G : va_G) (cI cZ cJ : ClassId) (aK aKc : Nat) (K_used : Int32) (K_bitsFree : Int32) (K_full : Int32) (K_time : Int32) (K_value : Int32) (K_rise : Int64) (K_cells : Nat → Int32) (p0 : Int32) {o_K_used : Int32} {o_K_bitsFree : Int32} {o_K_full : Int32} {o_K_cells : Nat → Int32} (hfin : m_X5_packDifference K_used K_bitsFree K_full K_cells p0 = some (o_K_used, o_K_bitsFree, o_K_full, o_K_cells)) : CT l yX5_packDifference cX5_packDifference 4 none rm_X5_packDifference G (tyC cI cZ cJ) [.ref aK, .int p0] [(aK, .inr (5, [.ref aKc, .int K_used, .int K_bitsFree, .int K_full, .int K_time, .int K_value, .long K_rise])), (aKc, .inl (cI, 1661, .inl K_cells))] none [(aK, .inr (5, [.ref aKc, .int o_K_used, .int o_K_bitsFree, .int o_K_full, .int K_time, .int K_value, .long K_rise])), (aKc, .inl (cI, 1661, .inl o_K_cells))] := by
  refine CT.ofW (lvl := [(0, .ref aK), (1, .int p0)]) (by decide) (Nat.le_of_ble_eq_true rfl) rfl ?_
  intro p e s m args below meth c A ls QQ hQQ hx hb hml hr hlocks htc hN hown hK hA hP hD hS hl
  rw [m_X5_packDifference] at hfin
  refine lv_iload_n hx hb dX5_packDifference_0 rfl (lv_at hl 1 rfl) ?_
  obtain ⟨s_1, hJ_2, hfin⟩ := ob1_some hfin
  have kj_3 : ∀ (H : Heap) (locs : List Loc) (ls : Array Slot), va_P G classes [(aK, .inr (5, [.ref aKc, .int K_used, .int K_bitsFree, .int K_full, .int K_time, .int K_value, .long K_rise])), (aKc, .inl (cI, 1661, .inl K_cells))] H → va_D A [(aK, .inr (5, [.ref aKc, .int K_used, .int K_bitsFree, .int K_full, .int K_time, .int K_value, .long K_rise])), (aKc, .inl (cI, 1661, .inl K_cells))] → va_S A s.heap H locs → lv_has ls 4 [(0, .ref aK)] → W p l e rm_X5_packDifference s m args below meth c H locs 0 0 QQ (F0 m 16 ls [.int s_1]) := by
    intro H locs ls hP hD hS hl
    refine lv_istore_n (lv' := [(2, .int s_1), (0, .ref aK)]) hx hb dX5_packDifference_16 rfl hl (by decide) rfl (fun ls hl => ?_)
    refine lv_iconst (v := (0 : Int32)) hx hb dX5_packDifference_17 (by decide) ?_
    refine lv_istore_n (lv' := [(3, .int (0 : Int32)), (2, .int s_1), (0, .ref aK)]) hx hb dX5_packDifference_18 rfl hl (by decide) rfl (fun ls hl => ?_)
    obtain ⟨K_used_14, K_bitsFree_15, K_full_16, K_cells_17, hL_10, hfin⟩ := ob4_some hfin
    have kx_11 : ∀ (H : Heap) (locs : List Loc) (ls : Array Slot), va_P G classes [(aK, .inr (5, [.ref aKc, .int K_used_14, .int K_bitsFree_15, .int K_full_16, .int K_time, .int K_value, .long K_rise])), (aKc, .inl (cI, 1661, .inl K_cells_17))] H → va_D A [(aK, .inr (5, [.ref aKc, .int K_used_14, .int K_bitsFree_15, .int K_full_16, .int K_time, .int K_value, .long K_rise])), (aKc, .inl (cI, 1661, .inl K_cells_17))] → va_S A s.heap H locs → lv_has ls 4 [(0, .ref aK)] → W p l e rm_X5_packDifference s m args below meth c H locs 0 0 QQ (F0 m 52 ls []) := by
      intro H locs ls hP hD hS hl
      refine lv_aload_n hx hb dX5_packDifference_52 rfl (lv_at hl 0 rfl) ?_
      refine lv_lconst (v := (0 : Int64)) hx hb dX5_packDifference_53 (by decide) ?_
      refine lv_iconst (v := (1 : Int32)) hx hb dX5_packDifference_54 (by decide) ?_
      obtain ⟨K_used_31, K_bitsFree_32, K_full_33, K_cells_34, hE_30, hfin⟩ := ob4_some hfin
      refine ctV (a := aK) (As := [.long (0 : Int64), .int (1 : Int32)]) (rest := []) (st1 := []) (wc := [(aK, .inr (5, [.ref aKc, .int K_used_14, .int K_bitsFree_15, .int K_full_16, .int K_time, .int K_value, .long K_rise])), (aKc, .inl (cI, 1661, .inl K_cells_17))]) (w1 := [(aK, .inr (5, [.ref aKc, .int K_used_31, .int K_bitsFree_32, .int K_full_33, .int K_time, .int K_value, .long K_rise])), (aKc, .inl (cI, 1661, .inl K_cells_34))]) (wr := []) (wb := [(aK, .inr (5, [.ref aKc, .int K_used_31, .int K_bitsFree_32, .int K_full_33, .int K_time, .int K_value, .long K_rise])), (aKc, .inl (cI, 1661, .inl K_cells_34))]) (v := none) hx hb hml hown htc hN (c_X5_addBits l G cI cZ cJ aK aKc K_used_14 K_bitsFree_15 K_full_16 K_time K_value K_rise K_cells_17 (0 : Int64) (1 : Int32) hE_30) mw_494 mw_496 mp_9 mw_8 mw_497 hd_X5_addBits ⟨rfl, rfl⟩ ⟨Nat.le_of_ble_eq_true rfl, Nat.le_of_ble_eq_true rfl⟩ hK hP hD hS hA [0, 1] [] [0, 1] rfl rfl rfl rfl rfl (by decide) rfl rfl rfl 0 rfl rfl rfl rfl hl.1 rfl rfl (Nat.le_of_ble_eq_true rfl) dX5_packDifference_55 ⟨Nat.zero_le _, Nat.zero_le _⟩ (fun H locs hP hD hS => ?_)
      cases hfin
      rw [hQQ]
      exact ct_vret hx hb hr hlocks hP hD hS dX5_packDifference_58
    have lp_12 : ∀ (n : Nat) (v3_5 : Int32) (K_used_6 : Int32) (K_bitsFree_7 : Int32) (K_full_8 : Int32) (K_cells_9 : Nat → Int32), lp_X5_packDifference_19 s_1 n v3_5 K_used_6 K_bitsFree_7 K_full_8 K_cells_9 = some (K_used_14, K_bitsFree_15, K_full_16, K_cells_17) → ∀ (H : Heap) (locs : List Loc) (ls : Array Slot), va_P G classes [(aK, .inr (5, [.ref aKc, .int K_used_6, .int K_bitsFree_7, .int K_full_8, .int K_time, .int K_value, .long K_rise])), (aKc, .inl (cI, 1661, .inl K_cells_9))] H → va_D A [(aK, .inr (5, [.ref aKc, .int K_used_6, .int K_bitsFree_7, .int K_full_8, .int K_time, .int K_value, .long K_rise])), (aKc, .inl (cI, 1661, .inl K_cells_9))] → va_S A s.heap H locs → lv_has ls 4 [(0, .ref aK), (2, .int s_1), (3, .int v3_5)] → W p l e rm_X5_packDifference s m args below meth c H locs 0 0 QQ (F0 m 19 ls []) := by
      intro n
      induction n with
      | zero =>
        intro v3_5 K_used_6 K_bitsFree_7 K_full_8 K_cells_9 hB_13
        exact absurd hB_13 (by rw [lp_X5_packDifference_19]; exact fun h9 => nomatch h9)
      | succ n ih =>
        intro v3_5 K_used_6 K_bitsFree_7 K_full_8 K_cells_9 hB_13 H locs ls hP hD hS hl
        rw [lp_X5_packDifference_19] at hB_13
        refine lv_iload_n hx hb dX5_packDifference_19 rfl (lv_at hl 2 rfl) ?_
        refine lv_bipush (v := (32 : Int32)) hx hb dX5_packDifference_20 (by decide) ?_
        refine lv_icmp_ge (tgt := 52) hx hb dX5_packDifference_22 (by decide) (fun c_18 => ?_) (fun c_18 => ?_)
        · have hB_13 := it_t c_18 hB_13
          cases hB_13
          exact kx_11 _ _ _ hP hD hS (lv_sub hl [0] rfl)
        · have hB_13 := it_f c_18 hB_13
          refine lv_iload_n hx hb dX5_packDifference_25 rfl (lv_at hl 1 rfl) ?_
          refine lv_iload_n hx hb dX5_packDifference_26 rfl (lv_at hl 2 rfl) ?_
          refine lv_iushr hx hb dX5_packDifference_27 rfl ?_
          refine lv_if_eq (tgt := 52) hx hb dX5_packDifference_28 (by decide) (fun c_19 => ?_) (fun c_19 => ?_)
          · have hB_13 := it_t c_19 hB_13
            cases hB_13
            exact kx_11 _ _ _ hP hD hS (lv_sub hl [0] rfl)
          · have hB_13 := it_f c_19 hB_13
            refine lv_aload_n hx hb dX5_packDifference_31 rfl (lv_at hl 0 rfl) ?_
            refine lv_lconst (v := (1 : Int64)) hx hb dX5_packDifference_32 (by decide) ?_
            refine lv_iconst (v := (1 : Int32)) hx hb dX5_packDifference_33 (by decide) ?_
            obtain ⟨K_used_21, K_bitsFree_22, K_full_23, K_cells_24, hE_20, hB_13⟩ := ob4_some hB_13
            refine ctV (a := aK) (As := [.long (1 : Int64), .int (1 : Int32)]) (rest := []) (st1 := []) (wc := [(aK, .inr (5, [.ref aKc, .int K_used_6, .int K_bitsFree_7, .int K_full_8, .int K_time, .int K_value, .long K_rise])), (aKc, .inl (cI, 1661, .inl K_cells_9))]) (w1 := [(aK, .inr (5, [.ref aKc, .int K_used_21, .int K_bitsFree_22, .int K_full_23, .int K_time, .int K_value, .long K_rise])), (aKc, .inl (cI, 1661, .inl K_cells_24))]) (wr := []) (wb := [(aK, .inr (5, [.ref aKc, .int K_used_21, .int K_bitsFree_22, .int K_full_23, .int K_time, .int K_value, .long K_rise])), (aKc, .inl (cI, 1661, .inl K_cells_24))]) (v := none) hx hb hml hown htc hN (c_X5_addBits l G cI cZ cJ aK aKc K_used_6 K_bitsFree_7 K_full_8 K_time K_value K_rise K_cells_9 (1 : Int64) (1 : Int32) hE_20) mw_494 mw_496 mp_9 mw_8 mw_497 hd_X5_addBits ⟨rfl, rfl⟩ ⟨Nat.le_of_ble_eq_true rfl, Nat.le_of_ble_eq_true rfl⟩ hK hP hD hS hA [0, 1] [] [0, 1] rfl rfl rfl rfl rfl (by decide) rfl rfl rfl 0 rfl rfl rfl rfl hl.1 rfl rfl (Nat.le_of_ble_eq_true rfl) dX5_packDifference_34 ⟨Nat.zero_le _, Nat.zero_le _⟩ (fun H locs hP hD hS => ?_)
            refine lv_aload_n hx hb dX5_packDifference_37 rfl (lv_at hl 0 rfl) ?_
            refine lv_iload_n hx hb dX5_packDifference_38 rfl (lv_at hl 1 rfl) ?_
            refine lv_iload_n hx hb dX5_packDifference_39 rfl (lv_at hl 2 rfl) ?_
            refine lv_iushr hx hb dX5_packDifference_40 rfl ?_
            refine lv_i2l hx hb dX5_packDifference_41 rfl ?_
            refine lv_iconst (v := (4 : Int32)) hx hb dX5_packDifference_42 (by decide) ?_
            obtain ⟨K_used_26, K_bitsFree_27, K_full_28, K_cells_29, hE_25, hB_13⟩ := ob4_some hB_13
            refine ctV (a := aK) (As := [.long (Int32.toInt64 ((Int32.toUInt32 s_1 >>> (Int32.toUInt32 v3_5 &&& Int32.toUInt32 31)).toInt32)), .int (4 : Int32)]) (rest := []) (st1 := []) (wc := [(aK, .inr (5, [.ref aKc, .int K_used_21, .int K_bitsFree_22, .int K_full_23, .int K_time, .int K_value, .long K_rise])), (aKc, .inl (cI, 1661, .inl K_cells_24))]) (w1 := [(aK, .inr (5, [.ref aKc, .int K_used_26, .int K_bitsFree_27, .int K_full_28, .int K_time, .int K_value, .long K_rise])), (aKc, .inl (cI, 1661, .inl K_cells_29))]) (wr := []) (wb := [(aK, .inr (5, [.ref aKc, .int K_used_26, .int K_bitsFree_27, .int K_full_28, .int K_time, .int K_value, .long K_rise])), (aKc, .inl (cI, 1661, .inl K_cells_29))]) (v := none) hx hb hml hown htc hN (c_X5_addBits l G cI cZ cJ aK aKc K_used_21 K_bitsFree_22 K_full_23 K_time K_value K_rise K_cells_24 (Int32.toInt64 ((Int32.toUInt32 s_1 >>> (Int32.toUInt32 v3_5 &&& Int32.toUInt32 31)).toInt32)) (4 : Int32) hE_25) mw_494 mw_496 mp_9 mw_8 mw_497 hd_X5_addBits ⟨rfl, rfl⟩ ⟨Nat.le_of_ble_eq_true rfl, Nat.le_of_ble_eq_true rfl⟩ hK hP hD hS hA [0, 1] [] [0, 1] rfl rfl rfl rfl rfl (by decide) rfl rfl rfl 0 rfl rfl rfl rfl hl.1 rfl rfl (Nat.le_of_ble_eq_true rfl) dX5_packDifference_43 ⟨Nat.zero_le _, Nat.zero_le _⟩ (fun H locs hP hD hS => ?_)
            refine lv_iinc (v := (v3_5 + (4 : Int32))) (lv' := [(3, .int (v3_5 + (4 : Int32))), (0, .ref aK), (2, .int s_1)]) hx hb dX5_packDifference_46 hl (k := 2) rfl rfl (by decide) rfl (fun ls hl => ?_)
            refine lv_goto (tgt := 19) hx hb dX5_packDifference_49 (by decide) ?_
            exact ih (v3_5 + (4 : Int32)) K_used_26 K_bitsFree_27 K_full_28 K_cells_29 hB_13 _ _ _ hP hD hS (lv_sub hl [1, 2, 0] rfl)
    exact lp_12 NN (0 : Int32) K_used K_bitsFree K_full K_cells hL_10 _ _ _ hP hD hS (lv_sub hl [2, 1, 0] rfl)
  refine lv_if_ge (tgt := 13) hx hb dX5_packDifference_1 (by decide) (fun c_4 => ?_) (fun c_4 => ?_)
  · have hJ_2 := it_t c_4 hJ_2
    refine lv_iconst (v := (2 : Int32)) hx hb dX5_packDifference_13 (by decide) ?_
    refine lv_iload_n hx hb dX5_packDifference_14 rfl (lv_at hl 1 rfl) ?_
    refine lv_imul hx hb dX5_packDifference_15 ?_
    cases hJ_2
    exact kj_3 _ _ _ hP hD hS (lv_sub hl [0] rfl)
  · have hJ_2 := it_f c_4 hJ_2
    refine lv_bipush (v := (-2 : Int32)) hx hb dX5_packDifference_4 (by decide) ?_
    refine lv_iload_n hx hb dX5_packDifference_6 rfl (lv_at hl 1 rfl) ?_
    refine lv_imul hx hb dX5_packDifference_7 ?_
    refine lv_iconst (v := (1 : Int32)) hx hb dX5_packDifference_8 (by decide) ?_
    refine lv_isub hx hb dX5_packDifference_9 ?_
    refine lv_goto (tgt := 16) hx hb dX5_packDifference_10 (by decide) ?_
    cases hJ_2
    exact kj_3 _ _ _ hP hD hS (lv_sub hl [0] rfl)
def m_X5_packFurther (K_used : Int32) (K_bitsFree : Int32) (K_full : Int32) (K_time : Int32) (K_value : Int32) (K_rise : Int64) (K_cells : Nat → Int32) (p0 : Int32) (p1 : Int32) : Option (Int32 × Int32 × Int32 × Int32 × Int32 × Int64 × (Nat → Int32)) :=
  ob4 (m_X5_packChange K_used K_bitsFree K_full K_cells (((Int32.toInt64 p0) - (Int32.toInt64 K_time)) - K_rise)) fun K_used_2 K_bitsFree_3 K_full_4 K_cells_5 =>
  ob4 (m_X5_packDifference K_used_2 K_bitsFree_3 K_full_4 K_cells_5 (p1 - K_value)) fun K_used_7 K_bitsFree_8 K_full_9 K_cells_10 =>
  some (K_used_7, K_bitsFree_8, K_full_9, p0, p1, ((Int32.toInt64 p0) - (Int32.toInt64 K_time)), K_cells_10)
abbrev rm_X5_packFurther : Room := { frames := 3, cells := 0, slots := 0, locals := 68 }
theorem hd_X5_packFurther : yX5_packFurther.cls = RX5 ∧ yX5_packFurther.cls ≠ "java/lang/invoke/MethodHandle" ∧ yX5_packFurther.cls ≠ "java/lang/invoke/VarHandle" ∧ (parseMethodDescriptor yX5_packFurther.desc).map (fun d => d.parameters.length) = some 2 := by decide +kernel
set_option maxHeartbeats 4000000 in
set_option maxRecDepth 100000 in
theorem c_X5_packFurther (l : Launch) (G : va_G) (cI cZ cJ : ClassId) (aK aKc : Nat) (K_used : Int32) (K_bitsFree : Int32) (K_full : Int32) (K_time : Int32) (K_value : Int32) (K_rise : Int64) (K_cells : Nat → Int32) (p0 : Int32) (p1 : Int32) {o_K_used : Int32} {o_K_bitsFree : Int32} {o_K_full : Int32} {o_K_time : Int32} {o_K_value : Int32} {o_K_rise : Int64} {o_K_cells : Nat → Int32} (hfin : m_X5_packFurther K_used K_bitsFree K_full K_time K_value K_rise K_cells p0 p1 = some (o_K_used, o_K_bitsFree, o_K_full, o_K_time, o_K_value, o_K_rise, o_K_cells)) : CT l yX5_packFurther cX5_packFurther 5 none rm_X5_packFurther G (tyC cI cZ cJ) [.ref aK, .int p0, .int p1] [(aK, .inr (5, [.ref aKc, .int K_used, .int K_bitsFree, .int K_full, .int K_time, .int K_value, .long K_rise])), (aKc, .inl (cI, 1661, .inl K_cells))] none [(aK, .inr (5, [.ref aKc, .int o_K_used, .int o_K_bitsFree, .int o_K_full, .int o_K_time, .int o_K_value, .long o_K_rise])), (aKc, .inl (cI, 1661, .inl o_K_cells))] := by
  refine CT.ofW (lvl := [(0, .ref aK), (1, .int p0), (2, .int p1)]) (by decide) (Nat.le_of_ble_eq_true rfl) rfl ?_
  intro p e s m args below meth c A ls QQ hQQ hx hb hml hr hlocks htc hN hown hK hA hP hD hS hl
  rw [m_X5_packFurther] at hfin
  refine lv_iload_n hx hb dX5_packFurther_0 rfl (lv_at hl 1 rfl) ?_
  refine lv_i2l hx hb dX5_packFurther_1 rfl ?_
  refine lv_aload_n hx hb dX5_packFurther_2 rfl (lv_at hl 0 rfl) ?_
  refine va_get (D := G) (ci := 5) (v := .int K_time) (C := RX5) (T := TX5) (N := 7) hx hb htc iX5 hown hK hP 0 rfl rfl 4 (by decide) (htc _ mw_129) (fun _ h9 => h9) rfl dX5_packFurther_3 ?_
  refine lv_i2l hx hb dX5_packFurther_6 rfl ?_
  refine lv_lsub hx hb dX5_packFurther_7 ?_
  refine lv_lstore_n (lv' := [(3, .long ((Int32.toInt64 p0) - (Int32.toInt64 K_time))), (0, .ref aK), (1, .int p0), (2, .int p1)]) hx hb dX5_packFurther_8 rfl hl (by decide) rfl (fun ls hl => ?_)
  refine lv_aload_n hx hb dX5_packFurther_9 rfl (lv_at hl 1 rfl) ?_
  refine lv_lload_n hx hb dX5_packFurther_10 rfl (lv_at hl 0 rfl) ?_
  refine lv_aload_n hx hb dX5_packFurther_11 rfl (lv_at hl 1 rfl) ?_
  refine va_get (D := G) (ci := 5) (v := .long K_rise) (C := RX5) (T := TX5) (N := 7) hx hb htc iX5 hown hK hP 0 rfl rfl 6 (by decide) (htc _ mw_131) (fun _ h9 => h9) rfl dX5_packFurther_12 ?_
  refine lv_lsub hx hb dX5_packFurther_15 ?_
  obtain ⟨K_used_2, K_bitsFree_3, K_full_4, K_cells_5, hE_1, hfin⟩ := ob4_some hfin
  refine ctV (a := aK) (As := [.long (((Int32.toInt64 p0) - (Int32.toInt64 K_time)) - K_rise)]) (rest := []) (st1 := []) (wc := [(aK, .inr (5, [.ref aKc, .int K_used, .int K_bitsFree, .int K_full, .int K_time, .int K_value, .long K_rise])), (aKc, .inl (cI, 1661, .inl K_cells))]) (w1 := [(aK, .inr (5, [.ref aKc, .int K_used_2, .int K_bitsFree_3, .int K_full_4, .int K_time, .int K_value, .long K_rise])), (aKc, .inl (cI, 1661, .inl K_cells_5))]) (wr := []) (wb := [(aK, .inr (5, [.ref aKc, .int K_used_2, .int K_bitsFree_3, .int K_full_4, .int K_time, .int K_value, .long K_rise])), (aKc, .inl (cI, 1661, .inl K_cells_5))]) (v := none) hx hb hml hown htc hN (c_X5_packChange l G cI cZ cJ aK aKc K_used K_bitsFree K_full K_time K_value K_rise K_cells (((Int32.toInt64 p0) - (Int32.toInt64 K_time)) - K_rise) hE_1) mw_490 mw_492 mp_8 mw_8 mw_493 hd_X5_packChange ⟨rfl, rfl⟩ ⟨Nat.le_of_ble_eq_true rfl, Nat.le_of_ble_eq_true rfl⟩ hK hP hD hS hA [0, 1] [] [0, 1] rfl rfl rfl rfl rfl (by decide) rfl rfl rfl 0 rfl rfl rfl rfl hl.1 rfl rfl (Nat.le_of_ble_eq_true rfl) dX5_packFurther_16 ⟨Nat.zero_le _, Nat.zero_le _⟩ (fun H locs hP hD hS => ?_)
  refine lv_aload_n hx hb dX5_packFurther_19 rfl (lv_at hl 1 rfl) ?_
  refine lv_iload_n hx hb dX5_packFurther_20 rfl (lv_at hl 3 rfl) ?_
  refine lv_aload_n hx hb dX5_packFurther_21 rfl (lv_at hl 1 rfl) ?_
  refine va_get (D := G) (ci := 5) (v := .int K_value) (C := RX5) (T := TX5) (N := 7) hx hb htc iX5 hown hK hP 0 rfl rfl 5 (by decide) (htc _ mw_130) (fun _ h9 => h9) rfl dX5_packFurther_22 ?_
  refine lv_isub hx hb dX5_packFurther_25 ?_
  obtain ⟨K_used_7, K_bitsFree_8, K_full_9, K_cells_10, hE_6, hfin⟩ := ob4_some hfin
  refine ctV (a := aK) (As := [.int (p1 - K_value)]) (rest := []) (st1 := []) (wc := [(aK, .inr (5, [.ref aKc, .int K_used_2, .int K_bitsFree_3, .int K_full_4, .int K_time, .int K_value, .long K_rise])), (aKc, .inl (cI, 1661, .inl K_cells_5))]) (w1 := [(aK, .inr (5, [.ref aKc, .int K_used_7, .int K_bitsFree_8, .int K_full_9, .int K_time, .int K_value, .long K_rise])), (aKc, .inl (cI, 1661, .inl K_cells_10))]) (wr := []) (wb := [(aK, .inr (5, [.ref aKc, .int K_used_7, .int K_bitsFree_8, .int K_full_9, .int K_time, .int K_value, .long K_rise])), (aKc, .inl (cI, 1661, .inl K_cells_10))]) (v := none) hx hb hml hown htc hN (c_X5_packDifference l G cI cZ cJ aK aKc K_used_2 K_bitsFree_3 K_full_4 K_time K_value K_rise K_cells_5 (p1 - K_value) hE_6) mw_509 mw_511 mp_10 mw_8 mw_512 hd_X5_packDifference ⟨rfl, rfl⟩ ⟨Nat.le_of_ble_eq_true rfl, Nat.le_of_ble_eq_true rfl⟩ hK hP hD hS hA [0, 1] [] [0, 1] rfl rfl rfl rfl rfl (by decide) rfl rfl rfl 0 rfl rfl rfl rfl hl.1 rfl rfl (Nat.le_of_ble_eq_true rfl) dX5_packFurther_26 ⟨Nat.zero_le _, Nat.zero_le _⟩ (fun H locs hP hD hS => ?_)
  refine lv_aload_n hx hb dX5_packFurther_29 rfl (lv_at hl 1 rfl) ?_
  refine lv_iload_n hx hb dX5_packFurther_30 rfl (lv_at hl 2 rfl) ?_
  refine va_put (D := G) (ci := 5) (v := .int p0) (ty := .int) (C := RX5) (T := TX5) (N := 7) hx hb htc iX5 tyX5 tyX5_ok nmX5 hown hK hP hD hS 0 rfl rfl 4 (by decide) (htc _ mw_129) (fun _ h9 => h9) rfl (tyX5_ok 4 (by decide)) rfl rfl (Nat.le_of_ble_eq_true rfl) dX5_packFurther_31 (fun H locs hP hD hS => ?_)
  have hP : va_P G classes [(aK, .inr (5, [.ref aKc, .int K_used_7, .int K_bitsFree_8, .int K_full_9, .int p0, .int K_value, .long K_rise])), (aKc, .inl (cI, 1661, .inl K_cells_10))] H := hP
  have hD : va_D A [(aK, .inr (5, [.ref aKc, .int K_used_7, .int K_bitsFree_8, .int K_full_9, .int p0, .int K_value, .long K_rise])), (aKc, .inl (cI, 1661, .inl K_cells_10))] := hD
  refine lv_aload_n hx hb dX5_packFurther_34 rfl (lv_at hl 1 rfl) ?_
  refine lv_iload_n hx hb dX5_packFurther_35 rfl (lv_at hl 3 rfl) ?_
  refine va_put (D := G) (ci := 5) (v := .int p1) (ty := .int) (C := RX5) (T := TX5) (N := 7) hx hb htc iX5 tyX5 tyX5_ok nmX5 hown hK hP hD hS 0 rfl rfl 5 (by decide) (htc _ mw_130) (fun _ h9 => h9) rfl (tyX5_ok 5 (by decide)) rfl rfl (Nat.le_of_ble_eq_true rfl) dX5_packFurther_36 (fun H locs hP hD hS => ?_)
  have hP : va_P G classes [(aK, .inr (5, [.ref aKc, .int K_used_7, .int K_bitsFree_8, .int K_full_9, .int p0, .int p1, .long K_rise])), (aKc, .inl (cI, 1661, .inl K_cells_10))] H := hP
  have hD : va_D A [(aK, .inr (5, [.ref aKc, .int K_used_7, .int K_bitsFree_8, .int K_full_9, .int p0, .int p1, .long K_rise])), (aKc, .inl (cI, 1661, .inl K_cells_10))] := hD
  refine lv_aload_n hx hb dX5_packFurther_39 rfl (lv_at hl 1 rfl) ?_
  refine lv_lload_n hx hb dX5_packFurther_40 rfl (lv_at hl 0 rfl) ?_
  refine va_put (D := G) (ci := 5) (v := .long ((Int32.toInt64 p0) - (Int32.toInt64 K_time))) (ty := .long) (C := RX5) (T := TX5) (N := 7) hx hb htc iX5 tyX5 tyX5_ok nmX5 hown hK hP hD hS 0 rfl rfl 6 (by decide) (htc _ mw_131) (fun _ h9 => h9) rfl (tyX5_ok 6 (by decide)) rfl rfl (Nat.le_of_ble_eq_true rfl) dX5_packFurther_41 (fun H locs hP hD hS => ?_)
  have hP : va_P G classes [(aK, .inr (5, [.ref aKc, .int K_used_7, .int K_bitsFree_8, .int K_full_9, .int p0, .int p1, .long ((Int32.toInt64 p0) - (Int32.toInt64 K_time))])), (aKc, .inl (cI, 1661, .inl K_cells_10))] H := hP
  have hD : va_D A [(aK, .inr (5, [.ref aKc, .int K_used_7, .int K_bitsFree_8, .int K_full_9, .int p0, .int p1, .long ((Int32.toInt64 p0) - (Int32.toInt64 K_time))])), (aKc, .inl (cI, 1661, .inl K_cells_10))] := hD
  cases hfin
  rw [hQQ]
  exact ct_vret hx hb hr hlocks hP hD hS dX5_packFurther_44
def m_X5_at (K_used : Int32) (K_cells : Nat → Int32) (p0 : Int32) : Option (Int32) :=
  ob1 (
    if p0 < 0 then (
      some ((0 : Int32))) else (
      if K_used ≤ p0 then (
        some ((0 : Int32))) else (
        ckb p0 1661 <|
        some ((K_cells (Int32.toNatClampNeg p0)))))) fun s_1 =>
  some (s_1)
abbrev rm_X5_at : Room := { frames := 0, cells := 0, slots := 0, locals := 0 }
theorem hd_X5_at : yX5_at.cls = RX5 ∧ yX5_at.cls ≠ "java/lang/invoke/MethodHandle" ∧ yX5_at.cls ≠ "java/lang/invoke/VarHandle" ∧ (parseMethodDescriptor yX5_at.desc).map (fun d => d.parameters.length) = some 1 := by decide +kernel
set_option maxHeartbeats 4000000 in
set_option maxRecDepth 100000 in
theorem c_X5_at (l : Launch) (G : va_G) (cI cZ cJ : ClassId) (aK aKc : Nat) (K_used : Int32) (K_bitsFree : Int32) (K_full : Int32) (K_time : Int32) (K_value : Int32) (K_rise : Int64) (K_cells : Nat → Int32) (p0 : Int32) {r : Int32} (hfin : m_X5_at K_used K_cells p0 = some (r)) : CT l yX5_at cX5_at 2 (some .int) rm_X5_at G (tyC cI cZ cJ) [.ref aK, .int p0] [(aK, .inr (5, [.ref aKc, .int K_used, .int K_bitsFree, .int K_full, .int K_time, .int K_value, .long K_rise])), (aKc, .inl (cI, 1661, .inl K_cells))] (some (.int r)) [(aK, .inr (5, [.ref aKc, .int K_used, .int K_bitsFree, .int K_full, .int K_time, .int K_value, .long K_rise])), (aKc, .inl (cI, 1661, .inl K_cells))] := by
  refine CT.ofW (lvl := [(0, .ref aK), (1, .int p0)]) (by decide) (Nat.le_of_ble_eq_true rfl) rfl ?_
  intro p e s m args below meth c A ls QQ hQQ hx hb hml hr hlocks htc hN hown hK hA hP hD hS hl
  rw [m_X5_at] at hfin
  refine lv_iload_n hx hb dX5_at_0 rfl (lv_at hl 1 rfl) ?_
  obtain ⟨s_1, hJ_2, hfin⟩ := ob1_some hfin
  have kj_3 : ∀ (H : Heap) (locs : List Loc) (ls : Array Slot), va_P G classes [(aK, .inr (5, [.ref aKc, .int K_used, .int K_bitsFree, .int K_full, .int K_time, .int K_value, .long K_rise])), (aKc, .inl (cI, 1661, .inl K_cells))] H → va_D A [(aK, .inr (5, [.ref aKc, .int K_used, .int K_bitsFree, .int K_full, .int K_time, .int K_value, .long K_rise])), (aKc, .inl (cI, 1661, .inl K_cells))] → va_S A s.heap H locs → lv_has ls 2 [] → W p l e rm_X5_at s m args below meth c H locs 0 0 QQ (F0 m 22 ls [.int s_1]) := by
    intro H locs ls hP hD hS hl
    cases hfin
    rw [hQQ]
    exact ct_iret hx hb hr hlocks hP hD hS dX5_at_22
  refine lv_if_lt (tgt := 21) hx hb dX5_at_1 (by decide) (fun c_4 => ?_) (fun c_4 => ?_)
  · have hJ_2 := it_t c_4 hJ_2
    refine lv_iconst (v := (0 : Int32)) hx hb dX5_at_21 (by decide) ?_
    cases hJ_2
    exact kj_3 _ _ _ hP hD hS (lv_sub hl [] rfl)
  · have hJ_2 := it_f c_4 hJ_2
    refine lv_iload_n hx hb dX5_at_4 rfl (lv_at hl 1 rfl) ?_
    refine lv_aload_n hx hb dX5_at_5 rfl (lv_at hl 0 rfl) ?_
    refine va_get (D := G) (ci := 5) (v := .int K_used) (C := RX5) (T := TX5) (N := 7) hx hb htc iX5 hown hK hP 0 rfl rfl 1 (by decide) (htc _ mw_126) (fun _ h9 => h9) rfl dX5_at_6 ?_
    refine lv_icmp_ge (tgt := 21) hx hb dX5_at_9 (by decide) (fun c_5 => ?_) (fun c_5 => ?_)
    · have hJ_2 := it_t c_5 hJ_2
      refine lv_iconst (v := (0 : Int32)) hx hb dX5_at_21 (by decide) ?_
      cases hJ_2
      exact kj_3 _ _ _ hP hD hS (lv_sub hl [] rfl)
    · have hJ_2 := it_f c_5 hJ_2
      refine lv_aload_n hx hb dX5_at_12 rfl (lv_at hl 0 rfl) ?_
      refine va_get (D := G) (ci := 5) (v := .ref aKc) (C := RX5) (T := TX5) (N := 7) hx hb htc iX5 hown hK hP 0 rfl rfl 0 (by decide) (htc _ mw_125) (fun _ h9 => h9) rfl dX5_at_13 ?_
      refine lv_iload_n hx hb dX5_at_16 rfl (lv_at hl 1 rfl) ?_
      obtain ⟨hin_6, hJ_2⟩ := ckb_some hJ_2
      refine va_iald hx hb hK hP 1 0 rfl rfl hin_6 dX5_at_17 ?_
      refine lv_goto (tgt := 22) hx hb dX5_at_18 (by decide) ?_
      cases hJ_2
      exact kj_3 _ _ _ hP hD hS (lv_sub hl [] rfl)
