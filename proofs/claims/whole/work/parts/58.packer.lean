theorem dX5_clear_0 : decode cX5_clear 0 = .ok (.aload_n 0, 1) := by decide +kernel
theorem dX5_clear_1 : decode cX5_clear 1 = .ok (.iconst 0, 1) := by decide +kernel
theorem dX5_clear_2 : decode cX5_clear 2 = .ok (.putfield 15, 3) := by decide +kernel
theorem dX5_clear_5 : decode cX5_clear 5 = .ok (.aload_n 0, 1) := by decide +kernel
theorem dX5_clear_6 : decode cX5_clear 6 = .ok (.iconst 0, 1) := by decide +kernel
theorem dX5_clear_7 : decode cX5_clear 7 = .ok (.putfield 19, 3) := by decide +kernel
theorem dX5_clear_10 : decode cX5_clear 10 = .ok (.aload_n 0, 1) := by decide +kernel
theorem dX5_clear_11 : decode cX5_clear 11 = .ok (.iconst 0, 1) := by decide +kernel
theorem dX5_clear_12 : decode cX5_clear 12 = .ok (.putfield 22, 3) := by decide +kernel
theorem dX5_clear_15 : decode cX5_clear 15 = .ok (.return_, 1) := by decide +kernel
theorem dX5_used_0 : decode cX5_used 0 = .ok (.aload_n 0, 1) := by decide +kernel
theorem dX5_used_1 : decode cX5_used 1 = .ok (.getfield 15, 3) := by decide +kernel
theorem dX5_used_4 : decode cX5_used 4 = .ok (.ireturn, 1) := by decide +kernel
theorem dX5_isFull_0 : decode cX5_isFull 0 = .ok (.aload_n 0, 1) := by decide +kernel
theorem dX5_isFull_1 : decode cX5_isFull 1 = .ok (.getfield 22, 3) := by decide +kernel
theorem dX5_isFull_4 : decode cX5_isFull 4 = .ok (.ireturn, 1) := by decide +kernel
theorem dX5_at_0 : decode cX5_at 0 = .ok (.iload_n 1, 1) := by decide +kernel
theorem dX5_at_1 : decode cX5_at 1 = .ok (.ifCond .lt 20, 3) := by decide +kernel
theorem dX5_at_4 : decode cX5_at 4 = .ok (.iload_n 1, 1) := by decide +kernel
theorem dX5_at_5 : decode cX5_at 5 = .ok (.aload_n 0, 1) := by decide +kernel
theorem dX5_at_6 : decode cX5_at 6 = .ok (.getfield 15, 3) := by decide +kernel
theorem dX5_at_9 : decode cX5_at 9 = .ok (.if_icmp .ge 12, 3) := by decide +kernel
theorem dX5_at_12 : decode cX5_at 12 = .ok (.aload_n 0, 1) := by decide +kernel
theorem dX5_at_13 : decode cX5_at 13 = .ok (.getfield 9, 3) := by decide +kernel
theorem dX5_at_16 : decode cX5_at 16 = .ok (.iload_n 1, 1) := by decide +kernel
theorem dX5_at_17 : decode cX5_at 17 = .ok (.iaload, 1) := by decide +kernel
theorem dX5_at_18 : decode cX5_at 18 = .ok (.goto 4, 3) := by decide +kernel
theorem dX5_at_21 : decode cX5_at 21 = .ok (.iconst 0, 1) := by decide +kernel
theorem dX5_at_22 : decode cX5_at 22 = .ok (.ireturn, 1) := by decide +kernel
theorem dX5_packFirst_0 : decode cX5_packFirst 0 = .ok (.aload_n 0, 1) := by decide +kernel
theorem dX5_packFirst_1 : decode cX5_packFirst 1 = .ok (.iload_n 1, 1) := by decide +kernel
theorem dX5_packFirst_2 : decode cX5_packFirst 2 = .ok (.invokevirtual 36, 3) := by decide +kernel
theorem dX5_packFirst_5 : decode cX5_packFirst 5 = .ok (.aload_n 0, 1) := by decide +kernel
theorem dX5_packFirst_6 : decode cX5_packFirst 6 = .ok (.iload_n 2, 1) := by decide +kernel
theorem dX5_packFirst_7 : decode cX5_packFirst 7 = .ok (.invokevirtual 36, 3) := by decide +kernel
theorem dX5_packFirst_10 : decode cX5_packFirst 10 = .ok (.aload_n 0, 1) := by decide +kernel
theorem dX5_packFirst_11 : decode cX5_packFirst 11 = .ok (.iconst 0, 1) := by decide +kernel
theorem dX5_packFirst_12 : decode cX5_packFirst 12 = .ok (.putfield 19, 3) := by decide +kernel
theorem dX5_packFirst_15 : decode cX5_packFirst 15 = .ok (.aload_n 0, 1) := by decide +kernel
theorem dX5_packFirst_16 : decode cX5_packFirst 16 = .ok (.iload_n 1, 1) := by decide +kernel
theorem dX5_packFirst_17 : decode cX5_packFirst 17 = .ok (.putfield 26, 3) := by decide +kernel
theorem dX5_packFirst_20 : decode cX5_packFirst 20 = .ok (.aload_n 0, 1) := by decide +kernel
theorem dX5_packFirst_21 : decode cX5_packFirst 21 = .ok (.iload_n 2, 1) := by decide +kernel
theorem dX5_packFirst_22 : decode cX5_packFirst 22 = .ok (.putfield 29, 3) := by decide +kernel
theorem dX5_packFirst_25 : decode cX5_packFirst 25 = .ok (.aload_n 0, 1) := by decide +kernel
theorem dX5_packFirst_26 : decode cX5_packFirst 26 = .ok (.lconst 0, 1) := by decide +kernel
theorem dX5_packFirst_27 : decode cX5_packFirst 27 = .ok (.putfield 32, 3) := by decide +kernel
theorem dX5_packFirst_30 : decode cX5_packFirst 30 = .ok (.return_, 1) := by decide +kernel
theorem dX5_packFurther_0 : decode cX5_packFurther 0 = .ok (.iload_n 1, 1) := by decide +kernel
theorem dX5_packFurther_1 : decode cX5_packFurther 1 = .ok (.i2l, 1) := by decide +kernel
theorem dX5_packFurther_2 : decode cX5_packFurther 2 = .ok (.aload_n 0, 1) := by decide +kernel
theorem dX5_packFurther_3 : decode cX5_packFurther 3 = .ok (.getfield 26, 3) := by decide +kernel
theorem dX5_packFurther_6 : decode cX5_packFurther 6 = .ok (.i2l, 1) := by decide +kernel
theorem dX5_packFurther_7 : decode cX5_packFurther 7 = .ok (.lsub, 1) := by decide +kernel
theorem dX5_packFurther_8 : decode cX5_packFurther 8 = .ok (.lstore_n 3, 1) := by decide +kernel
theorem dX5_packFurther_9 : decode cX5_packFurther 9 = .ok (.aload_n 0, 1) := by decide +kernel
theorem dX5_packFurther_10 : decode cX5_packFurther 10 = .ok (.lload_n 3, 1) := by decide +kernel
theorem dX5_packFurther_11 : decode cX5_packFurther 11 = .ok (.aload_n 0, 1) := by decide +kernel
theorem dX5_packFurther_12 : decode cX5_packFurther 12 = .ok (.getfield 32, 3) := by decide +kernel
theorem dX5_packFurther_15 : decode cX5_packFurther 15 = .ok (.lsub, 1) := by decide +kernel
theorem dX5_packFurther_16 : decode cX5_packFurther 16 = .ok (.invokevirtual 40, 3) := by decide +kernel
theorem dX5_packFurther_19 : decode cX5_packFurther 19 = .ok (.aload_n 0, 1) := by decide +kernel
theorem dX5_packFurther_20 : decode cX5_packFurther 20 = .ok (.iload_n 2, 1) := by decide +kernel
theorem dX5_packFurther_21 : decode cX5_packFurther 21 = .ok (.aload_n 0, 1) := by decide +kernel
theorem dX5_packFurther_22 : decode cX5_packFurther 22 = .ok (.getfield 29, 3) := by decide +kernel
theorem dX5_packFurther_25 : decode cX5_packFurther 25 = .ok (.isub, 1) := by decide +kernel
theorem dX5_packFurther_26 : decode cX5_packFurther 26 = .ok (.invokevirtual 44, 3) := by decide +kernel
theorem dX5_packFurther_29 : decode cX5_packFurther 29 = .ok (.aload_n 0, 1) := by decide +kernel
theorem dX5_packFurther_30 : decode cX5_packFurther 30 = .ok (.iload_n 1, 1) := by decide +kernel
theorem dX5_packFurther_31 : decode cX5_packFurther 31 = .ok (.putfield 26, 3) := by decide +kernel
theorem dX5_packFurther_34 : decode cX5_packFurther 34 = .ok (.aload_n 0, 1) := by decide +kernel
theorem dX5_packFurther_35 : decode cX5_packFurther 35 = .ok (.iload_n 2, 1) := by decide +kernel
theorem dX5_packFurther_36 : decode cX5_packFurther 36 = .ok (.putfield 29, 3) := by decide +kernel
theorem dX5_packFurther_39 : decode cX5_packFurther 39 = .ok (.aload_n 0, 1) := by decide +kernel
theorem dX5_packFurther_40 : decode cX5_packFurther 40 = .ok (.lload_n 3, 1) := by decide +kernel
theorem dX5_packFurther_41 : decode cX5_packFurther 41 = .ok (.putfield 32, 3) := by decide +kernel
theorem dX5_packFurther_44 : decode cX5_packFurther 44 = .ok (.return_, 1) := by decide +kernel
theorem dX5_packChange_0 : decode cX5_packChange 0 = .ok (.lload_n 1, 1) := by decide +kernel
theorem dX5_packChange_1 : decode cX5_packChange 1 = .ok (.lconst 0, 1) := by decide +kernel
theorem dX5_packChange_2 : decode cX5_packChange 2 = .ok (.lcmp, 1) := by decide +kernel
theorem dX5_packChange_3 : decode cX5_packChange 3 = .ok (.ifCond .ne 12, 3) := by decide +kernel
theorem dX5_packChange_6 : decode cX5_packChange 6 = .ok (.aload_n 0, 1) := by decide +kernel
theorem dX5_packChange_7 : decode cX5_packChange 7 = .ok (.lconst 0, 1) := by decide +kernel
theorem dX5_packChange_8 : decode cX5_packChange 8 = .ok (.iconst 1, 1) := by decide +kernel
theorem dX5_packChange_9 : decode cX5_packChange 9 = .ok (.invokevirtual 47, 3) := by decide +kernel
theorem dX5_packChange_12 : decode cX5_packChange 12 = .ok (.goto 136, 3) := by decide +kernel
theorem dX5_packChange_15 : decode cX5_packChange 15 = .ok (.lload_n 1, 1) := by decide +kernel
theorem dX5_packChange_16 : decode cX5_packChange 16 = .ok (.ldc2_w 51, 3) := by decide +kernel
theorem dX5_packChange_19 : decode cX5_packChange 19 = .ok (.lcmp, 1) := by decide +kernel
theorem dX5_packChange_20 : decode cX5_packChange 20 = .ok (.ifCond .lt 33, 3) := by decide +kernel
theorem dX5_packChange_23 : decode cX5_packChange 23 = .ok (.lload_n 1, 1) := by decide +kernel
theorem dX5_packChange_24 : decode cX5_packChange 24 = .ok (.ldc2_w 53, 3) := by decide +kernel
theorem dX5_packChange_27 : decode cX5_packChange 27 = .ok (.lcmp, 1) := by decide +kernel
theorem dX5_packChange_28 : decode cX5_packChange 28 = .ok (.ifCond .ge 25, 3) := by decide +kernel
theorem dX5_packChange_31 : decode cX5_packChange 31 = .ok (.aload_n 0, 1) := by decide +kernel
theorem dX5_packChange_32 : decode cX5_packChange 32 = .ok (.ldc2_w 55, 3) := by decide +kernel
theorem dX5_packChange_35 : decode cX5_packChange 35 = .ok (.iconst 2, 1) := by decide +kernel
theorem dX5_packChange_36 : decode cX5_packChange 36 = .ok (.invokevirtual 47, 3) := by decide +kernel
theorem dX5_packChange_39 : decode cX5_packChange 39 = .ok (.aload_n 0, 1) := by decide +kernel
theorem dX5_packChange_40 : decode cX5_packChange 40 = .ok (.lload_n 1, 1) := by decide +kernel
theorem dX5_packChange_41 : decode cX5_packChange 41 = .ok (.ldc2_w 53, 3) := by decide +kernel
theorem dX5_packChange_44 : decode cX5_packChange 44 = .ok (.ladd, 1) := by decide +kernel
theorem dX5_packChange_45 : decode cX5_packChange 45 = .ok (.bipush 7, 2) := by decide +kernel
theorem dX5_packChange_47 : decode cX5_packChange 47 = .ok (.invokevirtual 47, 3) := by decide +kernel
theorem dX5_packChange_50 : decode cX5_packChange 50 = .ok (.goto 98, 3) := by decide +kernel
theorem dX5_packChange_53 : decode cX5_packChange 53 = .ok (.lload_n 1, 1) := by decide +kernel
theorem dX5_packChange_54 : decode cX5_packChange 54 = .ok (.ldc2_w 57, 3) := by decide +kernel
theorem dX5_packChange_57 : decode cX5_packChange 57 = .ok (.lcmp, 1) := by decide +kernel
theorem dX5_packChange_58 : decode cX5_packChange 58 = .ok (.ifCond .lt 33, 3) := by decide +kernel
theorem dX5_packChange_61 : decode cX5_packChange 61 = .ok (.lload_n 1, 1) := by decide +kernel
theorem dX5_packChange_62 : decode cX5_packChange 62 = .ok (.ldc2_w 59, 3) := by decide +kernel
theorem dX5_packChange_65 : decode cX5_packChange 65 = .ok (.lcmp, 1) := by decide +kernel
theorem dX5_packChange_66 : decode cX5_packChange 66 = .ok (.ifCond .ge 25, 3) := by decide +kernel
theorem dX5_packChange_69 : decode cX5_packChange 69 = .ok (.aload_n 0, 1) := by decide +kernel
theorem dX5_packChange_70 : decode cX5_packChange 70 = .ok (.ldc2_w 61, 3) := by decide +kernel
theorem dX5_packChange_73 : decode cX5_packChange 73 = .ok (.iconst 3, 1) := by decide +kernel
theorem dX5_packChange_74 : decode cX5_packChange 74 = .ok (.invokevirtual 47, 3) := by decide +kernel
theorem dX5_packChange_77 : decode cX5_packChange 77 = .ok (.aload_n 0, 1) := by decide +kernel
theorem dX5_packChange_78 : decode cX5_packChange 78 = .ok (.lload_n 1, 1) := by decide +kernel
theorem dX5_packChange_79 : decode cX5_packChange 79 = .ok (.ldc2_w 59, 3) := by decide +kernel
theorem dX5_packChange_82 : decode cX5_packChange 82 = .ok (.ladd, 1) := by decide +kernel
theorem dX5_packChange_83 : decode cX5_packChange 83 = .ok (.bipush 9, 2) := by decide +kernel
theorem dX5_packChange_85 : decode cX5_packChange 85 = .ok (.invokevirtual 47, 3) := by decide +kernel
theorem dX5_packChange_88 : decode cX5_packChange 88 = .ok (.goto 60, 3) := by decide +kernel
theorem dX5_packChange_91 : decode cX5_packChange 91 = .ok (.lload_n 1, 1) := by decide +kernel
theorem dX5_packChange_92 : decode cX5_packChange 92 = .ok (.ldc2_w 63, 3) := by decide +kernel
theorem dX5_packChange_95 : decode cX5_packChange 95 = .ok (.lcmp, 1) := by decide +kernel
theorem dX5_packChange_96 : decode cX5_packChange 96 = .ok (.ifCond .lt 33, 3) := by decide +kernel
theorem dX5_packChange_99 : decode cX5_packChange 99 = .ok (.lload_n 1, 1) := by decide +kernel
theorem dX5_packChange_100 : decode cX5_packChange 100 = .ok (.ldc2_w 65, 3) := by decide +kernel
theorem dX5_packChange_103 : decode cX5_packChange 103 = .ok (.lcmp, 1) := by decide +kernel
theorem dX5_packChange_104 : decode cX5_packChange 104 = .ok (.ifCond .ge 25, 3) := by decide +kernel
theorem dX5_packChange_107 : decode cX5_packChange 107 = .ok (.aload_n 0, 1) := by decide +kernel
theorem dX5_packChange_108 : decode cX5_packChange 108 = .ok (.ldc2_w 67, 3) := by decide +kernel
theorem dX5_packChange_111 : decode cX5_packChange 111 = .ok (.iconst 4, 1) := by decide +kernel
theorem dX5_packChange_112 : decode cX5_packChange 112 = .ok (.invokevirtual 47, 3) := by decide +kernel
theorem dX5_packChange_115 : decode cX5_packChange 115 = .ok (.aload_n 0, 1) := by decide +kernel
theorem dX5_packChange_116 : decode cX5_packChange 116 = .ok (.lload_n 1, 1) := by decide +kernel
theorem dX5_packChange_117 : decode cX5_packChange 117 = .ok (.ldc2_w 65, 3) := by decide +kernel
theorem dX5_packChange_120 : decode cX5_packChange 120 = .ok (.ladd, 1) := by decide +kernel
theorem dX5_packChange_121 : decode cX5_packChange 121 = .ok (.bipush 12, 2) := by decide +kernel
theorem dX5_packChange_123 : decode cX5_packChange 123 = .ok (.invokevirtual 47, 3) := by decide +kernel
theorem dX5_packChange_126 : decode cX5_packChange 126 = .ok (.goto 22, 3) := by decide +kernel
theorem dX5_packChange_129 : decode cX5_packChange 129 = .ok (.aload_n 0, 1) := by decide +kernel
theorem dX5_packChange_130 : decode cX5_packChange 130 = .ok (.ldc2_w 69, 3) := by decide +kernel
theorem dX5_packChange_133 : decode cX5_packChange 133 = .ok (.iconst 4, 1) := by decide +kernel
theorem dX5_packChange_134 : decode cX5_packChange 134 = .ok (.invokevirtual 47, 3) := by decide +kernel
theorem dX5_packChange_137 : decode cX5_packChange 137 = .ok (.aload_n 0, 1) := by decide +kernel
theorem dX5_packChange_138 : decode cX5_packChange 138 = .ok (.lload_n 1, 1) := by decide +kernel
theorem dX5_packChange_139 : decode cX5_packChange 139 = .ok (.ldc2_w 71, 3) := by decide +kernel
theorem dX5_packChange_142 : decode cX5_packChange 142 = .ok (.ladd, 1) := by decide +kernel
theorem dX5_packChange_143 : decode cX5_packChange 143 = .ok (.bipush 34, 2) := by decide +kernel
theorem dX5_packChange_145 : decode cX5_packChange 145 = .ok (.invokevirtual 47, 3) := by decide +kernel
theorem dX5_packChange_148 : decode cX5_packChange 148 = .ok (.return_, 1) := by decide +kernel
theorem dX5_packDifference_0 : decode cX5_packDifference 0 = .ok (.iload_n 1, 1) := by decide +kernel
theorem dX5_packDifference_1 : decode cX5_packDifference 1 = .ok (.ifCond .ge 12, 3) := by decide +kernel
theorem dX5_packDifference_4 : decode cX5_packDifference 4 = .ok (.bipush (-2), 2) := by decide +kernel
theorem dX5_packDifference_6 : decode cX5_packDifference 6 = .ok (.iload_n 1, 1) := by decide +kernel
theorem dX5_packDifference_7 : decode cX5_packDifference 7 = .ok (.imul, 1) := by decide +kernel
theorem dX5_packDifference_8 : decode cX5_packDifference 8 = .ok (.iconst 1, 1) := by decide +kernel
theorem dX5_packDifference_9 : decode cX5_packDifference 9 = .ok (.isub, 1) := by decide +kernel
theorem dX5_packDifference_10 : decode cX5_packDifference 10 = .ok (.goto 6, 3) := by decide +kernel
theorem dX5_packDifference_13 : decode cX5_packDifference 13 = .ok (.iconst 2, 1) := by decide +kernel
theorem dX5_packDifference_14 : decode cX5_packDifference 14 = .ok (.iload_n 1, 1) := by decide +kernel
theorem dX5_packDifference_15 : decode cX5_packDifference 15 = .ok (.imul, 1) := by decide +kernel
theorem dX5_packDifference_16 : decode cX5_packDifference 16 = .ok (.istore_n 2, 1) := by decide +kernel
theorem dX5_packDifference_17 : decode cX5_packDifference 17 = .ok (.iconst 0, 1) := by decide +kernel
theorem dX5_packDifference_18 : decode cX5_packDifference 18 = .ok (.istore_n 3, 1) := by decide +kernel
theorem dX5_packDifference_19 : decode cX5_packDifference 19 = .ok (.iload_n 3, 1) := by decide +kernel
theorem dX5_packDifference_20 : decode cX5_packDifference 20 = .ok (.bipush 32, 2) := by decide +kernel
theorem dX5_packDifference_22 : decode cX5_packDifference 22 = .ok (.if_icmp .ge 30, 3) := by decide +kernel
theorem dX5_packDifference_25 : decode cX5_packDifference 25 = .ok (.iload_n 2, 1) := by decide +kernel
theorem dX5_packDifference_26 : decode cX5_packDifference 26 = .ok (.iload_n 3, 1) := by decide +kernel
theorem dX5_packDifference_27 : decode cX5_packDifference 27 = .ok (.iushr, 1) := by decide +kernel
theorem dX5_packDifference_28 : decode cX5_packDifference 28 = .ok (.ifCond .eq 24, 3) := by decide +kernel
theorem dX5_packDifference_31 : decode cX5_packDifference 31 = .ok (.aload_n 0, 1) := by decide +kernel
theorem dX5_packDifference_32 : decode cX5_packDifference 32 = .ok (.lconst 1, 1) := by decide +kernel
theorem dX5_packDifference_33 : decode cX5_packDifference 33 = .ok (.iconst 1, 1) := by decide +kernel
theorem dX5_packDifference_34 : decode cX5_packDifference 34 = .ok (.invokevirtual 47, 3) := by decide +kernel
theorem dX5_packDifference_37 : decode cX5_packDifference 37 = .ok (.aload_n 0, 1) := by decide +kernel
theorem dX5_packDifference_38 : decode cX5_packDifference 38 = .ok (.iload_n 2, 1) := by decide +kernel
theorem dX5_packDifference_39 : decode cX5_packDifference 39 = .ok (.iload_n 3, 1) := by decide +kernel
theorem dX5_packDifference_40 : decode cX5_packDifference 40 = .ok (.iushr, 1) := by decide +kernel
theorem dX5_packDifference_41 : decode cX5_packDifference 41 = .ok (.i2l, 1) := by decide +kernel
theorem dX5_packDifference_42 : decode cX5_packDifference 42 = .ok (.iconst 4, 1) := by decide +kernel
theorem dX5_packDifference_43 : decode cX5_packDifference 43 = .ok (.invokevirtual 47, 3) := by decide +kernel
theorem dX5_packDifference_46 : decode cX5_packDifference 46 = .ok (.iinc 3 4, 3) := by decide +kernel
theorem dX5_packDifference_49 : decode cX5_packDifference 49 = .ok (.goto (-30), 3) := by decide +kernel
theorem dX5_packDifference_52 : decode cX5_packDifference 52 = .ok (.aload_n 0, 1) := by decide +kernel
theorem dX5_packDifference_53 : decode cX5_packDifference 53 = .ok (.lconst 0, 1) := by decide +kernel
theorem dX5_packDifference_54 : decode cX5_packDifference 54 = .ok (.iconst 1, 1) := by decide +kernel
theorem dX5_packDifference_55 : decode cX5_packDifference 55 = .ok (.invokevirtual 47, 3) := by decide +kernel
theorem dX5_packDifference_58 : decode cX5_packDifference 58 = .ok (.return_, 1) := by decide +kernel
theorem dX5_addBits_0 : decode cX5_addBits 0 = .ok (.iload_n 3, 1) := by decide +kernel
theorem dX5_addBits_1 : decode cX5_addBits 1 = .ok (.iconst 1, 1) := by decide +kernel
theorem dX5_addBits_2 : decode cX5_addBits 2 = .ok (.isub, 1) := by decide +kernel
theorem dX5_addBits_3 : decode cX5_addBits 3 = .ok (.istore 4, 2) := by decide +kernel
theorem dX5_addBits_5 : decode cX5_addBits 5 = .ok (.iload 4, 2) := by decide +kernel
theorem dX5_addBits_7 : decode cX5_addBits 7 = .ok (.ifCond .lt 70, 3) := by decide +kernel
theorem dX5_addBits_10 : decode cX5_addBits 10 = .ok (.aload_n 0, 1) := by decide +kernel
theorem dX5_addBits_11 : decode cX5_addBits 11 = .ok (.getfield 19, 3) := by decide +kernel
theorem dX5_addBits_14 : decode cX5_addBits 14 = .ok (.ifCond .ne 14, 3) := by decide +kernel
theorem dX5_addBits_17 : decode cX5_addBits 17 = .ok (.aload_n 0, 1) := by decide +kernel
theorem dX5_addBits_18 : decode cX5_addBits 18 = .ok (.iconst 0, 1) := by decide +kernel
theorem dX5_addBits_19 : decode cX5_addBits 19 = .ok (.invokevirtual 36, 3) := by decide +kernel
theorem dX5_addBits_22 : decode cX5_addBits 22 = .ok (.aload_n 0, 1) := by decide +kernel
theorem dX5_addBits_23 : decode cX5_addBits 23 = .ok (.bipush 32, 2) := by decide +kernel
theorem dX5_addBits_25 : decode cX5_addBits 25 = .ok (.putfield 19, 3) := by decide +kernel
theorem dX5_addBits_28 : decode cX5_addBits 28 = .ok (.aload_n 0, 1) := by decide +kernel
theorem dX5_addBits_29 : decode cX5_addBits 29 = .ok (.dup, 1) := by decide +kernel
theorem dX5_addBits_30 : decode cX5_addBits 30 = .ok (.getfield 19, 3) := by decide +kernel
theorem dX5_addBits_33 : decode cX5_addBits 33 = .ok (.iconst 1, 1) := by decide +kernel
theorem dX5_addBits_34 : decode cX5_addBits 34 = .ok (.isub, 1) := by decide +kernel
theorem dX5_addBits_35 : decode cX5_addBits 35 = .ok (.putfield 19, 3) := by decide +kernel
theorem dX5_addBits_38 : decode cX5_addBits 38 = .ok (.aload_n 0, 1) := by decide +kernel
theorem dX5_addBits_39 : decode cX5_addBits 39 = .ok (.getfield 15, 3) := by decide +kernel
theorem dX5_addBits_42 : decode cX5_addBits 42 = .ok (.ifCond .le 29, 3) := by decide +kernel
theorem dX5_addBits_45 : decode cX5_addBits 45 = .ok (.aload_n 0, 1) := by decide +kernel
theorem dX5_addBits_46 : decode cX5_addBits 46 = .ok (.getfield 9, 3) := by decide +kernel
theorem dX5_addBits_49 : decode cX5_addBits 49 = .ok (.aload_n 0, 1) := by decide +kernel
theorem dX5_addBits_50 : decode cX5_addBits 50 = .ok (.getfield 15, 3) := by decide +kernel
theorem dX5_addBits_53 : decode cX5_addBits 53 = .ok (.iconst 1, 1) := by decide +kernel
theorem dX5_addBits_54 : decode cX5_addBits 54 = .ok (.isub, 1) := by decide +kernel
theorem dX5_addBits_55 : decode cX5_addBits 55 = .ok (.dup2, 1) := by decide +kernel
theorem dX5_addBits_56 : decode cX5_addBits 56 = .ok (.iaload, 1) := by decide +kernel
theorem dX5_addBits_57 : decode cX5_addBits 57 = .ok (.lload_n 1, 1) := by decide +kernel
theorem dX5_addBits_58 : decode cX5_addBits 58 = .ok (.iload 4, 2) := by decide +kernel
theorem dX5_addBits_60 : decode cX5_addBits 60 = .ok (.lushr, 1) := by decide +kernel
theorem dX5_addBits_61 : decode cX5_addBits 61 = .ok (.lconst 1, 1) := by decide +kernel
theorem dX5_addBits_62 : decode cX5_addBits 62 = .ok (.land, 1) := by decide +kernel
theorem dX5_addBits_63 : decode cX5_addBits 63 = .ok (.l2i, 1) := by decide +kernel
theorem dX5_addBits_64 : decode cX5_addBits 64 = .ok (.aload_n 0, 1) := by decide +kernel
theorem dX5_addBits_65 : decode cX5_addBits 65 = .ok (.getfield 19, 3) := by decide +kernel
theorem dX5_addBits_68 : decode cX5_addBits 68 = .ok (.ishl, 1) := by decide +kernel
theorem dX5_addBits_69 : decode cX5_addBits 69 = .ok (.ior, 1) := by decide +kernel
theorem dX5_addBits_70 : decode cX5_addBits 70 = .ok (.iastore, 1) := by decide +kernel
theorem dX5_addBits_71 : decode cX5_addBits 71 = .ok (.iinc 4 (-1), 3) := by decide +kernel
theorem dX5_addBits_74 : decode cX5_addBits 74 = .ok (.goto (-69), 3) := by decide +kernel
theorem dX5_addBits_77 : decode cX5_addBits 77 = .ok (.return_, 1) := by decide +kernel
theorem dX5_addCell_0 : decode cX5_addCell 0 = .ok (.aload_n 0, 1) := by decide +kernel
theorem dX5_addCell_1 : decode cX5_addCell 1 = .ok (.getfield 15, 3) := by decide +kernel
theorem dX5_addCell_4 : decode cX5_addCell 4 = .ok (.sipush 1661, 3) := by decide +kernel
theorem dX5_addCell_7 : decode cX5_addCell 7 = .ok (.if_icmp .lt 9, 3) := by decide +kernel
theorem dX5_addCell_10 : decode cX5_addCell 10 = .ok (.aload_n 0, 1) := by decide +kernel
theorem dX5_addCell_11 : decode cX5_addCell 11 = .ok (.iconst 1, 1) := by decide +kernel
theorem dX5_addCell_12 : decode cX5_addCell 12 = .ok (.putfield 22, 3) := by decide +kernel
theorem dX5_addCell_15 : decode cX5_addCell 15 = .ok (.return_, 1) := by decide +kernel
theorem dX5_addCell_16 : decode cX5_addCell 16 = .ok (.aload_n 0, 1) := by decide +kernel
theorem dX5_addCell_17 : decode cX5_addCell 17 = .ok (.getfield 9, 3) := by decide +kernel
theorem dX5_addCell_20 : decode cX5_addCell 20 = .ok (.aload_n 0, 1) := by decide +kernel
theorem dX5_addCell_21 : decode cX5_addCell 21 = .ok (.getfield 15, 3) := by decide +kernel
theorem dX5_addCell_24 : decode cX5_addCell 24 = .ok (.iload_n 1, 1) := by decide +kernel
theorem dX5_addCell_25 : decode cX5_addCell 25 = .ok (.iastore, 1) := by decide +kernel
theorem dX5_addCell_26 : decode cX5_addCell 26 = .ok (.aload_n 0, 1) := by decide +kernel
theorem dX5_addCell_27 : decode cX5_addCell 27 = .ok (.dup, 1) := by decide +kernel
theorem dX5_addCell_28 : decode cX5_addCell 28 = .ok (.getfield 15, 3) := by decide +kernel
theorem dX5_addCell_31 : decode cX5_addCell 31 = .ok (.iconst 1, 1) := by decide +kernel
theorem dX5_addCell_32 : decode cX5_addCell 32 = .ok (.iadd, 1) := by decide +kernel
theorem dX5_addCell_33 : decode cX5_addCell 33 = .ok (.putfield 15, 3) := by decide +kernel
theorem dX5_addCell_36 : decode cX5_addCell 36 = .ok (.return_, 1) := by decide +kernel
abbrev rm_X5_clear : Room := { frames := 0, cells := 0, slots := 0, locals := 0 }
theorem hd_X5_clear : yX5_clear.cls = RX5 ∧ yX5_clear.cls ≠ "java/lang/invoke/MethodHandle" ∧ yX5_clear.cls ≠ "java/lang/invoke/VarHandle" ∧ (parseMethodDescriptor yX5_clear.desc).map (fun d => d.parameters.length) = some 0 := by decide +kernel
set_option maxHeartbeats 4000000 in
set_option maxRecDepth 100000 in
theorem c_X5_clear (l : Launch) (G : va_G) (cI cZ cJ : ClassId) (aK aKc : Nat) (K_used : Int32) (K_bitsFree : Int32) (K_full : Int32) (K_time : Int32) (K_value : Int32) (K_rise : Int64)  {o_K_used : Int32} {o_K_bitsFree : Int32} {o_K_full : Int32} (hfin : m_X5_clear K_used K_bitsFree K_full = some (o_K_used, o_K_bitsFree, o_K_full)) : CT l yX5_clear cX5_clear 1 none rm_X5_clear G (tyC cI cZ cJ) [.ref aK] [oX5 aK aKc K_used K_bitsFree K_full K_time K_value K_rise] none [oX5 aK aKc o_K_used o_K_bitsFree o_K_full K_time K_value K_rise] := by
  refine CT.ofW (lvl := [(0, .ref aK)]) (by decide) (Nat.le_of_ble_eq_true rfl) rfl ?_
  intro p e s m args below meth c A ls0 QQ hQQ hx hb hml hr hlocks htc hN hown hK hA hw0 hl0
  rw [m_X5_clear] at hfin
  refine lv_aload_n hx hb dX5_clear_0 rfl (lv_at hl0 0 rfl) ?_
  refine lv_iconst (v := (0 : Int32)) hx hb dX5_clear_1 (by decide) ?_
  refine va_put (D := G) (ci := 5) (v := .int (0 : Int32)) (ty := .int) (C := RX5) (T := TX5) (N := 7) hx hb htc iX5 tyX5 tyX5_ok nmX5 hown hK hw0.1 hw0.2.1 hw0.2.2 0 rfl rfl 1 (by decide) (htc _ mw_126) (fun _ h9 => h9) rfl (tyX5_ok 1 (by decide)) rfl rfl (Nat.le_of_ble_eq_true rfl) dX5_clear_2 (fun H1 locs1 hP hD hS => ?_)
  have hw1 : wS G A s H1 locs1 [oX5 aK aKc (0 : Int32) K_bitsFree K_full K_time K_value K_rise] := ⟨hP, hD, hS⟩
  clear hP hD hS hw0
  refine lv_aload_n hx hb dX5_clear_5 rfl (lv_at hl0 0 rfl) ?_
  refine lv_iconst (v := (0 : Int32)) hx hb dX5_clear_6 (by decide) ?_
  refine va_put (D := G) (ci := 5) (v := .int (0 : Int32)) (ty := .int) (C := RX5) (T := TX5) (N := 7) hx hb htc iX5 tyX5 tyX5_ok nmX5 hown hK hw1.1 hw1.2.1 hw1.2.2 0 rfl rfl 2 (by decide) (htc _ mw_127) (fun _ h9 => h9) rfl (tyX5_ok 2 (by decide)) rfl rfl (Nat.le_of_ble_eq_true rfl) dX5_clear_7 (fun H2 locs2 hP hD hS => ?_)
  have hw2 : wS G A s H2 locs2 [oX5 aK aKc (0 : Int32) (0 : Int32) K_full K_time K_value K_rise] := ⟨hP, hD, hS⟩
  clear hP hD hS hw1 H1 locs1
  refine lv_aload_n hx hb dX5_clear_10 rfl (lv_at hl0 0 rfl) ?_
  refine lv_iconst (v := (0 : Int32)) hx hb dX5_clear_11 (by decide) ?_
  refine va_put (D := G) (ci := 5) (v := .int (0 : Int32)) (ty := .boolean) (C := RX5) (T := TX5) (N := 7) hx hb htc iX5 tyX5 tyX5_ok nmX5 hown hK hw2.1 hw2.2.1 hw2.2.2 0 rfl rfl 3 (by decide) (htc _ mw_128) (fun _ h9 => h9) rfl (tyX5_ok 3 (by decide)) rfl rfl (Nat.le_of_ble_eq_true rfl) dX5_clear_12 (fun H3 locs3 hP hD hS => ?_)
  have hw3 : wS G A s H3 locs3 [oX5 aK aKc (0 : Int32) (0 : Int32) (0 : Int32) K_time K_value K_rise] := ⟨hP, hD, hS⟩
  clear hP hD hS hw2 H2 locs2
  cases hfin
  rw [hQQ]
  exact ct_vret hx hb hr hlocks hw3.1 hw3.2.1 hw3.2.2 dX5_clear_15
abbrev rm_X5_used : Room := { frames := 0, cells := 0, slots := 0, locals := 0 }
theorem hd_X5_used : yX5_used.cls = RX5 ∧ yX5_used.cls ≠ "java/lang/invoke/MethodHandle" ∧ yX5_used.cls ≠ "java/lang/invoke/VarHandle" ∧ (parseMethodDescriptor yX5_used.desc).map (fun d => d.parameters.length) = some 0 := by decide +kernel
set_option maxHeartbeats 4000000 in
set_option maxRecDepth 100000 in
theorem c_X5_used (l : Launch) (G : va_G) (cI cZ cJ : ClassId) (aK aKc : Nat) (K_used : Int32) (K_bitsFree : Int32) (K_full : Int32) (K_time : Int32) (K_value : Int32) (K_rise : Int64)  {r : Int32} (hfin : m_X5_used K_used = some (r)) : CT l yX5_used cX5_used 1 (some .int) rm_X5_used G (tyC cI cZ cJ) [.ref aK] [oX5 aK aKc K_used K_bitsFree K_full K_time K_value K_rise] (some (.int r)) [oX5 aK aKc K_used K_bitsFree K_full K_time K_value K_rise] := by
  refine CT.ofW (lvl := [(0, .ref aK)]) (by decide) (Nat.le_of_ble_eq_true rfl) rfl ?_
  intro p e s m args below meth c A ls0 QQ hQQ hx hb hml hr hlocks htc hN hown hK hA hw0 hl0
  rw [m_X5_used] at hfin
  refine lv_aload_n hx hb dX5_used_0 rfl (lv_at hl0 0 rfl) ?_
  refine va_get (D := G) (ci := 5) (v := .int K_used) (C := RX5) (T := TX5) (N := 7) hx hb htc iX5 hown hK hw0.1 0 rfl rfl 1 (by decide) (htc _ mw_126) (fun _ h9 => h9) rfl dX5_used_1 ?_
  cases hfin
  rw [hQQ]
  exact ct_iret hx hb hr hlocks hw0.1 hw0.2.1 hw0.2.2 dX5_used_4
abbrev rm_X5_isFull : Room := { frames := 0, cells := 0, slots := 0, locals := 0 }
theorem hd_X5_isFull : yX5_isFull.cls = RX5 ∧ yX5_isFull.cls ≠ "java/lang/invoke/MethodHandle" ∧ yX5_isFull.cls ≠ "java/lang/invoke/VarHandle" ∧ (parseMethodDescriptor yX5_isFull.desc).map (fun d => d.parameters.length) = some 0 := by decide +kernel
set_option maxHeartbeats 4000000 in
set_option maxRecDepth 100000 in
theorem c_X5_isFull (l : Launch) (G : va_G) (cI cZ cJ : ClassId) (aK aKc : Nat) (K_used : Int32) (K_bitsFree : Int32) (K_full : Int32) (K_time : Int32) (K_value : Int32) (K_rise : Int64)  {r : Int32} (hfin : m_X5_isFull K_full = some (r)) : CT l yX5_isFull cX5_isFull 1 (some .boolean) rm_X5_isFull G (tyC cI cZ cJ) [.ref aK] [oX5 aK aKc K_used K_bitsFree K_full K_time K_value K_rise] (some (.int r)) [oX5 aK aKc K_used K_bitsFree K_full K_time K_value K_rise] := by
  refine CT.ofW (lvl := [(0, .ref aK)]) (by decide) (Nat.le_of_ble_eq_true rfl) rfl ?_
  intro p e s m args below meth c A ls0 QQ hQQ hx hb hml hr hlocks htc hN hown hK hA hw0 hl0
  rw [m_X5_isFull] at hfin
  refine lv_aload_n hx hb dX5_isFull_0 rfl (lv_at hl0 0 rfl) ?_
  refine va_get (D := G) (ci := 5) (v := .int K_full) (C := RX5) (T := TX5) (N := 7) hx hb htc iX5 hown hK hw0.1 0 rfl rfl 3 (by decide) (htc _ mw_128) (fun _ h9 => h9) rfl dX5_isFull_1 ?_
  replace hfin := ckz_some hfin
  obtain ⟨hz_1, hfin⟩ := hfin
  cases hfin
  rw [hQQ]
  exact ct_zret hx hb hr hlocks hz_1 hw0.1 hw0.2.1 hw0.2.2 dX5_isFull_4
abbrev rm_X5_addCell : Room := { frames := 0, cells := 0, slots := 0, locals := 0 }
theorem hd_X5_addCell : yX5_addCell.cls = RX5 ∧ yX5_addCell.cls ≠ "java/lang/invoke/MethodHandle" ∧ yX5_addCell.cls ≠ "java/lang/invoke/VarHandle" ∧ (parseMethodDescriptor yX5_addCell.desc).map (fun d => d.parameters.length) = some 1 := by decide +kernel
set_option maxHeartbeats 4000000 in
set_option maxRecDepth 100000 in
theorem c_X5_addCell (l : Launch) (G : va_G) (cI cZ cJ : ClassId) (aK aKc : Nat) (K_used : Int32) (K_bitsFree : Int32) (K_full : Int32) (K_time : Int32) (K_value : Int32) (K_rise : Int64) (K_cells : Nat → Int32) (p0 : Int32) {o_K_used : Int32} {o_K_full : Int32} {o_K_cells : Nat → Int32} (hfin : m_X5_addCell K_used K_full K_cells p0 = some (o_K_used, o_K_full, o_K_cells)) : CT l yX5_addCell cX5_addCell 2 none rm_X5_addCell G (tyC cI cZ cJ) [.ref aK, .int p0] [oX5 aK aKc K_used K_bitsFree K_full K_time K_value K_rise, rI aKc cI 1661 K_cells] none [oX5 aK aKc o_K_used K_bitsFree o_K_full K_time K_value K_rise, rI aKc cI 1661 o_K_cells] := by
  refine CT.ofW (lvl := [(0, .ref aK), (1, .int p0)]) (by decide) (Nat.le_of_ble_eq_true rfl) rfl ?_
  intro p e s m args below meth c A ls0 QQ hQQ hx hb hml hr hlocks htc hN hown hK hA hw0 hl0
  rw [m_X5_addCell] at hfin
  refine lv_aload_n hx hb dX5_addCell_0 rfl (lv_at hl0 0 rfl) ?_
  refine va_get (D := G) (ci := 5) (v := .int K_used) (C := RX5) (T := TX5) (N := 7) hx hb htc iX5 hown hK hw0.1 0 rfl rfl 1 (by decide) (htc _ mw_126) (fun _ h9 => h9) rfl dX5_addCell_1 ?_
  refine lv_sipush (v := (1661 : Int32)) hx hb dX5_addCell_4 (by decide) ?_
  refine lv_icmp_lt (tgt := 16) hx hb dX5_addCell_7 (by decide) (fun c_1 => ?_) (fun c_1 => ?_)
  · replace hfin := it_t c_1 hfin
    refine lv_aload_n hx hb dX5_addCell_16 rfl (lv_at hl0 0 rfl) ?_
    refine va_get (D := G) (ci := 5) (v := .ref aKc) (C := RX5) (T := TX5) (N := 7) hx hb htc iX5 hown hK hw0.1 0 rfl rfl 0 (by decide) (htc _ mw_125) (fun _ h9 => h9) rfl dX5_addCell_17 ?_
    refine lv_aload_n hx hb dX5_addCell_20 rfl (lv_at hl0 0 rfl) ?_
    refine va_get (D := G) (ci := 5) (v := .int K_used) (C := RX5) (T := TX5) (N := 7) hx hb htc iX5 hown hK hw0.1 0 rfl rfl 1 (by decide) (htc _ mw_126) (fun _ h9 => h9) rfl dX5_addCell_21 ?_
    refine lv_iload_n hx hb dX5_addCell_24 rfl (lv_at hl0 1 rfl) ?_
    replace hfin := ckb_some hfin
    obtain ⟨hin_2, hfin⟩ := hfin
    refine va_iast hx hb hK hw0.1 hw0.2.1 hw0.2.2 1 0 rfl rfl hin_2 dX5_addCell_25 (fun H3 locs3 hP hD hS => ?_)
    have hw3 : wS G A s H3 locs3 [oX5 aK aKc K_used K_bitsFree K_full K_time K_value K_rise, rI aKc cI 1661 (upd K_cells (Int32.toNatClampNeg K_used) p0)] := ⟨hP, hD, hS⟩
    clear hP hD hS hw0
    refine lv_aload_n hx hb dX5_addCell_26 rfl (lv_at hl0 0 rfl) ?_
    refine lv_dup hx hb dX5_addCell_27 rfl ?_
    refine va_get (D := G) (ci := 5) (v := .int K_used) (C := RX5) (T := TX5) (N := 7) hx hb htc iX5 hown hK hw3.1 0 rfl rfl 1 (by decide) (htc _ mw_126) (fun _ h9 => h9) rfl dX5_addCell_28 ?_
    refine lv_iconst (v := (1 : Int32)) hx hb dX5_addCell_31 (by decide) ?_
    refine lv_iadd hx hb dX5_addCell_32 ?_
    refine va_put (D := G) (ci := 5) (v := .int (K_used + (1 : Int32))) (ty := .int) (C := RX5) (T := TX5) (N := 7) hx hb htc iX5 tyX5 tyX5_ok nmX5 hown hK hw3.1 hw3.2.1 hw3.2.2 0 rfl rfl 1 (by decide) (htc _ mw_126) (fun _ h9 => h9) rfl (tyX5_ok 1 (by decide)) rfl rfl (Nat.le_of_ble_eq_true rfl) dX5_addCell_33 (fun H4 locs4 hP hD hS => ?_)
    have hw4 : wS G A s H4 locs4 [oX5 aK aKc (K_used + (1 : Int32)) K_bitsFree K_full K_time K_value K_rise, rI aKc cI 1661 (upd K_cells (Int32.toNatClampNeg K_used) p0)] := ⟨hP, hD, hS⟩
    clear hP hD hS hw3 H3 locs3
    cases hfin
    rw [hQQ]
    exact ct_vret hx hb hr hlocks hw4.1 hw4.2.1 hw4.2.2 dX5_addCell_36
  · replace hfin := it_f c_1 hfin
    refine lv_aload_n hx hb dX5_addCell_10 rfl (lv_at hl0 0 rfl) ?_
    refine lv_iconst (v := (1 : Int32)) hx hb dX5_addCell_11 (by decide) ?_
    refine va_put (D := G) (ci := 5) (v := .int (1 : Int32)) (ty := .boolean) (C := RX5) (T := TX5) (N := 7) hx hb htc iX5 tyX5 tyX5_ok nmX5 hown hK hw0.1 hw0.2.1 hw0.2.2 0 rfl rfl 3 (by decide) (htc _ mw_128) (fun _ h9 => h9) rfl (tyX5_ok 3 (by decide)) rfl rfl (Nat.le_of_ble_eq_true rfl) dX5_addCell_12 (fun H5 locs5 hP hD hS => ?_)
    have hw5 : wS G A s H5 locs5 [oX5 aK aKc K_used K_bitsFree (1 : Int32) K_time K_value K_rise, rI aKc cI 1661 K_cells] := ⟨hP, hD, hS⟩
    clear hP hD hS hw0
    cases hfin
    rw [hQQ]
    exact ct_vret hx hb hr hlocks hw5.1 hw5.2.1 hw5.2.2 dX5_addCell_15
abbrev rm_X5_packFirst : Room := { frames := 1, cells := 0, slots := 0, locals := 21 }
theorem hd_X5_packFirst : yX5_packFirst.cls = RX5 ∧ yX5_packFirst.cls ≠ "java/lang/invoke/MethodHandle" ∧ yX5_packFirst.cls ≠ "java/lang/invoke/VarHandle" ∧ (parseMethodDescriptor yX5_packFirst.desc).map (fun d => d.parameters.length) = some 2 := by decide +kernel
set_option maxHeartbeats 4000000 in
set_option maxRecDepth 100000 in
theorem c_X5_packFirst (l : Launch) (G : va_G) (cI cZ cJ : ClassId) (aK aKc : Nat) (K_used : Int32) (K_bitsFree : Int32) (K_full : Int32) (K_time : Int32) (K_value : Int32) (K_rise : Int64) (K_cells : Nat → Int32) (p0 : Int32) (p1 : Int32) {o_K_used : Int32} {o_K_bitsFree : Int32} {o_K_full : Int32} {o_K_time : Int32} {o_K_value : Int32} {o_K_rise : Int64} {o_K_cells : Nat → Int32} (hfin : m_X5_packFirst K_used K_bitsFree K_full K_time K_value K_rise K_cells p0 p1 = some (o_K_used, o_K_bitsFree, o_K_full, o_K_time, o_K_value, o_K_rise, o_K_cells)) : CT l yX5_packFirst cX5_packFirst 3 none rm_X5_packFirst G (tyC cI cZ cJ) [.ref aK, .int p0, .int p1] [oX5 aK aKc K_used K_bitsFree K_full K_time K_value K_rise, rI aKc cI 1661 K_cells] none [oX5 aK aKc o_K_used o_K_bitsFree o_K_full o_K_time o_K_value o_K_rise, rI aKc cI 1661 o_K_cells] := by
  refine CT.ofW (lvl := [(0, .ref aK), (1, .int p0), (2, .int p1)]) (by decide) (Nat.le_of_ble_eq_true rfl) rfl ?_
  intro p e s m args below meth c A ls0 QQ hQQ hx hb hml hr hlocks htc hN hown hK hA hw0 hl0
  rw [m_X5_packFirst] at hfin
  refine lv_aload_n hx hb dX5_packFirst_0 rfl (lv_at hl0 0 rfl) ?_
  refine lv_iload_n hx hb dX5_packFirst_1 rfl (lv_at hl0 1 rfl) ?_
  replace hfin := ob3_some hfin
  obtain ⟨K_used_2, K_full_3, K_cells_4, hE_1, hfin⟩ := hfin
  refine ctV (a := aK) (As := [.int p0]) (rest := []) (st1 := []) (wc := [oX5 aK aKc K_used K_bitsFree K_full K_time K_value K_rise, rI aKc cI 1661 K_cells]) (w1 := [oX5 aK aKc K_used_2 K_bitsFree K_full_3 K_time K_value K_rise, rI aKc cI 1661 K_cells_4]) (wr := []) (wb := [oX5 aK aKc K_used_2 K_bitsFree K_full_3 K_time K_value K_rise, rI aKc cI 1661 K_cells_4]) (v := none) hx hb hml hown htc hN (c_X5_addCell l G cI cZ cJ aK aKc K_used K_bitsFree K_full K_time K_value K_rise K_cells p0 hE_1) mw_482 mw_484 mp_7 mw_8 mw_485 hd_X5_addCell ⟨rfl, rfl⟩ ⟨Nat.le_of_ble_eq_true rfl, Nat.le_of_ble_eq_true rfl⟩ hK hw0 hA [0, 1] [] [0, 1] rfl rfl rfl rfl rfl (by decide) rfl rfl rfl 0 rfl rfl rfl rfl hl0.1 rfl rfl (Nat.le_of_ble_eq_true rfl) dX5_packFirst_2 ⟨Nat.zero_le _, Nat.zero_le _⟩ (fun H5 locs5 hw5 => ?_)
  clear hw0
  refine lv_aload_n hx hb dX5_packFirst_5 rfl (lv_at hl0 0 rfl) ?_
  refine lv_iload_n hx hb dX5_packFirst_6 rfl (lv_at hl0 2 rfl) ?_
  replace hfin := ob3_some hfin
  obtain ⟨K_used_7, K_full_8, K_cells_9, hE_6, hfin⟩ := hfin
  refine ctV (a := aK) (As := [.int p1]) (rest := []) (st1 := []) (wc := [oX5 aK aKc K_used_2 K_bitsFree K_full_3 K_time K_value K_rise, rI aKc cI 1661 K_cells_4]) (w1 := [oX5 aK aKc K_used_7 K_bitsFree K_full_8 K_time K_value K_rise, rI aKc cI 1661 K_cells_9]) (wr := []) (wb := [oX5 aK aKc K_used_7 K_bitsFree K_full_8 K_time K_value K_rise, rI aKc cI 1661 K_cells_9]) (v := none) hx hb hml hown htc hN (c_X5_addCell l G cI cZ cJ aK aKc K_used_2 K_bitsFree K_full_3 K_time K_value K_rise K_cells_4 p1 hE_6) mw_482 mw_484 mp_7 mw_8 mw_485 hd_X5_addCell ⟨rfl, rfl⟩ ⟨Nat.le_of_ble_eq_true rfl, Nat.le_of_ble_eq_true rfl⟩ hK hw5 hA [0, 1] [] [0, 1] rfl rfl rfl rfl rfl (by decide) rfl rfl rfl 0 rfl rfl rfl rfl hl0.1 rfl rfl (Nat.le_of_ble_eq_true rfl) dX5_packFirst_7 ⟨Nat.zero_le _, Nat.zero_le _⟩ (fun H10 locs10 hw10 => ?_)
  clear hw5 H5 locs5
  refine lv_aload_n hx hb dX5_packFirst_10 rfl (lv_at hl0 0 rfl) ?_
  refine lv_iconst (v := (0 : Int32)) hx hb dX5_packFirst_11 (by decide) ?_
  refine va_put (D := G) (ci := 5) (v := .int (0 : Int32)) (ty := .int) (C := RX5) (T := TX5) (N := 7) hx hb htc iX5 tyX5 tyX5_ok nmX5 hown hK hw10.1 hw10.2.1 hw10.2.2 0 rfl rfl 2 (by decide) (htc _ mw_127) (fun _ h9 => h9) rfl (tyX5_ok 2 (by decide)) rfl rfl (Nat.le_of_ble_eq_true rfl) dX5_packFirst_12 (fun H11 locs11 hP hD hS => ?_)
  have hw11 : wS G A s H11 locs11 [oX5 aK aKc K_used_7 (0 : Int32) K_full_8 K_time K_value K_rise, rI aKc cI 1661 K_cells_9] := ⟨hP, hD, hS⟩
  clear hP hD hS hw10 H10 locs10
  refine lv_aload_n hx hb dX5_packFirst_15 rfl (lv_at hl0 0 rfl) ?_
  refine lv_iload_n hx hb dX5_packFirst_16 rfl (lv_at hl0 1 rfl) ?_
  refine va_put (D := G) (ci := 5) (v := .int p0) (ty := .int) (C := RX5) (T := TX5) (N := 7) hx hb htc iX5 tyX5 tyX5_ok nmX5 hown hK hw11.1 hw11.2.1 hw11.2.2 0 rfl rfl 4 (by decide) (htc _ mw_129) (fun _ h9 => h9) rfl (tyX5_ok 4 (by decide)) rfl rfl (Nat.le_of_ble_eq_true rfl) dX5_packFirst_17 (fun H12 locs12 hP hD hS => ?_)
  have hw12 : wS G A s H12 locs12 [oX5 aK aKc K_used_7 (0 : Int32) K_full_8 p0 K_value K_rise, rI aKc cI 1661 K_cells_9] := ⟨hP, hD, hS⟩
  clear hP hD hS hw11 H11 locs11
  refine lv_aload_n hx hb dX5_packFirst_20 rfl (lv_at hl0 0 rfl) ?_
  refine lv_iload_n hx hb dX5_packFirst_21 rfl (lv_at hl0 2 rfl) ?_
  refine va_put (D := G) (ci := 5) (v := .int p1) (ty := .int) (C := RX5) (T := TX5) (N := 7) hx hb htc iX5 tyX5 tyX5_ok nmX5 hown hK hw12.1 hw12.2.1 hw12.2.2 0 rfl rfl 5 (by decide) (htc _ mw_130) (fun _ h9 => h9) rfl (tyX5_ok 5 (by decide)) rfl rfl (Nat.le_of_ble_eq_true rfl) dX5_packFirst_22 (fun H13 locs13 hP hD hS => ?_)
  have hw13 : wS G A s H13 locs13 [oX5 aK aKc K_used_7 (0 : Int32) K_full_8 p0 p1 K_rise, rI aKc cI 1661 K_cells_9] := ⟨hP, hD, hS⟩
  clear hP hD hS hw12 H12 locs12
  refine lv_aload_n hx hb dX5_packFirst_25 rfl (lv_at hl0 0 rfl) ?_
  refine lv_lconst (v := (0 : Int64)) hx hb dX5_packFirst_26 (by decide) ?_
  refine va_put (D := G) (ci := 5) (v := .long (0 : Int64)) (ty := .long) (C := RX5) (T := TX5) (N := 7) hx hb htc iX5 tyX5 tyX5_ok nmX5 hown hK hw13.1 hw13.2.1 hw13.2.2 0 rfl rfl 6 (by decide) (htc _ mw_131) (fun _ h9 => h9) rfl (tyX5_ok 6 (by decide)) rfl rfl (Nat.le_of_ble_eq_true rfl) dX5_packFirst_27 (fun H14 locs14 hP hD hS => ?_)
  have hw14 : wS G A s H14 locs14 [oX5 aK aKc K_used_7 (0 : Int32) K_full_8 p0 p1 (0 : Int64), rI aKc cI 1661 K_cells_9] := ⟨hP, hD, hS⟩
  clear hP hD hS hw13 H13 locs13
  cases hfin
  rw [hQQ]
  exact ct_vret hx hb hr hlocks hw14.1 hw14.2.1 hw14.2.2 dX5_packFirst_30
abbrev rm_X5_addBits : Room := { frames := 1, cells := 0, slots := 0, locals := 21 }
theorem hd_X5_addBits : yX5_addBits.cls = RX5 ∧ yX5_addBits.cls ≠ "java/lang/invoke/MethodHandle" ∧ yX5_addBits.cls ≠ "java/lang/invoke/VarHandle" ∧ (parseMethodDescriptor yX5_addBits.desc).map (fun d => d.parameters.length) = some 2 := by decide +kernel
set_option maxHeartbeats 4000000 in
set_option maxRecDepth 100000 in
theorem c_X5_addBits (l : Launch) (G : va_G) (cI cZ cJ : ClassId) (aK aKc : Nat) (K_used : Int32) (K_bitsFree : Int32) (K_full : Int32) (K_time : Int32) (K_value : Int32) (K_rise : Int64) (K_cells : Nat → Int32) (p0 : Int64) (p1 : Int32) {o_K_used : Int32} {o_K_bitsFree : Int32} {o_K_full : Int32} {o_K_cells : Nat → Int32} (hfin : m_X5_addBits K_used K_bitsFree K_full K_cells p0 p1 = some (o_K_used, o_K_bitsFree, o_K_full, o_K_cells)) : CT l yX5_addBits cX5_addBits 5 none rm_X5_addBits G (tyC cI cZ cJ) [.ref aK, .long p0, .int p1] [oX5 aK aKc K_used K_bitsFree K_full K_time K_value K_rise, rI aKc cI 1661 K_cells] none [oX5 aK aKc o_K_used o_K_bitsFree o_K_full K_time K_value K_rise, rI aKc cI 1661 o_K_cells] := by
  refine CT.ofW (lvl := [(0, .ref aK), (1, .long p0), (3, .int p1)]) (by decide) (Nat.le_of_ble_eq_true rfl) rfl ?_
  intro p e s m args below meth c A ls0 QQ hQQ hx hb hml hr hlocks htc hN hown hK hA hw0 hl0
  rw [m_X5_addBits] at hfin
  refine lv_iload_n hx hb dX5_addBits_0 rfl (lv_at hl0 2 rfl) ?_
  refine lv_iconst (v := (1 : Int32)) hx hb dX5_addBits_1 (by decide) ?_
  refine lv_isub hx hb dX5_addBits_2 ?_
  refine lv_istore (lv' := [(4, .int (p1 - (1 : Int32))), (0, .ref aK), (1, .long p0), (3, .int p1)]) hx hb dX5_addBits_3 hl0 (by decide) rfl (fun ls1 hl1 => ?_)
  clear hl0 ls0
  replace hfin := ob4_some hfin
  obtain ⟨K_used_11, K_bitsFree_12, K_full_13, K_cells_14, hL_7, hfin⟩ := hfin
  have kx_8 : ∀ (H : Heap) (locs : List Loc) (ls : Array Slot), wS G A s H locs [oX5 aK aKc K_used_11 K_bitsFree_12 K_full_13 K_time K_value K_rise, rI aKc cI 1661 K_cells_14] → lv_has ls 5 [] → W p l e rm_X5_addBits s m args below meth c H locs 0 0 QQ (F0 m 77 ls []) := by
    clear hw0 hl1 ls1 hL_7
    intro H41 locs41 ls41 hw41 hl41
    cases hfin
    rw [hQQ]
    exact ct_vret hx hb hr hlocks hw41.1 hw41.2.1 hw41.2.2 dX5_addBits_77
  have lp_9 : ∀ (n : Nat) (v4_2 : Int32) (K_used_3 : Int32) (K_bitsFree_4 : Int32) (K_full_5 : Int32) (K_cells_6 : Nat → Int32), lp_X5_addBits_5 p0 n v4_2 K_used_3 K_bitsFree_4 K_full_5 K_cells_6 = some (K_used_11, K_bitsFree_12, K_full_13, K_cells_14) → ∀ (H : Heap) (locs : List Loc) (ls : Array Slot), wS G A s H locs [oX5 aK aKc K_used_3 K_bitsFree_4 K_full_5 K_time K_value K_rise, rI aKc cI 1661 K_cells_6] → lv_has ls 5 [(0, .ref aK), (1, .long p0), (4, .int v4_2)] → W p l e rm_X5_addBits s m args below meth c H locs 0 0 QQ (F0 m 5 ls []) := by
    clear hw0 hl1 ls1 hfin
    intro n
    induction n with
    | zero =>
      intro v4_2 K_used_3 K_bitsFree_4 K_full_5 K_cells_6 hB_10
      exact absurd hB_10 (by rw [lp_X5_addBits_5]; exact fun h9 => nomatch h9)
    | succ n ih =>
      intro v4_2 K_used_3 K_bitsFree_4 K_full_5 K_cells_6 hB_10 H15 locs15 ls15 hw15 hl15
      rw [lp_X5_addBits_5] at hB_10
      refine lv_iload hx hb dX5_addBits_5 (lv_at hl15 2 rfl) ?_
      refine lv_if_lt (tgt := 77) hx hb dX5_addBits_7 (by decide) (fun c_16 => ?_) (fun c_16 => ?_)
      · replace hB_10 := it_t c_16 hB_10
        cases hB_10
        exact kx_8 _ _ _ hw15 (lv_sub hl15 [] rfl)
      · replace hB_10 := it_f c_16 hB_10
        refine lv_aload_n hx hb dX5_addBits_10 rfl (lv_at hl15 0 rfl) ?_
        refine va_get (D := G) (ci := 5) (v := .int K_bitsFree_4) (C := RX5) (T := TX5) (N := 7) hx hb htc iX5 hown hK hw15.1 0 rfl rfl 2 (by decide) (htc _ mw_127) (fun _ h9 => h9) rfl dX5_addBits_11 ?_
        replace hB_10 := ob4_some hB_10
        obtain ⟨K_used_17, K_bitsFree_18, K_full_19, K_cells_20, hJ_21, hB_10⟩ := hB_10
        have kj_22 : ∀ (H : Heap) (locs : List Loc) (ls : Array Slot), wS G A s H locs [oX5 aK aKc K_used_17 K_bitsFree_18 K_full_19 K_time K_value K_rise, rI aKc cI 1661 K_cells_20] → lv_has ls 5 [(0, .ref aK), (1, .long p0), (4, .int v4_2)] → W p l e rm_X5_addBits s m args below meth c H locs 0 0 QQ (F0 m 28 ls []) := by
          clear hw15 H15 locs15 hl15 ls15 hJ_21
          intro H30 locs30 ls30 hw30 hl30
          refine lv_aload_n hx hb dX5_addBits_28 rfl (lv_at hl30 0 rfl) ?_
          refine lv_dup hx hb dX5_addBits_29 rfl ?_
          refine va_get (D := G) (ci := 5) (v := .int K_bitsFree_18) (C := RX5) (T := TX5) (N := 7) hx hb htc iX5 hown hK hw30.1 0 rfl rfl 2 (by decide) (htc _ mw_127) (fun _ h9 => h9) rfl dX5_addBits_30 ?_
          refine lv_iconst (v := (1 : Int32)) hx hb dX5_addBits_33 (by decide) ?_
          refine lv_isub hx hb dX5_addBits_34 ?_
          refine va_put (D := G) (ci := 5) (v := .int (K_bitsFree_18 - (1 : Int32))) (ty := .int) (C := RX5) (T := TX5) (N := 7) hx hb htc iX5 tyX5 tyX5_ok nmX5 hown hK hw30.1 hw30.2.1 hw30.2.2 0 rfl rfl 2 (by decide) (htc _ mw_127) (fun _ h9 => h9) rfl (tyX5_ok 2 (by decide)) rfl rfl (Nat.le_of_ble_eq_true rfl) dX5_addBits_35 (fun H31 locs31 hP hD hS => ?_)
          have hw31 : wS G A s H31 locs31 [oX5 aK aKc K_used_17 (K_bitsFree_18 - (1 : Int32)) K_full_19 K_time K_value K_rise, rI aKc cI 1661 K_cells_20] := ⟨hP, hD, hS⟩
          clear hP hD hS hw30 H30 locs30
          refine lv_aload_n hx hb dX5_addBits_38 rfl (lv_at hl30 0 rfl) ?_
          refine va_get (D := G) (ci := 5) (v := .int K_used_17) (C := RX5) (T := TX5) (N := 7) hx hb htc iX5 hown hK hw31.1 0 rfl rfl 1 (by decide) (htc _ mw_126) (fun _ h9 => h9) rfl dX5_addBits_39 ?_
          replace hB_10 := ob1_some hB_10
          obtain ⟨K_cells_32, hJ_33, hB_10⟩ := hB_10
          have kj_34 : ∀ (H : Heap) (locs : List Loc) (ls : Array Slot), wS G A s H locs [oX5 aK aKc K_used_17 (K_bitsFree_18 - (1 : Int32)) K_full_19 K_time K_value K_rise, rI aKc cI 1661 K_cells_32] → lv_has ls 5 [(0, .ref aK), (1, .long p0), (4, .int v4_2)] → W p l e rm_X5_addBits s m args below meth c H locs 0 0 QQ (F0 m 71 ls []) := by
            clear hw31 H31 locs31 hl30 ls30 hJ_33
            intro H39 locs39 ls39 hw39 hl39
            refine lv_iinc (v := (v4_2 + (-1 : Int32))) (lv' := [(4, .int (v4_2 + (-1 : Int32))), (0, .ref aK), (1, .long p0)]) hx hb dX5_addBits_71 hl39 (k := 2) rfl rfl (by decide) rfl (fun ls40 hl40 => ?_)
            clear hl39 ls39
            refine lv_goto (tgt := 5) hx hb dX5_addBits_74 (by decide) ?_
            exact ih (v4_2 + (-1 : Int32)) K_used_17 (K_bitsFree_18 - (1 : Int32)) K_full_19 K_cells_32 hB_10 _ _ _ hw39 (lv_sub hl40 [1, 2, 0] rfl)
          clear hB_10
          refine lv_if_le (tgt := 71) hx hb dX5_addBits_42 (by decide) (fun c_35 => ?_) (fun c_35 => ?_)
          · replace hJ_33 := it_t c_35 hJ_33
            cases hJ_33
            exact kj_34 _ _ _ hw31 (lv_sub hl30 [0, 1, 2] rfl)
          · replace hJ_33 := it_f c_35 hJ_33
            refine lv_aload_n hx hb dX5_addBits_45 rfl (lv_at hl30 0 rfl) ?_
            refine va_get (D := G) (ci := 5) (v := .ref aKc) (C := RX5) (T := TX5) (N := 7) hx hb htc iX5 hown hK hw31.1 0 rfl rfl 0 (by decide) (htc _ mw_125) (fun _ h9 => h9) rfl dX5_addBits_46 ?_
            refine lv_aload_n hx hb dX5_addBits_49 rfl (lv_at hl30 0 rfl) ?_
            refine va_get (D := G) (ci := 5) (v := .int K_used_17) (C := RX5) (T := TX5) (N := 7) hx hb htc iX5 hown hK hw31.1 0 rfl rfl 1 (by decide) (htc _ mw_126) (fun _ h9 => h9) rfl dX5_addBits_50 ?_
            refine lv_iconst (v := (1 : Int32)) hx hb dX5_addBits_53 (by decide) ?_
            refine lv_isub hx hb dX5_addBits_54 ?_
            refine lv_dup2_11 hx hb dX5_addBits_55 rfl rfl ?_
            replace hJ_33 := ckb_some hJ_33
            obtain ⟨hin_36, hJ_33⟩ := hJ_33
            refine va_iald hx hb hK hw31.1 1 0 rfl rfl hin_36 dX5_addBits_56 ?_
            refine lv_lload_n hx hb dX5_addBits_57 rfl (lv_at hl30 1 rfl) ?_
            refine lv_iload hx hb dX5_addBits_58 (lv_at hl30 2 rfl) ?_
            refine lv_lushr hx hb dX5_addBits_60 rfl ?_
            refine lv_lconst (v := (1 : Int64)) hx hb dX5_addBits_61 (by decide) ?_
            refine lv_land hx hb dX5_addBits_62 ?_
            refine lv_l2i hx hb dX5_addBits_63 rfl ?_
            refine lv_aload_n hx hb dX5_addBits_64 rfl (lv_at hl30 0 rfl) ?_
            refine va_get (D := G) (ci := 5) (v := .int (K_bitsFree_18 - (1 : Int32))) (C := RX5) (T := TX5) (N := 7) hx hb htc iX5 hown hK hw31.1 0 rfl rfl 2 (by decide) (htc _ mw_127) (fun _ h9 => h9) rfl dX5_addBits_65 ?_
            refine lv_ishl hx hb dX5_addBits_68 ?_
            refine lv_ior hx hb dX5_addBits_69 ?_
            replace hJ_33 := ckb_some hJ_33
            obtain ⟨hin_37, hJ_33⟩ := hJ_33
            refine va_iast hx hb hK hw31.1 hw31.2.1 hw31.2.2 1 0 rfl rfl hin_37 dX5_addBits_70 (fun H38 locs38 hP hD hS => ?_)
            have hw38 : wS G A s H38 locs38 [oX5 aK aKc K_used_17 (K_bitsFree_18 - (1 : Int32)) K_full_19 K_time K_value K_rise, rI aKc cI 1661 (upd K_cells_20 (Int32.toNatClampNeg (K_used_17 - (1 : Int32))) ((K_cells_20 (Int32.toNatClampNeg (K_used_17 - (1 : Int32)))) ||| ((Int64.toInt32 (((Int64.toUInt64 p0 >>> ((Int32.toInt64 v4_2).toUInt64 &&& Int64.toUInt64 63)).toInt64) &&& (1 : Int64))) <<< ((K_bitsFree_18 - (1 : Int32)) &&& 31))))] := ⟨hP, hD, hS⟩
            clear hP hD hS hw31 H31 locs31
            cases hJ_33
            exact kj_34 _ _ _ hw38 (lv_sub hl30 [0, 1, 2] rfl)
        clear hB_10
        refine lv_if_ne (tgt := 28) hx hb dX5_addBits_14 (by decide) (fun c_23 => ?_) (fun c_23 => ?_)
        · replace hJ_21 := it_f c_23 hJ_21
          cases hJ_21
          exact kj_22 _ _ _ hw15 (lv_sub hl15 [0, 1, 2] rfl)
        · replace hJ_21 := it_t c_23 hJ_21
          refine lv_aload_n hx hb dX5_addBits_17 rfl (lv_at hl15 0 rfl) ?_
          refine lv_iconst (v := (0 : Int32)) hx hb dX5_addBits_18 (by decide) ?_
          replace hJ_21 := ob3_some hJ_21
          obtain ⟨K_used_25, K_full_26, K_cells_27, hE_24, hJ_21⟩ := hJ_21
          refine ctV (a := aK) (As := [.int (0 : Int32)]) (rest := []) (st1 := []) (wc := [oX5 aK aKc K_used_3 K_bitsFree_4 K_full_5 K_time K_value K_rise, rI aKc cI 1661 K_cells_6]) (w1 := [oX5 aK aKc K_used_25 K_bitsFree_4 K_full_26 K_time K_value K_rise, rI aKc cI 1661 K_cells_27]) (wr := []) (wb := [oX5 aK aKc K_used_25 K_bitsFree_4 K_full_26 K_time K_value K_rise, rI aKc cI 1661 K_cells_27]) (v := none) hx hb hml hown htc hN (c_X5_addCell l G cI cZ cJ aK aKc K_used_3 K_bitsFree_4 K_full_5 K_time K_value K_rise K_cells_6 (0 : Int32) hE_24) mw_482 mw_484 mp_7 mw_8 mw_485 hd_X5_addCell ⟨rfl, rfl⟩ ⟨Nat.le_of_ble_eq_true rfl, Nat.le_of_ble_eq_true rfl⟩ hK hw15 hA [0, 1] [] [0, 1] rfl rfl rfl rfl rfl (by decide) rfl rfl rfl 0 rfl rfl rfl rfl hl15.1 rfl rfl (Nat.le_of_ble_eq_true rfl) dX5_addBits_19 ⟨Nat.zero_le _, Nat.zero_le _⟩ (fun H28 locs28 hw28 => ?_)
          clear hw15 H15 locs15
          refine lv_aload_n hx hb dX5_addBits_22 rfl (lv_at hl15 0 rfl) ?_
          refine lv_bipush (v := (32 : Int32)) hx hb dX5_addBits_23 (by decide) ?_
          refine va_put (D := G) (ci := 5) (v := .int (32 : Int32)) (ty := .int) (C := RX5) (T := TX5) (N := 7) hx hb htc iX5 tyX5 tyX5_ok nmX5 hown hK hw28.1 hw28.2.1 hw28.2.2 0 rfl rfl 2 (by decide) (htc _ mw_127) (fun _ h9 => h9) rfl (tyX5_ok 2 (by decide)) rfl rfl (Nat.le_of_ble_eq_true rfl) dX5_addBits_25 (fun H29 locs29 hP hD hS => ?_)
          have hw29 : wS G A s H29 locs29 [oX5 aK aKc K_used_25 (32 : Int32) K_full_26 K_time K_value K_rise, rI aKc cI 1661 K_cells_27] := ⟨hP, hD, hS⟩
          clear hP hD hS hw28 H28 locs28
          cases hJ_21
          exact kj_22 _ _ _ hw29 (lv_sub hl15 [0, 1, 2] rfl)
  exact lp_9 NN (p1 - (1 : Int32)) K_used K_bitsFree K_full K_cells hL_7 _ _ _ hw0 (lv_sub hl1 [1, 2, 0] rfl)
abbrev rm_X5_packChange : Room := { frames := 2, cells := 0, slots := 0, locals := 45 }
theorem hd_X5_packChange : yX5_packChange.cls = RX5 ∧ yX5_packChange.cls ≠ "java/lang/invoke/MethodHandle" ∧ yX5_packChange.cls ≠ "java/lang/invoke/VarHandle" ∧ (parseMethodDescriptor yX5_packChange.desc).map (fun d => d.parameters.length) = some 1 := by decide +kernel
set_option maxHeartbeats 4000000 in
set_option maxRecDepth 100000 in
theorem c_X5_packChange (l : Launch) (G : va_G) (cI cZ cJ : ClassId) (aK aKc : Nat) (K_used : Int32) (K_bitsFree : Int32) (K_full : Int32) (K_time : Int32) (K_value : Int32) (K_rise : Int64) (K_cells : Nat → Int32) (p0 : Int64) {o_K_used : Int32} {o_K_bitsFree : Int32} {o_K_full : Int32} {o_K_cells : Nat → Int32} (hfin : m_X5_packChange K_used K_bitsFree K_full K_cells p0 = some (o_K_used, o_K_bitsFree, o_K_full, o_K_cells)) : CT l yX5_packChange cX5_packChange 3 none rm_X5_packChange G (tyC cI cZ cJ) [.ref aK, .long p0] [oX5 aK aKc K_used K_bitsFree K_full K_time K_value K_rise, rI aKc cI 1661 K_cells] none [oX5 aK aKc o_K_used o_K_bitsFree o_K_full K_time K_value K_rise, rI aKc cI 1661 o_K_cells] := by
  refine CT.ofW (lvl := [(0, .ref aK), (1, .long p0)]) (by decide) (Nat.le_of_ble_eq_true rfl) rfl ?_
  intro p e s m args below meth c A ls0 QQ hQQ hx hb hml hr hlocks htc hN hown hK hA hw0 hl0
  rw [m_X5_packChange] at hfin
  refine lv_lload_n hx hb dX5_packChange_0 rfl (lv_at hl0 1 rfl) ?_
  refine lv_lconst (v := (0 : Int64)) hx hb dX5_packChange_1 (by decide) ?_
  refine W.lcmp hx hb dX5_packChange_2 ?_
  replace hfin := ob4_some hfin
  obtain ⟨K_used_1, K_bitsFree_2, K_full_3, K_cells_4, hJ_5, hfin⟩ := hfin
  have kj_6 : ∀ (H : Heap) (locs : List Loc) (ls : Array Slot), wS G A s H locs [oX5 aK aKc K_used_1 K_bitsFree_2 K_full_3 K_time K_value K_rise, rI aKc cI 1661 K_cells_4] → lv_has ls 3 [] → W p l e rm_X5_packChange s m args below meth c H locs 0 0 QQ (F0 m 148 ls []) := by
    clear hw0 hl0 ls0 hJ_5
    intro H208 locs208 ls208 hw208 hl208
    cases hfin
    rw [hQQ]
    exact ct_vret hx hb hr hlocks hw208.1 hw208.2.1 hw208.2.2 dX5_packChange_148
  clear hfin
  refine lv_if_ne (tgt := 15) hx hb dX5_packChange_3 (by decide) (fun c_7 => ?_) (fun c_7 => ?_)
  · replace hJ_5 := it_f c_7 hJ_5
    refine lv_lload_n hx hb dX5_packChange_15 rfl (lv_at hl0 1 rfl) ?_
    refine lv_ldc2 (v := (-64 : Int64)) hx hb hown (htc _ mw_498) dX5_packChange_16 ?_
    refine W.lcmp hx hb dX5_packChange_19 ?_
    refine lv_if_lt (tgt := 53) hx hb dX5_packChange_20 (by decide) (fun c_8 => ?_) (fun c_8 => ?_)
    · replace hJ_5 := it_t c_8 hJ_5
      refine lv_lload_n hx hb dX5_packChange_53 rfl (lv_at hl0 1 rfl) ?_
      refine lv_ldc2 (v := (-256 : Int64)) hx hb hown (htc _ mw_501) dX5_packChange_54 ?_
      refine W.lcmp hx hb dX5_packChange_57 ?_
      refine lv_if_lt (tgt := 91) hx hb dX5_packChange_58 (by decide) (fun c_9 => ?_) (fun c_9 => ?_)
      · replace hJ_5 := it_t c_9 hJ_5
        refine lv_lload_n hx hb dX5_packChange_91 rfl (lv_at hl0 1 rfl) ?_
        refine lv_ldc2 (v := (-2048 : Int64)) hx hb hown (htc _ mw_504) dX5_packChange_92 ?_
        refine W.lcmp hx hb dX5_packChange_95 ?_
        refine lv_if_lt (tgt := 129) hx hb dX5_packChange_96 (by decide) (fun c_10 => ?_) (fun c_10 => ?_)
        · replace hJ_5 := it_t c_10 hJ_5
          refine lv_aload_n hx hb dX5_packChange_129 rfl (lv_at hl0 0 rfl) ?_
          refine lv_ldc2 (v := (15 : Int64)) hx hb hown (htc _ mw_507) dX5_packChange_130 ?_
          refine lv_iconst (v := (4 : Int32)) hx hb dX5_packChange_133 (by decide) ?_
          replace hJ_5 := ob4_some hJ_5
          obtain ⟨K_used_12, K_bitsFree_13, K_full_14, K_cells_15, hE_11, hJ_5⟩ := hJ_5
          refine ctV (a := aK) (As := [.long (15 : Int64), .int (4 : Int32)]) (rest := []) (st1 := []) (wc := [oX5 aK aKc K_used K_bitsFree K_full K_time K_value K_rise, rI aKc cI 1661 K_cells]) (w1 := [oX5 aK aKc K_used_12 K_bitsFree_13 K_full_14 K_time K_value K_rise, rI aKc cI 1661 K_cells_15]) (wr := []) (wb := [oX5 aK aKc K_used_12 K_bitsFree_13 K_full_14 K_time K_value K_rise, rI aKc cI 1661 K_cells_15]) (v := none) hx hb hml hown htc hN (c_X5_addBits l G cI cZ cJ aK aKc K_used K_bitsFree K_full K_time K_value K_rise K_cells (15 : Int64) (4 : Int32) hE_11) mw_494 mw_496 mp_9 mw_8 mw_497 hd_X5_addBits ⟨rfl, rfl⟩ ⟨Nat.le_of_ble_eq_true rfl, Nat.le_of_ble_eq_true rfl⟩ hK hw0 hA [0, 1] [] [0, 1] rfl rfl rfl rfl rfl (by decide) rfl rfl rfl 0 rfl rfl rfl rfl hl0.1 rfl rfl (Nat.le_of_ble_eq_true rfl) dX5_packChange_134 ⟨Nat.zero_le _, Nat.zero_le _⟩ (fun H16 locs16 hw16 => ?_)
          clear hw0
          refine lv_aload_n hx hb dX5_packChange_137 rfl (lv_at hl0 0 rfl) ?_
          refine lv_lload_n hx hb dX5_packChange_138 rfl (lv_at hl0 1 rfl) ?_
          refine lv_ldc2 (v := (8589934592 : Int64)) hx hb hown (htc _ mw_508) dX5_packChange_139 ?_
          refine lv_ladd hx hb dX5_packChange_142 ?_
          refine lv_bipush (v := (34 : Int32)) hx hb dX5_packChange_143 (by decide) ?_
          replace hJ_5 := ob4_some hJ_5
          obtain ⟨K_used_18, K_bitsFree_19, K_full_20, K_cells_21, hE_17, hJ_5⟩ := hJ_5
          refine ctV (a := aK) (As := [.long (p0 + (8589934592 : Int64)), .int (34 : Int32)]) (rest := []) (st1 := []) (wc := [oX5 aK aKc K_used_12 K_bitsFree_13 K_full_14 K_time K_value K_rise, rI aKc cI 1661 K_cells_15]) (w1 := [oX5 aK aKc K_used_18 K_bitsFree_19 K_full_20 K_time K_value K_rise, rI aKc cI 1661 K_cells_21]) (wr := []) (wb := [oX5 aK aKc K_used_18 K_bitsFree_19 K_full_20 K_time K_value K_rise, rI aKc cI 1661 K_cells_21]) (v := none) hx hb hml hown htc hN (c_X5_addBits l G cI cZ cJ aK aKc K_used_12 K_bitsFree_13 K_full_14 K_time K_value K_rise K_cells_15 (p0 + (8589934592 : Int64)) (34 : Int32) hE_17) mw_494 mw_496 mp_9 mw_8 mw_497 hd_X5_addBits ⟨rfl, rfl⟩ ⟨Nat.le_of_ble_eq_true rfl, Nat.le_of_ble_eq_true rfl⟩ hK hw16 hA [0, 1] [] [0, 1] rfl rfl rfl rfl rfl (by decide) rfl rfl rfl 0 rfl rfl rfl rfl hl0.1 rfl rfl (Nat.le_of_ble_eq_true rfl) dX5_packChange_145 ⟨Nat.zero_le _, Nat.zero_le _⟩ (fun H22 locs22 hw22 => ?_)
          clear hw16 H16 locs16
          cases hJ_5
          exact kj_6 _ _ _ hw22 (lv_sub hl0 [] rfl)
        · replace hJ_5 := it_f c_10 hJ_5
          refine lv_lload_n hx hb dX5_packChange_99 rfl (lv_at hl0 1 rfl) ?_
          refine lv_ldc2 (v := (2048 : Int64)) hx hb hown (htc _ mw_505) dX5_packChange_100 ?_
          refine W.lcmp hx hb dX5_packChange_103 ?_
          refine lv_if_ge (tgt := 129) hx hb dX5_packChange_104 (by decide) (fun c_23 => ?_) (fun c_23 => ?_)
          · replace hJ_5 := it_t c_23 hJ_5
            refine lv_aload_n hx hb dX5_packChange_129 rfl (lv_at hl0 0 rfl) ?_
            refine lv_ldc2 (v := (15 : Int64)) hx hb hown (htc _ mw_507) dX5_packChange_130 ?_
            refine lv_iconst (v := (4 : Int32)) hx hb dX5_packChange_133 (by decide) ?_
            replace hJ_5 := ob4_some hJ_5
            obtain ⟨K_used_25, K_bitsFree_26, K_full_27, K_cells_28, hE_24, hJ_5⟩ := hJ_5
            refine ctV (a := aK) (As := [.long (15 : Int64), .int (4 : Int32)]) (rest := []) (st1 := []) (wc := [oX5 aK aKc K_used K_bitsFree K_full K_time K_value K_rise, rI aKc cI 1661 K_cells]) (w1 := [oX5 aK aKc K_used_25 K_bitsFree_26 K_full_27 K_time K_value K_rise, rI aKc cI 1661 K_cells_28]) (wr := []) (wb := [oX5 aK aKc K_used_25 K_bitsFree_26 K_full_27 K_time K_value K_rise, rI aKc cI 1661 K_cells_28]) (v := none) hx hb hml hown htc hN (c_X5_addBits l G cI cZ cJ aK aKc K_used K_bitsFree K_full K_time K_value K_rise K_cells (15 : Int64) (4 : Int32) hE_24) mw_494 mw_496 mp_9 mw_8 mw_497 hd_X5_addBits ⟨rfl, rfl⟩ ⟨Nat.le_of_ble_eq_true rfl, Nat.le_of_ble_eq_true rfl⟩ hK hw0 hA [0, 1] [] [0, 1] rfl rfl rfl rfl rfl (by decide) rfl rfl rfl 0 rfl rfl rfl rfl hl0.1 rfl rfl (Nat.le_of_ble_eq_true rfl) dX5_packChange_134 ⟨Nat.zero_le _, Nat.zero_le _⟩ (fun H29 locs29 hw29 => ?_)
            clear hw0
            refine lv_aload_n hx hb dX5_packChange_137 rfl (lv_at hl0 0 rfl) ?_
            refine lv_lload_n hx hb dX5_packChange_138 rfl (lv_at hl0 1 rfl) ?_
            refine lv_ldc2 (v := (8589934592 : Int64)) hx hb hown (htc _ mw_508) dX5_packChange_139 ?_
            refine lv_ladd hx hb dX5_packChange_142 ?_
            refine lv_bipush (v := (34 : Int32)) hx hb dX5_packChange_143 (by decide) ?_
            replace hJ_5 := ob4_some hJ_5
            obtain ⟨K_used_31, K_bitsFree_32, K_full_33, K_cells_34, hE_30, hJ_5⟩ := hJ_5
            refine ctV (a := aK) (As := [.long (p0 + (8589934592 : Int64)), .int (34 : Int32)]) (rest := []) (st1 := []) (wc := [oX5 aK aKc K_used_25 K_bitsFree_26 K_full_27 K_time K_value K_rise, rI aKc cI 1661 K_cells_28]) (w1 := [oX5 aK aKc K_used_31 K_bitsFree_32 K_full_33 K_time K_value K_rise, rI aKc cI 1661 K_cells_34]) (wr := []) (wb := [oX5 aK aKc K_used_31 K_bitsFree_32 K_full_33 K_time K_value K_rise, rI aKc cI 1661 K_cells_34]) (v := none) hx hb hml hown htc hN (c_X5_addBits l G cI cZ cJ aK aKc K_used_25 K_bitsFree_26 K_full_27 K_time K_value K_rise K_cells_28 (p0 + (8589934592 : Int64)) (34 : Int32) hE_30) mw_494 mw_496 mp_9 mw_8 mw_497 hd_X5_addBits ⟨rfl, rfl⟩ ⟨Nat.le_of_ble_eq_true rfl, Nat.le_of_ble_eq_true rfl⟩ hK hw29 hA [0, 1] [] [0, 1] rfl rfl rfl rfl rfl (by decide) rfl rfl rfl 0 rfl rfl rfl rfl hl0.1 rfl rfl (Nat.le_of_ble_eq_true rfl) dX5_packChange_145 ⟨Nat.zero_le _, Nat.zero_le _⟩ (fun H35 locs35 hw35 => ?_)
            clear hw29 H29 locs29
            cases hJ_5
            exact kj_6 _ _ _ hw35 (lv_sub hl0 [] rfl)
          · replace hJ_5 := it_f c_23 hJ_5
            refine lv_aload_n hx hb dX5_packChange_107 rfl (lv_at hl0 0 rfl) ?_
            refine lv_ldc2 (v := (14 : Int64)) hx hb hown (htc _ mw_506) dX5_packChange_108 ?_
            refine lv_iconst (v := (4 : Int32)) hx hb dX5_packChange_111 (by decide) ?_
            replace hJ_5 := ob4_some hJ_5
            obtain ⟨K_used_37, K_bitsFree_38, K_full_39, K_cells_40, hE_36, hJ_5⟩ := hJ_5
            refine ctV (a := aK) (As := [.long (14 : Int64), .int (4 : Int32)]) (rest := []) (st1 := []) (wc := [oX5 aK aKc K_used K_bitsFree K_full K_time K_value K_rise, rI aKc cI 1661 K_cells]) (w1 := [oX5 aK aKc K_used_37 K_bitsFree_38 K_full_39 K_time K_value K_rise, rI aKc cI 1661 K_cells_40]) (wr := []) (wb := [oX5 aK aKc K_used_37 K_bitsFree_38 K_full_39 K_time K_value K_rise, rI aKc cI 1661 K_cells_40]) (v := none) hx hb hml hown htc hN (c_X5_addBits l G cI cZ cJ aK aKc K_used K_bitsFree K_full K_time K_value K_rise K_cells (14 : Int64) (4 : Int32) hE_36) mw_494 mw_496 mp_9 mw_8 mw_497 hd_X5_addBits ⟨rfl, rfl⟩ ⟨Nat.le_of_ble_eq_true rfl, Nat.le_of_ble_eq_true rfl⟩ hK hw0 hA [0, 1] [] [0, 1] rfl rfl rfl rfl rfl (by decide) rfl rfl rfl 0 rfl rfl rfl rfl hl0.1 rfl rfl (Nat.le_of_ble_eq_true rfl) dX5_packChange_112 ⟨Nat.zero_le _, Nat.zero_le _⟩ (fun H41 locs41 hw41 => ?_)
            clear hw0
            refine lv_aload_n hx hb dX5_packChange_115 rfl (lv_at hl0 0 rfl) ?_
            refine lv_lload_n hx hb dX5_packChange_116 rfl (lv_at hl0 1 rfl) ?_
            refine lv_ldc2 (v := (2048 : Int64)) hx hb hown (htc _ mw_505) dX5_packChange_117 ?_
            refine lv_ladd hx hb dX5_packChange_120 ?_
            refine lv_bipush (v := (12 : Int32)) hx hb dX5_packChange_121 (by decide) ?_
            replace hJ_5 := ob4_some hJ_5
            obtain ⟨K_used_43, K_bitsFree_44, K_full_45, K_cells_46, hE_42, hJ_5⟩ := hJ_5
            refine ctV (a := aK) (As := [.long (p0 + (2048 : Int64)), .int (12 : Int32)]) (rest := []) (st1 := []) (wc := [oX5 aK aKc K_used_37 K_bitsFree_38 K_full_39 K_time K_value K_rise, rI aKc cI 1661 K_cells_40]) (w1 := [oX5 aK aKc K_used_43 K_bitsFree_44 K_full_45 K_time K_value K_rise, rI aKc cI 1661 K_cells_46]) (wr := []) (wb := [oX5 aK aKc K_used_43 K_bitsFree_44 K_full_45 K_time K_value K_rise, rI aKc cI 1661 K_cells_46]) (v := none) hx hb hml hown htc hN (c_X5_addBits l G cI cZ cJ aK aKc K_used_37 K_bitsFree_38 K_full_39 K_time K_value K_rise K_cells_40 (p0 + (2048 : Int64)) (12 : Int32) hE_42) mw_494 mw_496 mp_9 mw_8 mw_497 hd_X5_addBits ⟨rfl, rfl⟩ ⟨Nat.le_of_ble_eq_true rfl, Nat.le_of_ble_eq_true rfl⟩ hK hw41 hA [0, 1] [] [0, 1] rfl rfl rfl rfl rfl (by decide) rfl rfl rfl 0 rfl rfl rfl rfl hl0.1 rfl rfl (Nat.le_of_ble_eq_true rfl) dX5_packChange_123 ⟨Nat.zero_le _, Nat.zero_le _⟩ (fun H47 locs47 hw47 => ?_)
            clear hw41 H41 locs41
            refine lv_goto (tgt := 148) hx hb dX5_packChange_126 (by decide) ?_
            cases hJ_5
            exact kj_6 _ _ _ hw47 (lv_sub hl0 [] rfl)
      · replace hJ_5 := it_f c_9 hJ_5
        refine lv_lload_n hx hb dX5_packChange_61 rfl (lv_at hl0 1 rfl) ?_
        refine lv_ldc2 (v := (256 : Int64)) hx hb hown (htc _ mw_502) dX5_packChange_62 ?_
        refine W.lcmp hx hb dX5_packChange_65 ?_
        refine lv_if_ge (tgt := 91) hx hb dX5_packChange_66 (by decide) (fun c_48 => ?_) (fun c_48 => ?_)
        · replace hJ_5 := it_t c_48 hJ_5
          refine lv_lload_n hx hb dX5_packChange_91 rfl (lv_at hl0 1 rfl) ?_
          refine lv_ldc2 (v := (-2048 : Int64)) hx hb hown (htc _ mw_504) dX5_packChange_92 ?_
          refine W.lcmp hx hb dX5_packChange_95 ?_
          refine lv_if_lt (tgt := 129) hx hb dX5_packChange_96 (by decide) (fun c_49 => ?_) (fun c_49 => ?_)
          · replace hJ_5 := it_t c_49 hJ_5
            refine lv_aload_n hx hb dX5_packChange_129 rfl (lv_at hl0 0 rfl) ?_
            refine lv_ldc2 (v := (15 : Int64)) hx hb hown (htc _ mw_507) dX5_packChange_130 ?_
            refine lv_iconst (v := (4 : Int32)) hx hb dX5_packChange_133 (by decide) ?_
            replace hJ_5 := ob4_some hJ_5
            obtain ⟨K_used_51, K_bitsFree_52, K_full_53, K_cells_54, hE_50, hJ_5⟩ := hJ_5
            refine ctV (a := aK) (As := [.long (15 : Int64), .int (4 : Int32)]) (rest := []) (st1 := []) (wc := [oX5 aK aKc K_used K_bitsFree K_full K_time K_value K_rise, rI aKc cI 1661 K_cells]) (w1 := [oX5 aK aKc K_used_51 K_bitsFree_52 K_full_53 K_time K_value K_rise, rI aKc cI 1661 K_cells_54]) (wr := []) (wb := [oX5 aK aKc K_used_51 K_bitsFree_52 K_full_53 K_time K_value K_rise, rI aKc cI 1661 K_cells_54]) (v := none) hx hb hml hown htc hN (c_X5_addBits l G cI cZ cJ aK aKc K_used K_bitsFree K_full K_time K_value K_rise K_cells (15 : Int64) (4 : Int32) hE_50) mw_494 mw_496 mp_9 mw_8 mw_497 hd_X5_addBits ⟨rfl, rfl⟩ ⟨Nat.le_of_ble_eq_true rfl, Nat.le_of_ble_eq_true rfl⟩ hK hw0 hA [0, 1] [] [0, 1] rfl rfl rfl rfl rfl (by decide) rfl rfl rfl 0 rfl rfl rfl rfl hl0.1 rfl rfl (Nat.le_of_ble_eq_true rfl) dX5_packChange_134 ⟨Nat.zero_le _, Nat.zero_le _⟩ (fun H55 locs55 hw55 => ?_)
            clear hw0
            refine lv_aload_n hx hb dX5_packChange_137 rfl (lv_at hl0 0 rfl) ?_
            refine lv_lload_n hx hb dX5_packChange_138 rfl (lv_at hl0 1 rfl) ?_
            refine lv_ldc2 (v := (8589934592 : Int64)) hx hb hown (htc _ mw_508) dX5_packChange_139 ?_
            refine lv_ladd hx hb dX5_packChange_142 ?_
            refine lv_bipush (v := (34 : Int32)) hx hb dX5_packChange_143 (by decide) ?_
            replace hJ_5 := ob4_some hJ_5
            obtain ⟨K_used_57, K_bitsFree_58, K_full_59, K_cells_60, hE_56, hJ_5⟩ := hJ_5
            refine ctV (a := aK) (As := [.long (p0 + (8589934592 : Int64)), .int (34 : Int32)]) (rest := []) (st1 := []) (wc := [oX5 aK aKc K_used_51 K_bitsFree_52 K_full_53 K_time K_value K_rise, rI aKc cI 1661 K_cells_54]) (w1 := [oX5 aK aKc K_used_57 K_bitsFree_58 K_full_59 K_time K_value K_rise, rI aKc cI 1661 K_cells_60]) (wr := []) (wb := [oX5 aK aKc K_used_57 K_bitsFree_58 K_full_59 K_time K_value K_rise, rI aKc cI 1661 K_cells_60]) (v := none) hx hb hml hown htc hN (c_X5_addBits l G cI cZ cJ aK aKc K_used_51 K_bitsFree_52 K_full_53 K_time K_value K_rise K_cells_54 (p0 + (8589934592 : Int64)) (34 : Int32) hE_56) mw_494 mw_496 mp_9 mw_8 mw_497 hd_X5_addBits ⟨rfl, rfl⟩ ⟨Nat.le_of_ble_eq_true rfl, Nat.le_of_ble_eq_true rfl⟩ hK hw55 hA [0, 1] [] [0, 1] rfl rfl rfl rfl rfl (by decide) rfl rfl rfl 0 rfl rfl rfl rfl hl0.1 rfl rfl (Nat.le_of_ble_eq_true rfl) dX5_packChange_145 ⟨Nat.zero_le _, Nat.zero_le _⟩ (fun H61 locs61 hw61 => ?_)
            clear hw55 H55 locs55
            cases hJ_5
            exact kj_6 _ _ _ hw61 (lv_sub hl0 [] rfl)
          · replace hJ_5 := it_f c_49 hJ_5
            refine lv_lload_n hx hb dX5_packChange_99 rfl (lv_at hl0 1 rfl) ?_
            refine lv_ldc2 (v := (2048 : Int64)) hx hb hown (htc _ mw_505) dX5_packChange_100 ?_
            refine W.lcmp hx hb dX5_packChange_103 ?_
            refine lv_if_ge (tgt := 129) hx hb dX5_packChange_104 (by decide) (fun c_62 => ?_) (fun c_62 => ?_)
            · replace hJ_5 := it_t c_62 hJ_5
              refine lv_aload_n hx hb dX5_packChange_129 rfl (lv_at hl0 0 rfl) ?_
              refine lv_ldc2 (v := (15 : Int64)) hx hb hown (htc _ mw_507) dX5_packChange_130 ?_
              refine lv_iconst (v := (4 : Int32)) hx hb dX5_packChange_133 (by decide) ?_
              replace hJ_5 := ob4_some hJ_5
              obtain ⟨K_used_64, K_bitsFree_65, K_full_66, K_cells_67, hE_63, hJ_5⟩ := hJ_5
              refine ctV (a := aK) (As := [.long (15 : Int64), .int (4 : Int32)]) (rest := []) (st1 := []) (wc := [oX5 aK aKc K_used K_bitsFree K_full K_time K_value K_rise, rI aKc cI 1661 K_cells]) (w1 := [oX5 aK aKc K_used_64 K_bitsFree_65 K_full_66 K_time K_value K_rise, rI aKc cI 1661 K_cells_67]) (wr := []) (wb := [oX5 aK aKc K_used_64 K_bitsFree_65 K_full_66 K_time K_value K_rise, rI aKc cI 1661 K_cells_67]) (v := none) hx hb hml hown htc hN (c_X5_addBits l G cI cZ cJ aK aKc K_used K_bitsFree K_full K_time K_value K_rise K_cells (15 : Int64) (4 : Int32) hE_63) mw_494 mw_496 mp_9 mw_8 mw_497 hd_X5_addBits ⟨rfl, rfl⟩ ⟨Nat.le_of_ble_eq_true rfl, Nat.le_of_ble_eq_true rfl⟩ hK hw0 hA [0, 1] [] [0, 1] rfl rfl rfl rfl rfl (by decide) rfl rfl rfl 0 rfl rfl rfl rfl hl0.1 rfl rfl (Nat.le_of_ble_eq_true rfl) dX5_packChange_134 ⟨Nat.zero_le _, Nat.zero_le _⟩ (fun H68 locs68 hw68 => ?_)
              clear hw0
              refine lv_aload_n hx hb dX5_packChange_137 rfl (lv_at hl0 0 rfl) ?_
              refine lv_lload_n hx hb dX5_packChange_138 rfl (lv_at hl0 1 rfl) ?_
              refine lv_ldc2 (v := (8589934592 : Int64)) hx hb hown (htc _ mw_508) dX5_packChange_139 ?_
              refine lv_ladd hx hb dX5_packChange_142 ?_
              refine lv_bipush (v := (34 : Int32)) hx hb dX5_packChange_143 (by decide) ?_
              replace hJ_5 := ob4_some hJ_5
              obtain ⟨K_used_70, K_bitsFree_71, K_full_72, K_cells_73, hE_69, hJ_5⟩ := hJ_5
              refine ctV (a := aK) (As := [.long (p0 + (8589934592 : Int64)), .int (34 : Int32)]) (rest := []) (st1 := []) (wc := [oX5 aK aKc K_used_64 K_bitsFree_65 K_full_66 K_time K_value K_rise, rI aKc cI 1661 K_cells_67]) (w1 := [oX5 aK aKc K_used_70 K_bitsFree_71 K_full_72 K_time K_value K_rise, rI aKc cI 1661 K_cells_73]) (wr := []) (wb := [oX5 aK aKc K_used_70 K_bitsFree_71 K_full_72 K_time K_value K_rise, rI aKc cI 1661 K_cells_73]) (v := none) hx hb hml hown htc hN (c_X5_addBits l G cI cZ cJ aK aKc K_used_64 K_bitsFree_65 K_full_66 K_time K_value K_rise K_cells_67 (p0 + (8589934592 : Int64)) (34 : Int32) hE_69) mw_494 mw_496 mp_9 mw_8 mw_497 hd_X5_addBits ⟨rfl, rfl⟩ ⟨Nat.le_of_ble_eq_true rfl, Nat.le_of_ble_eq_true rfl⟩ hK hw68 hA [0, 1] [] [0, 1] rfl rfl rfl rfl rfl (by decide) rfl rfl rfl 0 rfl rfl rfl rfl hl0.1 rfl rfl (Nat.le_of_ble_eq_true rfl) dX5_packChange_145 ⟨Nat.zero_le _, Nat.zero_le _⟩ (fun H74 locs74 hw74 => ?_)
              clear hw68 H68 locs68
              cases hJ_5
              exact kj_6 _ _ _ hw74 (lv_sub hl0 [] rfl)
            · replace hJ_5 := it_f c_62 hJ_5
              refine lv_aload_n hx hb dX5_packChange_107 rfl (lv_at hl0 0 rfl) ?_
              refine lv_ldc2 (v := (14 : Int64)) hx hb hown (htc _ mw_506) dX5_packChange_108 ?_
              refine lv_iconst (v := (4 : Int32)) hx hb dX5_packChange_111 (by decide) ?_
              replace hJ_5 := ob4_some hJ_5
              obtain ⟨K_used_76, K_bitsFree_77, K_full_78, K_cells_79, hE_75, hJ_5⟩ := hJ_5
              refine ctV (a := aK) (As := [.long (14 : Int64), .int (4 : Int32)]) (rest := []) (st1 := []) (wc := [oX5 aK aKc K_used K_bitsFree K_full K_time K_value K_rise, rI aKc cI 1661 K_cells]) (w1 := [oX5 aK aKc K_used_76 K_bitsFree_77 K_full_78 K_time K_value K_rise, rI aKc cI 1661 K_cells_79]) (wr := []) (wb := [oX5 aK aKc K_used_76 K_bitsFree_77 K_full_78 K_time K_value K_rise, rI aKc cI 1661 K_cells_79]) (v := none) hx hb hml hown htc hN (c_X5_addBits l G cI cZ cJ aK aKc K_used K_bitsFree K_full K_time K_value K_rise K_cells (14 : Int64) (4 : Int32) hE_75) mw_494 mw_496 mp_9 mw_8 mw_497 hd_X5_addBits ⟨rfl, rfl⟩ ⟨Nat.le_of_ble_eq_true rfl, Nat.le_of_ble_eq_true rfl⟩ hK hw0 hA [0, 1] [] [0, 1] rfl rfl rfl rfl rfl (by decide) rfl rfl rfl 0 rfl rfl rfl rfl hl0.1 rfl rfl (Nat.le_of_ble_eq_true rfl) dX5_packChange_112 ⟨Nat.zero_le _, Nat.zero_le _⟩ (fun H80 locs80 hw80 => ?_)
              clear hw0
              refine lv_aload_n hx hb dX5_packChange_115 rfl (lv_at hl0 0 rfl) ?_
              refine lv_lload_n hx hb dX5_packChange_116 rfl (lv_at hl0 1 rfl) ?_
              refine lv_ldc2 (v := (2048 : Int64)) hx hb hown (htc _ mw_505) dX5_packChange_117 ?_
              refine lv_ladd hx hb dX5_packChange_120 ?_
              refine lv_bipush (v := (12 : Int32)) hx hb dX5_packChange_121 (by decide) ?_
              replace hJ_5 := ob4_some hJ_5
              obtain ⟨K_used_82, K_bitsFree_83, K_full_84, K_cells_85, hE_81, hJ_5⟩ := hJ_5
              refine ctV (a := aK) (As := [.long (p0 + (2048 : Int64)), .int (12 : Int32)]) (rest := []) (st1 := []) (wc := [oX5 aK aKc K_used_76 K_bitsFree_77 K_full_78 K_time K_value K_rise, rI aKc cI 1661 K_cells_79]) (w1 := [oX5 aK aKc K_used_82 K_bitsFree_83 K_full_84 K_time K_value K_rise, rI aKc cI 1661 K_cells_85]) (wr := []) (wb := [oX5 aK aKc K_used_82 K_bitsFree_83 K_full_84 K_time K_value K_rise, rI aKc cI 1661 K_cells_85]) (v := none) hx hb hml hown htc hN (c_X5_addBits l G cI cZ cJ aK aKc K_used_76 K_bitsFree_77 K_full_78 K_time K_value K_rise K_cells_79 (p0 + (2048 : Int64)) (12 : Int32) hE_81) mw_494 mw_496 mp_9 mw_8 mw_497 hd_X5_addBits ⟨rfl, rfl⟩ ⟨Nat.le_of_ble_eq_true rfl, Nat.le_of_ble_eq_true rfl⟩ hK hw80 hA [0, 1] [] [0, 1] rfl rfl rfl rfl rfl (by decide) rfl rfl rfl 0 rfl rfl rfl rfl hl0.1 rfl rfl (Nat.le_of_ble_eq_true rfl) dX5_packChange_123 ⟨Nat.zero_le _, Nat.zero_le _⟩ (fun H86 locs86 hw86 => ?_)
              clear hw80 H80 locs80
              refine lv_goto (tgt := 148) hx hb dX5_packChange_126 (by decide) ?_
              cases hJ_5
              exact kj_6 _ _ _ hw86 (lv_sub hl0 [] rfl)
        · replace hJ_5 := it_f c_48 hJ_5
          refine lv_aload_n hx hb dX5_packChange_69 rfl (lv_at hl0 0 rfl) ?_
          refine lv_ldc2 (v := (6 : Int64)) hx hb hown (htc _ mw_503) dX5_packChange_70 ?_
          refine lv_iconst (v := (3 : Int32)) hx hb dX5_packChange_73 (by decide) ?_
          replace hJ_5 := ob4_some hJ_5
          obtain ⟨K_used_88, K_bitsFree_89, K_full_90, K_cells_91, hE_87, hJ_5⟩ := hJ_5
          refine ctV (a := aK) (As := [.long (6 : Int64), .int (3 : Int32)]) (rest := []) (st1 := []) (wc := [oX5 aK aKc K_used K_bitsFree K_full K_time K_value K_rise, rI aKc cI 1661 K_cells]) (w1 := [oX5 aK aKc K_used_88 K_bitsFree_89 K_full_90 K_time K_value K_rise, rI aKc cI 1661 K_cells_91]) (wr := []) (wb := [oX5 aK aKc K_used_88 K_bitsFree_89 K_full_90 K_time K_value K_rise, rI aKc cI 1661 K_cells_91]) (v := none) hx hb hml hown htc hN (c_X5_addBits l G cI cZ cJ aK aKc K_used K_bitsFree K_full K_time K_value K_rise K_cells (6 : Int64) (3 : Int32) hE_87) mw_494 mw_496 mp_9 mw_8 mw_497 hd_X5_addBits ⟨rfl, rfl⟩ ⟨Nat.le_of_ble_eq_true rfl, Nat.le_of_ble_eq_true rfl⟩ hK hw0 hA [0, 1] [] [0, 1] rfl rfl rfl rfl rfl (by decide) rfl rfl rfl 0 rfl rfl rfl rfl hl0.1 rfl rfl (Nat.le_of_ble_eq_true rfl) dX5_packChange_74 ⟨Nat.zero_le _, Nat.zero_le _⟩ (fun H92 locs92 hw92 => ?_)
          clear hw0
          refine lv_aload_n hx hb dX5_packChange_77 rfl (lv_at hl0 0 rfl) ?_
          refine lv_lload_n hx hb dX5_packChange_78 rfl (lv_at hl0 1 rfl) ?_
          refine lv_ldc2 (v := (256 : Int64)) hx hb hown (htc _ mw_502) dX5_packChange_79 ?_
          refine lv_ladd hx hb dX5_packChange_82 ?_
          refine lv_bipush (v := (9 : Int32)) hx hb dX5_packChange_83 (by decide) ?_
          replace hJ_5 := ob4_some hJ_5
          obtain ⟨K_used_94, K_bitsFree_95, K_full_96, K_cells_97, hE_93, hJ_5⟩ := hJ_5
          refine ctV (a := aK) (As := [.long (p0 + (256 : Int64)), .int (9 : Int32)]) (rest := []) (st1 := []) (wc := [oX5 aK aKc K_used_88 K_bitsFree_89 K_full_90 K_time K_value K_rise, rI aKc cI 1661 K_cells_91]) (w1 := [oX5 aK aKc K_used_94 K_bitsFree_95 K_full_96 K_time K_value K_rise, rI aKc cI 1661 K_cells_97]) (wr := []) (wb := [oX5 aK aKc K_used_94 K_bitsFree_95 K_full_96 K_time K_value K_rise, rI aKc cI 1661 K_cells_97]) (v := none) hx hb hml hown htc hN (c_X5_addBits l G cI cZ cJ aK aKc K_used_88 K_bitsFree_89 K_full_90 K_time K_value K_rise K_cells_91 (p0 + (256 : Int64)) (9 : Int32) hE_93) mw_494 mw_496 mp_9 mw_8 mw_497 hd_X5_addBits ⟨rfl, rfl⟩ ⟨Nat.le_of_ble_eq_true rfl, Nat.le_of_ble_eq_true rfl⟩ hK hw92 hA [0, 1] [] [0, 1] rfl rfl rfl rfl rfl (by decide) rfl rfl rfl 0 rfl rfl rfl rfl hl0.1 rfl rfl (Nat.le_of_ble_eq_true rfl) dX5_packChange_85 ⟨Nat.zero_le _, Nat.zero_le _⟩ (fun H98 locs98 hw98 => ?_)
          clear hw92 H92 locs92
          refine lv_goto (tgt := 148) hx hb dX5_packChange_88 (by decide) ?_
          cases hJ_5
          exact kj_6 _ _ _ hw98 (lv_sub hl0 [] rfl)
    · replace hJ_5 := it_f c_8 hJ_5
      refine lv_lload_n hx hb dX5_packChange_23 rfl (lv_at hl0 1 rfl) ?_
      refine lv_ldc2 (v := (64 : Int64)) hx hb hown (htc _ mw_499) dX5_packChange_24 ?_
      refine W.lcmp hx hb dX5_packChange_27 ?_
      refine lv_if_ge (tgt := 53) hx hb dX5_packChange_28 (by decide) (fun c_99 => ?_) (fun c_99 => ?_)
      · replace hJ_5 := it_t c_99 hJ_5
        refine lv_lload_n hx hb dX5_packChange_53 rfl (lv_at hl0 1 rfl) ?_
        refine lv_ldc2 (v := (-256 : Int64)) hx hb hown (htc _ mw_501) dX5_packChange_54 ?_
        refine W.lcmp hx hb dX5_packChange_57 ?_
        refine lv_if_lt (tgt := 91) hx hb dX5_packChange_58 (by decide) (fun c_100 => ?_) (fun c_100 => ?_)
        · replace hJ_5 := it_t c_100 hJ_5
          refine lv_lload_n hx hb dX5_packChange_91 rfl (lv_at hl0 1 rfl) ?_
          refine lv_ldc2 (v := (-2048 : Int64)) hx hb hown (htc _ mw_504) dX5_packChange_92 ?_
          refine W.lcmp hx hb dX5_packChange_95 ?_
          refine lv_if_lt (tgt := 129) hx hb dX5_packChange_96 (by decide) (fun c_101 => ?_) (fun c_101 => ?_)
          · replace hJ_5 := it_t c_101 hJ_5
            refine lv_aload_n hx hb dX5_packChange_129 rfl (lv_at hl0 0 rfl) ?_
            refine lv_ldc2 (v := (15 : Int64)) hx hb hown (htc _ mw_507) dX5_packChange_130 ?_
            refine lv_iconst (v := (4 : Int32)) hx hb dX5_packChange_133 (by decide) ?_
            replace hJ_5 := ob4_some hJ_5
            obtain ⟨K_used_103, K_bitsFree_104, K_full_105, K_cells_106, hE_102, hJ_5⟩ := hJ_5
            refine ctV (a := aK) (As := [.long (15 : Int64), .int (4 : Int32)]) (rest := []) (st1 := []) (wc := [oX5 aK aKc K_used K_bitsFree K_full K_time K_value K_rise, rI aKc cI 1661 K_cells]) (w1 := [oX5 aK aKc K_used_103 K_bitsFree_104 K_full_105 K_time K_value K_rise, rI aKc cI 1661 K_cells_106]) (wr := []) (wb := [oX5 aK aKc K_used_103 K_bitsFree_104 K_full_105 K_time K_value K_rise, rI aKc cI 1661 K_cells_106]) (v := none) hx hb hml hown htc hN (c_X5_addBits l G cI cZ cJ aK aKc K_used K_bitsFree K_full K_time K_value K_rise K_cells (15 : Int64) (4 : Int32) hE_102) mw_494 mw_496 mp_9 mw_8 mw_497 hd_X5_addBits ⟨rfl, rfl⟩ ⟨Nat.le_of_ble_eq_true rfl, Nat.le_of_ble_eq_true rfl⟩ hK hw0 hA [0, 1] [] [0, 1] rfl rfl rfl rfl rfl (by decide) rfl rfl rfl 0 rfl rfl rfl rfl hl0.1 rfl rfl (Nat.le_of_ble_eq_true rfl) dX5_packChange_134 ⟨Nat.zero_le _, Nat.zero_le _⟩ (fun H107 locs107 hw107 => ?_)
            clear hw0
            refine lv_aload_n hx hb dX5_packChange_137 rfl (lv_at hl0 0 rfl) ?_
            refine lv_lload_n hx hb dX5_packChange_138 rfl (lv_at hl0 1 rfl) ?_
            refine lv_ldc2 (v := (8589934592 : Int64)) hx hb hown (htc _ mw_508) dX5_packChange_139 ?_
            refine lv_ladd hx hb dX5_packChange_142 ?_
            refine lv_bipush (v := (34 : Int32)) hx hb dX5_packChange_143 (by decide) ?_
            replace hJ_5 := ob4_some hJ_5
            obtain ⟨K_used_109, K_bitsFree_110, K_full_111, K_cells_112, hE_108, hJ_5⟩ := hJ_5
            refine ctV (a := aK) (As := [.long (p0 + (8589934592 : Int64)), .int (34 : Int32)]) (rest := []) (st1 := []) (wc := [oX5 aK aKc K_used_103 K_bitsFree_104 K_full_105 K_time K_value K_rise, rI aKc cI 1661 K_cells_106]) (w1 := [oX5 aK aKc K_used_109 K_bitsFree_110 K_full_111 K_time K_value K_rise, rI aKc cI 1661 K_cells_112]) (wr := []) (wb := [oX5 aK aKc K_used_109 K_bitsFree_110 K_full_111 K_time K_value K_rise, rI aKc cI 1661 K_cells_112]) (v := none) hx hb hml hown htc hN (c_X5_addBits l G cI cZ cJ aK aKc K_used_103 K_bitsFree_104 K_full_105 K_time K_value K_rise K_cells_106 (p0 + (8589934592 : Int64)) (34 : Int32) hE_108) mw_494 mw_496 mp_9 mw_8 mw_497 hd_X5_addBits ⟨rfl, rfl⟩ ⟨Nat.le_of_ble_eq_true rfl, Nat.le_of_ble_eq_true rfl⟩ hK hw107 hA [0, 1] [] [0, 1] rfl rfl rfl rfl rfl (by decide) rfl rfl rfl 0 rfl rfl rfl rfl hl0.1 rfl rfl (Nat.le_of_ble_eq_true rfl) dX5_packChange_145 ⟨Nat.zero_le _, Nat.zero_le _⟩ (fun H113 locs113 hw113 => ?_)
            clear hw107 H107 locs107
            cases hJ_5
            exact kj_6 _ _ _ hw113 (lv_sub hl0 [] rfl)
          · replace hJ_5 := it_f c_101 hJ_5
            refine lv_lload_n hx hb dX5_packChange_99 rfl (lv_at hl0 1 rfl) ?_
            refine lv_ldc2 (v := (2048 : Int64)) hx hb hown (htc _ mw_505) dX5_packChange_100 ?_
            refine W.lcmp hx hb dX5_packChange_103 ?_
            refine lv_if_ge (tgt := 129) hx hb dX5_packChange_104 (by decide) (fun c_114 => ?_) (fun c_114 => ?_)
            · replace hJ_5 := it_t c_114 hJ_5
              refine lv_aload_n hx hb dX5_packChange_129 rfl (lv_at hl0 0 rfl) ?_
              refine lv_ldc2 (v := (15 : Int64)) hx hb hown (htc _ mw_507) dX5_packChange_130 ?_
              refine lv_iconst (v := (4 : Int32)) hx hb dX5_packChange_133 (by decide) ?_
              replace hJ_5 := ob4_some hJ_5
              obtain ⟨K_used_116, K_bitsFree_117, K_full_118, K_cells_119, hE_115, hJ_5⟩ := hJ_5
              refine ctV (a := aK) (As := [.long (15 : Int64), .int (4 : Int32)]) (rest := []) (st1 := []) (wc := [oX5 aK aKc K_used K_bitsFree K_full K_time K_value K_rise, rI aKc cI 1661 K_cells]) (w1 := [oX5 aK aKc K_used_116 K_bitsFree_117 K_full_118 K_time K_value K_rise, rI aKc cI 1661 K_cells_119]) (wr := []) (wb := [oX5 aK aKc K_used_116 K_bitsFree_117 K_full_118 K_time K_value K_rise, rI aKc cI 1661 K_cells_119]) (v := none) hx hb hml hown htc hN (c_X5_addBits l G cI cZ cJ aK aKc K_used K_bitsFree K_full K_time K_value K_rise K_cells (15 : Int64) (4 : Int32) hE_115) mw_494 mw_496 mp_9 mw_8 mw_497 hd_X5_addBits ⟨rfl, rfl⟩ ⟨Nat.le_of_ble_eq_true rfl, Nat.le_of_ble_eq_true rfl⟩ hK hw0 hA [0, 1] [] [0, 1] rfl rfl rfl rfl rfl (by decide) rfl rfl rfl 0 rfl rfl rfl rfl hl0.1 rfl rfl (Nat.le_of_ble_eq_true rfl) dX5_packChange_134 ⟨Nat.zero_le _, Nat.zero_le _⟩ (fun H120 locs120 hw120 => ?_)
              clear hw0
              refine lv_aload_n hx hb dX5_packChange_137 rfl (lv_at hl0 0 rfl) ?_
              refine lv_lload_n hx hb dX5_packChange_138 rfl (lv_at hl0 1 rfl) ?_
              refine lv_ldc2 (v := (8589934592 : Int64)) hx hb hown (htc _ mw_508) dX5_packChange_139 ?_
              refine lv_ladd hx hb dX5_packChange_142 ?_
              refine lv_bipush (v := (34 : Int32)) hx hb dX5_packChange_143 (by decide) ?_
              replace hJ_5 := ob4_some hJ_5
              obtain ⟨K_used_122, K_bitsFree_123, K_full_124, K_cells_125, hE_121, hJ_5⟩ := hJ_5
              refine ctV (a := aK) (As := [.long (p0 + (8589934592 : Int64)), .int (34 : Int32)]) (rest := []) (st1 := []) (wc := [oX5 aK aKc K_used_116 K_bitsFree_117 K_full_118 K_time K_value K_rise, rI aKc cI 1661 K_cells_119]) (w1 := [oX5 aK aKc K_used_122 K_bitsFree_123 K_full_124 K_time K_value K_rise, rI aKc cI 1661 K_cells_125]) (wr := []) (wb := [oX5 aK aKc K_used_122 K_bitsFree_123 K_full_124 K_time K_value K_rise, rI aKc cI 1661 K_cells_125]) (v := none) hx hb hml hown htc hN (c_X5_addBits l G cI cZ cJ aK aKc K_used_116 K_bitsFree_117 K_full_118 K_time K_value K_rise K_cells_119 (p0 + (8589934592 : Int64)) (34 : Int32) hE_121) mw_494 mw_496 mp_9 mw_8 mw_497 hd_X5_addBits ⟨rfl, rfl⟩ ⟨Nat.le_of_ble_eq_true rfl, Nat.le_of_ble_eq_true rfl⟩ hK hw120 hA [0, 1] [] [0, 1] rfl rfl rfl rfl rfl (by decide) rfl rfl rfl 0 rfl rfl rfl rfl hl0.1 rfl rfl (Nat.le_of_ble_eq_true rfl) dX5_packChange_145 ⟨Nat.zero_le _, Nat.zero_le _⟩ (fun H126 locs126 hw126 => ?_)
              clear hw120 H120 locs120
              cases hJ_5
              exact kj_6 _ _ _ hw126 (lv_sub hl0 [] rfl)
            · replace hJ_5 := it_f c_114 hJ_5
              refine lv_aload_n hx hb dX5_packChange_107 rfl (lv_at hl0 0 rfl) ?_
              refine lv_ldc2 (v := (14 : Int64)) hx hb hown (htc _ mw_506) dX5_packChange_108 ?_
              refine lv_iconst (v := (4 : Int32)) hx hb dX5_packChange_111 (by decide) ?_
              replace hJ_5 := ob4_some hJ_5
              obtain ⟨K_used_128, K_bitsFree_129, K_full_130, K_cells_131, hE_127, hJ_5⟩ := hJ_5
              refine ctV (a := aK) (As := [.long (14 : Int64), .int (4 : Int32)]) (rest := []) (st1 := []) (wc := [oX5 aK aKc K_used K_bitsFree K_full K_time K_value K_rise, rI aKc cI 1661 K_cells]) (w1 := [oX5 aK aKc K_used_128 K_bitsFree_129 K_full_130 K_time K_value K_rise, rI aKc cI 1661 K_cells_131]) (wr := []) (wb := [oX5 aK aKc K_used_128 K_bitsFree_129 K_full_130 K_time K_value K_rise, rI aKc cI 1661 K_cells_131]) (v := none) hx hb hml hown htc hN (c_X5_addBits l G cI cZ cJ aK aKc K_used K_bitsFree K_full K_time K_value K_rise K_cells (14 : Int64) (4 : Int32) hE_127) mw_494 mw_496 mp_9 mw_8 mw_497 hd_X5_addBits ⟨rfl, rfl⟩ ⟨Nat.le_of_ble_eq_true rfl, Nat.le_of_ble_eq_true rfl⟩ hK hw0 hA [0, 1] [] [0, 1] rfl rfl rfl rfl rfl (by decide) rfl rfl rfl 0 rfl rfl rfl rfl hl0.1 rfl rfl (Nat.le_of_ble_eq_true rfl) dX5_packChange_112 ⟨Nat.zero_le _, Nat.zero_le _⟩ (fun H132 locs132 hw132 => ?_)
              clear hw0
              refine lv_aload_n hx hb dX5_packChange_115 rfl (lv_at hl0 0 rfl) ?_
              refine lv_lload_n hx hb dX5_packChange_116 rfl (lv_at hl0 1 rfl) ?_
              refine lv_ldc2 (v := (2048 : Int64)) hx hb hown (htc _ mw_505) dX5_packChange_117 ?_
              refine lv_ladd hx hb dX5_packChange_120 ?_
              refine lv_bipush (v := (12 : Int32)) hx hb dX5_packChange_121 (by decide) ?_
              replace hJ_5 := ob4_some hJ_5
              obtain ⟨K_used_134, K_bitsFree_135, K_full_136, K_cells_137, hE_133, hJ_5⟩ := hJ_5
              refine ctV (a := aK) (As := [.long (p0 + (2048 : Int64)), .int (12 : Int32)]) (rest := []) (st1 := []) (wc := [oX5 aK aKc K_used_128 K_bitsFree_129 K_full_130 K_time K_value K_rise, rI aKc cI 1661 K_cells_131]) (w1 := [oX5 aK aKc K_used_134 K_bitsFree_135 K_full_136 K_time K_value K_rise, rI aKc cI 1661 K_cells_137]) (wr := []) (wb := [oX5 aK aKc K_used_134 K_bitsFree_135 K_full_136 K_time K_value K_rise, rI aKc cI 1661 K_cells_137]) (v := none) hx hb hml hown htc hN (c_X5_addBits l G cI cZ cJ aK aKc K_used_128 K_bitsFree_129 K_full_130 K_time K_value K_rise K_cells_131 (p0 + (2048 : Int64)) (12 : Int32) hE_133) mw_494 mw_496 mp_9 mw_8 mw_497 hd_X5_addBits ⟨rfl, rfl⟩ ⟨Nat.le_of_ble_eq_true rfl, Nat.le_of_ble_eq_true rfl⟩ hK hw132 hA [0, 1] [] [0, 1] rfl rfl rfl rfl rfl (by decide) rfl rfl rfl 0 rfl rfl rfl rfl hl0.1 rfl rfl (Nat.le_of_ble_eq_true rfl) dX5_packChange_123 ⟨Nat.zero_le _, Nat.zero_le _⟩ (fun H138 locs138 hw138 => ?_)
              clear hw132 H132 locs132
              refine lv_goto (tgt := 148) hx hb dX5_packChange_126 (by decide) ?_
              cases hJ_5
              exact kj_6 _ _ _ hw138 (lv_sub hl0 [] rfl)
        · replace hJ_5 := it_f c_100 hJ_5
          refine lv_lload_n hx hb dX5_packChange_61 rfl (lv_at hl0 1 rfl) ?_
          refine lv_ldc2 (v := (256 : Int64)) hx hb hown (htc _ mw_502) dX5_packChange_62 ?_
          refine W.lcmp hx hb dX5_packChange_65 ?_
          refine lv_if_ge (tgt := 91) hx hb dX5_packChange_66 (by decide) (fun c_139 => ?_) (fun c_139 => ?_)
          · replace hJ_5 := it_t c_139 hJ_5
            refine lv_lload_n hx hb dX5_packChange_91 rfl (lv_at hl0 1 rfl) ?_
            refine lv_ldc2 (v := (-2048 : Int64)) hx hb hown (htc _ mw_504) dX5_packChange_92 ?_
            refine W.lcmp hx hb dX5_packChange_95 ?_
            refine lv_if_lt (tgt := 129) hx hb dX5_packChange_96 (by decide) (fun c_140 => ?_) (fun c_140 => ?_)
            · replace hJ_5 := it_t c_140 hJ_5
              refine lv_aload_n hx hb dX5_packChange_129 rfl (lv_at hl0 0 rfl) ?_
              refine lv_ldc2 (v := (15 : Int64)) hx hb hown (htc _ mw_507) dX5_packChange_130 ?_
              refine lv_iconst (v := (4 : Int32)) hx hb dX5_packChange_133 (by decide) ?_
              replace hJ_5 := ob4_some hJ_5
              obtain ⟨K_used_142, K_bitsFree_143, K_full_144, K_cells_145, hE_141, hJ_5⟩ := hJ_5
              refine ctV (a := aK) (As := [.long (15 : Int64), .int (4 : Int32)]) (rest := []) (st1 := []) (wc := [oX5 aK aKc K_used K_bitsFree K_full K_time K_value K_rise, rI aKc cI 1661 K_cells]) (w1 := [oX5 aK aKc K_used_142 K_bitsFree_143 K_full_144 K_time K_value K_rise, rI aKc cI 1661 K_cells_145]) (wr := []) (wb := [oX5 aK aKc K_used_142 K_bitsFree_143 K_full_144 K_time K_value K_rise, rI aKc cI 1661 K_cells_145]) (v := none) hx hb hml hown htc hN (c_X5_addBits l G cI cZ cJ aK aKc K_used K_bitsFree K_full K_time K_value K_rise K_cells (15 : Int64) (4 : Int32) hE_141) mw_494 mw_496 mp_9 mw_8 mw_497 hd_X5_addBits ⟨rfl, rfl⟩ ⟨Nat.le_of_ble_eq_true rfl, Nat.le_of_ble_eq_true rfl⟩ hK hw0 hA [0, 1] [] [0, 1] rfl rfl rfl rfl rfl (by decide) rfl rfl rfl 0 rfl rfl rfl rfl hl0.1 rfl rfl (Nat.le_of_ble_eq_true rfl) dX5_packChange_134 ⟨Nat.zero_le _, Nat.zero_le _⟩ (fun H146 locs146 hw146 => ?_)
              clear hw0
              refine lv_aload_n hx hb dX5_packChange_137 rfl (lv_at hl0 0 rfl) ?_
              refine lv_lload_n hx hb dX5_packChange_138 rfl (lv_at hl0 1 rfl) ?_
              refine lv_ldc2 (v := (8589934592 : Int64)) hx hb hown (htc _ mw_508) dX5_packChange_139 ?_
              refine lv_ladd hx hb dX5_packChange_142 ?_
              refine lv_bipush (v := (34 : Int32)) hx hb dX5_packChange_143 (by decide) ?_
              replace hJ_5 := ob4_some hJ_5
              obtain ⟨K_used_148, K_bitsFree_149, K_full_150, K_cells_151, hE_147, hJ_5⟩ := hJ_5
              refine ctV (a := aK) (As := [.long (p0 + (8589934592 : Int64)), .int (34 : Int32)]) (rest := []) (st1 := []) (wc := [oX5 aK aKc K_used_142 K_bitsFree_143 K_full_144 K_time K_value K_rise, rI aKc cI 1661 K_cells_145]) (w1 := [oX5 aK aKc K_used_148 K_bitsFree_149 K_full_150 K_time K_value K_rise, rI aKc cI 1661 K_cells_151]) (wr := []) (wb := [oX5 aK aKc K_used_148 K_bitsFree_149 K_full_150 K_time K_value K_rise, rI aKc cI 1661 K_cells_151]) (v := none) hx hb hml hown htc hN (c_X5_addBits l G cI cZ cJ aK aKc K_used_142 K_bitsFree_143 K_full_144 K_time K_value K_rise K_cells_145 (p0 + (8589934592 : Int64)) (34 : Int32) hE_147) mw_494 mw_496 mp_9 mw_8 mw_497 hd_X5_addBits ⟨rfl, rfl⟩ ⟨Nat.le_of_ble_eq_true rfl, Nat.le_of_ble_eq_true rfl⟩ hK hw146 hA [0, 1] [] [0, 1] rfl rfl rfl rfl rfl (by decide) rfl rfl rfl 0 rfl rfl rfl rfl hl0.1 rfl rfl (Nat.le_of_ble_eq_true rfl) dX5_packChange_145 ⟨Nat.zero_le _, Nat.zero_le _⟩ (fun H152 locs152 hw152 => ?_)
              clear hw146 H146 locs146
              cases hJ_5
              exact kj_6 _ _ _ hw152 (lv_sub hl0 [] rfl)
            · replace hJ_5 := it_f c_140 hJ_5
              refine lv_lload_n hx hb dX5_packChange_99 rfl (lv_at hl0 1 rfl) ?_
              refine lv_ldc2 (v := (2048 : Int64)) hx hb hown (htc _ mw_505) dX5_packChange_100 ?_
              refine W.lcmp hx hb dX5_packChange_103 ?_
              refine lv_if_ge (tgt := 129) hx hb dX5_packChange_104 (by decide) (fun c_153 => ?_) (fun c_153 => ?_)
              · replace hJ_5 := it_t c_153 hJ_5
                refine lv_aload_n hx hb dX5_packChange_129 rfl (lv_at hl0 0 rfl) ?_
                refine lv_ldc2 (v := (15 : Int64)) hx hb hown (htc _ mw_507) dX5_packChange_130 ?_
                refine lv_iconst (v := (4 : Int32)) hx hb dX5_packChange_133 (by decide) ?_
                replace hJ_5 := ob4_some hJ_5
                obtain ⟨K_used_155, K_bitsFree_156, K_full_157, K_cells_158, hE_154, hJ_5⟩ := hJ_5
                refine ctV (a := aK) (As := [.long (15 : Int64), .int (4 : Int32)]) (rest := []) (st1 := []) (wc := [oX5 aK aKc K_used K_bitsFree K_full K_time K_value K_rise, rI aKc cI 1661 K_cells]) (w1 := [oX5 aK aKc K_used_155 K_bitsFree_156 K_full_157 K_time K_value K_rise, rI aKc cI 1661 K_cells_158]) (wr := []) (wb := [oX5 aK aKc K_used_155 K_bitsFree_156 K_full_157 K_time K_value K_rise, rI aKc cI 1661 K_cells_158]) (v := none) hx hb hml hown htc hN (c_X5_addBits l G cI cZ cJ aK aKc K_used K_bitsFree K_full K_time K_value K_rise K_cells (15 : Int64) (4 : Int32) hE_154) mw_494 mw_496 mp_9 mw_8 mw_497 hd_X5_addBits ⟨rfl, rfl⟩ ⟨Nat.le_of_ble_eq_true rfl, Nat.le_of_ble_eq_true rfl⟩ hK hw0 hA [0, 1] [] [0, 1] rfl rfl rfl rfl rfl (by decide) rfl rfl rfl 0 rfl rfl rfl rfl hl0.1 rfl rfl (Nat.le_of_ble_eq_true rfl) dX5_packChange_134 ⟨Nat.zero_le _, Nat.zero_le _⟩ (fun H159 locs159 hw159 => ?_)
                clear hw0
                refine lv_aload_n hx hb dX5_packChange_137 rfl (lv_at hl0 0 rfl) ?_
                refine lv_lload_n hx hb dX5_packChange_138 rfl (lv_at hl0 1 rfl) ?_
                refine lv_ldc2 (v := (8589934592 : Int64)) hx hb hown (htc _ mw_508) dX5_packChange_139 ?_
                refine lv_ladd hx hb dX5_packChange_142 ?_
                refine lv_bipush (v := (34 : Int32)) hx hb dX5_packChange_143 (by decide) ?_
                replace hJ_5 := ob4_some hJ_5
                obtain ⟨K_used_161, K_bitsFree_162, K_full_163, K_cells_164, hE_160, hJ_5⟩ := hJ_5
                refine ctV (a := aK) (As := [.long (p0 + (8589934592 : Int64)), .int (34 : Int32)]) (rest := []) (st1 := []) (wc := [oX5 aK aKc K_used_155 K_bitsFree_156 K_full_157 K_time K_value K_rise, rI aKc cI 1661 K_cells_158]) (w1 := [oX5 aK aKc K_used_161 K_bitsFree_162 K_full_163 K_time K_value K_rise, rI aKc cI 1661 K_cells_164]) (wr := []) (wb := [oX5 aK aKc K_used_161 K_bitsFree_162 K_full_163 K_time K_value K_rise, rI aKc cI 1661 K_cells_164]) (v := none) hx hb hml hown htc hN (c_X5_addBits l G cI cZ cJ aK aKc K_used_155 K_bitsFree_156 K_full_157 K_time K_value K_rise K_cells_158 (p0 + (8589934592 : Int64)) (34 : Int32) hE_160) mw_494 mw_496 mp_9 mw_8 mw_497 hd_X5_addBits ⟨rfl, rfl⟩ ⟨Nat.le_of_ble_eq_true rfl, Nat.le_of_ble_eq_true rfl⟩ hK hw159 hA [0, 1] [] [0, 1] rfl rfl rfl rfl rfl (by decide) rfl rfl rfl 0 rfl rfl rfl rfl hl0.1 rfl rfl (Nat.le_of_ble_eq_true rfl) dX5_packChange_145 ⟨Nat.zero_le _, Nat.zero_le _⟩ (fun H165 locs165 hw165 => ?_)
                clear hw159 H159 locs159
                cases hJ_5
                exact kj_6 _ _ _ hw165 (lv_sub hl0 [] rfl)
              · replace hJ_5 := it_f c_153 hJ_5
                refine lv_aload_n hx hb dX5_packChange_107 rfl (lv_at hl0 0 rfl) ?_
                refine lv_ldc2 (v := (14 : Int64)) hx hb hown (htc _ mw_506) dX5_packChange_108 ?_
                refine lv_iconst (v := (4 : Int32)) hx hb dX5_packChange_111 (by decide) ?_
                replace hJ_5 := ob4_some hJ_5
                obtain ⟨K_used_167, K_bitsFree_168, K_full_169, K_cells_170, hE_166, hJ_5⟩ := hJ_5
                refine ctV (a := aK) (As := [.long (14 : Int64), .int (4 : Int32)]) (rest := []) (st1 := []) (wc := [oX5 aK aKc K_used K_bitsFree K_full K_time K_value K_rise, rI aKc cI 1661 K_cells]) (w1 := [oX5 aK aKc K_used_167 K_bitsFree_168 K_full_169 K_time K_value K_rise, rI aKc cI 1661 K_cells_170]) (wr := []) (wb := [oX5 aK aKc K_used_167 K_bitsFree_168 K_full_169 K_time K_value K_rise, rI aKc cI 1661 K_cells_170]) (v := none) hx hb hml hown htc hN (c_X5_addBits l G cI cZ cJ aK aKc K_used K_bitsFree K_full K_time K_value K_rise K_cells (14 : Int64) (4 : Int32) hE_166) mw_494 mw_496 mp_9 mw_8 mw_497 hd_X5_addBits ⟨rfl, rfl⟩ ⟨Nat.le_of_ble_eq_true rfl, Nat.le_of_ble_eq_true rfl⟩ hK hw0 hA [0, 1] [] [0, 1] rfl rfl rfl rfl rfl (by decide) rfl rfl rfl 0 rfl rfl rfl rfl hl0.1 rfl rfl (Nat.le_of_ble_eq_true rfl) dX5_packChange_112 ⟨Nat.zero_le _, Nat.zero_le _⟩ (fun H171 locs171 hw171 => ?_)
                clear hw0
                refine lv_aload_n hx hb dX5_packChange_115 rfl (lv_at hl0 0 rfl) ?_
                refine lv_lload_n hx hb dX5_packChange_116 rfl (lv_at hl0 1 rfl) ?_
                refine lv_ldc2 (v := (2048 : Int64)) hx hb hown (htc _ mw_505) dX5_packChange_117 ?_
                refine lv_ladd hx hb dX5_packChange_120 ?_
                refine lv_bipush (v := (12 : Int32)) hx hb dX5_packChange_121 (by decide) ?_
                replace hJ_5 := ob4_some hJ_5
                obtain ⟨K_used_173, K_bitsFree_174, K_full_175, K_cells_176, hE_172, hJ_5⟩ := hJ_5
                refine ctV (a := aK) (As := [.long (p0 + (2048 : Int64)), .int (12 : Int32)]) (rest := []) (st1 := []) (wc := [oX5 aK aKc K_used_167 K_bitsFree_168 K_full_169 K_time K_value K_rise, rI aKc cI 1661 K_cells_170]) (w1 := [oX5 aK aKc K_used_173 K_bitsFree_174 K_full_175 K_time K_value K_rise, rI aKc cI 1661 K_cells_176]) (wr := []) (wb := [oX5 aK aKc K_used_173 K_bitsFree_174 K_full_175 K_time K_value K_rise, rI aKc cI 1661 K_cells_176]) (v := none) hx hb hml hown htc hN (c_X5_addBits l G cI cZ cJ aK aKc K_used_167 K_bitsFree_168 K_full_169 K_time K_value K_rise K_cells_170 (p0 + (2048 : Int64)) (12 : Int32) hE_172) mw_494 mw_496 mp_9 mw_8 mw_497 hd_X5_addBits ⟨rfl, rfl⟩ ⟨Nat.le_of_ble_eq_true rfl, Nat.le_of_ble_eq_true rfl⟩ hK hw171 hA [0, 1] [] [0, 1] rfl rfl rfl rfl rfl (by decide) rfl rfl rfl 0 rfl rfl rfl rfl hl0.1 rfl rfl (Nat.le_of_ble_eq_true rfl) dX5_packChange_123 ⟨Nat.zero_le _, Nat.zero_le _⟩ (fun H177 locs177 hw177 => ?_)
                clear hw171 H171 locs171
                refine lv_goto (tgt := 148) hx hb dX5_packChange_126 (by decide) ?_
                cases hJ_5
                exact kj_6 _ _ _ hw177 (lv_sub hl0 [] rfl)
          · replace hJ_5 := it_f c_139 hJ_5
            refine lv_aload_n hx hb dX5_packChange_69 rfl (lv_at hl0 0 rfl) ?_
            refine lv_ldc2 (v := (6 : Int64)) hx hb hown (htc _ mw_503) dX5_packChange_70 ?_
            refine lv_iconst (v := (3 : Int32)) hx hb dX5_packChange_73 (by decide) ?_
            replace hJ_5 := ob4_some hJ_5
            obtain ⟨K_used_179, K_bitsFree_180, K_full_181, K_cells_182, hE_178, hJ_5⟩ := hJ_5
            refine ctV (a := aK) (As := [.long (6 : Int64), .int (3 : Int32)]) (rest := []) (st1 := []) (wc := [oX5 aK aKc K_used K_bitsFree K_full K_time K_value K_rise, rI aKc cI 1661 K_cells]) (w1 := [oX5 aK aKc K_used_179 K_bitsFree_180 K_full_181 K_time K_value K_rise, rI aKc cI 1661 K_cells_182]) (wr := []) (wb := [oX5 aK aKc K_used_179 K_bitsFree_180 K_full_181 K_time K_value K_rise, rI aKc cI 1661 K_cells_182]) (v := none) hx hb hml hown htc hN (c_X5_addBits l G cI cZ cJ aK aKc K_used K_bitsFree K_full K_time K_value K_rise K_cells (6 : Int64) (3 : Int32) hE_178) mw_494 mw_496 mp_9 mw_8 mw_497 hd_X5_addBits ⟨rfl, rfl⟩ ⟨Nat.le_of_ble_eq_true rfl, Nat.le_of_ble_eq_true rfl⟩ hK hw0 hA [0, 1] [] [0, 1] rfl rfl rfl rfl rfl (by decide) rfl rfl rfl 0 rfl rfl rfl rfl hl0.1 rfl rfl (Nat.le_of_ble_eq_true rfl) dX5_packChange_74 ⟨Nat.zero_le _, Nat.zero_le _⟩ (fun H183 locs183 hw183 => ?_)
            clear hw0
            refine lv_aload_n hx hb dX5_packChange_77 rfl (lv_at hl0 0 rfl) ?_
            refine lv_lload_n hx hb dX5_packChange_78 rfl (lv_at hl0 1 rfl) ?_
            refine lv_ldc2 (v := (256 : Int64)) hx hb hown (htc _ mw_502) dX5_packChange_79 ?_
            refine lv_ladd hx hb dX5_packChange_82 ?_
            refine lv_bipush (v := (9 : Int32)) hx hb dX5_packChange_83 (by decide) ?_
            replace hJ_5 := ob4_some hJ_5
            obtain ⟨K_used_185, K_bitsFree_186, K_full_187, K_cells_188, hE_184, hJ_5⟩ := hJ_5
            refine ctV (a := aK) (As := [.long (p0 + (256 : Int64)), .int (9 : Int32)]) (rest := []) (st1 := []) (wc := [oX5 aK aKc K_used_179 K_bitsFree_180 K_full_181 K_time K_value K_rise, rI aKc cI 1661 K_cells_182]) (w1 := [oX5 aK aKc K_used_185 K_bitsFree_186 K_full_187 K_time K_value K_rise, rI aKc cI 1661 K_cells_188]) (wr := []) (wb := [oX5 aK aKc K_used_185 K_bitsFree_186 K_full_187 K_time K_value K_rise, rI aKc cI 1661 K_cells_188]) (v := none) hx hb hml hown htc hN (c_X5_addBits l G cI cZ cJ aK aKc K_used_179 K_bitsFree_180 K_full_181 K_time K_value K_rise K_cells_182 (p0 + (256 : Int64)) (9 : Int32) hE_184) mw_494 mw_496 mp_9 mw_8 mw_497 hd_X5_addBits ⟨rfl, rfl⟩ ⟨Nat.le_of_ble_eq_true rfl, Nat.le_of_ble_eq_true rfl⟩ hK hw183 hA [0, 1] [] [0, 1] rfl rfl rfl rfl rfl (by decide) rfl rfl rfl 0 rfl rfl rfl rfl hl0.1 rfl rfl (Nat.le_of_ble_eq_true rfl) dX5_packChange_85 ⟨Nat.zero_le _, Nat.zero_le _⟩ (fun H189 locs189 hw189 => ?_)
            clear hw183 H183 locs183
            refine lv_goto (tgt := 148) hx hb dX5_packChange_88 (by decide) ?_
            cases hJ_5
            exact kj_6 _ _ _ hw189 (lv_sub hl0 [] rfl)
      · replace hJ_5 := it_f c_99 hJ_5
        refine lv_aload_n hx hb dX5_packChange_31 rfl (lv_at hl0 0 rfl) ?_
        refine lv_ldc2 (v := (2 : Int64)) hx hb hown (htc _ mw_500) dX5_packChange_32 ?_
        refine lv_iconst (v := (2 : Int32)) hx hb dX5_packChange_35 (by decide) ?_
        replace hJ_5 := ob4_some hJ_5
        obtain ⟨K_used_191, K_bitsFree_192, K_full_193, K_cells_194, hE_190, hJ_5⟩ := hJ_5
        refine ctV (a := aK) (As := [.long (2 : Int64), .int (2 : Int32)]) (rest := []) (st1 := []) (wc := [oX5 aK aKc K_used K_bitsFree K_full K_time K_value K_rise, rI aKc cI 1661 K_cells]) (w1 := [oX5 aK aKc K_used_191 K_bitsFree_192 K_full_193 K_time K_value K_rise, rI aKc cI 1661 K_cells_194]) (wr := []) (wb := [oX5 aK aKc K_used_191 K_bitsFree_192 K_full_193 K_time K_value K_rise, rI aKc cI 1661 K_cells_194]) (v := none) hx hb hml hown htc hN (c_X5_addBits l G cI cZ cJ aK aKc K_used K_bitsFree K_full K_time K_value K_rise K_cells (2 : Int64) (2 : Int32) hE_190) mw_494 mw_496 mp_9 mw_8 mw_497 hd_X5_addBits ⟨rfl, rfl⟩ ⟨Nat.le_of_ble_eq_true rfl, Nat.le_of_ble_eq_true rfl⟩ hK hw0 hA [0, 1] [] [0, 1] rfl rfl rfl rfl rfl (by decide) rfl rfl rfl 0 rfl rfl rfl rfl hl0.1 rfl rfl (Nat.le_of_ble_eq_true rfl) dX5_packChange_36 ⟨Nat.zero_le _, Nat.zero_le _⟩ (fun H195 locs195 hw195 => ?_)
        clear hw0
        refine lv_aload_n hx hb dX5_packChange_39 rfl (lv_at hl0 0 rfl) ?_
        refine lv_lload_n hx hb dX5_packChange_40 rfl (lv_at hl0 1 rfl) ?_
        refine lv_ldc2 (v := (64 : Int64)) hx hb hown (htc _ mw_499) dX5_packChange_41 ?_
        refine lv_ladd hx hb dX5_packChange_44 ?_
        refine lv_bipush (v := (7 : Int32)) hx hb dX5_packChange_45 (by decide) ?_
        replace hJ_5 := ob4_some hJ_5
        obtain ⟨K_used_197, K_bitsFree_198, K_full_199, K_cells_200, hE_196, hJ_5⟩ := hJ_5
        refine ctV (a := aK) (As := [.long (p0 + (64 : Int64)), .int (7 : Int32)]) (rest := []) (st1 := []) (wc := [oX5 aK aKc K_used_191 K_bitsFree_192 K_full_193 K_time K_value K_rise, rI aKc cI 1661 K_cells_194]) (w1 := [oX5 aK aKc K_used_197 K_bitsFree_198 K_full_199 K_time K_value K_rise, rI aKc cI 1661 K_cells_200]) (wr := []) (wb := [oX5 aK aKc K_used_197 K_bitsFree_198 K_full_199 K_time K_value K_rise, rI aKc cI 1661 K_cells_200]) (v := none) hx hb hml hown htc hN (c_X5_addBits l G cI cZ cJ aK aKc K_used_191 K_bitsFree_192 K_full_193 K_time K_value K_rise K_cells_194 (p0 + (64 : Int64)) (7 : Int32) hE_196) mw_494 mw_496 mp_9 mw_8 mw_497 hd_X5_addBits ⟨rfl, rfl⟩ ⟨Nat.le_of_ble_eq_true rfl, Nat.le_of_ble_eq_true rfl⟩ hK hw195 hA [0, 1] [] [0, 1] rfl rfl rfl rfl rfl (by decide) rfl rfl rfl 0 rfl rfl rfl rfl hl0.1 rfl rfl (Nat.le_of_ble_eq_true rfl) dX5_packChange_47 ⟨Nat.zero_le _, Nat.zero_le _⟩ (fun H201 locs201 hw201 => ?_)
        clear hw195 H195 locs195
        refine lv_goto (tgt := 148) hx hb dX5_packChange_50 (by decide) ?_
        cases hJ_5
        exact kj_6 _ _ _ hw201 (lv_sub hl0 [] rfl)
  · replace hJ_5 := it_t c_7 hJ_5
    refine lv_aload_n hx hb dX5_packChange_6 rfl (lv_at hl0 0 rfl) ?_
    refine lv_lconst (v := (0 : Int64)) hx hb dX5_packChange_7 (by decide) ?_
    refine lv_iconst (v := (1 : Int32)) hx hb dX5_packChange_8 (by decide) ?_
    replace hJ_5 := ob4_some hJ_5
    obtain ⟨K_used_203, K_bitsFree_204, K_full_205, K_cells_206, hE_202, hJ_5⟩ := hJ_5
    refine ctV (a := aK) (As := [.long (0 : Int64), .int (1 : Int32)]) (rest := []) (st1 := []) (wc := [oX5 aK aKc K_used K_bitsFree K_full K_time K_value K_rise, rI aKc cI 1661 K_cells]) (w1 := [oX5 aK aKc K_used_203 K_bitsFree_204 K_full_205 K_time K_value K_rise, rI aKc cI 1661 K_cells_206]) (wr := []) (wb := [oX5 aK aKc K_used_203 K_bitsFree_204 K_full_205 K_time K_value K_rise, rI aKc cI 1661 K_cells_206]) (v := none) hx hb hml hown htc hN (c_X5_addBits l G cI cZ cJ aK aKc K_used K_bitsFree K_full K_time K_value K_rise K_cells (0 : Int64) (1 : Int32) hE_202) mw_494 mw_496 mp_9 mw_8 mw_497 hd_X5_addBits ⟨rfl, rfl⟩ ⟨Nat.le_of_ble_eq_true rfl, Nat.le_of_ble_eq_true rfl⟩ hK hw0 hA [0, 1] [] [0, 1] rfl rfl rfl rfl rfl (by decide) rfl rfl rfl 0 rfl rfl rfl rfl hl0.1 rfl rfl (Nat.le_of_ble_eq_true rfl) dX5_packChange_9 ⟨Nat.zero_le _, Nat.zero_le _⟩ (fun H207 locs207 hw207 => ?_)
    clear hw0
    refine lv_goto (tgt := 148) hx hb dX5_packChange_12 (by decide) ?_
    cases hJ_5
    exact kj_6 _ _ _ hw207 (lv_sub hl0 [] rfl)
abbrev rm_X5_packDifference : Room := { frames := 2, cells := 0, slots := 0, locals := 45 }
theorem hd_X5_packDifference : yX5_packDifference.cls = RX5 ∧ yX5_packDifference.cls ≠ "java/lang/invoke/MethodHandle" ∧ yX5_packDifference.cls ≠ "java/lang/invoke/VarHandle" ∧ (parseMethodDescriptor yX5_packDifference.desc).map (fun d => d.parameters.length) = some 1 := by decide +kernel
set_option maxHeartbeats 4000000 in
set_option maxRecDepth 100000 in
theorem c_X5_packDifference (l : Launch) (G : va_G) (cI cZ cJ : ClassId) (aK aKc : Nat) (K_used : Int32) (K_bitsFree : Int32) (K_full : Int32) (K_time : Int32) (K_value : Int32) (K_rise : Int64) (K_cells : Nat → Int32) (p0 : Int32) {o_K_used : Int32} {o_K_bitsFree : Int32} {o_K_full : Int32} {o_K_cells : Nat → Int32} (hfin : m_X5_packDifference K_used K_bitsFree K_full K_cells p0 = some (o_K_used, o_K_bitsFree, o_K_full, o_K_cells)) : CT l yX5_packDifference cX5_packDifference 4 none rm_X5_packDifference G (tyC cI cZ cJ) [.ref aK, .int p0] [oX5 aK aKc K_used K_bitsFree K_full K_time K_value K_rise, rI aKc cI 1661 K_cells] none [oX5 aK aKc o_K_used o_K_bitsFree o_K_full K_time K_value K_rise, rI aKc cI 1661 o_K_cells] := by
  refine CT.ofW (lvl := [(0, .ref aK), (1, .int p0)]) (by decide) (Nat.le_of_ble_eq_true rfl) rfl ?_
  intro p e s m args below meth c A ls0 QQ hQQ hx hb hml hr hlocks htc hN hown hK hA hw0 hl0
  rw [m_X5_packDifference] at hfin
  refine lv_iload_n hx hb dX5_packDifference_0 rfl (lv_at hl0 1 rfl) ?_
  replace hfin := ob1_some hfin
  obtain ⟨s_1, hJ_2, hfin⟩ := hfin
  have kj_3 : ∀ (H : Heap) (locs : List Loc) (ls : Array Slot), wS G A s H locs [oX5 aK aKc K_used K_bitsFree K_full K_time K_value K_rise, rI aKc cI 1661 K_cells] → lv_has ls 4 [(0, .ref aK)] → W p l e rm_X5_packDifference s m args below meth c H locs 0 0 QQ (F0 m 16 ls [.int s_1]) := by
    clear hw0 hl0 ls0 hJ_2
    intro H5 locs5 ls5 hw5 hl5
    refine lv_istore_n (lv' := [(2, .int s_1), (0, .ref aK)]) hx hb dX5_packDifference_16 rfl hl5 (by decide) rfl (fun ls6 hl6 => ?_)
    clear hl5 ls5
    refine lv_iconst (v := (0 : Int32)) hx hb dX5_packDifference_17 (by decide) ?_
    refine lv_istore_n (lv' := [(3, .int (0 : Int32)), (2, .int s_1), (0, .ref aK)]) hx hb dX5_packDifference_18 rfl hl6 (by decide) rfl (fun ls7 hl7 => ?_)
    clear hl6 ls6
    replace hfin := ob4_some hfin
    obtain ⟨K_used_17, K_bitsFree_18, K_full_19, K_cells_20, hL_13, hfin⟩ := hfin
    have kx_14 : ∀ (H : Heap) (locs : List Loc) (ls : Array Slot), wS G A s H locs [oX5 aK aKc K_used_17 K_bitsFree_18 K_full_19 K_time K_value K_rise, rI aKc cI 1661 K_cells_20] → lv_has ls 4 [(0, .ref aK)] → W p l e rm_X5_packDifference s m args below meth c H locs 0 0 QQ (F0 m 52 ls []) := by
      clear hw5 H5 locs5 hl7 ls7 hL_13
      intro H37 locs37 ls37 hw37 hl37
      refine lv_aload_n hx hb dX5_packDifference_52 rfl (lv_at hl37 0 rfl) ?_
      refine lv_lconst (v := (0 : Int64)) hx hb dX5_packDifference_53 (by decide) ?_
      refine lv_iconst (v := (1 : Int32)) hx hb dX5_packDifference_54 (by decide) ?_
      replace hfin := ob4_some hfin
      obtain ⟨K_used_39, K_bitsFree_40, K_full_41, K_cells_42, hE_38, hfin⟩ := hfin
      refine ctV (a := aK) (As := [.long (0 : Int64), .int (1 : Int32)]) (rest := []) (st1 := []) (wc := [oX5 aK aKc K_used_17 K_bitsFree_18 K_full_19 K_time K_value K_rise, rI aKc cI 1661 K_cells_20]) (w1 := [oX5 aK aKc K_used_39 K_bitsFree_40 K_full_41 K_time K_value K_rise, rI aKc cI 1661 K_cells_42]) (wr := []) (wb := [oX5 aK aKc K_used_39 K_bitsFree_40 K_full_41 K_time K_value K_rise, rI aKc cI 1661 K_cells_42]) (v := none) hx hb hml hown htc hN (c_X5_addBits l G cI cZ cJ aK aKc K_used_17 K_bitsFree_18 K_full_19 K_time K_value K_rise K_cells_20 (0 : Int64) (1 : Int32) hE_38) mw_494 mw_496 mp_9 mw_8 mw_497 hd_X5_addBits ⟨rfl, rfl⟩ ⟨Nat.le_of_ble_eq_true rfl, Nat.le_of_ble_eq_true rfl⟩ hK hw37 hA [0, 1] [] [0, 1] rfl rfl rfl rfl rfl (by decide) rfl rfl rfl 0 rfl rfl rfl rfl hl37.1 rfl rfl (Nat.le_of_ble_eq_true rfl) dX5_packDifference_55 ⟨Nat.zero_le _, Nat.zero_le _⟩ (fun H43 locs43 hw43 => ?_)
      clear hw37 H37 locs37
      cases hfin
      rw [hQQ]
      exact ct_vret hx hb hr hlocks hw43.1 hw43.2.1 hw43.2.2 dX5_packDifference_58
    have lp_15 : ∀ (n : Nat) (v3_8 : Int32) (K_used_9 : Int32) (K_bitsFree_10 : Int32) (K_full_11 : Int32) (K_cells_12 : Nat → Int32), lp_X5_packDifference_19 s_1 n v3_8 K_used_9 K_bitsFree_10 K_full_11 K_cells_12 = some (K_used_17, K_bitsFree_18, K_full_19, K_cells_20) → ∀ (H : Heap) (locs : List Loc) (ls : Array Slot), wS G A s H locs [oX5 aK aKc K_used_9 K_bitsFree_10 K_full_11 K_time K_value K_rise, rI aKc cI 1661 K_cells_12] → lv_has ls 4 [(0, .ref aK), (2, .int s_1), (3, .int v3_8)] → W p l e rm_X5_packDifference s m args below meth c H locs 0 0 QQ (F0 m 19 ls []) := by
      clear hw5 H5 locs5 hl7 ls7 hfin
      intro n
      induction n with
      | zero =>
        intro v3_8 K_used_9 K_bitsFree_10 K_full_11 K_cells_12 hB_16
        exact absurd hB_16 (by rw [lp_X5_packDifference_19]; exact fun h9 => nomatch h9)
      | succ n ih =>
        intro v3_8 K_used_9 K_bitsFree_10 K_full_11 K_cells_12 hB_16 H21 locs21 ls21 hw21 hl21
        rw [lp_X5_packDifference_19] at hB_16
        refine lv_iload_n hx hb dX5_packDifference_19 rfl (lv_at hl21 2 rfl) ?_
        refine lv_bipush (v := (32 : Int32)) hx hb dX5_packDifference_20 (by decide) ?_
        refine lv_icmp_ge (tgt := 52) hx hb dX5_packDifference_22 (by decide) (fun c_22 => ?_) (fun c_22 => ?_)
        · replace hB_16 := it_t c_22 hB_16
          cases hB_16
          exact kx_14 _ _ _ hw21 (lv_sub hl21 [0] rfl)
        · replace hB_16 := it_f c_22 hB_16
          refine lv_iload_n hx hb dX5_packDifference_25 rfl (lv_at hl21 1 rfl) ?_
          refine lv_iload_n hx hb dX5_packDifference_26 rfl (lv_at hl21 2 rfl) ?_
          refine lv_iushr hx hb dX5_packDifference_27 rfl ?_
          refine lv_if_eq (tgt := 52) hx hb dX5_packDifference_28 (by decide) (fun c_23 => ?_) (fun c_23 => ?_)
          · replace hB_16 := it_t c_23 hB_16
            cases hB_16
            exact kx_14 _ _ _ hw21 (lv_sub hl21 [0] rfl)
          · replace hB_16 := it_f c_23 hB_16
            refine lv_aload_n hx hb dX5_packDifference_31 rfl (lv_at hl21 0 rfl) ?_
            refine lv_lconst (v := (1 : Int64)) hx hb dX5_packDifference_32 (by decide) ?_
            refine lv_iconst (v := (1 : Int32)) hx hb dX5_packDifference_33 (by decide) ?_
            replace hB_16 := ob4_some hB_16
            obtain ⟨K_used_25, K_bitsFree_26, K_full_27, K_cells_28, hE_24, hB_16⟩ := hB_16
            refine ctV (a := aK) (As := [.long (1 : Int64), .int (1 : Int32)]) (rest := []) (st1 := []) (wc := [oX5 aK aKc K_used_9 K_bitsFree_10 K_full_11 K_time K_value K_rise, rI aKc cI 1661 K_cells_12]) (w1 := [oX5 aK aKc K_used_25 K_bitsFree_26 K_full_27 K_time K_value K_rise, rI aKc cI 1661 K_cells_28]) (wr := []) (wb := [oX5 aK aKc K_used_25 K_bitsFree_26 K_full_27 K_time K_value K_rise, rI aKc cI 1661 K_cells_28]) (v := none) hx hb hml hown htc hN (c_X5_addBits l G cI cZ cJ aK aKc K_used_9 K_bitsFree_10 K_full_11 K_time K_value K_rise K_cells_12 (1 : Int64) (1 : Int32) hE_24) mw_494 mw_496 mp_9 mw_8 mw_497 hd_X5_addBits ⟨rfl, rfl⟩ ⟨Nat.le_of_ble_eq_true rfl, Nat.le_of_ble_eq_true rfl⟩ hK hw21 hA [0, 1] [] [0, 1] rfl rfl rfl rfl rfl (by decide) rfl rfl rfl 0 rfl rfl rfl rfl hl21.1 rfl rfl (Nat.le_of_ble_eq_true rfl) dX5_packDifference_34 ⟨Nat.zero_le _, Nat.zero_le _⟩ (fun H29 locs29 hw29 => ?_)
            clear hw21 H21 locs21
            refine lv_aload_n hx hb dX5_packDifference_37 rfl (lv_at hl21 0 rfl) ?_
            refine lv_iload_n hx hb dX5_packDifference_38 rfl (lv_at hl21 1 rfl) ?_
            refine lv_iload_n hx hb dX5_packDifference_39 rfl (lv_at hl21 2 rfl) ?_
            refine lv_iushr hx hb dX5_packDifference_40 rfl ?_
            refine lv_i2l hx hb dX5_packDifference_41 rfl ?_
            refine lv_iconst (v := (4 : Int32)) hx hb dX5_packDifference_42 (by decide) ?_
            replace hB_16 := ob4_some hB_16
            obtain ⟨K_used_31, K_bitsFree_32, K_full_33, K_cells_34, hE_30, hB_16⟩ := hB_16
            refine ctV (a := aK) (As := [.long (Int32.toInt64 ((Int32.toUInt32 s_1 >>> (Int32.toUInt32 v3_8 &&& Int32.toUInt32 31)).toInt32)), .int (4 : Int32)]) (rest := []) (st1 := []) (wc := [oX5 aK aKc K_used_25 K_bitsFree_26 K_full_27 K_time K_value K_rise, rI aKc cI 1661 K_cells_28]) (w1 := [oX5 aK aKc K_used_31 K_bitsFree_32 K_full_33 K_time K_value K_rise, rI aKc cI 1661 K_cells_34]) (wr := []) (wb := [oX5 aK aKc K_used_31 K_bitsFree_32 K_full_33 K_time K_value K_rise, rI aKc cI 1661 K_cells_34]) (v := none) hx hb hml hown htc hN (c_X5_addBits l G cI cZ cJ aK aKc K_used_25 K_bitsFree_26 K_full_27 K_time K_value K_rise K_cells_28 (Int32.toInt64 ((Int32.toUInt32 s_1 >>> (Int32.toUInt32 v3_8 &&& Int32.toUInt32 31)).toInt32)) (4 : Int32) hE_30) mw_494 mw_496 mp_9 mw_8 mw_497 hd_X5_addBits ⟨rfl, rfl⟩ ⟨Nat.le_of_ble_eq_true rfl, Nat.le_of_ble_eq_true rfl⟩ hK hw29 hA [0, 1] [] [0, 1] rfl rfl rfl rfl rfl (by decide) rfl rfl rfl 0 rfl rfl rfl rfl hl21.1 rfl rfl (Nat.le_of_ble_eq_true rfl) dX5_packDifference_43 ⟨Nat.zero_le _, Nat.zero_le _⟩ (fun H35 locs35 hw35 => ?_)
            clear hw29 H29 locs29
            refine lv_iinc (v := (v3_8 + (4 : Int32))) (lv' := [(3, .int (v3_8 + (4 : Int32))), (0, .ref aK), (2, .int s_1)]) hx hb dX5_packDifference_46 hl21 (k := 2) rfl rfl (by decide) rfl (fun ls36 hl36 => ?_)
            clear hl21 ls21
            refine lv_goto (tgt := 19) hx hb dX5_packDifference_49 (by decide) ?_
            exact ih (v3_8 + (4 : Int32)) K_used_31 K_bitsFree_32 K_full_33 K_cells_34 hB_16 _ _ _ hw35 (lv_sub hl36 [1, 2, 0] rfl)
    exact lp_15 NN (0 : Int32) K_used K_bitsFree K_full K_cells hL_13 _ _ _ hw5 (lv_sub hl7 [2, 1, 0] rfl)
  clear hfin
  refine lv_if_ge (tgt := 13) hx hb dX5_packDifference_1 (by decide) (fun c_4 => ?_) (fun c_4 => ?_)
  · replace hJ_2 := it_t c_4 hJ_2
    refine lv_iconst (v := (2 : Int32)) hx hb dX5_packDifference_13 (by decide) ?_
    refine lv_iload_n hx hb dX5_packDifference_14 rfl (lv_at hl0 1 rfl) ?_
    refine lv_imul hx hb dX5_packDifference_15 ?_
    cases hJ_2
    exact kj_3 _ _ _ hw0 (lv_sub hl0 [0] rfl)
  · replace hJ_2 := it_f c_4 hJ_2
    refine lv_bipush (v := (-2 : Int32)) hx hb dX5_packDifference_4 (by decide) ?_
    refine lv_iload_n hx hb dX5_packDifference_6 rfl (lv_at hl0 1 rfl) ?_
    refine lv_imul hx hb dX5_packDifference_7 ?_
    refine lv_iconst (v := (1 : Int32)) hx hb dX5_packDifference_8 (by decide) ?_
    refine lv_isub hx hb dX5_packDifference_9 ?_
    refine lv_goto (tgt := 16) hx hb dX5_packDifference_10 (by decide) ?_
    cases hJ_2
    exact kj_3 _ _ _ hw0 (lv_sub hl0 [0] rfl)
abbrev rm_X5_packFurther : Room := { frames := 3, cells := 0, slots := 0, locals := 68 }
theorem hd_X5_packFurther : yX5_packFurther.cls = RX5 ∧ yX5_packFurther.cls ≠ "java/lang/invoke/MethodHandle" ∧ yX5_packFurther.cls ≠ "java/lang/invoke/VarHandle" ∧ (parseMethodDescriptor yX5_packFurther.desc).map (fun d => d.parameters.length) = some 2 := by decide +kernel
set_option maxHeartbeats 4000000 in
set_option maxRecDepth 100000 in
theorem c_X5_packFurther (l : Launch) (G : va_G) (cI cZ cJ : ClassId) (aK aKc : Nat) (K_used : Int32) (K_bitsFree : Int32) (K_full : Int32) (K_time : Int32) (K_value : Int32) (K_rise : Int64) (K_cells : Nat → Int32) (p0 : Int32) (p1 : Int32) {o_K_used : Int32} {o_K_bitsFree : Int32} {o_K_full : Int32} {o_K_time : Int32} {o_K_value : Int32} {o_K_rise : Int64} {o_K_cells : Nat → Int32} (hfin : m_X5_packFurther K_used K_bitsFree K_full K_time K_value K_rise K_cells p0 p1 = some (o_K_used, o_K_bitsFree, o_K_full, o_K_time, o_K_value, o_K_rise, o_K_cells)) : CT l yX5_packFurther cX5_packFurther 5 none rm_X5_packFurther G (tyC cI cZ cJ) [.ref aK, .int p0, .int p1] [oX5 aK aKc K_used K_bitsFree K_full K_time K_value K_rise, rI aKc cI 1661 K_cells] none [oX5 aK aKc o_K_used o_K_bitsFree o_K_full o_K_time o_K_value o_K_rise, rI aKc cI 1661 o_K_cells] := by
  refine CT.ofW (lvl := [(0, .ref aK), (1, .int p0), (2, .int p1)]) (by decide) (Nat.le_of_ble_eq_true rfl) rfl ?_
  intro p e s m args below meth c A ls0 QQ hQQ hx hb hml hr hlocks htc hN hown hK hA hw0 hl0
  rw [m_X5_packFurther] at hfin
  refine lv_iload_n hx hb dX5_packFurther_0 rfl (lv_at hl0 1 rfl) ?_
  refine lv_i2l hx hb dX5_packFurther_1 rfl ?_
  refine lv_aload_n hx hb dX5_packFurther_2 rfl (lv_at hl0 0 rfl) ?_
  refine va_get (D := G) (ci := 5) (v := .int K_time) (C := RX5) (T := TX5) (N := 7) hx hb htc iX5 hown hK hw0.1 0 rfl rfl 4 (by decide) (htc _ mw_129) (fun _ h9 => h9) rfl dX5_packFurther_3 ?_
  refine lv_i2l hx hb dX5_packFurther_6 rfl ?_
  refine lv_lsub hx hb dX5_packFurther_7 ?_
  refine lv_lstore_n (lv' := [(3, .long ((Int32.toInt64 p0) - (Int32.toInt64 K_time))), (0, .ref aK), (1, .int p0), (2, .int p1)]) hx hb dX5_packFurther_8 rfl hl0 (by decide) rfl (fun ls1 hl1 => ?_)
  clear hl0 ls0
  refine lv_aload_n hx hb dX5_packFurther_9 rfl (lv_at hl1 1 rfl) ?_
  refine lv_lload_n hx hb dX5_packFurther_10 rfl (lv_at hl1 0 rfl) ?_
  refine lv_aload_n hx hb dX5_packFurther_11 rfl (lv_at hl1 1 rfl) ?_
  refine va_get (D := G) (ci := 5) (v := .long K_rise) (C := RX5) (T := TX5) (N := 7) hx hb htc iX5 hown hK hw0.1 0 rfl rfl 6 (by decide) (htc _ mw_131) (fun _ h9 => h9) rfl dX5_packFurther_12 ?_
  refine lv_lsub hx hb dX5_packFurther_15 ?_
  replace hfin := ob4_some hfin
  obtain ⟨K_used_3, K_bitsFree_4, K_full_5, K_cells_6, hE_2, hfin⟩ := hfin
  refine ctV (a := aK) (As := [.long (((Int32.toInt64 p0) - (Int32.toInt64 K_time)) - K_rise)]) (rest := []) (st1 := []) (wc := [oX5 aK aKc K_used K_bitsFree K_full K_time K_value K_rise, rI aKc cI 1661 K_cells]) (w1 := [oX5 aK aKc K_used_3 K_bitsFree_4 K_full_5 K_time K_value K_rise, rI aKc cI 1661 K_cells_6]) (wr := []) (wb := [oX5 aK aKc K_used_3 K_bitsFree_4 K_full_5 K_time K_value K_rise, rI aKc cI 1661 K_cells_6]) (v := none) hx hb hml hown htc hN (c_X5_packChange l G cI cZ cJ aK aKc K_used K_bitsFree K_full K_time K_value K_rise K_cells (((Int32.toInt64 p0) - (Int32.toInt64 K_time)) - K_rise) hE_2) mw_490 mw_492 mp_8 mw_8 mw_493 hd_X5_packChange ⟨rfl, rfl⟩ ⟨Nat.le_of_ble_eq_true rfl, Nat.le_of_ble_eq_true rfl⟩ hK hw0 hA [0, 1] [] [0, 1] rfl rfl rfl rfl rfl (by decide) rfl rfl rfl 0 rfl rfl rfl rfl hl1.1 rfl rfl (Nat.le_of_ble_eq_true rfl) dX5_packFurther_16 ⟨Nat.zero_le _, Nat.zero_le _⟩ (fun H7 locs7 hw7 => ?_)
  clear hw0
  refine lv_aload_n hx hb dX5_packFurther_19 rfl (lv_at hl1 1 rfl) ?_
  refine lv_iload_n hx hb dX5_packFurther_20 rfl (lv_at hl1 3 rfl) ?_
  refine lv_aload_n hx hb dX5_packFurther_21 rfl (lv_at hl1 1 rfl) ?_
  refine va_get (D := G) (ci := 5) (v := .int K_value) (C := RX5) (T := TX5) (N := 7) hx hb htc iX5 hown hK hw7.1 0 rfl rfl 5 (by decide) (htc _ mw_130) (fun _ h9 => h9) rfl dX5_packFurther_22 ?_
  refine lv_isub hx hb dX5_packFurther_25 ?_
  replace hfin := ob4_some hfin
  obtain ⟨K_used_9, K_bitsFree_10, K_full_11, K_cells_12, hE_8, hfin⟩ := hfin
  refine ctV (a := aK) (As := [.int (p1 - K_value)]) (rest := []) (st1 := []) (wc := [oX5 aK aKc K_used_3 K_bitsFree_4 K_full_5 K_time K_value K_rise, rI aKc cI 1661 K_cells_6]) (w1 := [oX5 aK aKc K_used_9 K_bitsFree_10 K_full_11 K_time K_value K_rise, rI aKc cI 1661 K_cells_12]) (wr := []) (wb := [oX5 aK aKc K_used_9 K_bitsFree_10 K_full_11 K_time K_value K_rise, rI aKc cI 1661 K_cells_12]) (v := none) hx hb hml hown htc hN (c_X5_packDifference l G cI cZ cJ aK aKc K_used_3 K_bitsFree_4 K_full_5 K_time K_value K_rise K_cells_6 (p1 - K_value) hE_8) mw_509 mw_511 mp_10 mw_8 mw_512 hd_X5_packDifference ⟨rfl, rfl⟩ ⟨Nat.le_of_ble_eq_true rfl, Nat.le_of_ble_eq_true rfl⟩ hK hw7 hA [0, 1] [] [0, 1] rfl rfl rfl rfl rfl (by decide) rfl rfl rfl 0 rfl rfl rfl rfl hl1.1 rfl rfl (Nat.le_of_ble_eq_true rfl) dX5_packFurther_26 ⟨Nat.zero_le _, Nat.zero_le _⟩ (fun H13 locs13 hw13 => ?_)
  clear hw7 H7 locs7
  refine lv_aload_n hx hb dX5_packFurther_29 rfl (lv_at hl1 1 rfl) ?_
  refine lv_iload_n hx hb dX5_packFurther_30 rfl (lv_at hl1 2 rfl) ?_
  refine va_put (D := G) (ci := 5) (v := .int p0) (ty := .int) (C := RX5) (T := TX5) (N := 7) hx hb htc iX5 tyX5 tyX5_ok nmX5 hown hK hw13.1 hw13.2.1 hw13.2.2 0 rfl rfl 4 (by decide) (htc _ mw_129) (fun _ h9 => h9) rfl (tyX5_ok 4 (by decide)) rfl rfl (Nat.le_of_ble_eq_true rfl) dX5_packFurther_31 (fun H14 locs14 hP hD hS => ?_)
  have hw14 : wS G A s H14 locs14 [oX5 aK aKc K_used_9 K_bitsFree_10 K_full_11 p0 K_value K_rise, rI aKc cI 1661 K_cells_12] := ⟨hP, hD, hS⟩
  clear hP hD hS hw13 H13 locs13
  refine lv_aload_n hx hb dX5_packFurther_34 rfl (lv_at hl1 1 rfl) ?_
  refine lv_iload_n hx hb dX5_packFurther_35 rfl (lv_at hl1 3 rfl) ?_
  refine va_put (D := G) (ci := 5) (v := .int p1) (ty := .int) (C := RX5) (T := TX5) (N := 7) hx hb htc iX5 tyX5 tyX5_ok nmX5 hown hK hw14.1 hw14.2.1 hw14.2.2 0 rfl rfl 5 (by decide) (htc _ mw_130) (fun _ h9 => h9) rfl (tyX5_ok 5 (by decide)) rfl rfl (Nat.le_of_ble_eq_true rfl) dX5_packFurther_36 (fun H15 locs15 hP hD hS => ?_)
  have hw15 : wS G A s H15 locs15 [oX5 aK aKc K_used_9 K_bitsFree_10 K_full_11 p0 p1 K_rise, rI aKc cI 1661 K_cells_12] := ⟨hP, hD, hS⟩
  clear hP hD hS hw14 H14 locs14
  refine lv_aload_n hx hb dX5_packFurther_39 rfl (lv_at hl1 1 rfl) ?_
  refine lv_lload_n hx hb dX5_packFurther_40 rfl (lv_at hl1 0 rfl) ?_
  refine va_put (D := G) (ci := 5) (v := .long ((Int32.toInt64 p0) - (Int32.toInt64 K_time))) (ty := .long) (C := RX5) (T := TX5) (N := 7) hx hb htc iX5 tyX5 tyX5_ok nmX5 hown hK hw15.1 hw15.2.1 hw15.2.2 0 rfl rfl 6 (by decide) (htc _ mw_131) (fun _ h9 => h9) rfl (tyX5_ok 6 (by decide)) rfl rfl (Nat.le_of_ble_eq_true rfl) dX5_packFurther_41 (fun H16 locs16 hP hD hS => ?_)
  have hw16 : wS G A s H16 locs16 [oX5 aK aKc K_used_9 K_bitsFree_10 K_full_11 p0 p1 ((Int32.toInt64 p0) - (Int32.toInt64 K_time)), rI aKc cI 1661 K_cells_12] := ⟨hP, hD, hS⟩
  clear hP hD hS hw15 H15 locs15
  cases hfin
  rw [hQQ]
  exact ct_vret hx hb hr hlocks hw16.1 hw16.2.1 hw16.2.2 dX5_packFurther_44
abbrev rm_X5_at : Room := { frames := 0, cells := 0, slots := 0, locals := 0 }
theorem hd_X5_at : yX5_at.cls = RX5 ∧ yX5_at.cls ≠ "java/lang/invoke/MethodHandle" ∧ yX5_at.cls ≠ "java/lang/invoke/VarHandle" ∧ (parseMethodDescriptor yX5_at.desc).map (fun d => d.parameters.length) = some 1 := by decide +kernel
set_option maxHeartbeats 4000000 in
set_option maxRecDepth 100000 in
theorem c_X5_at (l : Launch) (G : va_G) (cI cZ cJ : ClassId) (aK aKc : Nat) (K_used : Int32) (K_bitsFree : Int32) (K_full : Int32) (K_time : Int32) (K_value : Int32) (K_rise : Int64) (K_cells : Nat → Int32) (p0 : Int32) {r : Int32} (hfin : m_X5_at K_used K_cells p0 = some (r)) : CT l yX5_at cX5_at 2 (some .int) rm_X5_at G (tyC cI cZ cJ) [.ref aK, .int p0] [oX5 aK aKc K_used K_bitsFree K_full K_time K_value K_rise, rI aKc cI 1661 K_cells] (some (.int r)) [oX5 aK aKc K_used K_bitsFree K_full K_time K_value K_rise, rI aKc cI 1661 K_cells] := by
  refine CT.ofW (lvl := [(0, .ref aK), (1, .int p0)]) (by decide) (Nat.le_of_ble_eq_true rfl) rfl ?_
  intro p e s m args below meth c A ls0 QQ hQQ hx hb hml hr hlocks htc hN hown hK hA hw0 hl0
  rw [m_X5_at] at hfin
  refine lv_iload_n hx hb dX5_at_0 rfl (lv_at hl0 1 rfl) ?_
  replace hfin := ob1_some hfin
  obtain ⟨s_1, hJ_2, hfin⟩ := hfin
  have kj_3 : ∀ (H : Heap) (locs : List Loc) (ls : Array Slot), wS G A s H locs [oX5 aK aKc K_used K_bitsFree K_full K_time K_value K_rise, rI aKc cI 1661 K_cells] → lv_has ls 2 [] → W p l e rm_X5_at s m args below meth c H locs 0 0 QQ (F0 m 22 ls [.int s_1]) := by
    clear hw0 hl0 ls0 hJ_2
    intro H7 locs7 ls7 hw7 hl7
    cases hfin
    rw [hQQ]
    exact ct_iret hx hb hr hlocks hw7.1 hw7.2.1 hw7.2.2 dX5_at_22
  clear hfin
  refine lv_if_lt (tgt := 21) hx hb dX5_at_1 (by decide) (fun c_4 => ?_) (fun c_4 => ?_)
  · replace hJ_2 := it_t c_4 hJ_2
    refine lv_iconst (v := (0 : Int32)) hx hb dX5_at_21 (by decide) ?_
    cases hJ_2
    exact kj_3 _ _ _ hw0 (lv_sub hl0 [] rfl)
  · replace hJ_2 := it_f c_4 hJ_2
    refine lv_iload_n hx hb dX5_at_4 rfl (lv_at hl0 1 rfl) ?_
    refine lv_aload_n hx hb dX5_at_5 rfl (lv_at hl0 0 rfl) ?_
    refine va_get (D := G) (ci := 5) (v := .int K_used) (C := RX5) (T := TX5) (N := 7) hx hb htc iX5 hown hK hw0.1 0 rfl rfl 1 (by decide) (htc _ mw_126) (fun _ h9 => h9) rfl dX5_at_6 ?_
    refine lv_icmp_ge (tgt := 21) hx hb dX5_at_9 (by decide) (fun c_5 => ?_) (fun c_5 => ?_)
    · replace hJ_2 := it_t c_5 hJ_2
      refine lv_iconst (v := (0 : Int32)) hx hb dX5_at_21 (by decide) ?_
      cases hJ_2
      exact kj_3 _ _ _ hw0 (lv_sub hl0 [] rfl)
    · replace hJ_2 := it_f c_5 hJ_2
      refine lv_aload_n hx hb dX5_at_12 rfl (lv_at hl0 0 rfl) ?_
      refine va_get (D := G) (ci := 5) (v := .ref aKc) (C := RX5) (T := TX5) (N := 7) hx hb htc iX5 hown hK hw0.1 0 rfl rfl 0 (by decide) (htc _ mw_125) (fun _ h9 => h9) rfl dX5_at_13 ?_
      refine lv_iload_n hx hb dX5_at_16 rfl (lv_at hl0 1 rfl) ?_
      replace hJ_2 := ckb_some hJ_2
      obtain ⟨hin_6, hJ_2⟩ := hJ_2
      refine va_iald hx hb hK hw0.1 1 0 rfl rfl hin_6 dX5_at_17 ?_
      refine lv_goto (tgt := 22) hx hb dX5_at_18 (by decide) ?_
      cases hJ_2
      exact kj_3 _ _ _ hw0 (lv_sub hl0 [] rfl)
