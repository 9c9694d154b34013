theorem dX10_put_0 : decode cX10_put 0 = .ok (.iload_n 3, 1) := by decide +kernel
theorem dX10_put_1 : decode cX10_put 1 = .ok (.iconst 1, 1) := by decide +kernel
theorem dX10_put_2 : decode cX10_put 2 = .ok (.isub, 1) := by decide +kernel
theorem dX10_put_3 : decode cX10_put 3 = .ok (.istore 4, 2) := by decide +kernel
theorem dX10_put_5 : decode cX10_put 5 = .ok (.iload 4, 2) := by decide +kernel
theorem dX10_put_7 : decode cX10_put 7 = .ok (.ifCond .lt 84, 3) := by decide +kernel
theorem dX10_put_10 : decode cX10_put 10 = .ok (.aload_n 0, 1) := by decide +kernel
theorem dX10_put_11 : decode cX10_put 11 = .ok (.getfield 118, 3) := by decide +kernel
theorem dX10_put_14 : decode cX10_put 14 = .ok (.bipush 32, 2) := by decide +kernel
theorem dX10_put_16 : decode cX10_put 16 = .ok (.irem, 1) := by decide +kernel
theorem dX10_put_17 : decode cX10_put 17 = .ok (.ifCond .ne 18, 3) := by decide +kernel
theorem dX10_put_20 : decode cX10_put 20 = .ok (.aload_n 0, 1) := by decide +kernel
theorem dX10_put_21 : decode cX10_put 21 = .ok (.getfield 60, 3) := by decide +kernel
theorem dX10_put_24 : decode cX10_put 24 = .ok (.iconst 2, 1) := by decide +kernel
theorem dX10_put_25 : decode cX10_put 25 = .ok (.aload_n 0, 1) := by decide +kernel
theorem dX10_put_26 : decode cX10_put 26 = .ok (.getfield 118, 3) := by decide +kernel
theorem dX10_put_29 : decode cX10_put 29 = .ok (.bipush 32, 2) := by decide +kernel
theorem dX10_put_31 : decode cX10_put 31 = .ok (.idiv, 1) := by decide +kernel
theorem dX10_put_32 : decode cX10_put 32 = .ok (.iadd, 1) := by decide +kernel
theorem dX10_put_33 : decode cX10_put 33 = .ok (.iconst 0, 1) := by decide +kernel
theorem dX10_put_34 : decode cX10_put 34 = .ok (.iastore, 1) := by decide +kernel
theorem dX10_put_35 : decode cX10_put 35 = .ok (.lload_n 1, 1) := by decide +kernel
theorem dX10_put_36 : decode cX10_put 36 = .ok (.iload 4, 2) := by decide +kernel
theorem dX10_put_38 : decode cX10_put 38 = .ok (.lshr, 1) := by decide +kernel
theorem dX10_put_39 : decode cX10_put 39 = .ok (.lconst 1, 1) := by decide +kernel
theorem dX10_put_40 : decode cX10_put 40 = .ok (.land, 1) := by decide +kernel
theorem dX10_put_41 : decode cX10_put 41 = .ok (.lconst 1, 1) := by decide +kernel
theorem dX10_put_42 : decode cX10_put 42 = .ok (.lcmp, 1) := by decide +kernel
theorem dX10_put_43 : decode cX10_put 43 = .ok (.ifCond .ne 32, 3) := by decide +kernel
theorem dX10_put_46 : decode cX10_put 46 = .ok (.aload_n 0, 1) := by decide +kernel
theorem dX10_put_47 : decode cX10_put 47 = .ok (.getfield 60, 3) := by decide +kernel
theorem dX10_put_50 : decode cX10_put 50 = .ok (.iconst 2, 1) := by decide +kernel
theorem dX10_put_51 : decode cX10_put 51 = .ok (.aload_n 0, 1) := by decide +kernel
theorem dX10_put_52 : decode cX10_put 52 = .ok (.getfield 118, 3) := by decide +kernel
theorem dX10_put_55 : decode cX10_put 55 = .ok (.bipush 32, 2) := by decide +kernel
theorem dX10_put_57 : decode cX10_put 57 = .ok (.idiv, 1) := by decide +kernel
theorem dX10_put_58 : decode cX10_put 58 = .ok (.iadd, 1) := by decide +kernel
theorem dX10_put_59 : decode cX10_put 59 = .ok (.dup2, 1) := by decide +kernel
theorem dX10_put_60 : decode cX10_put 60 = .ok (.iaload, 1) := by decide +kernel
theorem dX10_put_61 : decode cX10_put 61 = .ok (.iconst 1, 1) := by decide +kernel
theorem dX10_put_62 : decode cX10_put 62 = .ok (.bipush 31, 2) := by decide +kernel
theorem dX10_put_64 : decode cX10_put 64 = .ok (.aload_n 0, 1) := by decide +kernel
theorem dX10_put_65 : decode cX10_put 65 = .ok (.getfield 118, 3) := by decide +kernel
theorem dX10_put_68 : decode cX10_put 68 = .ok (.bipush 32, 2) := by decide +kernel
theorem dX10_put_70 : decode cX10_put 70 = .ok (.irem, 1) := by decide +kernel
theorem dX10_put_71 : decode cX10_put 71 = .ok (.isub, 1) := by decide +kernel
theorem dX10_put_72 : decode cX10_put 72 = .ok (.ishl, 1) := by decide +kernel
theorem dX10_put_73 : decode cX10_put 73 = .ok (.ior, 1) := by decide +kernel
theorem dX10_put_74 : decode cX10_put 74 = .ok (.iastore, 1) := by decide +kernel
theorem dX10_put_75 : decode cX10_put 75 = .ok (.aload_n 0, 1) := by decide +kernel
theorem dX10_put_76 : decode cX10_put 76 = .ok (.dup, 1) := by decide +kernel
theorem dX10_put_77 : decode cX10_put 77 = .ok (.getfield 118, 3) := by decide +kernel
theorem dX10_put_80 : decode cX10_put 80 = .ok (.iconst 1, 1) := by decide +kernel
theorem dX10_put_81 : decode cX10_put 81 = .ok (.iadd, 1) := by decide +kernel
theorem dX10_put_82 : decode cX10_put 82 = .ok (.putfield 118, 3) := by decide +kernel
theorem dX10_put_85 : decode cX10_put 85 = .ok (.iinc 4 (-1), 3) := by decide +kernel
theorem dX10_put_88 : decode cX10_put 88 = .ok (.goto (-83), 3) := by decide +kernel
theorem dX10_put_91 : decode cX10_put 91 = .ok (.return_, 1) := by decide +kernel
theorem dX10_putStep_0 : decode cX10_putStep 0 = .ok (.lload_n 1, 1) := by decide +kernel
theorem dX10_putStep_1 : decode cX10_putStep 1 = .ok (.lconst 0, 1) := by decide +kernel
theorem dX10_putStep_2 : decode cX10_putStep 2 = .ok (.lcmp, 1) := by decide +kernel
theorem dX10_putStep_3 : decode cX10_putStep 3 = .ok (.ifCond .ne 12, 3) := by decide +kernel
theorem dX10_putStep_6 : decode cX10_putStep 6 = .ok (.aload_n 0, 1) := by decide +kernel
theorem dX10_putStep_7 : decode cX10_putStep 7 = .ok (.lconst 0, 1) := by decide +kernel
theorem dX10_putStep_8 : decode cX10_putStep 8 = .ok (.iconst 1, 1) := by decide +kernel
theorem dX10_putStep_9 : decode cX10_putStep 9 = .ok (.invokevirtual 121, 3) := by decide +kernel
theorem dX10_putStep_12 : decode cX10_putStep 12 = .ok (.goto 154, 3) := by decide +kernel
theorem dX10_putStep_15 : decode cX10_putStep 15 = .ok (.lload_n 1, 1) := by decide +kernel
theorem dX10_putStep_16 : decode cX10_putStep 16 = .ok (.ldc2_w 125, 3) := by decide +kernel
theorem dX10_putStep_19 : decode cX10_putStep 19 = .ok (.ladd, 1) := by decide +kernel
theorem dX10_putStep_20 : decode cX10_putStep 20 = .ok (.lconst 0, 1) := by decide +kernel
theorem dX10_putStep_21 : decode cX10_putStep 21 = .ok (.lcmp, 1) := by decide +kernel
theorem dX10_putStep_22 : decode cX10_putStep 22 = .ok (.ifCond .lt 37, 3) := by decide +kernel
theorem dX10_putStep_25 : decode cX10_putStep 25 = .ok (.lload_n 1, 1) := by decide +kernel
theorem dX10_putStep_26 : decode cX10_putStep 26 = .ok (.ldc2_w 125, 3) := by decide +kernel
theorem dX10_putStep_29 : decode cX10_putStep 29 = .ok (.ladd, 1) := by decide +kernel
theorem dX10_putStep_30 : decode cX10_putStep 30 = .ok (.ldc2_w 127, 3) := by decide +kernel
theorem dX10_putStep_33 : decode cX10_putStep 33 = .ok (.lcmp, 1) := by decide +kernel
theorem dX10_putStep_34 : decode cX10_putStep 34 = .ok (.ifCond .gt 25, 3) := by decide +kernel
theorem dX10_putStep_37 : decode cX10_putStep 37 = .ok (.aload_n 0, 1) := by decide +kernel
theorem dX10_putStep_38 : decode cX10_putStep 38 = .ok (.ldc2_w 129, 3) := by decide +kernel
theorem dX10_putStep_41 : decode cX10_putStep 41 = .ok (.iconst 2, 1) := by decide +kernel
theorem dX10_putStep_42 : decode cX10_putStep 42 = .ok (.invokevirtual 121, 3) := by decide +kernel
theorem dX10_putStep_45 : decode cX10_putStep 45 = .ok (.aload_n 0, 1) := by decide +kernel
theorem dX10_putStep_46 : decode cX10_putStep 46 = .ok (.lload_n 1, 1) := by decide +kernel
theorem dX10_putStep_47 : decode cX10_putStep 47 = .ok (.ldc2_w 125, 3) := by decide +kernel
theorem dX10_putStep_50 : decode cX10_putStep 50 = .ok (.ladd, 1) := by decide +kernel
theorem dX10_putStep_51 : decode cX10_putStep 51 = .ok (.bipush 7, 2) := by decide +kernel
theorem dX10_putStep_53 : decode cX10_putStep 53 = .ok (.invokevirtual 121, 3) := by decide +kernel
theorem dX10_putStep_56 : decode cX10_putStep 56 = .ok (.goto 110, 3) := by decide +kernel
theorem dX10_putStep_59 : decode cX10_putStep 59 = .ok (.lload_n 1, 1) := by decide +kernel
theorem dX10_putStep_60 : decode cX10_putStep 60 = .ok (.ldc2_w 131, 3) := by decide +kernel
theorem dX10_putStep_63 : decode cX10_putStep 63 = .ok (.ladd, 1) := by decide +kernel
theorem dX10_putStep_64 : decode cX10_putStep 64 = .ok (.lconst 0, 1) := by decide +kernel
theorem dX10_putStep_65 : decode cX10_putStep 65 = .ok (.lcmp, 1) := by decide +kernel
theorem dX10_putStep_66 : decode cX10_putStep 66 = .ok (.ifCond .lt 37, 3) := by decide +kernel
theorem dX10_putStep_69 : decode cX10_putStep 69 = .ok (.lload_n 1, 1) := by decide +kernel
theorem dX10_putStep_70 : decode cX10_putStep 70 = .ok (.ldc2_w 131, 3) := by decide +kernel
theorem dX10_putStep_73 : decode cX10_putStep 73 = .ok (.ladd, 1) := by decide +kernel
theorem dX10_putStep_74 : decode cX10_putStep 74 = .ok (.ldc2_w 133, 3) := by decide +kernel
theorem dX10_putStep_77 : decode cX10_putStep 77 = .ok (.lcmp, 1) := by decide +kernel
theorem dX10_putStep_78 : decode cX10_putStep 78 = .ok (.ifCond .gt 25, 3) := by decide +kernel
theorem dX10_putStep_81 : decode cX10_putStep 81 = .ok (.aload_n 0, 1) := by decide +kernel
theorem dX10_putStep_82 : decode cX10_putStep 82 = .ok (.ldc2_w 135, 3) := by decide +kernel
theorem dX10_putStep_85 : decode cX10_putStep 85 = .ok (.iconst 3, 1) := by decide +kernel
theorem dX10_putStep_86 : decode cX10_putStep 86 = .ok (.invokevirtual 121, 3) := by decide +kernel
theorem dX10_putStep_89 : decode cX10_putStep 89 = .ok (.aload_n 0, 1) := by decide +kernel
theorem dX10_putStep_90 : decode cX10_putStep 90 = .ok (.lload_n 1, 1) := by decide +kernel
theorem dX10_putStep_91 : decode cX10_putStep 91 = .ok (.ldc2_w 131, 3) := by decide +kernel
theorem dX10_putStep_94 : decode cX10_putStep 94 = .ok (.ladd, 1) := by decide +kernel
theorem dX10_putStep_95 : decode cX10_putStep 95 = .ok (.bipush 9, 2) := by decide +kernel
theorem dX10_putStep_97 : decode cX10_putStep 97 = .ok (.invokevirtual 121, 3) := by decide +kernel
theorem dX10_putStep_100 : decode cX10_putStep 100 = .ok (.goto 66, 3) := by decide +kernel
theorem dX10_putStep_103 : decode cX10_putStep 103 = .ok (.lload_n 1, 1) := by decide +kernel
theorem dX10_putStep_104 : decode cX10_putStep 104 = .ok (.ldc2_w 137, 3) := by decide +kernel
theorem dX10_putStep_107 : decode cX10_putStep 107 = .ok (.ladd, 1) := by decide +kernel
theorem dX10_putStep_108 : decode cX10_putStep 108 = .ok (.lconst 0, 1) := by decide +kernel
theorem dX10_putStep_109 : decode cX10_putStep 109 = .ok (.lcmp, 1) := by decide +kernel
theorem dX10_putStep_110 : decode cX10_putStep 110 = .ok (.ifCond .lt 37, 3) := by decide +kernel
theorem dX10_putStep_113 : decode cX10_putStep 113 = .ok (.lload_n 1, 1) := by decide +kernel
theorem dX10_putStep_114 : decode cX10_putStep 114 = .ok (.ldc2_w 137, 3) := by decide +kernel
theorem dX10_putStep_117 : decode cX10_putStep 117 = .ok (.ladd, 1) := by decide +kernel
theorem dX10_putStep_118 : decode cX10_putStep 118 = .ok (.ldc2_w 139, 3) := by decide +kernel
theorem dX10_putStep_121 : decode cX10_putStep 121 = .ok (.lcmp, 1) := by decide +kernel
theorem dX10_putStep_122 : decode cX10_putStep 122 = .ok (.ifCond .gt 25, 3) := by decide +kernel
theorem dX10_putStep_125 : decode cX10_putStep 125 = .ok (.aload_n 0, 1) := by decide +kernel
theorem dX10_putStep_126 : decode cX10_putStep 126 = .ok (.ldc2_w 141, 3) := by decide +kernel
theorem dX10_putStep_129 : decode cX10_putStep 129 = .ok (.iconst 4, 1) := by decide +kernel
theorem dX10_putStep_130 : decode cX10_putStep 130 = .ok (.invokevirtual 121, 3) := by decide +kernel
theorem dX10_putStep_133 : decode cX10_putStep 133 = .ok (.aload_n 0, 1) := by decide +kernel
theorem dX10_putStep_134 : decode cX10_putStep 134 = .ok (.lload_n 1, 1) := by decide +kernel
theorem dX10_putStep_135 : decode cX10_putStep 135 = .ok (.ldc2_w 137, 3) := by decide +kernel
theorem dX10_putStep_138 : decode cX10_putStep 138 = .ok (.ladd, 1) := by decide +kernel
theorem dX10_putStep_139 : decode cX10_putStep 139 = .ok (.bipush 12, 2) := by decide +kernel
theorem dX10_putStep_141 : decode cX10_putStep 141 = .ok (.invokevirtual 121, 3) := by decide +kernel
theorem dX10_putStep_144 : decode cX10_putStep 144 = .ok (.goto 22, 3) := by decide +kernel
theorem dX10_putStep_147 : decode cX10_putStep 147 = .ok (.aload_n 0, 1) := by decide +kernel
theorem dX10_putStep_148 : decode cX10_putStep 148 = .ok (.ldc2_w 143, 3) := by decide +kernel
theorem dX10_putStep_151 : decode cX10_putStep 151 = .ok (.iconst 4, 1) := by decide +kernel
theorem dX10_putStep_152 : decode cX10_putStep 152 = .ok (.invokevirtual 121, 3) := by decide +kernel
theorem dX10_putStep_155 : decode cX10_putStep 155 = .ok (.aload_n 0, 1) := by decide +kernel
theorem dX10_putStep_156 : decode cX10_putStep 156 = .ok (.lload_n 1, 1) := by decide +kernel
theorem dX10_putStep_157 : decode cX10_putStep 157 = .ok (.ldc2_w 145, 3) := by decide +kernel
theorem dX10_putStep_160 : decode cX10_putStep 160 = .ok (.ladd, 1) := by decide +kernel
theorem dX10_putStep_161 : decode cX10_putStep 161 = .ok (.bipush 34, 2) := by decide +kernel
theorem dX10_putStep_163 : decode cX10_putStep 163 = .ok (.invokevirtual 121, 3) := by decide +kernel
theorem dX10_putStep_166 : decode cX10_putStep 166 = .ok (.return_, 1) := by decide +kernel
theorem dX10_putValue_0 : decode cX10_putValue 0 = .ok (.iload_n 1, 1) := by decide +kernel
theorem dX10_putValue_1 : decode cX10_putValue 1 = .ok (.ifCond .ge 14, 3) := by decide +kernel
theorem dX10_putValue_4 : decode cX10_putValue 4 = .ok (.ldc2_w 147, 3) := by decide +kernel
theorem dX10_putValue_7 : decode cX10_putValue 7 = .ok (.iload_n 1, 1) := by decide +kernel
theorem dX10_putValue_8 : decode cX10_putValue 8 = .ok (.i2l, 1) := by decide +kernel
theorem dX10_putValue_9 : decode cX10_putValue 9 = .ok (.lmul, 1) := by decide +kernel
theorem dX10_putValue_10 : decode cX10_putValue 10 = .ok (.lconst 1, 1) := by decide +kernel
theorem dX10_putValue_11 : decode cX10_putValue 11 = .ok (.lsub, 1) := by decide +kernel
theorem dX10_putValue_12 : decode cX10_putValue 12 = .ok (.goto 9, 3) := by decide +kernel
theorem dX10_putValue_15 : decode cX10_putValue 15 = .ok (.ldc2_w 129, 3) := by decide +kernel
theorem dX10_putValue_18 : decode cX10_putValue 18 = .ok (.iload_n 1, 1) := by decide +kernel
theorem dX10_putValue_19 : decode cX10_putValue 19 = .ok (.i2l, 1) := by decide +kernel
theorem dX10_putValue_20 : decode cX10_putValue 20 = .ok (.lmul, 1) := by decide +kernel
theorem dX10_putValue_21 : decode cX10_putValue 21 = .ok (.ldc2_w 149, 3) := by decide +kernel
theorem dX10_putValue_24 : decode cX10_putValue 24 = .ok (.land, 1) := by decide +kernel
theorem dX10_putValue_25 : decode cX10_putValue 25 = .ok (.lstore_n 2, 1) := by decide +kernel
theorem dX10_putValue_26 : decode cX10_putValue 26 = .ok (.lload_n 2, 1) := by decide +kernel
theorem dX10_putValue_27 : decode cX10_putValue 27 = .ok (.lconst 0, 1) := by decide +kernel
theorem dX10_putValue_28 : decode cX10_putValue 28 = .ok (.lcmp, 1) := by decide +kernel
theorem dX10_putValue_29 : decode cX10_putValue 29 = .ok (.ifCond .eq 26, 3) := by decide +kernel
theorem dX10_putValue_32 : decode cX10_putValue 32 = .ok (.aload_n 0, 1) := by decide +kernel
theorem dX10_putValue_33 : decode cX10_putValue 33 = .ok (.lconst 1, 1) := by decide +kernel
theorem dX10_putValue_34 : decode cX10_putValue 34 = .ok (.iconst 1, 1) := by decide +kernel
theorem dX10_putValue_35 : decode cX10_putValue 35 = .ok (.invokevirtual 121, 3) := by decide +kernel
theorem dX10_putValue_38 : decode cX10_putValue 38 = .ok (.aload_n 0, 1) := by decide +kernel
theorem dX10_putValue_39 : decode cX10_putValue 39 = .ok (.lload_n 2, 1) := by decide +kernel
theorem dX10_putValue_40 : decode cX10_putValue 40 = .ok (.ldc2_w 143, 3) := by decide +kernel
theorem dX10_putValue_43 : decode cX10_putValue 43 = .ok (.land, 1) := by decide +kernel
theorem dX10_putValue_44 : decode cX10_putValue 44 = .ok (.iconst 4, 1) := by decide +kernel
theorem dX10_putValue_45 : decode cX10_putValue 45 = .ok (.invokevirtual 121, 3) := by decide +kernel
theorem dX10_putValue_48 : decode cX10_putValue 48 = .ok (.lload_n 2, 1) := by decide +kernel
theorem dX10_putValue_49 : decode cX10_putValue 49 = .ok (.iconst 4, 1) := by decide +kernel
theorem dX10_putValue_50 : decode cX10_putValue 50 = .ok (.lshr, 1) := by decide +kernel
theorem dX10_putValue_51 : decode cX10_putValue 51 = .ok (.lstore_n 2, 1) := by decide +kernel
theorem dX10_putValue_52 : decode cX10_putValue 52 = .ok (.goto (-26), 3) := by decide +kernel
theorem dX10_putValue_55 : decode cX10_putValue 55 = .ok (.aload_n 0, 1) := by decide +kernel
theorem dX10_putValue_56 : decode cX10_putValue 56 = .ok (.lconst 0, 1) := by decide +kernel
theorem dX10_putValue_57 : decode cX10_putValue 57 = .ok (.iconst 1, 1) := by decide +kernel
theorem dX10_putValue_58 : decode cX10_putValue 58 = .ok (.invokevirtual 121, 3) := by decide +kernel
theorem dX10_putValue_61 : decode cX10_putValue 61 = .ok (.return_, 1) := by decide +kernel
theorem dX10_make_0 : decode cX10_make 0 = .ok (.bipush 64, 2) := by decide +kernel
theorem dX10_make_2 : decode cX10_make 2 = .ok (.iload_n 1, 1) := by decide +kernel
theorem dX10_make_3 : decode cX10_make 3 = .ok (.imul, 1) := by decide +kernel
theorem dX10_make_4 : decode cX10_make 4 = .ok (.istore_n 2, 1) := by decide +kernel
theorem dX10_make_5 : decode cX10_make 5 = .ok (.aload_n 0, 1) := by decide +kernel
theorem dX10_make_6 : decode cX10_make 6 = .ok (.getfield 60, 3) := by decide +kernel
theorem dX10_make_9 : decode cX10_make 9 = .ok (.iconst 0, 1) := by decide +kernel
theorem dX10_make_10 : decode cX10_make 10 = .ok (.aload_n 0, 1) := by decide +kernel
theorem dX10_make_11 : decode cX10_make 11 = .ok (.getfield 29, 3) := by decide +kernel
theorem dX10_make_14 : decode cX10_make 14 = .ok (.iload_n 2, 1) := by decide +kernel
theorem dX10_make_15 : decode cX10_make 15 = .ok (.iaload, 1) := by decide +kernel
theorem dX10_make_16 : decode cX10_make 16 = .ok (.iastore, 1) := by decide +kernel
theorem dX10_make_17 : decode cX10_make 17 = .ok (.aload_n 0, 1) := by decide +kernel
theorem dX10_make_18 : decode cX10_make 18 = .ok (.getfield 60, 3) := by decide +kernel
theorem dX10_make_21 : decode cX10_make 21 = .ok (.iconst 1, 1) := by decide +kernel
theorem dX10_make_22 : decode cX10_make 22 = .ok (.aload_n 0, 1) := by decide +kernel
theorem dX10_make_23 : decode cX10_make 23 = .ok (.getfield 32, 3) := by decide +kernel
theorem dX10_make_26 : decode cX10_make 26 = .ok (.iload_n 2, 1) := by decide +kernel
theorem dX10_make_27 : decode cX10_make 27 = .ok (.iaload, 1) := by decide +kernel
theorem dX10_make_28 : decode cX10_make 28 = .ok (.iastore, 1) := by decide +kernel
theorem dX10_make_29 : decode cX10_make 29 = .ok (.aload_n 0, 1) := by decide +kernel
theorem dX10_make_30 : decode cX10_make 30 = .ok (.iconst 0, 1) := by decide +kernel
theorem dX10_make_31 : decode cX10_make 31 = .ok (.putfield 118, 3) := by decide +kernel
theorem dX10_make_34 : decode cX10_make 34 = .ok (.lconst 0, 1) := by decide +kernel
theorem dX10_make_35 : decode cX10_make 35 = .ok (.lstore_n 3, 1) := by decide +kernel
theorem dX10_make_36 : decode cX10_make 36 = .ok (.iconst 1, 1) := by decide +kernel
theorem dX10_make_37 : decode cX10_make 37 = .ok (.istore 5, 2) := by decide +kernel
theorem dX10_make_39 : decode cX10_make 39 = .ok (.iload 5, 2) := by decide +kernel
theorem dX10_make_41 : decode cX10_make 41 = .ok (.aload_n 0, 1) := by decide +kernel
theorem dX10_make_42 : decode cX10_make 42 = .ok (.getfield 20, 3) := by decide +kernel
theorem dX10_make_45 : decode cX10_make 45 = .ok (.iload_n 1, 1) := by decide +kernel
theorem dX10_make_46 : decode cX10_make 46 = .ok (.iaload, 1) := by decide +kernel
theorem dX10_make_47 : decode cX10_make 47 = .ok (.if_icmp .ge 70, 3) := by decide +kernel
theorem dX10_make_50 : decode cX10_make 50 = .ok (.aload_n 0, 1) := by decide +kernel
theorem dX10_make_51 : decode cX10_make 51 = .ok (.getfield 29, 3) := by decide +kernel
theorem dX10_make_54 : decode cX10_make 54 = .ok (.iload_n 2, 1) := by decide +kernel
theorem dX10_make_55 : decode cX10_make 55 = .ok (.iload 5, 2) := by decide +kernel
theorem dX10_make_57 : decode cX10_make 57 = .ok (.iadd, 1) := by decide +kernel
theorem dX10_make_58 : decode cX10_make 58 = .ok (.iaload, 1) := by decide +kernel
theorem dX10_make_59 : decode cX10_make 59 = .ok (.i2l, 1) := by decide +kernel
theorem dX10_make_60 : decode cX10_make 60 = .ok (.aload_n 0, 1) := by decide +kernel
theorem dX10_make_61 : decode cX10_make 61 = .ok (.getfield 29, 3) := by decide +kernel
theorem dX10_make_64 : decode cX10_make 64 = .ok (.iload_n 2, 1) := by decide +kernel
theorem dX10_make_65 : decode cX10_make 65 = .ok (.iload 5, 2) := by decide +kernel
theorem dX10_make_67 : decode cX10_make 67 = .ok (.iadd, 1) := by decide +kernel
theorem dX10_make_68 : decode cX10_make 68 = .ok (.iconst 1, 1) := by decide +kernel
theorem dX10_make_69 : decode cX10_make 69 = .ok (.isub, 1) := by decide +kernel
theorem dX10_make_70 : decode cX10_make 70 = .ok (.iaload, 1) := by decide +kernel
theorem dX10_make_71 : decode cX10_make 71 = .ok (.i2l, 1) := by decide +kernel
theorem dX10_make_72 : decode cX10_make 72 = .ok (.lsub, 1) := by decide +kernel
theorem dX10_make_73 : decode cX10_make 73 = .ok (.lstore 6, 2) := by decide +kernel
theorem dX10_make_75 : decode cX10_make 75 = .ok (.aload_n 0, 1) := by decide +kernel
theorem dX10_make_76 : decode cX10_make 76 = .ok (.lload 6, 2) := by decide +kernel
theorem dX10_make_78 : decode cX10_make 78 = .ok (.lload_n 3, 1) := by decide +kernel
theorem dX10_make_79 : decode cX10_make 79 = .ok (.lsub, 1) := by decide +kernel
theorem dX10_make_80 : decode cX10_make 80 = .ok (.invokevirtual 151, 3) := by decide +kernel
theorem dX10_make_83 : decode cX10_make 83 = .ok (.lload 6, 2) := by decide +kernel
theorem dX10_make_85 : decode cX10_make 85 = .ok (.lstore_n 3, 1) := by decide +kernel
theorem dX10_make_86 : decode cX10_make 86 = .ok (.aload_n 0, 1) := by decide +kernel
theorem dX10_make_87 : decode cX10_make 87 = .ok (.aload_n 0, 1) := by decide +kernel
theorem dX10_make_88 : decode cX10_make 88 = .ok (.getfield 32, 3) := by decide +kernel
theorem dX10_make_91 : decode cX10_make 91 = .ok (.iload_n 2, 1) := by decide +kernel
theorem dX10_make_92 : decode cX10_make 92 = .ok (.iload 5, 2) := by decide +kernel
theorem dX10_make_94 : decode cX10_make 94 = .ok (.iadd, 1) := by decide +kernel
theorem dX10_make_95 : decode cX10_make 95 = .ok (.iaload, 1) := by decide +kernel
theorem dX10_make_96 : decode cX10_make 96 = .ok (.aload_n 0, 1) := by decide +kernel
theorem dX10_make_97 : decode cX10_make 97 = .ok (.getfield 32, 3) := by decide +kernel
theorem dX10_make_100 : decode cX10_make 100 = .ok (.iload_n 2, 1) := by decide +kernel
theorem dX10_make_101 : decode cX10_make 101 = .ok (.iload 5, 2) := by decide +kernel
theorem dX10_make_103 : decode cX10_make 103 = .ok (.iadd, 1) := by decide +kernel
theorem dX10_make_104 : decode cX10_make 104 = .ok (.iconst 1, 1) := by decide +kernel
theorem dX10_make_105 : decode cX10_make 105 = .ok (.isub, 1) := by decide +kernel
theorem dX10_make_106 : decode cX10_make 106 = .ok (.iaload, 1) := by decide +kernel
theorem dX10_make_107 : decode cX10_make 107 = .ok (.isub, 1) := by decide +kernel
theorem dX10_make_108 : decode cX10_make 108 = .ok (.invokevirtual 155, 3) := by decide +kernel
theorem dX10_make_111 : decode cX10_make 111 = .ok (.iinc 5 1, 3) := by decide +kernel
theorem dX10_make_114 : decode cX10_make 114 = .ok (.goto (-75), 3) := by decide +kernel
theorem dX10_make_117 : decode cX10_make 117 = .ok (.iconst 2, 1) := by decide +kernel
theorem dX10_make_118 : decode cX10_make 118 = .ok (.aload_n 0, 1) := by decide +kernel
theorem dX10_make_119 : decode cX10_make 119 = .ok (.getfield 118, 3) := by decide +kernel
theorem dX10_make_122 : decode cX10_make 122 = .ok (.bipush 31, 2) := by decide +kernel
theorem dX10_make_124 : decode cX10_make 124 = .ok (.iadd, 1) := by decide +kernel
theorem dX10_make_125 : decode cX10_make 125 = .ok (.bipush 32, 2) := by decide +kernel
theorem dX10_make_127 : decode cX10_make 127 = .ok (.idiv, 1) := by decide +kernel
theorem dX10_make_128 : decode cX10_make 128 = .ok (.iadd, 1) := by decide +kernel
theorem dX10_make_129 : decode cX10_make 129 = .ok (.ireturn, 1) := by decide +kernel
theorem dX10_take_0 : decode cX10_take 0 = .ok (.lconst 0, 1) := by decide +kernel
theorem dX10_take_1 : decode cX10_take 1 = .ok (.lstore_n 2, 1) := by decide +kernel
theorem dX10_take_2 : decode cX10_take 2 = .ok (.iconst 0, 1) := by decide +kernel
theorem dX10_take_3 : decode cX10_take 3 = .ok (.istore 4, 2) := by decide +kernel
theorem dX10_take_5 : decode cX10_take 5 = .ok (.iload 4, 2) := by decide +kernel
theorem dX10_take_7 : decode cX10_take 7 = .ok (.iload_n 1, 1) := by decide +kernel
theorem dX10_take_8 : decode cX10_take 8 = .ok (.if_icmp .ge 57, 3) := by decide +kernel
theorem dX10_take_11 : decode cX10_take 11 = .ok (.ldc2_w 129, 3) := by decide +kernel
theorem dX10_take_14 : decode cX10_take 14 = .ok (.lload_n 2, 1) := by decide +kernel
theorem dX10_take_15 : decode cX10_take 15 = .ok (.lmul, 1) := by decide +kernel
theorem dX10_take_16 : decode cX10_take 16 = .ok (.aload_n 0, 1) := by decide +kernel
theorem dX10_take_17 : decode cX10_take 17 = .ok (.getfield 7, 3) := by decide +kernel
theorem dX10_take_20 : decode cX10_take 20 = .ok (.aload_n 0, 1) := by decide +kernel
theorem dX10_take_21 : decode cX10_take 21 = .ok (.getfield 159, 3) := by decide +kernel
theorem dX10_take_24 : decode cX10_take 24 = .ok (.aload_n 0, 1) := by decide +kernel
theorem dX10_take_25 : decode cX10_take 25 = .ok (.getfield 118, 3) := by decide +kernel
theorem dX10_take_28 : decode cX10_take 28 = .ok (.bipush 32, 2) := by decide +kernel
theorem dX10_take_30 : decode cX10_take 30 = .ok (.idiv, 1) := by decide +kernel
theorem dX10_take_31 : decode cX10_take 31 = .ok (.iadd, 1) := by decide +kernel
theorem dX10_take_32 : decode cX10_take 32 = .ok (.iaload, 1) := by decide +kernel
theorem dX10_take_33 : decode cX10_take 33 = .ok (.bipush 31, 2) := by decide +kernel
theorem dX10_take_35 : decode cX10_take 35 = .ok (.aload_n 0, 1) := by decide +kernel
theorem dX10_take_36 : decode cX10_take 36 = .ok (.getfield 118, 3) := by decide +kernel
theorem dX10_take_39 : decode cX10_take 39 = .ok (.bipush 32, 2) := by decide +kernel
theorem dX10_take_41 : decode cX10_take 41 = .ok (.irem, 1) := by decide +kernel
theorem dX10_take_42 : decode cX10_take 42 = .ok (.isub, 1) := by decide +kernel
theorem dX10_take_43 : decode cX10_take 43 = .ok (.ishr, 1) := by decide +kernel
theorem dX10_take_44 : decode cX10_take 44 = .ok (.iconst 1, 1) := by decide +kernel
theorem dX10_take_45 : decode cX10_take 45 = .ok (.iand, 1) := by decide +kernel
theorem dX10_take_46 : decode cX10_take 46 = .ok (.i2l, 1) := by decide +kernel
theorem dX10_take_47 : decode cX10_take 47 = .ok (.ladd, 1) := by decide +kernel
theorem dX10_take_48 : decode cX10_take 48 = .ok (.lstore_n 2, 1) := by decide +kernel
theorem dX10_take_49 : decode cX10_take 49 = .ok (.aload_n 0, 1) := by decide +kernel
theorem dX10_take_50 : decode cX10_take 50 = .ok (.dup, 1) := by decide +kernel
theorem dX10_take_51 : decode cX10_take 51 = .ok (.getfield 118, 3) := by decide +kernel
theorem dX10_take_54 : decode cX10_take 54 = .ok (.iconst 1, 1) := by decide +kernel
theorem dX10_take_55 : decode cX10_take 55 = .ok (.iadd, 1) := by decide +kernel
theorem dX10_take_56 : decode cX10_take 56 = .ok (.putfield 118, 3) := by decide +kernel
theorem dX10_take_59 : decode cX10_take 59 = .ok (.iinc 4 1, 3) := by decide +kernel
theorem dX10_take_62 : decode cX10_take 62 = .ok (.goto (-57), 3) := by decide +kernel
theorem dX10_take_65 : decode cX10_take 65 = .ok (.lload_n 2, 1) := by decide +kernel
theorem dX10_take_66 : decode cX10_take 66 = .ok (.lreturn, 1) := by decide +kernel
theorem dX10_takeStep_0 : decode cX10_takeStep 0 = .ok (.aload_n 0, 1) := by decide +kernel
theorem dX10_takeStep_1 : decode cX10_takeStep 1 = .ok (.iconst 1, 1) := by decide +kernel
theorem dX10_takeStep_2 : decode cX10_takeStep 2 = .ok (.invokevirtual 162, 3) := by decide +kernel
theorem dX10_takeStep_5 : decode cX10_takeStep 5 = .ok (.lconst 0, 1) := by decide +kernel
theorem dX10_takeStep_6 : decode cX10_takeStep 6 = .ok (.lcmp, 1) := by decide +kernel
theorem dX10_takeStep_7 : decode cX10_takeStep 7 = .ok (.ifCond .ne 5, 3) := by decide +kernel
theorem dX10_takeStep_10 : decode cX10_takeStep 10 = .ok (.lconst 0, 1) := by decide +kernel
theorem dX10_takeStep_11 : decode cX10_takeStep 11 = .ok (.lreturn, 1) := by decide +kernel
theorem dX10_takeStep_12 : decode cX10_takeStep 12 = .ok (.aload_n 0, 1) := by decide +kernel
theorem dX10_takeStep_13 : decode cX10_takeStep 13 = .ok (.iconst 1, 1) := by decide +kernel
theorem dX10_takeStep_14 : decode cX10_takeStep 14 = .ok (.invokevirtual 162, 3) := by decide +kernel
theorem dX10_takeStep_17 : decode cX10_takeStep 17 = .ok (.lconst 0, 1) := by decide +kernel
theorem dX10_takeStep_18 : decode cX10_takeStep 18 = .ok (.lcmp, 1) := by decide +kernel
theorem dX10_takeStep_19 : decode cX10_takeStep 19 = .ok (.ifCond .ne 14, 3) := by decide +kernel
theorem dX10_takeStep_22 : decode cX10_takeStep 22 = .ok (.aload_n 0, 1) := by decide +kernel
theorem dX10_takeStep_23 : decode cX10_takeStep 23 = .ok (.bipush 7, 2) := by decide +kernel
theorem dX10_takeStep_25 : decode cX10_takeStep 25 = .ok (.invokevirtual 162, 3) := by decide +kernel
theorem dX10_takeStep_28 : decode cX10_takeStep 28 = .ok (.ldc2_w 125, 3) := by decide +kernel
theorem dX10_takeStep_31 : decode cX10_takeStep 31 = .ok (.lsub, 1) := by decide +kernel
theorem dX10_takeStep_32 : decode cX10_takeStep 32 = .ok (.lreturn, 1) := by decide +kernel
theorem dX10_takeStep_33 : decode cX10_takeStep 33 = .ok (.aload_n 0, 1) := by decide +kernel
theorem dX10_takeStep_34 : decode cX10_takeStep 34 = .ok (.iconst 1, 1) := by decide +kernel
theorem dX10_takeStep_35 : decode cX10_takeStep 35 = .ok (.invokevirtual 162, 3) := by decide +kernel
theorem dX10_takeStep_38 : decode cX10_takeStep 38 = .ok (.lconst 0, 1) := by decide +kernel
theorem dX10_takeStep_39 : decode cX10_takeStep 39 = .ok (.lcmp, 1) := by decide +kernel
theorem dX10_takeStep_40 : decode cX10_takeStep 40 = .ok (.ifCond .ne 14, 3) := by decide +kernel
theorem dX10_takeStep_43 : decode cX10_takeStep 43 = .ok (.aload_n 0, 1) := by decide +kernel
theorem dX10_takeStep_44 : decode cX10_takeStep 44 = .ok (.bipush 9, 2) := by decide +kernel
theorem dX10_takeStep_46 : decode cX10_takeStep 46 = .ok (.invokevirtual 162, 3) := by decide +kernel
theorem dX10_takeStep_49 : decode cX10_takeStep 49 = .ok (.ldc2_w 131, 3) := by decide +kernel
theorem dX10_takeStep_52 : decode cX10_takeStep 52 = .ok (.lsub, 1) := by decide +kernel
theorem dX10_takeStep_53 : decode cX10_takeStep 53 = .ok (.lreturn, 1) := by decide +kernel
theorem dX10_takeStep_54 : decode cX10_takeStep 54 = .ok (.aload_n 0, 1) := by decide +kernel
theorem dX10_takeStep_55 : decode cX10_takeStep 55 = .ok (.iconst 1, 1) := by decide +kernel
theorem dX10_takeStep_56 : decode cX10_takeStep 56 = .ok (.invokevirtual 162, 3) := by decide +kernel
theorem dX10_takeStep_59 : decode cX10_takeStep 59 = .ok (.lconst 0, 1) := by decide +kernel
theorem dX10_takeStep_60 : decode cX10_takeStep 60 = .ok (.lcmp, 1) := by decide +kernel
theorem dX10_takeStep_61 : decode cX10_takeStep 61 = .ok (.ifCond .ne 16, 3) := by decide +kernel
theorem dX10_takeStep_64 : decode cX10_takeStep 64 = .ok (.aload_n 0, 1) := by decide +kernel
theorem dX10_takeStep_65 : decode cX10_takeStep 65 = .ok (.bipush 12, 2) := by decide +kernel
theorem dX10_takeStep_67 : decode cX10_takeStep 67 = .ok (.invokevirtual 162, 3) := by decide +kernel
theorem dX10_takeStep_70 : decode cX10_takeStep 70 = .ok (.ldc2_w 137, 3) := by decide +kernel
theorem dX10_takeStep_73 : decode cX10_takeStep 73 = .ok (.lsub, 1) := by decide +kernel
theorem dX10_takeStep_74 : decode cX10_takeStep 74 = .ok (.goto 13, 3) := by decide +kernel
theorem dX10_takeStep_77 : decode cX10_takeStep 77 = .ok (.aload_n 0, 1) := by decide +kernel
theorem dX10_takeStep_78 : decode cX10_takeStep 78 = .ok (.bipush 34, 2) := by decide +kernel
theorem dX10_takeStep_80 : decode cX10_takeStep 80 = .ok (.invokevirtual 162, 3) := by decide +kernel
theorem dX10_takeStep_83 : decode cX10_takeStep 83 = .ok (.ldc2_w 145, 3) := by decide +kernel
theorem dX10_takeStep_86 : decode cX10_takeStep 86 = .ok (.lsub, 1) := by decide +kernel
theorem dX10_takeStep_87 : decode cX10_takeStep 87 = .ok (.lreturn, 1) := by decide +kernel
theorem dX10_takeValue_0 : decode cX10_takeValue 0 = .ok (.lconst 0, 1) := by decide +kernel
theorem dX10_takeValue_1 : decode cX10_takeValue 1 = .ok (.lstore_n 1, 1) := by decide +kernel
theorem dX10_takeValue_2 : decode cX10_takeValue 2 = .ok (.iconst 0, 1) := by decide +kernel
theorem dX10_takeValue_3 : decode cX10_takeValue 3 = .ok (.istore_n 3, 1) := by decide +kernel
theorem dX10_takeValue_4 : decode cX10_takeValue 4 = .ok (.aload_n 0, 1) := by decide +kernel
theorem dX10_takeValue_5 : decode cX10_takeValue 5 = .ok (.iconst 1, 1) := by decide +kernel
theorem dX10_takeValue_6 : decode cX10_takeValue 6 = .ok (.invokevirtual 162, 3) := by decide +kernel
theorem dX10_takeValue_9 : decode cX10_takeValue 9 = .ok (.lconst 1, 1) := by decide +kernel
theorem dX10_takeValue_10 : decode cX10_takeValue 10 = .ok (.lcmp, 1) := by decide +kernel
theorem dX10_takeValue_11 : decode cX10_takeValue 11 = .ok (.ifCond .ne 19, 3) := by decide +kernel
theorem dX10_takeValue_14 : decode cX10_takeValue 14 = .ok (.lload_n 1, 1) := by decide +kernel
theorem dX10_takeValue_15 : decode cX10_takeValue 15 = .ok (.aload_n 0, 1) := by decide +kernel
theorem dX10_takeValue_16 : decode cX10_takeValue 16 = .ok (.iconst 4, 1) := by decide +kernel
theorem dX10_takeValue_17 : decode cX10_takeValue 17 = .ok (.invokevirtual 162, 3) := by decide +kernel
theorem dX10_takeValue_20 : decode cX10_takeValue 20 = .ok (.iload_n 3, 1) := by decide +kernel
theorem dX10_takeValue_21 : decode cX10_takeValue 21 = .ok (.lshl, 1) := by decide +kernel
theorem dX10_takeValue_22 : decode cX10_takeValue 22 = .ok (.lor, 1) := by decide +kernel
theorem dX10_takeValue_23 : decode cX10_takeValue 23 = .ok (.lstore_n 1, 1) := by decide +kernel
theorem dX10_takeValue_24 : decode cX10_takeValue 24 = .ok (.iinc 3 4, 3) := by decide +kernel
theorem dX10_takeValue_27 : decode cX10_takeValue 27 = .ok (.goto (-23), 3) := by decide +kernel
theorem dX10_takeValue_30 : decode cX10_takeValue 30 = .ok (.lload_n 1, 1) := by decide +kernel
theorem dX10_takeValue_31 : decode cX10_takeValue 31 = .ok (.ldc2_w 129, 3) := by decide +kernel
theorem dX10_takeValue_34 : decode cX10_takeValue 34 = .ok (.lrem, 1) := by decide +kernel
theorem dX10_takeValue_35 : decode cX10_takeValue 35 = .ok (.lconst 0, 1) := by decide +kernel
theorem dX10_takeValue_36 : decode cX10_takeValue 36 = .ok (.lcmp, 1) := by decide +kernel
theorem dX10_takeValue_37 : decode cX10_takeValue 37 = .ok (.ifCond .ne 11, 3) := by decide +kernel
theorem dX10_takeValue_40 : decode cX10_takeValue 40 = .ok (.lload_n 1, 1) := by decide +kernel
theorem dX10_takeValue_41 : decode cX10_takeValue 41 = .ok (.ldc2_w 129, 3) := by decide +kernel
theorem dX10_takeValue_44 : decode cX10_takeValue 44 = .ok (.ldiv, 1) := by decide +kernel
theorem dX10_takeValue_45 : decode cX10_takeValue 45 = .ok (.goto 11, 3) := by decide +kernel
theorem dX10_takeValue_48 : decode cX10_takeValue 48 = .ok (.lload_n 1, 1) := by decide +kernel
theorem dX10_takeValue_49 : decode cX10_takeValue 49 = .ok (.ldc2_w 129, 3) := by decide +kernel
theorem dX10_takeValue_52 : decode cX10_takeValue 52 = .ok (.ldiv, 1) := by decide +kernel
theorem dX10_takeValue_53 : decode cX10_takeValue 53 = .ok (.lneg, 1) := by decide +kernel
theorem dX10_takeValue_54 : decode cX10_takeValue 54 = .ok (.lconst 1, 1) := by decide +kernel
theorem dX10_takeValue_55 : decode cX10_takeValue 55 = .ok (.lsub, 1) := by decide +kernel
theorem dX10_takeValue_56 : decode cX10_takeValue 56 = .ok (.l2i, 1) := by decide +kernel
theorem dX10_takeValue_57 : decode cX10_takeValue 57 = .ok (.ireturn, 1) := by decide +kernel
abbrev rm_X10_put : Room := { frames := 0, cells := 0, slots := 0, locals := 0 }
theorem hd_X10_put : yX10_put.cls = RX10 ∧ yX10_put.cls ≠ "java/lang/invoke/MethodHandle" ∧ yX10_put.cls ≠ "java/lang/invoke/VarHandle" ∧ (parseMethodDescriptor yX10_put.desc).map (fun d => d.parameters.length) = some 2 := by decide +kernel
set_option maxHeartbeats 4000000 in
set_option maxRecDepth 100000 in
theorem c_X10_put (l : Launch) (G : va_G) (cI cZ cJ : ClassId) (aM aMdisk aMits aMmany aMplace aMlength aMtimes aMvalues aMorder aMheadOf aMheadTime aMheadValue aMnext aMisNew aMcursorTime aMcursorValue aMmade : Nat) (M_thrown : Int32) (M_series : Int32) (M_most : Int32) (M_ratio : Int32) (M_writes : Int32) (M_fuse : Int32) (M_down : Int32) (M_recovers : Int32) (M_looks : Int32) (M_unpacked : Int32) (M_chunks : Int32) (M_epoch : Int32) (M_side : Int32) (M_logged : Int32) (M_nexts : Int32) (M_hasCursor : Int32) (M_cursorMany : Int32) (M_cursorAt : Int32) (M_bits : Int32) (M_from : Int32) (M_askMany : Int32) (M_askLeast : Int32) (M_askGreatest : Int32) (M_askSum : Int64) (M_made : Nat → Int32) (p0 : Int64) (p1 : Int32) {o_M_bits : Int32} {o_M_made : Nat → Int32} (hfin : m_X10_put M_bits M_made p0 p1 = some (o_M_bits, o_M_made)) : CT l yX10_put cX10_put 5 none rm_X10_put G (tyC cI cZ cJ) [.ref aM, .long p0, .int p1] [oX10 aM M_thrown M_series M_most M_ratio aMdisk M_writes M_fuse M_down M_recovers M_looks M_unpacked aMits aMmany aMplace aMlength aMtimes aMvalues aMorder M_chunks M_epoch M_side aMheadOf aMheadTime aMheadValue M_logged aMnext aMisNew M_nexts aMcursorTime aMcursorValue M_hasCursor M_cursorMany M_cursorAt aMmade M_bits M_from M_askMany M_askLeast M_askGreatest M_askSum, rI aMmade cI 200 M_made] none [oX10 aM M_thrown M_series M_most M_ratio aMdisk M_writes M_fuse M_down M_recovers M_looks M_unpacked aMits aMmany aMplace aMlength aMtimes aMvalues aMorder M_chunks M_epoch M_side aMheadOf aMheadTime aMheadValue M_logged aMnext aMisNew M_nexts aMcursorTime aMcursorValue M_hasCursor M_cursorMany M_cursorAt aMmade o_M_bits M_from M_askMany M_askLeast M_askGreatest M_askSum, rI aMmade cI 200 o_M_made] := by
  refine CT.ofW (lvl := [(0, .ref aM), (1, .long p0), (3, .int p1)]) (by decide) (Nat.le_of_ble_eq_true rfl) rfl ?_
  intro p e s m args below meth c A ls0 QQ hQQ hx hb hml hr hlocks htc hN hown hK hA hw0 hl0
  rw [m_X10_put] at hfin
  refine lv_iload_n hx hb dX10_put_0 rfl (lv_at hl0 2 rfl) ?_
  refine lv_iconst (v := (1 : Int32)) hx hb dX10_put_1 (by decide) ?_
  refine lv_isub hx hb dX10_put_2 ?_
  refine lv_istore (lv' := [(4, .int (p1 - (1 : Int32))), (0, .ref aM), (1, .long p0), (3, .int p1)]) hx hb dX10_put_3 hl0 (by decide) rfl (fun ls1 hl1 => ?_)
  clear hl0 ls0
  replace hfin := ob2_some hfin
  obtain ⟨M_bits_9, M_made_10, hL_5, hfin⟩ := hfin
  have kx_6 : ∀ (H : Heap) (locs : List Loc) (ls : Array Slot), wS G A s H locs [oX10 aM M_thrown M_series M_most M_ratio aMdisk M_writes M_fuse M_down M_recovers M_looks M_unpacked aMits aMmany aMplace aMlength aMtimes aMvalues aMorder M_chunks M_epoch M_side aMheadOf aMheadTime aMheadValue M_logged aMnext aMisNew M_nexts aMcursorTime aMcursorValue M_hasCursor M_cursorMany M_cursorAt aMmade M_bits_9 M_from M_askMany M_askLeast M_askGreatest M_askSum, rI aMmade cI 200 M_made_10] → lv_has ls 5 [] → W p l e rm_X10_put s m args below meth c H locs 0 0 QQ (F0 m 91 ls []) := by
    clear hw0 hl1 ls1 hL_5
    intro H30 locs30 ls30 hw30 hl30
    cases hfin
    rw [hQQ]
    exact ct_vret hx hb hr hlocks hw30.1 hw30.2.1 hw30.2.2 dX10_put_91
  have lp_7 : ∀ (n : Nat) (v4_2 : Int32) (M_bits_3 : Int32) (M_made_4 : Nat → Int32), lp_X10_put_5 p0 n v4_2 M_bits_3 M_made_4 = some (M_bits_9, M_made_10) → ∀ (H : Heap) (locs : List Loc) (ls : Array Slot), wS G A s H locs [oX10 aM M_thrown M_series M_most M_ratio aMdisk M_writes M_fuse M_down M_recovers M_looks M_unpacked aMits aMmany aMplace aMlength aMtimes aMvalues aMorder M_chunks M_epoch M_side aMheadOf aMheadTime aMheadValue M_logged aMnext aMisNew M_nexts aMcursorTime aMcursorValue M_hasCursor M_cursorMany M_cursorAt aMmade M_bits_3 M_from M_askMany M_askLeast M_askGreatest M_askSum, rI aMmade cI 200 M_made_4] → lv_has ls 5 [(0, .ref aM), (1, .long p0), (4, .int v4_2)] → W p l e rm_X10_put s m args below meth c H locs 0 0 QQ (F0 m 5 ls []) := by
    clear hw0 hl1 ls1 hfin
    intro n
    induction n with
    | zero =>
      intro v4_2 M_bits_3 M_made_4 hB_8
      exact absurd hB_8 (by rw [lp_X10_put_5]; exact fun h9 => nomatch h9)
    | succ n ih =>
      intro v4_2 M_bits_3 M_made_4 hB_8 H11 locs11 ls11 hw11 hl11
      rw [lp_X10_put_5] at hB_8
      refine lv_iload hx hb dX10_put_5 (lv_at hl11 2 rfl) ?_
      refine lv_if_lt (tgt := 91) hx hb dX10_put_7 (by decide) (fun c_12 => ?_) (fun c_12 => ?_)
      · replace hB_8 := it_t c_12 hB_8
        cases hB_8
        exact kx_6 _ _ _ hw11 (lv_sub hl11 [] rfl)
      · replace hB_8 := it_f c_12 hB_8
        refine lv_aload_n hx hb dX10_put_10 rfl (lv_at hl11 0 rfl) ?_
        refine va_get (D := G) (ci := 10) (v := .int M_bits_3) (C := RX10) (T := TX10) (N := 40) hx hb htc iX10 hown hK hw11.1 0 rfl rfl 34 (by decide) (htc _ mw_981) (fun _ h9 => h9) rfl dX10_put_11 ?_
        refine lv_bipush (v := (32 : Int32)) hx hb dX10_put_14 (by decide) ?_
        refine lv_irem hx hb dX10_put_16 (by decide) ?_
        replace hB_8 := ob1_some hB_8
        obtain ⟨M_made_13, hJ_14, hB_8⟩ := hB_8
        have kj_15 : ∀ (H : Heap) (locs : List Loc) (ls : Array Slot), wS G A s H locs [oX10 aM M_thrown M_series M_most M_ratio aMdisk M_writes M_fuse M_down M_recovers M_looks M_unpacked aMits aMmany aMplace aMlength aMtimes aMvalues aMorder M_chunks M_epoch M_side aMheadOf aMheadTime aMheadValue M_logged aMnext aMisNew M_nexts aMcursorTime aMcursorValue M_hasCursor M_cursorMany M_cursorAt aMmade M_bits_3 M_from M_askMany M_askLeast M_askGreatest M_askSum, rI aMmade cI 200 M_made_13] → lv_has ls 5 [(0, .ref aM), (1, .long p0), (4, .int v4_2)] → W p l e rm_X10_put s m args below meth c H locs 0 0 QQ (F0 m 35 ls []) := by
          clear hw11 H11 locs11 hl11 ls11 hJ_14
          intro H19 locs19 ls19 hw19 hl19
          refine lv_lload_n hx hb dX10_put_35 rfl (lv_at hl19 1 rfl) ?_
          refine lv_iload hx hb dX10_put_36 (lv_at hl19 2 rfl) ?_
          refine lv_lshr hx hb dX10_put_38 rfl ?_
          refine lv_lconst (v := (1 : Int64)) hx hb dX10_put_39 (by decide) ?_
          refine lv_land hx hb dX10_put_40 ?_
          refine lv_lconst (v := (1 : Int64)) hx hb dX10_put_41 (by decide) ?_
          refine W.lcmp hx hb dX10_put_42 ?_
          replace hB_8 := ob1_some hB_8
          obtain ⟨M_made_20, hJ_21, hB_8⟩ := hB_8
          have kj_22 : ∀ (H : Heap) (locs : List Loc) (ls : Array Slot), wS G A s H locs [oX10 aM M_thrown M_series M_most M_ratio aMdisk M_writes M_fuse M_down M_recovers M_looks M_unpacked aMits aMmany aMplace aMlength aMtimes aMvalues aMorder M_chunks M_epoch M_side aMheadOf aMheadTime aMheadValue M_logged aMnext aMisNew M_nexts aMcursorTime aMcursorValue M_hasCursor M_cursorMany M_cursorAt aMmade M_bits_3 M_from M_askMany M_askLeast M_askGreatest M_askSum, rI aMmade cI 200 M_made_20] → lv_has ls 5 [(0, .ref aM), (1, .long p0), (4, .int v4_2)] → W p l e rm_X10_put s m args below meth c H locs 0 0 QQ (F0 m 75 ls []) := by
            clear hw19 H19 locs19 hl19 ls19 hJ_21
            intro H27 locs27 ls27 hw27 hl27
            refine lv_aload_n hx hb dX10_put_75 rfl (lv_at hl27 0 rfl) ?_
            refine lv_dup hx hb dX10_put_76 rfl ?_
            refine va_get (D := G) (ci := 10) (v := .int M_bits_3) (C := RX10) (T := TX10) (N := 40) hx hb htc iX10 hown hK hw27.1 0 rfl rfl 34 (by decide) (htc _ mw_981) (fun _ h9 => h9) rfl dX10_put_77 ?_
            refine lv_iconst (v := (1 : Int32)) hx hb dX10_put_80 (by decide) ?_
            refine lv_iadd hx hb dX10_put_81 ?_
            refine va_put (D := G) (ci := 10) (v := .int (M_bits_3 + (1 : Int32))) (ty := .int) (C := RX10) (T := TX10) (N := 40) hx hb htc iX10 tyX10 tyX10_ok nmX10 hown hK hw27.1 hw27.2.1 hw27.2.2 0 rfl rfl 34 (by decide) (htc _ mw_981) (fun _ h9 => h9) rfl (tyX10_ok 34 (by decide)) rfl rfl (Nat.le_of_ble_eq_true rfl) dX10_put_82 (fun H28 locs28 hP hD hS => ?_)
            have hw28 : wS G A s H28 locs28 [oX10 aM M_thrown M_series M_most M_ratio aMdisk M_writes M_fuse M_down M_recovers M_looks M_unpacked aMits aMmany aMplace aMlength aMtimes aMvalues aMorder M_chunks M_epoch M_side aMheadOf aMheadTime aMheadValue M_logged aMnext aMisNew M_nexts aMcursorTime aMcursorValue M_hasCursor M_cursorMany M_cursorAt aMmade (M_bits_3 + (1 : Int32)) M_from M_askMany M_askLeast M_askGreatest M_askSum, rI aMmade cI 200 M_made_20] := ⟨hP, hD, hS⟩
            clear hP hD hS hw27 H27 locs27
            refine lv_iinc (v := (v4_2 + (-1 : Int32))) (lv' := [(4, .int (v4_2 + (-1 : Int32))), (0, .ref aM), (1, .long p0)]) hx hb dX10_put_85 hl27 (k := 2) rfl rfl (by decide) rfl (fun ls29 hl29 => ?_)
            clear hl27 ls27
            refine lv_goto (tgt := 5) hx hb dX10_put_88 (by decide) ?_
            exact ih (v4_2 + (-1 : Int32)) (M_bits_3 + (1 : Int32)) M_made_20 hB_8 _ _ _ hw28 (lv_sub hl29 [1, 2, 0] rfl)
          clear hB_8
          refine lv_if_ne (tgt := 75) hx hb dX10_put_43 (by decide) (fun c_23 => ?_) (fun c_23 => ?_)
          · replace hJ_21 := it_f c_23 hJ_21
            cases hJ_21
            exact kj_22 _ _ _ hw19 (lv_sub hl19 [0, 1, 2] rfl)
          · replace hJ_21 := it_t c_23 hJ_21
            refine lv_aload_n hx hb dX10_put_46 rfl (lv_at hl19 0 rfl) ?_
            refine va_get (D := G) (ci := 10) (v := .ref aMmade) (C := RX10) (T := TX10) (N := 40) hx hb htc iX10 hown hK hw19.1 0 rfl rfl 33 (by decide) (htc _ mw_980) (fun _ h9 => h9) rfl dX10_put_47 ?_
            refine lv_iconst (v := (2 : Int32)) hx hb dX10_put_50 (by decide) ?_
            refine lv_aload_n hx hb dX10_put_51 rfl (lv_at hl19 0 rfl) ?_
            refine va_get (D := G) (ci := 10) (v := .int M_bits_3) (C := RX10) (T := TX10) (N := 40) hx hb htc iX10 hown hK hw19.1 0 rfl rfl 34 (by decide) (htc _ mw_981) (fun _ h9 => h9) rfl dX10_put_52 ?_
            refine lv_bipush (v := (32 : Int32)) hx hb dX10_put_55 (by decide) ?_
            refine lv_idiv hx hb dX10_put_57 (by decide) ?_
            refine lv_iadd hx hb dX10_put_58 ?_
            refine lv_dup2_11 hx hb dX10_put_59 rfl rfl ?_
            replace hJ_21 := ckb_some hJ_21
            obtain ⟨hin_24, hJ_21⟩ := hJ_21
            refine va_iald hx hb hK hw19.1 1 0 rfl rfl hin_24 dX10_put_60 ?_
            refine lv_iconst (v := (1 : Int32)) hx hb dX10_put_61 (by decide) ?_
            refine lv_bipush (v := (31 : Int32)) hx hb dX10_put_62 (by decide) ?_
            refine lv_aload_n hx hb dX10_put_64 rfl (lv_at hl19 0 rfl) ?_
            refine va_get (D := G) (ci := 10) (v := .int M_bits_3) (C := RX10) (T := TX10) (N := 40) hx hb htc iX10 hown hK hw19.1 0 rfl rfl 34 (by decide) (htc _ mw_981) (fun _ h9 => h9) rfl dX10_put_65 ?_
            refine lv_bipush (v := (32 : Int32)) hx hb dX10_put_68 (by decide) ?_
            refine lv_irem hx hb dX10_put_70 (by decide) ?_
            refine lv_isub hx hb dX10_put_71 ?_
            refine lv_ishl hx hb dX10_put_72 ?_
            refine lv_ior hx hb dX10_put_73 ?_
            replace hJ_21 := ckb_some hJ_21
            obtain ⟨hin_25, hJ_21⟩ := hJ_21
            refine va_iast hx hb hK hw19.1 hw19.2.1 hw19.2.2 1 0 rfl rfl hin_25 dX10_put_74 (fun H26 locs26 hP hD hS => ?_)
            have hw26 : wS G A s H26 locs26 [oX10 aM M_thrown M_series M_most M_ratio aMdisk M_writes M_fuse M_down M_recovers M_looks M_unpacked aMits aMmany aMplace aMlength aMtimes aMvalues aMorder M_chunks M_epoch M_side aMheadOf aMheadTime aMheadValue M_logged aMnext aMisNew M_nexts aMcursorTime aMcursorValue M_hasCursor M_cursorMany M_cursorAt aMmade M_bits_3 M_from M_askMany M_askLeast M_askGreatest M_askSum, rI aMmade cI 200 (upd M_made_13 (Int32.toNatClampNeg ((2 : Int32) + (M_bits_3 / (32 : Int32)))) ((M_made_13 (Int32.toNatClampNeg ((2 : Int32) + (M_bits_3 / (32 : Int32))))) ||| ((1 : Int32) <<< (((31 : Int32) - (M_bits_3 - M_bits_3 / (32 : Int32) * (32 : Int32))) &&& 31))))] := ⟨hP, hD, hS⟩
            clear hP hD hS hw19 H19 locs19
            cases hJ_21
            exact kj_22 _ _ _ hw26 (lv_sub hl19 [0, 1, 2] rfl)
        clear hB_8
        refine lv_if_ne (tgt := 35) hx hb dX10_put_17 (by decide) (fun c_16 => ?_) (fun c_16 => ?_)
        · replace hJ_14 := it_f c_16 hJ_14
          cases hJ_14
          exact kj_15 _ _ _ hw11 (lv_sub hl11 [0, 1, 2] rfl)
        · replace hJ_14 := it_t c_16 hJ_14
          refine lv_aload_n hx hb dX10_put_20 rfl (lv_at hl11 0 rfl) ?_
          refine va_get (D := G) (ci := 10) (v := .ref aMmade) (C := RX10) (T := TX10) (N := 40) hx hb htc iX10 hown hK hw11.1 0 rfl rfl 33 (by decide) (htc _ mw_980) (fun _ h9 => h9) rfl dX10_put_21 ?_
          refine lv_iconst (v := (2 : Int32)) hx hb dX10_put_24 (by decide) ?_
          refine lv_aload_n hx hb dX10_put_25 rfl (lv_at hl11 0 rfl) ?_
          refine va_get (D := G) (ci := 10) (v := .int M_bits_3) (C := RX10) (T := TX10) (N := 40) hx hb htc iX10 hown hK hw11.1 0 rfl rfl 34 (by decide) (htc _ mw_981) (fun _ h9 => h9) rfl dX10_put_26 ?_
          refine lv_bipush (v := (32 : Int32)) hx hb dX10_put_29 (by decide) ?_
          refine lv_idiv hx hb dX10_put_31 (by decide) ?_
          refine lv_iadd hx hb dX10_put_32 ?_
          refine lv_iconst (v := (0 : Int32)) hx hb dX10_put_33 (by decide) ?_
          replace hJ_14 := ckb_some hJ_14
          obtain ⟨hin_17, hJ_14⟩ := hJ_14
          refine va_iast hx hb hK hw11.1 hw11.2.1 hw11.2.2 1 0 rfl rfl hin_17 dX10_put_34 (fun H18 locs18 hP hD hS => ?_)
          have hw18 : wS G A s H18 locs18 [oX10 aM M_thrown M_series M_most M_ratio aMdisk M_writes M_fuse M_down M_recovers M_looks M_unpacked aMits aMmany aMplace aMlength aMtimes aMvalues aMorder M_chunks M_epoch M_side aMheadOf aMheadTime aMheadValue M_logged aMnext aMisNew M_nexts aMcursorTime aMcursorValue M_hasCursor M_cursorMany M_cursorAt aMmade M_bits_3 M_from M_askMany M_askLeast M_askGreatest M_askSum, rI aMmade cI 200 (upd M_made_4 (Int32.toNatClampNeg ((2 : Int32) + (M_bits_3 / (32 : Int32)))) (0 : Int32))] := ⟨hP, hD, hS⟩
          clear hP hD hS hw11 H11 locs11
          cases hJ_14
          exact kj_15 _ _ _ hw18 (lv_sub hl11 [0, 1, 2] rfl)
  exact lp_7 NN (p1 - (1 : Int32)) M_bits M_made hL_5 _ _ _ hw0 (lv_sub hl1 [1, 2, 0] rfl)
abbrev rm_X10_putStep : Room := { frames := 1, cells := 0, slots := 0, locals := 24 }
theorem hd_X10_putStep : yX10_putStep.cls = RX10 ∧ yX10_putStep.cls ≠ "java/lang/invoke/MethodHandle" ∧ yX10_putStep.cls ≠ "java/lang/invoke/VarHandle" ∧ (parseMethodDescriptor yX10_putStep.desc).map (fun d => d.parameters.length) = some 1 := by decide +kernel
set_option maxHeartbeats 4000000 in
set_option maxRecDepth 100000 in
theorem c_X10_putStep (l : Launch) (G : va_G) (cI cZ cJ : ClassId) (aM aMdisk aMits aMmany aMplace aMlength aMtimes aMvalues aMorder aMheadOf aMheadTime aMheadValue aMnext aMisNew aMcursorTime aMcursorValue aMmade : Nat) (M_thrown : Int32) (M_series : Int32) (M_most : Int32) (M_ratio : Int32) (M_writes : Int32) (M_fuse : Int32) (M_down : Int32) (M_recovers : Int32) (M_looks : Int32) (M_unpacked : Int32) (M_chunks : Int32) (M_epoch : Int32) (M_side : Int32) (M_logged : Int32) (M_nexts : Int32) (M_hasCursor : Int32) (M_cursorMany : Int32) (M_cursorAt : Int32) (M_bits : Int32) (M_from : Int32) (M_askMany : Int32) (M_askLeast : Int32) (M_askGreatest : Int32) (M_askSum : Int64) (M_made : Nat → Int32) (p0 : Int64) {o_M_bits : Int32} {o_M_made : Nat → Int32} (hfin : m_X10_putStep M_bits M_made p0 = some (o_M_bits, o_M_made)) : CT l yX10_putStep cX10_putStep 3 none rm_X10_putStep G (tyC cI cZ cJ) [.ref aM, .long p0] [oX10 aM M_thrown M_series M_most M_ratio aMdisk M_writes M_fuse M_down M_recovers M_looks M_unpacked aMits aMmany aMplace aMlength aMtimes aMvalues aMorder M_chunks M_epoch M_side aMheadOf aMheadTime aMheadValue M_logged aMnext aMisNew M_nexts aMcursorTime aMcursorValue M_hasCursor M_cursorMany M_cursorAt aMmade M_bits M_from M_askMany M_askLeast M_askGreatest M_askSum, rI aMmade cI 200 M_made] none [oX10 aM M_thrown M_series M_most M_ratio aMdisk M_writes M_fuse M_down M_recovers M_looks M_unpacked aMits aMmany aMplace aMlength aMtimes aMvalues aMorder M_chunks M_epoch M_side aMheadOf aMheadTime aMheadValue M_logged aMnext aMisNew M_nexts aMcursorTime aMcursorValue M_hasCursor M_cursorMany M_cursorAt aMmade o_M_bits M_from M_askMany M_askLeast M_askGreatest M_askSum, rI aMmade cI 200 o_M_made] := by
  refine CT.ofW (lvl := [(0, .ref aM), (1, .long p0)]) (by decide) (Nat.le_of_ble_eq_true rfl) rfl ?_
  intro p e s m args below meth c A ls0 QQ hQQ hx hb hml hr hlocks htc hN hown hK hA hw0 hl0
  rw [m_X10_putStep] at hfin
  refine lv_lload_n hx hb dX10_putStep_0 rfl (lv_at hl0 1 rfl) ?_
  refine lv_lconst (v := (0 : Int64)) hx hb dX10_putStep_1 (by decide) ?_
  refine W.lcmp hx hb dX10_putStep_2 ?_
  replace hfin := ob2_some hfin
  obtain ⟨M_bits_1, M_made_2, hJ_3, hfin⟩ := hfin
  have kj_4 : ∀ (H : Heap) (locs : List Loc) (ls : Array Slot), wS G A s H locs [oX10 aM M_thrown M_series M_most M_ratio aMdisk M_writes M_fuse M_down M_recovers M_looks M_unpacked aMits aMmany aMplace aMlength aMtimes aMvalues aMorder M_chunks M_epoch M_side aMheadOf aMheadTime aMheadValue M_logged aMnext aMisNew M_nexts aMcursorTime aMcursorValue M_hasCursor M_cursorMany M_cursorAt aMmade M_bits_1 M_from M_askMany M_askLeast M_askGreatest M_askSum, rI aMmade cI 200 M_made_2] → lv_has ls 3 [] → W p l e rm_X10_putStep s m args below meth c H locs 0 0 QQ (F0 m 166 ls []) := by
    clear hw0 hl0 ls0 hJ_3
    intro H144 locs144 ls144 hw144 hl144
    cases hfin
    rw [hQQ]
    exact ct_vret hx hb hr hlocks hw144.1 hw144.2.1 hw144.2.2 dX10_putStep_166
  clear hfin
  refine lv_if_ne (tgt := 15) hx hb dX10_putStep_3 (by decide) (fun c_5 => ?_) (fun c_5 => ?_)
  · replace hJ_3 := it_f c_5 hJ_3
    refine lv_lload_n hx hb dX10_putStep_15 rfl (lv_at hl0 1 rfl) ?_
    refine lv_ldc2 (v := (64 : Int64)) hx hb hown (htc _ mw_1136) dX10_putStep_16 ?_
    refine lv_ladd hx hb dX10_putStep_19 ?_
    refine lv_lconst (v := (0 : Int64)) hx hb dX10_putStep_20 (by decide) ?_
    refine W.lcmp hx hb dX10_putStep_21 ?_
    refine lv_if_lt (tgt := 59) hx hb dX10_putStep_22 (by decide) (fun c_6 => ?_) (fun c_6 => ?_)
    · replace hJ_3 := it_t c_6 hJ_3
      refine lv_lload_n hx hb dX10_putStep_59 rfl (lv_at hl0 1 rfl) ?_
      refine lv_ldc2 (v := (256 : Int64)) hx hb hown (htc _ mw_1139) dX10_putStep_60 ?_
      refine lv_ladd hx hb dX10_putStep_63 ?_
      refine lv_lconst (v := (0 : Int64)) hx hb dX10_putStep_64 (by decide) ?_
      refine W.lcmp hx hb dX10_putStep_65 ?_
      refine lv_if_lt (tgt := 103) hx hb dX10_putStep_66 (by decide) (fun c_7 => ?_) (fun c_7 => ?_)
      · replace hJ_3 := it_t c_7 hJ_3
        refine lv_lload_n hx hb dX10_putStep_103 rfl (lv_at hl0 1 rfl) ?_
        refine lv_ldc2 (v := (2048 : Int64)) hx hb hown (htc _ mw_1142) dX10_putStep_104 ?_
        refine lv_ladd hx hb dX10_putStep_107 ?_
        refine lv_lconst (v := (0 : Int64)) hx hb dX10_putStep_108 (by decide) ?_
        refine W.lcmp hx hb dX10_putStep_109 ?_
        refine lv_if_lt (tgt := 147) hx hb dX10_putStep_110 (by decide) (fun c_8 => ?_) (fun c_8 => ?_)
        · replace hJ_3 := it_t c_8 hJ_3
          refine lv_aload_n hx hb dX10_putStep_147 rfl (lv_at hl0 0 rfl) ?_
          refine lv_ldc2 (v := (15 : Int64)) hx hb hown (htc _ mw_1145) dX10_putStep_148 ?_
          refine lv_iconst (v := (4 : Int32)) hx hb dX10_putStep_151 (by decide) ?_
          replace hJ_3 := ob2_some hJ_3
          obtain ⟨M_bits_10, M_made_11, hE_9, hJ_3⟩ := hJ_3
          refine ctV (a := aM) (As := [.long (15 : Int64), .int (4 : Int32)]) (rest := []) (st1 := []) (wc := [oX10 aM M_thrown M_series M_most M_ratio aMdisk M_writes M_fuse M_down M_recovers M_looks M_unpacked aMits aMmany aMplace aMlength aMtimes aMvalues aMorder M_chunks M_epoch M_side aMheadOf aMheadTime aMheadValue M_logged aMnext aMisNew M_nexts aMcursorTime aMcursorValue M_hasCursor M_cursorMany M_cursorAt aMmade M_bits M_from M_askMany M_askLeast M_askGreatest M_askSum, rI aMmade cI 200 M_made]) (w1 := [oX10 aM M_thrown M_series M_most M_ratio aMdisk M_writes M_fuse M_down M_recovers M_looks M_unpacked aMits aMmany aMplace aMlength aMtimes aMvalues aMorder M_chunks M_epoch M_side aMheadOf aMheadTime aMheadValue M_logged aMnext aMisNew M_nexts aMcursorTime aMcursorValue M_hasCursor M_cursorMany M_cursorAt aMmade M_bits_10 M_from M_askMany M_askLeast M_askGreatest M_askSum, rI aMmade cI 200 M_made_11]) (wr := []) (wb := [oX10 aM M_thrown M_series M_most M_ratio aMdisk M_writes M_fuse M_down M_recovers M_looks M_unpacked aMits aMmany aMplace aMlength aMtimes aMvalues aMorder M_chunks M_epoch M_side aMheadOf aMheadTime aMheadValue M_logged aMnext aMisNew M_nexts aMcursorTime aMcursorValue M_hasCursor M_cursorMany M_cursorAt aMmade M_bits_10 M_from M_askMany M_askLeast M_askGreatest M_askSum, rI aMmade cI 200 M_made_11]) (v := none) hx hb hml hown htc hN (c_X10_put l G cI cZ cJ aM aMdisk aMits aMmany aMplace aMlength aMtimes aMvalues aMorder aMheadOf aMheadTime aMheadValue aMnext aMisNew aMcursorTime aMcursorValue aMmade M_thrown M_series M_most M_ratio M_writes M_fuse M_down M_recovers M_looks M_unpacked M_chunks M_epoch M_side M_logged M_nexts M_hasCursor M_cursorMany M_cursorAt M_bits M_from M_askMany M_askLeast M_askGreatest M_askSum M_made (15 : Int64) (4 : Int32) hE_9) mw_1132 mw_1134 mp_47 mw_12 mw_1135 hd_X10_put ⟨rfl, rfl⟩ ⟨Nat.le_of_ble_eq_true rfl, Nat.le_of_ble_eq_true rfl⟩ hK hw0 hA [0, 1] [] [0, 1] rfl rfl rfl rfl rfl (by decide) rfl rfl rfl 0 rfl rfl rfl rfl hl0.1 rfl rfl (Nat.le_of_ble_eq_true rfl) dX10_putStep_152 ⟨Nat.zero_le _, Nat.zero_le _⟩ (fun H12 locs12 hw12 => ?_)
          clear hw0
          refine lv_aload_n hx hb dX10_putStep_155 rfl (lv_at hl0 0 rfl) ?_
          refine lv_lload_n hx hb dX10_putStep_156 rfl (lv_at hl0 1 rfl) ?_
          refine lv_ldc2 (v := (8589934592 : Int64)) hx hb hown (htc _ mw_1146) dX10_putStep_157 ?_
          refine lv_ladd hx hb dX10_putStep_160 ?_
          refine lv_bipush (v := (34 : Int32)) hx hb dX10_putStep_161 (by decide) ?_
          replace hJ_3 := ob2_some hJ_3
          obtain ⟨M_bits_14, M_made_15, hE_13, hJ_3⟩ := hJ_3
          refine ctV (a := aM) (As := [.long (p0 + (8589934592 : Int64)), .int (34 : Int32)]) (rest := []) (st1 := []) (wc := [oX10 aM M_thrown M_series M_most M_ratio aMdisk M_writes M_fuse M_down M_recovers M_looks M_unpacked aMits aMmany aMplace aMlength aMtimes aMvalues aMorder M_chunks M_epoch M_side aMheadOf aMheadTime aMheadValue M_logged aMnext aMisNew M_nexts aMcursorTime aMcursorValue M_hasCursor M_cursorMany M_cursorAt aMmade M_bits_10 M_from M_askMany M_askLeast M_askGreatest M_askSum, rI aMmade cI 200 M_made_11]) (w1 := [oX10 aM M_thrown M_series M_most M_ratio aMdisk M_writes M_fuse M_down M_recovers M_looks M_unpacked aMits aMmany aMplace aMlength aMtimes aMvalues aMorder M_chunks M_epoch M_side aMheadOf aMheadTime aMheadValue M_logged aMnext aMisNew M_nexts aMcursorTime aMcursorValue M_hasCursor M_cursorMany M_cursorAt aMmade M_bits_14 M_from M_askMany M_askLeast M_askGreatest M_askSum, rI aMmade cI 200 M_made_15]) (wr := []) (wb := [oX10 aM M_thrown M_series M_most M_ratio aMdisk M_writes M_fuse M_down M_recovers M_looks M_unpacked aMits aMmany aMplace aMlength aMtimes aMvalues aMorder M_chunks M_epoch M_side aMheadOf aMheadTime aMheadValue M_logged aMnext aMisNew M_nexts aMcursorTime aMcursorValue M_hasCursor M_cursorMany M_cursorAt aMmade M_bits_14 M_from M_askMany M_askLeast M_askGreatest M_askSum, rI aMmade cI 200 M_made_15]) (v := none) hx hb hml hown htc hN (c_X10_put l G cI cZ cJ aM aMdisk aMits aMmany aMplace aMlength aMtimes aMvalues aMorder aMheadOf aMheadTime aMheadValue aMnext aMisNew aMcursorTime aMcursorValue aMmade M_thrown M_series M_most M_ratio M_writes M_fuse M_down M_recovers M_looks M_unpacked M_chunks M_epoch M_side M_logged M_nexts M_hasCursor M_cursorMany M_cursorAt M_bits_10 M_from M_askMany M_askLeast M_askGreatest M_askSum M_made_11 (p0 + (8589934592 : Int64)) (34 : Int32) hE_13) mw_1132 mw_1134 mp_47 mw_12 mw_1135 hd_X10_put ⟨rfl, rfl⟩ ⟨Nat.le_of_ble_eq_true rfl, Nat.le_of_ble_eq_true rfl⟩ hK hw12 hA [0, 1] [] [0, 1] rfl rfl rfl rfl rfl (by decide) rfl rfl rfl 0 rfl rfl rfl rfl hl0.1 rfl rfl (Nat.le_of_ble_eq_true rfl) dX10_putStep_163 ⟨Nat.zero_le _, Nat.zero_le _⟩ (fun H16 locs16 hw16 => ?_)
          clear hw12 H12 locs12
          cases hJ_3
          exact kj_4 _ _ _ hw16 (lv_sub hl0 [] rfl)
        · replace hJ_3 := it_f c_8 hJ_3
          refine lv_lload_n hx hb dX10_putStep_113 rfl (lv_at hl0 1 rfl) ?_
          refine lv_ldc2 (v := (2048 : Int64)) hx hb hown (htc _ mw_1142) dX10_putStep_114 ?_
          refine lv_ladd hx hb dX10_putStep_117 ?_
          refine lv_ldc2 (v := (4095 : Int64)) hx hb hown (htc _ mw_1143) dX10_putStep_118 ?_
          refine W.lcmp hx hb dX10_putStep_121 ?_
          refine lv_if_gt (tgt := 147) hx hb dX10_putStep_122 (by decide) (fun c_17 => ?_) (fun c_17 => ?_)
          · replace hJ_3 := it_t c_17 hJ_3
            refine lv_aload_n hx hb dX10_putStep_147 rfl (lv_at hl0 0 rfl) ?_
            refine lv_ldc2 (v := (15 : Int64)) hx hb hown (htc _ mw_1145) dX10_putStep_148 ?_
            refine lv_iconst (v := (4 : Int32)) hx hb dX10_putStep_151 (by decide) ?_
            replace hJ_3 := ob2_some hJ_3
            obtain ⟨M_bits_19, M_made_20, hE_18, hJ_3⟩ := hJ_3
            refine ctV (a := aM) (As := [.long (15 : Int64), .int (4 : Int32)]) (rest := []) (st1 := []) (wc := [oX10 aM M_thrown M_series M_most M_ratio aMdisk M_writes M_fuse M_down M_recovers M_looks M_unpacked aMits aMmany aMplace aMlength aMtimes aMvalues aMorder M_chunks M_epoch M_side aMheadOf aMheadTime aMheadValue M_logged aMnext aMisNew M_nexts aMcursorTime aMcursorValue M_hasCursor M_cursorMany M_cursorAt aMmade M_bits M_from M_askMany M_askLeast M_askGreatest M_askSum, rI aMmade cI 200 M_made]) (w1 := [oX10 aM M_thrown M_series M_most M_ratio aMdisk M_writes M_fuse M_down M_recovers M_looks M_unpacked aMits aMmany aMplace aMlength aMtimes aMvalues aMorder M_chunks M_epoch M_side aMheadOf aMheadTime aMheadValue M_logged aMnext aMisNew M_nexts aMcursorTime aMcursorValue M_hasCursor M_cursorMany M_cursorAt aMmade M_bits_19 M_from M_askMany M_askLeast M_askGreatest M_askSum, rI aMmade cI 200 M_made_20]) (wr := []) (wb := [oX10 aM M_thrown M_series M_most M_ratio aMdisk M_writes M_fuse M_down M_recovers M_looks M_unpacked aMits aMmany aMplace aMlength aMtimes aMvalues aMorder M_chunks M_epoch M_side aMheadOf aMheadTime aMheadValue M_logged aMnext aMisNew M_nexts aMcursorTime aMcursorValue M_hasCursor M_cursorMany M_cursorAt aMmade M_bits_19 M_from M_askMany M_askLeast M_askGreatest M_askSum, rI aMmade cI 200 M_made_20]) (v := none) hx hb hml hown htc hN (c_X10_put l G cI cZ cJ aM aMdisk aMits aMmany aMplace aMlength aMtimes aMvalues aMorder aMheadOf aMheadTime aMheadValue aMnext aMisNew aMcursorTime aMcursorValue aMmade M_thrown M_series M_most M_ratio M_writes M_fuse M_down M_recovers M_looks M_unpacked M_chunks M_epoch M_side M_logged M_nexts M_hasCursor M_cursorMany M_cursorAt M_bits M_from M_askMany M_askLeast M_askGreatest M_askSum M_made (15 : Int64) (4 : Int32) hE_18) mw_1132 mw_1134 mp_47 mw_12 mw_1135 hd_X10_put ⟨rfl, rfl⟩ ⟨Nat.le_of_ble_eq_true rfl, Nat.le_of_ble_eq_true rfl⟩ hK hw0 hA [0, 1] [] [0, 1] rfl rfl rfl rfl rfl (by decide) rfl rfl rfl 0 rfl rfl rfl rfl hl0.1 rfl rfl (Nat.le_of_ble_eq_true rfl) dX10_putStep_152 ⟨Nat.zero_le _, Nat.zero_le _⟩ (fun H21 locs21 hw21 => ?_)
            clear hw0
            refine lv_aload_n hx hb dX10_putStep_155 rfl (lv_at hl0 0 rfl) ?_
            refine lv_lload_n hx hb dX10_putStep_156 rfl (lv_at hl0 1 rfl) ?_
            refine lv_ldc2 (v := (8589934592 : Int64)) hx hb hown (htc _ mw_1146) dX10_putStep_157 ?_
            refine lv_ladd hx hb dX10_putStep_160 ?_
            refine lv_bipush (v := (34 : Int32)) hx hb dX10_putStep_161 (by decide) ?_
            replace hJ_3 := ob2_some hJ_3
            obtain ⟨M_bits_23, M_made_24, hE_22, hJ_3⟩ := hJ_3
            refine ctV (a := aM) (As := [.long (p0 + (8589934592 : Int64)), .int (34 : Int32)]) (rest := []) (st1 := []) (wc := [oX10 aM M_thrown M_series M_most M_ratio aMdisk M_writes M_fuse M_down M_recovers M_looks M_unpacked aMits aMmany aMplace aMlength aMtimes aMvalues aMorder M_chunks M_epoch M_side aMheadOf aMheadTime aMheadValue M_logged aMnext aMisNew M_nexts aMcursorTime aMcursorValue M_hasCursor M_cursorMany M_cursorAt aMmade M_bits_19 M_from M_askMany M_askLeast M_askGreatest M_askSum, rI aMmade cI 200 M_made_20]) (w1 := [oX10 aM M_thrown M_series M_most M_ratio aMdisk M_writes M_fuse M_down M_recovers M_looks M_unpacked aMits aMmany aMplace aMlength aMtimes aMvalues aMorder M_chunks M_epoch M_side aMheadOf aMheadTime aMheadValue M_logged aMnext aMisNew M_nexts aMcursorTime aMcursorValue M_hasCursor M_cursorMany M_cursorAt aMmade M_bits_23 M_from M_askMany M_askLeast M_askGreatest M_askSum, rI aMmade cI 200 M_made_24]) (wr := []) (wb := [oX10 aM M_thrown M_series M_most M_ratio aMdisk M_writes M_fuse M_down M_recovers M_looks M_unpacked aMits aMmany aMplace aMlength aMtimes aMvalues aMorder M_chunks M_epoch M_side aMheadOf aMheadTime aMheadValue M_logged aMnext aMisNew M_nexts aMcursorTime aMcursorValue M_hasCursor M_cursorMany M_cursorAt aMmade M_bits_23 M_from M_askMany M_askLeast M_askGreatest M_askSum, rI aMmade cI 200 M_made_24]) (v := none) hx hb hml hown htc hN (c_X10_put l G cI cZ cJ aM aMdisk aMits aMmany aMplace aMlength aMtimes aMvalues aMorder aMheadOf aMheadTime aMheadValue aMnext aMisNew aMcursorTime aMcursorValue aMmade M_thrown M_series M_most M_ratio M_writes M_fuse M_down M_recovers M_looks M_unpacked M_chunks M_epoch M_side M_logged M_nexts M_hasCursor M_cursorMany M_cursorAt M_bits_19 M_from M_askMany M_askLeast M_askGreatest M_askSum M_made_20 (p0 + (8589934592 : Int64)) (34 : Int32) hE_22) mw_1132 mw_1134 mp_47 mw_12 mw_1135 hd_X10_put ⟨rfl, rfl⟩ ⟨Nat.le_of_ble_eq_true rfl, Nat.le_of_ble_eq_true rfl⟩ hK hw21 hA [0, 1] [] [0, 1] rfl rfl rfl rfl rfl (by decide) rfl rfl rfl 0 rfl rfl rfl rfl hl0.1 rfl rfl (Nat.le_of_ble_eq_true rfl) dX10_putStep_163 ⟨Nat.zero_le _, Nat.zero_le _⟩ (fun H25 locs25 hw25 => ?_)
            clear hw21 H21 locs21
            cases hJ_3
            exact kj_4 _ _ _ hw25 (lv_sub hl0 [] rfl)
          · replace hJ_3 := it_f c_17 hJ_3
            refine lv_aload_n hx hb dX10_putStep_125 rfl (lv_at hl0 0 rfl) ?_
            refine lv_ldc2 (v := (14 : Int64)) hx hb hown (htc _ mw_1144) dX10_putStep_126 ?_
            refine lv_iconst (v := (4 : Int32)) hx hb dX10_putStep_129 (by decide) ?_
            replace hJ_3 := ob2_some hJ_3
            obtain ⟨M_bits_27, M_made_28, hE_26, hJ_3⟩ := hJ_3
            refine ctV (a := aM) (As := [.long (14 : Int64), .int (4 : Int32)]) (rest := []) (st1 := []) (wc := [oX10 aM M_thrown M_series M_most M_ratio aMdisk M_writes M_fuse M_down M_recovers M_looks M_unpacked aMits aMmany aMplace aMlength aMtimes aMvalues aMorder M_chunks M_epoch M_side aMheadOf aMheadTime aMheadValue M_logged aMnext aMisNew M_nexts aMcursorTime aMcursorValue M_hasCursor M_cursorMany M_cursorAt aMmade M_bits M_from M_askMany M_askLeast M_askGreatest M_askSum, rI aMmade cI 200 M_made]) (w1 := [oX10 aM M_thrown M_series M_most M_ratio aMdisk M_writes M_fuse M_down M_recovers M_looks M_unpacked aMits aMmany aMplace aMlength aMtimes aMvalues aMorder M_chunks M_epoch M_side aMheadOf aMheadTime aMheadValue M_logged aMnext aMisNew M_nexts aMcursorTime aMcursorValue M_hasCursor M_cursorMany M_cursorAt aMmade M_bits_27 M_from M_askMany M_askLeast M_askGreatest M_askSum, rI aMmade cI 200 M_made_28]) (wr := []) (wb := [oX10 aM M_thrown M_series M_most M_ratio aMdisk M_writes M_fuse M_down M_recovers M_looks M_unpacked aMits aMmany aMplace aMlength aMtimes aMvalues aMorder M_chunks M_epoch M_side aMheadOf aMheadTime aMheadValue M_logged aMnext aMisNew M_nexts aMcursorTime aMcursorValue M_hasCursor M_cursorMany M_cursorAt aMmade M_bits_27 M_from M_askMany M_askLeast M_askGreatest M_askSum, rI aMmade cI 200 M_made_28]) (v := none) hx hb hml hown htc hN (c_X10_put l G cI cZ cJ aM aMdisk aMits aMmany aMplace aMlength aMtimes aMvalues aMorder aMheadOf aMheadTime aMheadValue aMnext aMisNew aMcursorTime aMcursorValue aMmade M_thrown M_series M_most M_ratio M_writes M_fuse M_down M_recovers M_looks M_unpacked M_chunks M_epoch M_side M_logged M_nexts M_hasCursor M_cursorMany M_cursorAt M_bits M_from M_askMany M_askLeast M_askGreatest M_askSum M_made (14 : Int64) (4 : Int32) hE_26) mw_1132 mw_1134 mp_47 mw_12 mw_1135 hd_X10_put ⟨rfl, rfl⟩ ⟨Nat.le_of_ble_eq_true rfl, Nat.le_of_ble_eq_true rfl⟩ hK hw0 hA [0, 1] [] [0, 1] rfl rfl rfl rfl rfl (by decide) rfl rfl rfl 0 rfl rfl rfl rfl hl0.1 rfl rfl (Nat.le_of_ble_eq_true rfl) dX10_putStep_130 ⟨Nat.zero_le _, Nat.zero_le _⟩ (fun H29 locs29 hw29 => ?_)
            clear hw0
            refine lv_aload_n hx hb dX10_putStep_133 rfl (lv_at hl0 0 rfl) ?_
            refine lv_lload_n hx hb dX10_putStep_134 rfl (lv_at hl0 1 rfl) ?_
            refine lv_ldc2 (v := (2048 : Int64)) hx hb hown (htc _ mw_1142) dX10_putStep_135 ?_
            refine lv_ladd hx hb dX10_putStep_138 ?_
            refine lv_bipush (v := (12 : Int32)) hx hb dX10_putStep_139 (by decide) ?_
            replace hJ_3 := ob2_some hJ_3
            obtain ⟨M_bits_31, M_made_32, hE_30, hJ_3⟩ := hJ_3
            refine ctV (a := aM) (As := [.long (p0 + (2048 : Int64)), .int (12 : Int32)]) (rest := []) (st1 := []) (wc := [oX10 aM M_thrown M_series M_most M_ratio aMdisk M_writes M_fuse M_down M_recovers M_looks M_unpacked aMits aMmany aMplace aMlength aMtimes aMvalues aMorder M_chunks M_epoch M_side aMheadOf aMheadTime aMheadValue M_logged aMnext aMisNew M_nexts aMcursorTime aMcursorValue M_hasCursor M_cursorMany M_cursorAt aMmade M_bits_27 M_from M_askMany M_askLeast M_askGreatest M_askSum, rI aMmade cI 200 M_made_28]) (w1 := [oX10 aM M_thrown M_series M_most M_ratio aMdisk M_writes M_fuse M_down M_recovers M_looks M_unpacked aMits aMmany aMplace aMlength aMtimes aMvalues aMorder M_chunks M_epoch M_side aMheadOf aMheadTime aMheadValue M_logged aMnext aMisNew M_nexts aMcursorTime aMcursorValue M_hasCursor M_cursorMany M_cursorAt aMmade M_bits_31 M_from M_askMany M_askLeast M_askGreatest M_askSum, rI aMmade cI 200 M_made_32]) (wr := []) (wb := [oX10 aM M_thrown M_series M_most M_ratio aMdisk M_writes M_fuse M_down M_recovers M_looks M_unpacked aMits aMmany aMplace aMlength aMtimes aMvalues aMorder M_chunks M_epoch M_side aMheadOf aMheadTime aMheadValue M_logged aMnext aMisNew M_nexts aMcursorTime aMcursorValue M_hasCursor M_cursorMany M_cursorAt aMmade M_bits_31 M_from M_askMany M_askLeast M_askGreatest M_askSum, rI aMmade cI 200 M_made_32]) (v := none) hx hb hml hown htc hN (c_X10_put l G cI cZ cJ aM aMdisk aMits aMmany aMplace aMlength aMtimes aMvalues aMorder aMheadOf aMheadTime aMheadValue aMnext aMisNew aMcursorTime aMcursorValue aMmade M_thrown M_series M_most M_ratio M_writes M_fuse M_down M_recovers M_looks M_unpacked M_chunks M_epoch M_side M_logged M_nexts M_hasCursor M_cursorMany M_cursorAt M_bits_27 M_from M_askMany M_askLeast M_askGreatest M_askSum M_made_28 (p0 + (2048 : Int64)) (12 : Int32) hE_30) mw_1132 mw_1134 mp_47 mw_12 mw_1135 hd_X10_put ⟨rfl, rfl⟩ ⟨Nat.le_of_ble_eq_true rfl, Nat.le_of_ble_eq_true rfl⟩ hK hw29 hA [0, 1] [] [0, 1] rfl rfl rfl rfl rfl (by decide) rfl rfl rfl 0 rfl rfl rfl rfl hl0.1 rfl rfl (Nat.le_of_ble_eq_true rfl) dX10_putStep_141 ⟨Nat.zero_le _, Nat.zero_le _⟩ (fun H33 locs33 hw33 => ?_)
            clear hw29 H29 locs29
            refine lv_goto (tgt := 166) hx hb dX10_putStep_144 (by decide) ?_
            cases hJ_3
            exact kj_4 _ _ _ hw33 (lv_sub hl0 [] rfl)
      · replace hJ_3 := it_f c_7 hJ_3
        refine lv_lload_n hx hb dX10_putStep_69 rfl (lv_at hl0 1 rfl) ?_
        refine lv_ldc2 (v := (256 : Int64)) hx hb hown (htc _ mw_1139) dX10_putStep_70 ?_
        refine lv_ladd hx hb dX10_putStep_73 ?_
        refine lv_ldc2 (v := (511 : Int64)) hx hb hown (htc _ mw_1140) dX10_putStep_74 ?_
        refine W.lcmp hx hb dX10_putStep_77 ?_
        refine lv_if_gt (tgt := 103) hx hb dX10_putStep_78 (by decide) (fun c_34 => ?_) (fun c_34 => ?_)
        · replace hJ_3 := it_t c_34 hJ_3
          refine lv_lload_n hx hb dX10_putStep_103 rfl (lv_at hl0 1 rfl) ?_
          refine lv_ldc2 (v := (2048 : Int64)) hx hb hown (htc _ mw_1142) dX10_putStep_104 ?_
          refine lv_ladd hx hb dX10_putStep_107 ?_
          refine lv_lconst (v := (0 : Int64)) hx hb dX10_putStep_108 (by decide) ?_
          refine W.lcmp hx hb dX10_putStep_109 ?_
          refine lv_if_lt (tgt := 147) hx hb dX10_putStep_110 (by decide) (fun c_35 => ?_) (fun c_35 => ?_)
          · replace hJ_3 := it_t c_35 hJ_3
            refine lv_aload_n hx hb dX10_putStep_147 rfl (lv_at hl0 0 rfl) ?_
            refine lv_ldc2 (v := (15 : Int64)) hx hb hown (htc _ mw_1145) dX10_putStep_148 ?_
            refine lv_iconst (v := (4 : Int32)) hx hb dX10_putStep_151 (by decide) ?_
            replace hJ_3 := ob2_some hJ_3
            obtain ⟨M_bits_37, M_made_38, hE_36, hJ_3⟩ := hJ_3
            refine ctV (a := aM) (As := [.long (15 : Int64), .int (4 : Int32)]) (rest := []) (st1 := []) (wc := [oX10 aM M_thrown M_series M_most M_ratio aMdisk M_writes M_fuse M_down M_recovers M_looks M_unpacked aMits aMmany aMplace aMlength aMtimes aMvalues aMorder M_chunks M_epoch M_side aMheadOf aMheadTime aMheadValue M_logged aMnext aMisNew M_nexts aMcursorTime aMcursorValue M_hasCursor M_cursorMany M_cursorAt aMmade M_bits M_from M_askMany M_askLeast M_askGreatest M_askSum, rI aMmade cI 200 M_made]) (w1 := [oX10 aM M_thrown M_series M_most M_ratio aMdisk M_writes M_fuse M_down M_recovers M_looks M_unpacked aMits aMmany aMplace aMlength aMtimes aMvalues aMorder M_chunks M_epoch M_side aMheadOf aMheadTime aMheadValue M_logged aMnext aMisNew M_nexts aMcursorTime aMcursorValue M_hasCursor M_cursorMany M_cursorAt aMmade M_bits_37 M_from M_askMany M_askLeast M_askGreatest M_askSum, rI aMmade cI 200 M_made_38]) (wr := []) (wb := [oX10 aM M_thrown M_series M_most M_ratio aMdisk M_writes M_fuse M_down M_recovers M_looks M_unpacked aMits aMmany aMplace aMlength aMtimes aMvalues aMorder M_chunks M_epoch M_side aMheadOf aMheadTime aMheadValue M_logged aMnext aMisNew M_nexts aMcursorTime aMcursorValue M_hasCursor M_cursorMany M_cursorAt aMmade M_bits_37 M_from M_askMany M_askLeast M_askGreatest M_askSum, rI aMmade cI 200 M_made_38]) (v := none) hx hb hml hown htc hN (c_X10_put l G cI cZ cJ aM aMdisk aMits aMmany aMplace aMlength aMtimes aMvalues aMorder aMheadOf aMheadTime aMheadValue aMnext aMisNew aMcursorTime aMcursorValue aMmade M_thrown M_series M_most M_ratio M_writes M_fuse M_down M_recovers M_looks M_unpacked M_chunks M_epoch M_side M_logged M_nexts M_hasCursor M_cursorMany M_cursorAt M_bits M_from M_askMany M_askLeast M_askGreatest M_askSum M_made (15 : Int64) (4 : Int32) hE_36) mw_1132 mw_1134 mp_47 mw_12 mw_1135 hd_X10_put ⟨rfl, rfl⟩ ⟨Nat.le_of_ble_eq_true rfl, Nat.le_of_ble_eq_true rfl⟩ hK hw0 hA [0, 1] [] [0, 1] rfl rfl rfl rfl rfl (by decide) rfl rfl rfl 0 rfl rfl rfl rfl hl0.1 rfl rfl (Nat.le_of_ble_eq_true rfl) dX10_putStep_152 ⟨Nat.zero_le _, Nat.zero_le _⟩ (fun H39 locs39 hw39 => ?_)
            clear hw0
            refine lv_aload_n hx hb dX10_putStep_155 rfl (lv_at hl0 0 rfl) ?_
            refine lv_lload_n hx hb dX10_putStep_156 rfl (lv_at hl0 1 rfl) ?_
            refine lv_ldc2 (v := (8589934592 : Int64)) hx hb hown (htc _ mw_1146) dX10_putStep_157 ?_
            refine lv_ladd hx hb dX10_putStep_160 ?_
            refine lv_bipush (v := (34 : Int32)) hx hb dX10_putStep_161 (by decide) ?_
            replace hJ_3 := ob2_some hJ_3
            obtain ⟨M_bits_41, M_made_42, hE_40, hJ_3⟩ := hJ_3
            refine ctV (a := aM) (As := [.long (p0 + (8589934592 : Int64)), .int (34 : Int32)]) (rest := []) (st1 := []) (wc := [oX10 aM M_thrown M_series M_most M_ratio aMdisk M_writes M_fuse M_down M_recovers M_looks M_unpacked aMits aMmany aMplace aMlength aMtimes aMvalues aMorder M_chunks M_epoch M_side aMheadOf aMheadTime aMheadValue M_logged aMnext aMisNew M_nexts aMcursorTime aMcursorValue M_hasCursor M_cursorMany M_cursorAt aMmade M_bits_37 M_from M_askMany M_askLeast M_askGreatest M_askSum, rI aMmade cI 200 M_made_38]) (w1 := [oX10 aM M_thrown M_series M_most M_ratio aMdisk M_writes M_fuse M_down M_recovers M_looks M_unpacked aMits aMmany aMplace aMlength aMtimes aMvalues aMorder M_chunks M_epoch M_side aMheadOf aMheadTime aMheadValue M_logged aMnext aMisNew M_nexts aMcursorTime aMcursorValue M_hasCursor M_cursorMany M_cursorAt aMmade M_bits_41 M_from M_askMany M_askLeast M_askGreatest M_askSum, rI aMmade cI 200 M_made_42]) (wr := []) (wb := [oX10 aM M_thrown M_series M_most M_ratio aMdisk M_writes M_fuse M_down M_recovers M_looks M_unpacked aMits aMmany aMplace aMlength aMtimes aMvalues aMorder M_chunks M_epoch M_side aMheadOf aMheadTime aMheadValue M_logged aMnext aMisNew M_nexts aMcursorTime aMcursorValue M_hasCursor M_cursorMany M_cursorAt aMmade M_bits_41 M_from M_askMany M_askLeast M_askGreatest M_askSum, rI aMmade cI 200 M_made_42]) (v := none) hx hb hml hown htc hN (c_X10_put l G cI cZ cJ aM aMdisk aMits aMmany aMplace aMlength aMtimes aMvalues aMorder aMheadOf aMheadTime aMheadValue aMnext aMisNew aMcursorTime aMcursorValue aMmade M_thrown M_series M_most M_ratio M_writes M_fuse M_down M_recovers M_looks M_unpacked M_chunks M_epoch M_side M_logged M_nexts M_hasCursor M_cursorMany M_cursorAt M_bits_37 M_from M_askMany M_askLeast M_askGreatest M_askSum M_made_38 (p0 + (8589934592 : Int64)) (34 : Int32) hE_40) mw_1132 mw_1134 mp_47 mw_12 mw_1135 hd_X10_put ⟨rfl, rfl⟩ ⟨Nat.le_of_ble_eq_true rfl, Nat.le_of_ble_eq_true rfl⟩ hK hw39 hA [0, 1] [] [0, 1] rfl rfl rfl rfl rfl (by decide) rfl rfl rfl 0 rfl rfl rfl rfl hl0.1 rfl rfl (Nat.le_of_ble_eq_true rfl) dX10_putStep_163 ⟨Nat.zero_le _, Nat.zero_le _⟩ (fun H43 locs43 hw43 => ?_)
            clear hw39 H39 locs39
            cases hJ_3
            exact kj_4 _ _ _ hw43 (lv_sub hl0 [] rfl)
          · replace hJ_3 := it_f c_35 hJ_3
            refine lv_lload_n hx hb dX10_putStep_113 rfl (lv_at hl0 1 rfl) ?_
            refine lv_ldc2 (v := (2048 : Int64)) hx hb hown (htc _ mw_1142) dX10_putStep_114 ?_
            refine lv_ladd hx hb dX10_putStep_117 ?_
            refine lv_ldc2 (v := (4095 : Int64)) hx hb hown (htc _ mw_1143) dX10_putStep_118 ?_
            refine W.lcmp hx hb dX10_putStep_121 ?_
            refine lv_if_gt (tgt := 147) hx hb dX10_putStep_122 (by decide) (fun c_44 => ?_) (fun c_44 => ?_)
            · replace hJ_3 := it_t c_44 hJ_3
              refine lv_aload_n hx hb dX10_putStep_147 rfl (lv_at hl0 0 rfl) ?_
              refine lv_ldc2 (v := (15 : Int64)) hx hb hown (htc _ mw_1145) dX10_putStep_148 ?_
              refine lv_iconst (v := (4 : Int32)) hx hb dX10_putStep_151 (by decide) ?_
              replace hJ_3 := ob2_some hJ_3
              obtain ⟨M_bits_46, M_made_47, hE_45, hJ_3⟩ := hJ_3
              refine ctV (a := aM) (As := [.long (15 : Int64), .int (4 : Int32)]) (rest := []) (st1 := []) (wc := [oX10 aM M_thrown M_series M_most M_ratio aMdisk M_writes M_fuse M_down M_recovers M_looks M_unpacked aMits aMmany aMplace aMlength aMtimes aMvalues aMorder M_chunks M_epoch M_side aMheadOf aMheadTime aMheadValue M_logged aMnext aMisNew M_nexts aMcursorTime aMcursorValue M_hasCursor M_cursorMany M_cursorAt aMmade M_bits M_from M_askMany M_askLeast M_askGreatest M_askSum, rI aMmade cI 200 M_made]) (w1 := [oX10 aM M_thrown M_series M_most M_ratio aMdisk M_writes M_fuse M_down M_recovers M_looks M_unpacked aMits aMmany aMplace aMlength aMtimes aMvalues aMorder M_chunks M_epoch M_side aMheadOf aMheadTime aMheadValue M_logged aMnext aMisNew M_nexts aMcursorTime aMcursorValue M_hasCursor M_cursorMany M_cursorAt aMmade M_bits_46 M_from M_askMany M_askLeast M_askGreatest M_askSum, rI aMmade cI 200 M_made_47]) (wr := []) (wb := [oX10 aM M_thrown M_series M_most M_ratio aMdisk M_writes M_fuse M_down M_recovers M_looks M_unpacked aMits aMmany aMplace aMlength aMtimes aMvalues aMorder M_chunks M_epoch M_side aMheadOf aMheadTime aMheadValue M_logged aMnext aMisNew M_nexts aMcursorTime aMcursorValue M_hasCursor M_cursorMany M_cursorAt aMmade M_bits_46 M_from M_askMany M_askLeast M_askGreatest M_askSum, rI aMmade cI 200 M_made_47]) (v := none) hx hb hml hown htc hN (c_X10_put l G cI cZ cJ aM aMdisk aMits aMmany aMplace aMlength aMtimes aMvalues aMorder aMheadOf aMheadTime aMheadValue aMnext aMisNew aMcursorTime aMcursorValue aMmade M_thrown M_series M_most M_ratio M_writes M_fuse M_down M_recovers M_looks M_unpacked M_chunks M_epoch M_side M_logged M_nexts M_hasCursor M_cursorMany M_cursorAt M_bits M_from M_askMany M_askLeast M_askGreatest M_askSum M_made (15 : Int64) (4 : Int32) hE_45) mw_1132 mw_1134 mp_47 mw_12 mw_1135 hd_X10_put ⟨rfl, rfl⟩ ⟨Nat.le_of_ble_eq_true rfl, Nat.le_of_ble_eq_true rfl⟩ hK hw0 hA [0, 1] [] [0, 1] rfl rfl rfl rfl rfl (by decide) rfl rfl rfl 0 rfl rfl rfl rfl hl0.1 rfl rfl (Nat.le_of_ble_eq_true rfl) dX10_putStep_152 ⟨Nat.zero_le _, Nat.zero_le _⟩ (fun H48 locs48 hw48 => ?_)
              clear hw0
              refine lv_aload_n hx hb dX10_putStep_155 rfl (lv_at hl0 0 rfl) ?_
              refine lv_lload_n hx hb dX10_putStep_156 rfl (lv_at hl0 1 rfl) ?_
              refine lv_ldc2 (v := (8589934592 : Int64)) hx hb hown (htc _ mw_1146) dX10_putStep_157 ?_
              refine lv_ladd hx hb dX10_putStep_160 ?_
              refine lv_bipush (v := (34 : Int32)) hx hb dX10_putStep_161 (by decide) ?_
              replace hJ_3 := ob2_some hJ_3
              obtain ⟨M_bits_50, M_made_51, hE_49, hJ_3⟩ := hJ_3
              refine ctV (a := aM) (As := [.long (p0 + (8589934592 : Int64)), .int (34 : Int32)]) (rest := []) (st1 := []) (wc := [oX10 aM M_thrown M_series M_most M_ratio aMdisk M_writes M_fuse M_down M_recovers M_looks M_unpacked aMits aMmany aMplace aMlength aMtimes aMvalues aMorder M_chunks M_epoch M_side aMheadOf aMheadTime aMheadValue M_logged aMnext aMisNew M_nexts aMcursorTime aMcursorValue M_hasCursor M_cursorMany M_cursorAt aMmade M_bits_46 M_from M_askMany M_askLeast M_askGreatest M_askSum, rI aMmade cI 200 M_made_47]) (w1 := [oX10 aM M_thrown M_series M_most M_ratio aMdisk M_writes M_fuse M_down M_recovers M_looks M_unpacked aMits aMmany aMplace aMlength aMtimes aMvalues aMorder M_chunks M_epoch M_side aMheadOf aMheadTime aMheadValue M_logged aMnext aMisNew M_nexts aMcursorTime aMcursorValue M_hasCursor M_cursorMany M_cursorAt aMmade M_bits_50 M_from M_askMany M_askLeast M_askGreatest M_askSum, rI aMmade cI 200 M_made_51]) (wr := []) (wb := [oX10 aM M_thrown M_series M_most M_ratio aMdisk M_writes M_fuse M_down M_recovers M_looks M_unpacked aMits aMmany aMplace aMlength aMtimes aMvalues aMorder M_chunks M_epoch M_side aMheadOf aMheadTime aMheadValue M_logged aMnext aMisNew M_nexts aMcursorTime aMcursorValue M_hasCursor M_cursorMany M_cursorAt aMmade M_bits_50 M_from M_askMany M_askLeast M_askGreatest M_askSum, rI aMmade cI 200 M_made_51]) (v := none) hx hb hml hown htc hN (c_X10_put l G cI cZ cJ aM aMdisk aMits aMmany aMplace aMlength aMtimes aMvalues aMorder aMheadOf aMheadTime aMheadValue aMnext aMisNew aMcursorTime aMcursorValue aMmade M_thrown M_series M_most M_ratio M_writes M_fuse M_down M_recovers M_looks M_unpacked M_chunks M_epoch M_side M_logged M_nexts M_hasCursor M_cursorMany M_cursorAt M_bits_46 M_from M_askMany M_askLeast M_askGreatest M_askSum M_made_47 (p0 + (8589934592 : Int64)) (34 : Int32) hE_49) mw_1132 mw_1134 mp_47 mw_12 mw_1135 hd_X10_put ⟨rfl, rfl⟩ ⟨Nat.le_of_ble_eq_true rfl, Nat.le_of_ble_eq_true rfl⟩ hK hw48 hA [0, 1] [] [0, 1] rfl rfl rfl rfl rfl (by decide) rfl rfl rfl 0 rfl rfl rfl rfl hl0.1 rfl rfl (Nat.le_of_ble_eq_true rfl) dX10_putStep_163 ⟨Nat.zero_le _, Nat.zero_le _⟩ (fun H52 locs52 hw52 => ?_)
              clear hw48 H48 locs48
              cases hJ_3
              exact kj_4 _ _ _ hw52 (lv_sub hl0 [] rfl)
            · replace hJ_3 := it_f c_44 hJ_3
              refine lv_aload_n hx hb dX10_putStep_125 rfl (lv_at hl0 0 rfl) ?_
              refine lv_ldc2 (v := (14 : Int64)) hx hb hown (htc _ mw_1144) dX10_putStep_126 ?_
              refine lv_iconst (v := (4 : Int32)) hx hb dX10_putStep_129 (by decide) ?_
              replace hJ_3 := ob2_some hJ_3
              obtain ⟨M_bits_54, M_made_55, hE_53, hJ_3⟩ := hJ_3
              refine ctV (a := aM) (As := [.long (14 : Int64), .int (4 : Int32)]) (rest := []) (st1 := []) (wc := [oX10 aM M_thrown M_series M_most M_ratio aMdisk M_writes M_fuse M_down M_recovers M_looks M_unpacked aMits aMmany aMplace aMlength aMtimes aMvalues aMorder M_chunks M_epoch M_side aMheadOf aMheadTime aMheadValue M_logged aMnext aMisNew M_nexts aMcursorTime aMcursorValue M_hasCursor M_cursorMany M_cursorAt aMmade M_bits M_from M_askMany M_askLeast M_askGreatest M_askSum, rI aMmade cI 200 M_made]) (w1 := [oX10 aM M_thrown M_series M_most M_ratio aMdisk M_writes M_fuse M_down M_recovers M_looks M_unpacked aMits aMmany aMplace aMlength aMtimes aMvalues aMorder M_chunks M_epoch M_side aMheadOf aMheadTime aMheadValue M_logged aMnext aMisNew M_nexts aMcursorTime aMcursorValue M_hasCursor M_cursorMany M_cursorAt aMmade M_bits_54 M_from M_askMany M_askLeast M_askGreatest M_askSum, rI aMmade cI 200 M_made_55]) (wr := []) (wb := [oX10 aM M_thrown M_series M_most M_ratio aMdisk M_writes M_fuse M_down M_recovers M_looks M_unpacked aMits aMmany aMplace aMlength aMtimes aMvalues aMorder M_chunks M_epoch M_side aMheadOf aMheadTime aMheadValue M_logged aMnext aMisNew M_nexts aMcursorTime aMcursorValue M_hasCursor M_cursorMany M_cursorAt aMmade M_bits_54 M_from M_askMany M_askLeast M_askGreatest M_askSum, rI aMmade cI 200 M_made_55]) (v := none) hx hb hml hown htc hN (c_X10_put l G cI cZ cJ aM aMdisk aMits aMmany aMplace aMlength aMtimes aMvalues aMorder aMheadOf aMheadTime aMheadValue aMnext aMisNew aMcursorTime aMcursorValue aMmade M_thrown M_series M_most M_ratio M_writes M_fuse M_down M_recovers M_looks M_unpacked M_chunks M_epoch M_side M_logged M_nexts M_hasCursor M_cursorMany M_cursorAt M_bits M_from M_askMany M_askLeast M_askGreatest M_askSum M_made (14 : Int64) (4 : Int32) hE_53) mw_1132 mw_1134 mp_47 mw_12 mw_1135 hd_X10_put ⟨rfl, rfl⟩ ⟨Nat.le_of_ble_eq_true rfl, Nat.le_of_ble_eq_true rfl⟩ hK hw0 hA [0, 1] [] [0, 1] rfl rfl rfl rfl rfl (by decide) rfl rfl rfl 0 rfl rfl rfl rfl hl0.1 rfl rfl (Nat.le_of_ble_eq_true rfl) dX10_putStep_130 ⟨Nat.zero_le _, Nat.zero_le _⟩ (fun H56 locs56 hw56 => ?_)
              clear hw0
              refine lv_aload_n hx hb dX10_putStep_133 rfl (lv_at hl0 0 rfl) ?_
              refine lv_lload_n hx hb dX10_putStep_134 rfl (lv_at hl0 1 rfl) ?_
              refine lv_ldc2 (v := (2048 : Int64)) hx hb hown (htc _ mw_1142) dX10_putStep_135 ?_
              refine lv_ladd hx hb dX10_putStep_138 ?_
              refine lv_bipush (v := (12 : Int32)) hx hb dX10_putStep_139 (by decide) ?_
              replace hJ_3 := ob2_some hJ_3
              obtain ⟨M_bits_58, M_made_59, hE_57, hJ_3⟩ := hJ_3
              refine ctV (a := aM) (As := [.long (p0 + (2048 : Int64)), .int (12 : Int32)]) (rest := []) (st1 := []) (wc := [oX10 aM M_thrown M_series M_most M_ratio aMdisk M_writes M_fuse M_down M_recovers M_looks M_unpacked aMits aMmany aMplace aMlength aMtimes aMvalues aMorder M_chunks M_epoch M_side aMheadOf aMheadTime aMheadValue M_logged aMnext aMisNew M_nexts aMcursorTime aMcursorValue M_hasCursor M_cursorMany M_cursorAt aMmade M_bits_54 M_from M_askMany M_askLeast M_askGreatest M_askSum, rI aMmade cI 200 M_made_55]) (w1 := [oX10 aM M_thrown M_series M_most M_ratio aMdisk M_writes M_fuse M_down M_recovers M_looks M_unpacked aMits aMmany aMplace aMlength aMtimes aMvalues aMorder M_chunks M_epoch M_side aMheadOf aMheadTime aMheadValue M_logged aMnext aMisNew M_nexts aMcursorTime aMcursorValue M_hasCursor M_cursorMany M_cursorAt aMmade M_bits_58 M_from M_askMany M_askLeast M_askGreatest M_askSum, rI aMmade cI 200 M_made_59]) (wr := []) (wb := [oX10 aM M_thrown M_series M_most M_ratio aMdisk M_writes M_fuse M_down M_recovers M_looks M_unpacked aMits aMmany aMplace aMlength aMtimes aMvalues aMorder M_chunks M_epoch M_side aMheadOf aMheadTime aMheadValue M_logged aMnext aMisNew M_nexts aMcursorTime aMcursorValue M_hasCursor M_cursorMany M_cursorAt aMmade M_bits_58 M_from M_askMany M_askLeast M_askGreatest M_askSum, rI aMmade cI 200 M_made_59]) (v := none) hx hb hml hown htc hN (c_X10_put l G cI cZ cJ aM aMdisk aMits aMmany aMplace aMlength aMtimes aMvalues aMorder aMheadOf aMheadTime aMheadValue aMnext aMisNew aMcursorTime aMcursorValue aMmade M_thrown M_series M_most M_ratio M_writes M_fuse M_down M_recovers M_looks M_unpacked M_chunks M_epoch M_side M_logged M_nexts M_hasCursor M_cursorMany M_cursorAt M_bits_54 M_from M_askMany M_askLeast M_askGreatest M_askSum M_made_55 (p0 + (2048 : Int64)) (12 : Int32) hE_57) mw_1132 mw_1134 mp_47 mw_12 mw_1135 hd_X10_put ⟨rfl, rfl⟩ ⟨Nat.le_of_ble_eq_true rfl, Nat.le_of_ble_eq_true rfl⟩ hK hw56 hA [0, 1] [] [0, 1] rfl rfl rfl rfl rfl (by decide) rfl rfl rfl 0 rfl rfl rfl rfl hl0.1 rfl rfl (Nat.le_of_ble_eq_true rfl) dX10_putStep_141 ⟨Nat.zero_le _, Nat.zero_le _⟩ (fun H60 locs60 hw60 => ?_)
              clear hw56 H56 locs56
              refine lv_goto (tgt := 166) hx hb dX10_putStep_144 (by decide) ?_
              cases hJ_3
              exact kj_4 _ _ _ hw60 (lv_sub hl0 [] rfl)
        · replace hJ_3 := it_f c_34 hJ_3
          refine lv_aload_n hx hb dX10_putStep_81 rfl (lv_at hl0 0 rfl) ?_
          refine lv_ldc2 (v := (6 : Int64)) hx hb hown (htc _ mw_1141) dX10_putStep_82 ?_
          refine lv_iconst (v := (3 : Int32)) hx hb dX10_putStep_85 (by decide) ?_
          replace hJ_3 := ob2_some hJ_3
          obtain ⟨M_bits_62, M_made_63, hE_61, hJ_3⟩ := hJ_3
          refine ctV (a := aM) (As := [.long (6 : Int64), .int (3 : Int32)]) (rest := []) (st1 := []) (wc := [oX10 aM M_thrown M_series M_most M_ratio aMdisk M_writes M_fuse M_down M_recovers M_looks M_unpacked aMits aMmany aMplace aMlength aMtimes aMvalues aMorder M_chunks M_epoch M_side aMheadOf aMheadTime aMheadValue M_logged aMnext aMisNew M_nexts aMcursorTime aMcursorValue M_hasCursor M_cursorMany M_cursorAt aMmade M_bits M_from M_askMany M_askLeast M_askGreatest M_askSum, rI aMmade cI 200 M_made]) (w1 := [oX10 aM M_thrown M_series M_most M_ratio aMdisk M_writes M_fuse M_down M_recovers M_looks M_unpacked aMits aMmany aMplace aMlength aMtimes aMvalues aMorder M_chunks M_epoch M_side aMheadOf aMheadTime aMheadValue M_logged aMnext aMisNew M_nexts aMcursorTime aMcursorValue M_hasCursor M_cursorMany M_cursorAt aMmade M_bits_62 M_from M_askMany M_askLeast M_askGreatest M_askSum, rI aMmade cI 200 M_made_63]) (wr := []) (wb := [oX10 aM M_thrown M_series M_most M_ratio aMdisk M_writes M_fuse M_down M_recovers M_looks M_unpacked aMits aMmany aMplace aMlength aMtimes aMvalues aMorder M_chunks M_epoch M_side aMheadOf aMheadTime aMheadValue M_logged aMnext aMisNew M_nexts aMcursorTime aMcursorValue M_hasCursor M_cursorMany M_cursorAt aMmade M_bits_62 M_from M_askMany M_askLeast M_askGreatest M_askSum, rI aMmade cI 200 M_made_63]) (v := none) hx hb hml hown htc hN (c_X10_put l G cI cZ cJ aM aMdisk aMits aMmany aMplace aMlength aMtimes aMvalues aMorder aMheadOf aMheadTime aMheadValue aMnext aMisNew aMcursorTime aMcursorValue aMmade M_thrown M_series M_most M_ratio M_writes M_fuse M_down M_recovers M_looks M_unpacked M_chunks M_epoch M_side M_logged M_nexts M_hasCursor M_cursorMany M_cursorAt M_bits M_from M_askMany M_askLeast M_askGreatest M_askSum M_made (6 : Int64) (3 : Int32) hE_61) mw_1132 mw_1134 mp_47 mw_12 mw_1135 hd_X10_put ⟨rfl, rfl⟩ ⟨Nat.le_of_ble_eq_true rfl, Nat.le_of_ble_eq_true rfl⟩ hK hw0 hA [0, 1] [] [0, 1] rfl rfl rfl rfl rfl (by decide) rfl rfl rfl 0 rfl rfl rfl rfl hl0.1 rfl rfl (Nat.le_of_ble_eq_true rfl) dX10_putStep_86 ⟨Nat.zero_le _, Nat.zero_le _⟩ (fun H64 locs64 hw64 => ?_)
          clear hw0
          refine lv_aload_n hx hb dX10_putStep_89 rfl (lv_at hl0 0 rfl) ?_
          refine lv_lload_n hx hb dX10_putStep_90 rfl (lv_at hl0 1 rfl) ?_
          refine lv_ldc2 (v := (256 : Int64)) hx hb hown (htc _ mw_1139) dX10_putStep_91 ?_
          refine lv_ladd hx hb dX10_putStep_94 ?_
          refine lv_bipush (v := (9 : Int32)) hx hb dX10_putStep_95 (by decide) ?_
          replace hJ_3 := ob2_some hJ_3
          obtain ⟨M_bits_66, M_made_67, hE_65, hJ_3⟩ := hJ_3
          refine ctV (a := aM) (As := [.long (p0 + (256 : Int64)), .int (9 : Int32)]) (rest := []) (st1 := []) (wc := [oX10 aM M_thrown M_series M_most M_ratio aMdisk M_writes M_fuse M_down M_recovers M_looks M_unpacked aMits aMmany aMplace aMlength aMtimes aMvalues aMorder M_chunks M_epoch M_side aMheadOf aMheadTime aMheadValue M_logged aMnext aMisNew M_nexts aMcursorTime aMcursorValue M_hasCursor M_cursorMany M_cursorAt aMmade M_bits_62 M_from M_askMany M_askLeast M_askGreatest M_askSum, rI aMmade cI 200 M_made_63]) (w1 := [oX10 aM M_thrown M_series M_most M_ratio aMdisk M_writes M_fuse M_down M_recovers M_looks M_unpacked aMits aMmany aMplace aMlength aMtimes aMvalues aMorder M_chunks M_epoch M_side aMheadOf aMheadTime aMheadValue M_logged aMnext aMisNew M_nexts aMcursorTime aMcursorValue M_hasCursor M_cursorMany M_cursorAt aMmade M_bits_66 M_from M_askMany M_askLeast M_askGreatest M_askSum, rI aMmade cI 200 M_made_67]) (wr := []) (wb := [oX10 aM M_thrown M_series M_most M_ratio aMdisk M_writes M_fuse M_down M_recovers M_looks M_unpacked aMits aMmany aMplace aMlength aMtimes aMvalues aMorder M_chunks M_epoch M_side aMheadOf aMheadTime aMheadValue M_logged aMnext aMisNew M_nexts aMcursorTime aMcursorValue M_hasCursor M_cursorMany M_cursorAt aMmade M_bits_66 M_from M_askMany M_askLeast M_askGreatest M_askSum, rI aMmade cI 200 M_made_67]) (v := none) hx hb hml hown htc hN (c_X10_put l G cI cZ cJ aM aMdisk aMits aMmany aMplace aMlength aMtimes aMvalues aMorder aMheadOf aMheadTime aMheadValue aMnext aMisNew aMcursorTime aMcursorValue aMmade M_thrown M_series M_most M_ratio M_writes M_fuse M_down M_recovers M_looks M_unpacked M_chunks M_epoch M_side M_logged M_nexts M_hasCursor M_cursorMany M_cursorAt M_bits_62 M_from M_askMany M_askLeast M_askGreatest M_askSum M_made_63 (p0 + (256 : Int64)) (9 : Int32) hE_65) mw_1132 mw_1134 mp_47 mw_12 mw_1135 hd_X10_put ⟨rfl, rfl⟩ ⟨Nat.le_of_ble_eq_true rfl, Nat.le_of_ble_eq_true rfl⟩ hK hw64 hA [0, 1] [] [0, 1] rfl rfl rfl rfl rfl (by decide) rfl rfl rfl 0 rfl rfl rfl rfl hl0.1 rfl rfl (Nat.le_of_ble_eq_true rfl) dX10_putStep_97 ⟨Nat.zero_le _, Nat.zero_le _⟩ (fun H68 locs68 hw68 => ?_)
          clear hw64 H64 locs64
          refine lv_goto (tgt := 166) hx hb dX10_putStep_100 (by decide) ?_
          cases hJ_3
          exact kj_4 _ _ _ hw68 (lv_sub hl0 [] rfl)
    · replace hJ_3 := it_f c_6 hJ_3
      refine lv_lload_n hx hb dX10_putStep_25 rfl (lv_at hl0 1 rfl) ?_
      refine lv_ldc2 (v := (64 : Int64)) hx hb hown (htc _ mw_1136) dX10_putStep_26 ?_
      refine lv_ladd hx hb dX10_putStep_29 ?_
      refine lv_ldc2 (v := (127 : Int64)) hx hb hown (htc _ mw_1137) dX10_putStep_30 ?_
      refine W.lcmp hx hb dX10_putStep_33 ?_
      refine lv_if_gt (tgt := 59) hx hb dX10_putStep_34 (by decide) (fun c_69 => ?_) (fun c_69 => ?_)
      · replace hJ_3 := it_t c_69 hJ_3
        refine lv_lload_n hx hb dX10_putStep_59 rfl (lv_at hl0 1 rfl) ?_
        refine lv_ldc2 (v := (256 : Int64)) hx hb hown (htc _ mw_1139) dX10_putStep_60 ?_
        refine lv_ladd hx hb dX10_putStep_63 ?_
        refine lv_lconst (v := (0 : Int64)) hx hb dX10_putStep_64 (by decide) ?_
        refine W.lcmp hx hb dX10_putStep_65 ?_
        refine lv_if_lt (tgt := 103) hx hb dX10_putStep_66 (by decide) (fun c_70 => ?_) (fun c_70 => ?_)
        · replace hJ_3 := it_t c_70 hJ_3
          refine lv_lload_n hx hb dX10_putStep_103 rfl (lv_at hl0 1 rfl) ?_
          refine lv_ldc2 (v := (2048 : Int64)) hx hb hown (htc _ mw_1142) dX10_putStep_104 ?_
          refine lv_ladd hx hb dX10_putStep_107 ?_
          refine lv_lconst (v := (0 : Int64)) hx hb dX10_putStep_108 (by decide) ?_
          refine W.lcmp hx hb dX10_putStep_109 ?_
          refine lv_if_lt (tgt := 147) hx hb dX10_putStep_110 (by decide) (fun c_71 => ?_) (fun c_71 => ?_)
          · replace hJ_3 := it_t c_71 hJ_3
            refine lv_aload_n hx hb dX10_putStep_147 rfl (lv_at hl0 0 rfl) ?_
            refine lv_ldc2 (v := (15 : Int64)) hx hb hown (htc _ mw_1145) dX10_putStep_148 ?_
            refine lv_iconst (v := (4 : Int32)) hx hb dX10_putStep_151 (by decide) ?_
            replace hJ_3 := ob2_some hJ_3
            obtain ⟨M_bits_73, M_made_74, hE_72, hJ_3⟩ := hJ_3
            refine ctV (a := aM) (As := [.long (15 : Int64), .int (4 : Int32)]) (rest := []) (st1 := []) (wc := [oX10 aM M_thrown M_series M_most M_ratio aMdisk M_writes M_fuse M_down M_recovers M_looks M_unpacked aMits aMmany aMplace aMlength aMtimes aMvalues aMorder M_chunks M_epoch M_side aMheadOf aMheadTime aMheadValue M_logged aMnext aMisNew M_nexts aMcursorTime aMcursorValue M_hasCursor M_cursorMany M_cursorAt aMmade M_bits M_from M_askMany M_askLeast M_askGreatest M_askSum, rI aMmade cI 200 M_made]) (w1 := [oX10 aM M_thrown M_series M_most M_ratio aMdisk M_writes M_fuse M_down M_recovers M_looks M_unpacked aMits aMmany aMplace aMlength aMtimes aMvalues aMorder M_chunks M_epoch M_side aMheadOf aMheadTime aMheadValue M_logged aMnext aMisNew M_nexts aMcursorTime aMcursorValue M_hasCursor M_cursorMany M_cursorAt aMmade M_bits_73 M_from M_askMany M_askLeast M_askGreatest M_askSum, rI aMmade cI 200 M_made_74]) (wr := []) (wb := [oX10 aM M_thrown M_series M_most M_ratio aMdisk M_writes M_fuse M_down M_recovers M_looks M_unpacked aMits aMmany aMplace aMlength aMtimes aMvalues aMorder M_chunks M_epoch M_side aMheadOf aMheadTime aMheadValue M_logged aMnext aMisNew M_nexts aMcursorTime aMcursorValue M_hasCursor M_cursorMany M_cursorAt aMmade M_bits_73 M_from M_askMany M_askLeast M_askGreatest M_askSum, rI aMmade cI 200 M_made_74]) (v := none) hx hb hml hown htc hN (c_X10_put l G cI cZ cJ aM aMdisk aMits aMmany aMplace aMlength aMtimes aMvalues aMorder aMheadOf aMheadTime aMheadValue aMnext aMisNew aMcursorTime aMcursorValue aMmade M_thrown M_series M_most M_ratio M_writes M_fuse M_down M_recovers M_looks M_unpacked M_chunks M_epoch M_side M_logged M_nexts M_hasCursor M_cursorMany M_cursorAt M_bits M_from M_askMany M_askLeast M_askGreatest M_askSum M_made (15 : Int64) (4 : Int32) hE_72) mw_1132 mw_1134 mp_47 mw_12 mw_1135 hd_X10_put ⟨rfl, rfl⟩ ⟨Nat.le_of_ble_eq_true rfl, Nat.le_of_ble_eq_true rfl⟩ hK hw0 hA [0, 1] [] [0, 1] rfl rfl rfl rfl rfl (by decide) rfl rfl rfl 0 rfl rfl rfl rfl hl0.1 rfl rfl (Nat.le_of_ble_eq_true rfl) dX10_putStep_152 ⟨Nat.zero_le _, Nat.zero_le _⟩ (fun H75 locs75 hw75 => ?_)
            clear hw0
            refine lv_aload_n hx hb dX10_putStep_155 rfl (lv_at hl0 0 rfl) ?_
            refine lv_lload_n hx hb dX10_putStep_156 rfl (lv_at hl0 1 rfl) ?_
            refine lv_ldc2 (v := (8589934592 : Int64)) hx hb hown (htc _ mw_1146) dX10_putStep_157 ?_
            refine lv_ladd hx hb dX10_putStep_160 ?_
            refine lv_bipush (v := (34 : Int32)) hx hb dX10_putStep_161 (by decide) ?_
            replace hJ_3 := ob2_some hJ_3
            obtain ⟨M_bits_77, M_made_78, hE_76, hJ_3⟩ := hJ_3
            refine ctV (a := aM) (As := [.long (p0 + (8589934592 : Int64)), .int (34 : Int32)]) (rest := []) (st1 := []) (wc := [oX10 aM M_thrown M_series M_most M_ratio aMdisk M_writes M_fuse M_down M_recovers M_looks M_unpacked aMits aMmany aMplace aMlength aMtimes aMvalues aMorder M_chunks M_epoch M_side aMheadOf aMheadTime aMheadValue M_logged aMnext aMisNew M_nexts aMcursorTime aMcursorValue M_hasCursor M_cursorMany M_cursorAt aMmade M_bits_73 M_from M_askMany M_askLeast M_askGreatest M_askSum, rI aMmade cI 200 M_made_74]) (w1 := [oX10 aM M_thrown M_series M_most M_ratio aMdisk M_writes M_fuse M_down M_recovers M_looks M_unpacked aMits aMmany aMplace aMlength aMtimes aMvalues aMorder M_chunks M_epoch M_side aMheadOf aMheadTime aMheadValue M_logged aMnext aMisNew M_nexts aMcursorTime aMcursorValue M_hasCursor M_cursorMany M_cursorAt aMmade M_bits_77 M_from M_askMany M_askLeast M_askGreatest M_askSum, rI aMmade cI 200 M_made_78]) (wr := []) (wb := [oX10 aM M_thrown M_series M_most M_ratio aMdisk M_writes M_fuse M_down M_recovers M_looks M_unpacked aMits aMmany aMplace aMlength aMtimes aMvalues aMorder M_chunks M_epoch M_side aMheadOf aMheadTime aMheadValue M_logged aMnext aMisNew M_nexts aMcursorTime aMcursorValue M_hasCursor M_cursorMany M_cursorAt aMmade M_bits_77 M_from M_askMany M_askLeast M_askGreatest M_askSum, rI aMmade cI 200 M_made_78]) (v := none) hx hb hml hown htc hN (c_X10_put l G cI cZ cJ aM aMdisk aMits aMmany aMplace aMlength aMtimes aMvalues aMorder aMheadOf aMheadTime aMheadValue aMnext aMisNew aMcursorTime aMcursorValue aMmade M_thrown M_series M_most M_ratio M_writes M_fuse M_down M_recovers M_looks M_unpacked M_chunks M_epoch M_side M_logged M_nexts M_hasCursor M_cursorMany M_cursorAt M_bits_73 M_from M_askMany M_askLeast M_askGreatest M_askSum M_made_74 (p0 + (8589934592 : Int64)) (34 : Int32) hE_76) mw_1132 mw_1134 mp_47 mw_12 mw_1135 hd_X10_put ⟨rfl, rfl⟩ ⟨Nat.le_of_ble_eq_true rfl, Nat.le_of_ble_eq_true rfl⟩ hK hw75 hA [0, 1] [] [0, 1] rfl rfl rfl rfl rfl (by decide) rfl rfl rfl 0 rfl rfl rfl rfl hl0.1 rfl rfl (Nat.le_of_ble_eq_true rfl) dX10_putStep_163 ⟨Nat.zero_le _, Nat.zero_le _⟩ (fun H79 locs79 hw79 => ?_)
            clear hw75 H75 locs75
            cases hJ_3
            exact kj_4 _ _ _ hw79 (lv_sub hl0 [] rfl)
          · replace hJ_3 := it_f c_71 hJ_3
            refine lv_lload_n hx hb dX10_putStep_113 rfl (lv_at hl0 1 rfl) ?_
            refine lv_ldc2 (v := (2048 : Int64)) hx hb hown (htc _ mw_1142) dX10_putStep_114 ?_
            refine lv_ladd hx hb dX10_putStep_117 ?_
            refine lv_ldc2 (v := (4095 : Int64)) hx hb hown (htc _ mw_1143) dX10_putStep_118 ?_
            refine W.lcmp hx hb dX10_putStep_121 ?_
            refine lv_if_gt (tgt := 147) hx hb dX10_putStep_122 (by decide) (fun c_80 => ?_) (fun c_80 => ?_)
            · replace hJ_3 := it_t c_80 hJ_3
              refine lv_aload_n hx hb dX10_putStep_147 rfl (lv_at hl0 0 rfl) ?_
              refine lv_ldc2 (v := (15 : Int64)) hx hb hown (htc _ mw_1145) dX10_putStep_148 ?_
              refine lv_iconst (v := (4 : Int32)) hx hb dX10_putStep_151 (by decide) ?_
              replace hJ_3 := ob2_some hJ_3
              obtain ⟨M_bits_82, M_made_83, hE_81, hJ_3⟩ := hJ_3
              refine ctV (a := aM) (As := [.long (15 : Int64), .int (4 : Int32)]) (rest := []) (st1 := []) (wc := [oX10 aM M_thrown M_series M_most M_ratio aMdisk M_writes M_fuse M_down M_recovers M_looks M_unpacked aMits aMmany aMplace aMlength aMtimes aMvalues aMorder M_chunks M_epoch M_side aMheadOf aMheadTime aMheadValue M_logged aMnext aMisNew M_nexts aMcursorTime aMcursorValue M_hasCursor M_cursorMany M_cursorAt aMmade M_bits M_from M_askMany M_askLeast M_askGreatest M_askSum, rI aMmade cI 200 M_made]) (w1 := [oX10 aM M_thrown M_series M_most M_ratio aMdisk M_writes M_fuse M_down M_recovers M_looks M_unpacked aMits aMmany aMplace aMlength aMtimes aMvalues aMorder M_chunks M_epoch M_side aMheadOf aMheadTime aMheadValue M_logged aMnext aMisNew M_nexts aMcursorTime aMcursorValue M_hasCursor M_cursorMany M_cursorAt aMmade M_bits_82 M_from M_askMany M_askLeast M_askGreatest M_askSum, rI aMmade cI 200 M_made_83]) (wr := []) (wb := [oX10 aM M_thrown M_series M_most M_ratio aMdisk M_writes M_fuse M_down M_recovers M_looks M_unpacked aMits aMmany aMplace aMlength aMtimes aMvalues aMorder M_chunks M_epoch M_side aMheadOf aMheadTime aMheadValue M_logged aMnext aMisNew M_nexts aMcursorTime aMcursorValue M_hasCursor M_cursorMany M_cursorAt aMmade M_bits_82 M_from M_askMany M_askLeast M_askGreatest M_askSum, rI aMmade cI 200 M_made_83]) (v := none) hx hb hml hown htc hN (c_X10_put l G cI cZ cJ aM aMdisk aMits aMmany aMplace aMlength aMtimes aMvalues aMorder aMheadOf aMheadTime aMheadValue aMnext aMisNew aMcursorTime aMcursorValue aMmade M_thrown M_series M_most M_ratio M_writes M_fuse M_down M_recovers M_looks M_unpacked M_chunks M_epoch M_side M_logged M_nexts M_hasCursor M_cursorMany M_cursorAt M_bits M_from M_askMany M_askLeast M_askGreatest M_askSum M_made (15 : Int64) (4 : Int32) hE_81) mw_1132 mw_1134 mp_47 mw_12 mw_1135 hd_X10_put ⟨rfl, rfl⟩ ⟨Nat.le_of_ble_eq_true rfl, Nat.le_of_ble_eq_true rfl⟩ hK hw0 hA [0, 1] [] [0, 1] rfl rfl rfl rfl rfl (by decide) rfl rfl rfl 0 rfl rfl rfl rfl hl0.1 rfl rfl (Nat.le_of_ble_eq_true rfl) dX10_putStep_152 ⟨Nat.zero_le _, Nat.zero_le _⟩ (fun H84 locs84 hw84 => ?_)
              clear hw0
              refine lv_aload_n hx hb dX10_putStep_155 rfl (lv_at hl0 0 rfl) ?_
              refine lv_lload_n hx hb dX10_putStep_156 rfl (lv_at hl0 1 rfl) ?_
              refine lv_ldc2 (v := (8589934592 : Int64)) hx hb hown (htc _ mw_1146) dX10_putStep_157 ?_
              refine lv_ladd hx hb dX10_putStep_160 ?_
              refine lv_bipush (v := (34 : Int32)) hx hb dX10_putStep_161 (by decide) ?_
              replace hJ_3 := ob2_some hJ_3
              obtain ⟨M_bits_86, M_made_87, hE_85, hJ_3⟩ := hJ_3
              refine ctV (a := aM) (As := [.long (p0 + (8589934592 : Int64)), .int (34 : Int32)]) (rest := []) (st1 := []) (wc := [oX10 aM M_thrown M_series M_most M_ratio aMdisk M_writes M_fuse M_down M_recovers M_looks M_unpacked aMits aMmany aMplace aMlength aMtimes aMvalues aMorder M_chunks M_epoch M_side aMheadOf aMheadTime aMheadValue M_logged aMnext aMisNew M_nexts aMcursorTime aMcursorValue M_hasCursor M_cursorMany M_cursorAt aMmade M_bits_82 M_from M_askMany M_askLeast M_askGreatest M_askSum, rI aMmade cI 200 M_made_83]) (w1 := [oX10 aM M_thrown M_series M_most M_ratio aMdisk M_writes M_fuse M_down M_recovers M_looks M_unpacked aMits aMmany aMplace aMlength aMtimes aMvalues aMorder M_chunks M_epoch M_side aMheadOf aMheadTime aMheadValue M_logged aMnext aMisNew M_nexts aMcursorTime aMcursorValue M_hasCursor M_cursorMany M_cursorAt aMmade M_bits_86 M_from M_askMany M_askLeast M_askGreatest M_askSum, rI aMmade cI 200 M_made_87]) (wr := []) (wb := [oX10 aM M_thrown M_series M_most M_ratio aMdisk M_writes M_fuse M_down M_recovers M_looks M_unpacked aMits aMmany aMplace aMlength aMtimes aMvalues aMorder M_chunks M_epoch M_side aMheadOf aMheadTime aMheadValue M_logged aMnext aMisNew M_nexts aMcursorTime aMcursorValue M_hasCursor M_cursorMany M_cursorAt aMmade M_bits_86 M_from M_askMany M_askLeast M_askGreatest M_askSum, rI aMmade cI 200 M_made_87]) (v := none) hx hb hml hown htc hN (c_X10_put l G cI cZ cJ aM aMdisk aMits aMmany aMplace aMlength aMtimes aMvalues aMorder aMheadOf aMheadTime aMheadValue aMnext aMisNew aMcursorTime aMcursorValue aMmade M_thrown M_series M_most M_ratio M_writes M_fuse M_down M_recovers M_looks M_unpacked M_chunks M_epoch M_side M_logged M_nexts M_hasCursor M_cursorMany M_cursorAt M_bits_82 M_from M_askMany M_askLeast M_askGreatest M_askSum M_made_83 (p0 + (8589934592 : Int64)) (34 : Int32) hE_85) mw_1132 mw_1134 mp_47 mw_12 mw_1135 hd_X10_put ⟨rfl, rfl⟩ ⟨Nat.le_of_ble_eq_true rfl, Nat.le_of_ble_eq_true rfl⟩ hK hw84 hA [0, 1] [] [0, 1] rfl rfl rfl rfl rfl (by decide) rfl rfl rfl 0 rfl rfl rfl rfl hl0.1 rfl rfl (Nat.le_of_ble_eq_true rfl) dX10_putStep_163 ⟨Nat.zero_le _, Nat.zero_le _⟩ (fun H88 locs88 hw88 => ?_)
              clear hw84 H84 locs84
              cases hJ_3
              exact kj_4 _ _ _ hw88 (lv_sub hl0 [] rfl)
            · replace hJ_3 := it_f c_80 hJ_3
              refine lv_aload_n hx hb dX10_putStep_125 rfl (lv_at hl0 0 rfl) ?_
              refine lv_ldc2 (v := (14 : Int64)) hx hb hown (htc _ mw_1144) dX10_putStep_126 ?_
              refine lv_iconst (v := (4 : Int32)) hx hb dX10_putStep_129 (by decide) ?_
              replace hJ_3 := ob2_some hJ_3
              obtain ⟨M_bits_90, M_made_91, hE_89, hJ_3⟩ := hJ_3
              refine ctV (a := aM) (As := [.long (14 : Int64), .int (4 : Int32)]) (rest := []) (st1 := []) (wc := [oX10 aM M_thrown M_series M_most M_ratio aMdisk M_writes M_fuse M_down M_recovers M_looks M_unpacked aMits aMmany aMplace aMlength aMtimes aMvalues aMorder M_chunks M_epoch M_side aMheadOf aMheadTime aMheadValue M_logged aMnext aMisNew M_nexts aMcursorTime aMcursorValue M_hasCursor M_cursorMany M_cursorAt aMmade M_bits M_from M_askMany M_askLeast M_askGreatest M_askSum, rI aMmade cI 200 M_made]) (w1 := [oX10 aM M_thrown M_series M_most M_ratio aMdisk M_writes M_fuse M_down M_recovers M_looks M_unpacked aMits aMmany aMplace aMlength aMtimes aMvalues aMorder M_chunks M_epoch M_side aMheadOf aMheadTime aMheadValue M_logged aMnext aMisNew M_nexts aMcursorTime aMcursorValue M_hasCursor M_cursorMany M_cursorAt aMmade M_bits_90 M_from M_askMany M_askLeast M_askGreatest M_askSum, rI aMmade cI 200 M_made_91]) (wr := []) (wb := [oX10 aM M_thrown M_series M_most M_ratio aMdisk M_writes M_fuse M_down M_recovers M_looks M_unpacked aMits aMmany aMplace aMlength aMtimes aMvalues aMorder M_chunks M_epoch M_side aMheadOf aMheadTime aMheadValue M_logged aMnext aMisNew M_nexts aMcursorTime aMcursorValue M_hasCursor M_cursorMany M_cursorAt aMmade M_bits_90 M_from M_askMany M_askLeast M_askGreatest M_askSum, rI aMmade cI 200 M_made_91]) (v := none) hx hb hml hown htc hN (c_X10_put l G cI cZ cJ aM aMdisk aMits aMmany aMplace aMlength aMtimes aMvalues aMorder aMheadOf aMheadTime aMheadValue aMnext aMisNew aMcursorTime aMcursorValue aMmade M_thrown M_series M_most M_ratio M_writes M_fuse M_down M_recovers M_looks M_unpacked M_chunks M_epoch M_side M_logged M_nexts M_hasCursor M_cursorMany M_cursorAt M_bits M_from M_askMany M_askLeast M_askGreatest M_askSum M_made (14 : Int64) (4 : Int32) hE_89) mw_1132 mw_1134 mp_47 mw_12 mw_1135 hd_X10_put ⟨rfl, rfl⟩ ⟨Nat.le_of_ble_eq_true rfl, Nat.le_of_ble_eq_true rfl⟩ hK hw0 hA [0, 1] [] [0, 1] rfl rfl rfl rfl rfl (by decide) rfl rfl rfl 0 rfl rfl rfl rfl hl0.1 rfl rfl (Nat.le_of_ble_eq_true rfl) dX10_putStep_130 ⟨Nat.zero_le _, Nat.zero_le _⟩ (fun H92 locs92 hw92 => ?_)
              clear hw0
              refine lv_aload_n hx hb dX10_putStep_133 rfl (lv_at hl0 0 rfl) ?_
              refine lv_lload_n hx hb dX10_putStep_134 rfl (lv_at hl0 1 rfl) ?_
              refine lv_ldc2 (v := (2048 : Int64)) hx hb hown (htc _ mw_1142) dX10_putStep_135 ?_
              refine lv_ladd hx hb dX10_putStep_138 ?_
              refine lv_bipush (v := (12 : Int32)) hx hb dX10_putStep_139 (by decide) ?_
              replace hJ_3 := ob2_some hJ_3
              obtain ⟨M_bits_94, M_made_95, hE_93, hJ_3⟩ := hJ_3
              refine ctV (a := aM) (As := [.long (p0 + (2048 : Int64)), .int (12 : Int32)]) (rest := []) (st1 := []) (wc := [oX10 aM M_thrown M_series M_most M_ratio aMdisk M_writes M_fuse M_down M_recovers M_looks M_unpacked aMits aMmany aMplace aMlength aMtimes aMvalues aMorder M_chunks M_epoch M_side aMheadOf aMheadTime aMheadValue M_logged aMnext aMisNew M_nexts aMcursorTime aMcursorValue M_hasCursor M_cursorMany M_cursorAt aMmade M_bits_90 M_from M_askMany M_askLeast M_askGreatest M_askSum, rI aMmade cI 200 M_made_91]) (w1 := [oX10 aM M_thrown M_series M_most M_ratio aMdisk M_writes M_fuse M_down M_recovers M_looks M_unpacked aMits aMmany aMplace aMlength aMtimes aMvalues aMorder M_chunks M_epoch M_side aMheadOf aMheadTime aMheadValue M_logged aMnext aMisNew M_nexts aMcursorTime aMcursorValue M_hasCursor M_cursorMany M_cursorAt aMmade M_bits_94 M_from M_askMany M_askLeast M_askGreatest M_askSum, rI aMmade cI 200 M_made_95]) (wr := []) (wb := [oX10 aM M_thrown M_series M_most M_ratio aMdisk M_writes M_fuse M_down M_recovers M_looks M_unpacked aMits aMmany aMplace aMlength aMtimes aMvalues aMorder M_chunks M_epoch M_side aMheadOf aMheadTime aMheadValue M_logged aMnext aMisNew M_nexts aMcursorTime aMcursorValue M_hasCursor M_cursorMany M_cursorAt aMmade M_bits_94 M_from M_askMany M_askLeast M_askGreatest M_askSum, rI aMmade cI 200 M_made_95]) (v := none) hx hb hml hown htc hN (c_X10_put l G cI cZ cJ aM aMdisk aMits aMmany aMplace aMlength aMtimes aMvalues aMorder aMheadOf aMheadTime aMheadValue aMnext aMisNew aMcursorTime aMcursorValue aMmade M_thrown M_series M_most M_ratio M_writes M_fuse M_down M_recovers M_looks M_unpacked M_chunks M_epoch M_side M_logged M_nexts M_hasCursor M_cursorMany M_cursorAt M_bits_90 M_from M_askMany M_askLeast M_askGreatest M_askSum M_made_91 (p0 + (2048 : Int64)) (12 : Int32) hE_93) mw_1132 mw_1134 mp_47 mw_12 mw_1135 hd_X10_put ⟨rfl, rfl⟩ ⟨Nat.le_of_ble_eq_true rfl, Nat.le_of_ble_eq_true rfl⟩ hK hw92 hA [0, 1] [] [0, 1] rfl rfl rfl rfl rfl (by decide) rfl rfl rfl 0 rfl rfl rfl rfl hl0.1 rfl rfl (Nat.le_of_ble_eq_true rfl) dX10_putStep_141 ⟨Nat.zero_le _, Nat.zero_le _⟩ (fun H96 locs96 hw96 => ?_)
              clear hw92 H92 locs92
              refine lv_goto (tgt := 166) hx hb dX10_putStep_144 (by decide) ?_
              cases hJ_3
              exact kj_4 _ _ _ hw96 (lv_sub hl0 [] rfl)
        · replace hJ_3 := it_f c_70 hJ_3
          refine lv_lload_n hx hb dX10_putStep_69 rfl (lv_at hl0 1 rfl) ?_
          refine lv_ldc2 (v := (256 : Int64)) hx hb hown (htc _ mw_1139) dX10_putStep_70 ?_
          refine lv_ladd hx hb dX10_putStep_73 ?_
          refine lv_ldc2 (v := (511 : Int64)) hx hb hown (htc _ mw_1140) dX10_putStep_74 ?_
          refine W.lcmp hx hb dX10_putStep_77 ?_
          refine lv_if_gt (tgt := 103) hx hb dX10_putStep_78 (by decide) (fun c_97 => ?_) (fun c_97 => ?_)
          · replace hJ_3 := it_t c_97 hJ_3
            refine lv_lload_n hx hb dX10_putStep_103 rfl (lv_at hl0 1 rfl) ?_
            refine lv_ldc2 (v := (2048 : Int64)) hx hb hown (htc _ mw_1142) dX10_putStep_104 ?_
            refine lv_ladd hx hb dX10_putStep_107 ?_
            refine lv_lconst (v := (0 : Int64)) hx hb dX10_putStep_108 (by decide) ?_
            refine W.lcmp hx hb dX10_putStep_109 ?_
            refine lv_if_lt (tgt := 147) hx hb dX10_putStep_110 (by decide) (fun c_98 => ?_) (fun c_98 => ?_)
            · replace hJ_3 := it_t c_98 hJ_3
              refine lv_aload_n hx hb dX10_putStep_147 rfl (lv_at hl0 0 rfl) ?_
              refine lv_ldc2 (v := (15 : Int64)) hx hb hown (htc _ mw_1145) dX10_putStep_148 ?_
              refine lv_iconst (v := (4 : Int32)) hx hb dX10_putStep_151 (by decide) ?_
              replace hJ_3 := ob2_some hJ_3
              obtain ⟨M_bits_100, M_made_101, hE_99, hJ_3⟩ := hJ_3
              refine ctV (a := aM) (As := [.long (15 : Int64), .int (4 : Int32)]) (rest := []) (st1 := []) (wc := [oX10 aM M_thrown M_series M_most M_ratio aMdisk M_writes M_fuse M_down M_recovers M_looks M_unpacked aMits aMmany aMplace aMlength aMtimes aMvalues aMorder M_chunks M_epoch M_side aMheadOf aMheadTime aMheadValue M_logged aMnext aMisNew M_nexts aMcursorTime aMcursorValue M_hasCursor M_cursorMany M_cursorAt aMmade M_bits M_from M_askMany M_askLeast M_askGreatest M_askSum, rI aMmade cI 200 M_made]) (w1 := [oX10 aM M_thrown M_series M_most M_ratio aMdisk M_writes M_fuse M_down M_recovers M_looks M_unpacked aMits aMmany aMplace aMlength aMtimes aMvalues aMorder M_chunks M_epoch M_side aMheadOf aMheadTime aMheadValue M_logged aMnext aMisNew M_nexts aMcursorTime aMcursorValue M_hasCursor M_cursorMany M_cursorAt aMmade M_bits_100 M_from M_askMany M_askLeast M_askGreatest M_askSum, rI aMmade cI 200 M_made_101]) (wr := []) (wb := [oX10 aM M_thrown M_series M_most M_ratio aMdisk M_writes M_fuse M_down M_recovers M_looks M_unpacked aMits aMmany aMplace aMlength aMtimes aMvalues aMorder M_chunks M_epoch M_side aMheadOf aMheadTime aMheadValue M_logged aMnext aMisNew M_nexts aMcursorTime aMcursorValue M_hasCursor M_cursorMany M_cursorAt aMmade M_bits_100 M_from M_askMany M_askLeast M_askGreatest M_askSum, rI aMmade cI 200 M_made_101]) (v := none) hx hb hml hown htc hN (c_X10_put l G cI cZ cJ aM aMdisk aMits aMmany aMplace aMlength aMtimes aMvalues aMorder aMheadOf aMheadTime aMheadValue aMnext aMisNew aMcursorTime aMcursorValue aMmade M_thrown M_series M_most M_ratio M_writes M_fuse M_down M_recovers M_looks M_unpacked M_chunks M_epoch M_side M_logged M_nexts M_hasCursor M_cursorMany M_cursorAt M_bits M_from M_askMany M_askLeast M_askGreatest M_askSum M_made (15 : Int64) (4 : Int32) hE_99) mw_1132 mw_1134 mp_47 mw_12 mw_1135 hd_X10_put ⟨rfl, rfl⟩ ⟨Nat.le_of_ble_eq_true rfl, Nat.le_of_ble_eq_true rfl⟩ hK hw0 hA [0, 1] [] [0, 1] rfl rfl rfl rfl rfl (by decide) rfl rfl rfl 0 rfl rfl rfl rfl hl0.1 rfl rfl (Nat.le_of_ble_eq_true rfl) dX10_putStep_152 ⟨Nat.zero_le _, Nat.zero_le _⟩ (fun H102 locs102 hw102 => ?_)
              clear hw0
              refine lv_aload_n hx hb dX10_putStep_155 rfl (lv_at hl0 0 rfl) ?_
              refine lv_lload_n hx hb dX10_putStep_156 rfl (lv_at hl0 1 rfl) ?_
              refine lv_ldc2 (v := (8589934592 : Int64)) hx hb hown (htc _ mw_1146) dX10_putStep_157 ?_
              refine lv_ladd hx hb dX10_putStep_160 ?_
              refine lv_bipush (v := (34 : Int32)) hx hb dX10_putStep_161 (by decide) ?_
              replace hJ_3 := ob2_some hJ_3
              obtain ⟨M_bits_104, M_made_105, hE_103, hJ_3⟩ := hJ_3
              refine ctV (a := aM) (As := [.long (p0 + (8589934592 : Int64)), .int (34 : Int32)]) (rest := []) (st1 := []) (wc := [oX10 aM M_thrown M_series M_most M_ratio aMdisk M_writes M_fuse M_down M_recovers M_looks M_unpacked aMits aMmany aMplace aMlength aMtimes aMvalues aMorder M_chunks M_epoch M_side aMheadOf aMheadTime aMheadValue M_logged aMnext aMisNew M_nexts aMcursorTime aMcursorValue M_hasCursor M_cursorMany M_cursorAt aMmade M_bits_100 M_from M_askMany M_askLeast M_askGreatest M_askSum, rI aMmade cI 200 M_made_101]) (w1 := [oX10 aM M_thrown M_series M_most M_ratio aMdisk M_writes M_fuse M_down M_recovers M_looks M_unpacked aMits aMmany aMplace aMlength aMtimes aMvalues aMorder M_chunks M_epoch M_side aMheadOf aMheadTime aMheadValue M_logged aMnext aMisNew M_nexts aMcursorTime aMcursorValue M_hasCursor M_cursorMany M_cursorAt aMmade M_bits_104 M_from M_askMany M_askLeast M_askGreatest M_askSum, rI aMmade cI 200 M_made_105]) (wr := []) (wb := [oX10 aM M_thrown M_series M_most M_ratio aMdisk M_writes M_fuse M_down M_recovers M_looks M_unpacked aMits aMmany aMplace aMlength aMtimes aMvalues aMorder M_chunks M_epoch M_side aMheadOf aMheadTime aMheadValue M_logged aMnext aMisNew M_nexts aMcursorTime aMcursorValue M_hasCursor M_cursorMany M_cursorAt aMmade M_bits_104 M_from M_askMany M_askLeast M_askGreatest M_askSum, rI aMmade cI 200 M_made_105]) (v := none) hx hb hml hown htc hN (c_X10_put l G cI cZ cJ aM aMdisk aMits aMmany aMplace aMlength aMtimes aMvalues aMorder aMheadOf aMheadTime aMheadValue aMnext aMisNew aMcursorTime aMcursorValue aMmade M_thrown M_series M_most M_ratio M_writes M_fuse M_down M_recovers M_looks M_unpacked M_chunks M_epoch M_side M_logged M_nexts M_hasCursor M_cursorMany M_cursorAt M_bits_100 M_from M_askMany M_askLeast M_askGreatest M_askSum M_made_101 (p0 + (8589934592 : Int64)) (34 : Int32) hE_103) mw_1132 mw_1134 mp_47 mw_12 mw_1135 hd_X10_put ⟨rfl, rfl⟩ ⟨Nat.le_of_ble_eq_true rfl, Nat.le_of_ble_eq_true rfl⟩ hK hw102 hA [0, 1] [] [0, 1] rfl rfl rfl rfl rfl (by decide) rfl rfl rfl 0 rfl rfl rfl rfl hl0.1 rfl rfl (Nat.le_of_ble_eq_true rfl) dX10_putStep_163 ⟨Nat.zero_le _, Nat.zero_le _⟩ (fun H106 locs106 hw106 => ?_)
              clear hw102 H102 locs102
              cases hJ_3
              exact kj_4 _ _ _ hw106 (lv_sub hl0 [] rfl)
            · replace hJ_3 := it_f c_98 hJ_3
              refine lv_lload_n hx hb dX10_putStep_113 rfl (lv_at hl0 1 rfl) ?_
              refine lv_ldc2 (v := (2048 : Int64)) hx hb hown (htc _ mw_1142) dX10_putStep_114 ?_
              refine lv_ladd hx hb dX10_putStep_117 ?_
              refine lv_ldc2 (v := (4095 : Int64)) hx hb hown (htc _ mw_1143) dX10_putStep_118 ?_
              refine W.lcmp hx hb dX10_putStep_121 ?_
              refine lv_if_gt (tgt := 147) hx hb dX10_putStep_122 (by decide) (fun c_107 => ?_) (fun c_107 => ?_)
              · replace hJ_3 := it_t c_107 hJ_3
                refine lv_aload_n hx hb dX10_putStep_147 rfl (lv_at hl0 0 rfl) ?_
                refine lv_ldc2 (v := (15 : Int64)) hx hb hown (htc _ mw_1145) dX10_putStep_148 ?_
                refine lv_iconst (v := (4 : Int32)) hx hb dX10_putStep_151 (by decide) ?_
                replace hJ_3 := ob2_some hJ_3
                obtain ⟨M_bits_109, M_made_110, hE_108, hJ_3⟩ := hJ_3
                refine ctV (a := aM) (As := [.long (15 : Int64), .int (4 : Int32)]) (rest := []) (st1 := []) (wc := [oX10 aM M_thrown M_series M_most M_ratio aMdisk M_writes M_fuse M_down M_recovers M_looks M_unpacked aMits aMmany aMplace aMlength aMtimes aMvalues aMorder M_chunks M_epoch M_side aMheadOf aMheadTime aMheadValue M_logged aMnext aMisNew M_nexts aMcursorTime aMcursorValue M_hasCursor M_cursorMany M_cursorAt aMmade M_bits M_from M_askMany M_askLeast M_askGreatest M_askSum, rI aMmade cI 200 M_made]) (w1 := [oX10 aM M_thrown M_series M_most M_ratio aMdisk M_writes M_fuse M_down M_recovers M_looks M_unpacked aMits aMmany aMplace aMlength aMtimes aMvalues aMorder M_chunks M_epoch M_side aMheadOf aMheadTime aMheadValue M_logged aMnext aMisNew M_nexts aMcursorTime aMcursorValue M_hasCursor M_cursorMany M_cursorAt aMmade M_bits_109 M_from M_askMany M_askLeast M_askGreatest M_askSum, rI aMmade cI 200 M_made_110]) (wr := []) (wb := [oX10 aM M_thrown M_series M_most M_ratio aMdisk M_writes M_fuse M_down M_recovers M_looks M_unpacked aMits aMmany aMplace aMlength aMtimes aMvalues aMorder M_chunks M_epoch M_side aMheadOf aMheadTime aMheadValue M_logged aMnext aMisNew M_nexts aMcursorTime aMcursorValue M_hasCursor M_cursorMany M_cursorAt aMmade M_bits_109 M_from M_askMany M_askLeast M_askGreatest M_askSum, rI aMmade cI 200 M_made_110]) (v := none) hx hb hml hown htc hN (c_X10_put l G cI cZ cJ aM aMdisk aMits aMmany aMplace aMlength aMtimes aMvalues aMorder aMheadOf aMheadTime aMheadValue aMnext aMisNew aMcursorTime aMcursorValue aMmade M_thrown M_series M_most M_ratio M_writes M_fuse M_down M_recovers M_looks M_unpacked M_chunks M_epoch M_side M_logged M_nexts M_hasCursor M_cursorMany M_cursorAt M_bits M_from M_askMany M_askLeast M_askGreatest M_askSum M_made (15 : Int64) (4 : Int32) hE_108) mw_1132 mw_1134 mp_47 mw_12 mw_1135 hd_X10_put ⟨rfl, rfl⟩ ⟨Nat.le_of_ble_eq_true rfl, Nat.le_of_ble_eq_true rfl⟩ hK hw0 hA [0, 1] [] [0, 1] rfl rfl rfl rfl rfl (by decide) rfl rfl rfl 0 rfl rfl rfl rfl hl0.1 rfl rfl (Nat.le_of_ble_eq_true rfl) dX10_putStep_152 ⟨Nat.zero_le _, Nat.zero_le _⟩ (fun H111 locs111 hw111 => ?_)
                clear hw0
                refine lv_aload_n hx hb dX10_putStep_155 rfl (lv_at hl0 0 rfl) ?_
                refine lv_lload_n hx hb dX10_putStep_156 rfl (lv_at hl0 1 rfl) ?_
                refine lv_ldc2 (v := (8589934592 : Int64)) hx hb hown (htc _ mw_1146) dX10_putStep_157 ?_
                refine lv_ladd hx hb dX10_putStep_160 ?_
                refine lv_bipush (v := (34 : Int32)) hx hb dX10_putStep_161 (by decide) ?_
                replace hJ_3 := ob2_some hJ_3
                obtain ⟨M_bits_113, M_made_114, hE_112, hJ_3⟩ := hJ_3
                refine ctV (a := aM) (As := [.long (p0 + (8589934592 : Int64)), .int (34 : Int32)]) (rest := []) (st1 := []) (wc := [oX10 aM M_thrown M_series M_most M_ratio aMdisk M_writes M_fuse M_down M_recovers M_looks M_unpacked aMits aMmany aMplace aMlength aMtimes aMvalues aMorder M_chunks M_epoch M_side aMheadOf aMheadTime aMheadValue M_logged aMnext aMisNew M_nexts aMcursorTime aMcursorValue M_hasCursor M_cursorMany M_cursorAt aMmade M_bits_109 M_from M_askMany M_askLeast M_askGreatest M_askSum, rI aMmade cI 200 M_made_110]) (w1 := [oX10 aM M_thrown M_series M_most M_ratio aMdisk M_writes M_fuse M_down M_recovers M_looks M_unpacked aMits aMmany aMplace aMlength aMtimes aMvalues aMorder M_chunks M_epoch M_side aMheadOf aMheadTime aMheadValue M_logged aMnext aMisNew M_nexts aMcursorTime aMcursorValue M_hasCursor M_cursorMany M_cursorAt aMmade M_bits_113 M_from M_askMany M_askLeast M_askGreatest M_askSum, rI aMmade cI 200 M_made_114]) (wr := []) (wb := [oX10 aM M_thrown M_series M_most M_ratio aMdisk M_writes M_fuse M_down M_recovers M_looks M_unpacked aMits aMmany aMplace aMlength aMtimes aMvalues aMorder M_chunks M_epoch M_side aMheadOf aMheadTime aMheadValue M_logged aMnext aMisNew M_nexts aMcursorTime aMcursorValue M_hasCursor M_cursorMany M_cursorAt aMmade M_bits_113 M_from M_askMany M_askLeast M_askGreatest M_askSum, rI aMmade cI 200 M_made_114]) (v := none) hx hb hml hown htc hN (c_X10_put l G cI cZ cJ aM aMdisk aMits aMmany aMplace aMlength aMtimes aMvalues aMorder aMheadOf aMheadTime aMheadValue aMnext aMisNew aMcursorTime aMcursorValue aMmade M_thrown M_series M_most M_ratio M_writes M_fuse M_down M_recovers M_looks M_unpacked M_chunks M_epoch M_side M_logged M_nexts M_hasCursor M_cursorMany M_cursorAt M_bits_109 M_from M_askMany M_askLeast M_askGreatest M_askSum M_made_110 (p0 + (8589934592 : Int64)) (34 : Int32) hE_112) mw_1132 mw_1134 mp_47 mw_12 mw_1135 hd_X10_put ⟨rfl, rfl⟩ ⟨Nat.le_of_ble_eq_true rfl, Nat.le_of_ble_eq_true rfl⟩ hK hw111 hA [0, 1] [] [0, 1] rfl rfl rfl rfl rfl (by decide) rfl rfl rfl 0 rfl rfl rfl rfl hl0.1 rfl rfl (Nat.le_of_ble_eq_true rfl) dX10_putStep_163 ⟨Nat.zero_le _, Nat.zero_le _⟩ (fun H115 locs115 hw115 => ?_)
                clear hw111 H111 locs111
                cases hJ_3
                exact kj_4 _ _ _ hw115 (lv_sub hl0 [] rfl)
              · replace hJ_3 := it_f c_107 hJ_3
                refine lv_aload_n hx hb dX10_putStep_125 rfl (lv_at hl0 0 rfl) ?_
                refine lv_ldc2 (v := (14 : Int64)) hx hb hown (htc _ mw_1144) dX10_putStep_126 ?_
                refine lv_iconst (v := (4 : Int32)) hx hb dX10_putStep_129 (by decide) ?_
                replace hJ_3 := ob2_some hJ_3
                obtain ⟨M_bits_117, M_made_118, hE_116, hJ_3⟩ := hJ_3
                refine ctV (a := aM) (As := [.long (14 : Int64), .int (4 : Int32)]) (rest := []) (st1 := []) (wc := [oX10 aM M_thrown M_series M_most M_ratio aMdisk M_writes M_fuse M_down M_recovers M_looks M_unpacked aMits aMmany aMplace aMlength aMtimes aMvalues aMorder M_chunks M_epoch M_side aMheadOf aMheadTime aMheadValue M_logged aMnext aMisNew M_nexts aMcursorTime aMcursorValue M_hasCursor M_cursorMany M_cursorAt aMmade M_bits M_from M_askMany M_askLeast M_askGreatest M_askSum, rI aMmade cI 200 M_made]) (w1 := [oX10 aM M_thrown M_series M_most M_ratio aMdisk M_writes M_fuse M_down M_recovers M_looks M_unpacked aMits aMmany aMplace aMlength aMtimes aMvalues aMorder M_chunks M_epoch M_side aMheadOf aMheadTime aMheadValue M_logged aMnext aMisNew M_nexts aMcursorTime aMcursorValue M_hasCursor M_cursorMany M_cursorAt aMmade M_bits_117 M_from M_askMany M_askLeast M_askGreatest M_askSum, rI aMmade cI 200 M_made_118]) (wr := []) (wb := [oX10 aM M_thrown M_series M_most M_ratio aMdisk M_writes M_fuse M_down M_recovers M_looks M_unpacked aMits aMmany aMplace aMlength aMtimes aMvalues aMorder M_chunks M_epoch M_side aMheadOf aMheadTime aMheadValue M_logged aMnext aMisNew M_nexts aMcursorTime aMcursorValue M_hasCursor M_cursorMany M_cursorAt aMmade M_bits_117 M_from M_askMany M_askLeast M_askGreatest M_askSum, rI aMmade cI 200 M_made_118]) (v := none) hx hb hml hown htc hN (c_X10_put l G cI cZ cJ aM aMdisk aMits aMmany aMplace aMlength aMtimes aMvalues aMorder aMheadOf aMheadTime aMheadValue aMnext aMisNew aMcursorTime aMcursorValue aMmade M_thrown M_series M_most M_ratio M_writes M_fuse M_down M_recovers M_looks M_unpacked M_chunks M_epoch M_side M_logged M_nexts M_hasCursor M_cursorMany M_cursorAt M_bits M_from M_askMany M_askLeast M_askGreatest M_askSum M_made (14 : Int64) (4 : Int32) hE_116) mw_1132 mw_1134 mp_47 mw_12 mw_1135 hd_X10_put ⟨rfl, rfl⟩ ⟨Nat.le_of_ble_eq_true rfl, Nat.le_of_ble_eq_true rfl⟩ hK hw0 hA [0, 1] [] [0, 1] rfl rfl rfl rfl rfl (by decide) rfl rfl rfl 0 rfl rfl rfl rfl hl0.1 rfl rfl (Nat.le_of_ble_eq_true rfl) dX10_putStep_130 ⟨Nat.zero_le _, Nat.zero_le _⟩ (fun H119 locs119 hw119 => ?_)
                clear hw0
                refine lv_aload_n hx hb dX10_putStep_133 rfl (lv_at hl0 0 rfl) ?_
                refine lv_lload_n hx hb dX10_putStep_134 rfl (lv_at hl0 1 rfl) ?_
                refine lv_ldc2 (v := (2048 : Int64)) hx hb hown (htc _ mw_1142) dX10_putStep_135 ?_
                refine lv_ladd hx hb dX10_putStep_138 ?_
                refine lv_bipush (v := (12 : Int32)) hx hb dX10_putStep_139 (by decide) ?_
                replace hJ_3 := ob2_some hJ_3
                obtain ⟨M_bits_121, M_made_122, hE_120, hJ_3⟩ := hJ_3
                refine ctV (a := aM) (As := [.long (p0 + (2048 : Int64)), .int (12 : Int32)]) (rest := []) (st1 := []) (wc := [oX10 aM M_thrown M_series M_most M_ratio aMdisk M_writes M_fuse M_down M_recovers M_looks M_unpacked aMits aMmany aMplace aMlength aMtimes aMvalues aMorder M_chunks M_epoch M_side aMheadOf aMheadTime aMheadValue M_logged aMnext aMisNew M_nexts aMcursorTime aMcursorValue M_hasCursor M_cursorMany M_cursorAt aMmade M_bits_117 M_from M_askMany M_askLeast M_askGreatest M_askSum, rI aMmade cI 200 M_made_118]) (w1 := [oX10 aM M_thrown M_series M_most M_ratio aMdisk M_writes M_fuse M_down M_recovers M_looks M_unpacked aMits aMmany aMplace aMlength aMtimes aMvalues aMorder M_chunks M_epoch M_side aMheadOf aMheadTime aMheadValue M_logged aMnext aMisNew M_nexts aMcursorTime aMcursorValue M_hasCursor M_cursorMany M_cursorAt aMmade M_bits_121 M_from M_askMany M_askLeast M_askGreatest M_askSum, rI aMmade cI 200 M_made_122]) (wr := []) (wb := [oX10 aM M_thrown M_series M_most M_ratio aMdisk M_writes M_fuse M_down M_recovers M_looks M_unpacked aMits aMmany aMplace aMlength aMtimes aMvalues aMorder M_chunks M_epoch M_side aMheadOf aMheadTime aMheadValue M_logged aMnext aMisNew M_nexts aMcursorTime aMcursorValue M_hasCursor M_cursorMany M_cursorAt aMmade M_bits_121 M_from M_askMany M_askLeast M_askGreatest M_askSum, rI aMmade cI 200 M_made_122]) (v := none) hx hb hml hown htc hN (c_X10_put l G cI cZ cJ aM aMdisk aMits aMmany aMplace aMlength aMtimes aMvalues aMorder aMheadOf aMheadTime aMheadValue aMnext aMisNew aMcursorTime aMcursorValue aMmade M_thrown M_series M_most M_ratio M_writes M_fuse M_down M_recovers M_looks M_unpacked M_chunks M_epoch M_side M_logged M_nexts M_hasCursor M_cursorMany M_cursorAt M_bits_117 M_from M_askMany M_askLeast M_askGreatest M_askSum M_made_118 (p0 + (2048 : Int64)) (12 : Int32) hE_120) mw_1132 mw_1134 mp_47 mw_12 mw_1135 hd_X10_put ⟨rfl, rfl⟩ ⟨Nat.le_of_ble_eq_true rfl, Nat.le_of_ble_eq_true rfl⟩ hK hw119 hA [0, 1] [] [0, 1] rfl rfl rfl rfl rfl (by decide) rfl rfl rfl 0 rfl rfl rfl rfl hl0.1 rfl rfl (Nat.le_of_ble_eq_true rfl) dX10_putStep_141 ⟨Nat.zero_le _, Nat.zero_le _⟩ (fun H123 locs123 hw123 => ?_)
                clear hw119 H119 locs119
                refine lv_goto (tgt := 166) hx hb dX10_putStep_144 (by decide) ?_
                cases hJ_3
                exact kj_4 _ _ _ hw123 (lv_sub hl0 [] rfl)
          · replace hJ_3 := it_f c_97 hJ_3
            refine lv_aload_n hx hb dX10_putStep_81 rfl (lv_at hl0 0 rfl) ?_
            refine lv_ldc2 (v := (6 : Int64)) hx hb hown (htc _ mw_1141) dX10_putStep_82 ?_
            refine lv_iconst (v := (3 : Int32)) hx hb dX10_putStep_85 (by decide) ?_
            replace hJ_3 := ob2_some hJ_3
            obtain ⟨M_bits_125, M_made_126, hE_124, hJ_3⟩ := hJ_3
            refine ctV (a := aM) (As := [.long (6 : Int64), .int (3 : Int32)]) (rest := []) (st1 := []) (wc := [oX10 aM M_thrown M_series M_most M_ratio aMdisk M_writes M_fuse M_down M_recovers M_looks M_unpacked aMits aMmany aMplace aMlength aMtimes aMvalues aMorder M_chunks M_epoch M_side aMheadOf aMheadTime aMheadValue M_logged aMnext aMisNew M_nexts aMcursorTime aMcursorValue M_hasCursor M_cursorMany M_cursorAt aMmade M_bits M_from M_askMany M_askLeast M_askGreatest M_askSum, rI aMmade cI 200 M_made]) (w1 := [oX10 aM M_thrown M_series M_most M_ratio aMdisk M_writes M_fuse M_down M_recovers M_looks M_unpacked aMits aMmany aMplace aMlength aMtimes aMvalues aMorder M_chunks M_epoch M_side aMheadOf aMheadTime aMheadValue M_logged aMnext aMisNew M_nexts aMcursorTime aMcursorValue M_hasCursor M_cursorMany M_cursorAt aMmade M_bits_125 M_from M_askMany M_askLeast M_askGreatest M_askSum, rI aMmade cI 200 M_made_126]) (wr := []) (wb := [oX10 aM M_thrown M_series M_most M_ratio aMdisk M_writes M_fuse M_down M_recovers M_looks M_unpacked aMits aMmany aMplace aMlength aMtimes aMvalues aMorder M_chunks M_epoch M_side aMheadOf aMheadTime aMheadValue M_logged aMnext aMisNew M_nexts aMcursorTime aMcursorValue M_hasCursor M_cursorMany M_cursorAt aMmade M_bits_125 M_from M_askMany M_askLeast M_askGreatest M_askSum, rI aMmade cI 200 M_made_126]) (v := none) hx hb hml hown htc hN (c_X10_put l G cI cZ cJ aM aMdisk aMits aMmany aMplace aMlength aMtimes aMvalues aMorder aMheadOf aMheadTime aMheadValue aMnext aMisNew aMcursorTime aMcursorValue aMmade M_thrown M_series M_most M_ratio M_writes M_fuse M_down M_recovers M_looks M_unpacked M_chunks M_epoch M_side M_logged M_nexts M_hasCursor M_cursorMany M_cursorAt M_bits M_from M_askMany M_askLeast M_askGreatest M_askSum M_made (6 : Int64) (3 : Int32) hE_124) mw_1132 mw_1134 mp_47 mw_12 mw_1135 hd_X10_put ⟨rfl, rfl⟩ ⟨Nat.le_of_ble_eq_true rfl, Nat.le_of_ble_eq_true rfl⟩ hK hw0 hA [0, 1] [] [0, 1] rfl rfl rfl rfl rfl (by decide) rfl rfl rfl 0 rfl rfl rfl rfl hl0.1 rfl rfl (Nat.le_of_ble_eq_true rfl) dX10_putStep_86 ⟨Nat.zero_le _, Nat.zero_le _⟩ (fun H127 locs127 hw127 => ?_)
            clear hw0
            refine lv_aload_n hx hb dX10_putStep_89 rfl (lv_at hl0 0 rfl) ?_
            refine lv_lload_n hx hb dX10_putStep_90 rfl (lv_at hl0 1 rfl) ?_
            refine lv_ldc2 (v := (256 : Int64)) hx hb hown (htc _ mw_1139) dX10_putStep_91 ?_
            refine lv_ladd hx hb dX10_putStep_94 ?_
            refine lv_bipush (v := (9 : Int32)) hx hb dX10_putStep_95 (by decide) ?_
            replace hJ_3 := ob2_some hJ_3
            obtain ⟨M_bits_129, M_made_130, hE_128, hJ_3⟩ := hJ_3
            refine ctV (a := aM) (As := [.long (p0 + (256 : Int64)), .int (9 : Int32)]) (rest := []) (st1 := []) (wc := [oX10 aM M_thrown M_series M_most M_ratio aMdisk M_writes M_fuse M_down M_recovers M_looks M_unpacked aMits aMmany aMplace aMlength aMtimes aMvalues aMorder M_chunks M_epoch M_side aMheadOf aMheadTime aMheadValue M_logged aMnext aMisNew M_nexts aMcursorTime aMcursorValue M_hasCursor M_cursorMany M_cursorAt aMmade M_bits_125 M_from M_askMany M_askLeast M_askGreatest M_askSum, rI aMmade cI 200 M_made_126]) (w1 := [oX10 aM M_thrown M_series M_most M_ratio aMdisk M_writes M_fuse M_down M_recovers M_looks M_unpacked aMits aMmany aMplace aMlength aMtimes aMvalues aMorder M_chunks M_epoch M_side aMheadOf aMheadTime aMheadValue M_logged aMnext aMisNew M_nexts aMcursorTime aMcursorValue M_hasCursor M_cursorMany M_cursorAt aMmade M_bits_129 M_from M_askMany M_askLeast M_askGreatest M_askSum, rI aMmade cI 200 M_made_130]) (wr := []) (wb := [oX10 aM M_thrown M_series M_most M_ratio aMdisk M_writes M_fuse M_down M_recovers M_looks M_unpacked aMits aMmany aMplace aMlength aMtimes aMvalues aMorder M_chunks M_epoch M_side aMheadOf aMheadTime aMheadValue M_logged aMnext aMisNew M_nexts aMcursorTime aMcursorValue M_hasCursor M_cursorMany M_cursorAt aMmade M_bits_129 M_from M_askMany M_askLeast M_askGreatest M_askSum, rI aMmade cI 200 M_made_130]) (v := none) hx hb hml hown htc hN (c_X10_put l G cI cZ cJ aM aMdisk aMits aMmany aMplace aMlength aMtimes aMvalues aMorder aMheadOf aMheadTime aMheadValue aMnext aMisNew aMcursorTime aMcursorValue aMmade M_thrown M_series M_most M_ratio M_writes M_fuse M_down M_recovers M_looks M_unpacked M_chunks M_epoch M_side M_logged M_nexts M_hasCursor M_cursorMany M_cursorAt M_bits_125 M_from M_askMany M_askLeast M_askGreatest M_askSum M_made_126 (p0 + (256 : Int64)) (9 : Int32) hE_128) mw_1132 mw_1134 mp_47 mw_12 mw_1135 hd_X10_put ⟨rfl, rfl⟩ ⟨Nat.le_of_ble_eq_true rfl, Nat.le_of_ble_eq_true rfl⟩ hK hw127 hA [0, 1] [] [0, 1] rfl rfl rfl rfl rfl (by decide) rfl rfl rfl 0 rfl rfl rfl rfl hl0.1 rfl rfl (Nat.le_of_ble_eq_true rfl) dX10_putStep_97 ⟨Nat.zero_le _, Nat.zero_le _⟩ (fun H131 locs131 hw131 => ?_)
            clear hw127 H127 locs127
            refine lv_goto (tgt := 166) hx hb dX10_putStep_100 (by decide) ?_
            cases hJ_3
            exact kj_4 _ _ _ hw131 (lv_sub hl0 [] rfl)
      · replace hJ_3 := it_f c_69 hJ_3
        refine lv_aload_n hx hb dX10_putStep_37 rfl (lv_at hl0 0 rfl) ?_
        refine lv_ldc2 (v := (2 : Int64)) hx hb hown (htc _ mw_1138) dX10_putStep_38 ?_
        refine lv_iconst (v := (2 : Int32)) hx hb dX10_putStep_41 (by decide) ?_
        replace hJ_3 := ob2_some hJ_3
        obtain ⟨M_bits_133, M_made_134, hE_132, hJ_3⟩ := hJ_3
        refine ctV (a := aM) (As := [.long (2 : Int64), .int (2 : Int32)]) (rest := []) (st1 := []) (wc := [oX10 aM M_thrown M_series M_most M_ratio aMdisk M_writes M_fuse M_down M_recovers M_looks M_unpacked aMits aMmany aMplace aMlength aMtimes aMvalues aMorder M_chunks M_epoch M_side aMheadOf aMheadTime aMheadValue M_logged aMnext aMisNew M_nexts aMcursorTime aMcursorValue M_hasCursor M_cursorMany M_cursorAt aMmade M_bits M_from M_askMany M_askLeast M_askGreatest M_askSum, rI aMmade cI 200 M_made]) (w1 := [oX10 aM M_thrown M_series M_most M_ratio aMdisk M_writes M_fuse M_down M_recovers M_looks M_unpacked aMits aMmany aMplace aMlength aMtimes aMvalues aMorder M_chunks M_epoch M_side aMheadOf aMheadTime aMheadValue M_logged aMnext aMisNew M_nexts aMcursorTime aMcursorValue M_hasCursor M_cursorMany M_cursorAt aMmade M_bits_133 M_from M_askMany M_askLeast M_askGreatest M_askSum, rI aMmade cI 200 M_made_134]) (wr := []) (wb := [oX10 aM M_thrown M_series M_most M_ratio aMdisk M_writes M_fuse M_down M_recovers M_looks M_unpacked aMits aMmany aMplace aMlength aMtimes aMvalues aMorder M_chunks M_epoch M_side aMheadOf aMheadTime aMheadValue M_logged aMnext aMisNew M_nexts aMcursorTime aMcursorValue M_hasCursor M_cursorMany M_cursorAt aMmade M_bits_133 M_from M_askMany M_askLeast M_askGreatest M_askSum, rI aMmade cI 200 M_made_134]) (v := none) hx hb hml hown htc hN (c_X10_put l G cI cZ cJ aM aMdisk aMits aMmany aMplace aMlength aMtimes aMvalues aMorder aMheadOf aMheadTime aMheadValue aMnext aMisNew aMcursorTime aMcursorValue aMmade M_thrown M_series M_most M_ratio M_writes M_fuse M_down M_recovers M_looks M_unpacked M_chunks M_epoch M_side M_logged M_nexts M_hasCursor M_cursorMany M_cursorAt M_bits M_from M_askMany M_askLeast M_askGreatest M_askSum M_made (2 : Int64) (2 : Int32) hE_132) mw_1132 mw_1134 mp_47 mw_12 mw_1135 hd_X10_put ⟨rfl, rfl⟩ ⟨Nat.le_of_ble_eq_true rfl, Nat.le_of_ble_eq_true rfl⟩ hK hw0 hA [0, 1] [] [0, 1] rfl rfl rfl rfl rfl (by decide) rfl rfl rfl 0 rfl rfl rfl rfl hl0.1 rfl rfl (Nat.le_of_ble_eq_true rfl) dX10_putStep_42 ⟨Nat.zero_le _, Nat.zero_le _⟩ (fun H135 locs135 hw135 => ?_)
        clear hw0
        refine lv_aload_n hx hb dX10_putStep_45 rfl (lv_at hl0 0 rfl) ?_
        refine lv_lload_n hx hb dX10_putStep_46 rfl (lv_at hl0 1 rfl) ?_
        refine lv_ldc2 (v := (64 : Int64)) hx hb hown (htc _ mw_1136) dX10_putStep_47 ?_
        refine lv_ladd hx hb dX10_putStep_50 ?_
        refine lv_bipush (v := (7 : Int32)) hx hb dX10_putStep_51 (by decide) ?_
        replace hJ_3 := ob2_some hJ_3
        obtain ⟨M_bits_137, M_made_138, hE_136, hJ_3⟩ := hJ_3
        refine ctV (a := aM) (As := [.long (p0 + (64 : Int64)), .int (7 : Int32)]) (rest := []) (st1 := []) (wc := [oX10 aM M_thrown M_series M_most M_ratio aMdisk M_writes M_fuse M_down M_recovers M_looks M_unpacked aMits aMmany aMplace aMlength aMtimes aMvalues aMorder M_chunks M_epoch M_side aMheadOf aMheadTime aMheadValue M_logged aMnext aMisNew M_nexts aMcursorTime aMcursorValue M_hasCursor M_cursorMany M_cursorAt aMmade M_bits_133 M_from M_askMany M_askLeast M_askGreatest M_askSum, rI aMmade cI 200 M_made_134]) (w1 := [oX10 aM M_thrown M_series M_most M_ratio aMdisk M_writes M_fuse M_down M_recovers M_looks M_unpacked aMits aMmany aMplace aMlength aMtimes aMvalues aMorder M_chunks M_epoch M_side aMheadOf aMheadTime aMheadValue M_logged aMnext aMisNew M_nexts aMcursorTime aMcursorValue M_hasCursor M_cursorMany M_cursorAt aMmade M_bits_137 M_from M_askMany M_askLeast M_askGreatest M_askSum, rI aMmade cI 200 M_made_138]) (wr := []) (wb := [oX10 aM M_thrown M_series M_most M_ratio aMdisk M_writes M_fuse M_down M_recovers M_looks M_unpacked aMits aMmany aMplace aMlength aMtimes aMvalues aMorder M_chunks M_epoch M_side aMheadOf aMheadTime aMheadValue M_logged aMnext aMisNew M_nexts aMcursorTime aMcursorValue M_hasCursor M_cursorMany M_cursorAt aMmade M_bits_137 M_from M_askMany M_askLeast M_askGreatest M_askSum, rI aMmade cI 200 M_made_138]) (v := none) hx hb hml hown htc hN (c_X10_put l G cI cZ cJ aM aMdisk aMits aMmany aMplace aMlength aMtimes aMvalues aMorder aMheadOf aMheadTime aMheadValue aMnext aMisNew aMcursorTime aMcursorValue aMmade M_thrown M_series M_most M_ratio M_writes M_fuse M_down M_recovers M_looks M_unpacked M_chunks M_epoch M_side M_logged M_nexts M_hasCursor M_cursorMany M_cursorAt M_bits_133 M_from M_askMany M_askLeast M_askGreatest M_askSum M_made_134 (p0 + (64 : Int64)) (7 : Int32) hE_136) mw_1132 mw_1134 mp_47 mw_12 mw_1135 hd_X10_put ⟨rfl, rfl⟩ ⟨Nat.le_of_ble_eq_true rfl, Nat.le_of_ble_eq_true rfl⟩ hK hw135 hA [0, 1] [] [0, 1] rfl rfl rfl rfl rfl (by decide) rfl rfl rfl 0 rfl rfl rfl rfl hl0.1 rfl rfl (Nat.le_of_ble_eq_true rfl) dX10_putStep_53 ⟨Nat.zero_le _, Nat.zero_le _⟩ (fun H139 locs139 hw139 => ?_)
        clear hw135 H135 locs135
        refine lv_goto (tgt := 166) hx hb dX10_putStep_56 (by decide) ?_
        cases hJ_3
        exact kj_4 _ _ _ hw139 (lv_sub hl0 [] rfl)
  · replace hJ_3 := it_t c_5 hJ_3
    refine lv_aload_n hx hb dX10_putStep_6 rfl (lv_at hl0 0 rfl) ?_
    refine lv_lconst (v := (0 : Int64)) hx hb dX10_putStep_7 (by decide) ?_
    refine lv_iconst (v := (1 : Int32)) hx hb dX10_putStep_8 (by decide) ?_
    replace hJ_3 := ob2_some hJ_3
    obtain ⟨M_bits_141, M_made_142, hE_140, hJ_3⟩ := hJ_3
    refine ctV (a := aM) (As := [.long (0 : Int64), .int (1 : Int32)]) (rest := []) (st1 := []) (wc := [oX10 aM M_thrown M_series M_most M_ratio aMdisk M_writes M_fuse M_down M_recovers M_looks M_unpacked aMits aMmany aMplace aMlength aMtimes aMvalues aMorder M_chunks M_epoch M_side aMheadOf aMheadTime aMheadValue M_logged aMnext aMisNew M_nexts aMcursorTime aMcursorValue M_hasCursor M_cursorMany M_cursorAt aMmade M_bits M_from M_askMany M_askLeast M_askGreatest M_askSum, rI aMmade cI 200 M_made]) (w1 := [oX10 aM M_thrown M_series M_most M_ratio aMdisk M_writes M_fuse M_down M_recovers M_looks M_unpacked aMits aMmany aMplace aMlength aMtimes aMvalues aMorder M_chunks M_epoch M_side aMheadOf aMheadTime aMheadValue M_logged aMnext aMisNew M_nexts aMcursorTime aMcursorValue M_hasCursor M_cursorMany M_cursorAt aMmade M_bits_141 M_from M_askMany M_askLeast M_askGreatest M_askSum, rI aMmade cI 200 M_made_142]) (wr := []) (wb := [oX10 aM M_thrown M_series M_most M_ratio aMdisk M_writes M_fuse M_down M_recovers M_looks M_unpacked aMits aMmany aMplace aMlength aMtimes aMvalues aMorder M_chunks M_epoch M_side aMheadOf aMheadTime aMheadValue M_logged aMnext aMisNew M_nexts aMcursorTime aMcursorValue M_hasCursor M_cursorMany M_cursorAt aMmade M_bits_141 M_from M_askMany M_askLeast M_askGreatest M_askSum, rI aMmade cI 200 M_made_142]) (v := none) hx hb hml hown htc hN (c_X10_put l G cI cZ cJ aM aMdisk aMits aMmany aMplace aMlength aMtimes aMvalues aMorder aMheadOf aMheadTime aMheadValue aMnext aMisNew aMcursorTime aMcursorValue aMmade M_thrown M_series M_most M_ratio M_writes M_fuse M_down M_recovers M_looks M_unpacked M_chunks M_epoch M_side M_logged M_nexts M_hasCursor M_cursorMany M_cursorAt M_bits M_from M_askMany M_askLeast M_askGreatest M_askSum M_made (0 : Int64) (1 : Int32) hE_140) mw_1132 mw_1134 mp_47 mw_12 mw_1135 hd_X10_put ⟨rfl, rfl⟩ ⟨Nat.le_of_ble_eq_true rfl, Nat.le_of_ble_eq_true rfl⟩ hK hw0 hA [0, 1] [] [0, 1] rfl rfl rfl rfl rfl (by decide) rfl rfl rfl 0 rfl rfl rfl rfl hl0.1 rfl rfl (Nat.le_of_ble_eq_true rfl) dX10_putStep_9 ⟨Nat.zero_le _, Nat.zero_le _⟩ (fun H143 locs143 hw143 => ?_)
    clear hw0
    refine lv_goto (tgt := 166) hx hb dX10_putStep_12 (by decide) ?_
    cases hJ_3
    exact kj_4 _ _ _ hw143 (lv_sub hl0 [] rfl)
abbrev rm_X10_putValue : Room := { frames := 1, cells := 0, slots := 0, locals := 24 }
theorem hd_X10_putValue : yX10_putValue.cls = RX10 ∧ yX10_putValue.cls ≠ "java/lang/invoke/MethodHandle" ∧ yX10_putValue.cls ≠ "java/lang/invoke/VarHandle" ∧ (parseMethodDescriptor yX10_putValue.desc).map (fun d => d.parameters.length) = some 1 := by decide +kernel
set_option maxHeartbeats 4000000 in
set_option maxRecDepth 100000 in
theorem c_X10_putValue (l : Launch) (G : va_G) (cI cZ cJ : ClassId) (aM aMdisk aMits aMmany aMplace aMlength aMtimes aMvalues aMorder aMheadOf aMheadTime aMheadValue aMnext aMisNew aMcursorTime aMcursorValue aMmade : Nat) (M_thrown : Int32) (M_series : Int32) (M_most : Int32) (M_ratio : Int32) (M_writes : Int32) (M_fuse : Int32) (M_down : Int32) (M_recovers : Int32) (M_looks : Int32) (M_unpacked : Int32) (M_chunks : Int32) (M_epoch : Int32) (M_side : Int32) (M_logged : Int32) (M_nexts : Int32) (M_hasCursor : Int32) (M_cursorMany : Int32) (M_cursorAt : Int32) (M_bits : Int32) (M_from : Int32) (M_askMany : Int32) (M_askLeast : Int32) (M_askGreatest : Int32) (M_askSum : Int64) (M_made : Nat → Int32) (p0 : Int32) {o_M_bits : Int32} {o_M_made : Nat → Int32} (hfin : m_X10_putValue M_bits M_made p0 = some (o_M_bits, o_M_made)) : CT l yX10_putValue cX10_putValue 4 none rm_X10_putValue G (tyC cI cZ cJ) [.ref aM, .int p0] [oX10 aM M_thrown M_series M_most M_ratio aMdisk M_writes M_fuse M_down M_recovers M_looks M_unpacked aMits aMmany aMplace aMlength aMtimes aMvalues aMorder M_chunks M_epoch M_side aMheadOf aMheadTime aMheadValue M_logged aMnext aMisNew M_nexts aMcursorTime aMcursorValue M_hasCursor M_cursorMany M_cursorAt aMmade M_bits M_from M_askMany M_askLeast M_askGreatest M_askSum, rI aMmade cI 200 M_made] none [oX10 aM M_thrown M_series M_most M_ratio aMdisk M_writes M_fuse M_down M_recovers M_looks M_unpacked aMits aMmany aMplace aMlength aMtimes aMvalues aMorder M_chunks M_epoch M_side aMheadOf aMheadTime aMheadValue M_logged aMnext aMisNew M_nexts aMcursorTime aMcursorValue M_hasCursor M_cursorMany M_cursorAt aMmade o_M_bits M_from M_askMany M_askLeast M_askGreatest M_askSum, rI aMmade cI 200 o_M_made] := by
  refine CT.ofW (lvl := [(0, .ref aM), (1, .int p0)]) (by decide) (Nat.le_of_ble_eq_true rfl) rfl ?_
  intro p e s m args below meth c A ls0 QQ hQQ hx hb hml hr hlocks htc hN hown hK hA hw0 hl0
  rw [m_X10_putValue] at hfin
  refine lv_iload_n hx hb dX10_putValue_0 rfl (lv_at hl0 1 rfl) ?_
  replace hfin := ob1_some hfin
  obtain ⟨s_1, hJ_2, hfin⟩ := hfin
  have kj_3 : ∀ (H : Heap) (locs : List Loc) (ls : Array Slot), wS G A s H locs [oX10 aM M_thrown M_series M_most M_ratio aMdisk M_writes M_fuse M_down M_recovers M_looks M_unpacked aMits aMmany aMplace aMlength aMtimes aMvalues aMorder M_chunks M_epoch M_side aMheadOf aMheadTime aMheadValue M_logged aMnext aMisNew M_nexts aMcursorTime aMcursorValue M_hasCursor M_cursorMany M_cursorAt aMmade M_bits M_from M_askMany M_askLeast M_askGreatest M_askSum, rI aMmade cI 200 M_made] → lv_has ls 4 [(0, .ref aM)] → W p l e rm_X10_putValue s m args below meth c H locs 0 0 QQ (F0 m 21 ls [.long s_1]) := by
    clear hw0 hl0 ls0 hJ_2
    intro H5 locs5 ls5 hw5 hl5
    refine lv_ldc2 (v := (4294967295 : Int64)) hx hb hown (htc _ mw_1152) dX10_putValue_21 ?_
    refine lv_land hx hb dX10_putValue_24 ?_
    refine lv_lstore_n (lv' := [(2, .long (s_1 &&& (4294967295 : Int64))), (0, .ref aM)]) hx hb dX10_putValue_25 rfl hl5 (by decide) rfl (fun ls6 hl6 => ?_)
    clear hl5 ls5
    replace hfin := ob2_some hfin
    obtain ⟨M_bits_14, M_made_15, hL_10, hfin⟩ := hfin
    have kx_11 : ∀ (H : Heap) (locs : List Loc) (ls : Array Slot), wS G A s H locs [oX10 aM M_thrown M_series M_most M_ratio aMdisk M_writes M_fuse M_down M_recovers M_looks M_unpacked aMits aMmany aMplace aMlength aMtimes aMvalues aMorder M_chunks M_epoch M_side aMheadOf aMheadTime aMheadValue M_logged aMnext aMisNew M_nexts aMcursorTime aMcursorValue M_hasCursor M_cursorMany M_cursorAt aMmade M_bits_14 M_from M_askMany M_askLeast M_askGreatest M_askSum, rI aMmade cI 200 M_made_15] → lv_has ls 4 [(0, .ref aM)] → W p l e rm_X10_putValue s m args below meth c H locs 0 0 QQ (F0 m 55 ls []) := by
      clear hw5 H5 locs5 hl6 ls6 hL_10
      intro H27 locs27 ls27 hw27 hl27
      refine lv_aload_n hx hb dX10_putValue_55 rfl (lv_at hl27 0 rfl) ?_
      refine lv_lconst (v := (0 : Int64)) hx hb dX10_putValue_56 (by decide) ?_
      refine lv_iconst (v := (1 : Int32)) hx hb dX10_putValue_57 (by decide) ?_
      replace hfin := ob2_some hfin
      obtain ⟨M_bits_29, M_made_30, hE_28, hfin⟩ := hfin
      refine ctV (a := aM) (As := [.long (0 : Int64), .int (1 : Int32)]) (rest := []) (st1 := []) (wc := [oX10 aM M_thrown M_series M_most M_ratio aMdisk M_writes M_fuse M_down M_recovers M_looks M_unpacked aMits aMmany aMplace aMlength aMtimes aMvalues aMorder M_chunks M_epoch M_side aMheadOf aMheadTime aMheadValue M_logged aMnext aMisNew M_nexts aMcursorTime aMcursorValue M_hasCursor M_cursorMany M_cursorAt aMmade M_bits_14 M_from M_askMany M_askLeast M_askGreatest M_askSum, rI aMmade cI 200 M_made_15]) (w1 := [oX10 aM M_thrown M_series M_most M_ratio aMdisk M_writes M_fuse M_down M_recovers M_looks M_unpacked aMits aMmany aMplace aMlength aMtimes aMvalues aMorder M_chunks M_epoch M_side aMheadOf aMheadTime aMheadValue M_logged aMnext aMisNew M_nexts aMcursorTime aMcursorValue M_hasCursor M_cursorMany M_cursorAt aMmade M_bits_29 M_from M_askMany M_askLeast M_askGreatest M_askSum, rI aMmade cI 200 M_made_30]) (wr := []) (wb := [oX10 aM M_thrown M_series M_most M_ratio aMdisk M_writes M_fuse M_down M_recovers M_looks M_unpacked aMits aMmany aMplace aMlength aMtimes aMvalues aMorder M_chunks M_epoch M_side aMheadOf aMheadTime aMheadValue M_logged aMnext aMisNew M_nexts aMcursorTime aMcursorValue M_hasCursor M_cursorMany M_cursorAt aMmade M_bits_29 M_from M_askMany M_askLeast M_askGreatest M_askSum, rI aMmade cI 200 M_made_30]) (v := none) hx hb hml hown htc hN (c_X10_put l G cI cZ cJ aM aMdisk aMits aMmany aMplace aMlength aMtimes aMvalues aMorder aMheadOf aMheadTime aMheadValue aMnext aMisNew aMcursorTime aMcursorValue aMmade M_thrown M_series M_most M_ratio M_writes M_fuse M_down M_recovers M_looks M_unpacked M_chunks M_epoch M_side M_logged M_nexts M_hasCursor M_cursorMany M_cursorAt M_bits_14 M_from M_askMany M_askLeast M_askGreatest M_askSum M_made_15 (0 : Int64) (1 : Int32) hE_28) mw_1132 mw_1134 mp_47 mw_12 mw_1135 hd_X10_put ⟨rfl, rfl⟩ ⟨Nat.le_of_ble_eq_true rfl, Nat.le_of_ble_eq_true rfl⟩ hK hw27 hA [0, 1] [] [0, 1] rfl rfl rfl rfl rfl (by decide) rfl rfl rfl 0 rfl rfl rfl rfl hl27.1 rfl rfl (Nat.le_of_ble_eq_true rfl) dX10_putValue_58 ⟨Nat.zero_le _, Nat.zero_le _⟩ (fun H31 locs31 hw31 => ?_)
      clear hw27 H27 locs27
      cases hfin
      rw [hQQ]
      exact ct_vret hx hb hr hlocks hw31.1 hw31.2.1 hw31.2.2 dX10_putValue_61
    have lp_12 : ∀ (n : Nat) (v2_7 : Int64) (M_bits_8 : Int32) (M_made_9 : Nat → Int32), lp_X10_putValue_26 n v2_7 M_bits_8 M_made_9 = some (M_bits_14, M_made_15) → ∀ (H : Heap) (locs : List Loc) (ls : Array Slot), wS G A s H locs [oX10 aM M_thrown M_series M_most M_ratio aMdisk M_writes M_fuse M_down M_recovers M_looks M_unpacked aMits aMmany aMplace aMlength aMtimes aMvalues aMorder M_chunks M_epoch M_side aMheadOf aMheadTime aMheadValue M_logged aMnext aMisNew M_nexts aMcursorTime aMcursorValue M_hasCursor M_cursorMany M_cursorAt aMmade M_bits_8 M_from M_askMany M_askLeast M_askGreatest M_askSum, rI aMmade cI 200 M_made_9] → lv_has ls 4 [(0, .ref aM), (2, .long v2_7)] → W p l e rm_X10_putValue s m args below meth c H locs 0 0 QQ (F0 m 26 ls []) := by
      clear hw5 H5 locs5 hl6 ls6 hfin
      intro n
      induction n with
      | zero =>
        intro v2_7 M_bits_8 M_made_9 hB_13
        exact absurd hB_13 (by rw [lp_X10_putValue_26]; exact fun h9 => nomatch h9)
      | succ n ih =>
        intro v2_7 M_bits_8 M_made_9 hB_13 H16 locs16 ls16 hw16 hl16
        rw [lp_X10_putValue_26] at hB_13
        refine lv_lload_n hx hb dX10_putValue_26 rfl (lv_at hl16 1 rfl) ?_
        refine lv_lconst (v := (0 : Int64)) hx hb dX10_putValue_27 (by decide) ?_
        refine W.lcmp hx hb dX10_putValue_28 ?_
        refine lv_if_eq (tgt := 55) hx hb dX10_putValue_29 (by decide) (fun c_17 => ?_) (fun c_17 => ?_)
        · replace hB_13 := it_t c_17 hB_13
          cases hB_13
          exact kx_11 _ _ _ hw16 (lv_sub hl16 [0] rfl)
        · replace hB_13 := it_f c_17 hB_13
          refine lv_aload_n hx hb dX10_putValue_32 rfl (lv_at hl16 0 rfl) ?_
          refine lv_lconst (v := (1 : Int64)) hx hb dX10_putValue_33 (by decide) ?_
          refine lv_iconst (v := (1 : Int32)) hx hb dX10_putValue_34 (by decide) ?_
          replace hB_13 := ob2_some hB_13
          obtain ⟨M_bits_19, M_made_20, hE_18, hB_13⟩ := hB_13
          refine ctV (a := aM) (As := [.long (1 : Int64), .int (1 : Int32)]) (rest := []) (st1 := []) (wc := [oX10 aM M_thrown M_series M_most M_ratio aMdisk M_writes M_fuse M_down M_recovers M_looks M_unpacked aMits aMmany aMplace aMlength aMtimes aMvalues aMorder M_chunks M_epoch M_side aMheadOf aMheadTime aMheadValue M_logged aMnext aMisNew M_nexts aMcursorTime aMcursorValue M_hasCursor M_cursorMany M_cursorAt aMmade M_bits_8 M_from M_askMany M_askLeast M_askGreatest M_askSum, rI aMmade cI 200 M_made_9]) (w1 := [oX10 aM M_thrown M_series M_most M_ratio aMdisk M_writes M_fuse M_down M_recovers M_looks M_unpacked aMits aMmany aMplace aMlength aMtimes aMvalues aMorder M_chunks M_epoch M_side aMheadOf aMheadTime aMheadValue M_logged aMnext aMisNew M_nexts aMcursorTime aMcursorValue M_hasCursor M_cursorMany M_cursorAt aMmade M_bits_19 M_from M_askMany M_askLeast M_askGreatest M_askSum, rI aMmade cI 200 M_made_20]) (wr := []) (wb := [oX10 aM M_thrown M_series M_most M_ratio aMdisk M_writes M_fuse M_down M_recovers M_looks M_unpacked aMits aMmany aMplace aMlength aMtimes aMvalues aMorder M_chunks M_epoch M_side aMheadOf aMheadTime aMheadValue M_logged aMnext aMisNew M_nexts aMcursorTime aMcursorValue M_hasCursor M_cursorMany M_cursorAt aMmade M_bits_19 M_from M_askMany M_askLeast M_askGreatest M_askSum, rI aMmade cI 200 M_made_20]) (v := none) hx hb hml hown htc hN (c_X10_put l G cI cZ cJ aM aMdisk aMits aMmany aMplace aMlength aMtimes aMvalues aMorder aMheadOf aMheadTime aMheadValue aMnext aMisNew aMcursorTime aMcursorValue aMmade M_thrown M_series M_most M_ratio M_writes M_fuse M_down M_recovers M_looks M_unpacked M_chunks M_epoch M_side M_logged M_nexts M_hasCursor M_cursorMany M_cursorAt M_bits_8 M_from M_askMany M_askLeast M_askGreatest M_askSum M_made_9 (1 : Int64) (1 : Int32) hE_18) mw_1132 mw_1134 mp_47 mw_12 mw_1135 hd_X10_put ⟨rfl, rfl⟩ ⟨Nat.le_of_ble_eq_true rfl, Nat.le_of_ble_eq_true rfl⟩ hK hw16 hA [0, 1] [] [0, 1] rfl rfl rfl rfl rfl (by decide) rfl rfl rfl 0 rfl rfl rfl rfl hl16.1 rfl rfl (Nat.le_of_ble_eq_true rfl) dX10_putValue_35 ⟨Nat.zero_le _, Nat.zero_le _⟩ (fun H21 locs21 hw21 => ?_)
          clear hw16 H16 locs16
          refine lv_aload_n hx hb dX10_putValue_38 rfl (lv_at hl16 0 rfl) ?_
          refine lv_lload_n hx hb dX10_putValue_39 rfl (lv_at hl16 1 rfl) ?_
          refine lv_ldc2 (v := (15 : Int64)) hx hb hown (htc _ mw_1145) dX10_putValue_40 ?_
          refine lv_land hx hb dX10_putValue_43 ?_
          refine lv_iconst (v := (4 : Int32)) hx hb dX10_putValue_44 (by decide) ?_
          replace hB_13 := ob2_some hB_13
          obtain ⟨M_bits_23, M_made_24, hE_22, hB_13⟩ := hB_13
          refine ctV (a := aM) (As := [.long (v2_7 &&& (15 : Int64)), .int (4 : Int32)]) (rest := []) (st1 := []) (wc := [oX10 aM M_thrown M_series M_most M_ratio aMdisk M_writes M_fuse M_down M_recovers M_looks M_unpacked aMits aMmany aMplace aMlength aMtimes aMvalues aMorder M_chunks M_epoch M_side aMheadOf aMheadTime aMheadValue M_logged aMnext aMisNew M_nexts aMcursorTime aMcursorValue M_hasCursor M_cursorMany M_cursorAt aMmade M_bits_19 M_from M_askMany M_askLeast M_askGreatest M_askSum, rI aMmade cI 200 M_made_20]) (w1 := [oX10 aM M_thrown M_series M_most M_ratio aMdisk M_writes M_fuse M_down M_recovers M_looks M_unpacked aMits aMmany aMplace aMlength aMtimes aMvalues aMorder M_chunks M_epoch M_side aMheadOf aMheadTime aMheadValue M_logged aMnext aMisNew M_nexts aMcursorTime aMcursorValue M_hasCursor M_cursorMany M_cursorAt aMmade M_bits_23 M_from M_askMany M_askLeast M_askGreatest M_askSum, rI aMmade cI 200 M_made_24]) (wr := []) (wb := [oX10 aM M_thrown M_series M_most M_ratio aMdisk M_writes M_fuse M_down M_recovers M_looks M_unpacked aMits aMmany aMplace aMlength aMtimes aMvalues aMorder M_chunks M_epoch M_side aMheadOf aMheadTime aMheadValue M_logged aMnext aMisNew M_nexts aMcursorTime aMcursorValue M_hasCursor M_cursorMany M_cursorAt aMmade M_bits_23 M_from M_askMany M_askLeast M_askGreatest M_askSum, rI aMmade cI 200 M_made_24]) (v := none) hx hb hml hown htc hN (c_X10_put l G cI cZ cJ aM aMdisk aMits aMmany aMplace aMlength aMtimes aMvalues aMorder aMheadOf aMheadTime aMheadValue aMnext aMisNew aMcursorTime aMcursorValue aMmade M_thrown M_series M_most M_ratio M_writes M_fuse M_down M_recovers M_looks M_unpacked M_chunks M_epoch M_side M_logged M_nexts M_hasCursor M_cursorMany M_cursorAt M_bits_19 M_from M_askMany M_askLeast M_askGreatest M_askSum M_made_20 (v2_7 &&& (15 : Int64)) (4 : Int32) hE_22) mw_1132 mw_1134 mp_47 mw_12 mw_1135 hd_X10_put ⟨rfl, rfl⟩ ⟨Nat.le_of_ble_eq_true rfl, Nat.le_of_ble_eq_true rfl⟩ hK hw21 hA [0, 1] [] [0, 1] rfl rfl rfl rfl rfl (by decide) rfl rfl rfl 0 rfl rfl rfl rfl hl16.1 rfl rfl (Nat.le_of_ble_eq_true rfl) dX10_putValue_45 ⟨Nat.zero_le _, Nat.zero_le _⟩ (fun H25 locs25 hw25 => ?_)
          clear hw21 H21 locs21
          refine lv_lload_n hx hb dX10_putValue_48 rfl (lv_at hl16 1 rfl) ?_
          refine lv_iconst (v := (4 : Int32)) hx hb dX10_putValue_49 (by decide) ?_
          refine lv_lshr hx hb dX10_putValue_50 rfl ?_
          refine lv_lstore_n (lv' := [(2, .long (v2_7 >>> (Int32.toInt64 (4 : Int32) &&& 63))), (0, .ref aM)]) hx hb dX10_putValue_51 rfl hl16 (by decide) rfl (fun ls26 hl26 => ?_)
          clear hl16 ls16
          refine lv_goto (tgt := 26) hx hb dX10_putValue_52 (by decide) ?_
          exact ih (v2_7 >>> (Int32.toInt64 (4 : Int32) &&& 63)) M_bits_23 M_made_24 hB_13 _ _ _ hw25 (lv_sub hl26 [1, 0] rfl)
    exact lp_12 NN (s_1 &&& (4294967295 : Int64)) M_bits M_made hL_10 _ _ _ hw5 (lv_sub hl6 [1, 0] rfl)
  clear hfin
  refine lv_if_ge (tgt := 15) hx hb dX10_putValue_1 (by decide) (fun c_4 => ?_) (fun c_4 => ?_)
  · replace hJ_2 := it_t c_4 hJ_2
    refine lv_ldc2 (v := (2 : Int64)) hx hb hown (htc _ mw_1138) dX10_putValue_15 ?_
    refine lv_iload_n hx hb dX10_putValue_18 rfl (lv_at hl0 1 rfl) ?_
    refine lv_i2l hx hb dX10_putValue_19 rfl ?_
    refine lv_lmul hx hb dX10_putValue_20 ?_
    cases hJ_2
    exact kj_3 _ _ _ hw0 (lv_sub hl0 [0] rfl)
  · replace hJ_2 := it_f c_4 hJ_2
    refine lv_ldc2 (v := (-2 : Int64)) hx hb hown (htc _ mw_1151) dX10_putValue_4 ?_
    refine lv_iload_n hx hb dX10_putValue_7 rfl (lv_at hl0 1 rfl) ?_
    refine lv_i2l hx hb dX10_putValue_8 rfl ?_
    refine lv_lmul hx hb dX10_putValue_9 ?_
    refine lv_lconst (v := (1 : Int64)) hx hb dX10_putValue_10 (by decide) ?_
    refine lv_lsub hx hb dX10_putValue_11 ?_
    refine lv_goto (tgt := 21) hx hb dX10_putValue_12 (by decide) ?_
    cases hJ_2
    exact kj_3 _ _ _ hw0 (lv_sub hl0 [0] rfl)
abbrev rm_X10_make : Room := { frames := 2, cells := 0, slots := 0, locals := 47 }
theorem hd_X10_make : yX10_make.cls = RX10 ∧ yX10_make.cls ≠ "java/lang/invoke/MethodHandle" ∧ yX10_make.cls ≠ "java/lang/invoke/VarHandle" ∧ (parseMethodDescriptor yX10_make.desc).map (fun d => d.parameters.length) = some 1 := by decide +kernel
set_option maxHeartbeats 4000000 in
set_option maxRecDepth 100000 in
theorem c_X10_make (l : Launch) (G : va_G) (cI cZ cJ : ClassId) (aM aMdisk aMits aMmany aMplace aMlength aMtimes aMvalues aMorder aMheadOf aMheadTime aMheadValue aMnext aMisNew aMcursorTime aMcursorValue aMmade : Nat) (M_thrown : Int32) (M_series : Int32) (M_most : Int32) (M_ratio : Int32) (M_writes : Int32) (M_fuse : Int32) (M_down : Int32) (M_recovers : Int32) (M_looks : Int32) (M_unpacked : Int32) (M_chunks : Int32) (M_epoch : Int32) (M_side : Int32) (M_logged : Int32) (M_nexts : Int32) (M_hasCursor : Int32) (M_cursorMany : Int32) (M_cursorAt : Int32) (M_bits : Int32) (M_from : Int32) (M_askMany : Int32) (M_askLeast : Int32) (M_askGreatest : Int32) (M_askSum : Int64) (M_many : Nat → Int32) (M_times : Nat → Int32) (M_values : Nat → Int32) (M_made : Nat → Int32) (p0 : Int32) {r : Int32} {o_M_bits : Int32} {o_M_made : Nat → Int32} (hfin : m_X10_make M_bits M_many M_times M_values M_made p0 = some (r, o_M_bits, o_M_made)) : CT l yX10_make cX10_make 8 (some .int) rm_X10_make G (tyC cI cZ cJ) [.ref aM, .int p0] [oX10 aM M_thrown M_series M_most M_ratio aMdisk M_writes M_fuse M_down M_recovers M_looks M_unpacked aMits aMmany aMplace aMlength aMtimes aMvalues aMorder M_chunks M_epoch M_side aMheadOf aMheadTime aMheadValue M_logged aMnext aMisNew M_nexts aMcursorTime aMcursorValue M_hasCursor M_cursorMany M_cursorAt aMmade M_bits M_from M_askMany M_askLeast M_askGreatest M_askSum, rI aMmany cI 240 M_many, rI aMtimes cI 15360 M_times, rI aMvalues cI 15360 M_values, rI aMmade cI 200 M_made] (some (.int r)) [oX10 aM M_thrown M_series M_most M_ratio aMdisk M_writes M_fuse M_down M_recovers M_looks M_unpacked aMits aMmany aMplace aMlength aMtimes aMvalues aMorder M_chunks M_epoch M_side aMheadOf aMheadTime aMheadValue M_logged aMnext aMisNew M_nexts aMcursorTime aMcursorValue M_hasCursor M_cursorMany M_cursorAt aMmade o_M_bits M_from M_askMany M_askLeast M_askGreatest M_askSum, rI aMmany cI 240 M_many, rI aMtimes cI 15360 M_times, rI aMvalues cI 15360 M_values, rI aMmade cI 200 o_M_made] := by
  refine CT.ofW (lvl := [(0, .ref aM), (1, .int p0)]) (by decide) (Nat.le_of_ble_eq_true rfl) rfl ?_
  intro p e s m args below meth c A ls0 QQ hQQ hx hb hml hr hlocks htc hN hown hK hA hw0 hl0
  rw [m_X10_make] at hfin
  refine lv_bipush (v := (64 : Int32)) hx hb dX10_make_0 (by decide) ?_
  refine lv_iload_n hx hb dX10_make_2 rfl (lv_at hl0 1 rfl) ?_
  refine lv_imul hx hb dX10_make_3 ?_
  refine lv_istore_n (lv' := [(2, .int ((64 : Int32) * p0)), (0, .ref aM), (1, .int p0)]) hx hb dX10_make_4 rfl hl0 (by decide) rfl (fun ls1 hl1 => ?_)
  clear hl0 ls0
  refine lv_aload_n hx hb dX10_make_5 rfl (lv_at hl1 1 rfl) ?_
  refine va_get (D := G) (ci := 10) (v := .ref aMmade) (C := RX10) (T := TX10) (N := 40) hx hb htc iX10 hown hK hw0.1 0 rfl rfl 33 (by decide) (htc _ mw_980) (fun _ h9 => h9) rfl dX10_make_6 ?_
  refine lv_iconst (v := (0 : Int32)) hx hb dX10_make_9 (by decide) ?_
  refine lv_aload_n hx hb dX10_make_10 rfl (lv_at hl1 1 rfl) ?_
  refine va_get (D := G) (ci := 10) (v := .ref aMtimes) (C := RX10) (T := TX10) (N := 40) hx hb htc iX10 hown hK hw0.1 0 rfl rfl 15 (by decide) (htc _ mw_962) (fun _ h9 => h9) rfl dX10_make_11 ?_
  refine lv_iload_n hx hb dX10_make_14 rfl (lv_at hl1 0 rfl) ?_
  replace hfin := ckb_some hfin
  obtain ⟨hin_2, hfin⟩ := hfin
  refine va_iald hx hb hK hw0.1 2 0 rfl rfl hin_2 dX10_make_15 ?_
  replace hfin := ckb_some hfin
  obtain ⟨hin_3, hfin⟩ := hfin
  refine va_iast hx hb hK hw0.1 hw0.2.1 hw0.2.2 4 0 rfl rfl hin_3 dX10_make_16 (fun H4 locs4 hP hD hS => ?_)
  have hw4 : wS G A s H4 locs4 [oX10 aM M_thrown M_series M_most M_ratio aMdisk M_writes M_fuse M_down M_recovers M_looks M_unpacked aMits aMmany aMplace aMlength aMtimes aMvalues aMorder M_chunks M_epoch M_side aMheadOf aMheadTime aMheadValue M_logged aMnext aMisNew M_nexts aMcursorTime aMcursorValue M_hasCursor M_cursorMany M_cursorAt aMmade M_bits M_from M_askMany M_askLeast M_askGreatest M_askSum, rI aMmany cI 240 M_many, rI aMtimes cI 15360 M_times, rI aMvalues cI 15360 M_values, rI aMmade cI 200 (upd M_made (Int32.toNatClampNeg (0 : Int32)) (M_times (Int32.toNatClampNeg ((64 : Int32) * p0))))] := ⟨hP, hD, hS⟩
  clear hP hD hS hw0
  refine lv_aload_n hx hb dX10_make_17 rfl (lv_at hl1 1 rfl) ?_
  refine va_get (D := G) (ci := 10) (v := .ref aMmade) (C := RX10) (T := TX10) (N := 40) hx hb htc iX10 hown hK hw4.1 0 rfl rfl 33 (by decide) (htc _ mw_980) (fun _ h9 => h9) rfl dX10_make_18 ?_
  refine lv_iconst (v := (1 : Int32)) hx hb dX10_make_21 (by decide) ?_
  refine lv_aload_n hx hb dX10_make_22 rfl (lv_at hl1 1 rfl) ?_
  refine va_get (D := G) (ci := 10) (v := .ref aMvalues) (C := RX10) (T := TX10) (N := 40) hx hb htc iX10 hown hK hw4.1 0 rfl rfl 16 (by decide) (htc _ mw_963) (fun _ h9 => h9) rfl dX10_make_23 ?_
  refine lv_iload_n hx hb dX10_make_26 rfl (lv_at hl1 0 rfl) ?_
  replace hfin := ckb_some hfin
  obtain ⟨hin_5, hfin⟩ := hfin
  refine va_iald hx hb hK hw4.1 3 0 rfl rfl hin_5 dX10_make_27 ?_
  replace hfin := ckb_some hfin
  obtain ⟨hin_6, hfin⟩ := hfin
  refine va_iast hx hb hK hw4.1 hw4.2.1 hw4.2.2 4 0 rfl rfl hin_6 dX10_make_28 (fun H7 locs7 hP hD hS => ?_)
  have hw7 : wS G A s H7 locs7 [oX10 aM M_thrown M_series M_most M_ratio aMdisk M_writes M_fuse M_down M_recovers M_looks M_unpacked aMits aMmany aMplace aMlength aMtimes aMvalues aMorder M_chunks M_epoch M_side aMheadOf aMheadTime aMheadValue M_logged aMnext aMisNew M_nexts aMcursorTime aMcursorValue M_hasCursor M_cursorMany M_cursorAt aMmade M_bits M_from M_askMany M_askLeast M_askGreatest M_askSum, rI aMmany cI 240 M_many, rI aMtimes cI 15360 M_times, rI aMvalues cI 15360 M_values, rI aMmade cI 200 (upd (upd M_made (Int32.toNatClampNeg (0 : Int32)) (M_times (Int32.toNatClampNeg ((64 : Int32) * p0)))) (Int32.toNatClampNeg (1 : Int32)) (M_values (Int32.toNatClampNeg ((64 : Int32) * p0))))] := ⟨hP, hD, hS⟩
  clear hP hD hS hw4 H4 locs4
  refine lv_aload_n hx hb dX10_make_29 rfl (lv_at hl1 1 rfl) ?_
  refine lv_iconst (v := (0 : Int32)) hx hb dX10_make_30 (by decide) ?_
  refine va_put (D := G) (ci := 10) (v := .int (0 : Int32)) (ty := .int) (C := RX10) (T := TX10) (N := 40) hx hb htc iX10 tyX10 tyX10_ok nmX10 hown hK hw7.1 hw7.2.1 hw7.2.2 0 rfl rfl 34 (by decide) (htc _ mw_981) (fun _ h9 => h9) rfl (tyX10_ok 34 (by decide)) rfl rfl (Nat.le_of_ble_eq_true rfl) dX10_make_31 (fun H8 locs8 hP hD hS => ?_)
  have hw8 : wS G A s H8 locs8 [oX10 aM M_thrown M_series M_most M_ratio aMdisk M_writes M_fuse M_down M_recovers M_looks M_unpacked aMits aMmany aMplace aMlength aMtimes aMvalues aMorder M_chunks M_epoch M_side aMheadOf aMheadTime aMheadValue M_logged aMnext aMisNew M_nexts aMcursorTime aMcursorValue M_hasCursor M_cursorMany M_cursorAt aMmade (0 : Int32) M_from M_askMany M_askLeast M_askGreatest M_askSum, rI aMmany cI 240 M_many, rI aMtimes cI 15360 M_times, rI aMvalues cI 15360 M_values, rI aMmade cI 200 (upd (upd M_made (Int32.toNatClampNeg (0 : Int32)) (M_times (Int32.toNatClampNeg ((64 : Int32) * p0)))) (Int32.toNatClampNeg (1 : Int32)) (M_values (Int32.toNatClampNeg ((64 : Int32) * p0))))] := ⟨hP, hD, hS⟩
  clear hP hD hS hw7 H7 locs7
  refine lv_lconst (v := (0 : Int64)) hx hb dX10_make_34 (by decide) ?_
  refine lv_lstore_n (lv' := [(3, .long (0 : Int64)), (2, .int ((64 : Int32) * p0)), (0, .ref aM), (1, .int p0)]) hx hb dX10_make_35 rfl hl1 (by decide) rfl (fun ls9 hl9 => ?_)
  clear hl1 ls1
  refine lv_iconst (v := (1 : Int32)) hx hb dX10_make_36 (by decide) ?_
  refine lv_istore (lv' := [(5, .int (1 : Int32)), (3, .long (0 : Int64)), (2, .int ((64 : Int32) * p0)), (0, .ref aM), (1, .int p0)]) hx hb dX10_make_37 hl9 (by decide) rfl (fun ls10 hl10 => ?_)
  clear hl9 ls9
  replace hfin := ob2_some hfin
  obtain ⟨M_bits_19, M_made_20, hL_15, hfin⟩ := hfin
  have kx_16 : ∀ (H : Heap) (locs : List Loc) (ls : Array Slot), wS G A s H locs [oX10 aM M_thrown M_series M_most M_ratio aMdisk M_writes M_fuse M_down M_recovers M_looks M_unpacked aMits aMmany aMplace aMlength aMtimes aMvalues aMorder M_chunks M_epoch M_side aMheadOf aMheadTime aMheadValue M_logged aMnext aMisNew M_nexts aMcursorTime aMcursorValue M_hasCursor M_cursorMany M_cursorAt aMmade M_bits_19 M_from M_askMany M_askLeast M_askGreatest M_askSum, rI aMmany cI 240 M_many, rI aMtimes cI 15360 M_times, rI aMvalues cI 15360 M_values, rI aMmade cI 200 M_made_20] → lv_has ls 8 [(0, .ref aM)] → W p l e rm_X10_make s m args below meth c H locs 0 0 QQ (F0 m 117 ls []) := by
    clear hw8 H8 locs8 hl10 ls10 hL_15
    intro H39 locs39 ls39 hw39 hl39
    refine lv_iconst (v := (2 : Int32)) hx hb dX10_make_117 (by decide) ?_
    refine lv_aload_n hx hb dX10_make_118 rfl (lv_at hl39 0 rfl) ?_
    refine va_get (D := G) (ci := 10) (v := .int M_bits_19) (C := RX10) (T := TX10) (N := 40) hx hb htc iX10 hown hK hw39.1 0 rfl rfl 34 (by decide) (htc _ mw_981) (fun _ h9 => h9) rfl dX10_make_119 ?_
    refine lv_bipush (v := (31 : Int32)) hx hb dX10_make_122 (by decide) ?_
    refine lv_iadd hx hb dX10_make_124 ?_
    refine lv_bipush (v := (32 : Int32)) hx hb dX10_make_125 (by decide) ?_
    refine lv_idiv hx hb dX10_make_127 (by decide) ?_
    refine lv_iadd hx hb dX10_make_128 ?_
    cases hfin
    rw [hQQ]
    exact ct_iret hx hb hr hlocks hw39.1 hw39.2.1 hw39.2.2 dX10_make_129
  have lp_17 : ∀ (n : Nat) (v3_11 : Int64) (v5_12 : Int32) (M_bits_13 : Int32) (M_made_14 : Nat → Int32), lp_X10_make_39 M_many M_times M_values p0 n v3_11 v5_12 M_bits_13 M_made_14 = some (M_bits_19, M_made_20) → ∀ (H : Heap) (locs : List Loc) (ls : Array Slot), wS G A s H locs [oX10 aM M_thrown M_series M_most M_ratio aMdisk M_writes M_fuse M_down M_recovers M_looks M_unpacked aMits aMmany aMplace aMlength aMtimes aMvalues aMorder M_chunks M_epoch M_side aMheadOf aMheadTime aMheadValue M_logged aMnext aMisNew M_nexts aMcursorTime aMcursorValue M_hasCursor M_cursorMany M_cursorAt aMmade M_bits_13 M_from M_askMany M_askLeast M_askGreatest M_askSum, rI aMmany cI 240 M_many, rI aMtimes cI 15360 M_times, rI aMvalues cI 15360 M_values, rI aMmade cI 200 M_made_14] → lv_has ls 8 [(0, .ref aM), (1, .int p0), (2, .int ((64 : Int32) * p0)), (3, .long v3_11), (5, .int v5_12)] → W p l e rm_X10_make s m args below meth c H locs 0 0 QQ (F0 m 39 ls []) := by
    clear hw8 H8 locs8 hl10 ls10 hfin
    intro n
    induction n with
    | zero =>
      intro v3_11 v5_12 M_bits_13 M_made_14 hB_18
      exact absurd hB_18 (by rw [lp_X10_make_39]; exact fun h9 => nomatch h9)
    | succ n ih =>
      intro v3_11 v5_12 M_bits_13 M_made_14 hB_18 H21 locs21 ls21 hw21 hl21
      rw [lp_X10_make_39] at hB_18
      refine lv_iload hx hb dX10_make_39 (lv_at hl21 4 rfl) ?_
      refine lv_aload_n hx hb dX10_make_41 rfl (lv_at hl21 0 rfl) ?_
      refine va_get (D := G) (ci := 10) (v := .ref aMmany) (C := RX10) (T := TX10) (N := 40) hx hb htc iX10 hown hK hw21.1 0 rfl rfl 12 (by decide) (htc _ mw_959) (fun _ h9 => h9) rfl dX10_make_42 ?_
      refine lv_iload_n hx hb dX10_make_45 rfl (lv_at hl21 1 rfl) ?_
      replace hB_18 := ckb_some hB_18
      obtain ⟨hin_22, hB_18⟩ := hB_18
      refine va_iald hx hb hK hw21.1 1 0 rfl rfl hin_22 dX10_make_46 ?_
      refine lv_icmp_ge (tgt := 117) hx hb dX10_make_47 (by decide) (fun c_23 => ?_) (fun c_23 => ?_)
      · replace hB_18 := it_t c_23 hB_18
        cases hB_18
        exact kx_16 _ _ _ hw21 (lv_sub hl21 [0] rfl)
      · replace hB_18 := it_f c_23 hB_18
        refine lv_aload_n hx hb dX10_make_50 rfl (lv_at hl21 0 rfl) ?_
        refine va_get (D := G) (ci := 10) (v := .ref aMtimes) (C := RX10) (T := TX10) (N := 40) hx hb htc iX10 hown hK hw21.1 0 rfl rfl 15 (by decide) (htc _ mw_962) (fun _ h9 => h9) rfl dX10_make_51 ?_
        refine lv_iload_n hx hb dX10_make_54 rfl (lv_at hl21 2 rfl) ?_
        refine lv_iload hx hb dX10_make_55 (lv_at hl21 4 rfl) ?_
        refine lv_iadd hx hb dX10_make_57 ?_
        replace hB_18 := ckb_some hB_18
        obtain ⟨hin_24, hB_18⟩ := hB_18
        refine va_iald hx hb hK hw21.1 2 0 rfl rfl hin_24 dX10_make_58 ?_
        refine lv_i2l hx hb dX10_make_59 rfl ?_
        refine lv_aload_n hx hb dX10_make_60 rfl (lv_at hl21 0 rfl) ?_
        refine va_get (D := G) (ci := 10) (v := .ref aMtimes) (C := RX10) (T := TX10) (N := 40) hx hb htc iX10 hown hK hw21.1 0 rfl rfl 15 (by decide) (htc _ mw_962) (fun _ h9 => h9) rfl dX10_make_61 ?_
        refine lv_iload_n hx hb dX10_make_64 rfl (lv_at hl21 2 rfl) ?_
        refine lv_iload hx hb dX10_make_65 (lv_at hl21 4 rfl) ?_
        refine lv_iadd hx hb dX10_make_67 ?_
        refine lv_iconst (v := (1 : Int32)) hx hb dX10_make_68 (by decide) ?_
        refine lv_isub hx hb dX10_make_69 ?_
        replace hB_18 := ckb_some hB_18
        obtain ⟨hin_25, hB_18⟩ := hB_18
        refine va_iald hx hb hK hw21.1 2 0 rfl rfl hin_25 dX10_make_70 ?_
        refine lv_i2l hx hb dX10_make_71 rfl ?_
        refine lv_lsub hx hb dX10_make_72 ?_
        refine lv_lstore (lv' := [(6, .long ((Int32.toInt64 (M_times (Int32.toNatClampNeg (((64 : Int32) * p0) + v5_12)))) - (Int32.toInt64 (M_times (Int32.toNatClampNeg ((((64 : Int32) * p0) + v5_12) - (1 : Int32))))))), (0, .ref aM), (1, .int p0), (2, .int ((64 : Int32) * p0)), (3, .long v3_11), (5, .int v5_12)]) hx hb dX10_make_73 hl21 (by decide) rfl (fun ls26 hl26 => ?_)
        clear hl21 ls21
        refine lv_aload_n hx hb dX10_make_75 rfl (lv_at hl26 1 rfl) ?_
        refine lv_lload hx hb dX10_make_76 (lv_at hl26 0 rfl) ?_
        refine lv_lload_n hx hb dX10_make_78 rfl (lv_at hl26 4 rfl) ?_
        refine lv_lsub hx hb dX10_make_79 ?_
        replace hB_18 := ob2_some hB_18
        obtain ⟨M_bits_28, M_made_29, hE_27, hB_18⟩ := hB_18
        refine ctV (a := aM) (As := [.long (((Int32.toInt64 (M_times (Int32.toNatClampNeg (((64 : Int32) * p0) + v5_12)))) - (Int32.toInt64 (M_times (Int32.toNatClampNeg ((((64 : Int32) * p0) + v5_12) - (1 : Int32)))))) - v3_11)]) (rest := []) (st1 := []) (wc := [oX10 aM M_thrown M_series M_most M_ratio aMdisk M_writes M_fuse M_down M_recovers M_looks M_unpacked aMits aMmany aMplace aMlength aMtimes aMvalues aMorder M_chunks M_epoch M_side aMheadOf aMheadTime aMheadValue M_logged aMnext aMisNew M_nexts aMcursorTime aMcursorValue M_hasCursor M_cursorMany M_cursorAt aMmade M_bits_13 M_from M_askMany M_askLeast M_askGreatest M_askSum, rI aMmade cI 200 M_made_14]) (w1 := [oX10 aM M_thrown M_series M_most M_ratio aMdisk M_writes M_fuse M_down M_recovers M_looks M_unpacked aMits aMmany aMplace aMlength aMtimes aMvalues aMorder M_chunks M_epoch M_side aMheadOf aMheadTime aMheadValue M_logged aMnext aMisNew M_nexts aMcursorTime aMcursorValue M_hasCursor M_cursorMany M_cursorAt aMmade M_bits_28 M_from M_askMany M_askLeast M_askGreatest M_askSum, rI aMmade cI 200 M_made_29]) (wr := [rI aMmany cI 240 M_many, rI aMtimes cI 15360 M_times, rI aMvalues cI 15360 M_values]) (wb := [oX10 aM M_thrown M_series M_most M_ratio aMdisk M_writes M_fuse M_down M_recovers M_looks M_unpacked aMits aMmany aMplace aMlength aMtimes aMvalues aMorder M_chunks M_epoch M_side aMheadOf aMheadTime aMheadValue M_logged aMnext aMisNew M_nexts aMcursorTime aMcursorValue M_hasCursor M_cursorMany M_cursorAt aMmade M_bits_28 M_from M_askMany M_askLeast M_askGreatest M_askSum, rI aMmany cI 240 M_many, rI aMtimes cI 15360 M_times, rI aMvalues cI 15360 M_values, rI aMmade cI 200 M_made_29]) (v := none) hx hb hml hown htc hN (c_X10_putStep l G cI cZ cJ aM aMdisk aMits aMmany aMplace aMlength aMtimes aMvalues aMorder aMheadOf aMheadTime aMheadValue aMnext aMisNew aMcursorTime aMcursorValue aMmade M_thrown M_series M_most M_ratio M_writes M_fuse M_down M_recovers M_looks M_unpacked M_chunks M_epoch M_side M_logged M_nexts M_hasCursor M_cursorMany M_cursorAt M_bits_13 M_from M_askMany M_askLeast M_askGreatest M_askSum M_made_14 (((Int32.toInt64 (M_times (Int32.toNatClampNeg (((64 : Int32) * p0) + v5_12)))) - (Int32.toInt64 (M_times (Int32.toNatClampNeg ((((64 : Int32) * p0) + v5_12) - (1 : Int32)))))) - v3_11) hE_27) mw_1128 mw_1130 mp_46 mw_12 mw_1131 hd_X10_putStep ⟨rfl, rfl⟩ ⟨Nat.le_of_ble_eq_true rfl, Nat.le_of_ble_eq_true rfl⟩ hK hw21 hA [0, 4] [1, 2, 3] [3, 0, 1, 2, 4] rfl rfl rfl rfl rfl (by decide) rfl rfl rfl 0 rfl rfl rfl rfl hl26.1 rfl rfl (Nat.le_of_ble_eq_true rfl) dX10_make_80 ⟨Nat.zero_le _, Nat.zero_le _⟩ (fun H30 locs30 hw30 => ?_)
        clear hw21 H21 locs21
        refine lv_lload hx hb dX10_make_83 (lv_at hl26 0 rfl) ?_
        refine lv_lstore_n (lv' := [(3, .long ((Int32.toInt64 (M_times (Int32.toNatClampNeg (((64 : Int32) * p0) + v5_12)))) - (Int32.toInt64 (M_times (Int32.toNatClampNeg ((((64 : Int32) * p0) + v5_12) - (1 : Int32))))))), (6, .long ((Int32.toInt64 (M_times (Int32.toNatClampNeg (((64 : Int32) * p0) + v5_12)))) - (Int32.toInt64 (M_times (Int32.toNatClampNeg ((((64 : Int32) * p0) + v5_12) - (1 : Int32))))))), (0, .ref aM), (1, .int p0), (2, .int ((64 : Int32) * p0)), (5, .int v5_12)]) hx hb dX10_make_85 rfl hl26 (by decide) rfl (fun ls31 hl31 => ?_)
        clear hl26 ls26
        refine lv_aload_n hx hb dX10_make_86 rfl (lv_at hl31 2 rfl) ?_
        refine lv_aload_n hx hb dX10_make_87 rfl (lv_at hl31 2 rfl) ?_
        refine va_get (D := G) (ci := 10) (v := .ref aMvalues) (C := RX10) (T := TX10) (N := 40) hx hb htc iX10 hown hK hw30.1 0 rfl rfl 16 (by decide) (htc _ mw_963) (fun _ h9 => h9) rfl dX10_make_88 ?_
        refine lv_iload_n hx hb dX10_make_91 rfl (lv_at hl31 4 rfl) ?_
        refine lv_iload hx hb dX10_make_92 (lv_at hl31 5 rfl) ?_
        refine lv_iadd hx hb dX10_make_94 ?_
        replace hB_18 := ckb_some hB_18
        obtain ⟨hin_32, hB_18⟩ := hB_18
        refine va_iald hx hb hK hw30.1 3 0 rfl rfl hin_32 dX10_make_95 ?_
        refine lv_aload_n hx hb dX10_make_96 rfl (lv_at hl31 2 rfl) ?_
        refine va_get (D := G) (ci := 10) (v := .ref aMvalues) (C := RX10) (T := TX10) (N := 40) hx hb htc iX10 hown hK hw30.1 0 rfl rfl 16 (by decide) (htc _ mw_963) (fun _ h9 => h9) rfl dX10_make_97 ?_
        refine lv_iload_n hx hb dX10_make_100 rfl (lv_at hl31 4 rfl) ?_
        refine lv_iload hx hb dX10_make_101 (lv_at hl31 5 rfl) ?_
        refine lv_iadd hx hb dX10_make_103 ?_
        refine lv_iconst (v := (1 : Int32)) hx hb dX10_make_104 (by decide) ?_
        refine lv_isub hx hb dX10_make_105 ?_
        replace hB_18 := ckb_some hB_18
        obtain ⟨hin_33, hB_18⟩ := hB_18
        refine va_iald hx hb hK hw30.1 3 0 rfl rfl hin_33 dX10_make_106 ?_
        refine lv_isub hx hb dX10_make_107 ?_
        replace hB_18 := ob2_some hB_18
        obtain ⟨M_bits_35, M_made_36, hE_34, hB_18⟩ := hB_18
        refine ctV (a := aM) (As := [.int ((M_values (Int32.toNatClampNeg (((64 : Int32) * p0) + v5_12))) - (M_values (Int32.toNatClampNeg ((((64 : Int32) * p0) + v5_12) - (1 : Int32)))))]) (rest := []) (st1 := []) (wc := [oX10 aM M_thrown M_series M_most M_ratio aMdisk M_writes M_fuse M_down M_recovers M_looks M_unpacked aMits aMmany aMplace aMlength aMtimes aMvalues aMorder M_chunks M_epoch M_side aMheadOf aMheadTime aMheadValue M_logged aMnext aMisNew M_nexts aMcursorTime aMcursorValue M_hasCursor M_cursorMany M_cursorAt aMmade M_bits_28 M_from M_askMany M_askLeast M_askGreatest M_askSum, rI aMmade cI 200 M_made_29]) (w1 := [oX10 aM M_thrown M_series M_most M_ratio aMdisk M_writes M_fuse M_down M_recovers M_looks M_unpacked aMits aMmany aMplace aMlength aMtimes aMvalues aMorder M_chunks M_epoch M_side aMheadOf aMheadTime aMheadValue M_logged aMnext aMisNew M_nexts aMcursorTime aMcursorValue M_hasCursor M_cursorMany M_cursorAt aMmade M_bits_35 M_from M_askMany M_askLeast M_askGreatest M_askSum, rI aMmade cI 200 M_made_36]) (wr := [rI aMmany cI 240 M_many, rI aMtimes cI 15360 M_times, rI aMvalues cI 15360 M_values]) (wb := [oX10 aM M_thrown M_series M_most M_ratio aMdisk M_writes M_fuse M_down M_recovers M_looks M_unpacked aMits aMmany aMplace aMlength aMtimes aMvalues aMorder M_chunks M_epoch M_side aMheadOf aMheadTime aMheadValue M_logged aMnext aMisNew M_nexts aMcursorTime aMcursorValue M_hasCursor M_cursorMany M_cursorAt aMmade M_bits_35 M_from M_askMany M_askLeast M_askGreatest M_askSum, rI aMmany cI 240 M_many, rI aMtimes cI 15360 M_times, rI aMvalues cI 15360 M_values, rI aMmade cI 200 M_made_36]) (v := none) hx hb hml hown htc hN (c_X10_putValue l G cI cZ cJ aM aMdisk aMits aMmany aMplace aMlength aMtimes aMvalues aMorder aMheadOf aMheadTime aMheadValue aMnext aMisNew aMcursorTime aMcursorValue aMmade M_thrown M_series M_most M_ratio M_writes M_fuse M_down M_recovers M_looks M_unpacked M_chunks M_epoch M_side M_logged M_nexts M_hasCursor M_cursorMany M_cursorAt M_bits_28 M_from M_askMany M_askLeast M_askGreatest M_askSum M_made_29 ((M_values (Int32.toNatClampNeg (((64 : Int32) * p0) + v5_12))) - (M_values (Int32.toNatClampNeg ((((64 : Int32) * p0) + v5_12) - (1 : Int32))))) hE_34) mw_1147 mw_1149 mp_48 mw_12 mw_1150 hd_X10_putValue ⟨rfl, rfl⟩ ⟨Nat.le_of_ble_eq_true rfl, Nat.le_of_ble_eq_true rfl⟩ hK hw30 hA [0, 4] [1, 2, 3] [3, 0, 1, 2, 4] rfl rfl rfl rfl rfl (by decide) rfl rfl rfl 0 rfl rfl rfl rfl hl31.1 rfl rfl (Nat.le_of_ble_eq_true rfl) dX10_make_108 ⟨Nat.zero_le _, Nat.zero_le _⟩ (fun H37 locs37 hw37 => ?_)
        clear hw30 H30 locs30
        refine lv_iinc (v := (v5_12 + (1 : Int32))) (lv' := [(5, .int (v5_12 + (1 : Int32))), (3, .long ((Int32.toInt64 (M_times (Int32.toNatClampNeg (((64 : Int32) * p0) + v5_12)))) - (Int32.toInt64 (M_times (Int32.toNatClampNeg ((((64 : Int32) * p0) + v5_12) - (1 : Int32))))))), (6, .long ((Int32.toInt64 (M_times (Int32.toNatClampNeg (((64 : Int32) * p0) + v5_12)))) - (Int32.toInt64 (M_times (Int32.toNatClampNeg ((((64 : Int32) * p0) + v5_12) - (1 : Int32))))))), (0, .ref aM), (1, .int p0), (2, .int ((64 : Int32) * p0))]) hx hb dX10_make_111 hl31 (k := 5) rfl rfl (by decide) rfl (fun ls38 hl38 => ?_)
        clear hl31 ls31
        refine lv_goto (tgt := 39) hx hb dX10_make_114 (by decide) ?_
        exact ih ((Int32.toInt64 (M_times (Int32.toNatClampNeg (((64 : Int32) * p0) + v5_12)))) - (Int32.toInt64 (M_times (Int32.toNatClampNeg ((((64 : Int32) * p0) + v5_12) - (1 : Int32)))))) (v5_12 + (1 : Int32)) M_bits_35 M_made_36 hB_18 _ _ _ hw37 (lv_sub hl38 [3, 4, 5, 1, 0] rfl)
  exact lp_17 NN (0 : Int64) (1 : Int32) (0 : Int32) (upd (upd M_made (Int32.toNatClampNeg (0 : Int32)) (M_times (Int32.toNatClampNeg ((64 : Int32) * p0)))) (Int32.toNatClampNeg (1 : Int32)) (M_values (Int32.toNatClampNeg ((64 : Int32) * p0)))) hL_15 _ _ _ hw8 (lv_sub hl10 [3, 4, 2, 1, 0] rfl)
abbrev rm_X10_take : Room := { frames := 0, cells := 0, slots := 0, locals := 0 }
theorem hd_X10_take : yX10_take.cls = RX10 ∧ yX10_take.cls ≠ "java/lang/invoke/MethodHandle" ∧ yX10_take.cls ≠ "java/lang/invoke/VarHandle" ∧ (parseMethodDescriptor yX10_take.desc).map (fun d => d.parameters.length) = some 1 := by decide +kernel
set_option maxHeartbeats 4000000 in
set_option maxRecDepth 100000 in
theorem c_X10_take (l : Launch) (G : va_G) (cI cZ cJ : ClassId) (aM aMdisk aMits aMmany aMplace aMlength aMtimes aMvalues aMorder aMheadOf aMheadTime aMheadValue aMnext aMisNew aMcursorTime aMcursorValue aMmade : Nat) (M_thrown : Int32) (M_series : Int32) (M_most : Int32) (M_ratio : Int32) (M_writes : Int32) (M_fuse : Int32) (M_down : Int32) (M_recovers : Int32) (M_looks : Int32) (M_unpacked : Int32) (M_chunks : Int32) (M_epoch : Int32) (M_side : Int32) (M_logged : Int32) (M_nexts : Int32) (M_hasCursor : Int32) (M_cursorMany : Int32) (M_cursorAt : Int32) (M_bits : Int32) (M_from : Int32) (M_askMany : Int32) (M_askLeast : Int32) (M_askGreatest : Int32) (M_askSum : Int64) (M_disk : Nat → Int32) (p0 : Int32) {r : Int64} {o_M_bits : Int32} (hfin : m_X10_take M_bits M_from M_disk p0 = some (r, o_M_bits)) : CT l yX10_take cX10_take 5 (some .long) rm_X10_take G (tyC cI cZ cJ) [.ref aM, .int p0] [oX10 aM M_thrown M_series M_most M_ratio aMdisk M_writes M_fuse M_down M_recovers M_looks M_unpacked aMits aMmany aMplace aMlength aMtimes aMvalues aMorder M_chunks M_epoch M_side aMheadOf aMheadTime aMheadValue M_logged aMnext aMisNew M_nexts aMcursorTime aMcursorValue M_hasCursor M_cursorMany M_cursorAt aMmade M_bits M_from M_askMany M_askLeast M_askGreatest M_askSum, rI aMdisk cI 4096 M_disk] (some (.long r)) [oX10 aM M_thrown M_series M_most M_ratio aMdisk M_writes M_fuse M_down M_recovers M_looks M_unpacked aMits aMmany aMplace aMlength aMtimes aMvalues aMorder M_chunks M_epoch M_side aMheadOf aMheadTime aMheadValue M_logged aMnext aMisNew M_nexts aMcursorTime aMcursorValue M_hasCursor M_cursorMany M_cursorAt aMmade o_M_bits M_from M_askMany M_askLeast M_askGreatest M_askSum, rI aMdisk cI 4096 M_disk] := by
  refine CT.ofW (lvl := [(0, .ref aM), (1, .int p0)]) (by decide) (Nat.le_of_ble_eq_true rfl) rfl ?_
  intro p e s m args below meth c A ls0 QQ hQQ hx hb hml hr hlocks htc hN hown hK hA hw0 hl0
  rw [m_X10_take] at hfin
  refine lv_lconst (v := (0 : Int64)) hx hb dX10_take_0 (by decide) ?_
  refine lv_lstore_n (lv' := [(2, .long (0 : Int64)), (0, .ref aM), (1, .int p0)]) hx hb dX10_take_1 rfl hl0 (by decide) rfl (fun ls1 hl1 => ?_)
  clear hl0 ls0
  refine lv_iconst (v := (0 : Int32)) hx hb dX10_take_2 (by decide) ?_
  refine lv_istore (lv' := [(4, .int (0 : Int32)), (2, .long (0 : Int64)), (0, .ref aM), (1, .int p0)]) hx hb dX10_take_3 hl1 (by decide) rfl (fun ls2 hl2 => ?_)
  clear hl1 ls1
  replace hfin := ob2_some hfin
  obtain ⟨v2_10, M_bits_11, hL_6, hfin⟩ := hfin
  have kx_7 : ∀ (H : Heap) (locs : List Loc) (ls : Array Slot), wS G A s H locs [oX10 aM M_thrown M_series M_most M_ratio aMdisk M_writes M_fuse M_down M_recovers M_looks M_unpacked aMits aMmany aMplace aMlength aMtimes aMvalues aMorder M_chunks M_epoch M_side aMheadOf aMheadTime aMheadValue M_logged aMnext aMisNew M_nexts aMcursorTime aMcursorValue M_hasCursor M_cursorMany M_cursorAt aMmade M_bits_11 M_from M_askMany M_askLeast M_askGreatest M_askSum, rI aMdisk cI 4096 M_disk] → lv_has ls 5 [(2, .long v2_10)] → W p l e rm_X10_take s m args below meth c H locs 0 0 QQ (F0 m 65 ls []) := by
    clear hw0 hl2 ls2 hL_6
    intro H18 locs18 ls18 hw18 hl18
    refine lv_lload_n hx hb dX10_take_65 rfl (lv_at hl18 0 rfl) ?_
    cases hfin
    rw [hQQ]
    exact ct_lret hx hb hr hlocks hw18.1 hw18.2.1 hw18.2.2 dX10_take_66
  have lp_8 : ∀ (n : Nat) (v2_3 : Int64) (v4_4 : Int32) (M_bits_5 : Int32), lp_X10_take_5 M_from M_disk p0 n v2_3 v4_4 M_bits_5 = some (v2_10, M_bits_11) → ∀ (H : Heap) (locs : List Loc) (ls : Array Slot), wS G A s H locs [oX10 aM M_thrown M_series M_most M_ratio aMdisk M_writes M_fuse M_down M_recovers M_looks M_unpacked aMits aMmany aMplace aMlength aMtimes aMvalues aMorder M_chunks M_epoch M_side aMheadOf aMheadTime aMheadValue M_logged aMnext aMisNew M_nexts aMcursorTime aMcursorValue M_hasCursor M_cursorMany M_cursorAt aMmade M_bits_5 M_from M_askMany M_askLeast M_askGreatest M_askSum, rI aMdisk cI 4096 M_disk] → lv_has ls 5 [(0, .ref aM), (1, .int p0), (2, .long v2_3), (4, .int v4_4)] → W p l e rm_X10_take s m args below meth c H locs 0 0 QQ (F0 m 5 ls []) := by
    clear hw0 hl2 ls2 hfin
    intro n
    induction n with
    | zero =>
      intro v2_3 v4_4 M_bits_5 hB_9
      exact absurd hB_9 (by rw [lp_X10_take_5]; exact fun h9 => nomatch h9)
    | succ n ih =>
      intro v2_3 v4_4 M_bits_5 hB_9 H12 locs12 ls12 hw12 hl12
      rw [lp_X10_take_5] at hB_9
      refine lv_iload hx hb dX10_take_5 (lv_at hl12 3 rfl) ?_
      refine lv_iload_n hx hb dX10_take_7 rfl (lv_at hl12 1 rfl) ?_
      refine lv_icmp_ge (tgt := 65) hx hb dX10_take_8 (by decide) (fun c_13 => ?_) (fun c_13 => ?_)
      · replace hB_9 := it_t c_13 hB_9
        cases hB_9
        exact kx_7 _ _ _ hw12 (lv_sub hl12 [2] rfl)
      · replace hB_9 := it_f c_13 hB_9
        refine lv_ldc2 (v := (2 : Int64)) hx hb hown (htc _ mw_1138) dX10_take_11 ?_
        refine lv_lload_n hx hb dX10_take_14 rfl (lv_at hl12 2 rfl) ?_
        refine lv_lmul hx hb dX10_take_15 ?_
        refine lv_aload_n hx hb dX10_take_16 rfl (lv_at hl12 0 rfl) ?_
        refine va_get (D := G) (ci := 10) (v := .ref aMdisk) (C := RX10) (T := TX10) (N := 40) hx hb htc iX10 hown hK hw12.1 0 rfl rfl 4 (by decide) (htc _ mw_951) (fun _ h9 => h9) rfl dX10_take_17 ?_
        refine lv_aload_n hx hb dX10_take_20 rfl (lv_at hl12 0 rfl) ?_
        refine va_get (D := G) (ci := 10) (v := .int M_from) (C := RX10) (T := TX10) (N := 40) hx hb htc iX10 hown hK hw12.1 0 rfl rfl 35 (by decide) (htc _ mw_982) (fun _ h9 => h9) rfl dX10_take_21 ?_
        refine lv_aload_n hx hb dX10_take_24 rfl (lv_at hl12 0 rfl) ?_
        refine va_get (D := G) (ci := 10) (v := .int M_bits_5) (C := RX10) (T := TX10) (N := 40) hx hb htc iX10 hown hK hw12.1 0 rfl rfl 34 (by decide) (htc _ mw_981) (fun _ h9 => h9) rfl dX10_take_25 ?_
        refine lv_bipush (v := (32 : Int32)) hx hb dX10_take_28 (by decide) ?_
        refine lv_idiv hx hb dX10_take_30 (by decide) ?_
        refine lv_iadd hx hb dX10_take_31 ?_
        replace hB_9 := ckb_some hB_9
        obtain ⟨hin_14, hB_9⟩ := hB_9
        refine va_iald hx hb hK hw12.1 1 0 rfl rfl hin_14 dX10_take_32 ?_
        refine lv_bipush (v := (31 : Int32)) hx hb dX10_take_33 (by decide) ?_
        refine lv_aload_n hx hb dX10_take_35 rfl (lv_at hl12 0 rfl) ?_
        refine va_get (D := G) (ci := 10) (v := .int M_bits_5) (C := RX10) (T := TX10) (N := 40) hx hb htc iX10 hown hK hw12.1 0 rfl rfl 34 (by decide) (htc _ mw_981) (fun _ h9 => h9) rfl dX10_take_36 ?_
        refine lv_bipush (v := (32 : Int32)) hx hb dX10_take_39 (by decide) ?_
        refine lv_irem hx hb dX10_take_41 (by decide) ?_
        refine lv_isub hx hb dX10_take_42 ?_
        refine lv_ishr hx hb dX10_take_43 ?_
        refine lv_iconst (v := (1 : Int32)) hx hb dX10_take_44 (by decide) ?_
        refine lv_iand hx hb dX10_take_45 ?_
        refine lv_i2l hx hb dX10_take_46 rfl ?_
        refine lv_ladd hx hb dX10_take_47 ?_
        refine lv_lstore_n (lv' := [(2, .long (((2 : Int64) * v2_3) + (Int32.toInt64 (((M_disk (Int32.toNatClampNeg (M_from + (M_bits_5 / (32 : Int32))))) >>> (((31 : Int32) - (M_bits_5 - M_bits_5 / (32 : Int32) * (32 : Int32))) &&& 31)) &&& (1 : Int32))))), (0, .ref aM), (1, .int p0), (4, .int v4_4)]) hx hb dX10_take_48 rfl hl12 (by decide) rfl (fun ls15 hl15 => ?_)
        clear hl12 ls12
        refine lv_aload_n hx hb dX10_take_49 rfl (lv_at hl15 1 rfl) ?_
        refine lv_dup hx hb dX10_take_50 rfl ?_
        refine va_get (D := G) (ci := 10) (v := .int M_bits_5) (C := RX10) (T := TX10) (N := 40) hx hb htc iX10 hown hK hw12.1 0 rfl rfl 34 (by decide) (htc _ mw_981) (fun _ h9 => h9) rfl dX10_take_51 ?_
        refine lv_iconst (v := (1 : Int32)) hx hb dX10_take_54 (by decide) ?_
        refine lv_iadd hx hb dX10_take_55 ?_
        refine va_put (D := G) (ci := 10) (v := .int (M_bits_5 + (1 : Int32))) (ty := .int) (C := RX10) (T := TX10) (N := 40) hx hb htc iX10 tyX10 tyX10_ok nmX10 hown hK hw12.1 hw12.2.1 hw12.2.2 0 rfl rfl 34 (by decide) (htc _ mw_981) (fun _ h9 => h9) rfl (tyX10_ok 34 (by decide)) rfl rfl (Nat.le_of_ble_eq_true rfl) dX10_take_56 (fun H16 locs16 hP hD hS => ?_)
        have hw16 : wS G A s H16 locs16 [oX10 aM M_thrown M_series M_most M_ratio aMdisk M_writes M_fuse M_down M_recovers M_looks M_unpacked aMits aMmany aMplace aMlength aMtimes aMvalues aMorder M_chunks M_epoch M_side aMheadOf aMheadTime aMheadValue M_logged aMnext aMisNew M_nexts aMcursorTime aMcursorValue M_hasCursor M_cursorMany M_cursorAt aMmade (M_bits_5 + (1 : Int32)) M_from M_askMany M_askLeast M_askGreatest M_askSum, rI aMdisk cI 4096 M_disk] := ⟨hP, hD, hS⟩
        clear hP hD hS hw12 H12 locs12
        refine lv_iinc (v := (v4_4 + (1 : Int32))) (lv' := [(4, .int (v4_4 + (1 : Int32))), (2, .long (((2 : Int64) * v2_3) + (Int32.toInt64 (((M_disk (Int32.toNatClampNeg (M_from + (M_bits_5 / (32 : Int32))))) >>> (((31 : Int32) - (M_bits_5 - M_bits_5 / (32 : Int32) * (32 : Int32))) &&& 31)) &&& (1 : Int32))))), (0, .ref aM), (1, .int p0)]) hx hb dX10_take_59 hl15 (k := 3) rfl rfl (by decide) rfl (fun ls17 hl17 => ?_)
        clear hl15 ls15
        refine lv_goto (tgt := 5) hx hb dX10_take_62 (by decide) ?_
        exact ih (((2 : Int64) * v2_3) + (Int32.toInt64 (((M_disk (Int32.toNatClampNeg (M_from + (M_bits_5 / (32 : Int32))))) >>> (((31 : Int32) - (M_bits_5 - M_bits_5 / (32 : Int32) * (32 : Int32))) &&& 31)) &&& (1 : Int32)))) (v4_4 + (1 : Int32)) (M_bits_5 + (1 : Int32)) hB_9 _ _ _ hw16 (lv_sub hl17 [2, 3, 1, 0] rfl)
  exact lp_8 NN (0 : Int64) (0 : Int32) M_bits hL_6 _ _ _ hw0 (lv_sub hl2 [2, 3, 1, 0] rfl)
abbrev rm_X10_takeStep : Room := { frames := 1, cells := 0, slots := 0, locals := 24 }
theorem hd_X10_takeStep : yX10_takeStep.cls = RX10 ∧ yX10_takeStep.cls ≠ "java/lang/invoke/MethodHandle" ∧ yX10_takeStep.cls ≠ "java/lang/invoke/VarHandle" ∧ (parseMethodDescriptor yX10_takeStep.desc).map (fun d => d.parameters.length) = some 0 := by decide +kernel
set_option maxHeartbeats 4000000 in
set_option maxRecDepth 100000 in
theorem c_X10_takeStep (l : Launch) (G : va_G) (cI cZ cJ : ClassId) (aM aMdisk aMits aMmany aMplace aMlength aMtimes aMvalues aMorder aMheadOf aMheadTime aMheadValue aMnext aMisNew aMcursorTime aMcursorValue aMmade : Nat) (M_thrown : Int32) (M_series : Int32) (M_most : Int32) (M_ratio : Int32) (M_writes : Int32) (M_fuse : Int32) (M_down : Int32) (M_recovers : Int32) (M_looks : Int32) (M_unpacked : Int32) (M_chunks : Int32) (M_epoch : Int32) (M_side : Int32) (M_logged : Int32) (M_nexts : Int32) (M_hasCursor : Int32) (M_cursorMany : Int32) (M_cursorAt : Int32) (M_bits : Int32) (M_from : Int32) (M_askMany : Int32) (M_askLeast : Int32) (M_askGreatest : Int32) (M_askSum : Int64) (M_disk : Nat → Int32)  {r : Int64} {o_M_bits : Int32} (hfin : m_X10_takeStep M_bits M_from M_disk = some (r, o_M_bits)) : CT l yX10_takeStep cX10_takeStep 1 (some .long) rm_X10_takeStep G (tyC cI cZ cJ) [.ref aM] [oX10 aM M_thrown M_series M_most M_ratio aMdisk M_writes M_fuse M_down M_recovers M_looks M_unpacked aMits aMmany aMplace aMlength aMtimes aMvalues aMorder M_chunks M_epoch M_side aMheadOf aMheadTime aMheadValue M_logged aMnext aMisNew M_nexts aMcursorTime aMcursorValue M_hasCursor M_cursorMany M_cursorAt aMmade M_bits M_from M_askMany M_askLeast M_askGreatest M_askSum, rI aMdisk cI 4096 M_disk] (some (.long r)) [oX10 aM M_thrown M_series M_most M_ratio aMdisk M_writes M_fuse M_down M_recovers M_looks M_unpacked aMits aMmany aMplace aMlength aMtimes aMvalues aMorder M_chunks M_epoch M_side aMheadOf aMheadTime aMheadValue M_logged aMnext aMisNew M_nexts aMcursorTime aMcursorValue M_hasCursor M_cursorMany M_cursorAt aMmade o_M_bits M_from M_askMany M_askLeast M_askGreatest M_askSum, rI aMdisk cI 4096 M_disk] := by
  refine CT.ofW (lvl := [(0, .ref aM)]) (by decide) (Nat.le_of_ble_eq_true rfl) rfl ?_
  intro p e s m args below meth c A ls0 QQ hQQ hx hb hml hr hlocks htc hN hown hK hA hw0 hl0
  rw [m_X10_takeStep] at hfin
  refine lv_aload_n hx hb dX10_takeStep_0 rfl (lv_at hl0 0 rfl) ?_
  refine lv_iconst (v := (1 : Int32)) hx hb dX10_takeStep_1 (by decide) ?_
  replace hfin := ob2_some hfin
  obtain ⟨r_2, M_bits_3, hE_1, hfin⟩ := hfin
  refine ctV (a := aM) (As := [.int (1 : Int32)]) (rest := []) (st1 := [.long r_2]) (wc := [oX10 aM M_thrown M_series M_most M_ratio aMdisk M_writes M_fuse M_down M_recovers M_looks M_unpacked aMits aMmany aMplace aMlength aMtimes aMvalues aMorder M_chunks M_epoch M_side aMheadOf aMheadTime aMheadValue M_logged aMnext aMisNew M_nexts aMcursorTime aMcursorValue M_hasCursor M_cursorMany M_cursorAt aMmade M_bits M_from M_askMany M_askLeast M_askGreatest M_askSum, rI aMdisk cI 4096 M_disk]) (w1 := [oX10 aM M_thrown M_series M_most M_ratio aMdisk M_writes M_fuse M_down M_recovers M_looks M_unpacked aMits aMmany aMplace aMlength aMtimes aMvalues aMorder M_chunks M_epoch M_side aMheadOf aMheadTime aMheadValue M_logged aMnext aMisNew M_nexts aMcursorTime aMcursorValue M_hasCursor M_cursorMany M_cursorAt aMmade M_bits_3 M_from M_askMany M_askLeast M_askGreatest M_askSum, rI aMdisk cI 4096 M_disk]) (wr := []) (wb := [oX10 aM M_thrown M_series M_most M_ratio aMdisk M_writes M_fuse M_down M_recovers M_looks M_unpacked aMits aMmany aMplace aMlength aMtimes aMvalues aMorder M_chunks M_epoch M_side aMheadOf aMheadTime aMheadValue M_logged aMnext aMisNew M_nexts aMcursorTime aMcursorValue M_hasCursor M_cursorMany M_cursorAt aMmade M_bits_3 M_from M_askMany M_askLeast M_askGreatest M_askSum, rI aMdisk cI 4096 M_disk]) (v := (some (.long r_2))) hx hb hml hown htc hN (c_X10_take l G cI cZ cJ aM aMdisk aMits aMmany aMplace aMlength aMtimes aMvalues aMorder aMheadOf aMheadTime aMheadValue aMnext aMisNew aMcursorTime aMcursorValue aMmade M_thrown M_series M_most M_ratio M_writes M_fuse M_down M_recovers M_looks M_unpacked M_chunks M_epoch M_side M_logged M_nexts M_hasCursor M_cursorMany M_cursorAt M_bits M_from M_askMany M_askLeast M_askGreatest M_askSum M_disk (1 : Int32) hE_1) mw_1301 mw_1303 mp_73 mw_12 mw_1304 hd_X10_take ⟨rfl, rfl⟩ ⟨Nat.le_of_ble_eq_true rfl, Nat.le_of_ble_eq_true rfl⟩ hK hw0 hA [0, 1] [] [0, 1] rfl rfl rfl rfl rfl (by decide) rfl rfl rfl 0 rfl rfl rfl rfl hl0.1 rfl rfl (Nat.le_of_ble_eq_true rfl) dX10_takeStep_2 ⟨Nat.zero_le _, Nat.zero_le _⟩ (fun H4 locs4 hw4 => ?_)
  clear hw0
  refine lv_lconst (v := (0 : Int64)) hx hb dX10_takeStep_5 (by decide) ?_
  refine W.lcmp hx hb dX10_takeStep_6 ?_
  refine lv_if_ne (tgt := 12) hx hb dX10_takeStep_7 (by decide) (fun c_5 => ?_) (fun c_5 => ?_)
  · replace hfin := it_f c_5 hfin
    refine lv_aload_n hx hb dX10_takeStep_12 rfl (lv_at hl0 0 rfl) ?_
    refine lv_iconst (v := (1 : Int32)) hx hb dX10_takeStep_13 (by decide) ?_
    replace hfin := ob2_some hfin
    obtain ⟨r_7, M_bits_8, hE_6, hfin⟩ := hfin
    refine ctV (a := aM) (As := [.int (1 : Int32)]) (rest := []) (st1 := [.long r_7]) (wc := [oX10 aM M_thrown M_series M_most M_ratio aMdisk M_writes M_fuse M_down M_recovers M_looks M_unpacked aMits aMmany aMplace aMlength aMtimes aMvalues aMorder M_chunks M_epoch M_side aMheadOf aMheadTime aMheadValue M_logged aMnext aMisNew M_nexts aMcursorTime aMcursorValue M_hasCursor M_cursorMany M_cursorAt aMmade M_bits_3 M_from M_askMany M_askLeast M_askGreatest M_askSum, rI aMdisk cI 4096 M_disk]) (w1 := [oX10 aM M_thrown M_series M_most M_ratio aMdisk M_writes M_fuse M_down M_recovers M_looks M_unpacked aMits aMmany aMplace aMlength aMtimes aMvalues aMorder M_chunks M_epoch M_side aMheadOf aMheadTime aMheadValue M_logged aMnext aMisNew M_nexts aMcursorTime aMcursorValue M_hasCursor M_cursorMany M_cursorAt aMmade M_bits_8 M_from M_askMany M_askLeast M_askGreatest M_askSum, rI aMdisk cI 4096 M_disk]) (wr := []) (wb := [oX10 aM M_thrown M_series M_most M_ratio aMdisk M_writes M_fuse M_down M_recovers M_looks M_unpacked aMits aMmany aMplace aMlength aMtimes aMvalues aMorder M_chunks M_epoch M_side aMheadOf aMheadTime aMheadValue M_logged aMnext aMisNew M_nexts aMcursorTime aMcursorValue M_hasCursor M_cursorMany M_cursorAt aMmade M_bits_8 M_from M_askMany M_askLeast M_askGreatest M_askSum, rI aMdisk cI 4096 M_disk]) (v := (some (.long r_7))) hx hb hml hown htc hN (c_X10_take l G cI cZ cJ aM aMdisk aMits aMmany aMplace aMlength aMtimes aMvalues aMorder aMheadOf aMheadTime aMheadValue aMnext aMisNew aMcursorTime aMcursorValue aMmade M_thrown M_series M_most M_ratio M_writes M_fuse M_down M_recovers M_looks M_unpacked M_chunks M_epoch M_side M_logged M_nexts M_hasCursor M_cursorMany M_cursorAt M_bits_3 M_from M_askMany M_askLeast M_askGreatest M_askSum M_disk (1 : Int32) hE_6) mw_1301 mw_1303 mp_73 mw_12 mw_1304 hd_X10_take ⟨rfl, rfl⟩ ⟨Nat.le_of_ble_eq_true rfl, Nat.le_of_ble_eq_true rfl⟩ hK hw4 hA [0, 1] [] [0, 1] rfl rfl rfl rfl rfl (by decide) rfl rfl rfl 0 rfl rfl rfl rfl hl0.1 rfl rfl (Nat.le_of_ble_eq_true rfl) dX10_takeStep_14 ⟨Nat.zero_le _, Nat.zero_le _⟩ (fun H9 locs9 hw9 => ?_)
    clear hw4 H4 locs4
    refine lv_lconst (v := (0 : Int64)) hx hb dX10_takeStep_17 (by decide) ?_
    refine W.lcmp hx hb dX10_takeStep_18 ?_
    refine lv_if_ne (tgt := 33) hx hb dX10_takeStep_19 (by decide) (fun c_10 => ?_) (fun c_10 => ?_)
    · replace hfin := it_f c_10 hfin
      refine lv_aload_n hx hb dX10_takeStep_33 rfl (lv_at hl0 0 rfl) ?_
      refine lv_iconst (v := (1 : Int32)) hx hb dX10_takeStep_34 (by decide) ?_
      replace hfin := ob2_some hfin
      obtain ⟨r_12, M_bits_13, hE_11, hfin⟩ := hfin
      refine ctV (a := aM) (As := [.int (1 : Int32)]) (rest := []) (st1 := [.long r_12]) (wc := [oX10 aM M_thrown M_series M_most M_ratio aMdisk M_writes M_fuse M_down M_recovers M_looks M_unpacked aMits aMmany aMplace aMlength aMtimes aMvalues aMorder M_chunks M_epoch M_side aMheadOf aMheadTime aMheadValue M_logged aMnext aMisNew M_nexts aMcursorTime aMcursorValue M_hasCursor M_cursorMany M_cursorAt aMmade M_bits_8 M_from M_askMany M_askLeast M_askGreatest M_askSum, rI aMdisk cI 4096 M_disk]) (w1 := [oX10 aM M_thrown M_series M_most M_ratio aMdisk M_writes M_fuse M_down M_recovers M_looks M_unpacked aMits aMmany aMplace aMlength aMtimes aMvalues aMorder M_chunks M_epoch M_side aMheadOf aMheadTime aMheadValue M_logged aMnext aMisNew M_nexts aMcursorTime aMcursorValue M_hasCursor M_cursorMany M_cursorAt aMmade M_bits_13 M_from M_askMany M_askLeast M_askGreatest M_askSum, rI aMdisk cI 4096 M_disk]) (wr := []) (wb := [oX10 aM M_thrown M_series M_most M_ratio aMdisk M_writes M_fuse M_down M_recovers M_looks M_unpacked aMits aMmany aMplace aMlength aMtimes aMvalues aMorder M_chunks M_epoch M_side aMheadOf aMheadTime aMheadValue M_logged aMnext aMisNew M_nexts aMcursorTime aMcursorValue M_hasCursor M_cursorMany M_cursorAt aMmade M_bits_13 M_from M_askMany M_askLeast M_askGreatest M_askSum, rI aMdisk cI 4096 M_disk]) (v := (some (.long r_12))) hx hb hml hown htc hN (c_X10_take l G cI cZ cJ aM aMdisk aMits aMmany aMplace aMlength aMtimes aMvalues aMorder aMheadOf aMheadTime aMheadValue aMnext aMisNew aMcursorTime aMcursorValue aMmade M_thrown M_series M_most M_ratio M_writes M_fuse M_down M_recovers M_looks M_unpacked M_chunks M_epoch M_side M_logged M_nexts M_hasCursor M_cursorMany M_cursorAt M_bits_8 M_from M_askMany M_askLeast M_askGreatest M_askSum M_disk (1 : Int32) hE_11) mw_1301 mw_1303 mp_73 mw_12 mw_1304 hd_X10_take ⟨rfl, rfl⟩ ⟨Nat.le_of_ble_eq_true rfl, Nat.le_of_ble_eq_true rfl⟩ hK hw9 hA [0, 1] [] [0, 1] rfl rfl rfl rfl rfl (by decide) rfl rfl rfl 0 rfl rfl rfl rfl hl0.1 rfl rfl (Nat.le_of_ble_eq_true rfl) dX10_takeStep_35 ⟨Nat.zero_le _, Nat.zero_le _⟩ (fun H14 locs14 hw14 => ?_)
      clear hw9 H9 locs9
      refine lv_lconst (v := (0 : Int64)) hx hb dX10_takeStep_38 (by decide) ?_
      refine W.lcmp hx hb dX10_takeStep_39 ?_
      refine lv_if_ne (tgt := 54) hx hb dX10_takeStep_40 (by decide) (fun c_15 => ?_) (fun c_15 => ?_)
      · replace hfin := it_f c_15 hfin
        refine lv_aload_n hx hb dX10_takeStep_54 rfl (lv_at hl0 0 rfl) ?_
        refine lv_iconst (v := (1 : Int32)) hx hb dX10_takeStep_55 (by decide) ?_
        replace hfin := ob2_some hfin
        obtain ⟨r_17, M_bits_18, hE_16, hfin⟩ := hfin
        refine ctV (a := aM) (As := [.int (1 : Int32)]) (rest := []) (st1 := [.long r_17]) (wc := [oX10 aM M_thrown M_series M_most M_ratio aMdisk M_writes M_fuse M_down M_recovers M_looks M_unpacked aMits aMmany aMplace aMlength aMtimes aMvalues aMorder M_chunks M_epoch M_side aMheadOf aMheadTime aMheadValue M_logged aMnext aMisNew M_nexts aMcursorTime aMcursorValue M_hasCursor M_cursorMany M_cursorAt aMmade M_bits_13 M_from M_askMany M_askLeast M_askGreatest M_askSum, rI aMdisk cI 4096 M_disk]) (w1 := [oX10 aM M_thrown M_series M_most M_ratio aMdisk M_writes M_fuse M_down M_recovers M_looks M_unpacked aMits aMmany aMplace aMlength aMtimes aMvalues aMorder M_chunks M_epoch M_side aMheadOf aMheadTime aMheadValue M_logged aMnext aMisNew M_nexts aMcursorTime aMcursorValue M_hasCursor M_cursorMany M_cursorAt aMmade M_bits_18 M_from M_askMany M_askLeast M_askGreatest M_askSum, rI aMdisk cI 4096 M_disk]) (wr := []) (wb := [oX10 aM M_thrown M_series M_most M_ratio aMdisk M_writes M_fuse M_down M_recovers M_looks M_unpacked aMits aMmany aMplace aMlength aMtimes aMvalues aMorder M_chunks M_epoch M_side aMheadOf aMheadTime aMheadValue M_logged aMnext aMisNew M_nexts aMcursorTime aMcursorValue M_hasCursor M_cursorMany M_cursorAt aMmade M_bits_18 M_from M_askMany M_askLeast M_askGreatest M_askSum, rI aMdisk cI 4096 M_disk]) (v := (some (.long r_17))) hx hb hml hown htc hN (c_X10_take l G cI cZ cJ aM aMdisk aMits aMmany aMplace aMlength aMtimes aMvalues aMorder aMheadOf aMheadTime aMheadValue aMnext aMisNew aMcursorTime aMcursorValue aMmade M_thrown M_series M_most M_ratio M_writes M_fuse M_down M_recovers M_looks M_unpacked M_chunks M_epoch M_side M_logged M_nexts M_hasCursor M_cursorMany M_cursorAt M_bits_13 M_from M_askMany M_askLeast M_askGreatest M_askSum M_disk (1 : Int32) hE_16) mw_1301 mw_1303 mp_73 mw_12 mw_1304 hd_X10_take ⟨rfl, rfl⟩ ⟨Nat.le_of_ble_eq_true rfl, Nat.le_of_ble_eq_true rfl⟩ hK hw14 hA [0, 1] [] [0, 1] rfl rfl rfl rfl rfl (by decide) rfl rfl rfl 0 rfl rfl rfl rfl hl0.1 rfl rfl (Nat.le_of_ble_eq_true rfl) dX10_takeStep_56 ⟨Nat.zero_le _, Nat.zero_le _⟩ (fun H19 locs19 hw19 => ?_)
        clear hw14 H14 locs14
        refine lv_lconst (v := (0 : Int64)) hx hb dX10_takeStep_59 (by decide) ?_
        refine W.lcmp hx hb dX10_takeStep_60 ?_
        replace hfin := ob2_some hfin
        obtain ⟨s_20, M_bits_21, hJ_22, hfin⟩ := hfin
        have kj_23 : ∀ (H : Heap) (locs : List Loc) (ls : Array Slot), wS G A s H locs [oX10 aM M_thrown M_series M_most M_ratio aMdisk M_writes M_fuse M_down M_recovers M_looks M_unpacked aMits aMmany aMplace aMlength aMtimes aMvalues aMorder M_chunks M_epoch M_side aMheadOf aMheadTime aMheadValue M_logged aMnext aMisNew M_nexts aMcursorTime aMcursorValue M_hasCursor M_cursorMany M_cursorAt aMmade M_bits_21 M_from M_askMany M_askLeast M_askGreatest M_askSum, rI aMdisk cI 4096 M_disk] → lv_has ls 1 [] → W p l e rm_X10_takeStep s m args below meth c H locs 0 0 QQ (F0 m 87 ls [.long s_20]) := by
          clear hw19 H19 locs19 hl0 ls0 hJ_22
          intro H33 locs33 ls33 hw33 hl33
          cases hfin
          rw [hQQ]
          exact ct_lret hx hb hr hlocks hw33.1 hw33.2.1 hw33.2.2 dX10_takeStep_87
        clear hfin
        refine lv_if_ne (tgt := 77) hx hb dX10_takeStep_61 (by decide) (fun c_24 => ?_) (fun c_24 => ?_)
        · replace hJ_22 := it_f c_24 hJ_22
          refine lv_aload_n hx hb dX10_takeStep_77 rfl (lv_at hl0 0 rfl) ?_
          refine lv_bipush (v := (34 : Int32)) hx hb dX10_takeStep_78 (by decide) ?_
          replace hJ_22 := ob2_some hJ_22
          obtain ⟨r_26, M_bits_27, hE_25, hJ_22⟩ := hJ_22
          refine ctV (a := aM) (As := [.int (34 : Int32)]) (rest := []) (st1 := [.long r_26]) (wc := [oX10 aM M_thrown M_series M_most M_ratio aMdisk M_writes M_fuse M_down M_recovers M_looks M_unpacked aMits aMmany aMplace aMlength aMtimes aMvalues aMorder M_chunks M_epoch M_side aMheadOf aMheadTime aMheadValue M_logged aMnext aMisNew M_nexts aMcursorTime aMcursorValue M_hasCursor M_cursorMany M_cursorAt aMmade M_bits_18 M_from M_askMany M_askLeast M_askGreatest M_askSum, rI aMdisk cI 4096 M_disk]) (w1 := [oX10 aM M_thrown M_series M_most M_ratio aMdisk M_writes M_fuse M_down M_recovers M_looks M_unpacked aMits aMmany aMplace aMlength aMtimes aMvalues aMorder M_chunks M_epoch M_side aMheadOf aMheadTime aMheadValue M_logged aMnext aMisNew M_nexts aMcursorTime aMcursorValue M_hasCursor M_cursorMany M_cursorAt aMmade M_bits_27 M_from M_askMany M_askLeast M_askGreatest M_askSum, rI aMdisk cI 4096 M_disk]) (wr := []) (wb := [oX10 aM M_thrown M_series M_most M_ratio aMdisk M_writes M_fuse M_down M_recovers M_looks M_unpacked aMits aMmany aMplace aMlength aMtimes aMvalues aMorder M_chunks M_epoch M_side aMheadOf aMheadTime aMheadValue M_logged aMnext aMisNew M_nexts aMcursorTime aMcursorValue M_hasCursor M_cursorMany M_cursorAt aMmade M_bits_27 M_from M_askMany M_askLeast M_askGreatest M_askSum, rI aMdisk cI 4096 M_disk]) (v := (some (.long r_26))) hx hb hml hown htc hN (c_X10_take l G cI cZ cJ aM aMdisk aMits aMmany aMplace aMlength aMtimes aMvalues aMorder aMheadOf aMheadTime aMheadValue aMnext aMisNew aMcursorTime aMcursorValue aMmade M_thrown M_series M_most M_ratio M_writes M_fuse M_down M_recovers M_looks M_unpacked M_chunks M_epoch M_side M_logged M_nexts M_hasCursor M_cursorMany M_cursorAt M_bits_18 M_from M_askMany M_askLeast M_askGreatest M_askSum M_disk (34 : Int32) hE_25) mw_1301 mw_1303 mp_73 mw_12 mw_1304 hd_X10_take ⟨rfl, rfl⟩ ⟨Nat.le_of_ble_eq_true rfl, Nat.le_of_ble_eq_true rfl⟩ hK hw19 hA [0, 1] [] [0, 1] rfl rfl rfl rfl rfl (by decide) rfl rfl rfl 0 rfl rfl rfl rfl hl0.1 rfl rfl (Nat.le_of_ble_eq_true rfl) dX10_takeStep_80 ⟨Nat.zero_le _, Nat.zero_le _⟩ (fun H28 locs28 hw28 => ?_)
          clear hw19 H19 locs19
          refine lv_ldc2 (v := (8589934592 : Int64)) hx hb hown (htc _ mw_1146) dX10_takeStep_83 ?_
          refine lv_lsub hx hb dX10_takeStep_86 ?_
          cases hJ_22
          exact kj_23 _ _ _ hw28 (lv_sub hl0 [] rfl)
        · replace hJ_22 := it_t c_24 hJ_22
          refine lv_aload_n hx hb dX10_takeStep_64 rfl (lv_at hl0 0 rfl) ?_
          refine lv_bipush (v := (12 : Int32)) hx hb dX10_takeStep_65 (by decide) ?_
          replace hJ_22 := ob2_some hJ_22
          obtain ⟨r_30, M_bits_31, hE_29, hJ_22⟩ := hJ_22
          refine ctV (a := aM) (As := [.int (12 : Int32)]) (rest := []) (st1 := [.long r_30]) (wc := [oX10 aM M_thrown M_series M_most M_ratio aMdisk M_writes M_fuse M_down M_recovers M_looks M_unpacked aMits aMmany aMplace aMlength aMtimes aMvalues aMorder M_chunks M_epoch M_side aMheadOf aMheadTime aMheadValue M_logged aMnext aMisNew M_nexts aMcursorTime aMcursorValue M_hasCursor M_cursorMany M_cursorAt aMmade M_bits_18 M_from M_askMany M_askLeast M_askGreatest M_askSum, rI aMdisk cI 4096 M_disk]) (w1 := [oX10 aM M_thrown M_series M_most M_ratio aMdisk M_writes M_fuse M_down M_recovers M_looks M_unpacked aMits aMmany aMplace aMlength aMtimes aMvalues aMorder M_chunks M_epoch M_side aMheadOf aMheadTime aMheadValue M_logged aMnext aMisNew M_nexts aMcursorTime aMcursorValue M_hasCursor M_cursorMany M_cursorAt aMmade M_bits_31 M_from M_askMany M_askLeast M_askGreatest M_askSum, rI aMdisk cI 4096 M_disk]) (wr := []) (wb := [oX10 aM M_thrown M_series M_most M_ratio aMdisk M_writes M_fuse M_down M_recovers M_looks M_unpacked aMits aMmany aMplace aMlength aMtimes aMvalues aMorder M_chunks M_epoch M_side aMheadOf aMheadTime aMheadValue M_logged aMnext aMisNew M_nexts aMcursorTime aMcursorValue M_hasCursor M_cursorMany M_cursorAt aMmade M_bits_31 M_from M_askMany M_askLeast M_askGreatest M_askSum, rI aMdisk cI 4096 M_disk]) (v := (some (.long r_30))) hx hb hml hown htc hN (c_X10_take l G cI cZ cJ aM aMdisk aMits aMmany aMplace aMlength aMtimes aMvalues aMorder aMheadOf aMheadTime aMheadValue aMnext aMisNew aMcursorTime aMcursorValue aMmade M_thrown M_series M_most M_ratio M_writes M_fuse M_down M_recovers M_looks M_unpacked M_chunks M_epoch M_side M_logged M_nexts M_hasCursor M_cursorMany M_cursorAt M_bits_18 M_from M_askMany M_askLeast M_askGreatest M_askSum M_disk (12 : Int32) hE_29) mw_1301 mw_1303 mp_73 mw_12 mw_1304 hd_X10_take ⟨rfl, rfl⟩ ⟨Nat.le_of_ble_eq_true rfl, Nat.le_of_ble_eq_true rfl⟩ hK hw19 hA [0, 1] [] [0, 1] rfl rfl rfl rfl rfl (by decide) rfl rfl rfl 0 rfl rfl rfl rfl hl0.1 rfl rfl (Nat.le_of_ble_eq_true rfl) dX10_takeStep_67 ⟨Nat.zero_le _, Nat.zero_le _⟩ (fun H32 locs32 hw32 => ?_)
          clear hw19 H19 locs19
          refine lv_ldc2 (v := (2048 : Int64)) hx hb hown (htc _ mw_1142) dX10_takeStep_70 ?_
          refine lv_lsub hx hb dX10_takeStep_73 ?_
          refine lv_goto (tgt := 87) hx hb dX10_takeStep_74 (by decide) ?_
          cases hJ_22
          exact kj_23 _ _ _ hw32 (lv_sub hl0 [] rfl)
      · replace hfin := it_t c_15 hfin
        refine lv_aload_n hx hb dX10_takeStep_43 rfl (lv_at hl0 0 rfl) ?_
        refine lv_bipush (v := (9 : Int32)) hx hb dX10_takeStep_44 (by decide) ?_
        replace hfin := ob2_some hfin
        obtain ⟨r_35, M_bits_36, hE_34, hfin⟩ := hfin
        refine ctV (a := aM) (As := [.int (9 : Int32)]) (rest := []) (st1 := [.long r_35]) (wc := [oX10 aM M_thrown M_series M_most M_ratio aMdisk M_writes M_fuse M_down M_recovers M_looks M_unpacked aMits aMmany aMplace aMlength aMtimes aMvalues aMorder M_chunks M_epoch M_side aMheadOf aMheadTime aMheadValue M_logged aMnext aMisNew M_nexts aMcursorTime aMcursorValue M_hasCursor M_cursorMany M_cursorAt aMmade M_bits_13 M_from M_askMany M_askLeast M_askGreatest M_askSum, rI aMdisk cI 4096 M_disk]) (w1 := [oX10 aM M_thrown M_series M_most M_ratio aMdisk M_writes M_fuse M_down M_recovers M_looks M_unpacked aMits aMmany aMplace aMlength aMtimes aMvalues aMorder M_chunks M_epoch M_side aMheadOf aMheadTime aMheadValue M_logged aMnext aMisNew M_nexts aMcursorTime aMcursorValue M_hasCursor M_cursorMany M_cursorAt aMmade M_bits_36 M_from M_askMany M_askLeast M_askGreatest M_askSum, rI aMdisk cI 4096 M_disk]) (wr := []) (wb := [oX10 aM M_thrown M_series M_most M_ratio aMdisk M_writes M_fuse M_down M_recovers M_looks M_unpacked aMits aMmany aMplace aMlength aMtimes aMvalues aMorder M_chunks M_epoch M_side aMheadOf aMheadTime aMheadValue M_logged aMnext aMisNew M_nexts aMcursorTime aMcursorValue M_hasCursor M_cursorMany M_cursorAt aMmade M_bits_36 M_from M_askMany M_askLeast M_askGreatest M_askSum, rI aMdisk cI 4096 M_disk]) (v := (some (.long r_35))) hx hb hml hown htc hN (c_X10_take l G cI cZ cJ aM aMdisk aMits aMmany aMplace aMlength aMtimes aMvalues aMorder aMheadOf aMheadTime aMheadValue aMnext aMisNew aMcursorTime aMcursorValue aMmade M_thrown M_series M_most M_ratio M_writes M_fuse M_down M_recovers M_looks M_unpacked M_chunks M_epoch M_side M_logged M_nexts M_hasCursor M_cursorMany M_cursorAt M_bits_13 M_from M_askMany M_askLeast M_askGreatest M_askSum M_disk (9 : Int32) hE_34) mw_1301 mw_1303 mp_73 mw_12 mw_1304 hd_X10_take ⟨rfl, rfl⟩ ⟨Nat.le_of_ble_eq_true rfl, Nat.le_of_ble_eq_true rfl⟩ hK hw14 hA [0, 1] [] [0, 1] rfl rfl rfl rfl rfl (by decide) rfl rfl rfl 0 rfl rfl rfl rfl hl0.1 rfl rfl (Nat.le_of_ble_eq_true rfl) dX10_takeStep_46 ⟨Nat.zero_le _, Nat.zero_le _⟩ (fun H37 locs37 hw37 => ?_)
        clear hw14 H14 locs14
        refine lv_ldc2 (v := (256 : Int64)) hx hb hown (htc _ mw_1139) dX10_takeStep_49 ?_
        refine lv_lsub hx hb dX10_takeStep_52 ?_
        cases hfin
        rw [hQQ]
        exact ct_lret hx hb hr hlocks hw37.1 hw37.2.1 hw37.2.2 dX10_takeStep_53
    · replace hfin := it_t c_10 hfin
      refine lv_aload_n hx hb dX10_takeStep_22 rfl (lv_at hl0 0 rfl) ?_
      refine lv_bipush (v := (7 : Int32)) hx hb dX10_takeStep_23 (by decide) ?_
      replace hfin := ob2_some hfin
      obtain ⟨r_39, M_bits_40, hE_38, hfin⟩ := hfin
      refine ctV (a := aM) (As := [.int (7 : Int32)]) (rest := []) (st1 := [.long r_39]) (wc := [oX10 aM M_thrown M_series M_most M_ratio aMdisk M_writes M_fuse M_down M_recovers M_looks M_unpacked aMits aMmany aMplace aMlength aMtimes aMvalues aMorder M_chunks M_epoch M_side aMheadOf aMheadTime aMheadValue M_logged aMnext aMisNew M_nexts aMcursorTime aMcursorValue M_hasCursor M_cursorMany M_cursorAt aMmade M_bits_8 M_from M_askMany M_askLeast M_askGreatest M_askSum, rI aMdisk cI 4096 M_disk]) (w1 := [oX10 aM M_thrown M_series M_most M_ratio aMdisk M_writes M_fuse M_down M_recovers M_looks M_unpacked aMits aMmany aMplace aMlength aMtimes aMvalues aMorder M_chunks M_epoch M_side aMheadOf aMheadTime aMheadValue M_logged aMnext aMisNew M_nexts aMcursorTime aMcursorValue M_hasCursor M_cursorMany M_cursorAt aMmade M_bits_40 M_from M_askMany M_askLeast M_askGreatest M_askSum, rI aMdisk cI 4096 M_disk]) (wr := []) (wb := [oX10 aM M_thrown M_series M_most M_ratio aMdisk M_writes M_fuse M_down M_recovers M_looks M_unpacked aMits aMmany aMplace aMlength aMtimes aMvalues aMorder M_chunks M_epoch M_side aMheadOf aMheadTime aMheadValue M_logged aMnext aMisNew M_nexts aMcursorTime aMcursorValue M_hasCursor M_cursorMany M_cursorAt aMmade M_bits_40 M_from M_askMany M_askLeast M_askGreatest M_askSum, rI aMdisk cI 4096 M_disk]) (v := (some (.long r_39))) hx hb hml hown htc hN (c_X10_take l G cI cZ cJ aM aMdisk aMits aMmany aMplace aMlength aMtimes aMvalues aMorder aMheadOf aMheadTime aMheadValue aMnext aMisNew aMcursorTime aMcursorValue aMmade M_thrown M_series M_most M_ratio M_writes M_fuse M_down M_recovers M_looks M_unpacked M_chunks M_epoch M_side M_logged M_nexts M_hasCursor M_cursorMany M_cursorAt M_bits_8 M_from M_askMany M_askLeast M_askGreatest M_askSum M_disk (7 : Int32) hE_38) mw_1301 mw_1303 mp_73 mw_12 mw_1304 hd_X10_take ⟨rfl, rfl⟩ ⟨Nat.le_of_ble_eq_true rfl, Nat.le_of_ble_eq_true rfl⟩ hK hw9 hA [0, 1] [] [0, 1] rfl rfl rfl rfl rfl (by decide) rfl rfl rfl 0 rfl rfl rfl rfl hl0.1 rfl rfl (Nat.le_of_ble_eq_true rfl) dX10_takeStep_25 ⟨Nat.zero_le _, Nat.zero_le _⟩ (fun H41 locs41 hw41 => ?_)
      clear hw9 H9 locs9
      refine lv_ldc2 (v := (64 : Int64)) hx hb hown (htc _ mw_1136) dX10_takeStep_28 ?_
      refine lv_lsub hx hb dX10_takeStep_31 ?_
      cases hfin
      rw [hQQ]
      exact ct_lret hx hb hr hlocks hw41.1 hw41.2.1 hw41.2.2 dX10_takeStep_32
  · replace hfin := it_t c_5 hfin
    refine lv_lconst (v := (0 : Int64)) hx hb dX10_takeStep_10 (by decide) ?_
    cases hfin
    rw [hQQ]
    exact ct_lret hx hb hr hlocks hw4.1 hw4.2.1 hw4.2.2 dX10_takeStep_11
abbrev rm_X10_takeValue : Room := { frames := 1, cells := 0, slots := 0, locals := 24 }
theorem hd_X10_takeValue : yX10_takeValue.cls = RX10 ∧ yX10_takeValue.cls ≠ "java/lang/invoke/MethodHandle" ∧ yX10_takeValue.cls ≠ "java/lang/invoke/VarHandle" ∧ (parseMethodDescriptor yX10_takeValue.desc).map (fun d => d.parameters.length) = some 0 := by decide +kernel
set_option maxHeartbeats 4000000 in
set_option maxRecDepth 100000 in
theorem c_X10_takeValue (l : Launch) (G : va_G) (cI cZ cJ : ClassId) (aM aMdisk aMits aMmany aMplace aMlength aMtimes aMvalues aMorder aMheadOf aMheadTime aMheadValue aMnext aMisNew aMcursorTime aMcursorValue aMmade : Nat) (M_thrown : Int32) (M_series : Int32) (M_most : Int32) (M_ratio : Int32) (M_writes : Int32) (M_fuse : Int32) (M_down : Int32) (M_recovers : Int32) (M_looks : Int32) (M_unpacked : Int32) (M_chunks : Int32) (M_epoch : Int32) (M_side : Int32) (M_logged : Int32) (M_nexts : Int32) (M_hasCursor : Int32) (M_cursorMany : Int32) (M_cursorAt : Int32) (M_bits : Int32) (M_from : Int32) (M_askMany : Int32) (M_askLeast : Int32) (M_askGreatest : Int32) (M_askSum : Int64) (M_disk : Nat → Int32)  {r : Int32} {o_M_bits : Int32} (hfin : m_X10_takeValue M_bits M_from M_disk = some (r, o_M_bits)) : CT l yX10_takeValue cX10_takeValue 4 (some .int) rm_X10_takeValue G (tyC cI cZ cJ) [.ref aM] [oX10 aM M_thrown M_series M_most M_ratio aMdisk M_writes M_fuse M_down M_recovers M_looks M_unpacked aMits aMmany aMplace aMlength aMtimes aMvalues aMorder M_chunks M_epoch M_side aMheadOf aMheadTime aMheadValue M_logged aMnext aMisNew M_nexts aMcursorTime aMcursorValue M_hasCursor M_cursorMany M_cursorAt aMmade M_bits M_from M_askMany M_askLeast M_askGreatest M_askSum, rI aMdisk cI 4096 M_disk] (some (.int r)) [oX10 aM M_thrown M_series M_most M_ratio aMdisk M_writes M_fuse M_down M_recovers M_looks M_unpacked aMits aMmany aMplace aMlength aMtimes aMvalues aMorder M_chunks M_epoch M_side aMheadOf aMheadTime aMheadValue M_logged aMnext aMisNew M_nexts aMcursorTime aMcursorValue M_hasCursor M_cursorMany M_cursorAt aMmade o_M_bits M_from M_askMany M_askLeast M_askGreatest M_askSum, rI aMdisk cI 4096 M_disk] := by
  refine CT.ofW (lvl := [(0, .ref aM)]) (by decide) (Nat.le_of_ble_eq_true rfl) rfl ?_
  intro p e s m args below meth c A ls0 QQ hQQ hx hb hml hr hlocks htc hN hown hK hA hw0 hl0
  rw [m_X10_takeValue] at hfin
  refine lv_lconst (v := (0 : Int64)) hx hb dX10_takeValue_0 (by decide) ?_
  refine lv_lstore_n (lv' := [(1, .long (0 : Int64)), (0, .ref aM)]) hx hb dX10_takeValue_1 rfl hl0 (by decide) rfl (fun ls1 hl1 => ?_)
  clear hl0 ls0
  refine lv_iconst (v := (0 : Int32)) hx hb dX10_takeValue_2 (by decide) ?_
  refine lv_istore_n (lv' := [(3, .int (0 : Int32)), (1, .long (0 : Int64)), (0, .ref aM)]) hx hb dX10_takeValue_3 rfl hl1 (by decide) rfl (fun ls2 hl2 => ?_)
  clear hl1 ls1
  replace hfin := ob2_some hfin
  obtain ⟨v1_10, M_bits_11, hL_6, hfin⟩ := hfin
  have kx_7 : ∀ (H : Heap) (locs : List Loc) (ls : Array Slot), wS G A s H locs [oX10 aM M_thrown M_series M_most M_ratio aMdisk M_writes M_fuse M_down M_recovers M_looks M_unpacked aMits aMmany aMplace aMlength aMtimes aMvalues aMorder M_chunks M_epoch M_side aMheadOf aMheadTime aMheadValue M_logged aMnext aMisNew M_nexts aMcursorTime aMcursorValue M_hasCursor M_cursorMany M_cursorAt aMmade M_bits_11 M_from M_askMany M_askLeast M_askGreatest M_askSum, rI aMdisk cI 4096 M_disk] → lv_has ls 4 [(1, .long v1_10)] → W p l e rm_X10_takeValue s m args below meth c H locs 0 0 QQ (F0 m 30 ls []) := by
    clear hw0 hl2 ls2 hL_6
    intro H24 locs24 ls24 hw24 hl24
    refine lv_lload_n hx hb dX10_takeValue_30 rfl (lv_at hl24 0 rfl) ?_
    refine lv_ldc2 (v := (2 : Int64)) hx hb hown (htc _ mw_1138) dX10_takeValue_31 ?_
    refine lv_lrem hx hb dX10_takeValue_34 (by decide) ?_
    refine lv_lconst (v := (0 : Int64)) hx hb dX10_takeValue_35 (by decide) ?_
    refine W.lcmp hx hb dX10_takeValue_36 ?_
    replace hfin := ob1_some hfin
    obtain ⟨s_25, hJ_26, hfin⟩ := hfin
    have kj_27 : ∀ (H : Heap) (locs : List Loc) (ls : Array Slot), wS G A s H locs [oX10 aM M_thrown M_series M_most M_ratio aMdisk M_writes M_fuse M_down M_recovers M_looks M_unpacked aMits aMmany aMplace aMlength aMtimes aMvalues aMorder M_chunks M_epoch M_side aMheadOf aMheadTime aMheadValue M_logged aMnext aMisNew M_nexts aMcursorTime aMcursorValue M_hasCursor M_cursorMany M_cursorAt aMmade M_bits_11 M_from M_askMany M_askLeast M_askGreatest M_askSum, rI aMdisk cI 4096 M_disk] → lv_has ls 4 [] → W p l e rm_X10_takeValue s m args below meth c H locs 0 0 QQ (F0 m 56 ls [.long s_25]) := by
      clear hw24 H24 locs24 hl24 ls24 hJ_26
      intro H29 locs29 ls29 hw29 hl29
      refine lv_l2i hx hb dX10_takeValue_56 rfl ?_
      cases hfin
      rw [hQQ]
      exact ct_iret hx hb hr hlocks hw29.1 hw29.2.1 hw29.2.2 dX10_takeValue_57
    clear hfin
    refine lv_if_ne (tgt := 48) hx hb dX10_takeValue_37 (by decide) (fun c_28 => ?_) (fun c_28 => ?_)
    · replace hJ_26 := it_f c_28 hJ_26
      refine lv_lload_n hx hb dX10_takeValue_48 rfl (lv_at hl24 0 rfl) ?_
      refine lv_ldc2 (v := (2 : Int64)) hx hb hown (htc _ mw_1138) dX10_takeValue_49 ?_
      refine lv_ldiv hx hb dX10_takeValue_52 (by decide) ?_
      refine lv_lneg hx hb dX10_takeValue_53 ?_
      refine lv_lconst (v := (1 : Int64)) hx hb dX10_takeValue_54 (by decide) ?_
      refine lv_lsub hx hb dX10_takeValue_55 ?_
      cases hJ_26
      exact kj_27 _ _ _ hw24 (lv_sub hl24 [] rfl)
    · replace hJ_26 := it_t c_28 hJ_26
      refine lv_lload_n hx hb dX10_takeValue_40 rfl (lv_at hl24 0 rfl) ?_
      refine lv_ldc2 (v := (2 : Int64)) hx hb hown (htc _ mw_1138) dX10_takeValue_41 ?_
      refine lv_ldiv hx hb dX10_takeValue_44 (by decide) ?_
      refine lv_goto (tgt := 56) hx hb dX10_takeValue_45 (by decide) ?_
      cases hJ_26
      exact kj_27 _ _ _ hw24 (lv_sub hl24 [] rfl)
  have lp_8 : ∀ (n : Nat) (v1_3 : Int64) (v3_4 : Int32) (M_bits_5 : Int32), lp_X10_takeValue_4 M_from M_disk n v1_3 v3_4 M_bits_5 = some (v1_10, M_bits_11) → ∀ (H : Heap) (locs : List Loc) (ls : Array Slot), wS G A s H locs [oX10 aM M_thrown M_series M_most M_ratio aMdisk M_writes M_fuse M_down M_recovers M_looks M_unpacked aMits aMmany aMplace aMlength aMtimes aMvalues aMorder M_chunks M_epoch M_side aMheadOf aMheadTime aMheadValue M_logged aMnext aMisNew M_nexts aMcursorTime aMcursorValue M_hasCursor M_cursorMany M_cursorAt aMmade M_bits_5 M_from M_askMany M_askLeast M_askGreatest M_askSum, rI aMdisk cI 4096 M_disk] → lv_has ls 4 [(0, .ref aM), (1, .long v1_3), (3, .int v3_4)] → W p l e rm_X10_takeValue s m args below meth c H locs 0 0 QQ (F0 m 4 ls []) := by
    clear hw0 hl2 ls2 hfin
    intro n
    induction n with
    | zero =>
      intro v1_3 v3_4 M_bits_5 hB_9
      exact absurd hB_9 (by rw [lp_X10_takeValue_4]; exact fun h9 => nomatch h9)
    | succ n ih =>
      intro v1_3 v3_4 M_bits_5 hB_9 H12 locs12 ls12 hw12 hl12
      rw [lp_X10_takeValue_4] at hB_9
      refine lv_aload_n hx hb dX10_takeValue_4 rfl (lv_at hl12 0 rfl) ?_
      refine lv_iconst (v := (1 : Int32)) hx hb dX10_takeValue_5 (by decide) ?_
      replace hB_9 := ob2_some hB_9
      obtain ⟨r_14, M_bits_15, hE_13, hB_9⟩ := hB_9
      refine ctV (a := aM) (As := [.int (1 : Int32)]) (rest := []) (st1 := [.long r_14]) (wc := [oX10 aM M_thrown M_series M_most M_ratio aMdisk M_writes M_fuse M_down M_recovers M_looks M_unpacked aMits aMmany aMplace aMlength aMtimes aMvalues aMorder M_chunks M_epoch M_side aMheadOf aMheadTime aMheadValue M_logged aMnext aMisNew M_nexts aMcursorTime aMcursorValue M_hasCursor M_cursorMany M_cursorAt aMmade M_bits_5 M_from M_askMany M_askLeast M_askGreatest M_askSum, rI aMdisk cI 4096 M_disk]) (w1 := [oX10 aM M_thrown M_series M_most M_ratio aMdisk M_writes M_fuse M_down M_recovers M_looks M_unpacked aMits aMmany aMplace aMlength aMtimes aMvalues aMorder M_chunks M_epoch M_side aMheadOf aMheadTime aMheadValue M_logged aMnext aMisNew M_nexts aMcursorTime aMcursorValue M_hasCursor M_cursorMany M_cursorAt aMmade M_bits_15 M_from M_askMany M_askLeast M_askGreatest M_askSum, rI aMdisk cI 4096 M_disk]) (wr := []) (wb := [oX10 aM M_thrown M_series M_most M_ratio aMdisk M_writes M_fuse M_down M_recovers M_looks M_unpacked aMits aMmany aMplace aMlength aMtimes aMvalues aMorder M_chunks M_epoch M_side aMheadOf aMheadTime aMheadValue M_logged aMnext aMisNew M_nexts aMcursorTime aMcursorValue M_hasCursor M_cursorMany M_cursorAt aMmade M_bits_15 M_from M_askMany M_askLeast M_askGreatest M_askSum, rI aMdisk cI 4096 M_disk]) (v := (some (.long r_14))) hx hb hml hown htc hN (c_X10_take l G cI cZ cJ aM aMdisk aMits aMmany aMplace aMlength aMtimes aMvalues aMorder aMheadOf aMheadTime aMheadValue aMnext aMisNew aMcursorTime aMcursorValue aMmade M_thrown M_series M_most M_ratio M_writes M_fuse M_down M_recovers M_looks M_unpacked M_chunks M_epoch M_side M_logged M_nexts M_hasCursor M_cursorMany M_cursorAt M_bits_5 M_from M_askMany M_askLeast M_askGreatest M_askSum M_disk (1 : Int32) hE_13) mw_1301 mw_1303 mp_73 mw_12 mw_1304 hd_X10_take ⟨rfl, rfl⟩ ⟨Nat.le_of_ble_eq_true rfl, Nat.le_of_ble_eq_true rfl⟩ hK hw12 hA [0, 1] [] [0, 1] rfl rfl rfl rfl rfl (by decide) rfl rfl rfl 0 rfl rfl rfl rfl hl12.1 rfl rfl (Nat.le_of_ble_eq_true rfl) dX10_takeValue_6 ⟨Nat.zero_le _, Nat.zero_le _⟩ (fun H16 locs16 hw16 => ?_)
      clear hw12 H12 locs12
      refine lv_lconst (v := (1 : Int64)) hx hb dX10_takeValue_9 (by decide) ?_
      refine W.lcmp hx hb dX10_takeValue_10 ?_
      refine lv_if_ne (tgt := 30) hx hb dX10_takeValue_11 (by decide) (fun c_17 => ?_) (fun c_17 => ?_)
      · replace hB_9 := it_f c_17 hB_9
        cases hB_9
        exact kx_7 _ _ _ hw16 (lv_sub hl12 [1] rfl)
      · replace hB_9 := it_t c_17 hB_9
        refine lv_lload_n hx hb dX10_takeValue_14 rfl (lv_at hl12 1 rfl) ?_
        refine lv_aload_n hx hb dX10_takeValue_15 rfl (lv_at hl12 0 rfl) ?_
        refine lv_iconst (v := (4 : Int32)) hx hb dX10_takeValue_16 (by decide) ?_
        replace hB_9 := ob2_some hB_9
        obtain ⟨r_19, M_bits_20, hE_18, hB_9⟩ := hB_9
        refine ctV (a := aM) (As := [.int (4 : Int32)]) (rest := [.long v1_3]) (st1 := [.long r_19, .long v1_3]) (wc := [oX10 aM M_thrown M_series M_most M_ratio aMdisk M_writes M_fuse M_down M_recovers M_looks M_unpacked aMits aMmany aMplace aMlength aMtimes aMvalues aMorder M_chunks M_epoch M_side aMheadOf aMheadTime aMheadValue M_logged aMnext aMisNew M_nexts aMcursorTime aMcursorValue M_hasCursor M_cursorMany M_cursorAt aMmade M_bits_15 M_from M_askMany M_askLeast M_askGreatest M_askSum, rI aMdisk cI 4096 M_disk]) (w1 := [oX10 aM M_thrown M_series M_most M_ratio aMdisk M_writes M_fuse M_down M_recovers M_looks M_unpacked aMits aMmany aMplace aMlength aMtimes aMvalues aMorder M_chunks M_epoch M_side aMheadOf aMheadTime aMheadValue M_logged aMnext aMisNew M_nexts aMcursorTime aMcursorValue M_hasCursor M_cursorMany M_cursorAt aMmade M_bits_20 M_from M_askMany M_askLeast M_askGreatest M_askSum, rI aMdisk cI 4096 M_disk]) (wr := []) (wb := [oX10 aM M_thrown M_series M_most M_ratio aMdisk M_writes M_fuse M_down M_recovers M_looks M_unpacked aMits aMmany aMplace aMlength aMtimes aMvalues aMorder M_chunks M_epoch M_side aMheadOf aMheadTime aMheadValue M_logged aMnext aMisNew M_nexts aMcursorTime aMcursorValue M_hasCursor M_cursorMany M_cursorAt aMmade M_bits_20 M_from M_askMany M_askLeast M_askGreatest M_askSum, rI aMdisk cI 4096 M_disk]) (v := (some (.long r_19))) hx hb hml hown htc hN (c_X10_take l G cI cZ cJ aM aMdisk aMits aMmany aMplace aMlength aMtimes aMvalues aMorder aMheadOf aMheadTime aMheadValue aMnext aMisNew aMcursorTime aMcursorValue aMmade M_thrown M_series M_most M_ratio M_writes M_fuse M_down M_recovers M_looks M_unpacked M_chunks M_epoch M_side M_logged M_nexts M_hasCursor M_cursorMany M_cursorAt M_bits_15 M_from M_askMany M_askLeast M_askGreatest M_askSum M_disk (4 : Int32) hE_18) mw_1301 mw_1303 mp_73 mw_12 mw_1304 hd_X10_take ⟨rfl, rfl⟩ ⟨Nat.le_of_ble_eq_true rfl, Nat.le_of_ble_eq_true rfl⟩ hK hw16 hA [0, 1] [] [0, 1] rfl rfl rfl rfl rfl (by decide) rfl rfl rfl 0 rfl rfl rfl rfl hl12.1 rfl rfl (Nat.le_of_ble_eq_true rfl) dX10_takeValue_17 ⟨Nat.zero_le _, Nat.zero_le _⟩ (fun H21 locs21 hw21 => ?_)
        clear hw16 H16 locs16
        refine lv_iload_n hx hb dX10_takeValue_20 rfl (lv_at hl12 2 rfl) ?_
        refine lv_lshl hx hb dX10_takeValue_21 rfl ?_
        refine lv_lor hx hb dX10_takeValue_22 ?_
        refine lv_lstore_n (lv' := [(1, .long (v1_3 ||| (r_19 <<< (Int32.toInt64 v3_4 &&& 63)))), (0, .ref aM), (3, .int v3_4)]) hx hb dX10_takeValue_23 rfl hl12 (by decide) rfl (fun ls22 hl22 => ?_)
        clear hl12 ls12
        refine lv_iinc (v := (v3_4 + (4 : Int32))) (lv' := [(3, .int (v3_4 + (4 : Int32))), (1, .long (v1_3 ||| (r_19 <<< (Int32.toInt64 v3_4 &&& 63)))), (0, .ref aM)]) hx hb dX10_takeValue_24 hl22 (k := 2) rfl rfl (by decide) rfl (fun ls23 hl23 => ?_)
        clear hl22 ls22
        refine lv_goto (tgt := 4) hx hb dX10_takeValue_27 (by decide) ?_
        exact ih (v1_3 ||| (r_19 <<< (Int32.toInt64 v3_4 &&& 63))) (v3_4 + (4 : Int32)) M_bits_20 hB_9 _ _ _ hw21 (lv_sub hl23 [2, 1, 0] rfl)
  exact lp_8 NN (0 : Int64) (0 : Int32) M_bits hL_6 _ _ _ hw0 (lv_sub hl2 [2, 1, 0] rfl)
