theorem dX10_compact_0 : decode cX10_compact 0 = .ok (.aload_n 0, 1) := by decide +kernel
theorem dX10_compact_1 : decode cX10_compact 1 = .ok (.iconst 0, 1) := by decide +kernel
theorem dX10_compact_2 : decode cX10_compact 2 = .ok (.putfield 76, 3) := by decide +kernel
theorem dX10_compact_5 : decode cX10_compact 5 = .ok (.aload_n 0, 1) := by decide +kernel
theorem dX10_compact_6 : decode cX10_compact 6 = .ok (.invokevirtual 95, 3) := by decide +kernel
theorem dX10_compact_9 : decode cX10_compact 9 = .ok (.aload_n 0, 1) := by decide +kernel
theorem dX10_compact_10 : decode cX10_compact 10 = .ok (.getfield 79, 3) := by decide +kernel
theorem dX10_compact_13 : decode cX10_compact 13 = .ok (.ifCond .eq 6, 3) := by decide +kernel
theorem dX10_compact_16 : decode cX10_compact 16 = .ok (.bipush (-9), 2) := by decide +kernel
theorem dX10_compact_18 : decode cX10_compact 18 = .ok (.ireturn, 1) := by decide +kernel
theorem dX10_compact_19 : decode cX10_compact 19 = .ok (.aload_n 0, 1) := by decide +kernel
theorem dX10_compact_20 : decode cX10_compact 20 = .ok (.iload_n 1, 1) := by decide +kernel
theorem dX10_compact_21 : decode cX10_compact 21 = .ok (.invokevirtual 98, 3) := by decide +kernel
theorem dX10_compact_24 : decode cX10_compact 24 = .ok (.ifCond .ne 6, 3) := by decide +kernel
theorem dX10_compact_27 : decode cX10_compact 27 = .ok (.bipush (-2), 2) := by decide +kernel
theorem dX10_compact_29 : decode cX10_compact 29 = .ok (.ireturn, 1) := by decide +kernel
theorem dX10_compact_30 : decode cX10_compact 30 = .ok (.aload_n 0, 1) := by decide +kernel
theorem dX10_compact_31 : decode cX10_compact 31 = .ok (.invokevirtual 221, 3) := by decide +kernel
theorem dX10_compact_34 : decode cX10_compact 34 = .ok (.iconst 0, 1) := by decide +kernel
theorem dX10_compact_35 : decode cX10_compact 35 = .ok (.istore_n 2, 1) := by decide +kernel
theorem dX10_compact_36 : decode cX10_compact 36 = .ok (.iload_n 2, 1) := by decide +kernel
theorem dX10_compact_37 : decode cX10_compact 37 = .ok (.aload_n 0, 1) := by decide +kernel
theorem dX10_compact_38 : decode cX10_compact 38 = .ok (.getfield 115, 3) := by decide +kernel
theorem dX10_compact_41 : decode cX10_compact 41 = .ok (.if_icmp .ge 60, 3) := by decide +kernel
theorem dX10_compact_44 : decode cX10_compact 44 = .ok (.aload_n 0, 1) := by decide +kernel
theorem dX10_compact_45 : decode cX10_compact 45 = .ok (.getfield 17, 3) := by decide +kernel
theorem dX10_compact_48 : decode cX10_compact 48 = .ok (.aload_n 0, 1) := by decide +kernel
theorem dX10_compact_49 : decode cX10_compact 49 = .ok (.getfield 35, 3) := by decide +kernel
theorem dX10_compact_52 : decode cX10_compact 52 = .ok (.iload_n 2, 1) := by decide +kernel
theorem dX10_compact_53 : decode cX10_compact 53 = .ok (.iaload, 1) := by decide +kernel
theorem dX10_compact_54 : decode cX10_compact 54 = .ok (.iaload, 1) := by decide +kernel
theorem dX10_compact_55 : decode cX10_compact 55 = .ok (.iload_n 1, 1) := by decide +kernel
theorem dX10_compact_56 : decode cX10_compact 56 = .ok (.if_icmp .ne 11, 3) := by decide +kernel
theorem dX10_compact_59 : decode cX10_compact 59 = .ok (.aload_n 0, 1) := by decide +kernel
theorem dX10_compact_60 : decode cX10_compact 60 = .ok (.iload_n 2, 1) := by decide +kernel
theorem dX10_compact_61 : decode cX10_compact 61 = .ok (.invokevirtual 241, 3) := by decide +kernel
theorem dX10_compact_64 : decode cX10_compact 64 = .ok (.goto 4, 3) := by decide +kernel
theorem dX10_compact_67 : decode cX10_compact 67 = .ok (.iconst 1, 1) := by decide +kernel
theorem dX10_compact_68 : decode cX10_compact 68 = .ok (.istore_n 3, 1) := by decide +kernel
theorem dX10_compact_69 : decode cX10_compact 69 = .ok (.iload_n 3, 1) := by decide +kernel
theorem dX10_compact_70 : decode cX10_compact 70 = .ok (.iconst 1, 1) := by decide +kernel
theorem dX10_compact_71 : decode cX10_compact 71 = .ok (.if_icmp .ne 17, 3) := by decide +kernel
theorem dX10_compact_74 : decode cX10_compact 74 = .ok (.aload_n 0, 1) := by decide +kernel
theorem dX10_compact_75 : decode cX10_compact 75 = .ok (.aload_n 0, 1) := by decide +kernel
theorem dX10_compact_76 : decode cX10_compact 76 = .ok (.getfield 35, 3) := by decide +kernel
theorem dX10_compact_79 : decode cX10_compact 79 = .ok (.iload_n 2, 1) := by decide +kernel
theorem dX10_compact_80 : decode cX10_compact 80 = .ok (.iaload, 1) := by decide +kernel
theorem dX10_compact_81 : decode cX10_compact 81 = .ok (.iconst 0, 1) := by decide +kernel
theorem dX10_compact_82 : decode cX10_compact 82 = .ok (.invokevirtual 224, 3) := by decide +kernel
theorem dX10_compact_85 : decode cX10_compact 85 = .ok (.goto 9, 3) := by decide +kernel
theorem dX10_compact_88 : decode cX10_compact 88 = .ok (.aload_n 0, 1) := by decide +kernel
theorem dX10_compact_89 : decode cX10_compact 89 = .ok (.iload_n 2, 1) := by decide +kernel
theorem dX10_compact_90 : decode cX10_compact 90 = .ok (.iload_n 3, 1) := by decide +kernel
theorem dX10_compact_91 : decode cX10_compact 91 = .ok (.invokevirtual 244, 3) := by decide +kernel
theorem dX10_compact_94 : decode cX10_compact 94 = .ok (.iload_n 2, 1) := by decide +kernel
theorem dX10_compact_95 : decode cX10_compact 95 = .ok (.iload_n 3, 1) := by decide +kernel
theorem dX10_compact_96 : decode cX10_compact 96 = .ok (.iadd, 1) := by decide +kernel
theorem dX10_compact_97 : decode cX10_compact 97 = .ok (.istore_n 2, 1) := by decide +kernel
theorem dX10_compact_98 : decode cX10_compact 98 = .ok (.goto (-62), 3) := by decide +kernel
theorem dX10_compact_101 : decode cX10_compact 101 = .ok (.aload_n 0, 1) := by decide +kernel
theorem dX10_compact_102 : decode cX10_compact 102 = .ok (.getfield 115, 3) := by decide +kernel
theorem dX10_compact_105 : decode cX10_compact 105 = .ok (.aload_n 0, 1) := by decide +kernel
theorem dX10_compact_106 : decode cX10_compact 106 = .ok (.getfield 174, 3) := by decide +kernel
theorem dX10_compact_109 : decode cX10_compact 109 = .ok (.isub, 1) := by decide +kernel
theorem dX10_compact_110 : decode cX10_compact 110 = .ok (.istore_n 3, 1) := by decide +kernel
theorem dX10_compact_111 : decode cX10_compact 111 = .ok (.iload_n 3, 1) := by decide +kernel
theorem dX10_compact_112 : decode cX10_compact 112 = .ok (.ifCond .ne 5, 3) := by decide +kernel
theorem dX10_compact_115 : decode cX10_compact 115 = .ok (.iconst 0, 1) := by decide +kernel
theorem dX10_compact_116 : decode cX10_compact 116 = .ok (.ireturn, 1) := by decide +kernel
theorem dX10_compact_117 : decode cX10_compact 117 = .ok (.aload_n 0, 1) := by decide +kernel
theorem dX10_compact_118 : decode cX10_compact 118 = .ok (.aload_n 0, 1) := by decide +kernel
theorem dX10_compact_119 : decode cX10_compact 119 = .ok (.getfield 112, 3) := by decide +kernel
theorem dX10_compact_122 : decode cX10_compact 122 = .ok (.invokevirtual 231, 3) := by decide +kernel
theorem dX10_compact_125 : decode cX10_compact 125 = .ok (.istore 4, 2) := by decide +kernel
theorem dX10_compact_127 : decode cX10_compact 127 = .ok (.iload 4, 2) := by decide +kernel
theorem dX10_compact_129 : decode cX10_compact 129 = .ok (.ifCond .ne 7, 3) := by decide +kernel
theorem dX10_compact_132 : decode cX10_compact 132 = .ok (.iload_n 3, 1) := by decide +kernel
theorem dX10_compact_133 : decode cX10_compact 133 = .ok (.goto 5, 3) := by decide +kernel
theorem dX10_compact_136 : decode cX10_compact 136 = .ok (.iload 4, 2) := by decide +kernel
theorem dX10_compact_138 : decode cX10_compact 138 = .ok (.ireturn, 1) := by decide +kernel
theorem dX10_joined_0 : decode cX10_joined 0 = .ok (.aload_n 0, 1) := by decide +kernel
theorem dX10_joined_1 : decode cX10_joined 1 = .ok (.invokevirtual 234, 3) := by decide +kernel
theorem dX10_joined_4 : decode cX10_joined 4 = .ok (.istore_n 3, 1) := by decide +kernel
theorem dX10_joined_5 : decode cX10_joined 5 = .ok (.aload_n 0, 1) := by decide +kernel
theorem dX10_joined_6 : decode cX10_joined 6 = .ok (.getfield 17, 3) := by decide +kernel
theorem dX10_joined_9 : decode cX10_joined 9 = .ok (.iload_n 3, 1) := by decide +kernel
theorem dX10_joined_10 : decode cX10_joined 10 = .ok (.aload_n 0, 1) := by decide +kernel
theorem dX10_joined_11 : decode cX10_joined 11 = .ok (.getfield 17, 3) := by decide +kernel
theorem dX10_joined_14 : decode cX10_joined 14 = .ok (.aload_n 0, 1) := by decide +kernel
theorem dX10_joined_15 : decode cX10_joined 15 = .ok (.getfield 35, 3) := by decide +kernel
theorem dX10_joined_18 : decode cX10_joined 18 = .ok (.iload_n 1, 1) := by decide +kernel
theorem dX10_joined_19 : decode cX10_joined 19 = .ok (.iaload, 1) := by decide +kernel
theorem dX10_joined_20 : decode cX10_joined 20 = .ok (.iaload, 1) := by decide +kernel
theorem dX10_joined_21 : decode cX10_joined 21 = .ok (.iastore, 1) := by decide +kernel
theorem dX10_joined_22 : decode cX10_joined 22 = .ok (.aload_n 0, 1) := by decide +kernel
theorem dX10_joined_23 : decode cX10_joined 23 = .ok (.getfield 20, 3) := by decide +kernel
theorem dX10_joined_26 : decode cX10_joined 26 = .ok (.iload_n 3, 1) := by decide +kernel
theorem dX10_joined_27 : decode cX10_joined 27 = .ok (.iconst 0, 1) := by decide +kernel
theorem dX10_joined_28 : decode cX10_joined 28 = .ok (.iastore, 1) := by decide +kernel
theorem dX10_joined_29 : decode cX10_joined 29 = .ok (.aload_n 0, 1) := by decide +kernel
theorem dX10_joined_30 : decode cX10_joined 30 = .ok (.iload_n 3, 1) := by decide +kernel
theorem dX10_joined_31 : decode cX10_joined 31 = .ok (.iconst 1, 1) := by decide +kernel
theorem dX10_joined_32 : decode cX10_joined 32 = .ok (.invokevirtual 224, 3) := by decide +kernel
theorem dX10_joined_35 : decode cX10_joined 35 = .ok (.iload_n 1, 1) := by decide +kernel
theorem dX10_joined_36 : decode cX10_joined 36 = .ok (.istore 4, 2) := by decide +kernel
theorem dX10_joined_38 : decode cX10_joined 38 = .ok (.iload 4, 2) := by decide +kernel
theorem dX10_joined_40 : decode cX10_joined 40 = .ok (.iload_n 1, 1) := by decide +kernel
theorem dX10_joined_41 : decode cX10_joined 41 = .ok (.iload_n 2, 1) := by decide +kernel
theorem dX10_joined_42 : decode cX10_joined 42 = .ok (.iadd, 1) := by decide +kernel
theorem dX10_joined_43 : decode cX10_joined 43 = .ok (.if_icmp .ge 76, 3) := by decide +kernel
theorem dX10_joined_46 : decode cX10_joined 46 = .ok (.iconst 0, 1) := by decide +kernel
theorem dX10_joined_47 : decode cX10_joined 47 = .ok (.istore 5, 2) := by decide +kernel
theorem dX10_joined_49 : decode cX10_joined 49 = .ok (.iload 5, 2) := by decide +kernel
theorem dX10_joined_51 : decode cX10_joined 51 = .ok (.aload_n 0, 1) := by decide +kernel
theorem dX10_joined_52 : decode cX10_joined 52 = .ok (.getfield 20, 3) := by decide +kernel
theorem dX10_joined_55 : decode cX10_joined 55 = .ok (.aload_n 0, 1) := by decide +kernel
theorem dX10_joined_56 : decode cX10_joined 56 = .ok (.getfield 35, 3) := by decide +kernel
theorem dX10_joined_59 : decode cX10_joined 59 = .ok (.iload 4, 2) := by decide +kernel
theorem dX10_joined_61 : decode cX10_joined 61 = .ok (.iaload, 1) := by decide +kernel
theorem dX10_joined_62 : decode cX10_joined 62 = .ok (.iaload, 1) := by decide +kernel
theorem dX10_joined_63 : decode cX10_joined 63 = .ok (.if_icmp .ge 50, 3) := by decide +kernel
theorem dX10_joined_66 : decode cX10_joined 66 = .ok (.aload_n 0, 1) := by decide +kernel
theorem dX10_joined_67 : decode cX10_joined 67 = .ok (.iload_n 3, 1) := by decide +kernel
theorem dX10_joined_68 : decode cX10_joined 68 = .ok (.aload_n 0, 1) := by decide +kernel
theorem dX10_joined_69 : decode cX10_joined 69 = .ok (.getfield 29, 3) := by decide +kernel
theorem dX10_joined_72 : decode cX10_joined 72 = .ok (.bipush 64, 2) := by decide +kernel
theorem dX10_joined_74 : decode cX10_joined 74 = .ok (.aload_n 0, 1) := by decide +kernel
theorem dX10_joined_75 : decode cX10_joined 75 = .ok (.getfield 35, 3) := by decide +kernel
theorem dX10_joined_78 : decode cX10_joined 78 = .ok (.iload 4, 2) := by decide +kernel
theorem dX10_joined_80 : decode cX10_joined 80 = .ok (.iaload, 1) := by decide +kernel
theorem dX10_joined_81 : decode cX10_joined 81 = .ok (.imul, 1) := by decide +kernel
theorem dX10_joined_82 : decode cX10_joined 82 = .ok (.iload 5, 2) := by decide +kernel
theorem dX10_joined_84 : decode cX10_joined 84 = .ok (.iadd, 1) := by decide +kernel
theorem dX10_joined_85 : decode cX10_joined 85 = .ok (.iaload, 1) := by decide +kernel
theorem dX10_joined_86 : decode cX10_joined 86 = .ok (.aload_n 0, 1) := by decide +kernel
theorem dX10_joined_87 : decode cX10_joined 87 = .ok (.getfield 32, 3) := by decide +kernel
theorem dX10_joined_90 : decode cX10_joined 90 = .ok (.bipush 64, 2) := by decide +kernel
theorem dX10_joined_92 : decode cX10_joined 92 = .ok (.aload_n 0, 1) := by decide +kernel
theorem dX10_joined_93 : decode cX10_joined 93 = .ok (.getfield 35, 3) := by decide +kernel
theorem dX10_joined_96 : decode cX10_joined 96 = .ok (.iload 4, 2) := by decide +kernel
theorem dX10_joined_98 : decode cX10_joined 98 = .ok (.iaload, 1) := by decide +kernel
theorem dX10_joined_99 : decode cX10_joined 99 = .ok (.imul, 1) := by decide +kernel
theorem dX10_joined_100 : decode cX10_joined 100 = .ok (.iload 5, 2) := by decide +kernel
theorem dX10_joined_102 : decode cX10_joined 102 = .ok (.iadd, 1) := by decide +kernel
theorem dX10_joined_103 : decode cX10_joined 103 = .ok (.iaload, 1) := by decide +kernel
theorem dX10_joined_104 : decode cX10_joined 104 = .ok (.invokevirtual 237, 3) := by decide +kernel
theorem dX10_joined_107 : decode cX10_joined 107 = .ok (.iinc 5 1, 3) := by decide +kernel
theorem dX10_joined_110 : decode cX10_joined 110 = .ok (.goto (-61), 3) := by decide +kernel
theorem dX10_joined_113 : decode cX10_joined 113 = .ok (.iinc 4 1, 3) := by decide +kernel
theorem dX10_joined_116 : decode cX10_joined 116 = .ok (.goto (-78), 3) := by decide +kernel
theorem dX10_joined_119 : decode cX10_joined 119 = .ok (.return_, 1) := by decide +kernel
theorem dX10_expire_0 : decode cX10_expire 0 = .ok (.aload_n 0, 1) := by decide +kernel
theorem dX10_expire_1 : decode cX10_expire 1 = .ok (.iconst 0, 1) := by decide +kernel
theorem dX10_expire_2 : decode cX10_expire 2 = .ok (.putfield 76, 3) := by decide +kernel
theorem dX10_expire_5 : decode cX10_expire 5 = .ok (.aload_n 0, 1) := by decide +kernel
theorem dX10_expire_6 : decode cX10_expire 6 = .ok (.invokevirtual 95, 3) := by decide +kernel
theorem dX10_expire_9 : decode cX10_expire 9 = .ok (.aload_n 0, 1) := by decide +kernel
theorem dX10_expire_10 : decode cX10_expire 10 = .ok (.getfield 79, 3) := by decide +kernel
theorem dX10_expire_13 : decode cX10_expire 13 = .ok (.ifCond .eq 6, 3) := by decide +kernel
theorem dX10_expire_16 : decode cX10_expire 16 = .ok (.bipush (-9), 2) := by decide +kernel
theorem dX10_expire_18 : decode cX10_expire 18 = .ok (.ireturn, 1) := by decide +kernel
theorem dX10_expire_19 : decode cX10_expire 19 = .ok (.aload_n 0, 1) := by decide +kernel
theorem dX10_expire_20 : decode cX10_expire 20 = .ok (.invokevirtual 221, 3) := by decide +kernel
theorem dX10_expire_23 : decode cX10_expire 23 = .ok (.iconst 0, 1) := by decide +kernel
theorem dX10_expire_24 : decode cX10_expire 24 = .ok (.istore_n 2, 1) := by decide +kernel
theorem dX10_expire_25 : decode cX10_expire 25 = .ok (.iconst 0, 1) := by decide +kernel
theorem dX10_expire_26 : decode cX10_expire 26 = .ok (.istore_n 3, 1) := by decide +kernel
theorem dX10_expire_27 : decode cX10_expire 27 = .ok (.iload_n 3, 1) := by decide +kernel
theorem dX10_expire_28 : decode cX10_expire 28 = .ok (.aload_n 0, 1) := by decide +kernel
theorem dX10_expire_29 : decode cX10_expire 29 = .ok (.getfield 115, 3) := by decide +kernel
theorem dX10_expire_32 : decode cX10_expire 32 = .ok (.if_icmp .ge 51, 3) := by decide +kernel
theorem dX10_expire_35 : decode cX10_expire 35 = .ok (.aload_n 0, 1) := by decide +kernel
theorem dX10_expire_36 : decode cX10_expire 36 = .ok (.aload_n 0, 1) := by decide +kernel
theorem dX10_expire_37 : decode cX10_expire 37 = .ok (.getfield 35, 3) := by decide +kernel
theorem dX10_expire_40 : decode cX10_expire 40 = .ok (.iload_n 3, 1) := by decide +kernel
theorem dX10_expire_41 : decode cX10_expire 41 = .ok (.iaload, 1) := by decide +kernel
theorem dX10_expire_42 : decode cX10_expire 42 = .ok (.invokevirtual 212, 3) := by decide +kernel
theorem dX10_expire_45 : decode cX10_expire 45 = .ok (.iload_n 1, 1) := by decide +kernel
theorem dX10_expire_46 : decode cX10_expire 46 = .ok (.if_icmp .ge 20, 3) := by decide +kernel
theorem dX10_expire_49 : decode cX10_expire 49 = .ok (.iload_n 2, 1) := by decide +kernel
theorem dX10_expire_50 : decode cX10_expire 50 = .ok (.aload_n 0, 1) := by decide +kernel
theorem dX10_expire_51 : decode cX10_expire 51 = .ok (.getfield 20, 3) := by decide +kernel
theorem dX10_expire_54 : decode cX10_expire 54 = .ok (.aload_n 0, 1) := by decide +kernel
theorem dX10_expire_55 : decode cX10_expire 55 = .ok (.getfield 35, 3) := by decide +kernel
theorem dX10_expire_58 : decode cX10_expire 58 = .ok (.iload_n 3, 1) := by decide +kernel
theorem dX10_expire_59 : decode cX10_expire 59 = .ok (.iaload, 1) := by decide +kernel
theorem dX10_expire_60 : decode cX10_expire 60 = .ok (.iaload, 1) := by decide +kernel
theorem dX10_expire_61 : decode cX10_expire 61 = .ok (.iadd, 1) := by decide +kernel
theorem dX10_expire_62 : decode cX10_expire 62 = .ok (.istore_n 2, 1) := by decide +kernel
theorem dX10_expire_63 : decode cX10_expire 63 = .ok (.goto 14, 3) := by decide +kernel
theorem dX10_expire_66 : decode cX10_expire 66 = .ok (.aload_n 0, 1) := by decide +kernel
theorem dX10_expire_67 : decode cX10_expire 67 = .ok (.aload_n 0, 1) := by decide +kernel
theorem dX10_expire_68 : decode cX10_expire 68 = .ok (.getfield 35, 3) := by decide +kernel
theorem dX10_expire_71 : decode cX10_expire 71 = .ok (.iload_n 3, 1) := by decide +kernel
theorem dX10_expire_72 : decode cX10_expire 72 = .ok (.iaload, 1) := by decide +kernel
theorem dX10_expire_73 : decode cX10_expire 73 = .ok (.iconst 0, 1) := by decide +kernel
theorem dX10_expire_74 : decode cX10_expire 74 = .ok (.invokevirtual 224, 3) := by decide +kernel
theorem dX10_expire_77 : decode cX10_expire 77 = .ok (.iinc 3 1, 3) := by decide +kernel
theorem dX10_expire_80 : decode cX10_expire 80 = .ok (.goto (-53), 3) := by decide +kernel
theorem dX10_expire_83 : decode cX10_expire 83 = .ok (.iload_n 2, 1) := by decide +kernel
theorem dX10_expire_84 : decode cX10_expire 84 = .ok (.ifCond .ne 5, 3) := by decide +kernel
theorem dX10_expire_87 : decode cX10_expire 87 = .ok (.iconst 0, 1) := by decide +kernel
theorem dX10_expire_88 : decode cX10_expire 88 = .ok (.ireturn, 1) := by decide +kernel
theorem dX10_expire_89 : decode cX10_expire 89 = .ok (.aload_n 0, 1) := by decide +kernel
theorem dX10_expire_90 : decode cX10_expire 90 = .ok (.aload_n 0, 1) := by decide +kernel
theorem dX10_expire_91 : decode cX10_expire 91 = .ok (.getfield 112, 3) := by decide +kernel
theorem dX10_expire_94 : decode cX10_expire 94 = .ok (.invokevirtual 231, 3) := by decide +kernel
theorem dX10_expire_97 : decode cX10_expire 97 = .ok (.istore_n 3, 1) := by decide +kernel
theorem dX10_expire_98 : decode cX10_expire 98 = .ok (.iload_n 3, 1) := by decide +kernel
theorem dX10_expire_99 : decode cX10_expire 99 = .ok (.ifCond .ne 7, 3) := by decide +kernel
theorem dX10_expire_102 : decode cX10_expire 102 = .ok (.iload_n 2, 1) := by decide +kernel
theorem dX10_expire_103 : decode cX10_expire 103 = .ok (.goto 4, 3) := by decide +kernel
theorem dX10_expire_106 : decode cX10_expire 106 = .ok (.iload_n 3, 1) := by decide +kernel
theorem dX10_expire_107 : decode cX10_expire 107 = .ok (.ireturn, 1) := by decide +kernel
theorem dX10_meet_0 : decode cX10_meet 0 = .ok (.iload_n 1, 1) := by decide +kernel
theorem dX10_meet_1 : decode cX10_meet 1 = .ok (.iload_n 3, 1) := by decide +kernel
theorem dX10_meet_2 : decode cX10_meet 2 = .ok (.if_icmp .lt 9, 3) := by decide +kernel
theorem dX10_meet_5 : decode cX10_meet 5 = .ok (.iload_n 1, 1) := by decide +kernel
theorem dX10_meet_6 : decode cX10_meet 6 = .ok (.iload 4, 2) := by decide +kernel
theorem dX10_meet_8 : decode cX10_meet 8 = .ok (.if_icmp .le 4, 3) := by decide +kernel
theorem dX10_meet_11 : decode cX10_meet 11 = .ok (.return_, 1) := by decide +kernel
theorem dX10_meet_12 : decode cX10_meet 12 = .ok (.aload_n 0, 1) := by decide +kernel
theorem dX10_meet_13 : decode cX10_meet 13 = .ok (.aload_n 0, 1) := by decide +kernel
theorem dX10_meet_14 : decode cX10_meet 14 = .ok (.getfield 248, 3) := by decide +kernel
theorem dX10_meet_17 : decode cX10_meet 17 = .ok (.ifCond .eq 11, 3) := by decide +kernel
theorem dX10_meet_20 : decode cX10_meet 20 = .ok (.iload_n 2, 1) := by decide +kernel
theorem dX10_meet_21 : decode cX10_meet 21 = .ok (.aload_n 0, 1) := by decide +kernel
theorem dX10_meet_22 : decode cX10_meet 22 = .ok (.getfield 251, 3) := by decide +kernel
theorem dX10_meet_25 : decode cX10_meet 25 = .ok (.if_icmp .ge 7, 3) := by decide +kernel
theorem dX10_meet_28 : decode cX10_meet 28 = .ok (.iload_n 2, 1) := by decide +kernel
theorem dX10_meet_29 : decode cX10_meet 29 = .ok (.goto 7, 3) := by decide +kernel
theorem dX10_meet_32 : decode cX10_meet 32 = .ok (.aload_n 0, 1) := by decide +kernel
theorem dX10_meet_33 : decode cX10_meet 33 = .ok (.getfield 251, 3) := by decide +kernel
theorem dX10_meet_36 : decode cX10_meet 36 = .ok (.putfield 251, 3) := by decide +kernel
theorem dX10_meet_39 : decode cX10_meet 39 = .ok (.aload_n 0, 1) := by decide +kernel
theorem dX10_meet_40 : decode cX10_meet 40 = .ok (.aload_n 0, 1) := by decide +kernel
theorem dX10_meet_41 : decode cX10_meet 41 = .ok (.getfield 248, 3) := by decide +kernel
theorem dX10_meet_44 : decode cX10_meet 44 = .ok (.ifCond .eq 11, 3) := by decide +kernel
theorem dX10_meet_47 : decode cX10_meet 47 = .ok (.iload_n 2, 1) := by decide +kernel
theorem dX10_meet_48 : decode cX10_meet 48 = .ok (.aload_n 0, 1) := by decide +kernel
theorem dX10_meet_49 : decode cX10_meet 49 = .ok (.getfield 254, 3) := by decide +kernel
theorem dX10_meet_52 : decode cX10_meet 52 = .ok (.if_icmp .le 7, 3) := by decide +kernel
theorem dX10_meet_55 : decode cX10_meet 55 = .ok (.iload_n 2, 1) := by decide +kernel
theorem dX10_meet_56 : decode cX10_meet 56 = .ok (.goto 7, 3) := by decide +kernel
theorem dX10_meet_59 : decode cX10_meet 59 = .ok (.aload_n 0, 1) := by decide +kernel
theorem dX10_meet_60 : decode cX10_meet 60 = .ok (.getfield 254, 3) := by decide +kernel
theorem dX10_meet_63 : decode cX10_meet 63 = .ok (.putfield 254, 3) := by decide +kernel
theorem dX10_meet_66 : decode cX10_meet 66 = .ok (.aload_n 0, 1) := by decide +kernel
theorem dX10_meet_67 : decode cX10_meet 67 = .ok (.dup, 1) := by decide +kernel
theorem dX10_meet_68 : decode cX10_meet 68 = .ok (.getfield 257, 3) := by decide +kernel
theorem dX10_meet_71 : decode cX10_meet 71 = .ok (.iload_n 2, 1) := by decide +kernel
theorem dX10_meet_72 : decode cX10_meet 72 = .ok (.i2l, 1) := by decide +kernel
theorem dX10_meet_73 : decode cX10_meet 73 = .ok (.ladd, 1) := by decide +kernel
theorem dX10_meet_74 : decode cX10_meet 74 = .ok (.putfield 257, 3) := by decide +kernel
theorem dX10_meet_77 : decode cX10_meet 77 = .ok (.iload 5, 2) := by decide +kernel
theorem dX10_meet_79 : decode cX10_meet 79 = .ok (.ifCond .eq 23, 3) := by decide +kernel
theorem dX10_meet_82 : decode cX10_meet 82 = .ok (.aload_n 0, 1) := by decide +kernel
theorem dX10_meet_83 : decode cX10_meet 83 = .ok (.getfield 54, 3) := by decide +kernel
theorem dX10_meet_86 : decode cX10_meet 86 = .ok (.aload_n 0, 1) := by decide +kernel
theorem dX10_meet_87 : decode cX10_meet 87 = .ok (.getfield 248, 3) := by decide +kernel
theorem dX10_meet_90 : decode cX10_meet 90 = .ok (.iload_n 1, 1) := by decide +kernel
theorem dX10_meet_91 : decode cX10_meet 91 = .ok (.iastore, 1) := by decide +kernel
theorem dX10_meet_92 : decode cX10_meet 92 = .ok (.aload_n 0, 1) := by decide +kernel
theorem dX10_meet_93 : decode cX10_meet 93 = .ok (.getfield 57, 3) := by decide +kernel
theorem dX10_meet_96 : decode cX10_meet 96 = .ok (.aload_n 0, 1) := by decide +kernel
theorem dX10_meet_97 : decode cX10_meet 97 = .ok (.getfield 248, 3) := by decide +kernel
theorem dX10_meet_100 : decode cX10_meet 100 = .ok (.iload_n 2, 1) := by decide +kernel
theorem dX10_meet_101 : decode cX10_meet 101 = .ok (.iastore, 1) := by decide +kernel
theorem dX10_meet_102 : decode cX10_meet 102 = .ok (.aload_n 0, 1) := by decide +kernel
theorem dX10_meet_103 : decode cX10_meet 103 = .ok (.dup, 1) := by decide +kernel
theorem dX10_meet_104 : decode cX10_meet 104 = .ok (.getfield 248, 3) := by decide +kernel
theorem dX10_meet_107 : decode cX10_meet 107 = .ok (.iconst 1, 1) := by decide +kernel
theorem dX10_meet_108 : decode cX10_meet 108 = .ok (.iadd, 1) := by decide +kernel
theorem dX10_meet_109 : decode cX10_meet 109 = .ok (.putfield 248, 3) := by decide +kernel
theorem dX10_meet_112 : decode cX10_meet 112 = .ok (.return_, 1) := by decide +kernel
theorem dX10_chunksOf_0 : decode cX10_chunksOf 0 = .ok (.iconst 0, 1) := by decide +kernel
theorem dX10_chunksOf_1 : decode cX10_chunksOf 1 = .ok (.istore_n 2, 1) := by decide +kernel
theorem dX10_chunksOf_2 : decode cX10_chunksOf 2 = .ok (.iconst 0, 1) := by decide +kernel
theorem dX10_chunksOf_3 : decode cX10_chunksOf 3 = .ok (.istore_n 3, 1) := by decide +kernel
theorem dX10_chunksOf_4 : decode cX10_chunksOf 4 = .ok (.iload_n 3, 1) := by decide +kernel
theorem dX10_chunksOf_5 : decode cX10_chunksOf 5 = .ok (.aload_n 0, 1) := by decide +kernel
theorem dX10_chunksOf_6 : decode cX10_chunksOf 6 = .ok (.getfield 115, 3) := by decide +kernel
theorem dX10_chunksOf_9 : decode cX10_chunksOf 9 = .ok (.if_icmp .ge 32, 3) := by decide +kernel
theorem dX10_chunksOf_12 : decode cX10_chunksOf 12 = .ok (.iload_n 2, 1) := by decide +kernel
theorem dX10_chunksOf_13 : decode cX10_chunksOf 13 = .ok (.aload_n 0, 1) := by decide +kernel
theorem dX10_chunksOf_14 : decode cX10_chunksOf 14 = .ok (.getfield 17, 3) := by decide +kernel
theorem dX10_chunksOf_17 : decode cX10_chunksOf 17 = .ok (.aload_n 0, 1) := by decide +kernel
theorem dX10_chunksOf_18 : decode cX10_chunksOf 18 = .ok (.getfield 35, 3) := by decide +kernel
theorem dX10_chunksOf_21 : decode cX10_chunksOf 21 = .ok (.iload_n 3, 1) := by decide +kernel
theorem dX10_chunksOf_22 : decode cX10_chunksOf 22 = .ok (.iaload, 1) := by decide +kernel
theorem dX10_chunksOf_23 : decode cX10_chunksOf 23 = .ok (.iaload, 1) := by decide +kernel
theorem dX10_chunksOf_24 : decode cX10_chunksOf 24 = .ok (.iload_n 1, 1) := by decide +kernel
theorem dX10_chunksOf_25 : decode cX10_chunksOf 25 = .ok (.if_icmp .ne 7, 3) := by decide +kernel
theorem dX10_chunksOf_28 : decode cX10_chunksOf 28 = .ok (.iconst 1, 1) := by decide +kernel
theorem dX10_chunksOf_29 : decode cX10_chunksOf 29 = .ok (.goto 4, 3) := by decide +kernel
theorem dX10_chunksOf_32 : decode cX10_chunksOf 32 = .ok (.iconst 0, 1) := by decide +kernel
theorem dX10_chunksOf_33 : decode cX10_chunksOf 33 = .ok (.iadd, 1) := by decide +kernel
theorem dX10_chunksOf_34 : decode cX10_chunksOf 34 = .ok (.istore_n 2, 1) := by decide +kernel
theorem dX10_chunksOf_35 : decode cX10_chunksOf 35 = .ok (.iinc 3 1, 3) := by decide +kernel
theorem dX10_chunksOf_38 : decode cX10_chunksOf 38 = .ok (.goto (-34), 3) := by decide +kernel
theorem dX10_chunksOf_41 : decode cX10_chunksOf 41 = .ok (.iload_n 2, 1) := by decide +kernel
theorem dX10_chunksOf_42 : decode cX10_chunksOf 42 = .ok (.ireturn, 1) := by decide +kernel
theorem dX10_groupsOf_0 : decode cX10_groupsOf 0 = .ok (.aload_n 0, 1) := by decide +kernel
theorem dX10_groupsOf_1 : decode cX10_groupsOf 1 = .ok (.iload_n 1, 1) := by decide +kernel
theorem dX10_groupsOf_2 : decode cX10_groupsOf 2 = .ok (.invokevirtual 274, 3) := by decide +kernel
theorem dX10_groupsOf_5 : decode cX10_groupsOf 5 = .ok (.aload_n 0, 1) := by decide +kernel
theorem dX10_groupsOf_6 : decode cX10_groupsOf 6 = .ok (.getfield 73, 3) := by decide +kernel
theorem dX10_groupsOf_9 : decode cX10_groupsOf 9 = .ok (.iadd, 1) := by decide +kernel
theorem dX10_groupsOf_10 : decode cX10_groupsOf 10 = .ok (.iconst 1, 1) := by decide +kernel
theorem dX10_groupsOf_11 : decode cX10_groupsOf 11 = .ok (.isub, 1) := by decide +kernel
theorem dX10_groupsOf_12 : decode cX10_groupsOf 12 = .ok (.aload_n 0, 1) := by decide +kernel
theorem dX10_groupsOf_13 : decode cX10_groupsOf 13 = .ok (.getfield 73, 3) := by decide +kernel
theorem dX10_groupsOf_16 : decode cX10_groupsOf 16 = .ok (.idiv, 1) := by decide +kernel
theorem dX10_groupsOf_17 : decode cX10_groupsOf 17 = .ok (.ireturn, 1) := by decide +kernel
theorem dX10_slot_0 : decode cX10_slot 0 = .ok (.iconst 0, 1) := by decide +kernel
theorem dX10_slot_1 : decode cX10_slot 1 = .ok (.istore_n 3, 1) := by decide +kernel
theorem dX10_slot_2 : decode cX10_slot 2 = .ok (.iconst 0, 1) := by decide +kernel
theorem dX10_slot_3 : decode cX10_slot 3 = .ok (.istore 4, 2) := by decide +kernel
theorem dX10_slot_5 : decode cX10_slot 5 = .ok (.iload 4, 2) := by decide +kernel
theorem dX10_slot_7 : decode cX10_slot 7 = .ok (.aload_n 0, 1) := by decide +kernel
theorem dX10_slot_8 : decode cX10_slot 8 = .ok (.getfield 115, 3) := by decide +kernel
theorem dX10_slot_11 : decode cX10_slot 11 = .ok (.if_icmp .ge 44, 3) := by decide +kernel
theorem dX10_slot_14 : decode cX10_slot 14 = .ok (.aload_n 0, 1) := by decide +kernel
theorem dX10_slot_15 : decode cX10_slot 15 = .ok (.getfield 17, 3) := by decide +kernel
theorem dX10_slot_18 : decode cX10_slot 18 = .ok (.aload_n 0, 1) := by decide +kernel
theorem dX10_slot_19 : decode cX10_slot 19 = .ok (.getfield 35, 3) := by decide +kernel
theorem dX10_slot_22 : decode cX10_slot 22 = .ok (.iload 4, 2) := by decide +kernel
theorem dX10_slot_24 : decode cX10_slot 24 = .ok (.iaload, 1) := by decide +kernel
theorem dX10_slot_25 : decode cX10_slot 25 = .ok (.iaload, 1) := by decide +kernel
theorem dX10_slot_26 : decode cX10_slot 26 = .ok (.iload_n 1, 1) := by decide +kernel
theorem dX10_slot_27 : decode cX10_slot 27 = .ok (.if_icmp .eq 6, 3) := by decide +kernel
theorem dX10_slot_30 : decode cX10_slot 30 = .ok (.goto 19, 3) := by decide +kernel
theorem dX10_slot_33 : decode cX10_slot 33 = .ok (.iload_n 3, 1) := by decide +kernel
theorem dX10_slot_34 : decode cX10_slot 34 = .ok (.iload_n 2, 1) := by decide +kernel
theorem dX10_slot_35 : decode cX10_slot 35 = .ok (.if_icmp .ne 11, 3) := by decide +kernel
theorem dX10_slot_38 : decode cX10_slot 38 = .ok (.aload_n 0, 1) := by decide +kernel
theorem dX10_slot_39 : decode cX10_slot 39 = .ok (.getfield 35, 3) := by decide +kernel
theorem dX10_slot_42 : decode cX10_slot 42 = .ok (.iload 4, 2) := by decide +kernel
theorem dX10_slot_44 : decode cX10_slot 44 = .ok (.iaload, 1) := by decide +kernel
theorem dX10_slot_45 : decode cX10_slot 45 = .ok (.ireturn, 1) := by decide +kernel
theorem dX10_slot_46 : decode cX10_slot 46 = .ok (.iinc 3 1, 3) := by decide +kernel
theorem dX10_slot_49 : decode cX10_slot 49 = .ok (.iinc 4 1, 3) := by decide +kernel
theorem dX10_slot_52 : decode cX10_slot 52 = .ok (.goto (-47), 3) := by decide +kernel
theorem dX10_slot_55 : decode cX10_slot 55 = .ok (.iconst (-1), 1) := by decide +kernel
theorem dX10_slot_56 : decode cX10_slot 56 = .ok (.ireturn, 1) := by decide +kernel
abbrev rm_X10_joined : Room := { frames := 2, cells := 0, slots := 0, locals := 44 }
theorem hd_X10_joined : yX10_joined.cls = RX10 ∧ yX10_joined.cls ≠ "java/lang/invoke/MethodHandle" ∧ yX10_joined.cls ≠ "java/lang/invoke/VarHandle" ∧ (parseMethodDescriptor yX10_joined.desc).map (fun d => d.parameters.length) = some 2 := by decide +kernel
set_option maxHeartbeats 4000000 in
set_option maxRecDepth 100000 in
theorem c_X10_joined (l : Launch) (G : va_G) (cI cZ cJ : ClassId) (aM aMdisk aMits aMmany aMplace aMlength aMtimes aMvalues aMorder aMheadOf aMheadTime aMheadValue aMnext aMisNew aMcursorTime aMcursorValue aMmade : Nat) (M_thrown : Int32) (M_series : Int32) (M_most : Int32) (M_ratio : Int32) (M_writes : Int32) (M_fuse : Int32) (M_down : Int32) (M_recovers : Int32) (M_looks : Int32) (M_unpacked : Int32) (M_chunks : Int32) (M_epoch : Int32) (M_side : Int32) (M_logged : Int32) (M_nexts : Int32) (M_hasCursor : Int32) (M_cursorMany : Int32) (M_cursorAt : Int32) (M_bits : Int32) (M_from : Int32) (M_askMany : Int32) (M_askLeast : Int32) (M_askGreatest : Int32) (M_askSum : Int64) (M_its : Nat → Int32) (M_many : Nat → Int32) (M_times : Nat → Int32) (M_values : Nat → Int32) (M_order : Nat → Int32) (M_next : Nat → Int32) (M_isNew : Nat → Int32) (p0 : Int32) (p1 : Int32) {o_M_nexts : Int32} {o_M_its : Nat → Int32} {o_M_many : Nat → Int32} {o_M_times : Nat → Int32} {o_M_values : Nat → Int32} {o_M_next : Nat → Int32} {o_M_isNew : Nat → Int32} (hfin : m_X10_joined M_chunks M_nexts M_its M_many M_times M_values M_order M_next M_isNew p0 p1 = some (o_M_nexts, o_M_its, o_M_many, o_M_times, o_M_values, o_M_next, o_M_isNew)) : CT l yX10_joined cX10_joined 6 none rm_X10_joined G (tyC cI cZ cJ) [.ref aM, .int p0, .int p1] [oX10 aM M_thrown M_series M_most M_ratio aMdisk M_writes M_fuse M_down M_recovers M_looks M_unpacked aMits aMmany aMplace aMlength aMtimes aMvalues aMorder M_chunks M_epoch M_side aMheadOf aMheadTime aMheadValue M_logged aMnext aMisNew M_nexts aMcursorTime aMcursorValue M_hasCursor M_cursorMany M_cursorAt aMmade M_bits M_from M_askMany M_askLeast M_askGreatest M_askSum, rI aMits cI 240 M_its, rI aMmany cI 240 M_many, rI aMtimes cI 15360 M_times, rI aMvalues cI 15360 M_values, rI aMorder cI 96 M_order, rI aMnext cI 240 M_next, rI aMisNew cZ 240 M_isNew] none [oX10 aM M_thrown M_series M_most M_ratio aMdisk M_writes M_fuse M_down M_recovers M_looks M_unpacked aMits aMmany aMplace aMlength aMtimes aMvalues aMorder M_chunks M_epoch M_side aMheadOf aMheadTime aMheadValue M_logged aMnext aMisNew o_M_nexts aMcursorTime aMcursorValue M_hasCursor M_cursorMany M_cursorAt aMmade M_bits M_from M_askMany M_askLeast M_askGreatest M_askSum, rI aMits cI 240 o_M_its, rI aMmany cI 240 o_M_many, rI aMtimes cI 15360 o_M_times, rI aMvalues cI 15360 o_M_values, rI aMorder cI 96 M_order, rI aMnext cI 240 o_M_next, rI aMisNew cZ 240 o_M_isNew] := by
  refine CT.ofW (lvl := [(0, .ref aM), (1, .int p0), (2, .int p1)]) (by decide) (Nat.le_of_ble_eq_true rfl) rfl ?_
  intro p e s m args below meth c A ls0 QQ hQQ hx hb hml hr hlocks htc hN hown hK hA hw0 hl0
  rw [m_X10_joined] at hfin
  refine lv_aload_n hx hb dX10_joined_0 rfl (lv_at hl0 0 rfl) ?_
  replace hfin := ob1_some hfin
  obtain ⟨r_2, hE_1, hfin⟩ := hfin
  refine ctV (a := aM) (As := []) (rest := []) (st1 := [.int r_2]) (wc := [oX10 aM M_thrown M_series M_most M_ratio aMdisk M_writes M_fuse M_down M_recovers M_looks M_unpacked aMits aMmany aMplace aMlength aMtimes aMvalues aMorder M_chunks M_epoch M_side aMheadOf aMheadTime aMheadValue M_logged aMnext aMisNew M_nexts aMcursorTime aMcursorValue M_hasCursor M_cursorMany M_cursorAt aMmade M_bits M_from M_askMany M_askLeast M_askGreatest M_askSum, rI aMorder cI 96 M_order, rI aMnext cI 240 M_next]) (w1 := [oX10 aM M_thrown M_series M_most M_ratio aMdisk M_writes M_fuse M_down M_recovers M_looks M_unpacked aMits aMmany aMplace aMlength aMtimes aMvalues aMorder M_chunks M_epoch M_side aMheadOf aMheadTime aMheadValue M_logged aMnext aMisNew M_nexts aMcursorTime aMcursorValue M_hasCursor M_cursorMany M_cursorAt aMmade M_bits M_from M_askMany M_askLeast M_askGreatest M_askSum, rI aMorder cI 96 M_order, rI aMnext cI 240 M_next]) (wr := [rI aMits cI 240 M_its, rI aMmany cI 240 M_many, rI aMtimes cI 15360 M_times, rI aMvalues cI 15360 M_values, rI aMisNew cZ 240 M_isNew]) (wb := [oX10 aM M_thrown M_series M_most M_ratio aMdisk M_writes M_fuse M_down M_recovers M_looks M_unpacked aMits aMmany aMplace aMlength aMtimes aMvalues aMorder M_chunks M_epoch M_side aMheadOf aMheadTime aMheadValue M_logged aMnext aMisNew M_nexts aMcursorTime aMcursorValue M_hasCursor M_cursorMany M_cursorAt aMmade M_bits M_from M_askMany M_askLeast M_askGreatest M_askSum, rI aMits cI 240 M_its, rI aMmany cI 240 M_many, rI aMtimes cI 15360 M_times, rI aMvalues cI 15360 M_values, rI aMorder cI 96 M_order, rI aMnext cI 240 M_next, rI aMisNew cZ 240 M_isNew]) (v := (some (.int r_2))) hx hb hml hown htc hN (c_X10_freeSlot l G cI cZ cJ aM aMdisk aMits aMmany aMplace aMlength aMtimes aMvalues aMorder aMheadOf aMheadTime aMheadValue aMnext aMisNew aMcursorTime aMcursorValue aMmade M_thrown M_series M_most M_ratio M_writes M_fuse M_down M_recovers M_looks M_unpacked M_chunks M_epoch M_side M_logged M_nexts M_hasCursor M_cursorMany M_cursorAt M_bits M_from M_askMany M_askLeast M_askGreatest M_askSum M_order M_next  hE_1) mw_1108 mw_1110 mp_41 mw_12 mw_1111 hd_X10_freeSlot ⟨rfl, rfl⟩ ⟨Nat.le_of_ble_eq_true rfl, Nat.le_of_ble_eq_true rfl⟩ hK hw0 hA [0, 5, 6] [1, 2, 3, 4, 7] [5, 0, 1, 2, 3, 6, 7, 4] rfl rfl rfl rfl rfl (by decide) rfl rfl rfl 0 rfl rfl rfl rfl hl0.1 rfl rfl (Nat.le_of_ble_eq_true rfl) dX10_joined_1 ⟨Nat.zero_le _, Nat.zero_le _⟩ (fun H3 locs3 hw3 => ?_)
  clear hw0
  refine lv_istore_n (lv' := [(3, .int r_2), (0, .ref aM), (1, .int p0), (2, .int p1)]) hx hb dX10_joined_4 rfl hl0 (by decide) rfl (fun ls4 hl4 => ?_)
  clear hl0 ls0
  refine lv_aload_n hx hb dX10_joined_5 rfl (lv_at hl4 1 rfl) ?_
  refine va_get (D := G) (ci := 10) (v := .ref aMits) (C := RX10) (T := TX10) (N := 40) hx hb htc iX10 hown hK hw3.1 0 rfl rfl 11 (by decide) (htc _ mw_958) (fun _ h9 => h9) rfl dX10_joined_6 ?_
  refine lv_iload_n hx hb dX10_joined_9 rfl (lv_at hl4 0 rfl) ?_
  refine lv_aload_n hx hb dX10_joined_10 rfl (lv_at hl4 1 rfl) ?_
  refine va_get (D := G) (ci := 10) (v := .ref aMits) (C := RX10) (T := TX10) (N := 40) hx hb htc iX10 hown hK hw3.1 0 rfl rfl 11 (by decide) (htc _ mw_958) (fun _ h9 => h9) rfl dX10_joined_11 ?_
  refine lv_aload_n hx hb dX10_joined_14 rfl (lv_at hl4 1 rfl) ?_
  refine va_get (D := G) (ci := 10) (v := .ref aMorder) (C := RX10) (T := TX10) (N := 40) hx hb htc iX10 hown hK hw3.1 0 rfl rfl 17 (by decide) (htc _ mw_964) (fun _ h9 => h9) rfl dX10_joined_15 ?_
  refine lv_iload_n hx hb dX10_joined_18 rfl (lv_at hl4 2 rfl) ?_
  replace hfin := ckb_some hfin
  obtain ⟨hin_5, hfin⟩ := hfin
  refine va_iald hx hb hK hw3.1 5 0 rfl rfl hin_5 dX10_joined_19 ?_
  replace hfin := ckb_some hfin
  obtain ⟨hin_6, hfin⟩ := hfin
  refine va_iald hx hb hK hw3.1 1 0 rfl rfl hin_6 dX10_joined_20 ?_
  replace hfin := ckb_some hfin
  obtain ⟨hin_7, hfin⟩ := hfin
  refine va_iast hx hb hK hw3.1 hw3.2.1 hw3.2.2 1 0 rfl rfl hin_7 dX10_joined_21 (fun H8 locs8 hP hD hS => ?_)
  have hw8 : wS G A s H8 locs8 [oX10 aM M_thrown M_series M_most M_ratio aMdisk M_writes M_fuse M_down M_recovers M_looks M_unpacked aMits aMmany aMplace aMlength aMtimes aMvalues aMorder M_chunks M_epoch M_side aMheadOf aMheadTime aMheadValue M_logged aMnext aMisNew M_nexts aMcursorTime aMcursorValue M_hasCursor M_cursorMany M_cursorAt aMmade M_bits M_from M_askMany M_askLeast M_askGreatest M_askSum, rI aMits cI 240 (upd M_its (Int32.toNatClampNeg r_2) (M_its (Int32.toNatClampNeg (M_order (Int32.toNatClampNeg p0))))), rI aMmany cI 240 M_many, rI aMtimes cI 15360 M_times, rI aMvalues cI 15360 M_values, rI aMorder cI 96 M_order, rI aMnext cI 240 M_next, rI aMisNew cZ 240 M_isNew] := ⟨hP, hD, hS⟩
  clear hP hD hS hw3 H3 locs3
  refine lv_aload_n hx hb dX10_joined_22 rfl (lv_at hl4 1 rfl) ?_
  refine va_get (D := G) (ci := 10) (v := .ref aMmany) (C := RX10) (T := TX10) (N := 40) hx hb htc iX10 hown hK hw8.1 0 rfl rfl 12 (by decide) (htc _ mw_959) (fun _ h9 => h9) rfl dX10_joined_23 ?_
  refine lv_iload_n hx hb dX10_joined_26 rfl (lv_at hl4 0 rfl) ?_
  refine lv_iconst (v := (0 : Int32)) hx hb dX10_joined_27 (by decide) ?_
  replace hfin := ckb_some hfin
  obtain ⟨hin_9, hfin⟩ := hfin
  refine va_iast hx hb hK hw8.1 hw8.2.1 hw8.2.2 2 0 rfl rfl hin_9 dX10_joined_28 (fun H10 locs10 hP hD hS => ?_)
  have hw10 : wS G A s H10 locs10 [oX10 aM M_thrown M_series M_most M_ratio aMdisk M_writes M_fuse M_down M_recovers M_looks M_unpacked aMits aMmany aMplace aMlength aMtimes aMvalues aMorder M_chunks M_epoch M_side aMheadOf aMheadTime aMheadValue M_logged aMnext aMisNew M_nexts aMcursorTime aMcursorValue M_hasCursor M_cursorMany M_cursorAt aMmade M_bits M_from M_askMany M_askLeast M_askGreatest M_askSum, rI aMits cI 240 (upd M_its (Int32.toNatClampNeg r_2) (M_its (Int32.toNatClampNeg (M_order (Int32.toNatClampNeg p0))))), rI aMmany cI 240 (upd M_many (Int32.toNatClampNeg r_2) (0 : Int32)), rI aMtimes cI 15360 M_times, rI aMvalues cI 15360 M_values, rI aMorder cI 96 M_order, rI aMnext cI 240 M_next, rI aMisNew cZ 240 M_isNew] := ⟨hP, hD, hS⟩
  clear hP hD hS hw8 H8 locs8
  refine lv_aload_n hx hb dX10_joined_29 rfl (lv_at hl4 1 rfl) ?_
  refine lv_iload_n hx hb dX10_joined_30 rfl (lv_at hl4 0 rfl) ?_
  refine lv_iconst (v := (1 : Int32)) hx hb dX10_joined_31 (by decide) ?_
  replace hfin := ob3_some hfin
  obtain ⟨M_nexts_12, M_next_13, M_isNew_14, hE_11, hfin⟩ := hfin
  refine ctV (a := aM) (As := [.int r_2, .int (1 : Int32)]) (rest := []) (st1 := []) (wc := [oX10 aM M_thrown M_series M_most M_ratio aMdisk M_writes M_fuse M_down M_recovers M_looks M_unpacked aMits aMmany aMplace aMlength aMtimes aMvalues aMorder M_chunks M_epoch M_side aMheadOf aMheadTime aMheadValue M_logged aMnext aMisNew M_nexts aMcursorTime aMcursorValue M_hasCursor M_cursorMany M_cursorAt aMmade M_bits M_from M_askMany M_askLeast M_askGreatest M_askSum, rI aMnext cI 240 M_next, rI aMisNew cZ 240 M_isNew]) (w1 := [oX10 aM M_thrown M_series M_most M_ratio aMdisk M_writes M_fuse M_down M_recovers M_looks M_unpacked aMits aMmany aMplace aMlength aMtimes aMvalues aMorder M_chunks M_epoch M_side aMheadOf aMheadTime aMheadValue M_logged aMnext aMisNew M_nexts_12 aMcursorTime aMcursorValue M_hasCursor M_cursorMany M_cursorAt aMmade M_bits M_from M_askMany M_askLeast M_askGreatest M_askSum, rI aMnext cI 240 M_next_13, rI aMisNew cZ 240 M_isNew_14]) (wr := [rI aMits cI 240 (upd M_its (Int32.toNatClampNeg r_2) (M_its (Int32.toNatClampNeg (M_order (Int32.toNatClampNeg p0))))), rI aMmany cI 240 (upd M_many (Int32.toNatClampNeg r_2) (0 : Int32)), rI aMtimes cI 15360 M_times, rI aMvalues cI 15360 M_values, rI aMorder cI 96 M_order]) (wb := [oX10 aM M_thrown M_series M_most M_ratio aMdisk M_writes M_fuse M_down M_recovers M_looks M_unpacked aMits aMmany aMplace aMlength aMtimes aMvalues aMorder M_chunks M_epoch M_side aMheadOf aMheadTime aMheadValue M_logged aMnext aMisNew M_nexts_12 aMcursorTime aMcursorValue M_hasCursor M_cursorMany M_cursorAt aMmade M_bits M_from M_askMany M_askLeast M_askGreatest M_askSum, rI aMits cI 240 (upd M_its (Int32.toNatClampNeg r_2) (M_its (Int32.toNatClampNeg (M_order (Int32.toNatClampNeg p0))))), rI aMmany cI 240 (upd M_many (Int32.toNatClampNeg r_2) (0 : Int32)), rI aMtimes cI 15360 M_times, rI aMvalues cI 15360 M_values, rI aMorder cI 96 M_order, rI aMnext cI 240 M_next_13, rI aMisNew cZ 240 M_isNew_14]) (v := none) hx hb hml hown htc hN (c_X10_comes l G cI cZ cJ aM aMdisk aMits aMmany aMplace aMlength aMtimes aMvalues aMorder aMheadOf aMheadTime aMheadValue aMnext aMisNew aMcursorTime aMcursorValue aMmade M_thrown M_series M_most M_ratio M_writes M_fuse M_down M_recovers M_looks M_unpacked M_chunks M_epoch M_side M_logged M_nexts M_hasCursor M_cursorMany M_cursorAt M_bits M_from M_askMany M_askLeast M_askGreatest M_askSum M_next M_isNew r_2 (1 : Int32) hE_11) mw_1100 mw_1102 mp_39 mw_12 mw_1103 hd_X10_comes ⟨rfl, rfl⟩ ⟨Nat.le_of_ble_eq_true rfl, Nat.le_of_ble_eq_true rfl⟩ hK hw10 hA [0, 6, 7] [1, 2, 3, 4, 5] [5, 0, 1, 2, 3, 4, 6, 7] rfl rfl rfl rfl rfl (by decide) rfl rfl rfl 0 rfl rfl rfl rfl hl4.1 rfl rfl (Nat.le_of_ble_eq_true rfl) dX10_joined_32 ⟨Nat.zero_le _, Nat.zero_le _⟩ (fun H15 locs15 hw15 => ?_)
  clear hw10 H10 locs10
  refine lv_iload_n hx hb dX10_joined_35 rfl (lv_at hl4 2 rfl) ?_
  refine lv_istore (lv' := [(4, .int p0), (3, .int r_2), (0, .ref aM), (1, .int p0), (2, .int p1)]) hx hb dX10_joined_36 hl4 (by decide) rfl (fun ls16 hl16 => ?_)
  clear hl4 ls4
  replace hfin := ob3_some hfin
  obtain ⟨M_many_25, M_times_26, M_values_27, hL_21, hfin⟩ := hfin
  have kx_22 : ∀ (H : Heap) (locs : List Loc) (ls : Array Slot), wS G A s H locs [oX10 aM M_thrown M_series M_most M_ratio aMdisk M_writes M_fuse M_down M_recovers M_looks M_unpacked aMits aMmany aMplace aMlength aMtimes aMvalues aMorder M_chunks M_epoch M_side aMheadOf aMheadTime aMheadValue M_logged aMnext aMisNew M_nexts_12 aMcursorTime aMcursorValue M_hasCursor M_cursorMany M_cursorAt aMmade M_bits M_from M_askMany M_askLeast M_askGreatest M_askSum, rI aMits cI 240 (upd M_its (Int32.toNatClampNeg r_2) (M_its (Int32.toNatClampNeg (M_order (Int32.toNatClampNeg p0))))), rI aMmany cI 240 M_many_25, rI aMtimes cI 15360 M_times_26, rI aMvalues cI 15360 M_values_27, rI aMorder cI 96 M_order, rI aMnext cI 240 M_next_13, rI aMisNew cZ 240 M_isNew_14] → lv_has ls 6 [] → W p l e rm_X10_joined s m args below meth c H locs 0 0 QQ (F0 m 119 ls []) := by
    clear hw15 H15 locs15 hl16 ls16 hL_21
    intro H58 locs58 ls58 hw58 hl58
    cases hfin
    rw [hQQ]
    exact ct_vret hx hb hr hlocks hw58.1 hw58.2.1 hw58.2.2 dX10_joined_119
  have lp_23 : ∀ (n : Nat) (v4_17 : Int32) (M_many_18 : Nat → Int32) (M_times_19 : Nat → Int32) (M_values_20 : Nat → Int32), lp_X10_joined_38 M_order p0 p1 r_2 n v4_17 M_many_18 M_times_19 M_values_20 = some (M_many_25, M_times_26, M_values_27) → ∀ (H : Heap) (locs : List Loc) (ls : Array Slot), wS G A s H locs [oX10 aM M_thrown M_series M_most M_ratio aMdisk M_writes M_fuse M_down M_recovers M_looks M_unpacked aMits aMmany aMplace aMlength aMtimes aMvalues aMorder M_chunks M_epoch M_side aMheadOf aMheadTime aMheadValue M_logged aMnext aMisNew M_nexts_12 aMcursorTime aMcursorValue M_hasCursor M_cursorMany M_cursorAt aMmade M_bits M_from M_askMany M_askLeast M_askGreatest M_askSum, rI aMits cI 240 (upd M_its (Int32.toNatClampNeg r_2) (M_its (Int32.toNatClampNeg (M_order (Int32.toNatClampNeg p0))))), rI aMmany cI 240 M_many_18, rI aMtimes cI 15360 M_times_19, rI aMvalues cI 15360 M_values_20, rI aMorder cI 96 M_order, rI aMnext cI 240 M_next_13, rI aMisNew cZ 240 M_isNew_14] → lv_has ls 6 [(0, .ref aM), (1, .int p0), (2, .int p1), (3, .int r_2), (4, .int v4_17)] → W p l e rm_X10_joined s m args below meth c H locs 0 0 QQ (F0 m 38 ls []) := by
    clear hw15 H15 locs15 hl16 ls16 hfin
    intro n
    induction n with
    | zero =>
      intro v4_17 M_many_18 M_times_19 M_values_20 hB_24
      exact absurd hB_24 (by rw [lp_X10_joined_38]; exact fun h9 => nomatch h9)
    | succ n ih =>
      intro v4_17 M_many_18 M_times_19 M_values_20 hB_24 H28 locs28 ls28 hw28 hl28
      rw [lp_X10_joined_38] at hB_24
      refine lv_iload hx hb dX10_joined_38 (lv_at hl28 4 rfl) ?_
      refine lv_iload_n hx hb dX10_joined_40 rfl (lv_at hl28 1 rfl) ?_
      refine lv_iload_n hx hb dX10_joined_41 rfl (lv_at hl28 2 rfl) ?_
      refine lv_iadd hx hb dX10_joined_42 ?_
      refine lv_icmp_ge (tgt := 119) hx hb dX10_joined_43 (by decide) (fun c_29 => ?_) (fun c_29 => ?_)
      · replace hB_24 := it_t c_29 hB_24
        cases hB_24
        exact kx_22 _ _ _ hw28 (lv_sub hl28 [] rfl)
      · replace hB_24 := it_f c_29 hB_24
        refine lv_iconst (v := (0 : Int32)) hx hb dX10_joined_46 (by decide) ?_
        refine lv_istore (lv' := [(5, .int (0 : Int32)), (0, .ref aM), (1, .int p0), (2, .int p1), (3, .int r_2), (4, .int v4_17)]) hx hb dX10_joined_47 hl28 (by decide) rfl (fun ls30 hl30 => ?_)
        clear hl28 ls28
        replace hB_24 := ob3_some hB_24
        obtain ⟨M_many_39, M_times_40, M_values_41, hL_35, hB_24⟩ := hB_24
        have kx_36 : ∀ (H : Heap) (locs : List Loc) (ls : Array Slot), wS G A s H locs [oX10 aM M_thrown M_series M_most M_ratio aMdisk M_writes M_fuse M_down M_recovers M_looks M_unpacked aMits aMmany aMplace aMlength aMtimes aMvalues aMorder M_chunks M_epoch M_side aMheadOf aMheadTime aMheadValue M_logged aMnext aMisNew M_nexts_12 aMcursorTime aMcursorValue M_hasCursor M_cursorMany M_cursorAt aMmade M_bits M_from M_askMany M_askLeast M_askGreatest M_askSum, rI aMits cI 240 (upd M_its (Int32.toNatClampNeg r_2) (M_its (Int32.toNatClampNeg (M_order (Int32.toNatClampNeg p0))))), rI aMmany cI 240 M_many_39, rI aMtimes cI 15360 M_times_40, rI aMvalues cI 15360 M_values_41, rI aMorder cI 96 M_order, rI aMnext cI 240 M_next_13, rI aMisNew cZ 240 M_isNew_14] → lv_has ls 6 [(0, .ref aM), (1, .int p0), (2, .int p1), (3, .int r_2), (4, .int v4_17)] → W p l e rm_X10_joined s m args below meth c H locs 0 0 QQ (F0 m 113 ls []) := by
          clear hw28 H28 locs28 hl30 ls30 hL_35
          intro H56 locs56 ls56 hw56 hl56
          refine lv_iinc (v := (v4_17 + (1 : Int32))) (lv' := [(4, .int (v4_17 + (1 : Int32))), (0, .ref aM), (1, .int p0), (2, .int p1), (3, .int r_2)]) hx hb dX10_joined_113 hl56 (k := 4) rfl rfl (by decide) rfl (fun ls57 hl57 => ?_)
          clear hl56 ls56
          refine lv_goto (tgt := 38) hx hb dX10_joined_116 (by decide) ?_
          exact ih (v4_17 + (1 : Int32)) M_many_39 M_times_40 M_values_41 hB_24 _ _ _ hw56 (lv_sub hl57 [1, 2, 3, 4, 0] rfl)
        have lp_37 : ∀ (n : Nat) (v5_31 : Int32) (M_many_32 : Nat → Int32) (M_times_33 : Nat → Int32) (M_values_34 : Nat → Int32), lp_X10_joined_49 M_order r_2 v4_17 n v5_31 M_many_32 M_times_33 M_values_34 = some (M_many_39, M_times_40, M_values_41) → ∀ (H : Heap) (locs : List Loc) (ls : Array Slot), wS G A s H locs [oX10 aM M_thrown M_series M_most M_ratio aMdisk M_writes M_fuse M_down M_recovers M_looks M_unpacked aMits aMmany aMplace aMlength aMtimes aMvalues aMorder M_chunks M_epoch M_side aMheadOf aMheadTime aMheadValue M_logged aMnext aMisNew M_nexts_12 aMcursorTime aMcursorValue M_hasCursor M_cursorMany M_cursorAt aMmade M_bits M_from M_askMany M_askLeast M_askGreatest M_askSum, rI aMits cI 240 (upd M_its (Int32.toNatClampNeg r_2) (M_its (Int32.toNatClampNeg (M_order (Int32.toNatClampNeg p0))))), rI aMmany cI 240 M_many_32, rI aMtimes cI 15360 M_times_33, rI aMvalues cI 15360 M_values_34, rI aMorder cI 96 M_order, rI aMnext cI 240 M_next_13, rI aMisNew cZ 240 M_isNew_14] → lv_has ls 6 [(0, .ref aM), (1, .int p0), (2, .int p1), (3, .int r_2), (4, .int v4_17), (5, .int v5_31)] → W p l e rm_X10_joined s m args below meth c H locs 0 0 QQ (F0 m 49 ls []) := by
          clear hw28 H28 locs28 hl30 ls30 hB_24
          intro n
          induction n with
          | zero =>
            intro v5_31 M_many_32 M_times_33 M_values_34 hB_38
            exact absurd hB_38 (by rw [lp_X10_joined_49]; exact fun h9 => nomatch h9)
          | succ n ih =>
            intro v5_31 M_many_32 M_times_33 M_values_34 hB_38 H42 locs42 ls42 hw42 hl42
            rw [lp_X10_joined_49] at hB_38
            refine lv_iload hx hb dX10_joined_49 (lv_at hl42 5 rfl) ?_
            refine lv_aload_n hx hb dX10_joined_51 rfl (lv_at hl42 0 rfl) ?_
            refine va_get (D := G) (ci := 10) (v := .ref aMmany) (C := RX10) (T := TX10) (N := 40) hx hb htc iX10 hown hK hw42.1 0 rfl rfl 12 (by decide) (htc _ mw_959) (fun _ h9 => h9) rfl dX10_joined_52 ?_
            refine lv_aload_n hx hb dX10_joined_55 rfl (lv_at hl42 0 rfl) ?_
            refine va_get (D := G) (ci := 10) (v := .ref aMorder) (C := RX10) (T := TX10) (N := 40) hx hb htc iX10 hown hK hw42.1 0 rfl rfl 17 (by decide) (htc _ mw_964) (fun _ h9 => h9) rfl dX10_joined_56 ?_
            refine lv_iload hx hb dX10_joined_59 (lv_at hl42 4 rfl) ?_
            replace hB_38 := ckb_some hB_38
            obtain ⟨hin_43, hB_38⟩ := hB_38
            refine va_iald hx hb hK hw42.1 5 0 rfl rfl hin_43 dX10_joined_61 ?_
            replace hB_38 := ckb_some hB_38
            obtain ⟨hin_44, hB_38⟩ := hB_38
            refine va_iald hx hb hK hw42.1 2 0 rfl rfl hin_44 dX10_joined_62 ?_
            refine lv_icmp_ge (tgt := 113) hx hb dX10_joined_63 (by decide) (fun c_45 => ?_) (fun c_45 => ?_)
            · replace hB_38 := it_t c_45 hB_38
              cases hB_38
              exact kx_36 _ _ _ hw42 (lv_sub hl42 [0, 1, 2, 3, 4] rfl)
            · replace hB_38 := it_f c_45 hB_38
              refine lv_aload_n hx hb dX10_joined_66 rfl (lv_at hl42 0 rfl) ?_
              refine lv_iload_n hx hb dX10_joined_67 rfl (lv_at hl42 3 rfl) ?_
              refine lv_aload_n hx hb dX10_joined_68 rfl (lv_at hl42 0 rfl) ?_
              refine va_get (D := G) (ci := 10) (v := .ref aMtimes) (C := RX10) (T := TX10) (N := 40) hx hb htc iX10 hown hK hw42.1 0 rfl rfl 15 (by decide) (htc _ mw_962) (fun _ h9 => h9) rfl dX10_joined_69 ?_
              refine lv_bipush (v := (64 : Int32)) hx hb dX10_joined_72 (by decide) ?_
              refine lv_aload_n hx hb dX10_joined_74 rfl (lv_at hl42 0 rfl) ?_
              refine va_get (D := G) (ci := 10) (v := .ref aMorder) (C := RX10) (T := TX10) (N := 40) hx hb htc iX10 hown hK hw42.1 0 rfl rfl 17 (by decide) (htc _ mw_964) (fun _ h9 => h9) rfl dX10_joined_75 ?_
              refine lv_iload hx hb dX10_joined_78 (lv_at hl42 4 rfl) ?_
              replace hB_38 := ckb_some hB_38
              obtain ⟨hin_46, hB_38⟩ := hB_38
              refine va_iald hx hb hK hw42.1 5 0 rfl rfl hin_46 dX10_joined_80 ?_
              refine lv_imul hx hb dX10_joined_81 ?_
              refine lv_iload hx hb dX10_joined_82 (lv_at hl42 5 rfl) ?_
              refine lv_iadd hx hb dX10_joined_84 ?_
              replace hB_38 := ckb_some hB_38
              obtain ⟨hin_47, hB_38⟩ := hB_38
              refine va_iald hx hb hK hw42.1 3 0 rfl rfl hin_47 dX10_joined_85 ?_
              refine lv_aload_n hx hb dX10_joined_86 rfl (lv_at hl42 0 rfl) ?_
              refine va_get (D := G) (ci := 10) (v := .ref aMvalues) (C := RX10) (T := TX10) (N := 40) hx hb htc iX10 hown hK hw42.1 0 rfl rfl 16 (by decide) (htc _ mw_963) (fun _ h9 => h9) rfl dX10_joined_87 ?_
              refine lv_bipush (v := (64 : Int32)) hx hb dX10_joined_90 (by decide) ?_
              refine lv_aload_n hx hb dX10_joined_92 rfl (lv_at hl42 0 rfl) ?_
              refine va_get (D := G) (ci := 10) (v := .ref aMorder) (C := RX10) (T := TX10) (N := 40) hx hb htc iX10 hown hK hw42.1 0 rfl rfl 17 (by decide) (htc _ mw_964) (fun _ h9 => h9) rfl dX10_joined_93 ?_
              refine lv_iload hx hb dX10_joined_96 (lv_at hl42 4 rfl) ?_
              replace hB_38 := ckb_some hB_38
              obtain ⟨hin_48, hB_38⟩ := hB_38
              refine va_iald hx hb hK hw42.1 5 0 rfl rfl hin_48 dX10_joined_98 ?_
              refine lv_imul hx hb dX10_joined_99 ?_
              refine lv_iload hx hb dX10_joined_100 (lv_at hl42 5 rfl) ?_
              refine lv_iadd hx hb dX10_joined_102 ?_
              replace hB_38 := ckb_some hB_38
              obtain ⟨hin_49, hB_38⟩ := hB_38
              refine va_iald hx hb hK hw42.1 4 0 rfl rfl hin_49 dX10_joined_103 ?_
              replace hB_38 := ob3_some hB_38
              obtain ⟨M_many_51, M_times_52, M_values_53, hE_50, hB_38⟩ := hB_38
              refine ctV (a := aM) (As := [.int r_2, .int (M_times_33 (Int32.toNatClampNeg (((64 : Int32) * (M_order (Int32.toNatClampNeg v4_17))) + v5_31))), .int (M_values_34 (Int32.toNatClampNeg (((64 : Int32) * (M_order (Int32.toNatClampNeg v4_17))) + v5_31)))]) (rest := []) (st1 := []) (wc := [oX10 aM M_thrown M_series M_most M_ratio aMdisk M_writes M_fuse M_down M_recovers M_looks M_unpacked aMits aMmany aMplace aMlength aMtimes aMvalues aMorder M_chunks M_epoch M_side aMheadOf aMheadTime aMheadValue M_logged aMnext aMisNew M_nexts_12 aMcursorTime aMcursorValue M_hasCursor M_cursorMany M_cursorAt aMmade M_bits M_from M_askMany M_askLeast M_askGreatest M_askSum, rI aMmany cI 240 M_many_32, rI aMtimes cI 15360 M_times_33, rI aMvalues cI 15360 M_values_34]) (w1 := [oX10 aM M_thrown M_series M_most M_ratio aMdisk M_writes M_fuse M_down M_recovers M_looks M_unpacked aMits aMmany aMplace aMlength aMtimes aMvalues aMorder M_chunks M_epoch M_side aMheadOf aMheadTime aMheadValue M_logged aMnext aMisNew M_nexts_12 aMcursorTime aMcursorValue M_hasCursor M_cursorMany M_cursorAt aMmade M_bits M_from M_askMany M_askLeast M_askGreatest M_askSum, rI aMmany cI 240 M_many_51, rI aMtimes cI 15360 M_times_52, rI aMvalues cI 15360 M_values_53]) (wr := [rI aMits cI 240 (upd M_its (Int32.toNatClampNeg r_2) (M_its (Int32.toNatClampNeg (M_order (Int32.toNatClampNeg p0))))), rI aMorder cI 96 M_order, rI aMnext cI 240 M_next_13, rI aMisNew cZ 240 M_isNew_14]) (wb := [oX10 aM M_thrown M_series M_most M_ratio aMdisk M_writes M_fuse M_down M_recovers M_looks M_unpacked aMits aMmany aMplace aMlength aMtimes aMvalues aMorder M_chunks M_epoch M_side aMheadOf aMheadTime aMheadValue M_logged aMnext aMisNew M_nexts_12 aMcursorTime aMcursorValue M_hasCursor M_cursorMany M_cursorAt aMmade M_bits M_from M_askMany M_askLeast M_askGreatest M_askSum, rI aMits cI 240 (upd M_its (Int32.toNatClampNeg r_2) (M_its (Int32.toNatClampNeg (M_order (Int32.toNatClampNeg p0))))), rI aMmany cI 240 M_many_51, rI aMtimes cI 15360 M_times_52, rI aMvalues cI 15360 M_values_53, rI aMorder cI 96 M_order, rI aMnext cI 240 M_next_13, rI aMisNew cZ 240 M_isNew_14]) (v := none) hx hb hml hown htc hN (c_X10_add l G cI cZ cJ aM aMdisk aMits aMmany aMplace aMlength aMtimes aMvalues aMorder aMheadOf aMheadTime aMheadValue aMnext aMisNew aMcursorTime aMcursorValue aMmade M_thrown M_series M_most M_ratio M_writes M_fuse M_down M_recovers M_looks M_unpacked M_chunks M_epoch M_side M_logged M_nexts_12 M_hasCursor M_cursorMany M_cursorAt M_bits M_from M_askMany M_askLeast M_askGreatest M_askSum M_many_32 M_times_33 M_values_34 r_2 (M_times_33 (Int32.toNatClampNeg (((64 : Int32) * (M_order (Int32.toNatClampNeg v4_17))) + v5_31))) (M_values_34 (Int32.toNatClampNeg (((64 : Int32) * (M_order (Int32.toNatClampNeg v4_17))) + v5_31))) hE_50) mw_1116 mw_1118 mp_43 mw_12 mw_1119 hd_X10_add ⟨rfl, rfl⟩ ⟨Nat.le_of_ble_eq_true rfl, Nat.le_of_ble_eq_true rfl⟩ hK hw42 hA [0, 2, 3, 4] [1, 5, 6, 7] [4, 0, 5, 6, 7, 1, 2, 3] rfl rfl rfl rfl rfl (by decide) rfl rfl rfl 0 rfl rfl rfl rfl hl42.1 rfl rfl (Nat.le_of_ble_eq_true rfl) dX10_joined_104 ⟨Nat.zero_le _, Nat.zero_le _⟩ (fun H54 locs54 hw54 => ?_)
              clear hw42 H42 locs42
              refine lv_iinc (v := (v5_31 + (1 : Int32))) (lv' := [(5, .int (v5_31 + (1 : Int32))), (0, .ref aM), (1, .int p0), (2, .int p1), (3, .int r_2), (4, .int v4_17)]) hx hb dX10_joined_107 hl42 (k := 5) rfl rfl (by decide) rfl (fun ls55 hl55 => ?_)
              clear hl42 ls42
              refine lv_goto (tgt := 49) hx hb dX10_joined_110 (by decide) ?_
              exact ih (v5_31 + (1 : Int32)) M_many_51 M_times_52 M_values_53 hB_38 _ _ _ hw54 (lv_sub hl55 [1, 2, 3, 4, 5, 0] rfl)
        exact lp_37 NN (0 : Int32) M_many_18 M_times_19 M_values_20 hL_35 _ _ _ hw28 (lv_sub hl30 [1, 2, 3, 4, 5, 0] rfl)
  exact lp_23 NN p0 (upd M_many (Int32.toNatClampNeg r_2) (0 : Int32)) M_times M_values hL_21 _ _ _ hw15 (lv_sub hl16 [2, 3, 4, 1, 0] rfl)
abbrev rm_X10_compact : Room := { frames := 5, cells := 0, slots := 0, locals := 122 }
theorem hd_X10_compact : yX10_compact.cls = RX10 ∧ yX10_compact.cls ≠ "java/lang/invoke/MethodHandle" ∧ yX10_compact.cls ≠ "java/lang/invoke/VarHandle" ∧ (parseMethodDescriptor yX10_compact.desc).map (fun d => d.parameters.length) = some 1 := by decide +kernel
set_option maxHeartbeats 4000000 in
set_option maxRecDepth 100000 in
theorem c_X10_compact (l : Launch) (G : va_G) (cI cZ cJ : ClassId) (aM aMdisk aMits aMmany aMplace aMlength aMtimes aMvalues aMorder aMheadOf aMheadTime aMheadValue aMnext aMisNew aMcursorTime aMcursorValue aMmade : Nat) (M_thrown : Int32) (M_series : Int32) (M_most : Int32) (M_ratio : Int32) (M_writes : Int32) (M_fuse : Int32) (M_down : Int32) (M_recovers : Int32) (M_looks : Int32) (M_unpacked : Int32) (M_chunks : Int32) (M_epoch : Int32) (M_side : Int32) (M_logged : Int32) (M_nexts : Int32) (M_hasCursor : Int32) (M_cursorMany : Int32) (M_cursorAt : Int32) (M_bits : Int32) (M_from : Int32) (M_askMany : Int32) (M_askLeast : Int32) (M_askGreatest : Int32) (M_askSum : Int64) (M_disk : Nat → Int32) (M_its : Nat → Int32) (M_many : Nat → Int32) (M_place : Nat → Int32) (M_length : Nat → Int32) (M_times : Nat → Int32) (M_values : Nat → Int32) (M_order : Nat → Int32) (M_next : Nat → Int32) (M_isNew : Nat → Int32) (M_made : Nat → Int32) (p0 : Int32) {r : Int32} {o_M_thrown : Int32} {o_M_writes : Int32} {o_M_fuse : Int32} {o_M_down : Int32} {o_M_chunks : Int32} {o_M_epoch : Int32} {o_M_side : Int32} {o_M_nexts : Int32} {o_M_hasCursor : Int32} {o_M_cursorMany : Int32} {o_M_cursorAt : Int32} {o_M_bits : Int32} {o_M_disk : Nat → Int32} {o_M_its : Nat → Int32} {o_M_many : Nat → Int32} {o_M_place : Nat → Int32} {o_M_length : Nat → Int32} {o_M_times : Nat → Int32} {o_M_values : Nat → Int32} {o_M_order : Nat → Int32} {o_M_next : Nat → Int32} {o_M_isNew : Nat → Int32} {o_M_made : Nat → Int32} (hfin : m_X10_compact M_thrown M_series M_most M_writes M_fuse M_down M_chunks M_epoch M_side M_nexts M_hasCursor M_cursorMany M_cursorAt M_bits M_disk M_its M_many M_place M_length M_times M_values M_order M_next M_isNew M_made p0 = some (r, o_M_thrown, o_M_writes, o_M_fuse, o_M_down, o_M_chunks, o_M_epoch, o_M_side, o_M_nexts, o_M_hasCursor, o_M_cursorMany, o_M_cursorAt, o_M_bits, o_M_disk, o_M_its, o_M_many, o_M_place, o_M_length, o_M_times, o_M_values, o_M_order, o_M_next, o_M_isNew, o_M_made)) : CT l yX10_compact cX10_compact 5 (some .int) rm_X10_compact G (tyC cI cZ cJ) [.ref aM, .int p0] [oX10 aM M_thrown M_series M_most M_ratio aMdisk M_writes M_fuse M_down M_recovers M_looks M_unpacked aMits aMmany aMplace aMlength aMtimes aMvalues aMorder M_chunks M_epoch M_side aMheadOf aMheadTime aMheadValue M_logged aMnext aMisNew M_nexts aMcursorTime aMcursorValue M_hasCursor M_cursorMany M_cursorAt aMmade M_bits M_from M_askMany M_askLeast M_askGreatest M_askSum, rI aMdisk cI 4096 M_disk, rI aMits cI 240 M_its, rI aMmany cI 240 M_many, rI aMplace cI 240 M_place, rI aMlength cI 240 M_length, rI aMtimes cI 15360 M_times, rI aMvalues cI 15360 M_values, rI aMorder cI 96 M_order, rI aMnext cI 240 M_next, rI aMisNew cZ 240 M_isNew, rI aMmade cI 200 M_made] (some (.int r)) [oX10 aM o_M_thrown M_series M_most M_ratio aMdisk o_M_writes o_M_fuse o_M_down M_recovers M_looks M_unpacked aMits aMmany aMplace aMlength aMtimes aMvalues aMorder o_M_chunks o_M_epoch o_M_side aMheadOf aMheadTime aMheadValue M_logged aMnext aMisNew o_M_nexts aMcursorTime aMcursorValue o_M_hasCursor o_M_cursorMany o_M_cursorAt aMmade o_M_bits M_from M_askMany M_askLeast M_askGreatest M_askSum, rI aMdisk cI 4096 o_M_disk, rI aMits cI 240 o_M_its, rI aMmany cI 240 o_M_many, rI aMplace cI 240 o_M_place, rI aMlength cI 240 o_M_length, rI aMtimes cI 15360 o_M_times, rI aMvalues cI 15360 o_M_values, rI aMorder cI 96 o_M_order, rI aMnext cI 240 o_M_next, rI aMisNew cZ 240 o_M_isNew, rI aMmade cI 200 o_M_made] := by
  refine CT.ofW (lvl := [(0, .ref aM), (1, .int p0)]) (by decide) (Nat.le_of_ble_eq_true rfl) rfl ?_
  intro p e s m args below meth c A ls0 QQ hQQ hx hb hml hr hlocks htc hN hown hK hA hw0 hl0
  rw [m_X10_compact] at hfin
  refine lv_aload_n hx hb dX10_compact_0 rfl (lv_at hl0 0 rfl) ?_
  refine lv_iconst (v := (0 : Int32)) hx hb dX10_compact_1 (by decide) ?_
  refine va_put (D := G) (ci := 10) (v := .int (0 : Int32)) (ty := .int) (C := RX10) (T := TX10) (N := 40) hx hb htc iX10 tyX10 tyX10_ok nmX10 hown hK hw0.1 hw0.2.1 hw0.2.2 0 rfl rfl 0 (by decide) (htc _ mw_947) (fun _ h9 => h9) rfl (tyX10_ok 0 (by decide)) rfl rfl (Nat.le_of_ble_eq_true rfl) dX10_compact_2 (fun H1 locs1 hP hD hS => ?_)
  have hw1 : wS G A s H1 locs1 [oX10 aM (0 : Int32) M_series M_most M_ratio aMdisk M_writes M_fuse M_down M_recovers M_looks M_unpacked aMits aMmany aMplace aMlength aMtimes aMvalues aMorder M_chunks M_epoch M_side aMheadOf aMheadTime aMheadValue M_logged aMnext aMisNew M_nexts aMcursorTime aMcursorValue M_hasCursor M_cursorMany M_cursorAt aMmade M_bits M_from M_askMany M_askLeast M_askGreatest M_askSum, rI aMdisk cI 4096 M_disk, rI aMits cI 240 M_its, rI aMmany cI 240 M_many, rI aMplace cI 240 M_place, rI aMlength cI 240 M_length, rI aMtimes cI 15360 M_times, rI aMvalues cI 15360 M_values, rI aMorder cI 96 M_order, rI aMnext cI 240 M_next, rI aMisNew cZ 240 M_isNew, rI aMmade cI 200 M_made] := ⟨hP, hD, hS⟩
  clear hP hD hS hw0
  refine lv_aload_n hx hb dX10_compact_5 rfl (lv_at hl0 0 rfl) ?_
  replace hfin := ob3_some hfin
  obtain ⟨M_hasCursor_3, M_cursorMany_4, M_cursorAt_5, hE_2, hfin⟩ := hfin
  refine ctV (a := aM) (As := []) (rest := []) (st1 := []) (wc := [oX10 aM (0 : Int32) M_series M_most M_ratio aMdisk M_writes M_fuse M_down M_recovers M_looks M_unpacked aMits aMmany aMplace aMlength aMtimes aMvalues aMorder M_chunks M_epoch M_side aMheadOf aMheadTime aMheadValue M_logged aMnext aMisNew M_nexts aMcursorTime aMcursorValue M_hasCursor M_cursorMany M_cursorAt aMmade M_bits M_from M_askMany M_askLeast M_askGreatest M_askSum]) (w1 := [oX10 aM (0 : Int32) M_series M_most M_ratio aMdisk M_writes M_fuse M_down M_recovers M_looks M_unpacked aMits aMmany aMplace aMlength aMtimes aMvalues aMorder M_chunks M_epoch M_side aMheadOf aMheadTime aMheadValue M_logged aMnext aMisNew M_nexts aMcursorTime aMcursorValue M_hasCursor_3 M_cursorMany_4 M_cursorAt_5 aMmade M_bits M_from M_askMany M_askLeast M_askGreatest M_askSum]) (wr := [rI aMdisk cI 4096 M_disk, rI aMits cI 240 M_its, rI aMmany cI 240 M_many, rI aMplace cI 240 M_place, rI aMlength cI 240 M_length, rI aMtimes cI 15360 M_times, rI aMvalues cI 15360 M_values, rI aMorder cI 96 M_order, rI aMnext cI 240 M_next, rI aMisNew cZ 240 M_isNew, rI aMmade cI 200 M_made]) (wb := [oX10 aM (0 : Int32) M_series M_most M_ratio aMdisk M_writes M_fuse M_down M_recovers M_looks M_unpacked aMits aMmany aMplace aMlength aMtimes aMvalues aMorder M_chunks M_epoch M_side aMheadOf aMheadTime aMheadValue M_logged aMnext aMisNew M_nexts aMcursorTime aMcursorValue M_hasCursor_3 M_cursorMany_4 M_cursorAt_5 aMmade M_bits M_from M_askMany M_askLeast M_askGreatest M_askSum, rI aMdisk cI 4096 M_disk, rI aMits cI 240 M_its, rI aMmany cI 240 M_many, rI aMplace cI 240 M_place, rI aMlength cI 240 M_length, rI aMtimes cI 15360 M_times, rI aMvalues cI 15360 M_values, rI aMorder cI 96 M_order, rI aMnext cI 240 M_next, rI aMisNew cZ 240 M_isNew, rI aMmade cI 200 M_made]) (v := none) hx hb hml hown htc hN (c_X10_dropCursor l G cI cZ cJ aM aMdisk aMits aMmany aMplace aMlength aMtimes aMvalues aMorder aMheadOf aMheadTime aMheadValue aMnext aMisNew aMcursorTime aMcursorValue aMmade (0 : Int32) M_series M_most M_ratio M_writes M_fuse M_down M_recovers M_looks M_unpacked M_chunks M_epoch M_side M_logged M_nexts M_hasCursor M_cursorMany M_cursorAt M_bits M_from M_askMany M_askLeast M_askGreatest M_askSum  hE_2) mw_1076 mw_1078 mp_34 mw_12 mw_1079 hd_X10_dropCursor ⟨rfl, rfl⟩ ⟨Nat.le_of_ble_eq_true rfl, Nat.le_of_ble_eq_true rfl⟩ hK hw1 hA [0] [1, 2, 3, 4, 5, 6, 7, 8, 9, 10, 11] [11, 0, 1, 2, 3, 4, 5, 6, 7, 8, 9, 10] rfl rfl rfl rfl rfl (by decide) rfl rfl rfl 0 rfl rfl rfl rfl hl0.1 rfl rfl (Nat.le_of_ble_eq_true rfl) dX10_compact_6 ⟨Nat.zero_le _, Nat.zero_le _⟩ (fun H6 locs6 hw6 => ?_)
  clear hw1 H1 locs1
  refine lv_aload_n hx hb dX10_compact_9 rfl (lv_at hl0 0 rfl) ?_
  refine va_get (D := G) (ci := 10) (v := .int M_down) (C := RX10) (T := TX10) (N := 40) hx hb htc iX10 hown hK hw6.1 0 rfl rfl 7 (by decide) (htc _ mw_954) (fun _ h9 => h9) rfl dX10_compact_10 ?_
  refine lv_if_eq (tgt := 19) hx hb dX10_compact_13 (by decide) (fun c_7 => ?_) (fun c_7 => ?_)
  · replace hfin := it_t c_7 hfin
    refine lv_aload_n hx hb dX10_compact_19 rfl (lv_at hl0 0 rfl) ?_
    refine lv_iload_n hx hb dX10_compact_20 rfl (lv_at hl0 1 rfl) ?_
    replace hfin := ob1_some hfin
    obtain ⟨r_9, hE_8, hfin⟩ := hfin
    refine ctV (a := aM) (As := [.int p0]) (rest := []) (st1 := [.int r_9]) (wc := [oX10 aM (0 : Int32) M_series M_most M_ratio aMdisk M_writes M_fuse M_down M_recovers M_looks M_unpacked aMits aMmany aMplace aMlength aMtimes aMvalues aMorder M_chunks M_epoch M_side aMheadOf aMheadTime aMheadValue M_logged aMnext aMisNew M_nexts aMcursorTime aMcursorValue M_hasCursor_3 M_cursorMany_4 M_cursorAt_5 aMmade M_bits M_from M_askMany M_askLeast M_askGreatest M_askSum]) (w1 := [oX10 aM (0 : Int32) M_series M_most M_ratio aMdisk M_writes M_fuse M_down M_recovers M_looks M_unpacked aMits aMmany aMplace aMlength aMtimes aMvalues aMorder M_chunks M_epoch M_side aMheadOf aMheadTime aMheadValue M_logged aMnext aMisNew M_nexts aMcursorTime aMcursorValue M_hasCursor_3 M_cursorMany_4 M_cursorAt_5 aMmade M_bits M_from M_askMany M_askLeast M_askGreatest M_askSum]) (wr := [rI aMdisk cI 4096 M_disk, rI aMits cI 240 M_its, rI aMmany cI 240 M_many, rI aMplace cI 240 M_place, rI aMlength cI 240 M_length, rI aMtimes cI 15360 M_times, rI aMvalues cI 15360 M_values, rI aMorder cI 96 M_order, rI aMnext cI 240 M_next, rI aMisNew cZ 240 M_isNew, rI aMmade cI 200 M_made]) (wb := [oX10 aM (0 : Int32) M_series M_most M_ratio aMdisk M_writes M_fuse M_down M_recovers M_looks M_unpacked aMits aMmany aMplace aMlength aMtimes aMvalues aMorder M_chunks M_epoch M_side aMheadOf aMheadTime aMheadValue M_logged aMnext aMisNew M_nexts aMcursorTime aMcursorValue M_hasCursor_3 M_cursorMany_4 M_cursorAt_5 aMmade M_bits M_from M_askMany M_askLeast M_askGreatest M_askSum, rI aMdisk cI 4096 M_disk, rI aMits cI 240 M_its, rI aMmany cI 240 M_many, rI aMplace cI 240 M_place, rI aMlength cI 240 M_length, rI aMtimes cI 15360 M_times, rI aMvalues cI 15360 M_values, rI aMorder cI 96 M_order, rI aMnext cI 240 M_next, rI aMisNew cZ 240 M_isNew, rI aMmade cI 200 M_made]) (v := (some (.int r_9))) hx hb hml hown htc hN (c_X10_isSeries l G cI cZ cJ aM aMdisk aMits aMmany aMplace aMlength aMtimes aMvalues aMorder aMheadOf aMheadTime aMheadValue aMnext aMisNew aMcursorTime aMcursorValue aMmade (0 : Int32) M_series M_most M_ratio M_writes M_fuse M_down M_recovers M_looks M_unpacked M_chunks M_epoch M_side M_logged M_nexts M_hasCursor_3 M_cursorMany_4 M_cursorAt_5 M_bits M_from M_askMany M_askLeast M_askGreatest M_askSum p0 hE_8) mw_1080 mw_1082 mp_35 mw_12 mw_1083 hd_X10_isSeries ⟨rfl, rfl⟩ ⟨Nat.le_of_ble_eq_true rfl, Nat.le_of_ble_eq_true rfl⟩ hK hw6 hA [0] [1, 2, 3, 4, 5, 6, 7, 8, 9, 10, 11] [11, 0, 1, 2, 3, 4, 5, 6, 7, 8, 9, 10] rfl rfl rfl rfl rfl (by decide) rfl rfl rfl 0 rfl rfl rfl rfl hl0.1 rfl rfl (Nat.le_of_ble_eq_true rfl) dX10_compact_21 ⟨Nat.zero_le _, Nat.zero_le _⟩ (fun H10 locs10 hw10 => ?_)
    clear hw6 H6 locs6
    refine lv_if_ne (tgt := 30) hx hb dX10_compact_24 (by decide) (fun c_11 => ?_) (fun c_11 => ?_)
    · replace hfin := it_f c_11 hfin
      refine lv_aload_n hx hb dX10_compact_30 rfl (lv_at hl0 0 rfl) ?_
      replace hfin := ob1_some hfin
      obtain ⟨M_nexts_13, hE_12, hfin⟩ := hfin
      refine ctV (a := aM) (As := []) (rest := []) (st1 := []) (wc := [oX10 aM (0 : Int32) M_series M_most M_ratio aMdisk M_writes M_fuse M_down M_recovers M_looks M_unpacked aMits aMmany aMplace aMlength aMtimes aMvalues aMorder M_chunks M_epoch M_side aMheadOf aMheadTime aMheadValue M_logged aMnext aMisNew M_nexts aMcursorTime aMcursorValue M_hasCursor_3 M_cursorMany_4 M_cursorAt_5 aMmade M_bits M_from M_askMany M_askLeast M_askGreatest M_askSum]) (w1 := [oX10 aM (0 : Int32) M_series M_most M_ratio aMdisk M_writes M_fuse M_down M_recovers M_looks M_unpacked aMits aMmany aMplace aMlength aMtimes aMvalues aMorder M_chunks M_epoch M_side aMheadOf aMheadTime aMheadValue M_logged aMnext aMisNew M_nexts_13 aMcursorTime aMcursorValue M_hasCursor_3 M_cursorMany_4 M_cursorAt_5 aMmade M_bits M_from M_askMany M_askLeast M_askGreatest M_askSum]) (wr := [rI aMdisk cI 4096 M_disk, rI aMits cI 240 M_its, rI aMmany cI 240 M_many, rI aMplace cI 240 M_place, rI aMlength cI 240 M_length, rI aMtimes cI 15360 M_times, rI aMvalues cI 15360 M_values, rI aMorder cI 96 M_order, rI aMnext cI 240 M_next, rI aMisNew cZ 240 M_isNew, rI aMmade cI 200 M_made]) (wb := [oX10 aM (0 : Int32) M_series M_most M_ratio aMdisk M_writes M_fuse M_down M_recovers M_looks M_unpacked aMits aMmany aMplace aMlength aMtimes aMvalues aMorder M_chunks M_epoch M_side aMheadOf aMheadTime aMheadValue M_logged aMnext aMisNew M_nexts_13 aMcursorTime aMcursorValue M_hasCursor_3 M_cursorMany_4 M_cursorAt_5 aMmade M_bits M_from M_askMany M_askLeast M_askGreatest M_askSum, rI aMdisk cI 4096 M_disk, rI aMits cI 240 M_its, rI aMmany cI 240 M_many, rI aMplace cI 240 M_place, rI aMlength cI 240 M_length, rI aMtimes cI 15360 M_times, rI aMvalues cI 15360 M_values, rI aMorder cI 96 M_order, rI aMnext cI 240 M_next, rI aMisNew cZ 240 M_isNew, rI aMmade cI 200 M_made]) (v := none) hx hb hml hown htc hN (c_X10_beginNext l G cI cZ cJ aM aMdisk aMits aMmany aMplace aMlength aMtimes aMvalues aMorder aMheadOf aMheadTime aMheadValue aMnext aMisNew aMcursorTime aMcursorValue aMmade (0 : Int32) M_series M_most M_ratio M_writes M_fuse M_down M_recovers M_looks M_unpacked M_chunks M_epoch M_side M_logged M_nexts M_hasCursor_3 M_cursorMany_4 M_cursorAt_5 M_bits M_from M_askMany M_askLeast M_askGreatest M_askSum  hE_12) mw_1096 mw_1098 mp_38 mw_12 mw_1099 hd_X10_beginNext ⟨rfl, rfl⟩ ⟨Nat.le_of_ble_eq_true rfl, Nat.le_of_ble_eq_true rfl⟩ hK hw10 hA [0] [1, 2, 3, 4, 5, 6, 7, 8, 9, 10, 11] [11, 0, 1, 2, 3, 4, 5, 6, 7, 8, 9, 10] rfl rfl rfl rfl rfl (by decide) rfl rfl rfl 0 rfl rfl rfl rfl hl0.1 rfl rfl (Nat.le_of_ble_eq_true rfl) dX10_compact_31 ⟨Nat.zero_le _, Nat.zero_le _⟩ (fun H14 locs14 hw14 => ?_)
      clear hw10 H10 locs10
      refine lv_iconst (v := (0 : Int32)) hx hb dX10_compact_34 (by decide) ?_
      refine lv_istore_n (lv' := [(2, .int (0 : Int32)), (0, .ref aM), (1, .int p0)]) hx hb dX10_compact_35 rfl hl0 (by decide) rfl (fun ls15 hl15 => ?_)
      clear hl0 ls0
      replace hfin := ob7_some hfin
      obtain ⟨M_nexts_28, M_its_29, M_many_30, M_times_31, M_values_32, M_next_33, M_isNew_34, hL_24, hfin⟩ := hfin
      have kx_25 : ∀ (H : Heap) (locs : List Loc) (ls : Array Slot), wS G A s H locs [oX10 aM (0 : Int32) M_series M_most M_ratio aMdisk M_writes M_fuse M_down M_recovers M_looks M_unpacked aMits aMmany aMplace aMlength aMtimes aMvalues aMorder M_chunks M_epoch M_side aMheadOf aMheadTime aMheadValue M_logged aMnext aMisNew M_nexts_28 aMcursorTime aMcursorValue M_hasCursor_3 M_cursorMany_4 M_cursorAt_5 aMmade M_bits M_from M_askMany M_askLeast M_askGreatest M_askSum, rI aMdisk cI 4096 M_disk, rI aMits cI 240 M_its_29, rI aMmany cI 240 M_many_30, rI aMplace cI 240 M_place, rI aMlength cI 240 M_length, rI aMtimes cI 15360 M_times_31, rI aMvalues cI 15360 M_values_32, rI aMorder cI 96 M_order, rI aMnext cI 240 M_next_33, rI aMisNew cZ 240 M_isNew_34, rI aMmade cI 200 M_made] → lv_has ls 5 [(0, .ref aM)] → W p l e rm_X10_compact s m args below meth c H locs 0 0 QQ (F0 m 101 ls []) := by
        clear hw14 H14 locs14 hl15 ls15 hL_24
        intro H75 locs75 ls75 hw75 hl75
        refine lv_aload_n hx hb dX10_compact_101 rfl (lv_at hl75 0 rfl) ?_
        refine va_get (D := G) (ci := 10) (v := .int M_chunks) (C := RX10) (T := TX10) (N := 40) hx hb htc iX10 hown hK hw75.1 0 rfl rfl 18 (by decide) (htc _ mw_965) (fun _ h9 => h9) rfl dX10_compact_102 ?_
        refine lv_aload_n hx hb dX10_compact_105 rfl (lv_at hl75 0 rfl) ?_
        refine va_get (D := G) (ci := 10) (v := .int M_nexts_28) (C := RX10) (T := TX10) (N := 40) hx hb htc iX10 hown hK hw75.1 0 rfl rfl 27 (by decide) (htc _ mw_974) (fun _ h9 => h9) rfl dX10_compact_106 ?_
        refine lv_isub hx hb dX10_compact_109 ?_
        refine lv_istore_n (lv' := [(3, .int (M_chunks - M_nexts_28)), (0, .ref aM)]) hx hb dX10_compact_110 rfl hl75 (by decide) rfl (fun ls76 hl76 => ?_)
        clear hl75 ls75
        refine lv_iload_n hx hb dX10_compact_111 rfl (lv_at hl76 0 rfl) ?_
        refine lv_if_ne (tgt := 117) hx hb dX10_compact_112 (by decide) (fun c_77 => ?_) (fun c_77 => ?_)
        · replace hfin := it_f c_77 hfin
          refine lv_aload_n hx hb dX10_compact_117 rfl (lv_at hl76 1 rfl) ?_
          refine lv_aload_n hx hb dX10_compact_118 rfl (lv_at hl76 1 rfl) ?_
          refine va_get (D := G) (ci := 10) (v := .int M_epoch) (C := RX10) (T := TX10) (N := 40) hx hb htc iX10 hown hK hw75.1 0 rfl rfl 19 (by decide) (htc _ mw_966) (fun _ h9 => h9) rfl dX10_compact_119 ?_
          replace hfin := ob13_some hfin
          obtain ⟨r_79, M_writes_80, M_fuse_81, M_down_82, M_chunks_83, M_epoch_84, M_side_85, M_bits_86, M_disk_87, M_place_88, M_length_89, M_order_90, M_made_91, hE_78, hfin⟩ := hfin
          refine ctV (a := aM) (As := [.int M_epoch]) (rest := []) (st1 := [.int r_79]) (wc := [oX10 aM (0 : Int32) M_series M_most M_ratio aMdisk M_writes M_fuse M_down M_recovers M_looks M_unpacked aMits aMmany aMplace aMlength aMtimes aMvalues aMorder M_chunks M_epoch M_side aMheadOf aMheadTime aMheadValue M_logged aMnext aMisNew M_nexts_28 aMcursorTime aMcursorValue M_hasCursor_3 M_cursorMany_4 M_cursorAt_5 aMmade M_bits M_from M_askMany M_askLeast M_askGreatest M_askSum, rI aMdisk cI 4096 M_disk, rI aMits cI 240 M_its_29, rI aMmany cI 240 M_many_30, rI aMplace cI 240 M_place, rI aMlength cI 240 M_length, rI aMtimes cI 15360 M_times_31, rI aMvalues cI 15360 M_values_32, rI aMorder cI 96 M_order, rI aMnext cI 240 M_next_33, rI aMisNew cZ 240 M_isNew_34, rI aMmade cI 200 M_made]) (w1 := [oX10 aM (0 : Int32) M_series M_most M_ratio aMdisk M_writes_80 M_fuse_81 M_down_82 M_recovers M_looks M_unpacked aMits aMmany aMplace aMlength aMtimes aMvalues aMorder M_chunks_83 M_epoch_84 M_side_85 aMheadOf aMheadTime aMheadValue M_logged aMnext aMisNew M_nexts_28 aMcursorTime aMcursorValue M_hasCursor_3 M_cursorMany_4 M_cursorAt_5 aMmade M_bits_86 M_from M_askMany M_askLeast M_askGreatest M_askSum, rI aMdisk cI 4096 M_disk_87, rI aMits cI 240 M_its_29, rI aMmany cI 240 M_many_30, rI aMplace cI 240 M_place_88, rI aMlength cI 240 M_length_89, rI aMtimes cI 15360 M_times_31, rI aMvalues cI 15360 M_values_32, rI aMorder cI 96 M_order_90, rI aMnext cI 240 M_next_33, rI aMisNew cZ 240 M_isNew_34, rI aMmade cI 200 M_made_91]) (wr := []) (wb := [oX10 aM (0 : Int32) M_series M_most M_ratio aMdisk M_writes_80 M_fuse_81 M_down_82 M_recovers M_looks M_unpacked aMits aMmany aMplace aMlength aMtimes aMvalues aMorder M_chunks_83 M_epoch_84 M_side_85 aMheadOf aMheadTime aMheadValue M_logged aMnext aMisNew M_nexts_28 aMcursorTime aMcursorValue M_hasCursor_3 M_cursorMany_4 M_cursorAt_5 aMmade M_bits_86 M_from M_askMany M_askLeast M_askGreatest M_askSum, rI aMdisk cI 4096 M_disk_87, rI aMits cI 240 M_its_29, rI aMmany cI 240 M_many_30, rI aMplace cI 240 M_place_88, rI aMlength cI 240 M_length_89, rI aMtimes cI 15360 M_times_31, rI aMvalues cI 15360 M_values_32, rI aMorder cI 96 M_order_90, rI aMnext cI 240 M_next_33, rI aMisNew cZ 240 M_isNew_34, rI aMmade cI 200 M_made_91]) (v := (some (.int r_79))) hx hb hml hown htc hN (c_X10_turn l G cI cZ cJ aM aMdisk aMits aMmany aMplace aMlength aMtimes aMvalues aMorder aMheadOf aMheadTime aMheadValue aMnext aMisNew aMcursorTime aMcursorValue aMmade (0 : Int32) M_series M_most M_ratio M_writes M_fuse M_down M_recovers M_looks M_unpacked M_chunks M_epoch M_side M_logged M_nexts_28 M_hasCursor_3 M_cursorMany_4 M_cursorAt_5 M_bits M_from M_askMany M_askLeast M_askGreatest M_askSum M_disk M_its_29 M_many_30 M_place M_length M_times_31 M_values_32 M_order M_next_33 M_isNew_34 M_made M_epoch hE_78) mw_1120 mw_1122 mp_44 mw_12 mw_1123 hd_X10_turn ⟨rfl, rfl⟩ ⟨Nat.le_of_ble_eq_true rfl, Nat.le_of_ble_eq_true rfl⟩ hK hw75 hA [0, 1, 2, 3, 4, 5, 6, 7, 8, 9, 10, 11] [] [0, 1, 2, 3, 4, 5, 6, 7, 8, 9, 10, 11] rfl rfl rfl rfl rfl (by decide) rfl rfl rfl 0 rfl rfl rfl rfl hl76.1 rfl rfl (Nat.le_of_ble_eq_true rfl) dX10_compact_122 ⟨Nat.zero_le _, Nat.zero_le _⟩ (fun H92 locs92 hw92 => ?_)
          clear hw75 H75 locs75
          refine lv_istore (lv' := [(4, .int r_79), (3, .int (M_chunks - M_nexts_28)), (0, .ref aM)]) hx hb dX10_compact_125 hl76 (by decide) rfl (fun ls93 hl93 => ?_)
          clear hl76 ls76
          refine lv_iload hx hb dX10_compact_127 (lv_at hl93 0 rfl) ?_
          replace hfin := ob1_some hfin
          obtain ⟨s_94, hJ_95, hfin⟩ := hfin
          have kj_96 : ∀ (H : Heap) (locs : List Loc) (ls : Array Slot), wS G A s H locs [oX10 aM (0 : Int32) M_series M_most M_ratio aMdisk M_writes_80 M_fuse_81 M_down_82 M_recovers M_looks M_unpacked aMits aMmany aMplace aMlength aMtimes aMvalues aMorder M_chunks_83 M_epoch_84 M_side_85 aMheadOf aMheadTime aMheadValue M_logged aMnext aMisNew M_nexts_28 aMcursorTime aMcursorValue M_hasCursor_3 M_cursorMany_4 M_cursorAt_5 aMmade M_bits_86 M_from M_askMany M_askLeast M_askGreatest M_askSum, rI aMdisk cI 4096 M_disk_87, rI aMits cI 240 M_its_29, rI aMmany cI 240 M_many_30, rI aMplace cI 240 M_place_88, rI aMlength cI 240 M_length_89, rI aMtimes cI 15360 M_times_31, rI aMvalues cI 15360 M_values_32, rI aMorder cI 96 M_order_90, rI aMnext cI 240 M_next_33, rI aMisNew cZ 240 M_isNew_34, rI aMmade cI 200 M_made_91] → lv_has ls 5 [] → W p l e rm_X10_compact s m args below meth c H locs 0 0 QQ (F0 m 138 ls [.int s_94]) := by
            clear hw92 H92 locs92 hl93 ls93 hJ_95
            intro H98 locs98 ls98 hw98 hl98
            cases hfin
            rw [hQQ]
            exact ct_iret hx hb hr hlocks hw98.1 hw98.2.1 hw98.2.2 dX10_compact_138
          clear hfin
          refine lv_if_ne (tgt := 136) hx hb dX10_compact_129 (by decide) (fun c_97 => ?_) (fun c_97 => ?_)
          · replace hJ_95 := it_f c_97 hJ_95
            refine lv_iload hx hb dX10_compact_136 (lv_at hl93 0 rfl) ?_
            cases hJ_95
            exact kj_96 _ _ _ hw92 (lv_sub hl93 [] rfl)
          · replace hJ_95 := it_t c_97 hJ_95
            refine lv_iload_n hx hb dX10_compact_132 rfl (lv_at hl93 1 rfl) ?_
            refine lv_goto (tgt := 138) hx hb dX10_compact_133 (by decide) ?_
            cases hJ_95
            exact kj_96 _ _ _ hw92 (lv_sub hl93 [] rfl)
        · replace hfin := it_t c_77 hfin
          refine lv_iconst (v := (0 : Int32)) hx hb dX10_compact_115 (by decide) ?_
          cases hfin
          rw [hQQ]
          exact ct_iret hx hb hr hlocks hw75.1 hw75.2.1 hw75.2.2 dX10_compact_116
      have lp_26 : ∀ (n : Nat) (v2_16 : Int32) (M_nexts_17 : Int32) (M_its_18 : Nat → Int32) (M_many_19 : Nat → Int32) (M_times_20 : Nat → Int32) (M_values_21 : Nat → Int32) (M_next_22 : Nat → Int32) (M_isNew_23 : Nat → Int32), lp_X10_compact_36 M_most M_chunks M_order p0 n v2_16 M_nexts_17 M_its_18 M_many_19 M_times_20 M_values_21 M_next_22 M_isNew_23 = some (M_nexts_28, M_its_29, M_many_30, M_times_31, M_values_32, M_next_33, M_isNew_34) → ∀ (H : Heap) (locs : List Loc) (ls : Array Slot), wS G A s H locs [oX10 aM (0 : Int32) M_series M_most M_ratio aMdisk M_writes M_fuse M_down M_recovers M_looks M_unpacked aMits aMmany aMplace aMlength aMtimes aMvalues aMorder M_chunks M_epoch M_side aMheadOf aMheadTime aMheadValue M_logged aMnext aMisNew M_nexts_17 aMcursorTime aMcursorValue M_hasCursor_3 M_cursorMany_4 M_cursorAt_5 aMmade M_bits M_from M_askMany M_askLeast M_askGreatest M_askSum, rI aMdisk cI 4096 M_disk, rI aMits cI 240 M_its_18, rI aMmany cI 240 M_many_19, rI aMplace cI 240 M_place, rI aMlength cI 240 M_length, rI aMtimes cI 15360 M_times_20, rI aMvalues cI 15360 M_values_21, rI aMorder cI 96 M_order, rI aMnext cI 240 M_next_22, rI aMisNew cZ 240 M_isNew_23, rI aMmade cI 200 M_made] → lv_has ls 5 [(0, .ref aM), (1, .int p0), (2, .int v2_16)] → W p l e rm_X10_compact s m args below meth c H locs 0 0 QQ (F0 m 36 ls []) := by
        clear hw14 H14 locs14 hl15 ls15 hfin
        intro n
        induction n with
        | zero =>
          intro v2_16 M_nexts_17 M_its_18 M_many_19 M_times_20 M_values_21 M_next_22 M_isNew_23 hB_27
          exact absurd hB_27 (by rw [lp_X10_compact_36]; exact fun h9 => nomatch h9)
        | succ n ih =>
          intro v2_16 M_nexts_17 M_its_18 M_many_19 M_times_20 M_values_21 M_next_22 M_isNew_23 hB_27 H35 locs35 ls35 hw35 hl35
          rw [lp_X10_compact_36] at hB_27
          refine lv_iload_n hx hb dX10_compact_36 rfl (lv_at hl35 2 rfl) ?_
          refine lv_aload_n hx hb dX10_compact_37 rfl (lv_at hl35 0 rfl) ?_
          refine va_get (D := G) (ci := 10) (v := .int M_chunks) (C := RX10) (T := TX10) (N := 40) hx hb htc iX10 hown hK hw35.1 0 rfl rfl 18 (by decide) (htc _ mw_965) (fun _ h9 => h9) rfl dX10_compact_38 ?_
          refine lv_icmp_ge (tgt := 101) hx hb dX10_compact_41 (by decide) (fun c_36 => ?_) (fun c_36 => ?_)
          · replace hB_27 := it_t c_36 hB_27
            cases hB_27
            exact kx_25 _ _ _ hw35 (lv_sub hl35 [0] rfl)
          · replace hB_27 := it_f c_36 hB_27
            refine lv_aload_n hx hb dX10_compact_44 rfl (lv_at hl35 0 rfl) ?_
            refine va_get (D := G) (ci := 10) (v := .ref aMits) (C := RX10) (T := TX10) (N := 40) hx hb htc iX10 hown hK hw35.1 0 rfl rfl 11 (by decide) (htc _ mw_958) (fun _ h9 => h9) rfl dX10_compact_45 ?_
            refine lv_aload_n hx hb dX10_compact_48 rfl (lv_at hl35 0 rfl) ?_
            refine va_get (D := G) (ci := 10) (v := .ref aMorder) (C := RX10) (T := TX10) (N := 40) hx hb htc iX10 hown hK hw35.1 0 rfl rfl 17 (by decide) (htc _ mw_964) (fun _ h9 => h9) rfl dX10_compact_49 ?_
            refine lv_iload_n hx hb dX10_compact_52 rfl (lv_at hl35 2 rfl) ?_
            replace hB_27 := ckb_some hB_27
            obtain ⟨hin_37, hB_27⟩ := hB_27
            refine va_iald hx hb hK hw35.1 8 0 rfl rfl hin_37 dX10_compact_53 ?_
            replace hB_27 := ckb_some hB_27
            obtain ⟨hin_38, hB_27⟩ := hB_27
            refine va_iald hx hb hK hw35.1 2 0 rfl rfl hin_38 dX10_compact_54 ?_
            refine lv_iload_n hx hb dX10_compact_55 rfl (lv_at hl35 1 rfl) ?_
            replace hB_27 := ob1_some hB_27
            obtain ⟨s_39, hJ_40, hB_27⟩ := hB_27
            have kj_41 : ∀ (H : Heap) (locs : List Loc) (ls : Array Slot), wS G A s H locs [oX10 aM (0 : Int32) M_series M_most M_ratio aMdisk M_writes M_fuse M_down M_recovers M_looks M_unpacked aMits aMmany aMplace aMlength aMtimes aMvalues aMorder M_chunks M_epoch M_side aMheadOf aMheadTime aMheadValue M_logged aMnext aMisNew M_nexts_17 aMcursorTime aMcursorValue M_hasCursor_3 M_cursorMany_4 M_cursorAt_5 aMmade M_bits M_from M_askMany M_askLeast M_askGreatest M_askSum, rI aMdisk cI 4096 M_disk, rI aMits cI 240 M_its_18, rI aMmany cI 240 M_many_19, rI aMplace cI 240 M_place, rI aMlength cI 240 M_length, rI aMtimes cI 15360 M_times_20, rI aMvalues cI 15360 M_values_21, rI aMorder cI 96 M_order, rI aMnext cI 240 M_next_22, rI aMisNew cZ 240 M_isNew_23, rI aMmade cI 200 M_made] → lv_has ls 5 [(0, .ref aM), (1, .int p0), (2, .int v2_16)] → W p l e rm_X10_compact s m args below meth c H locs 0 0 QQ (F0 m 68 ls [.int s_39]) := by
              clear hw35 H35 locs35 hl35 ls35 hJ_40
              intro H46 locs46 ls46 hw46 hl46
              refine lv_istore_n (lv' := [(3, .int s_39), (0, .ref aM), (1, .int p0), (2, .int v2_16)]) hx hb dX10_compact_68 rfl hl46 (by decide) rfl (fun ls47 hl47 => ?_)
              clear hl46 ls46
              refine lv_iload_n hx hb dX10_compact_69 rfl (lv_at hl47 0 rfl) ?_
              refine lv_iconst (v := (1 : Int32)) hx hb dX10_compact_70 (by decide) ?_
              replace hB_27 := ob7_some hB_27
              obtain ⟨M_nexts_48, M_its_49, M_many_50, M_times_51, M_values_52, M_next_53, M_isNew_54, hJ_55, hB_27⟩ := hB_27
              have kj_56 : ∀ (H : Heap) (locs : List Loc) (ls : Array Slot), wS G A s H locs [oX10 aM (0 : Int32) M_series M_most M_ratio aMdisk M_writes M_fuse M_down M_recovers M_looks M_unpacked aMits aMmany aMplace aMlength aMtimes aMvalues aMorder M_chunks M_epoch M_side aMheadOf aMheadTime aMheadValue M_logged aMnext aMisNew M_nexts_48 aMcursorTime aMcursorValue M_hasCursor_3 M_cursorMany_4 M_cursorAt_5 aMmade M_bits M_from M_askMany M_askLeast M_askGreatest M_askSum, rI aMdisk cI 4096 M_disk, rI aMits cI 240 M_its_49, rI aMmany cI 240 M_many_50, rI aMplace cI 240 M_place, rI aMlength cI 240 M_length, rI aMtimes cI 15360 M_times_51, rI aMvalues cI 15360 M_values_52, rI aMorder cI 96 M_order, rI aMnext cI 240 M_next_53, rI aMisNew cZ 240 M_isNew_54, rI aMmade cI 200 M_made] → lv_has ls 5 [(0, .ref aM), (1, .int p0), (2, .int v2_16), (3, .int s_39)] → W p l e rm_X10_compact s m args below meth c H locs 0 0 QQ (F0 m 94 ls []) := by
                clear hw46 H46 locs46 hl47 ls47 hJ_55
                intro H73 locs73 ls73 hw73 hl73
                refine lv_iload_n hx hb dX10_compact_94 rfl (lv_at hl73 2 rfl) ?_
                refine lv_iload_n hx hb dX10_compact_95 rfl (lv_at hl73 3 rfl) ?_
                refine lv_iadd hx hb dX10_compact_96 ?_
                refine lv_istore_n (lv' := [(2, .int (v2_16 + s_39)), (0, .ref aM), (1, .int p0), (3, .int s_39)]) hx hb dX10_compact_97 rfl hl73 (by decide) rfl (fun ls74 hl74 => ?_)
                clear hl73 ls73
                refine lv_goto (tgt := 36) hx hb dX10_compact_98 (by decide) ?_
                exact ih (v2_16 + s_39) M_nexts_48 M_its_49 M_many_50 M_times_51 M_values_52 M_next_53 M_isNew_54 hB_27 _ _ _ hw73 (lv_sub hl74 [1, 2, 0] rfl)
              clear hB_27
              refine lv_icmp_ne (tgt := 88) hx hb dX10_compact_71 (by decide) (fun c_57 => ?_) (fun c_57 => ?_)
              · replace hJ_55 := it_f c_57 hJ_55
                refine lv_aload_n hx hb dX10_compact_88 rfl (lv_at hl47 1 rfl) ?_
                refine lv_iload_n hx hb dX10_compact_89 rfl (lv_at hl47 3 rfl) ?_
                refine lv_iload_n hx hb dX10_compact_90 rfl (lv_at hl47 0 rfl) ?_
                replace hJ_55 := ob7_some hJ_55
                obtain ⟨M_nexts_59, M_its_60, M_many_61, M_times_62, M_values_63, M_next_64, M_isNew_65, hE_58, hJ_55⟩ := hJ_55
                refine ctV (a := aM) (As := [.int v2_16, .int s_39]) (rest := []) (st1 := []) (wc := [oX10 aM (0 : Int32) M_series M_most M_ratio aMdisk M_writes M_fuse M_down M_recovers M_looks M_unpacked aMits aMmany aMplace aMlength aMtimes aMvalues aMorder M_chunks M_epoch M_side aMheadOf aMheadTime aMheadValue M_logged aMnext aMisNew M_nexts_17 aMcursorTime aMcursorValue M_hasCursor_3 M_cursorMany_4 M_cursorAt_5 aMmade M_bits M_from M_askMany M_askLeast M_askGreatest M_askSum, rI aMits cI 240 M_its_18, rI aMmany cI 240 M_many_19, rI aMtimes cI 15360 M_times_20, rI aMvalues cI 15360 M_values_21, rI aMorder cI 96 M_order, rI aMnext cI 240 M_next_22, rI aMisNew cZ 240 M_isNew_23]) (w1 := [oX10 aM (0 : Int32) M_series M_most M_ratio aMdisk M_writes M_fuse M_down M_recovers M_looks M_unpacked aMits aMmany aMplace aMlength aMtimes aMvalues aMorder M_chunks M_epoch M_side aMheadOf aMheadTime aMheadValue M_logged aMnext aMisNew M_nexts_59 aMcursorTime aMcursorValue M_hasCursor_3 M_cursorMany_4 M_cursorAt_5 aMmade M_bits M_from M_askMany M_askLeast M_askGreatest M_askSum, rI aMits cI 240 M_its_60, rI aMmany cI 240 M_many_61, rI aMtimes cI 15360 M_times_62, rI aMvalues cI 15360 M_values_63, rI aMorder cI 96 M_order, rI aMnext cI 240 M_next_64, rI aMisNew cZ 240 M_isNew_65]) (wr := [rI aMdisk cI 4096 M_disk, rI aMplace cI 240 M_place, rI aMlength cI 240 M_length, rI aMmade cI 200 M_made]) (wb := [oX10 aM (0 : Int32) M_series M_most M_ratio aMdisk M_writes M_fuse M_down M_recovers M_looks M_unpacked aMits aMmany aMplace aMlength aMtimes aMvalues aMorder M_chunks M_epoch M_side aMheadOf aMheadTime aMheadValue M_logged aMnext aMisNew M_nexts_59 aMcursorTime aMcursorValue M_hasCursor_3 M_cursorMany_4 M_cursorAt_5 aMmade M_bits M_from M_askMany M_askLeast M_askGreatest M_askSum, rI aMdisk cI 4096 M_disk, rI aMits cI 240 M_its_60, rI aMmany cI 240 M_many_61, rI aMplace cI 240 M_place, rI aMlength cI 240 M_length, rI aMtimes cI 15360 M_times_62, rI aMvalues cI 15360 M_values_63, rI aMorder cI 96 M_order, rI aMnext cI 240 M_next_64, rI aMisNew cZ 240 M_isNew_65, rI aMmade cI 200 M_made]) (v := none) hx hb hml hown htc hN (c_X10_joined l G cI cZ cJ aM aMdisk aMits aMmany aMplace aMlength aMtimes aMvalues aMorder aMheadOf aMheadTime aMheadValue aMnext aMisNew aMcursorTime aMcursorValue aMmade (0 : Int32) M_series M_most M_ratio M_writes M_fuse M_down M_recovers M_looks M_unpacked M_chunks M_epoch M_side M_logged M_nexts_17 M_hasCursor_3 M_cursorMany_4 M_cursorAt_5 M_bits M_from M_askMany M_askLeast M_askGreatest M_askSum M_its_18 M_many_19 M_times_20 M_values_21 M_order M_next_22 M_isNew_23 v2_16 s_39 hE_58) mw_1205 mw_1207 mp_61 mw_12 mw_1208 hd_X10_joined ⟨rfl, rfl⟩ ⟨Nat.le_of_ble_eq_true rfl, Nat.le_of_ble_eq_true rfl⟩ hK hw46 hA [0, 2, 3, 6, 7, 8, 9, 10] [1, 4, 5, 11] [4, 0, 5, 6, 1, 2, 7, 8, 9, 10, 11, 3] rfl rfl rfl rfl rfl (by decide) rfl rfl rfl 0 rfl rfl rfl rfl hl47.1 rfl rfl (Nat.le_of_ble_eq_true rfl) dX10_compact_91 ⟨Nat.zero_le _, Nat.zero_le _⟩ (fun H66 locs66 hw66 => ?_)
                clear hw46 H46 locs46
                cases hJ_55
                exact kj_56 _ _ _ hw66 (lv_sub hl47 [1, 2, 3, 0] rfl)
              · replace hJ_55 := it_t c_57 hJ_55
                refine lv_aload_n hx hb dX10_compact_74 rfl (lv_at hl47 1 rfl) ?_
                refine lv_aload_n hx hb dX10_compact_75 rfl (lv_at hl47 1 rfl) ?_
                refine va_get (D := G) (ci := 10) (v := .ref aMorder) (C := RX10) (T := TX10) (N := 40) hx hb htc iX10 hown hK hw46.1 0 rfl rfl 17 (by decide) (htc _ mw_964) (fun _ h9 => h9) rfl dX10_compact_76 ?_
                refine lv_iload_n hx hb dX10_compact_79 rfl (lv_at hl47 3 rfl) ?_
                replace hJ_55 := ckb_some hJ_55
                obtain ⟨hin_67, hJ_55⟩ := hJ_55
                refine va_iald hx hb hK hw46.1 8 0 rfl rfl hin_67 dX10_compact_80 ?_
                refine lv_iconst (v := (0 : Int32)) hx hb dX10_compact_81 (by decide) ?_
                replace hJ_55 := ob3_some hJ_55
                obtain ⟨M_nexts_69, M_next_70, M_isNew_71, hE_68, hJ_55⟩ := hJ_55
                refine ctV (a := aM) (As := [.int (M_order (Int32.toNatClampNeg v2_16)), .int (0 : Int32)]) (rest := []) (st1 := []) (wc := [oX10 aM (0 : Int32) M_series M_most M_ratio aMdisk M_writes M_fuse M_down M_recovers M_looks M_unpacked aMits aMmany aMplace aMlength aMtimes aMvalues aMorder M_chunks M_epoch M_side aMheadOf aMheadTime aMheadValue M_logged aMnext aMisNew M_nexts_17 aMcursorTime aMcursorValue M_hasCursor_3 M_cursorMany_4 M_cursorAt_5 aMmade M_bits M_from M_askMany M_askLeast M_askGreatest M_askSum, rI aMnext cI 240 M_next_22, rI aMisNew cZ 240 M_isNew_23]) (w1 := [oX10 aM (0 : Int32) M_series M_most M_ratio aMdisk M_writes M_fuse M_down M_recovers M_looks M_unpacked aMits aMmany aMplace aMlength aMtimes aMvalues aMorder M_chunks M_epoch M_side aMheadOf aMheadTime aMheadValue M_logged aMnext aMisNew M_nexts_69 aMcursorTime aMcursorValue M_hasCursor_3 M_cursorMany_4 M_cursorAt_5 aMmade M_bits M_from M_askMany M_askLeast M_askGreatest M_askSum, rI aMnext cI 240 M_next_70, rI aMisNew cZ 240 M_isNew_71]) (wr := [rI aMdisk cI 4096 M_disk, rI aMits cI 240 M_its_18, rI aMmany cI 240 M_many_19, rI aMplace cI 240 M_place, rI aMlength cI 240 M_length, rI aMtimes cI 15360 M_times_20, rI aMvalues cI 15360 M_values_21, rI aMorder cI 96 M_order, rI aMmade cI 200 M_made]) (wb := [oX10 aM (0 : Int32) M_series M_most M_ratio aMdisk M_writes M_fuse M_down M_recovers M_looks M_unpacked aMits aMmany aMplace aMlength aMtimes aMvalues aMorder M_chunks M_epoch M_side aMheadOf aMheadTime aMheadValue M_logged aMnext aMisNew M_nexts_69 aMcursorTime aMcursorValue M_hasCursor_3 M_cursorMany_4 M_cursorAt_5 aMmade M_bits M_from M_askMany M_askLeast M_askGreatest M_askSum, rI aMdisk cI 4096 M_disk, rI aMits cI 240 M_its_18, rI aMmany cI 240 M_many_19, rI aMplace cI 240 M_place, rI aMlength cI 240 M_length, rI aMtimes cI 15360 M_times_20, rI aMvalues cI 15360 M_values_21, rI aMorder cI 96 M_order, rI aMnext cI 240 M_next_70, rI aMisNew cZ 240 M_isNew_71, rI aMmade cI 200 M_made]) (v := none) hx hb hml hown htc hN (c_X10_comes l G cI cZ cJ aM aMdisk aMits aMmany aMplace aMlength aMtimes aMvalues aMorder aMheadOf aMheadTime aMheadValue aMnext aMisNew aMcursorTime aMcursorValue aMmade (0 : Int32) M_series M_most M_ratio M_writes M_fuse M_down M_recovers M_looks M_unpacked M_chunks M_epoch M_side M_logged M_nexts_17 M_hasCursor_3 M_cursorMany_4 M_cursorAt_5 M_bits M_from M_askMany M_askLeast M_askGreatest M_askSum M_next_22 M_isNew_23 (M_order (Int32.toNatClampNeg v2_16)) (0 : Int32) hE_68) mw_1100 mw_1102 mp_39 mw_12 mw_1103 hd_X10_comes ⟨rfl, rfl⟩ ⟨Nat.le_of_ble_eq_true rfl, Nat.le_of_ble_eq_true rfl⟩ hK hw46 hA [0, 9, 10] [1, 2, 3, 4, 5, 6, 7, 8, 11] [9, 0, 1, 2, 3, 4, 5, 6, 7, 10, 11, 8] rfl rfl rfl rfl rfl (by decide) rfl rfl rfl 0 rfl rfl rfl rfl hl47.1 rfl rfl (Nat.le_of_ble_eq_true rfl) dX10_compact_82 ⟨Nat.zero_le _, Nat.zero_le _⟩ (fun H72 locs72 hw72 => ?_)
                clear hw46 H46 locs46
                refine lv_goto (tgt := 94) hx hb dX10_compact_85 (by decide) ?_
                cases hJ_55
                exact kj_56 _ _ _ hw72 (lv_sub hl47 [1, 2, 3, 0] rfl)
            clear hB_27
            refine lv_icmp_ne (tgt := 67) hx hb dX10_compact_56 (by decide) (fun c_42 => ?_) (fun c_42 => ?_)
            · replace hJ_40 := it_f c_42 hJ_40
              refine lv_iconst (v := (1 : Int32)) hx hb dX10_compact_67 (by decide) ?_
              cases hJ_40
              exact kj_41 _ _ _ hw35 (lv_sub hl35 [0, 1, 2] rfl)
            · replace hJ_40 := it_t c_42 hJ_40
              refine lv_aload_n hx hb dX10_compact_59 rfl (lv_at hl35 0 rfl) ?_
              refine lv_iload_n hx hb dX10_compact_60 rfl (lv_at hl35 2 rfl) ?_
              replace hJ_40 := ob1_some hJ_40
              obtain ⟨r_44, hE_43, hJ_40⟩ := hJ_40
              refine ctV (a := aM) (As := [.int v2_16]) (rest := []) (st1 := [.int r_44]) (wc := [oX10 aM (0 : Int32) M_series M_most M_ratio aMdisk M_writes M_fuse M_down M_recovers M_looks M_unpacked aMits aMmany aMplace aMlength aMtimes aMvalues aMorder M_chunks M_epoch M_side aMheadOf aMheadTime aMheadValue M_logged aMnext aMisNew M_nexts_17 aMcursorTime aMcursorValue M_hasCursor_3 M_cursorMany_4 M_cursorAt_5 aMmade M_bits M_from M_askMany M_askLeast M_askGreatest M_askSum, rI aMits cI 240 M_its_18, rI aMmany cI 240 M_many_19, rI aMorder cI 96 M_order]) (w1 := [oX10 aM (0 : Int32) M_series M_most M_ratio aMdisk M_writes M_fuse M_down M_recovers M_looks M_unpacked aMits aMmany aMplace aMlength aMtimes aMvalues aMorder M_chunks M_epoch M_side aMheadOf aMheadTime aMheadValue M_logged aMnext aMisNew M_nexts_17 aMcursorTime aMcursorValue M_hasCursor_3 M_cursorMany_4 M_cursorAt_5 aMmade M_bits M_from M_askMany M_askLeast M_askGreatest M_askSum, rI aMits cI 240 M_its_18, rI aMmany cI 240 M_many_19, rI aMorder cI 96 M_order]) (wr := [rI aMdisk cI 4096 M_disk, rI aMplace cI 240 M_place, rI aMlength cI 240 M_length, rI aMtimes cI 15360 M_times_20, rI aMvalues cI 15360 M_values_21, rI aMnext cI 240 M_next_22, rI aMisNew cZ 240 M_isNew_23, rI aMmade cI 200 M_made]) (wb := [oX10 aM (0 : Int32) M_series M_most M_ratio aMdisk M_writes M_fuse M_down M_recovers M_looks M_unpacked aMits aMmany aMplace aMlength aMtimes aMvalues aMorder M_chunks M_epoch M_side aMheadOf aMheadTime aMheadValue M_logged aMnext aMisNew M_nexts_17 aMcursorTime aMcursorValue M_hasCursor_3 M_cursorMany_4 M_cursorAt_5 aMmade M_bits M_from M_askMany M_askLeast M_askGreatest M_askSum, rI aMdisk cI 4096 M_disk, rI aMits cI 240 M_its_18, rI aMmany cI 240 M_many_19, rI aMplace cI 240 M_place, rI aMlength cI 240 M_length, rI aMtimes cI 15360 M_times_20, rI aMvalues cI 15360 M_values_21, rI aMorder cI 96 M_order, rI aMnext cI 240 M_next_22, rI aMisNew cZ 240 M_isNew_23, rI aMmade cI 200 M_made]) (v := (some (.int r_44))) hx hb hml hown htc hN (c_X10_together l G cI cZ cJ aM aMdisk aMits aMmany aMplace aMlength aMtimes aMvalues aMorder aMheadOf aMheadTime aMheadValue aMnext aMisNew aMcursorTime aMcursorValue aMmade (0 : Int32) M_series M_most M_ratio M_writes M_fuse M_down M_recovers M_looks M_unpacked M_chunks M_epoch M_side M_logged M_nexts_17 M_hasCursor_3 M_cursorMany_4 M_cursorAt_5 M_bits M_from M_askMany M_askLeast M_askGreatest M_askSum M_its_18 M_many_19 M_order v2_16 hE_43) mw_1201 mw_1203 mp_60 mw_12 mw_1204 hd_X10_together ⟨rfl, rfl⟩ ⟨Nat.le_of_ble_eq_true rfl, Nat.le_of_ble_eq_true rfl⟩ hK hw35 hA [0, 2, 3, 8] [1, 4, 5, 6, 7, 9, 10, 11] [8, 0, 9, 10, 1, 2, 3, 4, 11, 5, 6, 7] rfl rfl rfl rfl rfl (by decide) rfl rfl rfl 0 rfl rfl rfl rfl hl35.1 rfl rfl (Nat.le_of_ble_eq_true rfl) dX10_compact_61 ⟨Nat.zero_le _, Nat.zero_le _⟩ (fun H45 locs45 hw45 => ?_)
              clear hw35 H35 locs35
              refine lv_goto (tgt := 68) hx hb dX10_compact_64 (by decide) ?_
              cases hJ_40
              exact kj_41 _ _ _ hw45 (lv_sub hl35 [0, 1, 2] rfl)
      exact lp_26 NN (0 : Int32) M_nexts_13 M_its M_many M_times M_values M_next M_isNew hL_24 _ _ _ hw14 (lv_sub hl15 [1, 2, 0] rfl)
    · replace hfin := it_t c_11 hfin
      refine lv_bipush (v := (-2 : Int32)) hx hb dX10_compact_27 (by decide) ?_
      cases hfin
      rw [hQQ]
      exact ct_iret hx hb hr hlocks hw10.1 hw10.2.1 hw10.2.2 dX10_compact_29
  · replace hfin := it_f c_7 hfin
    refine lv_bipush (v := (-9 : Int32)) hx hb dX10_compact_16 (by decide) ?_
    cases hfin
    rw [hQQ]
    exact ct_iret hx hb hr hlocks hw6.1 hw6.2.1 hw6.2.2 dX10_compact_18
abbrev rm_X10_expire : Room := { frames := 5, cells := 0, slots := 0, locals := 122 }
theorem hd_X10_expire : yX10_expire.cls = RX10 ∧ yX10_expire.cls ≠ "java/lang/invoke/MethodHandle" ∧ yX10_expire.cls ≠ "java/lang/invoke/VarHandle" ∧ (parseMethodDescriptor yX10_expire.desc).map (fun d => d.parameters.length) = some 1 := by decide +kernel
set_option maxHeartbeats 4000000 in
set_option maxRecDepth 100000 in
theorem c_X10_expire (l : Launch) (G : va_G) (cI cZ cJ : ClassId) (aM aMdisk aMits aMmany aMplace aMlength aMtimes aMvalues aMorder aMheadOf aMheadTime aMheadValue aMnext aMisNew aMcursorTime aMcursorValue aMmade : Nat) (M_thrown : Int32) (M_series : Int32) (M_most : Int32) (M_ratio : Int32) (M_writes : Int32) (M_fuse : Int32) (M_down : Int32) (M_recovers : Int32) (M_looks : Int32) (M_unpacked : Int32) (M_chunks : Int32) (M_epoch : Int32) (M_side : Int32) (M_logged : Int32) (M_nexts : Int32) (M_hasCursor : Int32) (M_cursorMany : Int32) (M_cursorAt : Int32) (M_bits : Int32) (M_from : Int32) (M_askMany : Int32) (M_askLeast : Int32) (M_askGreatest : Int32) (M_askSum : Int64) (M_disk : Nat → Int32) (M_its : Nat → Int32) (M_many : Nat → Int32) (M_place : Nat → Int32) (M_length : Nat → Int32) (M_times : Nat → Int32) (M_values : Nat → Int32) (M_order : Nat → Int32) (M_next : Nat → Int32) (M_isNew : Nat → Int32) (M_made : Nat → Int32) (p0 : Int32) {r : Int32} {o_M_thrown : Int32} {o_M_writes : Int32} {o_M_fuse : Int32} {o_M_down : Int32} {o_M_chunks : Int32} {o_M_epoch : Int32} {o_M_side : Int32} {o_M_nexts : Int32} {o_M_hasCursor : Int32} {o_M_cursorMany : Int32} {o_M_cursorAt : Int32} {o_M_bits : Int32} {o_M_disk : Nat → Int32} {o_M_place : Nat → Int32} {o_M_length : Nat → Int32} {o_M_order : Nat → Int32} {o_M_next : Nat → Int32} {o_M_isNew : Nat → Int32} {o_M_made : Nat → Int32} (hfin : m_X10_expire M_thrown M_writes M_fuse M_down M_chunks M_epoch M_side M_nexts M_hasCursor M_cursorMany M_cursorAt M_bits M_disk M_its M_many M_place M_length M_times M_values M_order M_next M_isNew M_made p0 = some (r, o_M_thrown, o_M_writes, o_M_fuse, o_M_down, o_M_chunks, o_M_epoch, o_M_side, o_M_nexts, o_M_hasCursor, o_M_cursorMany, o_M_cursorAt, o_M_bits, o_M_disk, o_M_place, o_M_length, o_M_order, o_M_next, o_M_isNew, o_M_made)) : CT l yX10_expire cX10_expire 4 (some .int) rm_X10_expire G (tyC cI cZ cJ) [.ref aM, .int p0] [oX10 aM M_thrown M_series M_most M_ratio aMdisk M_writes M_fuse M_down M_recovers M_looks M_unpacked aMits aMmany aMplace aMlength aMtimes aMvalues aMorder M_chunks M_epoch M_side aMheadOf aMheadTime aMheadValue M_logged aMnext aMisNew M_nexts aMcursorTime aMcursorValue M_hasCursor M_cursorMany M_cursorAt aMmade M_bits M_from M_askMany M_askLeast M_askGreatest M_askSum, rI aMdisk cI 4096 M_disk, rI aMits cI 240 M_its, rI aMmany cI 240 M_many, rI aMplace cI 240 M_place, rI aMlength cI 240 M_length, rI aMtimes cI 15360 M_times, rI aMvalues cI 15360 M_values, rI aMorder cI 96 M_order, rI aMnext cI 240 M_next, rI aMisNew cZ 240 M_isNew, rI aMmade cI 200 M_made] (some (.int r)) [oX10 aM o_M_thrown M_series M_most M_ratio aMdisk o_M_writes o_M_fuse o_M_down M_recovers M_looks M_unpacked aMits aMmany aMplace aMlength aMtimes aMvalues aMorder o_M_chunks o_M_epoch o_M_side aMheadOf aMheadTime aMheadValue M_logged aMnext aMisNew o_M_nexts aMcursorTime aMcursorValue o_M_hasCursor o_M_cursorMany o_M_cursorAt aMmade o_M_bits M_from M_askMany M_askLeast M_askGreatest M_askSum, rI aMdisk cI 4096 o_M_disk, rI aMits cI 240 M_its, rI aMmany cI 240 M_many, rI aMplace cI 240 o_M_place, rI aMlength cI 240 o_M_length, rI aMtimes cI 15360 M_times, rI aMvalues cI 15360 M_values, rI aMorder cI 96 o_M_order, rI aMnext cI 240 o_M_next, rI aMisNew cZ 240 o_M_isNew, rI aMmade cI 200 o_M_made] := by
  refine CT.ofW (lvl := [(0, .ref aM), (1, .int p0)]) (by decide) (Nat.le_of_ble_eq_true rfl) rfl ?_
  intro p e s m args below meth c A ls0 QQ hQQ hx hb hml hr hlocks htc hN hown hK hA hw0 hl0
  rw [m_X10_expire] at hfin
  refine lv_aload_n hx hb dX10_expire_0 rfl (lv_at hl0 0 rfl) ?_
  refine lv_iconst (v := (0 : Int32)) hx hb dX10_expire_1 (by decide) ?_
  refine va_put (D := G) (ci := 10) (v := .int (0 : Int32)) (ty := .int) (C := RX10) (T := TX10) (N := 40) hx hb htc iX10 tyX10 tyX10_ok nmX10 hown hK hw0.1 hw0.2.1 hw0.2.2 0 rfl rfl 0 (by decide) (htc _ mw_947) (fun _ h9 => h9) rfl (tyX10_ok 0 (by decide)) rfl rfl (Nat.le_of_ble_eq_true rfl) dX10_expire_2 (fun H1 locs1 hP hD hS => ?_)
  have hw1 : wS G A s H1 locs1 [oX10 aM (0 : Int32) M_series M_most M_ratio aMdisk M_writes M_fuse M_down M_recovers M_looks M_unpacked aMits aMmany aMplace aMlength aMtimes aMvalues aMorder M_chunks M_epoch M_side aMheadOf aMheadTime aMheadValue M_logged aMnext aMisNew M_nexts aMcursorTime aMcursorValue M_hasCursor M_cursorMany M_cursorAt aMmade M_bits M_from M_askMany M_askLeast M_askGreatest M_askSum, rI aMdisk cI 4096 M_disk, rI aMits cI 240 M_its, rI aMmany cI 240 M_many, rI aMplace cI 240 M_place, rI aMlength cI 240 M_length, rI aMtimes cI 15360 M_times, rI aMvalues cI 15360 M_values, rI aMorder cI 96 M_order, rI aMnext cI 240 M_next, rI aMisNew cZ 240 M_isNew, rI aMmade cI 200 M_made] := ⟨hP, hD, hS⟩
  clear hP hD hS hw0
  refine lv_aload_n hx hb dX10_expire_5 rfl (lv_at hl0 0 rfl) ?_
  replace hfin := ob3_some hfin
  obtain ⟨M_hasCursor_3, M_cursorMany_4, M_cursorAt_5, hE_2, hfin⟩ := hfin
  refine ctV (a := aM) (As := []) (rest := []) (st1 := []) (wc := [oX10 aM (0 : Int32) M_series M_most M_ratio aMdisk M_writes M_fuse M_down M_recovers M_looks M_unpacked aMits aMmany aMplace aMlength aMtimes aMvalues aMorder M_chunks M_epoch M_side aMheadOf aMheadTime aMheadValue M_logged aMnext aMisNew M_nexts aMcursorTime aMcursorValue M_hasCursor M_cursorMany M_cursorAt aMmade M_bits M_from M_askMany M_askLeast M_askGreatest M_askSum]) (w1 := [oX10 aM (0 : Int32) M_series M_most M_ratio aMdisk M_writes M_fuse M_down M_recovers M_looks M_unpacked aMits aMmany aMplace aMlength aMtimes aMvalues aMorder M_chunks M_epoch M_side aMheadOf aMheadTime aMheadValue M_logged aMnext aMisNew M_nexts aMcursorTime aMcursorValue M_hasCursor_3 M_cursorMany_4 M_cursorAt_5 aMmade M_bits M_from M_askMany M_askLeast M_askGreatest M_askSum]) (wr := [rI aMdisk cI 4096 M_disk, rI aMits cI 240 M_its, rI aMmany cI 240 M_many, rI aMplace cI 240 M_place, rI aMlength cI 240 M_length, rI aMtimes cI 15360 M_times, rI aMvalues cI 15360 M_values, rI aMorder cI 96 M_order, rI aMnext cI 240 M_next, rI aMisNew cZ 240 M_isNew, rI aMmade cI 200 M_made]) (wb := [oX10 aM (0 : Int32) M_series M_most M_ratio aMdisk M_writes M_fuse M_down M_recovers M_looks M_unpacked aMits aMmany aMplace aMlength aMtimes aMvalues aMorder M_chunks M_epoch M_side aMheadOf aMheadTime aMheadValue M_logged aMnext aMisNew M_nexts aMcursorTime aMcursorValue M_hasCursor_3 M_cursorMany_4 M_cursorAt_5 aMmade M_bits M_from M_askMany M_askLeast M_askGreatest M_askSum, rI aMdisk cI 4096 M_disk, rI aMits cI 240 M_its, rI aMmany cI 240 M_many, rI aMplace cI 240 M_place, rI aMlength cI 240 M_length, rI aMtimes cI 15360 M_times, rI aMvalues cI 15360 M_values, rI aMorder cI 96 M_order, rI aMnext cI 240 M_next, rI aMisNew cZ 240 M_isNew, rI aMmade cI 200 M_made]) (v := none) hx hb hml hown htc hN (c_X10_dropCursor l G cI cZ cJ aM aMdisk aMits aMmany aMplace aMlength aMtimes aMvalues aMorder aMheadOf aMheadTime aMheadValue aMnext aMisNew aMcursorTime aMcursorValue aMmade (0 : Int32) M_series M_most M_ratio M_writes M_fuse M_down M_recovers M_looks M_unpacked M_chunks M_epoch M_side M_logged M_nexts M_hasCursor M_cursorMany M_cursorAt M_bits M_from M_askMany M_askLeast M_askGreatest M_askSum  hE_2) mw_1076 mw_1078 mp_34 mw_12 mw_1079 hd_X10_dropCursor ⟨rfl, rfl⟩ ⟨Nat.le_of_ble_eq_true rfl, Nat.le_of_ble_eq_true rfl⟩ hK hw1 hA [0] [1, 2, 3, 4, 5, 6, 7, 8, 9, 10, 11] [11, 0, 1, 2, 3, 4, 5, 6, 7, 8, 9, 10] rfl rfl rfl rfl rfl (by decide) rfl rfl rfl 0 rfl rfl rfl rfl hl0.1 rfl rfl (Nat.le_of_ble_eq_true rfl) dX10_expire_6 ⟨Nat.zero_le _, Nat.zero_le _⟩ (fun H6 locs6 hw6 => ?_)
  clear hw1 H1 locs1
  refine lv_aload_n hx hb dX10_expire_9 rfl (lv_at hl0 0 rfl) ?_
  refine va_get (D := G) (ci := 10) (v := .int M_down) (C := RX10) (T := TX10) (N := 40) hx hb htc iX10 hown hK hw6.1 0 rfl rfl 7 (by decide) (htc _ mw_954) (fun _ h9 => h9) rfl dX10_expire_10 ?_
  refine lv_if_eq (tgt := 19) hx hb dX10_expire_13 (by decide) (fun c_7 => ?_) (fun c_7 => ?_)
  · replace hfin := it_t c_7 hfin
    refine lv_aload_n hx hb dX10_expire_19 rfl (lv_at hl0 0 rfl) ?_
    replace hfin := ob1_some hfin
    obtain ⟨M_nexts_9, hE_8, hfin⟩ := hfin
    refine ctV (a := aM) (As := []) (rest := []) (st1 := []) (wc := [oX10 aM (0 : Int32) M_series M_most M_ratio aMdisk M_writes M_fuse M_down M_recovers M_looks M_unpacked aMits aMmany aMplace aMlength aMtimes aMvalues aMorder M_chunks M_epoch M_side aMheadOf aMheadTime aMheadValue M_logged aMnext aMisNew M_nexts aMcursorTime aMcursorValue M_hasCursor_3 M_cursorMany_4 M_cursorAt_5 aMmade M_bits M_from M_askMany M_askLeast M_askGreatest M_askSum]) (w1 := [oX10 aM (0 : Int32) M_series M_most M_ratio aMdisk M_writes M_fuse M_down M_recovers M_looks M_unpacked aMits aMmany aMplace aMlength aMtimes aMvalues aMorder M_chunks M_epoch M_side aMheadOf aMheadTime aMheadValue M_logged aMnext aMisNew M_nexts_9 aMcursorTime aMcursorValue M_hasCursor_3 M_cursorMany_4 M_cursorAt_5 aMmade M_bits M_from M_askMany M_askLeast M_askGreatest M_askSum]) (wr := [rI aMdisk cI 4096 M_disk, rI aMits cI 240 M_its, rI aMmany cI 240 M_many, rI aMplace cI 240 M_place, rI aMlength cI 240 M_length, rI aMtimes cI 15360 M_times, rI aMvalues cI 15360 M_values, rI aMorder cI 96 M_order, rI aMnext cI 240 M_next, rI aMisNew cZ 240 M_isNew, rI aMmade cI 200 M_made]) (wb := [oX10 aM (0 : Int32) M_series M_most M_ratio aMdisk M_writes M_fuse M_down M_recovers M_looks M_unpacked aMits aMmany aMplace aMlength aMtimes aMvalues aMorder M_chunks M_epoch M_side aMheadOf aMheadTime aMheadValue M_logged aMnext aMisNew M_nexts_9 aMcursorTime aMcursorValue M_hasCursor_3 M_cursorMany_4 M_cursorAt_5 aMmade M_bits M_from M_askMany M_askLeast M_askGreatest M_askSum, rI aMdisk cI 4096 M_disk, rI aMits cI 240 M_its, rI aMmany cI 240 M_many, rI aMplace cI 240 M_place, rI aMlength cI 240 M_length, rI aMtimes cI 15360 M_times, rI aMvalues cI 15360 M_values, rI aMorder cI 96 M_order, rI aMnext cI 240 M_next, rI aMisNew cZ 240 M_isNew, rI aMmade cI 200 M_made]) (v := none) hx hb hml hown htc hN (c_X10_beginNext l G cI cZ cJ aM aMdisk aMits aMmany aMplace aMlength aMtimes aMvalues aMorder aMheadOf aMheadTime aMheadValue aMnext aMisNew aMcursorTime aMcursorValue aMmade (0 : Int32) M_series M_most M_ratio M_writes M_fuse M_down M_recovers M_looks M_unpacked M_chunks M_epoch M_side M_logged M_nexts M_hasCursor_3 M_cursorMany_4 M_cursorAt_5 M_bits M_from M_askMany M_askLeast M_askGreatest M_askSum  hE_8) mw_1096 mw_1098 mp_38 mw_12 mw_1099 hd_X10_beginNext ⟨rfl, rfl⟩ ⟨Nat.le_of_ble_eq_true rfl, Nat.le_of_ble_eq_true rfl⟩ hK hw6 hA [0] [1, 2, 3, 4, 5, 6, 7, 8, 9, 10, 11] [11, 0, 1, 2, 3, 4, 5, 6, 7, 8, 9, 10] rfl rfl rfl rfl rfl (by decide) rfl rfl rfl 0 rfl rfl rfl rfl hl0.1 rfl rfl (Nat.le_of_ble_eq_true rfl) dX10_expire_20 ⟨Nat.zero_le _, Nat.zero_le _⟩ (fun H10 locs10 hw10 => ?_)
    clear hw6 H6 locs6
    refine lv_iconst (v := (0 : Int32)) hx hb dX10_expire_23 (by decide) ?_
    refine lv_istore_n (lv' := [(2, .int (0 : Int32)), (0, .ref aM), (1, .int p0)]) hx hb dX10_expire_24 rfl hl0 (by decide) rfl (fun ls11 hl11 => ?_)
    clear hl0 ls0
    refine lv_iconst (v := (0 : Int32)) hx hb dX10_expire_25 (by decide) ?_
    refine lv_istore_n (lv' := [(3, .int (0 : Int32)), (2, .int (0 : Int32)), (0, .ref aM), (1, .int p0)]) hx hb dX10_expire_26 rfl hl11 (by decide) rfl (fun ls12 hl12 => ?_)
    clear hl11 ls11
    replace hfin := ob4_some hfin
    obtain ⟨v2_22, M_nexts_23, M_next_24, M_isNew_25, hL_18, hfin⟩ := hfin
    have kx_19 : ∀ (H : Heap) (locs : List Loc) (ls : Array Slot), wS G A s H locs [oX10 aM (0 : Int32) M_series M_most M_ratio aMdisk M_writes M_fuse M_down M_recovers M_looks M_unpacked aMits aMmany aMplace aMlength aMtimes aMvalues aMorder M_chunks M_epoch M_side aMheadOf aMheadTime aMheadValue M_logged aMnext aMisNew M_nexts_23 aMcursorTime aMcursorValue M_hasCursor_3 M_cursorMany_4 M_cursorAt_5 aMmade M_bits M_from M_askMany M_askLeast M_askGreatest M_askSum, rI aMdisk cI 4096 M_disk, rI aMits cI 240 M_its, rI aMmany cI 240 M_many, rI aMplace cI 240 M_place, rI aMlength cI 240 M_length, rI aMtimes cI 15360 M_times, rI aMvalues cI 15360 M_values, rI aMorder cI 96 M_order, rI aMnext cI 240 M_next_24, rI aMisNew cZ 240 M_isNew_25, rI aMmade cI 200 M_made] → lv_has ls 4 [(0, .ref aM), (2, .int v2_22)] → W p l e rm_X10_expire s m args below meth c H locs 0 0 QQ (F0 m 83 ls []) := by
      clear hw10 H10 locs10 hl12 ls12 hL_18
      intro H50 locs50 ls50 hw50 hl50
      refine lv_iload_n hx hb dX10_expire_83 rfl (lv_at hl50 1 rfl) ?_
      refine lv_if_ne (tgt := 89) hx hb dX10_expire_84 (by decide) (fun c_51 => ?_) (fun c_51 => ?_)
      · replace hfin := it_f c_51 hfin
        refine lv_aload_n hx hb dX10_expire_89 rfl (lv_at hl50 0 rfl) ?_
        refine lv_aload_n hx hb dX10_expire_90 rfl (lv_at hl50 0 rfl) ?_
        refine va_get (D := G) (ci := 10) (v := .int M_epoch) (C := RX10) (T := TX10) (N := 40) hx hb htc iX10 hown hK hw50.1 0 rfl rfl 19 (by decide) (htc _ mw_966) (fun _ h9 => h9) rfl dX10_expire_91 ?_
        replace hfin := ob13_some hfin
        obtain ⟨r_53, M_writes_54, M_fuse_55, M_down_56, M_chunks_57, M_epoch_58, M_side_59, M_bits_60, M_disk_61, M_place_62, M_length_63, M_order_64, M_made_65, hE_52, hfin⟩ := hfin
        refine ctV (a := aM) (As := [.int M_epoch]) (rest := []) (st1 := [.int r_53]) (wc := [oX10 aM (0 : Int32) M_series M_most M_ratio aMdisk M_writes M_fuse M_down M_recovers M_looks M_unpacked aMits aMmany aMplace aMlength aMtimes aMvalues aMorder M_chunks M_epoch M_side aMheadOf aMheadTime aMheadValue M_logged aMnext aMisNew M_nexts_23 aMcursorTime aMcursorValue M_hasCursor_3 M_cursorMany_4 M_cursorAt_5 aMmade M_bits M_from M_askMany M_askLeast M_askGreatest M_askSum, rI aMdisk cI 4096 M_disk, rI aMits cI 240 M_its, rI aMmany cI 240 M_many, rI aMplace cI 240 M_place, rI aMlength cI 240 M_length, rI aMtimes cI 15360 M_times, rI aMvalues cI 15360 M_values, rI aMorder cI 96 M_order, rI aMnext cI 240 M_next_24, rI aMisNew cZ 240 M_isNew_25, rI aMmade cI 200 M_made]) (w1 := [oX10 aM (0 : Int32) M_series M_most M_ratio aMdisk M_writes_54 M_fuse_55 M_down_56 M_recovers M_looks M_unpacked aMits aMmany aMplace aMlength aMtimes aMvalues aMorder M_chunks_57 M_epoch_58 M_side_59 aMheadOf aMheadTime aMheadValue M_logged aMnext aMisNew M_nexts_23 aMcursorTime aMcursorValue M_hasCursor_3 M_cursorMany_4 M_cursorAt_5 aMmade M_bits_60 M_from M_askMany M_askLeast M_askGreatest M_askSum, rI aMdisk cI 4096 M_disk_61, rI aMits cI 240 M_its, rI aMmany cI 240 M_many, rI aMplace cI 240 M_place_62, rI aMlength cI 240 M_length_63, rI aMtimes cI 15360 M_times, rI aMvalues cI 15360 M_values, rI aMorder cI 96 M_order_64, rI aMnext cI 240 M_next_24, rI aMisNew cZ 240 M_isNew_25, rI aMmade cI 200 M_made_65]) (wr := []) (wb := [oX10 aM (0 : Int32) M_series M_most M_ratio aMdisk M_writes_54 M_fuse_55 M_down_56 M_recovers M_looks M_unpacked aMits aMmany aMplace aMlength aMtimes aMvalues aMorder M_chunks_57 M_epoch_58 M_side_59 aMheadOf aMheadTime aMheadValue M_logged aMnext aMisNew M_nexts_23 aMcursorTime aMcursorValue M_hasCursor_3 M_cursorMany_4 M_cursorAt_5 aMmade M_bits_60 M_from M_askMany M_askLeast M_askGreatest M_askSum, rI aMdisk cI 4096 M_disk_61, rI aMits cI 240 M_its, rI aMmany cI 240 M_many, rI aMplace cI 240 M_place_62, rI aMlength cI 240 M_length_63, rI aMtimes cI 15360 M_times, rI aMvalues cI 15360 M_values, rI aMorder cI 96 M_order_64, rI aMnext cI 240 M_next_24, rI aMisNew cZ 240 M_isNew_25, rI aMmade cI 200 M_made_65]) (v := (some (.int r_53))) hx hb hml hown htc hN (c_X10_turn l G cI cZ cJ aM aMdisk aMits aMmany aMplace aMlength aMtimes aMvalues aMorder aMheadOf aMheadTime aMheadValue aMnext aMisNew aMcursorTime aMcursorValue aMmade (0 : Int32) M_series M_most M_ratio M_writes M_fuse M_down M_recovers M_looks M_unpacked M_chunks M_epoch M_side M_logged M_nexts_23 M_hasCursor_3 M_cursorMany_4 M_cursorAt_5 M_bits M_from M_askMany M_askLeast M_askGreatest M_askSum M_disk M_its M_many M_place M_length M_times M_values M_order M_next_24 M_isNew_25 M_made M_epoch hE_52) mw_1120 mw_1122 mp_44 mw_12 mw_1123 hd_X10_turn ⟨rfl, rfl⟩ ⟨Nat.le_of_ble_eq_true rfl, Nat.le_of_ble_eq_true rfl⟩ hK hw50 hA [0, 1, 2, 3, 4, 5, 6, 7, 8, 9, 10, 11] [] [0, 1, 2, 3, 4, 5, 6, 7, 8, 9, 10, 11] rfl rfl rfl rfl rfl (by decide) rfl rfl rfl 0 rfl rfl rfl rfl hl50.1 rfl rfl (Nat.le_of_ble_eq_true rfl) dX10_expire_94 ⟨Nat.zero_le _, Nat.zero_le _⟩ (fun H66 locs66 hw66 => ?_)
        clear hw50 H50 locs50
        refine lv_istore_n (lv' := [(3, .int r_53), (0, .ref aM), (2, .int v2_22)]) hx hb dX10_expire_97 rfl hl50 (by decide) rfl (fun ls67 hl67 => ?_)
        clear hl50 ls50
        refine lv_iload_n hx hb dX10_expire_98 rfl (lv_at hl67 0 rfl) ?_
        replace hfin := ob1_some hfin
        obtain ⟨s_68, hJ_69, hfin⟩ := hfin
        have kj_70 : ∀ (H : Heap) (locs : List Loc) (ls : Array Slot), wS G A s H locs [oX10 aM (0 : Int32) M_series M_most M_ratio aMdisk M_writes_54 M_fuse_55 M_down_56 M_recovers M_looks M_unpacked aMits aMmany aMplace aMlength aMtimes aMvalues aMorder M_chunks_57 M_epoch_58 M_side_59 aMheadOf aMheadTime aMheadValue M_logged aMnext aMisNew M_nexts_23 aMcursorTime aMcursorValue M_hasCursor_3 M_cursorMany_4 M_cursorAt_5 aMmade M_bits_60 M_from M_askMany M_askLeast M_askGreatest M_askSum, rI aMdisk cI 4096 M_disk_61, rI aMits cI 240 M_its, rI aMmany cI 240 M_many, rI aMplace cI 240 M_place_62, rI aMlength cI 240 M_length_63, rI aMtimes cI 15360 M_times, rI aMvalues cI 15360 M_values, rI aMorder cI 96 M_order_64, rI aMnext cI 240 M_next_24, rI aMisNew cZ 240 M_isNew_25, rI aMmade cI 200 M_made_65] → lv_has ls 4 [] → W p l e rm_X10_expire s m args below meth c H locs 0 0 QQ (F0 m 107 ls [.int s_68]) := by
          clear hw66 H66 locs66 hl67 ls67 hJ_69
          intro H72 locs72 ls72 hw72 hl72
          cases hfin
          rw [hQQ]
          exact ct_iret hx hb hr hlocks hw72.1 hw72.2.1 hw72.2.2 dX10_expire_107
        clear hfin
        refine lv_if_ne (tgt := 106) hx hb dX10_expire_99 (by decide) (fun c_71 => ?_) (fun c_71 => ?_)
        · replace hJ_69 := it_f c_71 hJ_69
          refine lv_iload_n hx hb dX10_expire_106 rfl (lv_at hl67 0 rfl) ?_
          cases hJ_69
          exact kj_70 _ _ _ hw66 (lv_sub hl67 [] rfl)
        · replace hJ_69 := it_t c_71 hJ_69
          refine lv_iload_n hx hb dX10_expire_102 rfl (lv_at hl67 2 rfl) ?_
          refine lv_goto (tgt := 107) hx hb dX10_expire_103 (by decide) ?_
          cases hJ_69
          exact kj_70 _ _ _ hw66 (lv_sub hl67 [] rfl)
      · replace hfin := it_t c_51 hfin
        refine lv_iconst (v := (0 : Int32)) hx hb dX10_expire_87 (by decide) ?_
        cases hfin
        rw [hQQ]
        exact ct_iret hx hb hr hlocks hw50.1 hw50.2.1 hw50.2.2 dX10_expire_88
    have lp_20 : ∀ (n : Nat) (v2_13 : Int32) (v3_14 : Int32) (M_nexts_15 : Int32) (M_next_16 : Nat → Int32) (M_isNew_17 : Nat → Int32), lp_X10_expire_27 M_chunks M_many M_times M_order p0 n v2_13 v3_14 M_nexts_15 M_next_16 M_isNew_17 = some (v2_22, M_nexts_23, M_next_24, M_isNew_25) → ∀ (H : Heap) (locs : List Loc) (ls : Array Slot), wS G A s H locs [oX10 aM (0 : Int32) M_series M_most M_ratio aMdisk M_writes M_fuse M_down M_recovers M_looks M_unpacked aMits aMmany aMplace aMlength aMtimes aMvalues aMorder M_chunks M_epoch M_side aMheadOf aMheadTime aMheadValue M_logged aMnext aMisNew M_nexts_15 aMcursorTime aMcursorValue M_hasCursor_3 M_cursorMany_4 M_cursorAt_5 aMmade M_bits M_from M_askMany M_askLeast M_askGreatest M_askSum, rI aMdisk cI 4096 M_disk, rI aMits cI 240 M_its, rI aMmany cI 240 M_many, rI aMplace cI 240 M_place, rI aMlength cI 240 M_length, rI aMtimes cI 15360 M_times, rI aMvalues cI 15360 M_values, rI aMorder cI 96 M_order, rI aMnext cI 240 M_next_16, rI aMisNew cZ 240 M_isNew_17, rI aMmade cI 200 M_made] → lv_has ls 4 [(0, .ref aM), (1, .int p0), (2, .int v2_13), (3, .int v3_14)] → W p l e rm_X10_expire s m args below meth c H locs 0 0 QQ (F0 m 27 ls []) := by
      clear hw10 H10 locs10 hl12 ls12 hfin
      intro n
      induction n with
      | zero =>
        intro v2_13 v3_14 M_nexts_15 M_next_16 M_isNew_17 hB_21
        exact absurd hB_21 (by rw [lp_X10_expire_27]; exact fun h9 => nomatch h9)
      | succ n ih =>
        intro v2_13 v3_14 M_nexts_15 M_next_16 M_isNew_17 hB_21 H26 locs26 ls26 hw26 hl26
        rw [lp_X10_expire_27] at hB_21
        refine lv_iload_n hx hb dX10_expire_27 rfl (lv_at hl26 3 rfl) ?_
        refine lv_aload_n hx hb dX10_expire_28 rfl (lv_at hl26 0 rfl) ?_
        refine va_get (D := G) (ci := 10) (v := .int M_chunks) (C := RX10) (T := TX10) (N := 40) hx hb htc iX10 hown hK hw26.1 0 rfl rfl 18 (by decide) (htc _ mw_965) (fun _ h9 => h9) rfl dX10_expire_29 ?_
        refine lv_icmp_ge (tgt := 83) hx hb dX10_expire_32 (by decide) (fun c_27 => ?_) (fun c_27 => ?_)
        · replace hB_21 := it_t c_27 hB_21
          cases hB_21
          exact kx_19 _ _ _ hw26 (lv_sub hl26 [0, 2] rfl)
        · replace hB_21 := it_f c_27 hB_21
          refine lv_aload_n hx hb dX10_expire_35 rfl (lv_at hl26 0 rfl) ?_
          refine lv_aload_n hx hb dX10_expire_36 rfl (lv_at hl26 0 rfl) ?_
          refine va_get (D := G) (ci := 10) (v := .ref aMorder) (C := RX10) (T := TX10) (N := 40) hx hb htc iX10 hown hK hw26.1 0 rfl rfl 17 (by decide) (htc _ mw_964) (fun _ h9 => h9) rfl dX10_expire_37 ?_
          refine lv_iload_n hx hb dX10_expire_40 rfl (lv_at hl26 3 rfl) ?_
          replace hB_21 := ckb_some hB_21
          obtain ⟨hin_28, hB_21⟩ := hB_21
          refine va_iald hx hb hK hw26.1 8 0 rfl rfl hin_28 dX10_expire_41 ?_
          replace hB_21 := ob1_some hB_21
          obtain ⟨r_30, hE_29, hB_21⟩ := hB_21
          refine ctV (a := aM) (As := [.int (M_order (Int32.toNatClampNeg v3_14))]) (rest := []) (st1 := [.int r_30]) (wc := [oX10 aM (0 : Int32) M_series M_most M_ratio aMdisk M_writes M_fuse M_down M_recovers M_looks M_unpacked aMits aMmany aMplace aMlength aMtimes aMvalues aMorder M_chunks M_epoch M_side aMheadOf aMheadTime aMheadValue M_logged aMnext aMisNew M_nexts_15 aMcursorTime aMcursorValue M_hasCursor_3 M_cursorMany_4 M_cursorAt_5 aMmade M_bits M_from M_askMany M_askLeast M_askGreatest M_askSum, rI aMmany cI 240 M_many, rI aMtimes cI 15360 M_times]) (w1 := [oX10 aM (0 : Int32) M_series M_most M_ratio aMdisk M_writes M_fuse M_down M_recovers M_looks M_unpacked aMits aMmany aMplace aMlength aMtimes aMvalues aMorder M_chunks M_epoch M_side aMheadOf aMheadTime aMheadValue M_logged aMnext aMisNew M_nexts_15 aMcursorTime aMcursorValue M_hasCursor_3 M_cursorMany_4 M_cursorAt_5 aMmade M_bits M_from M_askMany M_askLeast M_askGreatest M_askSum, rI aMmany cI 240 M_many, rI aMtimes cI 15360 M_times]) (wr := [rI aMdisk cI 4096 M_disk, rI aMits cI 240 M_its, rI aMplace cI 240 M_place, rI aMlength cI 240 M_length, rI aMvalues cI 15360 M_values, rI aMorder cI 96 M_order, rI aMnext cI 240 M_next_16, rI aMisNew cZ 240 M_isNew_17, rI aMmade cI 200 M_made]) (wb := [oX10 aM (0 : Int32) M_series M_most M_ratio aMdisk M_writes M_fuse M_down M_recovers M_looks M_unpacked aMits aMmany aMplace aMlength aMtimes aMvalues aMorder M_chunks M_epoch M_side aMheadOf aMheadTime aMheadValue M_logged aMnext aMisNew M_nexts_15 aMcursorTime aMcursorValue M_hasCursor_3 M_cursorMany_4 M_cursorAt_5 aMmade M_bits M_from M_askMany M_askLeast M_askGreatest M_askSum, rI aMdisk cI 4096 M_disk, rI aMits cI 240 M_its, rI aMmany cI 240 M_many, rI aMplace cI 240 M_place, rI aMlength cI 240 M_length, rI aMtimes cI 15360 M_times, rI aMvalues cI 15360 M_values, rI aMorder cI 96 M_order, rI aMnext cI 240 M_next_16, rI aMisNew cZ 240 M_isNew_17, rI aMmade cI 200 M_made]) (v := (some (.int r_30))) hx hb hml hown htc hN (c_X10_lastTime l G cI cZ cJ aM aMdisk aMits aMmany aMplace aMlength aMtimes aMvalues aMorder aMheadOf aMheadTime aMheadValue aMnext aMisNew aMcursorTime aMcursorValue aMmade (0 : Int32) M_series M_most M_ratio M_writes M_fuse M_down M_recovers M_looks M_unpacked M_chunks M_epoch M_side M_logged M_nexts_15 M_hasCursor_3 M_cursorMany_4 M_cursorAt_5 M_bits M_from M_askMany M_askLeast M_askGreatest M_askSum M_many M_times (M_order (Int32.toNatClampNeg v3_14)) hE_29) mw_1185 mw_1187 mp_57 mw_12 mw_1188 hd_X10_lastTime ⟨rfl, rfl⟩ ⟨Nat.le_of_ble_eq_true rfl, Nat.le_of_ble_eq_true rfl⟩ hK hw26 hA [0, 3, 6] [1, 2, 4, 5, 7, 8, 9, 10, 11] [9, 0, 1, 10, 2, 3, 11, 4, 5, 6, 7, 8] rfl rfl rfl rfl rfl (by decide) rfl rfl rfl 0 rfl rfl rfl rfl hl26.1 rfl rfl (Nat.le_of_ble_eq_true rfl) dX10_expire_42 ⟨Nat.zero_le _, Nat.zero_le _⟩ (fun H31 locs31 hw31 => ?_)
          clear hw26 H26 locs26
          refine lv_iload_n hx hb dX10_expire_45 rfl (lv_at hl26 1 rfl) ?_
          replace hB_21 := ob4_some hB_21
          obtain ⟨v2_32, M_nexts_33, M_next_34, M_isNew_35, hJ_36, hB_21⟩ := hB_21
          have kj_37 : ∀ (H : Heap) (locs : List Loc) (ls : Array Slot), wS G A s H locs [oX10 aM (0 : Int32) M_series M_most M_ratio aMdisk M_writes M_fuse M_down M_recovers M_looks M_unpacked aMits aMmany aMplace aMlength aMtimes aMvalues aMorder M_chunks M_epoch M_side aMheadOf aMheadTime aMheadValue M_logged aMnext aMisNew M_nexts_33 aMcursorTime aMcursorValue M_hasCursor_3 M_cursorMany_4 M_cursorAt_5 aMmade M_bits M_from M_askMany M_askLeast M_askGreatest M_askSum, rI aMdisk cI 4096 M_disk, rI aMits cI 240 M_its, rI aMmany cI 240 M_many, rI aMplace cI 240 M_place, rI aMlength cI 240 M_length, rI aMtimes cI 15360 M_times, rI aMvalues cI 15360 M_values, rI aMorder cI 96 M_order, rI aMnext cI 240 M_next_34, rI aMisNew cZ 240 M_isNew_35, rI aMmade cI 200 M_made] → lv_has ls 4 [(0, .ref aM), (1, .int p0), (2, .int v2_32), (3, .int v3_14)] → W p l e rm_X10_expire s m args below meth c H locs 0 0 QQ (F0 m 77 ls []) := by
            clear hw31 H31 locs31 hl26 ls26 hJ_36
            intro H48 locs48 ls48 hw48 hl48
            refine lv_iinc (v := (v3_14 + (1 : Int32))) (lv' := [(3, .int (v3_14 + (1 : Int32))), (0, .ref aM), (1, .int p0), (2, .int v2_32)]) hx hb dX10_expire_77 hl48 (k := 3) rfl rfl (by decide) rfl (fun ls49 hl49 => ?_)
            clear hl48 ls48
            refine lv_goto (tgt := 27) hx hb dX10_expire_80 (by decide) ?_
            exact ih v2_32 (v3_14 + (1 : Int32)) M_nexts_33 M_next_34 M_isNew_35 hB_21 _ _ _ hw48 (lv_sub hl49 [1, 2, 3, 0] rfl)
          clear hB_21
          refine lv_icmp_ge (tgt := 66) hx hb dX10_expire_46 (by decide) (fun c_38 => ?_) (fun c_38 => ?_)
          · replace hJ_36 := it_t c_38 hJ_36
            refine lv_aload_n hx hb dX10_expire_66 rfl (lv_at hl26 0 rfl) ?_
            refine lv_aload_n hx hb dX10_expire_67 rfl (lv_at hl26 0 rfl) ?_
            refine va_get (D := G) (ci := 10) (v := .ref aMorder) (C := RX10) (T := TX10) (N := 40) hx hb htc iX10 hown hK hw31.1 0 rfl rfl 17 (by decide) (htc _ mw_964) (fun _ h9 => h9) rfl dX10_expire_68 ?_
            refine lv_iload_n hx hb dX10_expire_71 rfl (lv_at hl26 3 rfl) ?_
            replace hJ_36 := ckb_some hJ_36
            obtain ⟨hin_39, hJ_36⟩ := hJ_36
            refine va_iald hx hb hK hw31.1 8 0 rfl rfl hin_39 dX10_expire_72 ?_
            refine lv_iconst (v := (0 : Int32)) hx hb dX10_expire_73 (by decide) ?_
            replace hJ_36 := ob3_some hJ_36
            obtain ⟨M_nexts_41, M_next_42, M_isNew_43, hE_40, hJ_36⟩ := hJ_36
            refine ctV (a := aM) (As := [.int (M_order (Int32.toNatClampNeg v3_14)), .int (0 : Int32)]) (rest := []) (st1 := []) (wc := [oX10 aM (0 : Int32) M_series M_most M_ratio aMdisk M_writes M_fuse M_down M_recovers M_looks M_unpacked aMits aMmany aMplace aMlength aMtimes aMvalues aMorder M_chunks M_epoch M_side aMheadOf aMheadTime aMheadValue M_logged aMnext aMisNew M_nexts_15 aMcursorTime aMcursorValue M_hasCursor_3 M_cursorMany_4 M_cursorAt_5 aMmade M_bits M_from M_askMany M_askLeast M_askGreatest M_askSum, rI aMnext cI 240 M_next_16, rI aMisNew cZ 240 M_isNew_17]) (w1 := [oX10 aM (0 : Int32) M_series M_most M_ratio aMdisk M_writes M_fuse M_down M_recovers M_looks M_unpacked aMits aMmany aMplace aMlength aMtimes aMvalues aMorder M_chunks M_epoch M_side aMheadOf aMheadTime aMheadValue M_logged aMnext aMisNew M_nexts_41 aMcursorTime aMcursorValue M_hasCursor_3 M_cursorMany_4 M_cursorAt_5 aMmade M_bits M_from M_askMany M_askLeast M_askGreatest M_askSum, rI aMnext cI 240 M_next_42, rI aMisNew cZ 240 M_isNew_43]) (wr := [rI aMdisk cI 4096 M_disk, rI aMits cI 240 M_its, rI aMmany cI 240 M_many, rI aMplace cI 240 M_place, rI aMlength cI 240 M_length, rI aMtimes cI 15360 M_times, rI aMvalues cI 15360 M_values, rI aMorder cI 96 M_order, rI aMmade cI 200 M_made]) (wb := [oX10 aM (0 : Int32) M_series M_most M_ratio aMdisk M_writes M_fuse M_down M_recovers M_looks M_unpacked aMits aMmany aMplace aMlength aMtimes aMvalues aMorder M_chunks M_epoch M_side aMheadOf aMheadTime aMheadValue M_logged aMnext aMisNew M_nexts_41 aMcursorTime aMcursorValue M_hasCursor_3 M_cursorMany_4 M_cursorAt_5 aMmade M_bits M_from M_askMany M_askLeast M_askGreatest M_askSum, rI aMdisk cI 4096 M_disk, rI aMits cI 240 M_its, rI aMmany cI 240 M_many, rI aMplace cI 240 M_place, rI aMlength cI 240 M_length, rI aMtimes cI 15360 M_times, rI aMvalues cI 15360 M_values, rI aMorder cI 96 M_order, rI aMnext cI 240 M_next_42, rI aMisNew cZ 240 M_isNew_43, rI aMmade cI 200 M_made]) (v := none) hx hb hml hown htc hN (c_X10_comes l G cI cZ cJ aM aMdisk aMits aMmany aMplace aMlength aMtimes aMvalues aMorder aMheadOf aMheadTime aMheadValue aMnext aMisNew aMcursorTime aMcursorValue aMmade (0 : Int32) M_series M_most M_ratio M_writes M_fuse M_down M_recovers M_looks M_unpacked M_chunks M_epoch M_side M_logged M_nexts_15 M_hasCursor_3 M_cursorMany_4 M_cursorAt_5 M_bits M_from M_askMany M_askLeast M_askGreatest M_askSum M_next_16 M_isNew_17 (M_order (Int32.toNatClampNeg v3_14)) (0 : Int32) hE_40) mw_1100 mw_1102 mp_39 mw_12 mw_1103 hd_X10_comes ⟨rfl, rfl⟩ ⟨Nat.le_of_ble_eq_true rfl, Nat.le_of_ble_eq_true rfl⟩ hK hw31 hA [0, 9, 10] [1, 2, 3, 4, 5, 6, 7, 8, 11] [9, 0, 1, 2, 3, 4, 5, 6, 7, 10, 11, 8] rfl rfl rfl rfl rfl (by decide) rfl rfl rfl 0 rfl rfl rfl rfl hl26.1 rfl rfl (Nat.le_of_ble_eq_true rfl) dX10_expire_74 ⟨Nat.zero_le _, Nat.zero_le _⟩ (fun H44 locs44 hw44 => ?_)
            clear hw31 H31 locs31
            cases hJ_36
            exact kj_37 _ _ _ hw44 (lv_sub hl26 [0, 1, 2, 3] rfl)
          · replace hJ_36 := it_f c_38 hJ_36
            refine lv_iload_n hx hb dX10_expire_49 rfl (lv_at hl26 2 rfl) ?_
            refine lv_aload_n hx hb dX10_expire_50 rfl (lv_at hl26 0 rfl) ?_
            refine va_get (D := G) (ci := 10) (v := .ref aMmany) (C := RX10) (T := TX10) (N := 40) hx hb htc iX10 hown hK hw31.1 0 rfl rfl 12 (by decide) (htc _ mw_959) (fun _ h9 => h9) rfl dX10_expire_51 ?_
            refine lv_aload_n hx hb dX10_expire_54 rfl (lv_at hl26 0 rfl) ?_
            refine va_get (D := G) (ci := 10) (v := .ref aMorder) (C := RX10) (T := TX10) (N := 40) hx hb htc iX10 hown hK hw31.1 0 rfl rfl 17 (by decide) (htc _ mw_964) (fun _ h9 => h9) rfl dX10_expire_55 ?_
            refine lv_iload_n hx hb dX10_expire_58 rfl (lv_at hl26 3 rfl) ?_
            replace hJ_36 := ckb_some hJ_36
            obtain ⟨hin_45, hJ_36⟩ := hJ_36
            refine va_iald hx hb hK hw31.1 8 0 rfl rfl hin_45 dX10_expire_59 ?_
            replace hJ_36 := ckb_some hJ_36
            obtain ⟨hin_46, hJ_36⟩ := hJ_36
            refine va_iald hx hb hK hw31.1 3 0 rfl rfl hin_46 dX10_expire_60 ?_
            refine lv_iadd hx hb dX10_expire_61 ?_
            refine lv_istore_n (lv' := [(2, .int (v2_13 + (M_many (Int32.toNatClampNeg (M_order (Int32.toNatClampNeg v3_14)))))), (0, .ref aM), (1, .int p0), (3, .int v3_14)]) hx hb dX10_expire_62 rfl hl26 (by decide) rfl (fun ls47 hl47 => ?_)
            clear hl26 ls26
            refine lv_goto (tgt := 77) hx hb dX10_expire_63 (by decide) ?_
            cases hJ_36
            exact kj_37 _ _ _ hw31 (lv_sub hl47 [1, 2, 0, 3] rfl)
    exact lp_20 NN (0 : Int32) (0 : Int32) M_nexts_9 M_next M_isNew hL_18 _ _ _ hw10 (lv_sub hl12 [2, 3, 1, 0] rfl)
  · replace hfin := it_f c_7 hfin
    refine lv_bipush (v := (-9 : Int32)) hx hb dX10_expire_16 (by decide) ?_
    cases hfin
    rw [hQQ]
    exact ct_iret hx hb hr hlocks hw6.1 hw6.2.1 hw6.2.2 dX10_expire_18
abbrev rm_X10_meet : Room := { frames := 0, cells := 0, slots := 0, locals := 0 }
theorem hd_X10_meet : yX10_meet.cls = RX10 ∧ yX10_meet.cls ≠ "java/lang/invoke/MethodHandle" ∧ yX10_meet.cls ≠ "java/lang/invoke/VarHandle" ∧ (parseMethodDescriptor yX10_meet.desc).map (fun d => d.parameters.length) = some 5 := by decide +kernel
set_option maxHeartbeats 4000000 in
set_option maxRecDepth 100000 in
theorem c_X10_meet (l : Launch) (G : va_G) (cI cZ cJ : ClassId) (aM aMdisk aMits aMmany aMplace aMlength aMtimes aMvalues aMorder aMheadOf aMheadTime aMheadValue aMnext aMisNew aMcursorTime aMcursorValue aMmade : Nat) (M_thrown : Int32) (M_series : Int32) (M_most : Int32) (M_ratio : Int32) (M_writes : Int32) (M_fuse : Int32) (M_down : Int32) (M_recovers : Int32) (M_looks : Int32) (M_unpacked : Int32) (M_chunks : Int32) (M_epoch : Int32) (M_side : Int32) (M_logged : Int32) (M_nexts : Int32) (M_hasCursor : Int32) (M_cursorMany : Int32) (M_cursorAt : Int32) (M_bits : Int32) (M_from : Int32) (M_askMany : Int32) (M_askLeast : Int32) (M_askGreatest : Int32) (M_askSum : Int64) (M_cursorTime : Nat → Int32) (M_cursorValue : Nat → Int32) (p0 : Int32) (p1 : Int32) (p2 : Int32) (p3 : Int32) (p4 : Int32) {o_M_askMany : Int32} {o_M_askLeast : Int32} {o_M_askGreatest : Int32} {o_M_askSum : Int64} {o_M_cursorTime : Nat → Int32} {o_M_cursorValue : Nat → Int32} (hfin : m_X10_meet M_askMany M_askLeast M_askGreatest M_askSum M_cursorTime M_cursorValue p0 p1 p2 p3 p4 = some (o_M_askMany, o_M_askLeast, o_M_askGreatest, o_M_askSum, o_M_cursorTime, o_M_cursorValue)) : CT l yX10_meet cX10_meet 6 none rm_X10_meet G (tyC cI cZ cJ) [.ref aM, .int p0, .int p1, .int p2, .int p3, .int p4] [oX10 aM M_thrown M_series M_most M_ratio aMdisk M_writes M_fuse M_down M_recovers M_looks M_unpacked aMits aMmany aMplace aMlength aMtimes aMvalues aMorder M_chunks M_epoch M_side aMheadOf aMheadTime aMheadValue M_logged aMnext aMisNew M_nexts aMcursorTime aMcursorValue M_hasCursor M_cursorMany M_cursorAt aMmade M_bits M_from M_askMany M_askLeast M_askGreatest M_askSum, rI aMcursorTime cI 6300 M_cursorTime, rI aMcursorValue cI 6300 M_cursorValue] none [oX10 aM M_thrown M_series M_most M_ratio aMdisk M_writes M_fuse M_down M_recovers M_looks M_unpacked aMits aMmany aMplace aMlength aMtimes aMvalues aMorder M_chunks M_epoch M_side aMheadOf aMheadTime aMheadValue M_logged aMnext aMisNew M_nexts aMcursorTime aMcursorValue M_hasCursor M_cursorMany M_cursorAt aMmade M_bits M_from o_M_askMany o_M_askLeast o_M_askGreatest o_M_askSum, rI aMcursorTime cI 6300 o_M_cursorTime, rI aMcursorValue cI 6300 o_M_cursorValue] := by
  refine CT.ofW (lvl := [(0, .ref aM), (1, .int p0), (2, .int p1), (3, .int p2), (4, .int p3), (5, .int p4)]) (by decide) (Nat.le_of_ble_eq_true rfl) rfl ?_
  intro p e s m args below meth c A ls0 QQ hQQ hx hb hml hr hlocks htc hN hown hK hA hw0 hl0
  rw [m_X10_meet] at hfin
  refine lv_iload_n hx hb dX10_meet_0 rfl (lv_at hl0 1 rfl) ?_
  refine lv_iload_n hx hb dX10_meet_1 rfl (lv_at hl0 3 rfl) ?_
  refine lv_icmp_lt (tgt := 11) hx hb dX10_meet_2 (by decide) (fun c_1 => ?_) (fun c_1 => ?_)
  · replace hfin := it_t c_1 hfin
    cases hfin
    rw [hQQ]
    exact ct_vret hx hb hr hlocks hw0.1 hw0.2.1 hw0.2.2 dX10_meet_11
  · replace hfin := it_f c_1 hfin
    refine lv_iload_n hx hb dX10_meet_5 rfl (lv_at hl0 1 rfl) ?_
    refine lv_iload hx hb dX10_meet_6 (lv_at hl0 4 rfl) ?_
    refine lv_icmp_le (tgt := 12) hx hb dX10_meet_8 (by decide) (fun c_2 => ?_) (fun c_2 => ?_)
    · replace hfin := it_t c_2 hfin
      refine lv_aload_n hx hb dX10_meet_12 rfl (lv_at hl0 0 rfl) ?_
      refine lv_aload_n hx hb dX10_meet_13 rfl (lv_at hl0 0 rfl) ?_
      refine va_get (D := G) (ci := 10) (v := .int M_askMany) (C := RX10) (T := TX10) (N := 40) hx hb htc iX10 hown hK hw0.1 0 rfl rfl 36 (by decide) (htc _ mw_983) (fun _ h9 => h9) rfl dX10_meet_14 ?_
      replace hfin := ob1_some hfin
      obtain ⟨s_3, hJ_4, hfin⟩ := hfin
      have kj_5 : ∀ (H : Heap) (locs : List Loc) (ls : Array Slot), wS G A s H locs [oX10 aM M_thrown M_series M_most M_ratio aMdisk M_writes M_fuse M_down M_recovers M_looks M_unpacked aMits aMmany aMplace aMlength aMtimes aMvalues aMorder M_chunks M_epoch M_side aMheadOf aMheadTime aMheadValue M_logged aMnext aMisNew M_nexts aMcursorTime aMcursorValue M_hasCursor M_cursorMany M_cursorAt aMmade M_bits M_from M_askMany M_askLeast M_askGreatest M_askSum, rI aMcursorTime cI 6300 M_cursorTime, rI aMcursorValue cI 6300 M_cursorValue] → lv_has ls 6 [(0, .ref aM), (1, .int p0), (2, .int p1), (5, .int p4)] → W p l e rm_X10_meet s m args below meth c H locs 0 0 QQ (F0 m 36 ls [.int s_3, .ref aM]) := by
        clear hw0 hl0 ls0 hJ_4
        intro H8 locs8 ls8 hw8 hl8
        refine va_put (D := G) (ci := 10) (v := .int s_3) (ty := .int) (C := RX10) (T := TX10) (N := 40) hx hb htc iX10 tyX10 tyX10_ok nmX10 hown hK hw8.1 hw8.2.1 hw8.2.2 0 rfl rfl 37 (by decide) (htc _ mw_984) (fun _ h9 => h9) rfl (tyX10_ok 37 (by decide)) rfl rfl (Nat.le_of_ble_eq_true rfl) dX10_meet_36 (fun H9 locs9 hP hD hS => ?_)
        have hw9 : wS G A s H9 locs9 [oX10 aM M_thrown M_series M_most M_ratio aMdisk M_writes M_fuse M_down M_recovers M_looks M_unpacked aMits aMmany aMplace aMlength aMtimes aMvalues aMorder M_chunks M_epoch M_side aMheadOf aMheadTime aMheadValue M_logged aMnext aMisNew M_nexts aMcursorTime aMcursorValue M_hasCursor M_cursorMany M_cursorAt aMmade M_bits M_from M_askMany s_3 M_askGreatest M_askSum, rI aMcursorTime cI 6300 M_cursorTime, rI aMcursorValue cI 6300 M_cursorValue] := ⟨hP, hD, hS⟩
        clear hP hD hS hw8 H8 locs8
        refine lv_aload_n hx hb dX10_meet_39 rfl (lv_at hl8 0 rfl) ?_
        refine lv_aload_n hx hb dX10_meet_40 rfl (lv_at hl8 0 rfl) ?_
        refine va_get (D := G) (ci := 10) (v := .int M_askMany) (C := RX10) (T := TX10) (N := 40) hx hb htc iX10 hown hK hw9.1 0 rfl rfl 36 (by decide) (htc _ mw_983) (fun _ h9 => h9) rfl dX10_meet_41 ?_
        replace hfin := ob1_some hfin
        obtain ⟨s_10, hJ_11, hfin⟩ := hfin
        have kj_12 : ∀ (H : Heap) (locs : List Loc) (ls : Array Slot), wS G A s H locs [oX10 aM M_thrown M_series M_most M_ratio aMdisk M_writes M_fuse M_down M_recovers M_looks M_unpacked aMits aMmany aMplace aMlength aMtimes aMvalues aMorder M_chunks M_epoch M_side aMheadOf aMheadTime aMheadValue M_logged aMnext aMisNew M_nexts aMcursorTime aMcursorValue M_hasCursor M_cursorMany M_cursorAt aMmade M_bits M_from M_askMany s_3 M_askGreatest M_askSum, rI aMcursorTime cI 6300 M_cursorTime, rI aMcursorValue cI 6300 M_cursorValue] → lv_has ls 6 [(0, .ref aM), (1, .int p0), (2, .int p1), (5, .int p4)] → W p l e rm_X10_meet s m args below meth c H locs 0 0 QQ (F0 m 63 ls [.int s_10, .ref aM]) := by
          clear hw9 H9 locs9 hl8 ls8 hJ_11
          intro H15 locs15 ls15 hw15 hl15
          refine va_put (D := G) (ci := 10) (v := .int s_10) (ty := .int) (C := RX10) (T := TX10) (N := 40) hx hb htc iX10 tyX10 tyX10_ok nmX10 hown hK hw15.1 hw15.2.1 hw15.2.2 0 rfl rfl 38 (by decide) (htc _ mw_985) (fun _ h9 => h9) rfl (tyX10_ok 38 (by decide)) rfl rfl (Nat.le_of_ble_eq_true rfl) dX10_meet_63 (fun H16 locs16 hP hD hS => ?_)
          have hw16 : wS G A s H16 locs16 [oX10 aM M_thrown M_series M_most M_ratio aMdisk M_writes M_fuse M_down M_recovers M_looks M_unpacked aMits aMmany aMplace aMlength aMtimes aMvalues aMorder M_chunks M_epoch M_side aMheadOf aMheadTime aMheadValue M_logged aMnext aMisNew M_nexts aMcursorTime aMcursorValue M_hasCursor M_cursorMany M_cursorAt aMmade M_bits M_from M_askMany s_3 s_10 M_askSum, rI aMcursorTime cI 6300 M_cursorTime, rI aMcursorValue cI 6300 M_cursorValue] := ⟨hP, hD, hS⟩
          clear hP hD hS hw15 H15 locs15
          refine lv_aload_n hx hb dX10_meet_66 rfl (lv_at hl15 0 rfl) ?_
          refine lv_dup hx hb dX10_meet_67 rfl ?_
          refine va_get (D := G) (ci := 10) (v := .long M_askSum) (C := RX10) (T := TX10) (N := 40) hx hb htc iX10 hown hK hw16.1 0 rfl rfl 39 (by decide) (htc _ mw_986) (fun _ h9 => h9) rfl dX10_meet_68 ?_
          refine lv_iload_n hx hb dX10_meet_71 rfl (lv_at hl15 2 rfl) ?_
          refine lv_i2l hx hb dX10_meet_72 rfl ?_
          refine lv_ladd hx hb dX10_meet_73 ?_
          refine va_put (D := G) (ci := 10) (v := .long (M_askSum + (Int32.toInt64 p1))) (ty := .long) (C := RX10) (T := TX10) (N := 40) hx hb htc iX10 tyX10 tyX10_ok nmX10 hown hK hw16.1 hw16.2.1 hw16.2.2 0 rfl rfl 39 (by decide) (htc _ mw_986) (fun _ h9 => h9) rfl (tyX10_ok 39 (by decide)) rfl rfl (Nat.le_of_ble_eq_true rfl) dX10_meet_74 (fun H17 locs17 hP hD hS => ?_)
          have hw17 : wS G A s H17 locs17 [oX10 aM M_thrown M_series M_most M_ratio aMdisk M_writes M_fuse M_down M_recovers M_looks M_unpacked aMits aMmany aMplace aMlength aMtimes aMvalues aMorder M_chunks M_epoch M_side aMheadOf aMheadTime aMheadValue M_logged aMnext aMisNew M_nexts aMcursorTime aMcursorValue M_hasCursor M_cursorMany M_cursorAt aMmade M_bits M_from M_askMany s_3 s_10 (M_askSum + (Int32.toInt64 p1)), rI aMcursorTime cI 6300 M_cursorTime, rI aMcursorValue cI 6300 M_cursorValue] := ⟨hP, hD, hS⟩
          clear hP hD hS hw16 H16 locs16
          refine lv_iload hx hb dX10_meet_77 (lv_at hl15 3 rfl) ?_
          replace hfin := ob2_some hfin
          obtain ⟨M_cursorTime_18, M_cursorValue_19, hJ_20, hfin⟩ := hfin
          have kj_21 : ∀ (H : Heap) (locs : List Loc) (ls : Array Slot), wS G A s H locs [oX10 aM M_thrown M_series M_most M_ratio aMdisk M_writes M_fuse M_down M_recovers M_looks M_unpacked aMits aMmany aMplace aMlength aMtimes aMvalues aMorder M_chunks M_epoch M_side aMheadOf aMheadTime aMheadValue M_logged aMnext aMisNew M_nexts aMcursorTime aMcursorValue M_hasCursor M_cursorMany M_cursorAt aMmade M_bits M_from M_askMany s_3 s_10 (M_askSum + (Int32.toInt64 p1)), rI aMcursorTime cI 6300 M_cursorTime_18, rI aMcursorValue cI 6300 M_cursorValue_19] → lv_has ls 6 [(0, .ref aM)] → W p l e rm_X10_meet s m args below meth c H locs 0 0 QQ (F0 m 102 ls []) := by
            clear hw17 H17 locs17 hl15 ls15 hJ_20
            intro H27 locs27 ls27 hw27 hl27
            refine lv_aload_n hx hb dX10_meet_102 rfl (lv_at hl27 0 rfl) ?_
            refine lv_dup hx hb dX10_meet_103 rfl ?_
            refine va_get (D := G) (ci := 10) (v := .int M_askMany) (C := RX10) (T := TX10) (N := 40) hx hb htc iX10 hown hK hw27.1 0 rfl rfl 36 (by decide) (htc _ mw_983) (fun _ h9 => h9) rfl dX10_meet_104 ?_
            refine lv_iconst (v := (1 : Int32)) hx hb dX10_meet_107 (by decide) ?_
            refine lv_iadd hx hb dX10_meet_108 ?_
            refine va_put (D := G) (ci := 10) (v := .int (M_askMany + (1 : Int32))) (ty := .int) (C := RX10) (T := TX10) (N := 40) hx hb htc iX10 tyX10 tyX10_ok nmX10 hown hK hw27.1 hw27.2.1 hw27.2.2 0 rfl rfl 36 (by decide) (htc _ mw_983) (fun _ h9 => h9) rfl (tyX10_ok 36 (by decide)) rfl rfl (Nat.le_of_ble_eq_true rfl) dX10_meet_109 (fun H28 locs28 hP hD hS => ?_)
            have hw28 : wS G A s H28 locs28 [oX10 aM M_thrown M_series M_most M_ratio aMdisk M_writes M_fuse M_down M_recovers M_looks M_unpacked aMits aMmany aMplace aMlength aMtimes aMvalues aMorder M_chunks M_epoch M_side aMheadOf aMheadTime aMheadValue M_logged aMnext aMisNew M_nexts aMcursorTime aMcursorValue M_hasCursor M_cursorMany M_cursorAt aMmade M_bits M_from (M_askMany + (1 : Int32)) s_3 s_10 (M_askSum + (Int32.toInt64 p1)), rI aMcursorTime cI 6300 M_cursorTime_18, rI aMcursorValue cI 6300 M_cursorValue_19] := ⟨hP, hD, hS⟩
            clear hP hD hS hw27 H27 locs27
            cases hfin
            rw [hQQ]
            exact ct_vret hx hb hr hlocks hw28.1 hw28.2.1 hw28.2.2 dX10_meet_112
          clear hfin
          refine lv_if_eq (tgt := 102) hx hb dX10_meet_79 (by decide) (fun c_22 => ?_) (fun c_22 => ?_)
          · replace hJ_20 := it_t c_22 hJ_20
            cases hJ_20
            exact kj_21 _ _ _ hw17 (lv_sub hl15 [0] rfl)
          · replace hJ_20 := it_f c_22 hJ_20
            refine lv_aload_n hx hb dX10_meet_82 rfl (lv_at hl15 0 rfl) ?_
            refine va_get (D := G) (ci := 10) (v := .ref aMcursorTime) (C := RX10) (T := TX10) (N := 40) hx hb htc iX10 hown hK hw17.1 0 rfl rfl 28 (by decide) (htc _ mw_975) (fun _ h9 => h9) rfl dX10_meet_83 ?_
            refine lv_aload_n hx hb dX10_meet_86 rfl (lv_at hl15 0 rfl) ?_
            refine va_get (D := G) (ci := 10) (v := .int M_askMany) (C := RX10) (T := TX10) (N := 40) hx hb htc iX10 hown hK hw17.1 0 rfl rfl 36 (by decide) (htc _ mw_983) (fun _ h9 => h9) rfl dX10_meet_87 ?_
            refine lv_iload_n hx hb dX10_meet_90 rfl (lv_at hl15 1 rfl) ?_
            replace hJ_20 := ckb_some hJ_20
            obtain ⟨hin_23, hJ_20⟩ := hJ_20
            refine va_iast hx hb hK hw17.1 hw17.2.1 hw17.2.2 1 0 rfl rfl hin_23 dX10_meet_91 (fun H24 locs24 hP hD hS => ?_)
            have hw24 : wS G A s H24 locs24 [oX10 aM M_thrown M_series M_most M_ratio aMdisk M_writes M_fuse M_down M_recovers M_looks M_unpacked aMits aMmany aMplace aMlength aMtimes aMvalues aMorder M_chunks M_epoch M_side aMheadOf aMheadTime aMheadValue M_logged aMnext aMisNew M_nexts aMcursorTime aMcursorValue M_hasCursor M_cursorMany M_cursorAt aMmade M_bits M_from M_askMany s_3 s_10 (M_askSum + (Int32.toInt64 p1)), rI aMcursorTime cI 6300 (upd M_cursorTime (Int32.toNatClampNeg M_askMany) p0), rI aMcursorValue cI 6300 M_cursorValue] := ⟨hP, hD, hS⟩
            clear hP hD hS hw17 H17 locs17
            refine lv_aload_n hx hb dX10_meet_92 rfl (lv_at hl15 0 rfl) ?_
            refine va_get (D := G) (ci := 10) (v := .ref aMcursorValue) (C := RX10) (T := TX10) (N := 40) hx hb htc iX10 hown hK hw24.1 0 rfl rfl 29 (by decide) (htc _ mw_976) (fun _ h9 => h9) rfl dX10_meet_93 ?_
            refine lv_aload_n hx hb dX10_meet_96 rfl (lv_at hl15 0 rfl) ?_
            refine va_get (D := G) (ci := 10) (v := .int M_askMany) (C := RX10) (T := TX10) (N := 40) hx hb htc iX10 hown hK hw24.1 0 rfl rfl 36 (by decide) (htc _ mw_983) (fun _ h9 => h9) rfl dX10_meet_97 ?_
            refine lv_iload_n hx hb dX10_meet_100 rfl (lv_at hl15 2 rfl) ?_
            replace hJ_20 := ckb_some hJ_20
            obtain ⟨hin_25, hJ_20⟩ := hJ_20
            refine va_iast hx hb hK hw24.1 hw24.2.1 hw24.2.2 2 0 rfl rfl hin_25 dX10_meet_101 (fun H26 locs26 hP hD hS => ?_)
            have hw26 : wS G A s H26 locs26 [oX10 aM M_thrown M_series M_most M_ratio aMdisk M_writes M_fuse M_down M_recovers M_looks M_unpacked aMits aMmany aMplace aMlength aMtimes aMvalues aMorder M_chunks M_epoch M_side aMheadOf aMheadTime aMheadValue M_logged aMnext aMisNew M_nexts aMcursorTime aMcursorValue M_hasCursor M_cursorMany M_cursorAt aMmade M_bits M_from M_askMany s_3 s_10 (M_askSum + (Int32.toInt64 p1)), rI aMcursorTime cI 6300 (upd M_cursorTime (Int32.toNatClampNeg M_askMany) p0), rI aMcursorValue cI 6300 (upd M_cursorValue (Int32.toNatClampNeg M_askMany) p1)] := ⟨hP, hD, hS⟩
            clear hP hD hS hw24 H24 locs24
            cases hJ_20
            exact kj_21 _ _ _ hw26 (lv_sub hl15 [0] rfl)
        clear hfin
        refine lv_if_eq (tgt := 55) hx hb dX10_meet_44 (by decide) (fun c_13 => ?_) (fun c_13 => ?_)
        · replace hJ_11 := it_t c_13 hJ_11
          refine lv_iload_n hx hb dX10_meet_55 rfl (lv_at hl8 2 rfl) ?_
          refine lv_goto (tgt := 63) hx hb dX10_meet_56 (by decide) ?_
          cases hJ_11
          exact kj_12 _ _ _ hw9 (lv_sub hl8 [0, 1, 2, 3] rfl)
        · replace hJ_11 := it_f c_13 hJ_11
          refine lv_iload_n hx hb dX10_meet_47 rfl (lv_at hl8 2 rfl) ?_
          refine lv_aload_n hx hb dX10_meet_48 rfl (lv_at hl8 0 rfl) ?_
          refine va_get (D := G) (ci := 10) (v := .int M_askGreatest) (C := RX10) (T := TX10) (N := 40) hx hb htc iX10 hown hK hw9.1 0 rfl rfl 38 (by decide) (htc _ mw_985) (fun _ h9 => h9) rfl dX10_meet_49 ?_
          refine lv_icmp_le (tgt := 59) hx hb dX10_meet_52 (by decide) (fun c_14 => ?_) (fun c_14 => ?_)
          · replace hJ_11 := it_t c_14 hJ_11
            refine lv_aload_n hx hb dX10_meet_59 rfl (lv_at hl8 0 rfl) ?_
            refine va_get (D := G) (ci := 10) (v := .int M_askGreatest) (C := RX10) (T := TX10) (N := 40) hx hb htc iX10 hown hK hw9.1 0 rfl rfl 38 (by decide) (htc _ mw_985) (fun _ h9 => h9) rfl dX10_meet_60 ?_
            cases hJ_11
            exact kj_12 _ _ _ hw9 (lv_sub hl8 [0, 1, 2, 3] rfl)
          · replace hJ_11 := it_f c_14 hJ_11
            refine lv_iload_n hx hb dX10_meet_55 rfl (lv_at hl8 2 rfl) ?_
            refine lv_goto (tgt := 63) hx hb dX10_meet_56 (by decide) ?_
            cases hJ_11
            exact kj_12 _ _ _ hw9 (lv_sub hl8 [0, 1, 2, 3] rfl)
      clear hfin
      refine lv_if_eq (tgt := 28) hx hb dX10_meet_17 (by decide) (fun c_6 => ?_) (fun c_6 => ?_)
      · replace hJ_4 := it_t c_6 hJ_4
        refine lv_iload_n hx hb dX10_meet_28 rfl (lv_at hl0 2 rfl) ?_
        refine lv_goto (tgt := 36) hx hb dX10_meet_29 (by decide) ?_
        cases hJ_4
        exact kj_5 _ _ _ hw0 (lv_sub hl0 [0, 1, 2, 5] rfl)
      · replace hJ_4 := it_f c_6 hJ_4
        refine lv_iload_n hx hb dX10_meet_20 rfl (lv_at hl0 2 rfl) ?_
        refine lv_aload_n hx hb dX10_meet_21 rfl (lv_at hl0 0 rfl) ?_
        refine va_get (D := G) (ci := 10) (v := .int M_askLeast) (C := RX10) (T := TX10) (N := 40) hx hb htc iX10 hown hK hw0.1 0 rfl rfl 37 (by decide) (htc _ mw_984) (fun _ h9 => h9) rfl dX10_meet_22 ?_
        refine lv_icmp_ge (tgt := 32) hx hb dX10_meet_25 (by decide) (fun c_7 => ?_) (fun c_7 => ?_)
        · replace hJ_4 := it_t c_7 hJ_4
          refine lv_aload_n hx hb dX10_meet_32 rfl (lv_at hl0 0 rfl) ?_
          refine va_get (D := G) (ci := 10) (v := .int M_askLeast) (C := RX10) (T := TX10) (N := 40) hx hb htc iX10 hown hK hw0.1 0 rfl rfl 37 (by decide) (htc _ mw_984) (fun _ h9 => h9) rfl dX10_meet_33 ?_
          cases hJ_4
          exact kj_5 _ _ _ hw0 (lv_sub hl0 [0, 1, 2, 5] rfl)
        · replace hJ_4 := it_f c_7 hJ_4
          refine lv_iload_n hx hb dX10_meet_28 rfl (lv_at hl0 2 rfl) ?_
          refine lv_goto (tgt := 36) hx hb dX10_meet_29 (by decide) ?_
          cases hJ_4
          exact kj_5 _ _ _ hw0 (lv_sub hl0 [0, 1, 2, 5] rfl)
    · replace hfin := it_f c_2 hfin
      cases hfin
      rw [hQQ]
      exact ct_vret hx hb hr hlocks hw0.1 hw0.2.1 hw0.2.2 dX10_meet_11
abbrev rm_X10_chunksOf : Room := { frames := 0, cells := 0, slots := 0, locals := 0 }
theorem hd_X10_chunksOf : yX10_chunksOf.cls = RX10 ∧ yX10_chunksOf.cls ≠ "java/lang/invoke/MethodHandle" ∧ yX10_chunksOf.cls ≠ "java/lang/invoke/VarHandle" ∧ (parseMethodDescriptor yX10_chunksOf.desc).map (fun d => d.parameters.length) = some 1 := by decide +kernel
set_option maxHeartbeats 4000000 in
set_option maxRecDepth 100000 in
theorem c_X10_chunksOf (l : Launch) (G : va_G) (cI cZ cJ : ClassId) (aM aMdisk aMits aMmany aMplace aMlength aMtimes aMvalues aMorder aMheadOf aMheadTime aMheadValue aMnext aMisNew aMcursorTime aMcursorValue aMmade : Nat) (M_thrown : Int32) (M_series : Int32) (M_most : Int32) (M_ratio : Int32) (M_writes : Int32) (M_fuse : Int32) (M_down : Int32) (M_recovers : Int32) (M_looks : Int32) (M_unpacked : Int32) (M_chunks : Int32) (M_epoch : Int32) (M_side : Int32) (M_logged : Int32) (M_nexts : Int32) (M_hasCursor : Int32) (M_cursorMany : Int32) (M_cursorAt : Int32) (M_bits : Int32) (M_from : Int32) (M_askMany : Int32) (M_askLeast : Int32) (M_askGreatest : Int32) (M_askSum : Int64) (M_its : Nat → Int32) (M_order : Nat → Int32) (p0 : Int32) {r : Int32} (hfin : m_X10_chunksOf M_chunks M_its M_order p0 = some (r)) : CT l yX10_chunksOf cX10_chunksOf 4 (some .int) rm_X10_chunksOf G (tyC cI cZ cJ) [.ref aM, .int p0] [oX10 aM M_thrown M_series M_most M_ratio aMdisk M_writes M_fuse M_down M_recovers M_looks M_unpacked aMits aMmany aMplace aMlength aMtimes aMvalues aMorder M_chunks M_epoch M_side aMheadOf aMheadTime aMheadValue M_logged aMnext aMisNew M_nexts aMcursorTime aMcursorValue M_hasCursor M_cursorMany M_cursorAt aMmade M_bits M_from M_askMany M_askLeast M_askGreatest M_askSum, rI aMits cI 240 M_its, rI aMorder cI 96 M_order] (some (.int r)) [oX10 aM M_thrown M_series M_most M_ratio aMdisk M_writes M_fuse M_down M_recovers M_looks M_unpacked aMits aMmany aMplace aMlength aMtimes aMvalues aMorder M_chunks M_epoch M_side aMheadOf aMheadTime aMheadValue M_logged aMnext aMisNew M_nexts aMcursorTime aMcursorValue M_hasCursor M_cursorMany M_cursorAt aMmade M_bits M_from M_askMany M_askLeast M_askGreatest M_askSum, rI aMits cI 240 M_its, rI aMorder cI 96 M_order] := by
  refine CT.ofW (lvl := [(0, .ref aM), (1, .int p0)]) (by decide) (Nat.le_of_ble_eq_true rfl) rfl ?_
  intro p e s m args below meth c A ls0 QQ hQQ hx hb hml hr hlocks htc hN hown hK hA hw0 hl0
  rw [m_X10_chunksOf] at hfin
  refine lv_iconst (v := (0 : Int32)) hx hb dX10_chunksOf_0 (by decide) ?_
  refine lv_istore_n (lv' := [(2, .int (0 : Int32)), (0, .ref aM), (1, .int p0)]) hx hb dX10_chunksOf_1 rfl hl0 (by decide) rfl (fun ls1 hl1 => ?_)
  clear hl0 ls0
  refine lv_iconst (v := (0 : Int32)) hx hb dX10_chunksOf_2 (by decide) ?_
  refine lv_istore_n (lv' := [(3, .int (0 : Int32)), (2, .int (0 : Int32)), (0, .ref aM), (1, .int p0)]) hx hb dX10_chunksOf_3 rfl hl1 (by decide) rfl (fun ls2 hl2 => ?_)
  clear hl1 ls1
  replace hfin := ob1_some hfin
  obtain ⟨v2_9, hL_5, hfin⟩ := hfin
  have kx_6 : ∀ (H : Heap) (locs : List Loc) (ls : Array Slot), wS G A s H locs [oX10 aM M_thrown M_series M_most M_ratio aMdisk M_writes M_fuse M_down M_recovers M_looks M_unpacked aMits aMmany aMplace aMlength aMtimes aMvalues aMorder M_chunks M_epoch M_side aMheadOf aMheadTime aMheadValue M_logged aMnext aMisNew M_nexts aMcursorTime aMcursorValue M_hasCursor M_cursorMany M_cursorAt aMmade M_bits M_from M_askMany M_askLeast M_askGreatest M_askSum, rI aMits cI 240 M_its, rI aMorder cI 96 M_order] → lv_has ls 4 [(2, .int v2_9)] → W p l e rm_X10_chunksOf s m args below meth c H locs 0 0 QQ (F0 m 41 ls []) := by
    clear hw0 hl2 ls2 hL_5
    intro H21 locs21 ls21 hw21 hl21
    refine lv_iload_n hx hb dX10_chunksOf_41 rfl (lv_at hl21 0 rfl) ?_
    cases hfin
    rw [hQQ]
    exact ct_iret hx hb hr hlocks hw21.1 hw21.2.1 hw21.2.2 dX10_chunksOf_42
  have lp_7 : ∀ (n : Nat) (v2_3 : Int32) (v3_4 : Int32), lp_X10_chunksOf_4 M_chunks M_its M_order p0 n v2_3 v3_4 = some (v2_9) → ∀ (H : Heap) (locs : List Loc) (ls : Array Slot), wS G A s H locs [oX10 aM M_thrown M_series M_most M_ratio aMdisk M_writes M_fuse M_down M_recovers M_looks M_unpacked aMits aMmany aMplace aMlength aMtimes aMvalues aMorder M_chunks M_epoch M_side aMheadOf aMheadTime aMheadValue M_logged aMnext aMisNew M_nexts aMcursorTime aMcursorValue M_hasCursor M_cursorMany M_cursorAt aMmade M_bits M_from M_askMany M_askLeast M_askGreatest M_askSum, rI aMits cI 240 M_its, rI aMorder cI 96 M_order] → lv_has ls 4 [(0, .ref aM), (1, .int p0), (2, .int v2_3), (3, .int v3_4)] → W p l e rm_X10_chunksOf s m args below meth c H locs 0 0 QQ (F0 m 4 ls []) := by
    clear hw0 hl2 ls2 hfin
    intro n
    induction n with
    | zero =>
      intro v2_3 v3_4 hB_8
      exact absurd hB_8 (by rw [lp_X10_chunksOf_4]; exact fun h9 => nomatch h9)
    | succ n ih =>
      intro v2_3 v3_4 hB_8 H10 locs10 ls10 hw10 hl10
      rw [lp_X10_chunksOf_4] at hB_8
      refine lv_iload_n hx hb dX10_chunksOf_4 rfl (lv_at hl10 3 rfl) ?_
      refine lv_aload_n hx hb dX10_chunksOf_5 rfl (lv_at hl10 0 rfl) ?_
      refine va_get (D := G) (ci := 10) (v := .int M_chunks) (C := RX10) (T := TX10) (N := 40) hx hb htc iX10 hown hK hw10.1 0 rfl rfl 18 (by decide) (htc _ mw_965) (fun _ h9 => h9) rfl dX10_chunksOf_6 ?_
      refine lv_icmp_ge (tgt := 41) hx hb dX10_chunksOf_9 (by decide) (fun c_11 => ?_) (fun c_11 => ?_)
      · replace hB_8 := it_t c_11 hB_8
        cases hB_8
        exact kx_6 _ _ _ hw10 (lv_sub hl10 [2] rfl)
      · replace hB_8 := it_f c_11 hB_8
        refine lv_iload_n hx hb dX10_chunksOf_12 rfl (lv_at hl10 2 rfl) ?_
        refine lv_aload_n hx hb dX10_chunksOf_13 rfl (lv_at hl10 0 rfl) ?_
        refine va_get (D := G) (ci := 10) (v := .ref aMits) (C := RX10) (T := TX10) (N := 40) hx hb htc iX10 hown hK hw10.1 0 rfl rfl 11 (by decide) (htc _ mw_958) (fun _ h9 => h9) rfl dX10_chunksOf_14 ?_
        refine lv_aload_n hx hb dX10_chunksOf_17 rfl (lv_at hl10 0 rfl) ?_
        refine va_get (D := G) (ci := 10) (v := .ref aMorder) (C := RX10) (T := TX10) (N := 40) hx hb htc iX10 hown hK hw10.1 0 rfl rfl 17 (by decide) (htc _ mw_964) (fun _ h9 => h9) rfl dX10_chunksOf_18 ?_
        refine lv_iload_n hx hb dX10_chunksOf_21 rfl (lv_at hl10 3 rfl) ?_
        replace hB_8 := ckb_some hB_8
        obtain ⟨hin_12, hB_8⟩ := hB_8
        refine va_iald hx hb hK hw10.1 2 0 rfl rfl hin_12 dX10_chunksOf_22 ?_
        replace hB_8 := ckb_some hB_8
        obtain ⟨hin_13, hB_8⟩ := hB_8
        refine va_iald hx hb hK hw10.1 1 0 rfl rfl hin_13 dX10_chunksOf_23 ?_
        refine lv_iload_n hx hb dX10_chunksOf_24 rfl (lv_at hl10 1 rfl) ?_
        replace hB_8 := ob1_some hB_8
        obtain ⟨s_14, hJ_15, hB_8⟩ := hB_8
        have kj_16 : ∀ (H : Heap) (locs : List Loc) (ls : Array Slot), wS G A s H locs [oX10 aM M_thrown M_series M_most M_ratio aMdisk M_writes M_fuse M_down M_recovers M_looks M_unpacked aMits aMmany aMplace aMlength aMtimes aMvalues aMorder M_chunks M_epoch M_side aMheadOf aMheadTime aMheadValue M_logged aMnext aMisNew M_nexts aMcursorTime aMcursorValue M_hasCursor M_cursorMany M_cursorAt aMmade M_bits M_from M_askMany M_askLeast M_askGreatest M_askSum, rI aMits cI 240 M_its, rI aMorder cI 96 M_order] → lv_has ls 4 [(0, .ref aM), (1, .int p0), (3, .int v3_4)] → W p l e rm_X10_chunksOf s m args below meth c H locs 0 0 QQ (F0 m 33 ls [.int s_14, .int v2_3]) := by
          clear hw10 H10 locs10 hl10 ls10 hJ_15
          intro H18 locs18 ls18 hw18 hl18
          refine lv_iadd hx hb dX10_chunksOf_33 ?_
          refine lv_istore_n (lv' := [(2, .int (v2_3 + s_14)), (0, .ref aM), (1, .int p0), (3, .int v3_4)]) hx hb dX10_chunksOf_34 rfl hl18 (by decide) rfl (fun ls19 hl19 => ?_)
          clear hl18 ls18
          refine lv_iinc (v := (v3_4 + (1 : Int32))) (lv' := [(3, .int (v3_4 + (1 : Int32))), (2, .int (v2_3 + s_14)), (0, .ref aM), (1, .int p0)]) hx hb dX10_chunksOf_35 hl19 (k := 3) rfl rfl (by decide) rfl (fun ls20 hl20 => ?_)
          clear hl19 ls19
          refine lv_goto (tgt := 4) hx hb dX10_chunksOf_38 (by decide) ?_
          exact ih (v2_3 + s_14) (v3_4 + (1 : Int32)) hB_8 _ _ _ hw18 (lv_sub hl20 [2, 3, 1, 0] rfl)
        clear hB_8
        refine lv_icmp_ne (tgt := 32) hx hb dX10_chunksOf_25 (by decide) (fun c_17 => ?_) (fun c_17 => ?_)
        · replace hJ_15 := it_f c_17 hJ_15
          refine lv_iconst (v := (0 : Int32)) hx hb dX10_chunksOf_32 (by decide) ?_
          cases hJ_15
          exact kj_16 _ _ _ hw10 (lv_sub hl10 [0, 1, 3] rfl)
        · replace hJ_15 := it_t c_17 hJ_15
          refine lv_iconst (v := (1 : Int32)) hx hb dX10_chunksOf_28 (by decide) ?_
          refine lv_goto (tgt := 33) hx hb dX10_chunksOf_29 (by decide) ?_
          cases hJ_15
          exact kj_16 _ _ _ hw10 (lv_sub hl10 [0, 1, 3] rfl)
  exact lp_7 NN (0 : Int32) (0 : Int32) hL_5 _ _ _ hw0 (lv_sub hl2 [2, 3, 1, 0] rfl)
abbrev rm_X10_groupsOf : Room := { frames := 1, cells := 0, slots := 0, locals := 23 }
theorem hd_X10_groupsOf : yX10_groupsOf.cls = RX10 ∧ yX10_groupsOf.cls ≠ "java/lang/invoke/MethodHandle" ∧ yX10_groupsOf.cls ≠ "java/lang/invoke/VarHandle" ∧ (parseMethodDescriptor yX10_groupsOf.desc).map (fun d => d.parameters.length) = some 1 := by decide +kernel
set_option maxHeartbeats 4000000 in
set_option maxRecDepth 100000 in
theorem c_X10_groupsOf (l : Launch) (G : va_G) (cI cZ cJ : ClassId) (aM aMdisk aMits aMmany aMplace aMlength aMtimes aMvalues aMorder aMheadOf aMheadTime aMheadValue aMnext aMisNew aMcursorTime aMcursorValue aMmade : Nat) (M_thrown : Int32) (M_series : Int32) (M_most : Int32) (M_ratio : Int32) (M_writes : Int32) (M_fuse : Int32) (M_down : Int32) (M_recovers : Int32) (M_looks : Int32) (M_unpacked : Int32) (M_chunks : Int32) (M_epoch : Int32) (M_side : Int32) (M_logged : Int32) (M_nexts : Int32) (M_hasCursor : Int32) (M_cursorMany : Int32) (M_cursorAt : Int32) (M_bits : Int32) (M_from : Int32) (M_askMany : Int32) (M_askLeast : Int32) (M_askGreatest : Int32) (M_askSum : Int64) (M_its : Nat → Int32) (M_order : Nat → Int32) (p0 : Int32) {r : Int32} (hfin : m_X10_groupsOf M_ratio M_chunks M_its M_order p0 = some (r)) : CT l yX10_groupsOf cX10_groupsOf 2 (some .int) rm_X10_groupsOf G (tyC cI cZ cJ) [.ref aM, .int p0] [oX10 aM M_thrown M_series M_most M_ratio aMdisk M_writes M_fuse M_down M_recovers M_looks M_unpacked aMits aMmany aMplace aMlength aMtimes aMvalues aMorder M_chunks M_epoch M_side aMheadOf aMheadTime aMheadValue M_logged aMnext aMisNew M_nexts aMcursorTime aMcursorValue M_hasCursor M_cursorMany M_cursorAt aMmade M_bits M_from M_askMany M_askLeast M_askGreatest M_askSum, rI aMits cI 240 M_its, rI aMorder cI 96 M_order] (some (.int r)) [oX10 aM M_thrown M_series M_most M_ratio aMdisk M_writes M_fuse M_down M_recovers M_looks M_unpacked aMits aMmany aMplace aMlength aMtimes aMvalues aMorder M_chunks M_epoch M_side aMheadOf aMheadTime aMheadValue M_logged aMnext aMisNew M_nexts aMcursorTime aMcursorValue M_hasCursor M_cursorMany M_cursorAt aMmade M_bits M_from M_askMany M_askLeast M_askGreatest M_askSum, rI aMits cI 240 M_its, rI aMorder cI 96 M_order] := by
  refine CT.ofW (lvl := [(0, .ref aM), (1, .int p0)]) (by decide) (Nat.le_of_ble_eq_true rfl) rfl ?_
  intro p e s m args below meth c A ls0 QQ hQQ hx hb hml hr hlocks htc hN hown hK hA hw0 hl0
  rw [m_X10_groupsOf] at hfin
  refine lv_aload_n hx hb dX10_groupsOf_0 rfl (lv_at hl0 0 rfl) ?_
  refine lv_iload_n hx hb dX10_groupsOf_1 rfl (lv_at hl0 1 rfl) ?_
  replace hfin := ob1_some hfin
  obtain ⟨r_2, hE_1, hfin⟩ := hfin
  refine ctV (a := aM) (As := [.int p0]) (rest := []) (st1 := [.int r_2]) (wc := [oX10 aM M_thrown M_series M_most M_ratio aMdisk M_writes M_fuse M_down M_recovers M_looks M_unpacked aMits aMmany aMplace aMlength aMtimes aMvalues aMorder M_chunks M_epoch M_side aMheadOf aMheadTime aMheadValue M_logged aMnext aMisNew M_nexts aMcursorTime aMcursorValue M_hasCursor M_cursorMany M_cursorAt aMmade M_bits M_from M_askMany M_askLeast M_askGreatest M_askSum, rI aMits cI 240 M_its, rI aMorder cI 96 M_order]) (w1 := [oX10 aM M_thrown M_series M_most M_ratio aMdisk M_writes M_fuse M_down M_recovers M_looks M_unpacked aMits aMmany aMplace aMlength aMtimes aMvalues aMorder M_chunks M_epoch M_side aMheadOf aMheadTime aMheadValue M_logged aMnext aMisNew M_nexts aMcursorTime aMcursorValue M_hasCursor M_cursorMany M_cursorAt aMmade M_bits M_from M_askMany M_askLeast M_askGreatest M_askSum, rI aMits cI 240 M_its, rI aMorder cI 96 M_order]) (wr := []) (wb := [oX10 aM M_thrown M_series M_most M_ratio aMdisk M_writes M_fuse M_down M_recovers M_looks M_unpacked aMits aMmany aMplace aMlength aMtimes aMvalues aMorder M_chunks M_epoch M_side aMheadOf aMheadTime aMheadValue M_logged aMnext aMisNew M_nexts aMcursorTime aMcursorValue M_hasCursor M_cursorMany M_cursorAt aMmade M_bits M_from M_askMany M_askLeast M_askGreatest M_askSum, rI aMits cI 240 M_its, rI aMorder cI 96 M_order]) (v := (some (.int r_2))) hx hb hml hown htc hN (c_X10_chunksOf l G cI cZ cJ aM aMdisk aMits aMmany aMplace aMlength aMtimes aMvalues aMorder aMheadOf aMheadTime aMheadValue aMnext aMisNew aMcursorTime aMcursorValue aMmade M_thrown M_series M_most M_ratio M_writes M_fuse M_down M_recovers M_looks M_unpacked M_chunks M_epoch M_side M_logged M_nexts M_hasCursor M_cursorMany M_cursorAt M_bits M_from M_askMany M_askLeast M_askGreatest M_askSum M_its M_order p0 hE_1) mw_1229 mw_1231 mp_65 mw_12 mw_1232 hd_X10_chunksOf ⟨rfl, rfl⟩ ⟨Nat.le_of_ble_eq_true rfl, Nat.le_of_ble_eq_true rfl⟩ hK hw0 hA [0, 1, 2] [] [0, 1, 2] rfl rfl rfl rfl rfl (by decide) rfl rfl rfl 0 rfl rfl rfl rfl hl0.1 rfl rfl (Nat.le_of_ble_eq_true rfl) dX10_groupsOf_2 ⟨Nat.zero_le _, Nat.zero_le _⟩ (fun H3 locs3 hw3 => ?_)
  clear hw0
  refine lv_aload_n hx hb dX10_groupsOf_5 rfl (lv_at hl0 0 rfl) ?_
  refine va_get (D := G) (ci := 10) (v := .int M_ratio) (C := RX10) (T := TX10) (N := 40) hx hb htc iX10 hown hK hw3.1 0 rfl rfl 3 (by decide) (htc _ mw_950) (fun _ h9 => h9) rfl dX10_groupsOf_6 ?_
  refine lv_iadd hx hb dX10_groupsOf_9 ?_
  refine lv_iconst (v := (1 : Int32)) hx hb dX10_groupsOf_10 (by decide) ?_
  refine lv_isub hx hb dX10_groupsOf_11 ?_
  refine lv_aload_n hx hb dX10_groupsOf_12 rfl (lv_at hl0 0 rfl) ?_
  refine va_get (D := G) (ci := 10) (v := .int M_ratio) (C := RX10) (T := TX10) (N := 40) hx hb htc iX10 hown hK hw3.1 0 rfl rfl 3 (by decide) (htc _ mw_950) (fun _ h9 => h9) rfl dX10_groupsOf_13 ?_
  replace hfin := ckn_some hfin
  obtain ⟨hne_4, hfin⟩ := hfin
  refine lv_idiv hx hb dX10_groupsOf_16 hne_4 ?_
  cases hfin
  rw [hQQ]
  exact ct_iret hx hb hr hlocks hw3.1 hw3.2.1 hw3.2.2 dX10_groupsOf_17
abbrev rm_X10_slot : Room := { frames := 0, cells := 0, slots := 0, locals := 0 }
theorem hd_X10_slot : yX10_slot.cls = RX10 ∧ yX10_slot.cls ≠ "java/lang/invoke/MethodHandle" ∧ yX10_slot.cls ≠ "java/lang/invoke/VarHandle" ∧ (parseMethodDescriptor yX10_slot.desc).map (fun d => d.parameters.length) = some 2 := by decide +kernel
set_option maxHeartbeats 4000000 in
set_option maxRecDepth 100000 in
theorem c_X10_slot (l : Launch) (G : va_G) (cI cZ cJ : ClassId) (aM aMdisk aMits aMmany aMplace aMlength aMtimes aMvalues aMorder aMheadOf aMheadTime aMheadValue aMnext aMisNew aMcursorTime aMcursorValue aMmade : Nat) (M_thrown : Int32) (M_series : Int32) (M_most : Int32) (M_ratio : Int32) (M_writes : Int32) (M_fuse : Int32) (M_down : Int32) (M_recovers : Int32) (M_looks : Int32) (M_unpacked : Int32) (M_chunks : Int32) (M_epoch : Int32) (M_side : Int32) (M_logged : Int32) (M_nexts : Int32) (M_hasCursor : Int32) (M_cursorMany : Int32) (M_cursorAt : Int32) (M_bits : Int32) (M_from : Int32) (M_askMany : Int32) (M_askLeast : Int32) (M_askGreatest : Int32) (M_askSum : Int64) (M_its : Nat → Int32) (M_order : Nat → Int32) (p0 : Int32) (p1 : Int32) {r : Int32} (hfin : m_X10_slot M_chunks M_its M_order p0 p1 = some (r)) : CT l yX10_slot cX10_slot 5 (some .int) rm_X10_slot G (tyC cI cZ cJ) [.ref aM, .int p0, .int p1] [oX10 aM M_thrown M_series M_most M_ratio aMdisk M_writes M_fuse M_down M_recovers M_looks M_unpacked aMits aMmany aMplace aMlength aMtimes aMvalues aMorder M_chunks M_epoch M_side aMheadOf aMheadTime aMheadValue M_logged aMnext aMisNew M_nexts aMcursorTime aMcursorValue M_hasCursor M_cursorMany M_cursorAt aMmade M_bits M_from M_askMany M_askLeast M_askGreatest M_askSum, rI aMits cI 240 M_its, rI aMorder cI 96 M_order] (some (.int r)) [oX10 aM M_thrown M_series M_most M_ratio aMdisk M_writes M_fuse M_down M_recovers M_looks M_unpacked aMits aMmany aMplace aMlength aMtimes aMvalues aMorder M_chunks M_epoch M_side aMheadOf aMheadTime aMheadValue M_logged aMnext aMisNew M_nexts aMcursorTime aMcursorValue M_hasCursor M_cursorMany M_cursorAt aMmade M_bits M_from M_askMany M_askLeast M_askGreatest M_askSum, rI aMits cI 240 M_its, rI aMorder cI 96 M_order] := by
  refine CT.ofW (lvl := [(0, .ref aM), (1, .int p0), (2, .int p1)]) (by decide) (Nat.le_of_ble_eq_true rfl) rfl ?_
  intro p e s m args below meth c A ls0 QQ hQQ hx hb hml hr hlocks htc hN hown hK hA hw0 hl0
  rw [m_X10_slot] at hfin
  refine lv_iconst (v := (0 : Int32)) hx hb dX10_slot_0 (by decide) ?_
  refine lv_istore_n (lv' := [(3, .int (0 : Int32)), (0, .ref aM), (1, .int p0), (2, .int p1)]) hx hb dX10_slot_1 rfl hl0 (by decide) rfl (fun ls1 hl1 => ?_)
  clear hl0 ls0
  refine lv_iconst (v := (0 : Int32)) hx hb dX10_slot_2 (by decide) ?_
  refine lv_istore (lv' := [(4, .int (0 : Int32)), (3, .int (0 : Int32)), (0, .ref aM), (1, .int p0), (2, .int p1)]) hx hb dX10_slot_3 hl1 (by decide) rfl (fun ls2 hl2 => ?_)
  clear hl1 ls1
  have lp_7 : ∀ (n : Nat) (v3_3 : Int32) (v4_4 : Int32), lp_X10_slot_5 M_chunks M_its M_order p0 p1 n v3_3 v4_4 = some (r) → ∀ (H : Heap) (locs : List Loc) (ls : Array Slot), wS G A s H locs [oX10 aM M_thrown M_series M_most M_ratio aMdisk M_writes M_fuse M_down M_recovers M_looks M_unpacked aMits aMmany aMplace aMlength aMtimes aMvalues aMorder M_chunks M_epoch M_side aMheadOf aMheadTime aMheadValue M_logged aMnext aMisNew M_nexts aMcursorTime aMcursorValue M_hasCursor M_cursorMany M_cursorAt aMmade M_bits M_from M_askMany M_askLeast M_askGreatest M_askSum, rI aMits cI 240 M_its, rI aMorder cI 96 M_order] → lv_has ls 5 [(0, .ref aM), (1, .int p0), (2, .int p1), (3, .int v3_3), (4, .int v4_4)] → W p l e rm_X10_slot s m args below meth c H locs 0 0 QQ (F0 m 5 ls []) := by
    clear hw0 hl2 ls2 hfin
    intro n
    induction n with
    | zero =>
      intro v3_3 v4_4 hB_8
      exact absurd hB_8 (by rw [lp_X10_slot_5]; exact fun h9 => nomatch h9)
    | succ n ih =>
      intro v3_3 v4_4 hB_8 H9 locs9 ls9 hw9 hl9
      rw [lp_X10_slot_5] at hB_8
      refine lv_iload hx hb dX10_slot_5 (lv_at hl9 4 rfl) ?_
      refine lv_aload_n hx hb dX10_slot_7 rfl (lv_at hl9 0 rfl) ?_
      refine va_get (D := G) (ci := 10) (v := .int M_chunks) (C := RX10) (T := TX10) (N := 40) hx hb htc iX10 hown hK hw9.1 0 rfl rfl 18 (by decide) (htc _ mw_965) (fun _ h9 => h9) rfl dX10_slot_8 ?_
      refine lv_icmp_ge (tgt := 55) hx hb dX10_slot_11 (by decide) (fun c_10 => ?_) (fun c_10 => ?_)
      · replace hB_8 := it_t c_10 hB_8
        refine lv_iconst (v := (-1 : Int32)) hx hb dX10_slot_55 (by decide) ?_
        cases hB_8
        rw [hQQ]
        exact ct_iret hx hb hr hlocks hw9.1 hw9.2.1 hw9.2.2 dX10_slot_56
      · replace hB_8 := it_f c_10 hB_8
        refine lv_aload_n hx hb dX10_slot_14 rfl (lv_at hl9 0 rfl) ?_
        refine va_get (D := G) (ci := 10) (v := .ref aMits) (C := RX10) (T := TX10) (N := 40) hx hb htc iX10 hown hK hw9.1 0 rfl rfl 11 (by decide) (htc _ mw_958) (fun _ h9 => h9) rfl dX10_slot_15 ?_
        refine lv_aload_n hx hb dX10_slot_18 rfl (lv_at hl9 0 rfl) ?_
        refine va_get (D := G) (ci := 10) (v := .ref aMorder) (C := RX10) (T := TX10) (N := 40) hx hb htc iX10 hown hK hw9.1 0 rfl rfl 17 (by decide) (htc _ mw_964) (fun _ h9 => h9) rfl dX10_slot_19 ?_
        refine lv_iload hx hb dX10_slot_22 (lv_at hl9 4 rfl) ?_
        replace hB_8 := ckb_some hB_8
        obtain ⟨hin_11, hB_8⟩ := hB_8
        refine va_iald hx hb hK hw9.1 2 0 rfl rfl hin_11 dX10_slot_24 ?_
        replace hB_8 := ckb_some hB_8
        obtain ⟨hin_12, hB_8⟩ := hB_8
        refine va_iald hx hb hK hw9.1 1 0 rfl rfl hin_12 dX10_slot_25 ?_
        refine lv_iload_n hx hb dX10_slot_26 rfl (lv_at hl9 1 rfl) ?_
        refine lv_icmp_eq (tgt := 33) hx hb dX10_slot_27 (by decide) (fun c_13 => ?_) (fun c_13 => ?_)
        · replace hB_8 := it_t c_13 hB_8
          refine lv_iload_n hx hb dX10_slot_33 rfl (lv_at hl9 3 rfl) ?_
          refine lv_iload_n hx hb dX10_slot_34 rfl (lv_at hl9 2 rfl) ?_
          refine lv_icmp_ne (tgt := 46) hx hb dX10_slot_35 (by decide) (fun c_14 => ?_) (fun c_14 => ?_)
          · replace hB_8 := it_f c_14 hB_8
            refine lv_iinc (v := (v3_3 + (1 : Int32))) (lv' := [(3, .int (v3_3 + (1 : Int32))), (0, .ref aM), (1, .int p0), (2, .int p1), (4, .int v4_4)]) hx hb dX10_slot_46 hl9 (k := 3) rfl rfl (by decide) rfl (fun ls15 hl15 => ?_)
            clear hl9 ls9
            refine lv_iinc (v := (v4_4 + (1 : Int32))) (lv' := [(4, .int (v4_4 + (1 : Int32))), (3, .int (v3_3 + (1 : Int32))), (0, .ref aM), (1, .int p0), (2, .int p1)]) hx hb dX10_slot_49 hl15 (k := 4) rfl rfl (by decide) rfl (fun ls16 hl16 => ?_)
            clear hl15 ls15
            refine lv_goto (tgt := 5) hx hb dX10_slot_52 (by decide) ?_
            exact ih (v3_3 + (1 : Int32)) (v4_4 + (1 : Int32)) hB_8 _ _ _ hw9 (lv_sub hl16 [2, 3, 4, 1, 0] rfl)
          · replace hB_8 := it_t c_14 hB_8
            refine lv_aload_n hx hb dX10_slot_38 rfl (lv_at hl9 0 rfl) ?_
            refine va_get (D := G) (ci := 10) (v := .ref aMorder) (C := RX10) (T := TX10) (N := 40) hx hb htc iX10 hown hK hw9.1 0 rfl rfl 17 (by decide) (htc _ mw_964) (fun _ h9 => h9) rfl dX10_slot_39 ?_
            refine lv_iload hx hb dX10_slot_42 (lv_at hl9 4 rfl) ?_
            replace hB_8 := ckb_some hB_8
            obtain ⟨hin_17, hB_8⟩ := hB_8
            refine va_iald hx hb hK hw9.1 2 0 rfl rfl hin_17 dX10_slot_44 ?_
            cases hB_8
            rw [hQQ]
            exact ct_iret hx hb hr hlocks hw9.1 hw9.2.1 hw9.2.2 dX10_slot_45
        · replace hB_8 := it_f c_13 hB_8
          refine lv_goto (tgt := 49) hx hb dX10_slot_30 (by decide) ?_
          refine lv_iinc (v := (v4_4 + (1 : Int32))) (lv' := [(4, .int (v4_4 + (1 : Int32))), (0, .ref aM), (1, .int p0), (2, .int p1), (3, .int v3_3)]) hx hb dX10_slot_49 hl9 (k := 4) rfl rfl (by decide) rfl (fun ls18 hl18 => ?_)
          clear hl9 ls9
          refine lv_goto (tgt := 5) hx hb dX10_slot_52 (by decide) ?_
          exact ih v3_3 (v4_4 + (1 : Int32)) hB_8 _ _ _ hw9 (lv_sub hl18 [1, 2, 3, 4, 0] rfl)
  exact lp_7 NN (0 : Int32) (0 : Int32) hfin _ _ _ hw0 (lv_sub hl2 [2, 3, 4, 1, 0] rfl)
