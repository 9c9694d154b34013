theorem dX9_append_0 : decode cX9_append 0 = .ok (.aload_n 0, 1) := by decide +kernel
theorem dX9_append_1 : decode cX9_append 1 = .ok (.getfield 79, 3) := by decide +kernel
theorem dX9_append_4 : decode cX9_append 4 = .ok (.invokevirtual 83, 3) := by decide +kernel
theorem dX9_append_7 : decode cX9_append 7 = .ok (.aload_n 0, 1) := by decide +kernel
theorem dX9_append_8 : decode cX9_append 8 = .ok (.getfield 29, 3) := by decide +kernel
theorem dX9_append_11 : decode cX9_append 11 = .ok (.invokevirtual 86, 3) := by decide +kernel
theorem dX9_append_14 : decode cX9_append 14 = .ok (.ifCond .eq 6, 3) := by decide +kernel
theorem dX9_append_17 : decode cX9_append 17 = .ok (.bipush (-9), 2) := by decide +kernel
theorem dX9_append_19 : decode cX9_append 19 = .ok (.ireturn, 1) := by decide +kernel
theorem dX9_append_20 : decode cX9_append 20 = .ok (.aload_n 0, 1) := by decide +kernel
theorem dX9_append_21 : decode cX9_append 21 = .ok (.iload_n 1, 1) := by decide +kernel
theorem dX9_append_22 : decode cX9_append 22 = .ok (.invokevirtual 90, 3) := by decide +kernel
theorem dX9_append_25 : decode cX9_append 25 = .ok (.ifCond .ne 6, 3) := by decide +kernel
theorem dX9_append_28 : decode cX9_append 28 = .ok (.bipush (-2), 2) := by decide +kernel
theorem dX9_append_30 : decode cX9_append 30 = .ok (.ireturn, 1) := by decide +kernel
theorem dX9_append_31 : decode cX9_append 31 = .ok (.aload_n 0, 1) := by decide +kernel
theorem dX9_append_32 : decode cX9_append 32 = .ok (.iload_n 1, 1) := by decide +kernel
theorem dX9_append_33 : decode cX9_append 33 = .ok (.iload_n 2, 1) := by decide +kernel
theorem dX9_append_34 : decode cX9_append 34 = .ok (.invokevirtual 94, 3) := by decide +kernel
theorem dX9_append_37 : decode cX9_append 37 = .ok (.ifCond .ne 5, 3) := by decide +kernel
theorem dX9_append_40 : decode cX9_append 40 = .ok (.iconst (-1), 1) := by decide +kernel
theorem dX9_append_41 : decode cX9_append 41 = .ok (.ireturn, 1) := by decide +kernel
theorem dX9_append_42 : decode cX9_append 42 = .ok (.aload_n 0, 1) := by decide +kernel
theorem dX9_append_43 : decode cX9_append 43 = .ok (.getfield 45, 3) := by decide +kernel
theorem dX9_append_46 : decode cX9_append 46 = .ok (.invokevirtual 98, 3) := by decide +kernel
theorem dX9_append_49 : decode cX9_append 49 = .ok (.ifCond .eq 6, 3) := by decide +kernel
theorem dX9_append_52 : decode cX9_append 52 = .ok (.bipush (-3), 2) := by decide +kernel
theorem dX9_append_54 : decode cX9_append 54 = .ok (.ireturn, 1) := by decide +kernel
theorem dX9_append_55 : decode cX9_append 55 = .ok (.aload_n 0, 1) := by decide +kernel
theorem dX9_append_56 : decode cX9_append 56 = .ok (.getfield 45, 3) := by decide +kernel
theorem dX9_append_59 : decode cX9_append 59 = .ok (.iload_n 1, 1) := by decide +kernel
theorem dX9_append_60 : decode cX9_append 60 = .ok (.iload_n 2, 1) := by decide +kernel
theorem dX9_append_61 : decode cX9_append 61 = .ok (.iload_n 3, 1) := by decide +kernel
theorem dX9_append_62 : decode cX9_append 62 = .ok (.invokevirtual 101, 3) := by decide +kernel
theorem dX9_append_65 : decode cX9_append 65 = .ok (.ifCond .eq 7, 3) := by decide +kernel
theorem dX9_append_68 : decode cX9_append 68 = .ok (.iconst 0, 1) := by decide +kernel
theorem dX9_append_69 : decode cX9_append 69 = .ok (.goto 5, 3) := by decide +kernel
theorem dX9_append_72 : decode cX9_append 72 = .ok (.bipush (-9), 2) := by decide +kernel
theorem dX9_append_74 : decode cX9_append 74 = .ok (.ireturn, 1) := by decide +kernel
theorem dX9_flush_0 : decode cX9_flush 0 = .ok (.aload_n 0, 1) := by decide +kernel
theorem dX9_flush_1 : decode cX9_flush 1 = .ok (.getfield 79, 3) := by decide +kernel
theorem dX9_flush_4 : decode cX9_flush 4 = .ok (.invokevirtual 83, 3) := by decide +kernel
theorem dX9_flush_7 : decode cX9_flush 7 = .ok (.aload_n 0, 1) := by decide +kernel
theorem dX9_flush_8 : decode cX9_flush 8 = .ok (.getfield 29, 3) := by decide +kernel
theorem dX9_flush_11 : decode cX9_flush 11 = .ok (.invokevirtual 86, 3) := by decide +kernel
theorem dX9_flush_14 : decode cX9_flush 14 = .ok (.ifCond .eq 6, 3) := by decide +kernel
theorem dX9_flush_17 : decode cX9_flush 17 = .ok (.bipush (-9), 2) := by decide +kernel
theorem dX9_flush_19 : decode cX9_flush 19 = .ok (.ireturn, 1) := by decide +kernel
theorem dX9_flush_20 : decode cX9_flush 20 = .ok (.aload_n 0, 1) := by decide +kernel
theorem dX9_flush_21 : decode cX9_flush 21 = .ok (.getfield 45, 3) := by decide +kernel
theorem dX9_flush_24 : decode cX9_flush 24 = .ok (.invokevirtual 105, 3) := by decide +kernel
theorem dX9_flush_27 : decode cX9_flush 27 = .ok (.ifCond .ne 5, 3) := by decide +kernel
theorem dX9_flush_30 : decode cX9_flush 30 = .ok (.iconst 0, 1) := by decide +kernel
theorem dX9_flush_31 : decode cX9_flush 31 = .ok (.ireturn, 1) := by decide +kernel
theorem dX9_flush_32 : decode cX9_flush 32 = .ok (.aload_n 0, 1) := by decide +kernel
theorem dX9_flush_33 : decode cX9_flush 33 = .ok (.getfield 61, 3) := by decide +kernel
theorem dX9_flush_36 : decode cX9_flush 36 = .ok (.invokevirtual 109, 3) := by decide +kernel
theorem dX9_flush_39 : decode cX9_flush 39 = .ok (.iconst 0, 1) := by decide +kernel
theorem dX9_flush_40 : decode cX9_flush 40 = .ok (.istore_n 1, 1) := by decide +kernel
theorem dX9_flush_41 : decode cX9_flush 41 = .ok (.iload_n 1, 1) := by decide +kernel
theorem dX9_flush_42 : decode cX9_flush 42 = .ok (.aload_n 0, 1) := by decide +kernel
theorem dX9_flush_43 : decode cX9_flush 43 = .ok (.getfield 17, 3) := by decide +kernel
theorem dX9_flush_46 : decode cX9_flush 46 = .ok (.if_icmp .ge 34, 3) := by decide +kernel
theorem dX9_flush_49 : decode cX9_flush 49 = .ok (.aload_n 0, 1) := by decide +kernel
theorem dX9_flush_50 : decode cX9_flush 50 = .ok (.aload_n 0, 1) := by decide +kernel
theorem dX9_flush_51 : decode cX9_flush 51 = .ok (.getfield 38, 3) := by decide +kernel
theorem dX9_flush_54 : decode cX9_flush 54 = .ok (.iload_n 1, 1) := by decide +kernel
theorem dX9_flush_55 : decode cX9_flush 55 = .ok (.invokevirtual 112, 3) := by decide +kernel
theorem dX9_flush_58 : decode cX9_flush 58 = .ok (.aload_n 0, 1) := by decide +kernel
theorem dX9_flush_59 : decode cX9_flush 59 = .ok (.getfield 38, 3) := by decide +kernel
theorem dX9_flush_62 : decode cX9_flush 62 = .ok (.iload_n 1, 1) := by decide +kernel
theorem dX9_flush_63 : decode cX9_flush 63 = .ok (.invokevirtual 116, 3) := by decide +kernel
theorem dX9_flush_66 : decode cX9_flush 66 = .ok (.invokevirtual 119, 3) := by decide +kernel
theorem dX9_flush_69 : decode cX9_flush 69 = .ok (.aload_n 0, 1) := by decide +kernel
theorem dX9_flush_70 : decode cX9_flush 70 = .ok (.iload_n 1, 1) := by decide +kernel
theorem dX9_flush_71 : decode cX9_flush 71 = .ok (.invokevirtual 123, 3) := by decide +kernel
theorem dX9_flush_74 : decode cX9_flush 74 = .ok (.iinc 1 1, 3) := by decide +kernel
theorem dX9_flush_77 : decode cX9_flush 77 = .ok (.goto (-36), 3) := by decide +kernel
theorem dX9_flush_80 : decode cX9_flush 80 = .ok (.aload_n 0, 1) := by decide +kernel
theorem dX9_flush_81 : decode cX9_flush 81 = .ok (.aload_n 0, 1) := by decide +kernel
theorem dX9_flush_82 : decode cX9_flush 82 = .ok (.getfield 29, 3) := by decide +kernel
theorem dX9_flush_85 : decode cX9_flush 85 = .ok (.invokevirtual 127, 3) := by decide +kernel
theorem dX9_flush_88 : decode cX9_flush 88 = .ok (.iconst 1, 1) := by decide +kernel
theorem dX9_flush_89 : decode cX9_flush 89 = .ok (.iadd, 1) := by decide +kernel
theorem dX9_flush_90 : decode cX9_flush 90 = .ok (.aload_n 0, 1) := by decide +kernel
theorem dX9_flush_91 : decode cX9_flush 91 = .ok (.getfield 61, 3) := by decide +kernel
theorem dX9_flush_94 : decode cX9_flush 94 = .ok (.invokevirtual 130, 3) := by decide +kernel
theorem dX9_flush_97 : decode cX9_flush 97 = .ok (.invokevirtual 133, 3) := by decide +kernel
theorem dX9_flush_100 : decode cX9_flush 100 = .ok (.istore_n 1, 1) := by decide +kernel
theorem dX9_flush_101 : decode cX9_flush 101 = .ok (.aload_n 0, 1) := by decide +kernel
theorem dX9_flush_102 : decode cX9_flush 102 = .ok (.getfield 45, 3) := by decide +kernel
theorem dX9_flush_105 : decode cX9_flush 105 = .ok (.invokevirtual 137, 3) := by decide +kernel
theorem dX9_flush_108 : decode cX9_flush 108 = .ok (.iload_n 1, 1) := by decide +kernel
theorem dX9_flush_109 : decode cX9_flush 109 = .ok (.ireturn, 1) := by decide +kernel
theorem dX9_compact_0 : decode cX9_compact 0 = .ok (.aload_n 0, 1) := by decide +kernel
theorem dX9_compact_1 : decode cX9_compact 1 = .ok (.getfield 79, 3) := by decide +kernel
theorem dX9_compact_4 : decode cX9_compact 4 = .ok (.invokevirtual 83, 3) := by decide +kernel
theorem dX9_compact_7 : decode cX9_compact 7 = .ok (.aload_n 0, 1) := by decide +kernel
theorem dX9_compact_8 : decode cX9_compact 8 = .ok (.getfield 29, 3) := by decide +kernel
theorem dX9_compact_11 : decode cX9_compact 11 = .ok (.invokevirtual 86, 3) := by decide +kernel
theorem dX9_compact_14 : decode cX9_compact 14 = .ok (.ifCond .eq 6, 3) := by decide +kernel
theorem dX9_compact_17 : decode cX9_compact 17 = .ok (.bipush (-9), 2) := by decide +kernel
theorem dX9_compact_19 : decode cX9_compact 19 = .ok (.ireturn, 1) := by decide +kernel
theorem dX9_compact_20 : decode cX9_compact 20 = .ok (.aload_n 0, 1) := by decide +kernel
theorem dX9_compact_21 : decode cX9_compact 21 = .ok (.iload_n 1, 1) := by decide +kernel
theorem dX9_compact_22 : decode cX9_compact 22 = .ok (.invokevirtual 90, 3) := by decide +kernel
theorem dX9_compact_25 : decode cX9_compact 25 = .ok (.ifCond .ne 6, 3) := by decide +kernel
theorem dX9_compact_28 : decode cX9_compact 28 = .ok (.bipush (-2), 2) := by decide +kernel
theorem dX9_compact_30 : decode cX9_compact 30 = .ok (.ireturn, 1) := by decide +kernel
theorem dX9_compact_31 : decode cX9_compact 31 = .ok (.aload_n 0, 1) := by decide +kernel
theorem dX9_compact_32 : decode cX9_compact 32 = .ok (.getfield 38, 3) := by decide +kernel
theorem dX9_compact_35 : decode cX9_compact 35 = .ok (.iload_n 1, 1) := by decide +kernel
theorem dX9_compact_36 : decode cX9_compact 36 = .ok (.invokevirtual 112, 3) := by decide +kernel
theorem dX9_compact_39 : decode cX9_compact 39 = .ok (.istore_n 2, 1) := by decide +kernel
theorem dX9_compact_40 : decode cX9_compact 40 = .ok (.aload_n 0, 1) := by decide +kernel
theorem dX9_compact_41 : decode cX9_compact 41 = .ok (.getfield 38, 3) := by decide +kernel
theorem dX9_compact_44 : decode cX9_compact 44 = .ok (.iload_n 1, 1) := by decide +kernel
theorem dX9_compact_45 : decode cX9_compact 45 = .ok (.invokevirtual 116, 3) := by decide +kernel
theorem dX9_compact_48 : decode cX9_compact 48 = .ok (.istore_n 3, 1) := by decide +kernel
theorem dX9_compact_49 : decode cX9_compact 49 = .ok (.aload_n 0, 1) := by decide +kernel
theorem dX9_compact_50 : decode cX9_compact 50 = .ok (.getfield 61, 3) := by decide +kernel
theorem dX9_compact_53 : decode cX9_compact 53 = .ok (.invokevirtual 109, 3) := by decide +kernel
theorem dX9_compact_56 : decode cX9_compact 56 = .ok (.aload_n 0, 1) := by decide +kernel
theorem dX9_compact_57 : decode cX9_compact 57 = .ok (.iconst 0, 1) := by decide +kernel
theorem dX9_compact_58 : decode cX9_compact 58 = .ok (.iload_n 2, 1) := by decide +kernel
theorem dX9_compact_59 : decode cX9_compact 59 = .ok (.invokevirtual 119, 3) := by decide +kernel
theorem dX9_compact_62 : decode cX9_compact 62 = .ok (.aload_n 0, 1) := by decide +kernel
theorem dX9_compact_63 : decode cX9_compact 63 = .ok (.iload_n 1, 1) := by decide +kernel
theorem dX9_compact_64 : decode cX9_compact 64 = .ok (.iload_n 2, 1) := by decide +kernel
theorem dX9_compact_65 : decode cX9_compact 65 = .ok (.iload_n 3, 1) := by decide +kernel
theorem dX9_compact_66 : decode cX9_compact 66 = .ok (.invokevirtual 140, 3) := by decide +kernel
theorem dX9_compact_69 : decode cX9_compact 69 = .ok (.aload_n 0, 1) := by decide +kernel
theorem dX9_compact_70 : decode cX9_compact 70 = .ok (.iload_n 3, 1) := by decide +kernel
theorem dX9_compact_71 : decode cX9_compact 71 = .ok (.aload_n 0, 1) := by decide +kernel
theorem dX9_compact_72 : decode cX9_compact 72 = .ok (.getfield 38, 3) := by decide +kernel
theorem dX9_compact_75 : decode cX9_compact 75 = .ok (.invokevirtual 144, 3) := by decide +kernel
theorem dX9_compact_78 : decode cX9_compact 78 = .ok (.invokevirtual 119, 3) := by decide +kernel
theorem dX9_compact_81 : decode cX9_compact 81 = .ok (.aload_n 0, 1) := by decide +kernel
theorem dX9_compact_82 : decode cX9_compact 82 = .ok (.getfield 61, 3) := by decide +kernel
theorem dX9_compact_85 : decode cX9_compact 85 = .ok (.invokevirtual 130, 3) := by decide +kernel
theorem dX9_compact_88 : decode cX9_compact 88 = .ok (.ifCond .ne 5, 3) := by decide +kernel
theorem dX9_compact_91 : decode cX9_compact 91 = .ok (.iconst 0, 1) := by decide +kernel
theorem dX9_compact_92 : decode cX9_compact 92 = .ok (.ireturn, 1) := by decide +kernel
theorem dX9_compact_93 : decode cX9_compact 93 = .ok (.aload_n 0, 1) := by decide +kernel
theorem dX9_compact_94 : decode cX9_compact 94 = .ok (.aload_n 0, 1) := by decide +kernel
theorem dX9_compact_95 : decode cX9_compact 95 = .ok (.getfield 29, 3) := by decide +kernel
theorem dX9_compact_98 : decode cX9_compact 98 = .ok (.invokevirtual 127, 3) := by decide +kernel
theorem dX9_compact_101 : decode cX9_compact 101 = .ok (.aload_n 0, 1) := by decide +kernel
theorem dX9_compact_102 : decode cX9_compact 102 = .ok (.getfield 38, 3) := by decide +kernel
theorem dX9_compact_105 : decode cX9_compact 105 = .ok (.invokevirtual 144, 3) := by decide +kernel
theorem dX9_compact_108 : decode cX9_compact 108 = .ok (.aload_n 0, 1) := by decide +kernel
theorem dX9_compact_109 : decode cX9_compact 109 = .ok (.getfield 61, 3) := by decide +kernel
theorem dX9_compact_112 : decode cX9_compact 112 = .ok (.invokevirtual 147, 3) := by decide +kernel
theorem dX9_compact_115 : decode cX9_compact 115 = .ok (.isub, 1) := by decide +kernel
theorem dX9_compact_116 : decode cX9_compact 116 = .ok (.invokevirtual 133, 3) := by decide +kernel
theorem dX9_compact_119 : decode cX9_compact 119 = .ok (.ireturn, 1) := by decide +kernel
theorem dX9_expire_0 : decode cX9_expire 0 = .ok (.aload_n 0, 1) := by decide +kernel
theorem dX9_expire_1 : decode cX9_expire 1 = .ok (.getfield 79, 3) := by decide +kernel
theorem dX9_expire_4 : decode cX9_expire 4 = .ok (.invokevirtual 83, 3) := by decide +kernel
theorem dX9_expire_7 : decode cX9_expire 7 = .ok (.aload_n 0, 1) := by decide +kernel
theorem dX9_expire_8 : decode cX9_expire 8 = .ok (.getfield 29, 3) := by decide +kernel
theorem dX9_expire_11 : decode cX9_expire 11 = .ok (.invokevirtual 86, 3) := by decide +kernel
theorem dX9_expire_14 : decode cX9_expire 14 = .ok (.ifCond .eq 6, 3) := by decide +kernel
theorem dX9_expire_17 : decode cX9_expire 17 = .ok (.bipush (-9), 2) := by decide +kernel
theorem dX9_expire_19 : decode cX9_expire 19 = .ok (.ireturn, 1) := by decide +kernel
theorem dX9_expire_20 : decode cX9_expire 20 = .ok (.iconst 0, 1) := by decide +kernel
theorem dX9_expire_21 : decode cX9_expire 21 = .ok (.istore_n 2, 1) := by decide +kernel
theorem dX9_expire_22 : decode cX9_expire 22 = .ok (.aload_n 0, 1) := by decide +kernel
theorem dX9_expire_23 : decode cX9_expire 23 = .ok (.getfield 61, 3) := by decide +kernel
theorem dX9_expire_26 : decode cX9_expire 26 = .ok (.invokevirtual 109, 3) := by decide +kernel
theorem dX9_expire_29 : decode cX9_expire 29 = .ok (.iconst 0, 1) := by decide +kernel
theorem dX9_expire_30 : decode cX9_expire 30 = .ok (.istore_n 3, 1) := by decide +kernel
theorem dX9_expire_31 : decode cX9_expire 31 = .ok (.iload_n 3, 1) := by decide +kernel
theorem dX9_expire_32 : decode cX9_expire 32 = .ok (.aload_n 0, 1) := by decide +kernel
theorem dX9_expire_33 : decode cX9_expire 33 = .ok (.getfield 38, 3) := by decide +kernel
theorem dX9_expire_36 : decode cX9_expire 36 = .ok (.invokevirtual 144, 3) := by decide +kernel
theorem dX9_expire_39 : decode cX9_expire 39 = .ok (.if_icmp .ge 45, 3) := by decide +kernel
theorem dX9_expire_42 : decode cX9_expire 42 = .ok (.aload_n 0, 1) := by decide +kernel
theorem dX9_expire_43 : decode cX9_expire 43 = .ok (.getfield 38, 3) := by decide +kernel
theorem dX9_expire_46 : decode cX9_expire 46 = .ok (.iload_n 3, 1) := by decide +kernel
theorem dX9_expire_47 : decode cX9_expire 47 = .ok (.iconst 2, 1) := by decide +kernel
theorem dX9_expire_48 : decode cX9_expire 48 = .ok (.invokevirtual 148, 3) := by decide +kernel
theorem dX9_expire_51 : decode cX9_expire 51 = .ok (.iload_n 1, 1) := by decide +kernel
theorem dX9_expire_52 : decode cX9_expire 52 = .ok (.if_icmp .ge 18, 3) := by decide +kernel
theorem dX9_expire_55 : decode cX9_expire 55 = .ok (.iload_n 2, 1) := by decide +kernel
theorem dX9_expire_56 : decode cX9_expire 56 = .ok (.aload_n 0, 1) := by decide +kernel
theorem dX9_expire_57 : decode cX9_expire 57 = .ok (.getfield 38, 3) := by decide +kernel
theorem dX9_expire_60 : decode cX9_expire 60 = .ok (.iload_n 3, 1) := by decide +kernel
theorem dX9_expire_61 : decode cX9_expire 61 = .ok (.iconst 3, 1) := by decide +kernel
theorem dX9_expire_62 : decode cX9_expire 62 = .ok (.invokevirtual 148, 3) := by decide +kernel
theorem dX9_expire_65 : decode cX9_expire 65 = .ok (.iadd, 1) := by decide +kernel
theorem dX9_expire_66 : decode cX9_expire 66 = .ok (.istore_n 2, 1) := by decide +kernel
theorem dX9_expire_67 : decode cX9_expire 67 = .ok (.goto 11, 3) := by decide +kernel
theorem dX9_expire_70 : decode cX9_expire 70 = .ok (.aload_n 0, 1) := by decide +kernel
theorem dX9_expire_71 : decode cX9_expire 71 = .ok (.getfield 61, 3) := by decide +kernel
theorem dX9_expire_74 : decode cX9_expire 74 = .ok (.iload_n 3, 1) := by decide +kernel
theorem dX9_expire_75 : decode cX9_expire 75 = .ok (.invokevirtual 151, 3) := by decide +kernel
theorem dX9_expire_78 : decode cX9_expire 78 = .ok (.iinc 3 1, 3) := by decide +kernel
theorem dX9_expire_81 : decode cX9_expire 81 = .ok (.goto (-50), 3) := by decide +kernel
theorem dX9_expire_84 : decode cX9_expire 84 = .ok (.iload_n 2, 1) := by decide +kernel
theorem dX9_expire_85 : decode cX9_expire 85 = .ok (.ifCond .ne 5, 3) := by decide +kernel
theorem dX9_expire_88 : decode cX9_expire 88 = .ok (.iconst 0, 1) := by decide +kernel
theorem dX9_expire_89 : decode cX9_expire 89 = .ok (.ireturn, 1) := by decide +kernel
theorem dX9_expire_90 : decode cX9_expire 90 = .ok (.aload_n 0, 1) := by decide +kernel
theorem dX9_expire_91 : decode cX9_expire 91 = .ok (.aload_n 0, 1) := by decide +kernel
theorem dX9_expire_92 : decode cX9_expire 92 = .ok (.getfield 29, 3) := by decide +kernel
theorem dX9_expire_95 : decode cX9_expire 95 = .ok (.invokevirtual 127, 3) := by decide +kernel
theorem dX9_expire_98 : decode cX9_expire 98 = .ok (.iload_n 2, 1) := by decide +kernel
theorem dX9_expire_99 : decode cX9_expire 99 = .ok (.invokevirtual 133, 3) := by decide +kernel
theorem dX9_expire_102 : decode cX9_expire 102 = .ok (.ireturn, 1) := by decide +kernel
theorem dX9_seek_0 : decode cX9_seek 0 = .ok (.aload_n 0, 1) := by decide +kernel
theorem dX9_seek_1 : decode cX9_seek 1 = .ok (.getfield 79, 3) := by decide +kernel
theorem dX9_seek_4 : decode cX9_seek 4 = .ok (.invokevirtual 83, 3) := by decide +kernel
theorem dX9_seek_7 : decode cX9_seek 7 = .ok (.aload_n 0, 1) := by decide +kernel
theorem dX9_seek_8 : decode cX9_seek 8 = .ok (.getfield 29, 3) := by decide +kernel
theorem dX9_seek_11 : decode cX9_seek 11 = .ok (.invokevirtual 86, 3) := by decide +kernel
theorem dX9_seek_14 : decode cX9_seek 14 = .ok (.ifCond .eq 6, 3) := by decide +kernel
theorem dX9_seek_17 : decode cX9_seek 17 = .ok (.bipush (-9), 2) := by decide +kernel
theorem dX9_seek_19 : decode cX9_seek 19 = .ok (.ireturn, 1) := by decide +kernel
theorem dX9_seek_20 : decode cX9_seek 20 = .ok (.aload_n 0, 1) := by decide +kernel
theorem dX9_seek_21 : decode cX9_seek 21 = .ok (.iload_n 1, 1) := by decide +kernel
theorem dX9_seek_22 : decode cX9_seek 22 = .ok (.invokevirtual 90, 3) := by decide +kernel
theorem dX9_seek_25 : decode cX9_seek 25 = .ok (.ifCond .ne 6, 3) := by decide +kernel
theorem dX9_seek_28 : decode cX9_seek 28 = .ok (.bipush (-2), 2) := by decide +kernel
theorem dX9_seek_30 : decode cX9_seek 30 = .ok (.ireturn, 1) := by decide +kernel
theorem dX9_seek_31 : decode cX9_seek 31 = .ok (.aload_n 0, 1) := by decide +kernel
theorem dX9_seek_32 : decode cX9_seek 32 = .ok (.getfield 79, 3) := by decide +kernel
theorem dX9_seek_35 : decode cX9_seek 35 = .ok (.iload_n 1, 1) := by decide +kernel
theorem dX9_seek_36 : decode cX9_seek 36 = .ok (.iload_n 2, 1) := by decide +kernel
theorem dX9_seek_37 : decode cX9_seek 37 = .ok (.iload_n 3, 1) := by decide +kernel
theorem dX9_seek_38 : decode cX9_seek 38 = .ok (.invokevirtual 154, 3) := by decide +kernel
theorem dX9_seek_41 : decode cX9_seek 41 = .ok (.aload_n 0, 1) := by decide +kernel
theorem dX9_seek_42 : decode cX9_seek 42 = .ok (.getfield 70, 3) := by decide +kernel
theorem dX9_seek_45 : decode cX9_seek 45 = .ok (.iload_n 1, 1) := by decide +kernel
theorem dX9_seek_46 : decode cX9_seek 46 = .ok (.iload_n 2, 1) := by decide +kernel
theorem dX9_seek_47 : decode cX9_seek 47 = .ok (.iload_n 3, 1) := by decide +kernel
theorem dX9_seek_48 : decode cX9_seek 48 = .ok (.invokevirtual 157, 3) := by decide +kernel
theorem dX9_seek_51 : decode cX9_seek 51 = .ok (.getfield 161, 3) := by decide +kernel
theorem dX9_seek_54 : decode cX9_seek 54 = .ok (.ireturn, 1) := by decide +kernel
theorem dX9_next_0 : decode cX9_next 0 = .ok (.aload_n 0, 1) := by decide +kernel
theorem dX9_next_1 : decode cX9_next 1 = .ok (.getfield 79, 3) := by decide +kernel
theorem dX9_next_4 : decode cX9_next 4 = .ok (.invokevirtual 166, 3) := by decide +kernel
theorem dX9_next_7 : decode cX9_next 7 = .ok (.ireturn, 1) := by decide +kernel
theorem dX9_curTime_0 : decode cX9_curTime 0 = .ok (.aload_n 0, 1) := by decide +kernel
theorem dX9_curTime_1 : decode cX9_curTime 1 = .ok (.getfield 79, 3) := by decide +kernel
theorem dX9_curTime_4 : decode cX9_curTime 4 = .ok (.getfield 169, 3) := by decide +kernel
theorem dX9_curTime_7 : decode cX9_curTime 7 = .ok (.ireturn, 1) := by decide +kernel
theorem dX9_curVal_0 : decode cX9_curVal 0 = .ok (.aload_n 0, 1) := by decide +kernel
theorem dX9_curVal_1 : decode cX9_curVal 1 = .ok (.getfield 79, 3) := by decide +kernel
theorem dX9_curVal_4 : decode cX9_curVal 4 = .ok (.getfield 172, 3) := by decide +kernel
theorem dX9_curVal_7 : decode cX9_curVal 7 = .ok (.ireturn, 1) := by decide +kernel
theorem dX9_aggCount_0 : decode cX9_aggCount 0 = .ok (.aload_n 0, 1) := by decide +kernel
theorem dX9_aggCount_1 : decode cX9_aggCount 1 = .ok (.getfield 29, 3) := by decide +kernel
theorem dX9_aggCount_4 : decode cX9_aggCount 4 = .ok (.invokevirtual 86, 3) := by decide +kernel
theorem dX9_aggCount_7 : decode cX9_aggCount 7 = .ok (.ifCond .eq 6, 3) := by decide +kernel
theorem dX9_aggCount_10 : decode cX9_aggCount 10 = .ok (.bipush (-9), 2) := by decide +kernel
theorem dX9_aggCount_12 : decode cX9_aggCount 12 = .ok (.ireturn, 1) := by decide +kernel
theorem dX9_aggCount_13 : decode cX9_aggCount 13 = .ok (.aload_n 0, 1) := by decide +kernel
theorem dX9_aggCount_14 : decode cX9_aggCount 14 = .ok (.iload_n 1, 1) := by decide +kernel
theorem dX9_aggCount_15 : decode cX9_aggCount 15 = .ok (.invokevirtual 90, 3) := by decide +kernel
theorem dX9_aggCount_18 : decode cX9_aggCount 18 = .ok (.ifCond .ne 6, 3) := by decide +kernel
theorem dX9_aggCount_21 : decode cX9_aggCount 21 = .ok (.bipush (-2), 2) := by decide +kernel
theorem dX9_aggCount_23 : decode cX9_aggCount 23 = .ok (.ireturn, 1) := by decide +kernel
theorem dX9_aggCount_24 : decode cX9_aggCount 24 = .ok (.aload_n 0, 1) := by decide +kernel
theorem dX9_aggCount_25 : decode cX9_aggCount 25 = .ok (.getfield 70, 3) := by decide +kernel
theorem dX9_aggCount_28 : decode cX9_aggCount 28 = .ok (.iload_n 1, 1) := by decide +kernel
theorem dX9_aggCount_29 : decode cX9_aggCount 29 = .ok (.iload_n 2, 1) := by decide +kernel
theorem dX9_aggCount_30 : decode cX9_aggCount 30 = .ok (.iload_n 3, 1) := by decide +kernel
theorem dX9_aggCount_31 : decode cX9_aggCount 31 = .ok (.invokevirtual 157, 3) := by decide +kernel
theorem dX9_aggCount_34 : decode cX9_aggCount 34 = .ok (.getfield 161, 3) := by decide +kernel
theorem dX9_aggCount_37 : decode cX9_aggCount 37 = .ok (.ireturn, 1) := by decide +kernel
theorem dX9_crashAfter_0 : decode cX9_crashAfter 0 = .ok (.aload_n 0, 1) := by decide +kernel
theorem dX9_crashAfter_1 : decode cX9_crashAfter 1 = .ok (.getfield 29, 3) := by decide +kernel
theorem dX9_crashAfter_4 : decode cX9_crashAfter 4 = .ok (.invokevirtual 86, 3) := by decide +kernel
theorem dX9_crashAfter_7 : decode cX9_crashAfter 7 = .ok (.ifCond .ne 13, 3) := by decide +kernel
theorem dX9_crashAfter_10 : decode cX9_crashAfter 10 = .ok (.iload_n 1, 1) := by decide +kernel
theorem dX9_crashAfter_11 : decode cX9_crashAfter 11 = .ok (.ifCond .lt 9, 3) := by decide +kernel
theorem dX9_crashAfter_14 : decode cX9_crashAfter 14 = .ok (.iload_n 1, 1) := by decide +kernel
theorem dX9_crashAfter_15 : decode cX9_crashAfter 15 = .ok (.ldc 191, 2) := by decide +kernel
theorem dX9_crashAfter_17 : decode cX9_crashAfter 17 = .ok (.if_icmp .le 5, 3) := by decide +kernel
theorem dX9_crashAfter_20 : decode cX9_crashAfter 20 = .ok (.iconst 0, 1) := by decide +kernel
theorem dX9_crashAfter_21 : decode cX9_crashAfter 21 = .ok (.ireturn, 1) := by decide +kernel
theorem dX9_crashAfter_22 : decode cX9_crashAfter 22 = .ok (.aload_n 0, 1) := by decide +kernel
theorem dX9_crashAfter_23 : decode cX9_crashAfter 23 = .ok (.getfield 29, 3) := by decide +kernel
theorem dX9_crashAfter_26 : decode cX9_crashAfter 26 = .ok (.iload_n 1, 1) := by decide +kernel
theorem dX9_crashAfter_27 : decode cX9_crashAfter 27 = .ok (.invokevirtual 192, 3) := by decide +kernel
theorem dX9_crashAfter_30 : decode cX9_crashAfter 30 = .ok (.iconst 1, 1) := by decide +kernel
theorem dX9_crashAfter_31 : decode cX9_crashAfter 31 = .ok (.ireturn, 1) := by decide +kernel
theorem dX9_recover_0 : decode cX9_recover 0 = .ok (.aload_n 0, 1) := by decide +kernel
theorem dX9_recover_1 : decode cX9_recover 1 = .ok (.getfield 79, 3) := by decide +kernel
theorem dX9_recover_4 : decode cX9_recover 4 = .ok (.invokevirtual 83, 3) := by decide +kernel
theorem dX9_recover_7 : decode cX9_recover 7 = .ok (.aload_n 0, 1) := by decide +kernel
theorem dX9_recover_8 : decode cX9_recover 8 = .ok (.dup, 1) := by decide +kernel
theorem dX9_recover_9 : decode cX9_recover 9 = .ok (.getfield 9, 3) := by decide +kernel
theorem dX9_recover_12 : decode cX9_recover 12 = .ok (.iconst 1, 1) := by decide +kernel
theorem dX9_recover_13 : decode cX9_recover 13 = .ok (.iadd, 1) := by decide +kernel
theorem dX9_recover_14 : decode cX9_recover 14 = .ok (.putfield 9, 3) := by decide +kernel
theorem dX9_recover_17 : decode cX9_recover 17 = .ok (.aload_n 0, 1) := by decide +kernel
theorem dX9_recover_18 : decode cX9_recover 18 = .ok (.getfield 29, 3) := by decide +kernel
theorem dX9_recover_21 : decode cX9_recover 21 = .ok (.invokevirtual 195, 3) := by decide +kernel
theorem dX9_recover_24 : decode cX9_recover 24 = .ok (.aload_n 0, 1) := by decide +kernel
theorem dX9_recover_25 : decode cX9_recover 25 = .ok (.getfield 45, 3) := by decide +kernel
theorem dX9_recover_28 : decode cX9_recover 28 = .ok (.invokevirtual 137, 3) := by decide +kernel
theorem dX9_recover_31 : decode cX9_recover 31 = .ok (.aload_n 0, 1) := by decide +kernel
theorem dX9_recover_32 : decode cX9_recover 32 = .ok (.getfield 38, 3) := by decide +kernel
theorem dX9_recover_35 : decode cX9_recover 35 = .ok (.invokevirtual 198, 3) := by decide +kernel
theorem dX9_recover_38 : decode cX9_recover 38 = .ok (.aload_n 0, 1) := by decide +kernel
theorem dX9_recover_39 : decode cX9_recover 39 = .ok (.getfield 45, 3) := by decide +kernel
theorem dX9_recover_42 : decode cX9_recover 42 = .ok (.invokevirtual 105, 3) := by decide +kernel
theorem dX9_recover_45 : decode cX9_recover 45 = .ok (.iadd, 1) := by decide +kernel
theorem dX9_recover_46 : decode cX9_recover 46 = .ok (.ireturn, 1) := by decide +kernel
theorem dX9_cell_0 : decode cX9_cell 0 = .ok (.aload_n 0, 1) := by decide +kernel
theorem dX9_cell_1 : decode cX9_cell 1 = .ok (.getfield 29, 3) := by decide +kernel
theorem dX9_cell_4 : decode cX9_cell 4 = .ok (.iload_n 1, 1) := by decide +kernel
theorem dX9_cell_5 : decode cX9_cell 5 = .ok (.invokevirtual 200, 3) := by decide +kernel
theorem dX9_cell_8 : decode cX9_cell 8 = .ok (.ireturn, 1) := by decide +kernel
theorem dX9_look_0 : decode cX9_look 0 = .ok (.iload_n 1, 1) := by decide +kernel
theorem dX9_look_1 : decode cX9_look 1 = .ok (.tableswitch 128 0 8 #[51, 59, 67, 75, 83, 91, 99, 115, 123], 51) := by decide +kernel
theorem dX9_look_52 : decode cX9_look 52 = .ok (.aload_n 0, 1) := by decide +kernel
theorem dX9_look_53 : decode cX9_look 53 = .ok (.getfield 29, 3) := by decide +kernel
theorem dX9_look_56 : decode cX9_look 56 = .ok (.invokevirtual 242, 3) := by decide +kernel
theorem dX9_look_59 : decode cX9_look 59 = .ok (.ireturn, 1) := by decide +kernel
theorem dX9_look_60 : decode cX9_look 60 = .ok (.aload_n 0, 1) := by decide +kernel
theorem dX9_look_61 : decode cX9_look 61 = .ok (.getfield 45, 3) := by decide +kernel
theorem dX9_look_64 : decode cX9_look 64 = .ok (.invokevirtual 105, 3) := by decide +kernel
theorem dX9_look_67 : decode cX9_look 67 = .ok (.ireturn, 1) := by decide +kernel
theorem dX9_look_68 : decode cX9_look 68 = .ok (.aload_n 0, 1) := by decide +kernel
theorem dX9_look_69 : decode cX9_look 69 = .ok (.getfield 38, 3) := by decide +kernel
theorem dX9_look_72 : decode cX9_look 72 = .ok (.invokevirtual 144, 3) := by decide +kernel
theorem dX9_look_75 : decode cX9_look 75 = .ok (.ireturn, 1) := by decide +kernel
theorem dX9_look_76 : decode cX9_look 76 = .ok (.aload_n 0, 1) := by decide +kernel
theorem dX9_look_77 : decode cX9_look 77 = .ok (.getfield 38, 3) := by decide +kernel
theorem dX9_look_80 : decode cX9_look 80 = .ok (.invokevirtual 245, 3) := by decide +kernel
theorem dX9_look_83 : decode cX9_look 83 = .ok (.ireturn, 1) := by decide +kernel
theorem dX9_look_84 : decode cX9_look 84 = .ok (.aload_n 0, 1) := by decide +kernel
theorem dX9_look_85 : decode cX9_look 85 = .ok (.getfield 70, 3) := by decide +kernel
theorem dX9_look_88 : decode cX9_look 88 = .ok (.invokevirtual 248, 3) := by decide +kernel
theorem dX9_look_91 : decode cX9_look 91 = .ok (.ireturn, 1) := by decide +kernel
theorem dX9_look_92 : decode cX9_look 92 = .ok (.aload_n 0, 1) := by decide +kernel
theorem dX9_look_93 : decode cX9_look 93 = .ok (.getfield 70, 3) := by decide +kernel
theorem dX9_look_96 : decode cX9_look 96 = .ok (.invokevirtual 251, 3) := by decide +kernel
theorem dX9_look_99 : decode cX9_look 99 = .ok (.ireturn, 1) := by decide +kernel
theorem dX9_look_100 : decode cX9_look 100 = .ok (.aload_n 0, 1) := by decide +kernel
theorem dX9_look_101 : decode cX9_look 101 = .ok (.getfield 29, 3) := by decide +kernel
theorem dX9_look_104 : decode cX9_look 104 = .ok (.invokevirtual 86, 3) := by decide +kernel
theorem dX9_look_107 : decode cX9_look 107 = .ok (.ifCond .eq 7, 3) := by decide +kernel
theorem dX9_look_110 : decode cX9_look 110 = .ok (.iconst 1, 1) := by decide +kernel
theorem dX9_look_111 : decode cX9_look 111 = .ok (.goto 4, 3) := by decide +kernel
theorem dX9_look_114 : decode cX9_look 114 = .ok (.iconst 0, 1) := by decide +kernel
theorem dX9_look_115 : decode cX9_look 115 = .ok (.ireturn, 1) := by decide +kernel
theorem dX9_look_116 : decode cX9_look 116 = .ok (.aload_n 0, 1) := by decide +kernel
theorem dX9_look_117 : decode cX9_look 117 = .ok (.getfield 29, 3) := by decide +kernel
theorem dX9_look_120 : decode cX9_look 120 = .ok (.invokevirtual 254, 3) := by decide +kernel
theorem dX9_look_123 : decode cX9_look 123 = .ok (.ireturn, 1) := by decide +kernel
theorem dX9_look_124 : decode cX9_look 124 = .ok (.aload_n 0, 1) := by decide +kernel
theorem dX9_look_125 : decode cX9_look 125 = .ok (.getfield 9, 3) := by decide +kernel
theorem dX9_look_128 : decode cX9_look 128 = .ok (.ireturn, 1) := by decide +kernel
theorem dX9_look_129 : decode cX9_look 129 = .ok (.iconst (-1), 1) := by decide +kernel
theorem dX9_look_130 : decode cX9_look 130 = .ok (.ireturn, 1) := by decide +kernel
theorem dX9_isSeries_0 : decode cX9_isSeries 0 = .ok (.iload_n 1, 1) := by decide +kernel
theorem dX9_isSeries_1 : decode cX9_isSeries 1 = .ok (.ifCond .lt 15, 3) := by decide +kernel
theorem dX9_isSeries_4 : decode cX9_isSeries 4 = .ok (.iload_n 1, 1) := by decide +kernel
theorem dX9_isSeries_5 : decode cX9_isSeries 5 = .ok (.aload_n 0, 1) := by decide +kernel
theorem dX9_isSeries_6 : decode cX9_isSeries 6 = .ok (.getfield 17, 3) := by decide +kernel
theorem dX9_isSeries_9 : decode cX9_isSeries 9 = .ok (.if_icmp .ge 7, 3) := by decide +kernel
theorem dX9_isSeries_12 : decode cX9_isSeries 12 = .ok (.iconst 1, 1) := by decide +kernel
theorem dX9_isSeries_13 : decode cX9_isSeries 13 = .ok (.goto 4, 3) := by decide +kernel
theorem dX9_isSeries_16 : decode cX9_isSeries 16 = .ok (.iconst 0, 1) := by decide +kernel
theorem dX9_isSeries_17 : decode cX9_isSeries 17 = .ok (.ireturn, 1) := by decide +kernel
theorem dX9_chunksOf_0 : decode cX9_chunksOf 0 = .ok (.aload_n 0, 1) := by decide +kernel
theorem dX9_chunksOf_1 : decode cX9_chunksOf 1 = .ok (.getfield 38, 3) := by decide +kernel
theorem dX9_chunksOf_4 : decode cX9_chunksOf 4 = .ok (.iload_n 1, 1) := by decide +kernel
theorem dX9_chunksOf_5 : decode cX9_chunksOf 5 = .ok (.invokevirtual 116, 3) := by decide +kernel
theorem dX9_chunksOf_8 : decode cX9_chunksOf 8 = .ok (.aload_n 0, 1) := by decide +kernel
theorem dX9_chunksOf_9 : decode cX9_chunksOf 9 = .ok (.getfield 38, 3) := by decide +kernel
theorem dX9_chunksOf_12 : decode cX9_chunksOf 12 = .ok (.iload_n 1, 1) := by decide +kernel
theorem dX9_chunksOf_13 : decode cX9_chunksOf 13 = .ok (.invokevirtual 112, 3) := by decide +kernel
theorem dX9_chunksOf_16 : decode cX9_chunksOf 16 = .ok (.isub, 1) := by decide +kernel
theorem dX9_chunksOf_17 : decode cX9_chunksOf 17 = .ok (.ireturn, 1) := by decide +kernel
theorem dX9_groupsOf_0 : decode cX9_groupsOf 0 = .ok (.aload_n 0, 1) := by decide +kernel
theorem dX9_groupsOf_1 : decode cX9_groupsOf 1 = .ok (.getfield 23, 3) := by decide +kernel
theorem dX9_groupsOf_4 : decode cX9_groupsOf 4 = .ok (.iconst 2, 1) := by decide +kernel
theorem dX9_groupsOf_5 : decode cX9_groupsOf 5 = .ok (.if_icmp .ge 7, 3) := by decide +kernel
theorem dX9_groupsOf_8 : decode cX9_groupsOf 8 = .ok (.iconst 0, 1) := by decide +kernel
theorem dX9_groupsOf_9 : decode cX9_groupsOf 9 = .ok (.goto 20, 3) := by decide +kernel
theorem dX9_groupsOf_12 : decode cX9_groupsOf 12 = .ok (.aload_n 0, 1) := by decide +kernel
theorem dX9_groupsOf_13 : decode cX9_groupsOf 13 = .ok (.iload_n 1, 1) := by decide +kernel
theorem dX9_groupsOf_14 : decode cX9_groupsOf 14 = .ok (.invokevirtual 203, 3) := by decide +kernel
theorem dX9_groupsOf_17 : decode cX9_groupsOf 17 = .ok (.aload_n 0, 1) := by decide +kernel
theorem dX9_groupsOf_18 : decode cX9_groupsOf 18 = .ok (.getfield 23, 3) := by decide +kernel
theorem dX9_groupsOf_21 : decode cX9_groupsOf 21 = .ok (.iadd, 1) := by decide +kernel
theorem dX9_groupsOf_22 : decode cX9_groupsOf 22 = .ok (.iconst 1, 1) := by decide +kernel
theorem dX9_groupsOf_23 : decode cX9_groupsOf 23 = .ok (.isub, 1) := by decide +kernel
theorem dX9_groupsOf_24 : decode cX9_groupsOf 24 = .ok (.aload_n 0, 1) := by decide +kernel
theorem dX9_groupsOf_25 : decode cX9_groupsOf 25 = .ok (.getfield 23, 3) := by decide +kernel
theorem dX9_groupsOf_28 : decode cX9_groupsOf 28 = .ok (.idiv, 1) := by decide +kernel
theorem dX9_groupsOf_29 : decode cX9_groupsOf 29 = .ok (.ireturn, 1) := by decide +kernel
theorem dX9_isRising_0 : decode cX9_isRising 0 = .ok (.aload_n 0, 1) := by decide +kernel
theorem dX9_isRising_1 : decode cX9_isRising 1 = .ok (.getfield 45, 3) := by decide +kernel
theorem dX9_isRising_4 : decode cX9_isRising 4 = .ok (.iload_n 1, 1) := by decide +kernel
theorem dX9_isRising_5 : decode cX9_isRising 5 = .ok (.invokevirtual 270, 3) := by decide +kernel
theorem dX9_isRising_8 : decode cX9_isRising 8 = .ok (.istore_n 3, 1) := by decide +kernel
theorem dX9_isRising_9 : decode cX9_isRising 9 = .ok (.iload_n 3, 1) := by decide +kernel
theorem dX9_isRising_10 : decode cX9_isRising 10 = .ok (.iconst (-1), 1) := by decide +kernel
theorem dX9_isRising_11 : decode cX9_isRising 11 = .ok (.if_icmp .eq 22, 3) := by decide +kernel
theorem dX9_isRising_14 : decode cX9_isRising 14 = .ok (.iload_n 2, 1) := by decide +kernel
theorem dX9_isRising_15 : decode cX9_isRising 15 = .ok (.aload_n 0, 1) := by decide +kernel
theorem dX9_isRising_16 : decode cX9_isRising 16 = .ok (.getfield 45, 3) := by decide +kernel
theorem dX9_isRising_19 : decode cX9_isRising 19 = .ok (.iload_n 3, 1) := by decide +kernel
theorem dX9_isRising_20 : decode cX9_isRising 20 = .ok (.iconst 1, 1) := by decide +kernel
theorem dX9_isRising_21 : decode cX9_isRising 21 = .ok (.invokevirtual 273, 3) := by decide +kernel
theorem dX9_isRising_24 : decode cX9_isRising 24 = .ok (.if_icmp .le 7, 3) := by decide +kernel
theorem dX9_isRising_27 : decode cX9_isRising 27 = .ok (.iconst 1, 1) := by decide +kernel
theorem dX9_isRising_28 : decode cX9_isRising 28 = .ok (.goto 4, 3) := by decide +kernel
theorem dX9_isRising_31 : decode cX9_isRising 31 = .ok (.iconst 0, 1) := by decide +kernel
theorem dX9_isRising_32 : decode cX9_isRising 32 = .ok (.ireturn, 1) := by decide +kernel
theorem dX9_isRising_33 : decode cX9_isRising 33 = .ok (.aload_n 0, 1) := by decide +kernel
theorem dX9_isRising_34 : decode cX9_isRising 34 = .ok (.getfield 38, 3) := by decide +kernel
theorem dX9_isRising_37 : decode cX9_isRising 37 = .ok (.iload_n 1, 1) := by decide +kernel
theorem dX9_isRising_38 : decode cX9_isRising 38 = .ok (.invokevirtual 116, 3) := by decide +kernel
theorem dX9_isRising_41 : decode cX9_isRising 41 = .ok (.istore 4, 2) := by decide +kernel
theorem dX9_isRising_43 : decode cX9_isRising 43 = .ok (.aload_n 0, 1) := by decide +kernel
theorem dX9_isRising_44 : decode cX9_isRising 44 = .ok (.getfield 38, 3) := by decide +kernel
theorem dX9_isRising_47 : decode cX9_isRising 47 = .ok (.iload_n 1, 1) := by decide +kernel
theorem dX9_isRising_48 : decode cX9_isRising 48 = .ok (.invokevirtual 112, 3) := by decide +kernel
theorem dX9_isRising_51 : decode cX9_isRising 51 = .ok (.iload 4, 2) := by decide +kernel
theorem dX9_isRising_53 : decode cX9_isRising 53 = .ok (.if_icmp .eq 19, 3) := by decide +kernel
theorem dX9_isRising_56 : decode cX9_isRising 56 = .ok (.iload_n 2, 1) := by decide +kernel
theorem dX9_isRising_57 : decode cX9_isRising 57 = .ok (.aload_n 0, 1) := by decide +kernel
theorem dX9_isRising_58 : decode cX9_isRising 58 = .ok (.getfield 38, 3) := by decide +kernel
theorem dX9_isRising_61 : decode cX9_isRising 61 = .ok (.iload 4, 2) := by decide +kernel
theorem dX9_isRising_63 : decode cX9_isRising 63 = .ok (.iconst 1, 1) := by decide +kernel
theorem dX9_isRising_64 : decode cX9_isRising 64 = .ok (.isub, 1) := by decide +kernel
theorem dX9_isRising_65 : decode cX9_isRising 65 = .ok (.iconst 2, 1) := by decide +kernel
theorem dX9_isRising_66 : decode cX9_isRising 66 = .ok (.invokevirtual 148, 3) := by decide +kernel
theorem dX9_isRising_69 : decode cX9_isRising 69 = .ok (.if_icmp .le 7, 3) := by decide +kernel
theorem dX9_isRising_72 : decode cX9_isRising 72 = .ok (.iconst 1, 1) := by decide +kernel
theorem dX9_isRising_73 : decode cX9_isRising 73 = .ok (.goto 4, 3) := by decide +kernel
theorem dX9_isRising_76 : decode cX9_isRising 76 = .ok (.iconst 0, 1) := by decide +kernel
theorem dX9_isRising_77 : decode cX9_isRising 77 = .ok (.ireturn, 1) := by decide +kernel
theorem dX9_keepEntries_0 : decode cX9_keepEntries 0 = .ok (.iload_n 1, 1) := by decide +kernel
theorem dX9_keepEntries_1 : decode cX9_keepEntries 1 = .ok (.istore_n 3, 1) := by decide +kernel
theorem dX9_keepEntries_2 : decode cX9_keepEntries 2 = .ok (.iload_n 3, 1) := by decide +kernel
theorem dX9_keepEntries_3 : decode cX9_keepEntries 3 = .ok (.iload_n 2, 1) := by decide +kernel
theorem dX9_keepEntries_4 : decode cX9_keepEntries 4 = .ok (.if_icmp .ge 17, 3) := by decide +kernel
theorem dX9_keepEntries_7 : decode cX9_keepEntries 7 = .ok (.aload_n 0, 1) := by decide +kernel
theorem dX9_keepEntries_8 : decode cX9_keepEntries 8 = .ok (.getfield 61, 3) := by decide +kernel
theorem dX9_keepEntries_11 : decode cX9_keepEntries 11 = .ok (.iload_n 3, 1) := by decide +kernel
theorem dX9_keepEntries_12 : decode cX9_keepEntries 12 = .ok (.invokevirtual 151, 3) := by decide +kernel
theorem dX9_keepEntries_15 : decode cX9_keepEntries 15 = .ok (.iinc 3 1, 3) := by decide +kernel
theorem dX9_keepEntries_18 : decode cX9_keepEntries 18 = .ok (.goto (-16), 3) := by decide +kernel
theorem dX9_keepEntries_21 : decode cX9_keepEntries 21 = .ok (.return_, 1) := by decide +kernel
theorem dX9_sealHead_0 : decode cX9_sealHead 0 = .ok (.iconst 0, 1) := by decide +kernel
theorem dX9_sealHead_1 : decode cX9_sealHead 1 = .ok (.istore_n 2, 1) := by decide +kernel
theorem dX9_sealHead_2 : decode cX9_sealHead 2 = .ok (.iload_n 2, 1) := by decide +kernel
theorem dX9_sealHead_3 : decode cX9_sealHead 3 = .ok (.aload_n 0, 1) := by decide +kernel
theorem dX9_sealHead_4 : decode cX9_sealHead 4 = .ok (.getfield 45, 3) := by decide +kernel
theorem dX9_sealHead_7 : decode cX9_sealHead 7 = .ok (.invokevirtual 105, 3) := by decide +kernel
theorem dX9_sealHead_10 : decode cX9_sealHead 10 = .ok (.if_icmp .ge 69, 3) := by decide +kernel
theorem dX9_sealHead_13 : decode cX9_sealHead 13 = .ok (.aload_n 0, 1) := by decide +kernel
theorem dX9_sealHead_14 : decode cX9_sealHead 14 = .ok (.getfield 45, 3) := by decide +kernel
theorem dX9_sealHead_17 : decode cX9_sealHead 17 = .ok (.iload_n 2, 1) := by decide +kernel
theorem dX9_sealHead_18 : decode cX9_sealHead 18 = .ok (.iconst 0, 1) := by decide +kernel
theorem dX9_sealHead_19 : decode cX9_sealHead 19 = .ok (.invokevirtual 273, 3) := by decide +kernel
theorem dX9_sealHead_22 : decode cX9_sealHead 22 = .ok (.iload_n 1, 1) := by decide +kernel
theorem dX9_sealHead_23 : decode cX9_sealHead 23 = .ok (.if_icmp .ne 50, 3) := by decide +kernel
theorem dX9_sealHead_26 : decode cX9_sealHead 26 = .ok (.aload_n 0, 1) := by decide +kernel
theorem dX9_sealHead_27 : decode cX9_sealHead 27 = .ok (.getfield 61, 3) := by decide +kernel
theorem dX9_sealHead_30 : decode cX9_sealHead 30 = .ok (.invokevirtual 274, 3) := by decide +kernel
theorem dX9_sealHead_33 : decode cX9_sealHead 33 = .ok (.aload_n 0, 1) := by decide +kernel
theorem dX9_sealHead_34 : decode cX9_sealHead 34 = .ok (.getfield 20, 3) := by decide +kernel
theorem dX9_sealHead_37 : decode cX9_sealHead 37 = .ok (.if_icmp .ne 11, 3) := by decide +kernel
theorem dX9_sealHead_40 : decode cX9_sealHead 40 = .ok (.aload_n 0, 1) := by decide +kernel
theorem dX9_sealHead_41 : decode cX9_sealHead 41 = .ok (.getfield 61, 3) := by decide +kernel
theorem dX9_sealHead_44 : decode cX9_sealHead 44 = .ok (.iload_n 1, 1) := by decide +kernel
theorem dX9_sealHead_45 : decode cX9_sealHead 45 = .ok (.invokevirtual 277, 3) := by decide +kernel
theorem dX9_sealHead_48 : decode cX9_sealHead 48 = .ok (.aload_n 0, 1) := by decide +kernel
theorem dX9_sealHead_49 : decode cX9_sealHead 49 = .ok (.getfield 61, 3) := by decide +kernel
theorem dX9_sealHead_52 : decode cX9_sealHead 52 = .ok (.aload_n 0, 1) := by decide +kernel
theorem dX9_sealHead_53 : decode cX9_sealHead 53 = .ok (.getfield 45, 3) := by decide +kernel
theorem dX9_sealHead_56 : decode cX9_sealHead 56 = .ok (.iload_n 2, 1) := by decide +kernel
theorem dX9_sealHead_57 : decode cX9_sealHead 57 = .ok (.iconst 1, 1) := by decide +kernel
theorem dX9_sealHead_58 : decode cX9_sealHead 58 = .ok (.invokevirtual 273, 3) := by decide +kernel
theorem dX9_sealHead_61 : decode cX9_sealHead 61 = .ok (.aload_n 0, 1) := by decide +kernel
theorem dX9_sealHead_62 : decode cX9_sealHead 62 = .ok (.getfield 45, 3) := by decide +kernel
theorem dX9_sealHead_65 : decode cX9_sealHead 65 = .ok (.iload_n 2, 1) := by decide +kernel
theorem dX9_sealHead_66 : decode cX9_sealHead 66 = .ok (.iconst 2, 1) := by decide +kernel
theorem dX9_sealHead_67 : decode cX9_sealHead 67 = .ok (.invokevirtual 273, 3) := by decide +kernel
theorem dX9_sealHead_70 : decode cX9_sealHead 70 = .ok (.invokevirtual 280, 3) := by decide +kernel
theorem dX9_sealHead_73 : decode cX9_sealHead 73 = .ok (.iinc 2 1, 3) := by decide +kernel
theorem dX9_sealHead_76 : decode cX9_sealHead 76 = .ok (.goto (-74), 3) := by decide +kernel
theorem dX9_sealHead_79 : decode cX9_sealHead 79 = .ok (.aload_n 0, 1) := by decide +kernel
theorem dX9_sealHead_80 : decode cX9_sealHead 80 = .ok (.getfield 61, 3) := by decide +kernel
theorem dX9_sealHead_83 : decode cX9_sealHead 83 = .ok (.iload_n 1, 1) := by decide +kernel
theorem dX9_sealHead_84 : decode cX9_sealHead 84 = .ok (.invokevirtual 277, 3) := by decide +kernel
theorem dX9_sealHead_87 : decode cX9_sealHead 87 = .ok (.return_, 1) := by decide +kernel
theorem dX9_joinEntries_0 : decode cX9_joinEntries 0 = .ok (.iload_n 2, 1) := by decide +kernel
theorem dX9_joinEntries_1 : decode cX9_joinEntries 1 = .ok (.istore 4, 2) := by decide +kernel
theorem dX9_joinEntries_3 : decode cX9_joinEntries 3 = .ok (.iconst 0, 1) := by decide +kernel
theorem dX9_joinEntries_4 : decode cX9_joinEntries 4 = .ok (.istore 5, 2) := by decide +kernel
theorem dX9_joinEntries_6 : decode cX9_joinEntries 6 = .ok (.iload_n 2, 1) := by decide +kernel
theorem dX9_joinEntries_7 : decode cX9_joinEntries 7 = .ok (.istore 6, 2) := by decide +kernel
theorem dX9_joinEntries_9 : decode cX9_joinEntries 9 = .ok (.iload 6, 2) := by decide +kernel
theorem dX9_joinEntries_11 : decode cX9_joinEntries 11 = .ok (.iload_n 3, 1) := by decide +kernel
theorem dX9_joinEntries_12 : decode cX9_joinEntries 12 = .ok (.if_icmp .ge 56, 3) := by decide +kernel
theorem dX9_joinEntries_15 : decode cX9_joinEntries 15 = .ok (.aload_n 0, 1) := by decide +kernel
theorem dX9_joinEntries_16 : decode cX9_joinEntries 16 = .ok (.getfield 38, 3) := by decide +kernel
theorem dX9_joinEntries_19 : decode cX9_joinEntries 19 = .ok (.iload 6, 2) := by decide +kernel
theorem dX9_joinEntries_21 : decode cX9_joinEntries 21 = .ok (.iconst 3, 1) := by decide +kernel
theorem dX9_joinEntries_22 : decode cX9_joinEntries 22 = .ok (.invokevirtual 148, 3) := by decide +kernel
theorem dX9_joinEntries_25 : decode cX9_joinEntries 25 = .ok (.istore 7, 2) := by decide +kernel
theorem dX9_joinEntries_27 : decode cX9_joinEntries 27 = .ok (.iload 5, 2) := by decide +kernel
theorem dX9_joinEntries_29 : decode cX9_joinEntries 29 = .ok (.iload 7, 2) := by decide +kernel
theorem dX9_joinEntries_31 : decode cX9_joinEntries 31 = .ok (.iadd, 1) := by decide +kernel
theorem dX9_joinEntries_32 : decode cX9_joinEntries 32 = .ok (.aload_n 0, 1) := by decide +kernel
theorem dX9_joinEntries_33 : decode cX9_joinEntries 33 = .ok (.getfield 20, 3) := by decide +kernel
theorem dX9_joinEntries_36 : decode cX9_joinEntries 36 = .ok (.if_icmp .le 19, 3) := by decide +kernel
theorem dX9_joinEntries_39 : decode cX9_joinEntries 39 = .ok (.aload_n 0, 1) := by decide +kernel
theorem dX9_joinEntries_40 : decode cX9_joinEntries 40 = .ok (.iload_n 1, 1) := by decide +kernel
theorem dX9_joinEntries_41 : decode cX9_joinEntries 41 = .ok (.iload 4, 2) := by decide +kernel
theorem dX9_joinEntries_43 : decode cX9_joinEntries 43 = .ok (.iload 6, 2) := by decide +kernel
theorem dX9_joinEntries_45 : decode cX9_joinEntries 45 = .ok (.invokevirtual 283, 3) := by decide +kernel
theorem dX9_joinEntries_48 : decode cX9_joinEntries 48 = .ok (.iload 6, 2) := by decide +kernel
theorem dX9_joinEntries_50 : decode cX9_joinEntries 50 = .ok (.istore 4, 2) := by decide +kernel
theorem dX9_joinEntries_52 : decode cX9_joinEntries 52 = .ok (.iconst 0, 1) := by decide +kernel
theorem dX9_joinEntries_53 : decode cX9_joinEntries 53 = .ok (.istore 5, 2) := by decide +kernel
theorem dX9_joinEntries_55 : decode cX9_joinEntries 55 = .ok (.iload 5, 2) := by decide +kernel
theorem dX9_joinEntries_57 : decode cX9_joinEntries 57 = .ok (.iload 7, 2) := by decide +kernel
theorem dX9_joinEntries_59 : decode cX9_joinEntries 59 = .ok (.iadd, 1) := by decide +kernel
theorem dX9_joinEntries_60 : decode cX9_joinEntries 60 = .ok (.istore 5, 2) := by decide +kernel
theorem dX9_joinEntries_62 : decode cX9_joinEntries 62 = .ok (.iinc 6 1, 3) := by decide +kernel
theorem dX9_joinEntries_65 : decode cX9_joinEntries 65 = .ok (.goto (-56), 3) := by decide +kernel
theorem dX9_joinEntries_68 : decode cX9_joinEntries 68 = .ok (.aload_n 0, 1) := by decide +kernel
theorem dX9_joinEntries_69 : decode cX9_joinEntries 69 = .ok (.iload_n 1, 1) := by decide +kernel
theorem dX9_joinEntries_70 : decode cX9_joinEntries 70 = .ok (.iload 4, 2) := by decide +kernel
theorem dX9_joinEntries_72 : decode cX9_joinEntries 72 = .ok (.iload_n 3, 1) := by decide +kernel
theorem dX9_joinEntries_73 : decode cX9_joinEntries 73 = .ok (.invokevirtual 283, 3) := by decide +kernel
theorem dX9_joinEntries_76 : decode cX9_joinEntries 76 = .ok (.return_, 1) := by decide +kernel
theorem dX9_makeOneOf_0 : decode cX9_makeOneOf 0 = .ok (.iload_n 3, 1) := by decide +kernel
theorem dX9_makeOneOf_1 : decode cX9_makeOneOf 1 = .ok (.iload_n 2, 1) := by decide +kernel
theorem dX9_makeOneOf_2 : decode cX9_makeOneOf 2 = .ok (.isub, 1) := by decide +kernel
theorem dX9_makeOneOf_3 : decode cX9_makeOneOf 3 = .ok (.iconst 1, 1) := by decide +kernel
theorem dX9_makeOneOf_4 : decode cX9_makeOneOf 4 = .ok (.if_icmp .gt 10, 3) := by decide +kernel
theorem dX9_makeOneOf_7 : decode cX9_makeOneOf 7 = .ok (.aload_n 0, 1) := by decide +kernel
theorem dX9_makeOneOf_8 : decode cX9_makeOneOf 8 = .ok (.iload_n 2, 1) := by decide +kernel
theorem dX9_makeOneOf_9 : decode cX9_makeOneOf 9 = .ok (.iload_n 3, 1) := by decide +kernel
theorem dX9_makeOneOf_10 : decode cX9_makeOneOf 10 = .ok (.invokevirtual 119, 3) := by decide +kernel
theorem dX9_makeOneOf_13 : decode cX9_makeOneOf 13 = .ok (.return_, 1) := by decide +kernel
theorem dX9_makeOneOf_14 : decode cX9_makeOneOf 14 = .ok (.iload_n 2, 1) := by decide +kernel
theorem dX9_makeOneOf_15 : decode cX9_makeOneOf 15 = .ok (.istore 4, 2) := by decide +kernel
theorem dX9_makeOneOf_17 : decode cX9_makeOneOf 17 = .ok (.iload 4, 2) := by decide +kernel
theorem dX9_makeOneOf_19 : decode cX9_makeOneOf 19 = .ok (.iload_n 3, 1) := by decide +kernel
theorem dX9_makeOneOf_20 : decode cX9_makeOneOf 20 = .ok (.if_icmp .ge 83, 3) := by decide +kernel
theorem dX9_makeOneOf_23 : decode cX9_makeOneOf 23 = .ok (.aload_n 0, 1) := by decide +kernel
theorem dX9_makeOneOf_24 : decode cX9_makeOneOf 24 = .ok (.getfield 38, 3) := by decide +kernel
theorem dX9_makeOneOf_27 : decode cX9_makeOneOf 27 = .ok (.iload 4, 2) := by decide +kernel
theorem dX9_makeOneOf_29 : decode cX9_makeOneOf 29 = .ok (.iconst 3, 1) := by decide +kernel
theorem dX9_makeOneOf_30 : decode cX9_makeOneOf 30 = .ok (.invokevirtual 148, 3) := by decide +kernel
theorem dX9_makeOneOf_33 : decode cX9_makeOneOf 33 = .ok (.istore 5, 2) := by decide +kernel
theorem dX9_makeOneOf_35 : decode cX9_makeOneOf 35 = .ok (.aload_n 0, 1) := by decide +kernel
theorem dX9_makeOneOf_36 : decode cX9_makeOneOf 36 = .ok (.getfield 52, 3) := by decide +kernel
theorem dX9_makeOneOf_39 : decode cX9_makeOneOf 39 = .ok (.aload_n 0, 1) := by decide +kernel
theorem dX9_makeOneOf_40 : decode cX9_makeOneOf 40 = .ok (.getfield 38, 3) := by decide +kernel
theorem dX9_makeOneOf_43 : decode cX9_makeOneOf 43 = .ok (.iload 4, 2) := by decide +kernel
theorem dX9_makeOneOf_45 : decode cX9_makeOneOf 45 = .ok (.bipush 8, 2) := by decide +kernel
theorem dX9_makeOneOf_47 : decode cX9_makeOneOf 47 = .ok (.invokevirtual 148, 3) := by decide +kernel
theorem dX9_makeOneOf_50 : decode cX9_makeOneOf 50 = .ok (.invokevirtual 286, 3) := by decide +kernel
theorem dX9_makeOneOf_53 : decode cX9_makeOneOf 53 = .ok (.iconst 0, 1) := by decide +kernel
theorem dX9_makeOneOf_54 : decode cX9_makeOneOf 54 = .ok (.istore 6, 2) := by decide +kernel
theorem dX9_makeOneOf_56 : decode cX9_makeOneOf 56 = .ok (.iload 6, 2) := by decide +kernel
theorem dX9_makeOneOf_58 : decode cX9_makeOneOf 58 = .ok (.iload 5, 2) := by decide +kernel
theorem dX9_makeOneOf_60 : decode cX9_makeOneOf 60 = .ok (.if_icmp .ge 37, 3) := by decide +kernel
theorem dX9_makeOneOf_63 : decode cX9_makeOneOf 63 = .ok (.aload_n 0, 1) := by decide +kernel
theorem dX9_makeOneOf_64 : decode cX9_makeOneOf 64 = .ok (.getfield 52, 3) := by decide +kernel
theorem dX9_makeOneOf_67 : decode cX9_makeOneOf 67 = .ok (.invokevirtual 288, 3) := by decide +kernel
theorem dX9_makeOneOf_70 : decode cX9_makeOneOf 70 = .ok (.aload_n 0, 1) := by decide +kernel
theorem dX9_makeOneOf_71 : decode cX9_makeOneOf 71 = .ok (.getfield 61, 3) := by decide +kernel
theorem dX9_makeOneOf_74 : decode cX9_makeOneOf 74 = .ok (.aload_n 0, 1) := by decide +kernel
theorem dX9_makeOneOf_75 : decode cX9_makeOneOf 75 = .ok (.getfield 52, 3) := by decide +kernel
theorem dX9_makeOneOf_78 : decode cX9_makeOneOf 78 = .ok (.getfield 291, 3) := by decide +kernel
theorem dX9_makeOneOf_81 : decode cX9_makeOneOf 81 = .ok (.aload_n 0, 1) := by decide +kernel
theorem dX9_makeOneOf_82 : decode cX9_makeOneOf 82 = .ok (.getfield 52, 3) := by decide +kernel
theorem dX9_makeOneOf_85 : decode cX9_makeOneOf 85 = .ok (.getfield 292, 3) := by decide +kernel
theorem dX9_makeOneOf_88 : decode cX9_makeOneOf 88 = .ok (.invokevirtual 280, 3) := by decide +kernel
theorem dX9_makeOneOf_91 : decode cX9_makeOneOf 91 = .ok (.iinc 6 1, 3) := by decide +kernel
theorem dX9_makeOneOf_94 : decode cX9_makeOneOf 94 = .ok (.goto (-38), 3) := by decide +kernel
theorem dX9_makeOneOf_97 : decode cX9_makeOneOf 97 = .ok (.iinc 4 1, 3) := by decide +kernel
theorem dX9_makeOneOf_100 : decode cX9_makeOneOf 100 = .ok (.goto (-83), 3) := by decide +kernel
theorem dX9_makeOneOf_103 : decode cX9_makeOneOf 103 = .ok (.aload_n 0, 1) := by decide +kernel
theorem dX9_makeOneOf_104 : decode cX9_makeOneOf 104 = .ok (.getfield 61, 3) := by decide +kernel
theorem dX9_makeOneOf_107 : decode cX9_makeOneOf 107 = .ok (.iload_n 1, 1) := by decide +kernel
theorem dX9_makeOneOf_108 : decode cX9_makeOneOf 108 = .ok (.invokevirtual 277, 3) := by decide +kernel
theorem dX9_makeOneOf_111 : decode cX9_makeOneOf 111 = .ok (.return_, 1) := by decide +kernel
theorem dX9_turnDisk_0 : decode cX9_turnDisk 0 = .ok (.aload_n 0, 1) := by decide +kernel
theorem dX9_turnDisk_1 : decode cX9_turnDisk 1 = .ok (.getfield 61, 3) := by decide +kernel
theorem dX9_turnDisk_4 : decode cX9_turnDisk 4 = .ok (.invokevirtual 293, 3) := by decide +kernel
theorem dX9_turnDisk_7 : decode cX9_turnDisk 7 = .ok (.ifCond .eq 6, 3) := by decide +kernel
theorem dX9_turnDisk_10 : decode cX9_turnDisk 10 = .ok (.bipush (-3), 2) := by decide +kernel
theorem dX9_turnDisk_12 : decode cX9_turnDisk 12 = .ok (.ireturn, 1) := by decide +kernel
theorem dX9_turnDisk_13 : decode cX9_turnDisk 13 = .ok (.aload_n 0, 1) := by decide +kernel
theorem dX9_turnDisk_14 : decode cX9_turnDisk 14 = .ok (.getfield 61, 3) := by decide +kernel
theorem dX9_turnDisk_17 : decode cX9_turnDisk 17 = .ok (.iload_n 1, 1) := by decide +kernel
theorem dX9_turnDisk_18 : decode cX9_turnDisk 18 = .ok (.invokevirtual 296, 3) := by decide +kernel
theorem dX9_turnDisk_21 : decode cX9_turnDisk 21 = .ok (.ifCond .eq 7, 3) := by decide +kernel
theorem dX9_turnDisk_24 : decode cX9_turnDisk 24 = .ok (.iload_n 2, 1) := by decide +kernel
theorem dX9_turnDisk_25 : decode cX9_turnDisk 25 = .ok (.goto 5, 3) := by decide +kernel
theorem dX9_turnDisk_28 : decode cX9_turnDisk 28 = .ok (.bipush (-9), 2) := by decide +kernel
theorem dX9_turnDisk_30 : decode cX9_turnDisk 30 = .ok (.ireturn, 1) := by decide +kernel
abbrev rm_X9_isSeries : Room := { frames := 0, cells := 0, slots := 0, locals := 0 }
theorem hd_X9_isSeries : yX9_isSeries.cls = RX9 ∧ yX9_isSeries.cls ≠ "java/lang/invoke/MethodHandle" ∧ yX9_isSeries.cls ≠ "java/lang/invoke/VarHandle" ∧ (parseMethodDescriptor yX9_isSeries.desc).map (fun d => d.parameters.length) = some 1 := by decide +kernel
set_option maxHeartbeats 4000000 in
set_option maxRecDepth 100000 in
theorem c_X9_isSeries (l : Launch) (G : va_G) (cI cZ cJ : ClassId) (aP aD aI aG aU aT aQ aC : Nat) (P_seriesCount : Int32) (P_most : Int32) (P_ratio : Int32) (P_recoveries : Int32) (p0 : Int32) {r : Int32} (hfin : m_X9_isSeries P_seriesCount p0 = some (r)) : CT l yX9_isSeries cX9_isSeries 2 (some .boolean) rm_X9_isSeries G (tyC cI cZ cJ) [.ref aP, .int p0] [oX9 aP P_seriesCount P_most P_ratio aD aI aG aU aT aQ aC P_recoveries] (some (.int r)) [oX9 aP P_seriesCount P_most P_ratio aD aI aG aU aT aQ aC P_recoveries] := by
  refine CT.ofW (lvl := [(0, .ref aP), (1, .int p0)]) (by decide) (Nat.le_of_ble_eq_true rfl) rfl ?_
  intro p e s m args below meth c A ls0 QQ hQQ hx hb hml hr hlocks htc hN hown hK hA hw0 hl0
  rw [m_X9_isSeries] at hfin
  refine lv_iload_n hx hb dX9_isSeries_0 rfl (lv_at hl0 1 rfl) ?_
  replace hfin := ob1_some hfin
  obtain ⟨s_1, hJ_2, hfin⟩ := hfin
  have kj_3 : ∀ (H : Heap) (locs : List Loc) (ls : Array Slot), wS G A s H locs [oX9 aP P_seriesCount P_most P_ratio aD aI aG aU aT aQ aC P_recoveries] → lv_has ls 2 [] → W p l e rm_X9_isSeries s m args below meth c H locs 0 0 QQ (F0 m 17 ls [.int s_1]) := by
    clear hw0 hl0 ls0 hJ_2
    intro H6 locs6 ls6 hw6 hl6
    replace hfin := ckz_some hfin
    obtain ⟨hz_7, hfin⟩ := hfin
    cases hfin
    rw [hQQ]
    exact ct_zret hx hb hr hlocks hz_7 hw6.1 hw6.2.1 hw6.2.2 dX9_isSeries_17
  clear hfin
  refine lv_if_lt (tgt := 16) hx hb dX9_isSeries_1 (by decide) (fun c_4 => ?_) (fun c_4 => ?_)
  · replace hJ_2 := it_t c_4 hJ_2
    refine lv_iconst (v := (0 : Int32)) hx hb dX9_isSeries_16 (by decide) ?_
    cases hJ_2
    exact kj_3 _ _ _ hw0 (lv_sub hl0 [] rfl)
  · replace hJ_2 := it_f c_4 hJ_2
    refine lv_iload_n hx hb dX9_isSeries_4 rfl (lv_at hl0 1 rfl) ?_
    refine lv_aload_n hx hb dX9_isSeries_5 rfl (lv_at hl0 0 rfl) ?_
    refine va_get (D := G) (ci := 9) (v := .int P_seriesCount) (C := RX9) (T := TX9) (N := 11) hx hb htc iX9 hown hK hw0.1 0 rfl rfl 0 (by decide) (htc _ mw_303) (fun _ h9 => h9) rfl dX9_isSeries_6 ?_
    refine lv_icmp_ge (tgt := 16) hx hb dX9_isSeries_9 (by decide) (fun c_5 => ?_) (fun c_5 => ?_)
    · replace hJ_2 := it_t c_5 hJ_2
      refine lv_iconst (v := (0 : Int32)) hx hb dX9_isSeries_16 (by decide) ?_
      cases hJ_2
      exact kj_3 _ _ _ hw0 (lv_sub hl0 [] rfl)
    · replace hJ_2 := it_f c_5 hJ_2
      refine lv_iconst (v := (1 : Int32)) hx hb dX9_isSeries_12 (by decide) ?_
      refine lv_goto (tgt := 17) hx hb dX9_isSeries_13 (by decide) ?_
      cases hJ_2
      exact kj_3 _ _ _ hw0 (lv_sub hl0 [] rfl)
abbrev rm_X9_isRising : Room := { frames := 4, cells := 0, slots := 0, locals := 87 }
theorem hd_X9_isRising : yX9_isRising.cls = RX9 ∧ yX9_isRising.cls ≠ "java/lang/invoke/MethodHandle" ∧ yX9_isRising.cls ≠ "java/lang/invoke/VarHandle" ∧ (parseMethodDescriptor yX9_isRising.desc).map (fun d => d.parameters.length) = some 2 := by decide +kernel
set_option maxHeartbeats 4000000 in
set_option maxRecDepth 100000 in
theorem c_X9_isRising (l : Launch) (G : va_G) (cI cZ cJ : ClassId) (aP aD aI aG aU aT aQ aC aDc : Nat) (P_seriesCount : Int32) (P_most : Int32) (P_ratio : Int32) (P_recoveries : Int32) (D_writesDone : Int32) (D_writesLeft : Int32) (D_down : Int32) (D_cells : Nat → Int32) (G_logged : Int32) (p0 : Int32) (p1 : Int32) {r : Int32} (hfin : m_X9_isRising D_cells G_logged p0 p1 = some (r)) : CT l yX9_isRising cX9_isRising 5 (some .boolean) rm_X9_isRising G (tyC cI cZ cJ) [.ref aP, .int p0, .int p1] [oX9 aP P_seriesCount P_most P_ratio aD aI aG aU aT aQ aC P_recoveries, oX2 aD aDc D_writesDone D_writesLeft D_down, rI aDc cI 4096 D_cells, oX3 aI aD, oX4 aG aD G_logged] (some (.int r)) [oX9 aP P_seriesCount P_most P_ratio aD aI aG aU aT aQ aC P_recoveries, oX2 aD aDc D_writesDone D_writesLeft D_down, rI aDc cI 4096 D_cells, oX3 aI aD, oX4 aG aD G_logged] := by
  refine CT.ofW (lvl := [(0, .ref aP), (1, .int p0), (2, .int p1)]) (by decide) (Nat.le_of_ble_eq_true rfl) rfl ?_
  intro p e s m args below meth c A ls0 QQ hQQ hx hb hml hr hlocks htc hN hown hK hA hw0 hl0
  rw [m_X9_isRising] at hfin
  refine lv_aload_n hx hb dX9_isRising_0 rfl (lv_at hl0 0 rfl) ?_
  refine va_get (D := G) (ci := 9) (v := .ref aG) (C := RX9) (T := TX9) (N := 11) hx hb htc iX9 hown hK hw0.1 0 rfl rfl 5 (by decide) (htc _ mw_308) (fun _ h9 => h9) rfl dX9_isRising_1 ?_
  refine lv_iload_n hx hb dX9_isRising_4 rfl (lv_at hl0 1 rfl) ?_
  replace hfin := ob1_some hfin
  obtain ⟨r_2, hE_1, hfin⟩ := hfin
  refine ctV (a := aG) (As := [.int p0]) (rest := []) (st1 := [.int r_2]) (wc := [oX2 aD aDc D_writesDone D_writesLeft D_down, rI aDc cI 4096 D_cells, oX4 aG aD G_logged]) (w1 := [oX2 aD aDc D_writesDone D_writesLeft D_down, rI aDc cI 4096 D_cells, oX4 aG aD G_logged]) (wr := [oX9 aP P_seriesCount P_most P_ratio aD aI aG aU aT aQ aC P_recoveries, oX3 aI aD]) (wb := [oX9 aP P_seriesCount P_most P_ratio aD aI aG aU aT aQ aC P_recoveries, oX2 aD aDc D_writesDone D_writesLeft D_down, rI aDc cI 4096 D_cells, oX3 aI aD, oX4 aG aD G_logged]) (v := (some (.int r_2))) hx hb hml hown htc hN (c_X4_lastOf l G cI cZ cJ aD aDc aG D_writesDone D_writesLeft D_down D_cells G_logged p0 hE_1) mw_357 mw_358 mw_359 mw_5 mw_360 hd_X4_lastOf ⟨rfl, rfl⟩ ⟨Nat.le_of_ble_eq_true rfl, Nat.le_of_ble_eq_true rfl⟩ hK hw0 hA [1, 2, 4] [0, 3] [0, 2, 3, 1, 4] rfl rfl rfl rfl rfl (by decide) rfl rfl rfl 2 rfl rfl rfl rfl hl0.1 rfl rfl (Nat.le_of_ble_eq_true rfl) dX9_isRising_5 ⟨Nat.zero_le _, Nat.zero_le _⟩ (fun H3 locs3 hw3 => ?_)
  clear hw0
  refine lv_istore_n (lv' := [(3, .int r_2), (0, .ref aP), (1, .int p0), (2, .int p1)]) hx hb dX9_isRising_8 rfl hl0 (by decide) rfl (fun ls4 hl4 => ?_)
  clear hl0 ls0
  refine lv_iload_n hx hb dX9_isRising_9 rfl (lv_at hl4 0 rfl) ?_
  refine lv_iconst (v := (-1 : Int32)) hx hb dX9_isRising_10 (by decide) ?_
  refine lv_icmp_eq (tgt := 33) hx hb dX9_isRising_11 (by decide) (fun c_5 => ?_) (fun c_5 => ?_)
  · replace hfin := it_t c_5 hfin
    refine lv_aload_n hx hb dX9_isRising_33 rfl (lv_at hl4 1 rfl) ?_
    refine va_get (D := G) (ci := 9) (v := .ref aI) (C := RX9) (T := TX9) (N := 11) hx hb htc iX9 hown hK hw3.1 0 rfl rfl 4 (by decide) (htc _ mw_307) (fun _ h9 => h9) rfl dX9_isRising_34 ?_
    refine lv_iload_n hx hb dX9_isRising_37 rfl (lv_at hl4 2 rfl) ?_
    replace hfin := ob1_some hfin
    obtain ⟨r_7, hE_6, hfin⟩ := hfin
    refine ctV (a := aI) (As := [.int p0]) (rest := []) (st1 := [.int r_7]) (wc := [oX2 aD aDc D_writesDone D_writesLeft D_down, rI aDc cI 4096 D_cells, oX3 aI aD]) (w1 := [oX2 aD aDc D_writesDone D_writesLeft D_down, rI aDc cI 4096 D_cells, oX3 aI aD]) (wr := [oX9 aP P_seriesCount P_most P_ratio aD aI aG aU aT aQ aC P_recoveries, oX4 aG aD G_logged]) (wb := [oX9 aP P_seriesCount P_most P_ratio aD aI aG aU aT aQ aC P_recoveries, oX2 aD aDc D_writesDone D_writesLeft D_down, rI aDc cI 4096 D_cells, oX3 aI aD, oX4 aG aD G_logged]) (v := (some (.int r_7))) hx hb hml hown htc hN (c_X3_endOf l G cI cZ cJ aD aDc aI D_writesDone D_writesLeft D_down D_cells p0 hE_6) mw_370 mw_371 mw_372 mw_4 mw_373 hd_X3_endOf ⟨rfl, rfl⟩ ⟨Nat.le_of_ble_eq_true rfl, Nat.le_of_ble_eq_true rfl⟩ hK hw3 hA [1, 2, 3] [0, 4] [0, 2, 3, 4, 1] rfl rfl rfl rfl rfl (by decide) rfl rfl rfl 2 rfl rfl rfl rfl hl4.1 rfl rfl (Nat.le_of_ble_eq_true rfl) dX9_isRising_38 ⟨Nat.zero_le _, Nat.zero_le _⟩ (fun H8 locs8 hw8 => ?_)
    clear hw3 H3 locs3
    refine lv_istore (lv' := [(4, .int r_7), (3, .int r_2), (0, .ref aP), (1, .int p0), (2, .int p1)]) hx hb dX9_isRising_41 hl4 (by decide) rfl (fun ls9 hl9 => ?_)
    clear hl4 ls4
    refine lv_aload_n hx hb dX9_isRising_43 rfl (lv_at hl9 2 rfl) ?_
    refine va_get (D := G) (ci := 9) (v := .ref aI) (C := RX9) (T := TX9) (N := 11) hx hb htc iX9 hown hK hw8.1 0 rfl rfl 4 (by decide) (htc _ mw_307) (fun _ h9 => h9) rfl dX9_isRising_44 ?_
    refine lv_iload_n hx hb dX9_isRising_47 rfl (lv_at hl9 3 rfl) ?_
    replace hfin := ob1_some hfin
    obtain ⟨r_11, hE_10, hfin⟩ := hfin
    refine ctV (a := aI) (As := [.int p0]) (rest := []) (st1 := [.int r_11]) (wc := [oX2 aD aDc D_writesDone D_writesLeft D_down, rI aDc cI 4096 D_cells, oX3 aI aD]) (w1 := [oX2 aD aDc D_writesDone D_writesLeft D_down, rI aDc cI 4096 D_cells, oX3 aI aD]) (wr := [oX9 aP P_seriesCount P_most P_ratio aD aI aG aU aT aQ aC P_recoveries, oX4 aG aD G_logged]) (wb := [oX9 aP P_seriesCount P_most P_ratio aD aI aG aU aT aQ aC P_recoveries, oX2 aD aDc D_writesDone D_writesLeft D_down, rI aDc cI 4096 D_cells, oX3 aI aD, oX4 aG aD G_logged]) (v := (some (.int r_11))) hx hb hml hown htc hN (c_X3_firstOf l G cI cZ cJ aD aDc aI D_writesDone D_writesLeft D_down D_cells p0 hE_10) mw_394 mw_375 mw_376 mw_4 mw_377 hd_X3_firstOf ⟨rfl, rfl⟩ ⟨Nat.le_of_ble_eq_true rfl, Nat.le_of_ble_eq_true rfl⟩ hK hw8 hA [1, 2, 3] [0, 4] [0, 2, 3, 4, 1] rfl rfl rfl rfl rfl (by decide) rfl rfl rfl 2 rfl rfl rfl rfl hl9.1 rfl rfl (Nat.le_of_ble_eq_true rfl) dX9_isRising_48 ⟨Nat.zero_le _, Nat.zero_le _⟩ (fun H12 locs12 hw12 => ?_)
    clear hw8 H8 locs8
    refine lv_iload hx hb dX9_isRising_51 (lv_at hl9 0 rfl) ?_
    replace hfin := ob1_some hfin
    obtain ⟨s_13, hJ_14, hfin⟩ := hfin
    have kj_15 : ∀ (H : Heap) (locs : List Loc) (ls : Array Slot), wS G A s H locs [oX9 aP P_seriesCount P_most P_ratio aD aI aG aU aT aQ aC P_recoveries, oX2 aD aDc D_writesDone D_writesLeft D_down, rI aDc cI 4096 D_cells, oX3 aI aD, oX4 aG aD G_logged] → lv_has ls 5 [] → W p l e rm_X9_isRising s m args below meth c H locs 0 0 QQ (F0 m 77 ls [.int s_13]) := by
      clear hw12 H12 locs12 hl9 ls9 hJ_14
      intro H21 locs21 ls21 hw21 hl21
      replace hfin := ckz_some hfin
      obtain ⟨hz_22, hfin⟩ := hfin
      cases hfin
      rw [hQQ]
      exact ct_zret hx hb hr hlocks hz_22 hw21.1 hw21.2.1 hw21.2.2 dX9_isRising_77
    clear hfin
    refine lv_icmp_eq (tgt := 72) hx hb dX9_isRising_53 (by decide) (fun c_16 => ?_) (fun c_16 => ?_)
    · replace hJ_14 := it_t c_16 hJ_14
      refine lv_iconst (v := (1 : Int32)) hx hb dX9_isRising_72 (by decide) ?_
      refine lv_goto (tgt := 77) hx hb dX9_isRising_73 (by decide) ?_
      cases hJ_14
      exact kj_15 _ _ _ hw12 (lv_sub hl9 [] rfl)
    · replace hJ_14 := it_f c_16 hJ_14
      refine lv_iload_n hx hb dX9_isRising_56 rfl (lv_at hl9 4 rfl) ?_
      refine lv_aload_n hx hb dX9_isRising_57 rfl (lv_at hl9 2 rfl) ?_
      refine va_get (D := G) (ci := 9) (v := .ref aI) (C := RX9) (T := TX9) (N := 11) hx hb htc iX9 hown hK hw12.1 0 rfl rfl 4 (by decide) (htc _ mw_307) (fun _ h9 => h9) rfl dX9_isRising_58 ?_
      refine lv_iload hx hb dX9_isRising_61 (lv_at hl9 0 rfl) ?_
      refine lv_iconst (v := (1 : Int32)) hx hb dX9_isRising_63 (by decide) ?_
      refine lv_isub hx hb dX9_isRising_64 ?_
      refine lv_iconst (v := (2 : Int32)) hx hb dX9_isRising_65 (by decide) ?_
      replace hJ_14 := ob1_some hJ_14
      obtain ⟨r_18, hE_17, hJ_14⟩ := hJ_14
      refine ctV (a := aI) (As := [.int (r_7 - (1 : Int32)), .int (2 : Int32)]) (rest := [.int p1]) (st1 := [.int r_18, .int p1]) (wc := [oX2 aD aDc D_writesDone D_writesLeft D_down, rI aDc cI 4096 D_cells, oX3 aI aD]) (w1 := [oX2 aD aDc D_writesDone D_writesLeft D_down, rI aDc cI 4096 D_cells, oX3 aI aD]) (wr := [oX9 aP P_seriesCount P_most P_ratio aD aI aG aU aT aQ aC P_recoveries, oX4 aG aD G_logged]) (wb := [oX9 aP P_seriesCount P_most P_ratio aD aI aG aU aT aQ aC P_recoveries, oX2 aD aDc D_writesDone D_writesLeft D_down, rI aDc cI 4096 D_cells, oX3 aI aD, oX4 aG aD G_logged]) (v := (some (.int r_18))) hx hb hml hown htc hN (c_X3_at l G cI cZ cJ aD aDc aI D_writesDone D_writesLeft D_down D_cells (r_7 - (1 : Int32)) (2 : Int32) hE_17) mw_395 mw_391 mw_392 mw_4 mw_393 hd_X3_at ⟨rfl, rfl⟩ ⟨Nat.le_of_ble_eq_true rfl, Nat.le_of_ble_eq_true rfl⟩ hK hw12 hA [1, 2, 3] [0, 4] [0, 2, 3, 4, 1] rfl rfl rfl rfl rfl (by decide) rfl rfl rfl 2 rfl rfl rfl rfl hl9.1 rfl rfl (Nat.le_of_ble_eq_true rfl) dX9_isRising_66 ⟨Nat.zero_le _, Nat.zero_le _⟩ (fun H19 locs19 hw19 => ?_)
      clear hw12 H12 locs12
      refine lv_icmp_le (tgt := 76) hx hb dX9_isRising_69 (by decide) (fun c_20 => ?_) (fun c_20 => ?_)
      · replace hJ_14 := it_t c_20 hJ_14
        refine lv_iconst (v := (0 : Int32)) hx hb dX9_isRising_76 (by decide) ?_
        cases hJ_14
        exact kj_15 _ _ _ hw19 (lv_sub hl9 [] rfl)
      · replace hJ_14 := it_f c_20 hJ_14
        refine lv_iconst (v := (1 : Int32)) hx hb dX9_isRising_72 (by decide) ?_
        refine lv_goto (tgt := 77) hx hb dX9_isRising_73 (by decide) ?_
        cases hJ_14
        exact kj_15 _ _ _ hw19 (lv_sub hl9 [] rfl)
  · replace hfin := it_f c_5 hfin
    refine lv_iload_n hx hb dX9_isRising_14 rfl (lv_at hl4 3 rfl) ?_
    refine lv_aload_n hx hb dX9_isRising_15 rfl (lv_at hl4 1 rfl) ?_
    refine va_get (D := G) (ci := 9) (v := .ref aG) (C := RX9) (T := TX9) (N := 11) hx hb htc iX9 hown hK hw3.1 0 rfl rfl 5 (by decide) (htc _ mw_308) (fun _ h9 => h9) rfl dX9_isRising_16 ?_
    refine lv_iload_n hx hb dX9_isRising_19 rfl (lv_at hl4 0 rfl) ?_
    refine lv_iconst (v := (1 : Int32)) hx hb dX9_isRising_20 (by decide) ?_
    replace hfin := ob1_some hfin
    obtain ⟨r_24, hE_23, hfin⟩ := hfin
    refine ctV (a := aG) (As := [.int r_2, .int (1 : Int32)]) (rest := [.int p1]) (st1 := [.int r_24, .int p1]) (wc := [oX2 aD aDc D_writesDone D_writesLeft D_down, rI aDc cI 4096 D_cells, oX4 aG aD G_logged]) (w1 := [oX2 aD aDc D_writesDone D_writesLeft D_down, rI aDc cI 4096 D_cells, oX4 aG aD G_logged]) (wr := [oX9 aP P_seriesCount P_most P_ratio aD aI aG aU aT aQ aC P_recoveries, oX3 aI aD]) (wb := [oX9 aP P_seriesCount P_most P_ratio aD aI aG aU aT aQ aC P_recoveries, oX2 aD aDc D_writesDone D_writesLeft D_down, rI aDc cI 4096 D_cells, oX3 aI aD, oX4 aG aD G_logged]) (v := (some (.int r_24))) hx hb hml hown htc hN (c_X4_at l G cI cZ cJ aD aDc aG D_writesDone D_writesLeft D_down D_cells G_logged r_2 (1 : Int32) hE_23) mw_369 mw_362 mw_363 mw_5 mw_364 hd_X4_at ⟨rfl, rfl⟩ ⟨Nat.le_of_ble_eq_true rfl, Nat.le_of_ble_eq_true rfl⟩ hK hw3 hA [1, 2, 4] [0, 3] [0, 2, 3, 1, 4] rfl rfl rfl rfl rfl (by decide) rfl rfl rfl 2 rfl rfl rfl rfl hl4.1 rfl rfl (Nat.le_of_ble_eq_true rfl) dX9_isRising_21 ⟨Nat.zero_le _, Nat.zero_le _⟩ (fun H25 locs25 hw25 => ?_)
    clear hw3 H3 locs3
    replace hfin := ob1_some hfin
    obtain ⟨s_26, hJ_27, hfin⟩ := hfin
    have kj_28 : ∀ (H : Heap) (locs : List Loc) (ls : Array Slot), wS G A s H locs [oX9 aP P_seriesCount P_most P_ratio aD aI aG aU aT aQ aC P_recoveries, oX2 aD aDc D_writesDone D_writesLeft D_down, rI aDc cI 4096 D_cells, oX3 aI aD, oX4 aG aD G_logged] → lv_has ls 5 [] → W p l e rm_X9_isRising s m args below meth c H locs 0 0 QQ (F0 m 32 ls [.int s_26]) := by
      clear hw25 H25 locs25 hl4 ls4 hJ_27
      intro H30 locs30 ls30 hw30 hl30
      replace hfin := ckz_some hfin
      obtain ⟨hz_31, hfin⟩ := hfin
      cases hfin
      rw [hQQ]
      exact ct_zret hx hb hr hlocks hz_31 hw30.1 hw30.2.1 hw30.2.2 dX9_isRising_32
    clear hfin
    refine lv_icmp_le (tgt := 31) hx hb dX9_isRising_24 (by decide) (fun c_29 => ?_) (fun c_29 => ?_)
    · replace hJ_27 := it_t c_29 hJ_27
      refine lv_iconst (v := (0 : Int32)) hx hb dX9_isRising_31 (by decide) ?_
      cases hJ_27
      exact kj_28 _ _ _ hw25 (lv_sub hl4 [] rfl)
    · replace hJ_27 := it_f c_29 hJ_27
      refine lv_iconst (v := (1 : Int32)) hx hb dX9_isRising_27 (by decide) ?_
      refine lv_goto (tgt := 32) hx hb dX9_isRising_28 (by decide) ?_
      cases hJ_27
      exact kj_28 _ _ _ hw25 (lv_sub hl4 [] rfl)
abbrev rm_X9_append : Room := { frames := 5, cells := 0, slots := 0, locals := 111 }
theorem hd_X9_append : yX9_append.cls = RX9 ∧ yX9_append.cls ≠ "java/lang/invoke/MethodHandle" ∧ yX9_append.cls ≠ "java/lang/invoke/VarHandle" ∧ (parseMethodDescriptor yX9_append.desc).map (fun d => d.parameters.length) = some 3 := by decide +kernel
set_option maxHeartbeats 4000000 in
set_option maxRecDepth 100000 in
theorem c_X9_append (l : Launch) (G : va_G) (cI cZ cJ : ClassId) (aP aD aI aG aU aT aQ aC aDc aV : Nat) (P_seriesCount : Int32) (P_most : Int32) (P_ratio : Int32) (P_recoveries : Int32) (D_writesDone : Int32) (D_writesLeft : Int32) (D_down : Int32) (D_cells : Nat → Int32) (G_logged : Int32) (C_isOpen : Int32) (C_series : Int32) (C_from : Int32) (C_to : Int32) (C_entry : Int32) (C_entriesEnd : Int32) (C_pointsLeft : Int32) (C_block : Int32) (C_time : Int32) (C_value : Int32) (p0 : Int32) (p1 : Int32) (p2 : Int32) {r : Int32} {o_D_writesDone : Int32} {o_D_writesLeft : Int32} {o_D_down : Int32} {o_D_cells : Nat → Int32} {o_G_logged : Int32} {o_C_isOpen : Int32} {o_C_time : Int32} {o_C_value : Int32} (hfin : m_X9_append P_seriesCount D_writesDone D_writesLeft D_down D_cells G_logged C_isOpen C_time C_value p0 p1 p2 = some (r, o_D_writesDone, o_D_writesLeft, o_D_down, o_D_cells, o_G_logged, o_C_isOpen, o_C_time, o_C_value)) : CT l yX9_append cX9_append 4 (some .int) rm_X9_append G (tyC cI cZ cJ) [.ref aP, .int p0, .int p1, .int p2] [oX9 aP P_seriesCount P_most P_ratio aD aI aG aU aT aQ aC P_recoveries, oX2 aD aDc D_writesDone D_writesLeft D_down, rI aDc cI 4096 D_cells, oX3 aI aD, oX4 aG aD G_logged, oX1 aC aI aG aV C_isOpen C_series C_from C_to C_entry C_entriesEnd C_pointsLeft C_block C_time C_value] (some (.int r)) [oX9 aP P_seriesCount P_most P_ratio aD aI aG aU aT aQ aC P_recoveries, oX2 aD aDc o_D_writesDone o_D_writesLeft o_D_down, rI aDc cI 4096 o_D_cells, oX3 aI aD, oX4 aG aD o_G_logged, oX1 aC aI aG aV o_C_isOpen C_series C_from C_to C_entry C_entriesEnd C_pointsLeft C_block o_C_time o_C_value] := by
  refine CT.ofW (lvl := [(0, .ref aP), (1, .int p0), (2, .int p1), (3, .int p2)]) (by decide) (Nat.le_of_ble_eq_true rfl) rfl ?_
  intro p e s m args below meth c A ls0 QQ hQQ hx hb hml hr hlocks htc hN hown hK hA hw0 hl0
  rw [m_X9_append] at hfin
  refine lv_aload_n hx hb dX9_append_0 rfl (lv_at hl0 0 rfl) ?_
  refine va_get (D := G) (ci := 9) (v := .ref aC) (C := RX9) (T := TX9) (N := 11) hx hb htc iX9 hown hK hw0.1 0 rfl rfl 9 (by decide) (htc _ mw_312) (fun _ h9 => h9) rfl dX9_append_1 ?_
  replace hfin := ob3_some hfin
  obtain ⟨C_isOpen_2, C_time_3, C_value_4, hE_1, hfin⟩ := hfin
  refine ctV (a := aC) (As := []) (rest := []) (st1 := []) (wc := [oX1 aC aI aG aV C_isOpen C_series C_from C_to C_entry C_entriesEnd C_pointsLeft C_block C_time C_value]) (w1 := [oX1 aC aI aG aV C_isOpen_2 C_series C_from C_to C_entry C_entriesEnd C_pointsLeft C_block C_time_3 C_value_4]) (wr := [oX9 aP P_seriesCount P_most P_ratio aD aI aG aU aT aQ aC P_recoveries, oX2 aD aDc D_writesDone D_writesLeft D_down, rI aDc cI 4096 D_cells, oX3 aI aD, oX4 aG aD G_logged]) (wb := [oX9 aP P_seriesCount P_most P_ratio aD aI aG aU aT aQ aC P_recoveries, oX2 aD aDc D_writesDone D_writesLeft D_down, rI aDc cI 4096 D_cells, oX3 aI aD, oX4 aG aD G_logged, oX1 aC aI aG aV C_isOpen_2 C_series C_from C_to C_entry C_entriesEnd C_pointsLeft C_block C_time_3 C_value_4]) (v := none) hx hb hml hown htc hN (c_X1_close l G cI cZ cJ aC aI aG aV C_isOpen C_series C_from C_to C_entry C_entriesEnd C_pointsLeft C_block C_time C_value  hE_1) mw_341 mw_342 mw_343 mw_11 mw_344 hd_X1_close ⟨rfl, rfl⟩ ⟨Nat.le_of_ble_eq_true rfl, Nat.le_of_ble_eq_true rfl⟩ hK hw0 hA [5] [0, 1, 2, 3, 4] [0, 1, 2, 3, 4, 5] rfl rfl rfl rfl rfl (by decide) rfl rfl rfl 0 rfl rfl rfl rfl hl0.1 rfl rfl (Nat.le_of_ble_eq_true rfl) dX9_append_4 ⟨Nat.zero_le _, Nat.zero_le _⟩ (fun H5 locs5 hw5 => ?_)
  clear hw0
  refine lv_aload_n hx hb dX9_append_7 rfl (lv_at hl0 0 rfl) ?_
  refine va_get (D := G) (ci := 9) (v := .ref aD) (C := RX9) (T := TX9) (N := 11) hx hb htc iX9 hown hK hw5.1 0 rfl rfl 3 (by decide) (htc _ mw_306) (fun _ h9 => h9) rfl dX9_append_8 ?_
  replace hfin := ob1_some hfin
  obtain ⟨r_7, hE_6, hfin⟩ := hfin
  refine ctV (a := aD) (As := []) (rest := []) (st1 := [.int r_7]) (wc := [oX2 aD aDc D_writesDone D_writesLeft D_down]) (w1 := [oX2 aD aDc D_writesDone D_writesLeft D_down]) (wr := [oX9 aP P_seriesCount P_most P_ratio aD aI aG aU aT aQ aC P_recoveries, rI aDc cI 4096 D_cells, oX3 aI aD, oX4 aG aD G_logged, oX1 aC aI aG aV C_isOpen_2 C_series C_from C_to C_entry C_entriesEnd C_pointsLeft C_block C_time_3 C_value_4]) (wb := [oX9 aP P_seriesCount P_most P_ratio aD aI aG aU aT aQ aC P_recoveries, oX2 aD aDc D_writesDone D_writesLeft D_down, rI aDc cI 4096 D_cells, oX3 aI aD, oX4 aG aD G_logged, oX1 aC aI aG aV C_isOpen_2 C_series C_from C_to C_entry C_entriesEnd C_pointsLeft C_block C_time_3 C_value_4]) (v := (some (.int r_7))) hx hb hml hown htc hN (c_X2_isDown l G cI cZ cJ aD aDc D_writesDone D_writesLeft D_down  hE_6) mw_345 mw_346 mw_347 mw_3 mw_348 hd_X2_isDown ⟨rfl, rfl⟩ ⟨Nat.le_of_ble_eq_true rfl, Nat.le_of_ble_eq_true rfl⟩ hK hw5 hA [1] [0, 2, 3, 4, 5] [0, 5, 1, 2, 3, 4] rfl rfl rfl rfl rfl (by decide) rfl rfl rfl 0 rfl rfl rfl rfl hl0.1 rfl rfl (Nat.le_of_ble_eq_true rfl) dX9_append_11 ⟨Nat.zero_le _, Nat.zero_le _⟩ (fun H8 locs8 hw8 => ?_)
  clear hw5 H5 locs5
  refine lv_if_eq (tgt := 20) hx hb dX9_append_14 (by decide) (fun c_9 => ?_) (fun c_9 => ?_)
  · replace hfin := it_t c_9 hfin
    refine lv_aload_n hx hb dX9_append_20 rfl (lv_at hl0 0 rfl) ?_
    refine lv_iload_n hx hb dX9_append_21 rfl (lv_at hl0 1 rfl) ?_
    replace hfin := ob1_some hfin
    obtain ⟨r_11, hE_10, hfin⟩ := hfin
    refine ctV (a := aP) (As := [.int p0]) (rest := []) (st1 := [.int r_11]) (wc := [oX9 aP P_seriesCount P_most P_ratio aD aI aG aU aT aQ aC P_recoveries]) (w1 := [oX9 aP P_seriesCount P_most P_ratio aD aI aG aU aT aQ aC P_recoveries]) (wr := [oX2 aD aDc D_writesDone D_writesLeft D_down, rI aDc cI 4096 D_cells, oX3 aI aD, oX4 aG aD G_logged, oX1 aC aI aG aV C_isOpen_2 C_series C_from C_to C_entry C_entriesEnd C_pointsLeft C_block C_time_3 C_value_4]) (wb := [oX9 aP P_seriesCount P_most P_ratio aD aI aG aU aT aQ aC P_recoveries, oX2 aD aDc D_writesDone D_writesLeft D_down, rI aDc cI 4096 D_cells, oX3 aI aD, oX4 aG aD G_logged, oX1 aC aI aG aV C_isOpen_2 C_series C_from C_to C_entry C_entriesEnd C_pointsLeft C_block C_time_3 C_value_4]) (v := (some (.int r_11))) hx hb hml hown htc hN (c_X9_isSeries l G cI cZ cJ aP aD aI aG aU aT aQ aC P_seriesCount P_most P_ratio P_recoveries p0 hE_10) mw_349 mw_351 mp_0 mw_1 mw_352 hd_X9_isSeries ⟨rfl, rfl⟩ ⟨Nat.le_of_ble_eq_true rfl, Nat.le_of_ble_eq_true rfl⟩ hK hw8 hA [0] [1, 2, 3, 4, 5] [5, 0, 1, 2, 3, 4] rfl rfl rfl rfl rfl (by decide) rfl rfl rfl 0 rfl rfl rfl rfl hl0.1 rfl rfl (Nat.le_of_ble_eq_true rfl) dX9_append_22 ⟨Nat.zero_le _, Nat.zero_le _⟩ (fun H12 locs12 hw12 => ?_)
    clear hw8 H8 locs8
    refine lv_if_ne (tgt := 31) hx hb dX9_append_25 (by decide) (fun c_13 => ?_) (fun c_13 => ?_)
    · replace hfin := it_f c_13 hfin
      refine lv_aload_n hx hb dX9_append_31 rfl (lv_at hl0 0 rfl) ?_
      refine lv_iload_n hx hb dX9_append_32 rfl (lv_at hl0 1 rfl) ?_
      refine lv_iload_n hx hb dX9_append_33 rfl (lv_at hl0 2 rfl) ?_
      replace hfin := ob1_some hfin
      obtain ⟨r_15, hE_14, hfin⟩ := hfin
      refine ctV (a := aP) (As := [.int p0, .int p1]) (rest := []) (st1 := [.int r_15]) (wc := [oX9 aP P_seriesCount P_most P_ratio aD aI aG aU aT aQ aC P_recoveries, oX2 aD aDc D_writesDone D_writesLeft D_down, rI aDc cI 4096 D_cells, oX3 aI aD, oX4 aG aD G_logged]) (w1 := [oX9 aP P_seriesCount P_most P_ratio aD aI aG aU aT aQ aC P_recoveries, oX2 aD aDc D_writesDone D_writesLeft D_down, rI aDc cI 4096 D_cells, oX3 aI aD, oX4 aG aD G_logged]) (wr := [oX1 aC aI aG aV C_isOpen_2 C_series C_from C_to C_entry C_entriesEnd C_pointsLeft C_block C_time_3 C_value_4]) (wb := [oX9 aP P_seriesCount P_most P_ratio aD aI aG aU aT aQ aC P_recoveries, oX2 aD aDc D_writesDone D_writesLeft D_down, rI aDc cI 4096 D_cells, oX3 aI aD, oX4 aG aD G_logged, oX1 aC aI aG aV C_isOpen_2 C_series C_from C_to C_entry C_entriesEnd C_pointsLeft C_block C_time_3 C_value_4]) (v := (some (.int r_15))) hx hb hml hown htc hN (c_X9_isRising l G cI cZ cJ aP aD aI aG aU aT aQ aC aDc P_seriesCount P_most P_ratio P_recoveries D_writesDone D_writesLeft D_down D_cells G_logged p0 p1 hE_14) mw_353 mw_355 mp_1 mw_1 mw_356 hd_X9_isRising ⟨rfl, rfl⟩ ⟨Nat.le_of_ble_eq_true rfl, Nat.le_of_ble_eq_true rfl⟩ hK hw12 hA [0, 1, 2, 3, 4] [5] [1, 2, 3, 4, 5, 0] rfl rfl rfl rfl rfl (by decide) rfl rfl rfl 0 rfl rfl rfl rfl hl0.1 rfl rfl (Nat.le_of_ble_eq_true rfl) dX9_append_34 ⟨Nat.zero_le _, Nat.zero_le _⟩ (fun H16 locs16 hw16 => ?_)
      clear hw12 H12 locs12
      refine lv_if_ne (tgt := 42) hx hb dX9_append_37 (by decide) (fun c_17 => ?_) (fun c_17 => ?_)
      · replace hfin := it_f c_17 hfin
        refine lv_aload_n hx hb dX9_append_42 rfl (lv_at hl0 0 rfl) ?_
        refine va_get (D := G) (ci := 9) (v := .ref aG) (C := RX9) (T := TX9) (N := 11) hx hb htc iX9 hown hK hw16.1 0 rfl rfl 5 (by decide) (htc _ mw_308) (fun _ h9 => h9) rfl dX9_append_43 ?_
        replace hfin := ob1_some hfin
        obtain ⟨r_19, hE_18, hfin⟩ := hfin
        refine ctV (a := aG) (As := []) (rest := []) (st1 := [.int r_19]) (wc := [oX4 aG aD G_logged]) (w1 := [oX4 aG aD G_logged]) (wr := [oX9 aP P_seriesCount P_most P_ratio aD aI aG aU aT aQ aC P_recoveries, oX2 aD aDc D_writesDone D_writesLeft D_down, rI aDc cI 4096 D_cells, oX3 aI aD, oX1 aC aI aG aV C_isOpen_2 C_series C_from C_to C_entry C_entriesEnd C_pointsLeft C_block C_time_3 C_value_4]) (wb := [oX9 aP P_seriesCount P_most P_ratio aD aI aG aU aT aQ aC P_recoveries, oX2 aD aDc D_writesDone D_writesLeft D_down, rI aDc cI 4096 D_cells, oX3 aI aD, oX4 aG aD G_logged, oX1 aC aI aG aV C_isOpen_2 C_series C_from C_to C_entry C_entriesEnd C_pointsLeft C_block C_time_3 C_value_4]) (v := (some (.int r_19))) hx hb hml hown htc hN (c_X4_isFull l G cI cZ cJ aG aD G_logged  hE_18) mw_396 mw_397 mw_398 mw_5 mw_399 hd_X4_isFull ⟨rfl, rfl⟩ ⟨Nat.le_of_ble_eq_true rfl, Nat.le_of_ble_eq_true rfl⟩ hK hw16 hA [4] [0, 1, 2, 3, 5] [0, 1, 2, 3, 5, 4] rfl rfl rfl rfl rfl (by decide) rfl rfl rfl 0 rfl rfl rfl rfl hl0.1 rfl rfl (Nat.le_of_ble_eq_true rfl) dX9_append_46 ⟨Nat.zero_le _, Nat.zero_le _⟩ (fun H20 locs20 hw20 => ?_)
        clear hw16 H16 locs16
        refine lv_if_eq (tgt := 55) hx hb dX9_append_49 (by decide) (fun c_21 => ?_) (fun c_21 => ?_)
        · replace hfin := it_t c_21 hfin
          refine lv_aload_n hx hb dX9_append_55 rfl (lv_at hl0 0 rfl) ?_
          refine va_get (D := G) (ci := 9) (v := .ref aG) (C := RX9) (T := TX9) (N := 11) hx hb htc iX9 hown hK hw20.1 0 rfl rfl 5 (by decide) (htc _ mw_308) (fun _ h9 => h9) rfl dX9_append_56 ?_
          refine lv_iload_n hx hb dX9_append_59 rfl (lv_at hl0 1 rfl) ?_
          refine lv_iload_n hx hb dX9_append_60 rfl (lv_at hl0 2 rfl) ?_
          refine lv_iload_n hx hb dX9_append_61 rfl (lv_at hl0 3 rfl) ?_
          replace hfin := ob6_some hfin
          obtain ⟨r_23, D_writesDone_24, D_writesLeft_25, D_down_26, D_cells_27, G_logged_28, hE_22, hfin⟩ := hfin
          refine ctV (a := aG) (As := [.int p0, .int p1, .int p2]) (rest := []) (st1 := [.int r_23]) (wc := [oX2 aD aDc D_writesDone D_writesLeft D_down, rI aDc cI 4096 D_cells, oX4 aG aD G_logged]) (w1 := [oX2 aD aDc D_writesDone_24 D_writesLeft_25 D_down_26, rI aDc cI 4096 D_cells_27, oX4 aG aD G_logged_28]) (wr := [oX9 aP P_seriesCount P_most P_ratio aD aI aG aU aT aQ aC P_recoveries, oX3 aI aD, oX1 aC aI aG aV C_isOpen_2 C_series C_from C_to C_entry C_entriesEnd C_pointsLeft C_block C_time_3 C_value_4]) (wb := [oX9 aP P_seriesCount P_most P_ratio aD aI aG aU aT aQ aC P_recoveries, oX2 aD aDc D_writesDone_24 D_writesLeft_25 D_down_26, rI aDc cI 4096 D_cells_27, oX3 aI aD, oX4 aG aD G_logged_28, oX1 aC aI aG aV C_isOpen_2 C_series C_from C_to C_entry C_entriesEnd C_pointsLeft C_block C_time_3 C_value_4]) (v := (some (.int r_23))) hx hb hml hown htc hN (c_X4_add l G cI cZ cJ aD aDc aG D_writesDone D_writesLeft D_down D_cells G_logged p0 p1 p2 hE_22) mw_400 mw_401 mw_402 mw_5 mw_403 hd_X4_add ⟨rfl, rfl⟩ ⟨Nat.le_of_ble_eq_true rfl, Nat.le_of_ble_eq_true rfl⟩ hK hw20 hA [1, 2, 4] [0, 3, 5] [0, 3, 4, 1, 5, 2] rfl rfl rfl rfl rfl (by decide) rfl rfl rfl 2 rfl rfl rfl rfl hl0.1 rfl rfl (Nat.le_of_ble_eq_true rfl) dX9_append_62 ⟨Nat.zero_le _, Nat.zero_le _⟩ (fun H29 locs29 hw29 => ?_)
          clear hw20 H20 locs20
          replace hfin := ob1_some hfin
          obtain ⟨s_30, hJ_31, hfin⟩ := hfin
          have kj_32 : ∀ (H : Heap) (locs : List Loc) (ls : Array Slot), wS G A s H locs [oX9 aP P_seriesCount P_most P_ratio aD aI aG aU aT aQ aC P_recoveries, oX2 aD aDc D_writesDone_24 D_writesLeft_25 D_down_26, rI aDc cI 4096 D_cells_27, oX3 aI aD, oX4 aG aD G_logged_28, oX1 aC aI aG aV C_isOpen_2 C_series C_from C_to C_entry C_entriesEnd C_pointsLeft C_block C_time_3 C_value_4] → lv_has ls 4 [] → W p l e rm_X9_append s m args below meth c H locs 0 0 QQ (F0 m 74 ls [.int s_30]) := by
            clear hw29 H29 locs29 hl0 ls0 hJ_31
            intro H34 locs34 ls34 hw34 hl34
            cases hfin
            rw [hQQ]
            exact ct_iret hx hb hr hlocks hw34.1 hw34.2.1 hw34.2.2 dX9_append_74
          clear hfin
          refine lv_if_eq (tgt := 72) hx hb dX9_append_65 (by decide) (fun c_33 => ?_) (fun c_33 => ?_)
          · replace hJ_31 := it_t c_33 hJ_31
            refine lv_bipush (v := (-9 : Int32)) hx hb dX9_append_72 (by decide) ?_
            cases hJ_31
            exact kj_32 _ _ _ hw29 (lv_sub hl0 [] rfl)
          · replace hJ_31 := it_f c_33 hJ_31
            refine lv_iconst (v := (0 : Int32)) hx hb dX9_append_68 (by decide) ?_
            refine lv_goto (tgt := 74) hx hb dX9_append_69 (by decide) ?_
            cases hJ_31
            exact kj_32 _ _ _ hw29 (lv_sub hl0 [] rfl)
        · replace hfin := it_f c_21 hfin
          refine lv_bipush (v := (-3 : Int32)) hx hb dX9_append_52 (by decide) ?_
          cases hfin
          rw [hQQ]
          exact ct_iret hx hb hr hlocks hw20.1 hw20.2.1 hw20.2.2 dX9_append_54
      · replace hfin := it_t c_17 hfin
        refine lv_iconst (v := (-1 : Int32)) hx hb dX9_append_40 (by decide) ?_
        cases hfin
        rw [hQQ]
        exact ct_iret hx hb hr hlocks hw16.1 hw16.2.1 hw16.2.2 dX9_append_41
    · replace hfin := it_t c_13 hfin
      refine lv_bipush (v := (-2 : Int32)) hx hb dX9_append_28 (by decide) ?_
      cases hfin
      rw [hQQ]
      exact ct_iret hx hb hr hlocks hw12.1 hw12.2.1 hw12.2.2 dX9_append_30
  · replace hfin := it_f c_9 hfin
    refine lv_bipush (v := (-9 : Int32)) hx hb dX9_append_17 (by decide) ?_
    cases hfin
    rw [hQQ]
    exact ct_iret hx hb hr hlocks hw8.1 hw8.2.1 hw8.2.2 dX9_append_19
abbrev rm_X9_keepEntries : Room := { frames := 3, cells := 0, slots := 0, locals := 65 }
theorem hd_X9_keepEntries : yX9_keepEntries.cls = RX9 ∧ yX9_keepEntries.cls ≠ "java/lang/invoke/MethodHandle" ∧ yX9_keepEntries.cls ≠ "java/lang/invoke/VarHandle" ∧ (parseMethodDescriptor yX9_keepEntries.desc).map (fun d => d.parameters.length) = some 2 := by decide +kernel
set_option maxHeartbeats 4000000 in
set_option maxRecDepth 100000 in
theorem c_X9_keepEntries (l : Launch) (G : va_G) (cI cZ cJ : ClassId) (aP aD aI aG aU aT aQ aC aDc aK aO aTi aTp aTt : Nat) (P_seriesCount : Int32) (P_most : Int32) (P_ratio : Int32) (P_recoveries : Int32) (D_writesDone : Int32) (D_writesLeft : Int32) (D_down : Int32) (D_cells : Nat → Int32) (T_chunks : Int32) (T_chunksMade : Int32) (T_openFrom : Int32) (T_lacksSpace : Int32) (T_image : Nat → Int32) (T_packedFrom : Nat → Int32) (p0 : Int32) (p1 : Int32) {o_T_chunks : Int32} {o_T_lacksSpace : Int32} {o_T_image : Nat → Int32} {o_T_packedFrom : Nat → Int32} (hfin : m_X9_keepEntries D_cells T_chunks T_lacksSpace T_image T_packedFrom p0 p1 = some (o_T_chunks, o_T_lacksSpace, o_T_image, o_T_packedFrom)) : CT l yX9_keepEntries cX9_keepEntries 4 none rm_X9_keepEntries G (tyC cI cZ cJ) [.ref aP, .int p0, .int p1] [oX9 aP P_seriesCount P_most P_ratio aD aI aG aU aT aQ aC P_recoveries, oX2 aD aDc D_writesDone D_writesLeft D_down, rI aDc cI 4096 D_cells, oX3 aI aD, oX7 aT aD aI aK aO aTi aTp aTt T_chunks T_chunksMade T_openFrom T_lacksSpace, rI aTi cI 961 T_image, rI aTp cI 96 T_packedFrom] none [oX9 aP P_seriesCount P_most P_ratio aD aI aG aU aT aQ aC P_recoveries, oX2 aD aDc D_writesDone D_writesLeft D_down, rI aDc cI 4096 D_cells, oX3 aI aD, oX7 aT aD aI aK aO aTi aTp aTt o_T_chunks T_chunksMade T_openFrom o_T_lacksSpace, rI aTi cI 961 o_T_image, rI aTp cI 96 o_T_packedFrom] := by
  refine CT.ofW (lvl := [(0, .ref aP), (1, .int p0), (2, .int p1)]) (by decide) (Nat.le_of_ble_eq_true rfl) rfl ?_
  intro p e s m args below meth c A ls0 QQ hQQ hx hb hml hr hlocks htc hN hown hK hA hw0 hl0
  rw [m_X9_keepEntries] at hfin
  refine lv_iload_n hx hb dX9_keepEntries_0 rfl (lv_at hl0 1 rfl) ?_
  refine lv_istore_n (lv' := [(3, .int p0), (0, .ref aP), (1, .int p0), (2, .int p1)]) hx hb dX9_keepEntries_1 rfl hl0 (by decide) rfl (fun ls1 hl1 => ?_)
  clear hl0 ls0
  replace hfin := ob4_some hfin
  obtain ⟨T_chunks_11, T_lacksSpace_12, T_image_13, T_packedFrom_14, hL_7, hfin⟩ := hfin
  have kx_8 : ∀ (H : Heap) (locs : List Loc) (ls : Array Slot), wS G A s H locs [oX9 aP P_seriesCount P_most P_ratio aD aI aG aU aT aQ aC P_recoveries, oX2 aD aDc D_writesDone D_writesLeft D_down, rI aDc cI 4096 D_cells, oX3 aI aD, oX7 aT aD aI aK aO aTi aTp aTt T_chunks_11 T_chunksMade T_openFrom T_lacksSpace_12, rI aTi cI 961 T_image_13, rI aTp cI 96 T_packedFrom_14] → lv_has ls 4 [] → W p l e rm_X9_keepEntries s m args below meth c H locs 0 0 QQ (F0 m 21 ls []) := by
    clear hw0 hl1 ls1 hL_7
    intro H24 locs24 ls24 hw24 hl24
    cases hfin
    rw [hQQ]
    exact ct_vret hx hb hr hlocks hw24.1 hw24.2.1 hw24.2.2 dX9_keepEntries_21
  have lp_9 : ∀ (n : Nat) (v3_2 : Int32) (T_chunks_3 : Int32) (T_lacksSpace_4 : Int32) (T_image_5 : Nat → Int32) (T_packedFrom_6 : Nat → Int32), lp_X9_keepEntries_2 D_cells p1 n v3_2 T_chunks_3 T_lacksSpace_4 T_image_5 T_packedFrom_6 = some (T_chunks_11, T_lacksSpace_12, T_image_13, T_packedFrom_14) → ∀ (H : Heap) (locs : List Loc) (ls : Array Slot), wS G A s H locs [oX9 aP P_seriesCount P_most P_ratio aD aI aG aU aT aQ aC P_recoveries, oX2 aD aDc D_writesDone D_writesLeft D_down, rI aDc cI 4096 D_cells, oX3 aI aD, oX7 aT aD aI aK aO aTi aTp aTt T_chunks_3 T_chunksMade T_openFrom T_lacksSpace_4, rI aTi cI 961 T_image_5, rI aTp cI 96 T_packedFrom_6] → lv_has ls 4 [(0, .ref aP), (2, .int p1), (3, .int v3_2)] → W p l e rm_X9_keepEntries s m args below meth c H locs 0 0 QQ (F0 m 2 ls []) := by
    clear hw0 hl1 ls1 hfin
    intro n
    induction n with
    | zero =>
      intro v3_2 T_chunks_3 T_lacksSpace_4 T_image_5 T_packedFrom_6 hB_10
      exact absurd hB_10 (by rw [lp_X9_keepEntries_2]; exact fun h9 => nomatch h9)
    | succ n ih =>
      intro v3_2 T_chunks_3 T_lacksSpace_4 T_image_5 T_packedFrom_6 hB_10 H15 locs15 ls15 hw15 hl15
      rw [lp_X9_keepEntries_2] at hB_10
      refine lv_iload_n hx hb dX9_keepEntries_2 rfl (lv_at hl15 2 rfl) ?_
      refine lv_iload_n hx hb dX9_keepEntries_3 rfl (lv_at hl15 1 rfl) ?_
      refine lv_icmp_ge (tgt := 21) hx hb dX9_keepEntries_4 (by decide) (fun c_16 => ?_) (fun c_16 => ?_)
      · replace hB_10 := it_t c_16 hB_10
        cases hB_10
        exact kx_8 _ _ _ hw15 (lv_sub hl15 [] rfl)
      · replace hB_10 := it_f c_16 hB_10
        refine lv_aload_n hx hb dX9_keepEntries_7 rfl (lv_at hl15 0 rfl) ?_
        refine va_get (D := G) (ci := 9) (v := .ref aT) (C := RX9) (T := TX9) (N := 11) hx hb htc iX9 hown hK hw15.1 0 rfl rfl 7 (by decide) (htc _ mw_310) (fun _ h9 => h9) rfl dX9_keepEntries_8 ?_
        refine lv_iload_n hx hb dX9_keepEntries_11 rfl (lv_at hl15 2 rfl) ?_
        replace hB_10 := ob4_some hB_10
        obtain ⟨T_chunks_18, T_lacksSpace_19, T_image_20, T_packedFrom_21, hE_17, hB_10⟩ := hB_10
        refine ctV (a := aT) (As := [.int v3_2]) (rest := []) (st1 := []) (wc := [oX2 aD aDc D_writesDone D_writesLeft D_down, rI aDc cI 4096 D_cells, oX3 aI aD, oX7 aT aD aI aK aO aTi aTp aTt T_chunks_3 T_chunksMade T_openFrom T_lacksSpace_4, rI aTi cI 961 T_image_5, rI aTp cI 96 T_packedFrom_6]) (w1 := [oX2 aD aDc D_writesDone D_writesLeft D_down, rI aDc cI 4096 D_cells, oX3 aI aD, oX7 aT aD aI aK aO aTi aTp aTt T_chunks_18 T_chunksMade T_openFrom T_lacksSpace_19, rI aTi cI 961 T_image_20, rI aTp cI 96 T_packedFrom_21]) (wr := [oX9 aP P_seriesCount P_most P_ratio aD aI aG aU aT aQ aC P_recoveries]) (wb := [oX9 aP P_seriesCount P_most P_ratio aD aI aG aU aT aQ aC P_recoveries, oX2 aD aDc D_writesDone D_writesLeft D_down, rI aDc cI 4096 D_cells, oX3 aI aD, oX7 aT aD aI aK aO aTi aTp aTt T_chunks_18 T_chunksMade T_openFrom T_lacksSpace_19, rI aTi cI 961 T_image_20, rI aTp cI 96 T_packedFrom_21]) (v := none) hx hb hml hown htc hN (c_X7_keep l G cI cZ cJ aD aDc aI aT aK aO aTi aTp aTt D_writesDone D_writesLeft D_down D_cells T_chunks_3 T_chunksMade T_openFrom T_lacksSpace_4 T_image_5 T_packedFrom_6 v3_2 hE_17) mw_442 mw_443 mw_444 mw_7 mw_445 hd_X7_keep ⟨rfl, rfl⟩ ⟨Nat.le_of_ble_eq_true rfl, Nat.le_of_ble_eq_true rfl⟩ hK hw15 hA [1, 2, 3, 4, 5, 6] [0] [0, 1, 2, 3, 4, 5, 6] rfl rfl rfl rfl rfl (by decide) rfl rfl rfl 3 rfl rfl rfl rfl hl15.1 rfl rfl (Nat.le_of_ble_eq_true rfl) dX9_keepEntries_12 ⟨Nat.zero_le _, Nat.zero_le _⟩ (fun H22 locs22 hw22 => ?_)
        clear hw15 H15 locs15
        refine lv_iinc (v := (v3_2 + (1 : Int32))) (lv' := [(3, .int (v3_2 + (1 : Int32))), (0, .ref aP), (2, .int p1)]) hx hb dX9_keepEntries_15 hl15 (k := 2) rfl rfl (by decide) rfl (fun ls23 hl23 => ?_)
        clear hl15 ls15
        refine lv_goto (tgt := 2) hx hb dX9_keepEntries_18 (by decide) ?_
        exact ih (v3_2 + (1 : Int32)) T_chunks_18 T_lacksSpace_19 T_image_20 T_packedFrom_21 hB_10 _ _ _ hw22 (lv_sub hl23 [1, 2, 0] rfl)
  exact lp_9 NN p0 T_chunks T_lacksSpace T_image T_packedFrom hL_7 _ _ _ hw0 (lv_sub hl1 [1, 3, 0] rfl)
abbrev rm_X9_sealHead : Room := { frames := 5, cells := 0, slots := 0, locals := 114 }
theorem hd_X9_sealHead : yX9_sealHead.cls = RX9 ∧ yX9_sealHead.cls ≠ "java/lang/invoke/MethodHandle" ∧ yX9_sealHead.cls ≠ "java/lang/invoke/VarHandle" ∧ (parseMethodDescriptor yX9_sealHead.desc).map (fun d => d.parameters.length) = some 1 := by decide +kernel
set_option maxHeartbeats 4000000 in
set_option maxRecDepth 100000 in
theorem c_X9_sealHead (l : Launch) (G : va_G) (cI cZ cJ : ClassId) (aP aD aI aG aU aT aQ aC aDc aK aO aTi aTp aTt aKc : Nat) (P_seriesCount : Int32) (P_most : Int32) (P_ratio : Int32) (P_recoveries : Int32) (D_writesDone : Int32) (D_writesLeft : Int32) (D_down : Int32) (D_cells : Nat → Int32) (G_logged : Int32) (T_chunks : Int32) (T_chunksMade : Int32) (T_openFrom : Int32) (T_lacksSpace : Int32) (K_used : Int32) (K_bitsFree : Int32) (K_full : Int32) (K_time : Int32) (K_value : Int32) (K_rise : Int64) (K_cells : Nat → Int32) (O_first : Int32) (O_last : Int32) (O_points : Int32) (O_least : Int32) (O_greatest : Int32) (O_sum : Int64) (T_image : Nat → Int32) (T_packedFrom : Nat → Int32) (T_taken : Nat → Int32) (p0 : Int32) {o_T_chunks : Int32} {o_T_chunksMade : Int32} {o_T_openFrom : Int32} {o_T_lacksSpace : Int32} {o_K_used : Int32} {o_K_bitsFree : Int32} {o_K_full : Int32} {o_K_time : Int32} {o_K_value : Int32} {o_K_rise : Int64} {o_K_cells : Nat → Int32} {o_O_first : Int32} {o_O_last : Int32} {o_O_points : Int32} {o_O_least : Int32} {o_O_greatest : Int32} {o_O_sum : Int64} {o_T_image : Nat → Int32} {o_T_packedFrom : Nat → Int32} {o_T_taken : Nat → Int32} (hfin : m_X9_sealHead P_most D_cells G_logged T_chunks T_chunksMade T_openFrom T_lacksSpace K_used K_bitsFree K_full K_time K_value K_rise K_cells O_first O_last O_points O_least O_greatest O_sum T_image T_packedFrom T_taken p0 = some (o_T_chunks, o_T_chunksMade, o_T_openFrom, o_T_lacksSpace, o_K_used, o_K_bitsFree, o_K_full, o_K_time, o_K_value, o_K_rise, o_K_cells, o_O_first, o_O_last, o_O_points, o_O_least, o_O_greatest, o_O_sum, o_T_image, o_T_packedFrom, o_T_taken)) : CT l yX9_sealHead cX9_sealHead 3 none rm_X9_sealHead G (tyC cI cZ cJ) [.ref aP, .int p0] [oX9 aP P_seriesCount P_most P_ratio aD aI aG aU aT aQ aC P_recoveries, oX2 aD aDc D_writesDone D_writesLeft D_down, rI aDc cI 4096 D_cells, oX4 aG aD G_logged, oX7 aT aD aI aK aO aTi aTp aTt T_chunks T_chunksMade T_openFrom T_lacksSpace, oX5 aK aKc K_used K_bitsFree K_full K_time K_value K_rise, rI aKc cI 1661 K_cells, oX6 aO O_first O_last O_points O_least O_greatest O_sum, rI aTi cI 961 T_image, rI aTp cI 96 T_packedFrom, rI aTt cZ 1661 T_taken] none [oX9 aP P_seriesCount P_most P_ratio aD aI aG aU aT aQ aC P_recoveries, oX2 aD aDc D_writesDone D_writesLeft D_down, rI aDc cI 4096 D_cells, oX4 aG aD G_logged, oX7 aT aD aI aK aO aTi aTp aTt o_T_chunks o_T_chunksMade o_T_openFrom o_T_lacksSpace, oX5 aK aKc o_K_used o_K_bitsFree o_K_full o_K_time o_K_value o_K_rise, rI aKc cI 1661 o_K_cells, oX6 aO o_O_first o_O_last o_O_points o_O_least o_O_greatest o_O_sum, rI aTi cI 961 o_T_image, rI aTp cI 96 o_T_packedFrom, rI aTt cZ 1661 o_T_taken] := by
  refine CT.ofW (lvl := [(0, .ref aP), (1, .int p0)]) (by decide) (Nat.le_of_ble_eq_true rfl) rfl ?_
  intro p e s m args below meth c A ls0 QQ hQQ hx hb hml hr hlocks htc hN hown hK hA hw0 hl0
  rw [m_X9_sealHead] at hfin
  refine lv_iconst (v := (0 : Int32)) hx hb dX9_sealHead_0 (by decide) ?_
  refine lv_istore_n (lv' := [(2, .int (0 : Int32)), (0, .ref aP), (1, .int p0)]) hx hb dX9_sealHead_1 rfl hl0 (by decide) rfl (fun ls1 hl1 => ?_)
  clear hl0 ls0
  replace hfin := ob20_some hfin
  obtain ⟨T_chunks_27, T_chunksMade_28, T_openFrom_29, T_lacksSpace_30, K_used_31, K_bitsFree_32, K_full_33, K_time_34, K_value_35, K_rise_36, K_cells_37, O_first_38, O_last_39, O_points_40, O_least_41, O_greatest_42, O_sum_43, T_image_44, T_packedFrom_45, T_taken_46, hL_23, hfin⟩ := hfin
  have kx_24 : ∀ (H : Heap) (locs : List Loc) (ls : Array Slot), wS G A s H locs [oX9 aP P_seriesCount P_most P_ratio aD aI aG aU aT aQ aC P_recoveries, oX2 aD aDc D_writesDone D_writesLeft D_down, rI aDc cI 4096 D_cells, oX4 aG aD G_logged, oX7 aT aD aI aK aO aTi aTp aTt T_chunks_27 T_chunksMade_28 T_openFrom_29 T_lacksSpace_30, oX5 aK aKc K_used_31 K_bitsFree_32 K_full_33 K_time_34 K_value_35 K_rise_36, rI aKc cI 1661 K_cells_37, oX6 aO O_first_38 O_last_39 O_points_40 O_least_41 O_greatest_42 O_sum_43, rI aTi cI 961 T_image_44, rI aTp cI 96 T_packedFrom_45, rI aTt cZ 1661 T_taken_46] → lv_has ls 3 [(0, .ref aP), (1, .int p0)] → W p l e rm_X9_sealHead s m args below meth c H locs 0 0 QQ (F0 m 79 ls []) := by
    clear hw0 hl1 ls1 hL_23
    intro H135 locs135 ls135 hw135 hl135
    refine lv_aload_n hx hb dX9_sealHead_79 rfl (lv_at hl135 0 rfl) ?_
    refine va_get (D := G) (ci := 9) (v := .ref aT) (C := RX9) (T := TX9) (N := 11) hx hb htc iX9 hown hK hw135.1 0 rfl rfl 7 (by decide) (htc _ mw_310) (fun _ h9 => h9) rfl dX9_sealHead_80 ?_
    refine lv_iload_n hx hb dX9_sealHead_83 rfl (lv_at hl135 1 rfl) ?_
    replace hfin := ob12_some hfin
    obtain ⟨T_chunks_137, T_chunksMade_138, T_lacksSpace_139, O_first_140, O_last_141, O_points_142, O_least_143, O_greatest_144, O_sum_145, T_image_146, T_packedFrom_147, T_taken_148, hE_136, hfin⟩ := hfin
    refine ctV (a := aT) (As := [.int p0]) (rest := []) (st1 := []) (wc := [oX7 aT aD aI aK aO aTi aTp aTt T_chunks_27 T_chunksMade_28 T_openFrom_29 T_lacksSpace_30, oX5 aK aKc K_used_31 K_bitsFree_32 K_full_33 K_time_34 K_value_35 K_rise_36, oX6 aO O_first_38 O_last_39 O_points_40 O_least_41 O_greatest_42 O_sum_43, rI aTi cI 961 T_image_44, rI aTp cI 96 T_packedFrom_45, rI aTt cZ 1661 T_taken_46]) (w1 := [oX7 aT aD aI aK aO aTi aTp aTt T_chunks_137 T_chunksMade_138 T_openFrom_29 T_lacksSpace_139, oX5 aK aKc K_used_31 K_bitsFree_32 K_full_33 K_time_34 K_value_35 K_rise_36, oX6 aO O_first_140 O_last_141 O_points_142 O_least_143 O_greatest_144 O_sum_145, rI aTi cI 961 T_image_146, rI aTp cI 96 T_packedFrom_147, rI aTt cZ 1661 T_taken_148]) (wr := [oX9 aP P_seriesCount P_most P_ratio aD aI aG aU aT aQ aC P_recoveries, oX2 aD aDc D_writesDone D_writesLeft D_down, rI aDc cI 4096 D_cells, oX4 aG aD G_logged, rI aKc cI 1661 K_cells_37]) (wb := [oX9 aP P_seriesCount P_most P_ratio aD aI aG aU aT aQ aC P_recoveries, oX2 aD aDc D_writesDone D_writesLeft D_down, rI aDc cI 4096 D_cells, oX4 aG aD G_logged, oX7 aT aD aI aK aO aTi aTp aTt T_chunks_137 T_chunksMade_138 T_openFrom_29 T_lacksSpace_139, oX5 aK aKc K_used_31 K_bitsFree_32 K_full_33 K_time_34 K_value_35 K_rise_36, rI aKc cI 1661 K_cells_37, oX6 aO O_first_140 O_last_141 O_points_142 O_least_143 O_greatest_144 O_sum_145, rI aTi cI 961 T_image_146, rI aTp cI 96 T_packedFrom_147, rI aTt cZ 1661 T_taken_148]) (v := none) hx hb hml hown htc hN (c_X7_seal l G cI cZ cJ aT aD aI aK aO aTi aTp aTt aKc T_chunks_27 T_chunksMade_28 T_openFrom_29 T_lacksSpace_30 K_used_31 K_bitsFree_32 K_full_33 K_time_34 K_value_35 K_rise_36 O_first_38 O_last_39 O_points_40 O_least_41 O_greatest_42 O_sum_43 T_image_44 T_packedFrom_45 T_taken_46 p0 hE_136) mw_454 mw_455 mw_456 mw_7 mw_457 hd_X7_seal ⟨rfl, rfl⟩ ⟨Nat.le_of_ble_eq_true rfl, Nat.le_of_ble_eq_true rfl⟩ hK hw135 hA [4, 5, 7, 8, 9, 10] [0, 1, 2, 3, 6] [0, 1, 2, 3, 5, 6, 4, 7, 8, 9, 10] rfl rfl rfl rfl rfl (by decide) rfl rfl rfl 0 rfl rfl rfl rfl hl135.1 rfl rfl (Nat.le_of_ble_eq_true rfl) dX9_sealHead_84 ⟨Nat.zero_le _, Nat.zero_le _⟩ (fun H149 locs149 hw149 => ?_)
    clear hw135 H135 locs135
    cases hfin
    rw [hQQ]
    exact ct_vret hx hb hr hlocks hw149.1 hw149.2.1 hw149.2.2 dX9_sealHead_87
  have lp_25 : ∀ (n : Nat) (v2_2 : Int32) (T_chunks_3 : Int32) (T_chunksMade_4 : Int32) (T_openFrom_5 : Int32) (T_lacksSpace_6 : Int32) (K_used_7 : Int32) (K_bitsFree_8 : Int32) (K_full_9 : Int32) (K_time_10 : Int32) (K_value_11 : Int32) (K_rise_12 : Int64) (K_cells_13 : Nat → Int32) (O_first_14 : Int32) (O_last_15 : Int32) (O_points_16 : Int32) (O_least_17 : Int32) (O_greatest_18 : Int32) (O_sum_19 : Int64) (T_image_20 : Nat → Int32) (T_packedFrom_21 : Nat → Int32) (T_taken_22 : Nat → Int32), lp_X9_sealHead_2 P_most D_cells G_logged p0 n v2_2 T_chunks_3 T_chunksMade_4 T_openFrom_5 T_lacksSpace_6 K_used_7 K_bitsFree_8 K_full_9 K_time_10 K_value_11 K_rise_12 K_cells_13 O_first_14 O_last_15 O_points_16 O_least_17 O_greatest_18 O_sum_19 T_image_20 T_packedFrom_21 T_taken_22 = some (T_chunks_27, T_chunksMade_28, T_openFrom_29, T_lacksSpace_30, K_used_31, K_bitsFree_32, K_full_33, K_time_34, K_value_35, K_rise_36, K_cells_37, O_first_38, O_last_39, O_points_40, O_least_41, O_greatest_42, O_sum_43, T_image_44, T_packedFrom_45, T_taken_46) → ∀ (H : Heap) (locs : List Loc) (ls : Array Slot), wS G A s H locs [oX9 aP P_seriesCount P_most P_ratio aD aI aG aU aT aQ aC P_recoveries, oX2 aD aDc D_writesDone D_writesLeft D_down, rI aDc cI 4096 D_cells, oX4 aG aD G_logged, oX7 aT aD aI aK aO aTi aTp aTt T_chunks_3 T_chunksMade_4 T_openFrom_5 T_lacksSpace_6, oX5 aK aKc K_used_7 K_bitsFree_8 K_full_9 K_time_10 K_value_11 K_rise_12, rI aKc cI 1661 K_cells_13, oX6 aO O_first_14 O_last_15 O_points_16 O_least_17 O_greatest_18 O_sum_19, rI aTi cI 961 T_image_20, rI aTp cI 96 T_packedFrom_21, rI aTt cZ 1661 T_taken_22] → lv_has ls 3 [(0, .ref aP), (1, .int p0), (2, .int v2_2)] → W p l e rm_X9_sealHead s m args below meth c H locs 0 0 QQ (F0 m 2 ls []) := by
    clear hw0 hl1 ls1 hfin
    intro n
    induction n with
    | zero =>
      intro v2_2 T_chunks_3 T_chunksMade_4 T_openFrom_5 T_lacksSpace_6 K_used_7 K_bitsFree_8 K_full_9 K_time_10 K_value_11 K_rise_12 K_cells_13 O_first_14 O_last_15 O_points_16 O_least_17 O_greatest_18 O_sum_19 T_image_20 T_packedFrom_21 T_taken_22 hB_26
      exact absurd hB_26 (by rw [lp_X9_sealHead_2]; exact fun h9 => nomatch h9)
    | succ n ih =>
      intro v2_2 T_chunks_3 T_chunksMade_4 T_openFrom_5 T_lacksSpace_6 K_used_7 K_bitsFree_8 K_full_9 K_time_10 K_value_11 K_rise_12 K_cells_13 O_first_14 O_last_15 O_points_16 O_least_17 O_greatest_18 O_sum_19 T_image_20 T_packedFrom_21 T_taken_22 hB_26 H47 locs47 ls47 hw47 hl47
      rw [lp_X9_sealHead_2] at hB_26
      refine lv_iload_n hx hb dX9_sealHead_2 rfl (lv_at hl47 2 rfl) ?_
      refine lv_aload_n hx hb dX9_sealHead_3 rfl (lv_at hl47 0 rfl) ?_
      refine va_get (D := G) (ci := 9) (v := .ref aG) (C := RX9) (T := TX9) (N := 11) hx hb htc iX9 hown hK hw47.1 0 rfl rfl 5 (by decide) (htc _ mw_308) (fun _ h9 => h9) rfl dX9_sealHead_4 ?_
      replace hB_26 := ob1_some hB_26
      obtain ⟨r_49, hE_48, hB_26⟩ := hB_26
      refine ctV (a := aG) (As := []) (rest := [.int v2_2]) (st1 := [.int r_49, .int v2_2]) (wc := [oX4 aG aD G_logged]) (w1 := [oX4 aG aD G_logged]) (wr := [oX9 aP P_seriesCount P_most P_ratio aD aI aG aU aT aQ aC P_recoveries, oX2 aD aDc D_writesDone D_writesLeft D_down, rI aDc cI 4096 D_cells, oX7 aT aD aI aK aO aTi aTp aTt T_chunks_3 T_chunksMade_4 T_openFrom_5 T_lacksSpace_6, oX5 aK aKc K_used_7 K_bitsFree_8 K_full_9 K_time_10 K_value_11 K_rise_12, rI aKc cI 1661 K_cells_13, oX6 aO O_first_14 O_last_15 O_points_16 O_least_17 O_greatest_18 O_sum_19, rI aTi cI 961 T_image_20, rI aTp cI 96 T_packedFrom_21, rI aTt cZ 1661 T_taken_22]) (wb := [oX9 aP P_seriesCount P_most P_ratio aD aI aG aU aT aQ aC P_recoveries, oX2 aD aDc D_writesDone D_writesLeft D_down, rI aDc cI 4096 D_cells, oX4 aG aD G_logged, oX7 aT aD aI aK aO aTi aTp aTt T_chunks_3 T_chunksMade_4 T_openFrom_5 T_lacksSpace_6, oX5 aK aKc K_used_7 K_bitsFree_8 K_full_9 K_time_10 K_value_11 K_rise_12, rI aKc cI 1661 K_cells_13, oX6 aO O_first_14 O_last_15 O_points_16 O_least_17 O_greatest_18 O_sum_19, rI aTi cI 961 T_image_20, rI aTp cI 96 T_packedFrom_21, rI aTt cZ 1661 T_taken_22]) (v := (some (.int r_49))) hx hb hml hown htc hN (c_X4_logged l G cI cZ cJ aG aD G_logged  hE_48) mw_416 mw_417 mw_418 mw_5 mw_419 hd_X4_logged ⟨rfl, rfl⟩ ⟨Nat.le_of_ble_eq_true rfl, Nat.le_of_ble_eq_true rfl⟩ hK hw47 hA [3] [0, 1, 2, 4, 5, 6, 7, 8, 9, 10] [0, 1, 2, 10, 3, 4, 5, 6, 7, 8, 9] rfl rfl rfl rfl rfl (by decide) rfl rfl rfl 0 rfl rfl rfl rfl hl47.1 rfl rfl (Nat.le_of_ble_eq_true rfl) dX9_sealHead_7 ⟨Nat.zero_le _, Nat.zero_le _⟩ (fun H50 locs50 hw50 => ?_)
      clear hw47 H47 locs47
      refine lv_icmp_ge (tgt := 79) hx hb dX9_sealHead_10 (by decide) (fun c_51 => ?_) (fun c_51 => ?_)
      · replace hB_26 := it_t c_51 hB_26
        cases hB_26
        exact kx_24 _ _ _ hw50 (lv_sub hl47 [0, 1] rfl)
      · replace hB_26 := it_f c_51 hB_26
        refine lv_aload_n hx hb dX9_sealHead_13 rfl (lv_at hl47 0 rfl) ?_
        refine va_get (D := G) (ci := 9) (v := .ref aG) (C := RX9) (T := TX9) (N := 11) hx hb htc iX9 hown hK hw50.1 0 rfl rfl 5 (by decide) (htc _ mw_308) (fun _ h9 => h9) rfl dX9_sealHead_14 ?_
        refine lv_iload_n hx hb dX9_sealHead_17 rfl (lv_at hl47 2 rfl) ?_
        refine lv_iconst (v := (0 : Int32)) hx hb dX9_sealHead_18 (by decide) ?_
        replace hB_26 := ob1_some hB_26
        obtain ⟨r_53, hE_52, hB_26⟩ := hB_26
        refine ctV (a := aG) (As := [.int v2_2, .int (0 : Int32)]) (rest := []) (st1 := [.int r_53]) (wc := [oX2 aD aDc D_writesDone D_writesLeft D_down, rI aDc cI 4096 D_cells, oX4 aG aD G_logged]) (w1 := [oX2 aD aDc D_writesDone D_writesLeft D_down, rI aDc cI 4096 D_cells, oX4 aG aD G_logged]) (wr := [oX9 aP P_seriesCount P_most P_ratio aD aI aG aU aT aQ aC P_recoveries, oX7 aT aD aI aK aO aTi aTp aTt T_chunks_3 T_chunksMade_4 T_openFrom_5 T_lacksSpace_6, oX5 aK aKc K_used_7 K_bitsFree_8 K_full_9 K_time_10 K_value_11 K_rise_12, rI aKc cI 1661 K_cells_13, oX6 aO O_first_14 O_last_15 O_points_16 O_least_17 O_greatest_18 O_sum_19, rI aTi cI 961 T_image_20, rI aTp cI 96 T_packedFrom_21, rI aTt cZ 1661 T_taken_22]) (wb := [oX9 aP P_seriesCount P_most P_ratio aD aI aG aU aT aQ aC P_recoveries, oX2 aD aDc D_writesDone D_writesLeft D_down, rI aDc cI 4096 D_cells, oX4 aG aD G_logged, oX7 aT aD aI aK aO aTi aTp aTt T_chunks_3 T_chunksMade_4 T_openFrom_5 T_lacksSpace_6, oX5 aK aKc K_used_7 K_bitsFree_8 K_full_9 K_time_10 K_value_11 K_rise_12, rI aKc cI 1661 K_cells_13, oX6 aO O_first_14 O_last_15 O_points_16 O_least_17 O_greatest_18 O_sum_19, rI aTi cI 961 T_image_20, rI aTp cI 96 T_packedFrom_21, rI aTt cZ 1661 T_taken_22]) (v := (some (.int r_53))) hx hb hml hown htc hN (c_X4_at l G cI cZ cJ aD aDc aG D_writesDone D_writesLeft D_down D_cells G_logged v2_2 (0 : Int32) hE_52) mw_369 mw_362 mw_363 mw_5 mw_364 hd_X4_at ⟨rfl, rfl⟩ ⟨Nat.le_of_ble_eq_true rfl, Nat.le_of_ble_eq_true rfl⟩ hK hw50 hA [1, 2, 3] [0, 4, 5, 6, 7, 8, 9, 10] [0, 8, 9, 10, 1, 2, 3, 4, 5, 6, 7] rfl rfl rfl rfl rfl (by decide) rfl rfl rfl 2 rfl rfl rfl rfl hl47.1 rfl rfl (Nat.le_of_ble_eq_true rfl) dX9_sealHead_19 ⟨Nat.zero_le _, Nat.zero_le _⟩ (fun H54 locs54 hw54 => ?_)
        clear hw50 H50 locs50
        refine lv_iload_n hx hb dX9_sealHead_22 rfl (lv_at hl47 1 rfl) ?_
        replace hB_26 := ob20_some hB_26
        obtain ⟨T_chunks_55, T_chunksMade_56, T_openFrom_57, T_lacksSpace_58, K_used_59, K_bitsFree_60, K_full_61, K_time_62, K_value_63, K_rise_64, K_cells_65, O_first_66, O_last_67, O_points_68, O_least_69, O_greatest_70, O_sum_71, T_image_72, T_packedFrom_73, T_taken_74, hJ_75, hB_26⟩ := hB_26
        have kj_76 : ∀ (H : Heap) (locs : List Loc) (ls : Array Slot), wS G A s H locs [oX9 aP P_seriesCount P_most P_ratio aD aI aG aU aT aQ aC P_recoveries, oX2 aD aDc D_writesDone D_writesLeft D_down, rI aDc cI 4096 D_cells, oX4 aG aD G_logged, oX7 aT aD aI aK aO aTi aTp aTt T_chunks_55 T_chunksMade_56 T_openFrom_57 T_lacksSpace_58, oX5 aK aKc K_used_59 K_bitsFree_60 K_full_61 K_time_62 K_value_63 K_rise_64, rI aKc cI 1661 K_cells_65, oX6 aO O_first_66 O_last_67 O_points_68 O_least_69 O_greatest_70 O_sum_71, rI aTi cI 961 T_image_72, rI aTp cI 96 T_packedFrom_73, rI aTt cZ 1661 T_taken_74] → lv_has ls 3 [(0, .ref aP), (1, .int p0), (2, .int v2_2)] → W p l e rm_X9_sealHead s m args below meth c H locs 0 0 QQ (F0 m 73 ls []) := by
          clear hw54 H54 locs54 hl47 ls47 hJ_75
          intro H133 locs133 ls133 hw133 hl133
          refine lv_iinc (v := (v2_2 + (1 : Int32))) (lv' := [(2, .int (v2_2 + (1 : Int32))), (0, .ref aP), (1, .int p0)]) hx hb dX9_sealHead_73 hl133 (k := 2) rfl rfl (by decide) rfl (fun ls134 hl134 => ?_)
          clear hl133 ls133
          refine lv_goto (tgt := 2) hx hb dX9_sealHead_76 (by decide) ?_
          exact ih (v2_2 + (1 : Int32)) T_chunks_55 T_chunksMade_56 T_openFrom_57 T_lacksSpace_58 K_used_59 K_bitsFree_60 K_full_61 K_time_62 K_value_63 K_rise_64 K_cells_65 O_first_66 O_last_67 O_points_68 O_least_69 O_greatest_70 O_sum_71 T_image_72 T_packedFrom_73 T_taken_74 hB_26 _ _ _ hw133 (lv_sub hl134 [1, 2, 0] rfl)
        clear hB_26
        refine lv_icmp_ne (tgt := 73) hx hb dX9_sealHead_23 (by decide) (fun c_77 => ?_) (fun c_77 => ?_)
        · replace hJ_75 := it_f c_77 hJ_75
          cases hJ_75
          exact kj_76 _ _ _ hw54 (lv_sub hl47 [0, 1, 2] rfl)
        · replace hJ_75 := it_t c_77 hJ_75
          refine lv_aload_n hx hb dX9_sealHead_26 rfl (lv_at hl47 0 rfl) ?_
          refine va_get (D := G) (ci := 9) (v := .ref aT) (C := RX9) (T := TX9) (N := 11) hx hb htc iX9 hown hK hw54.1 0 rfl rfl 7 (by decide) (htc _ mw_310) (fun _ h9 => h9) rfl dX9_sealHead_27 ?_
          replace hJ_75 := ob1_some hJ_75
          obtain ⟨r_79, hE_78, hJ_75⟩ := hJ_75
          refine ctV (a := aT) (As := []) (rest := []) (st1 := [.int r_79]) (wc := [oX7 aT aD aI aK aO aTi aTp aTt T_chunks_3 T_chunksMade_4 T_openFrom_5 T_lacksSpace_6, oX6 aO O_first_14 O_last_15 O_points_16 O_least_17 O_greatest_18 O_sum_19]) (w1 := [oX7 aT aD aI aK aO aTi aTp aTt T_chunks_3 T_chunksMade_4 T_openFrom_5 T_lacksSpace_6, oX6 aO O_first_14 O_last_15 O_points_16 O_least_17 O_greatest_18 O_sum_19]) (wr := [oX9 aP P_seriesCount P_most P_ratio aD aI aG aU aT aQ aC P_recoveries, oX2 aD aDc D_writesDone D_writesLeft D_down, rI aDc cI 4096 D_cells, oX4 aG aD G_logged, oX5 aK aKc K_used_7 K_bitsFree_8 K_full_9 K_time_10 K_value_11 K_rise_12, rI aKc cI 1661 K_cells_13, rI aTi cI 961 T_image_20, rI aTp cI 96 T_packedFrom_21, rI aTt cZ 1661 T_taken_22]) (wb := [oX9 aP P_seriesCount P_most P_ratio aD aI aG aU aT aQ aC P_recoveries, oX2 aD aDc D_writesDone D_writesLeft D_down, rI aDc cI 4096 D_cells, oX4 aG aD G_logged, oX7 aT aD aI aK aO aTi aTp aTt T_chunks_3 T_chunksMade_4 T_openFrom_5 T_lacksSpace_6, oX5 aK aKc K_used_7 K_bitsFree_8 K_full_9 K_time_10 K_value_11 K_rise_12, rI aKc cI 1661 K_cells_13, oX6 aO O_first_14 O_last_15 O_points_16 O_least_17 O_greatest_18 O_sum_19, rI aTi cI 961 T_image_20, rI aTp cI 96 T_packedFrom_21, rI aTt cZ 1661 T_taken_22]) (v := (some (.int r_79))) hx hb hml hown htc hN (c_X7_pointsOpen l G cI cZ cJ aT aD aI aK aO aTi aTp aTt T_chunks_3 T_chunksMade_4 T_openFrom_5 T_lacksSpace_6 O_first_14 O_last_15 O_points_16 O_least_17 O_greatest_18 O_sum_19  hE_78) mw_450 mw_451 mw_452 mw_7 mw_453 hd_X7_pointsOpen ⟨rfl, rfl⟩ ⟨Nat.le_of_ble_eq_true rfl, Nat.le_of_ble_eq_true rfl⟩ hK hw54 hA [4, 7] [0, 1, 2, 3, 5, 6, 8, 9, 10] [0, 1, 2, 3, 9, 4, 5, 10, 6, 7, 8] rfl rfl rfl rfl rfl (by decide) rfl rfl rfl 0 rfl rfl rfl rfl hl47.1 rfl rfl (Nat.le_of_ble_eq_true rfl) dX9_sealHead_30 ⟨Nat.zero_le _, Nat.zero_le _⟩ (fun H80 locs80 hw80 => ?_)
          clear hw54 H54 locs54
          refine lv_aload_n hx hb dX9_sealHead_33 rfl (lv_at hl47 0 rfl) ?_
          refine va_get (D := G) (ci := 9) (v := .int P_most) (C := RX9) (T := TX9) (N := 11) hx hb htc iX9 hown hK hw80.1 0 rfl rfl 1 (by decide) (htc _ mw_304) (fun _ h9 => h9) rfl dX9_sealHead_34 ?_
          replace hJ_75 := ob12_some hJ_75
          obtain ⟨T_chunks_81, T_chunksMade_82, T_lacksSpace_83, O_first_84, O_last_85, O_points_86, O_least_87, O_greatest_88, O_sum_89, T_image_90, T_packedFrom_91, T_taken_92, hJ_93, hJ_75⟩ := hJ_75
          have kj_94 : ∀ (H : Heap) (locs : List Loc) (ls : Array Slot), wS G A s H locs [oX9 aP P_seriesCount P_most P_ratio aD aI aG aU aT aQ aC P_recoveries, oX2 aD aDc D_writesDone D_writesLeft D_down, rI aDc cI 4096 D_cells, oX4 aG aD G_logged, oX7 aT aD aI aK aO aTi aTp aTt T_chunks_81 T_chunksMade_82 T_openFrom_5 T_lacksSpace_83, oX5 aK aKc K_used_7 K_bitsFree_8 K_full_9 K_time_10 K_value_11 K_rise_12, rI aKc cI 1661 K_cells_13, oX6 aO O_first_84 O_last_85 O_points_86 O_least_87 O_greatest_88 O_sum_89, rI aTi cI 961 T_image_90, rI aTp cI 96 T_packedFrom_91, rI aTt cZ 1661 T_taken_92] → lv_has ls 3 [(0, .ref aP), (1, .int p0), (2, .int v2_2)] → W p l e rm_X9_sealHead s m args below meth c H locs 0 0 QQ (F0 m 48 ls []) := by
            clear hw80 H80 locs80 hl47 ls47 hJ_93
            intro H110 locs110 ls110 hw110 hl110
            refine lv_aload_n hx hb dX9_sealHead_48 rfl (lv_at hl110 0 rfl) ?_
            refine va_get (D := G) (ci := 9) (v := .ref aT) (C := RX9) (T := TX9) (N := 11) hx hb htc iX9 hown hK hw110.1 0 rfl rfl 7 (by decide) (htc _ mw_310) (fun _ h9 => h9) rfl dX9_sealHead_49 ?_
            refine lv_aload_n hx hb dX9_sealHead_52 rfl (lv_at hl110 0 rfl) ?_
            refine va_get (D := G) (ci := 9) (v := .ref aG) (C := RX9) (T := TX9) (N := 11) hx hb htc iX9 hown hK hw110.1 0 rfl rfl 5 (by decide) (htc _ mw_308) (fun _ h9 => h9) rfl dX9_sealHead_53 ?_
            refine lv_iload_n hx hb dX9_sealHead_56 rfl (lv_at hl110 2 rfl) ?_
            refine lv_iconst (v := (1 : Int32)) hx hb dX9_sealHead_57 (by decide) ?_
            replace hJ_75 := ob1_some hJ_75
            obtain ⟨r_112, hE_111, hJ_75⟩ := hJ_75
            refine ctV (a := aG) (As := [.int v2_2, .int (1 : Int32)]) (rest := [.ref aT]) (st1 := [.int r_112, .ref aT]) (wc := [oX2 aD aDc D_writesDone D_writesLeft D_down, rI aDc cI 4096 D_cells, oX4 aG aD G_logged]) (w1 := [oX2 aD aDc D_writesDone D_writesLeft D_down, rI aDc cI 4096 D_cells, oX4 aG aD G_logged]) (wr := [oX9 aP P_seriesCount P_most P_ratio aD aI aG aU aT aQ aC P_recoveries, oX7 aT aD aI aK aO aTi aTp aTt T_chunks_81 T_chunksMade_82 T_openFrom_5 T_lacksSpace_83, oX5 aK aKc K_used_7 K_bitsFree_8 K_full_9 K_time_10 K_value_11 K_rise_12, rI aKc cI 1661 K_cells_13, oX6 aO O_first_84 O_last_85 O_points_86 O_least_87 O_greatest_88 O_sum_89, rI aTi cI 961 T_image_90, rI aTp cI 96 T_packedFrom_91, rI aTt cZ 1661 T_taken_92]) (wb := [oX9 aP P_seriesCount P_most P_ratio aD aI aG aU aT aQ aC P_recoveries, oX2 aD aDc D_writesDone D_writesLeft D_down, rI aDc cI 4096 D_cells, oX4 aG aD G_logged, oX7 aT aD aI aK aO aTi aTp aTt T_chunks_81 T_chunksMade_82 T_openFrom_5 T_lacksSpace_83, oX5 aK aKc K_used_7 K_bitsFree_8 K_full_9 K_time_10 K_value_11 K_rise_12, rI aKc cI 1661 K_cells_13, oX6 aO O_first_84 O_last_85 O_points_86 O_least_87 O_greatest_88 O_sum_89, rI aTi cI 961 T_image_90, rI aTp cI 96 T_packedFrom_91, rI aTt cZ 1661 T_taken_92]) (v := (some (.int r_112))) hx hb hml hown htc hN (c_X4_at l G cI cZ cJ aD aDc aG D_writesDone D_writesLeft D_down D_cells G_logged v2_2 (1 : Int32) hE_111) mw_369 mw_362 mw_363 mw_5 mw_364 hd_X4_at ⟨rfl, rfl⟩ ⟨Nat.le_of_ble_eq_true rfl, Nat.le_of_ble_eq_true rfl⟩ hK hw110 hA [1, 2, 3] [0, 4, 5, 6, 7, 8, 9, 10] [0, 8, 9, 10, 1, 2, 3, 4, 5, 6, 7] rfl rfl rfl rfl rfl (by decide) rfl rfl rfl 2 rfl rfl rfl rfl hl110.1 rfl rfl (Nat.le_of_ble_eq_true rfl) dX9_sealHead_58 ⟨Nat.zero_le _, Nat.zero_le _⟩ (fun H113 locs113 hw113 => ?_)
            clear hw110 H110 locs110
            refine lv_aload_n hx hb dX9_sealHead_61 rfl (lv_at hl110 0 rfl) ?_
            refine va_get (D := G) (ci := 9) (v := .ref aG) (C := RX9) (T := TX9) (N := 11) hx hb htc iX9 hown hK hw113.1 0 rfl rfl 5 (by decide) (htc _ mw_308) (fun _ h9 => h9) rfl dX9_sealHead_62 ?_
            refine lv_iload_n hx hb dX9_sealHead_65 rfl (lv_at hl110 2 rfl) ?_
            refine lv_iconst (v := (2 : Int32)) hx hb dX9_sealHead_66 (by decide) ?_
            replace hJ_75 := ob1_some hJ_75
            obtain ⟨r_115, hE_114, hJ_75⟩ := hJ_75
            refine ctV (a := aG) (As := [.int v2_2, .int (2 : Int32)]) (rest := [.int r_112, .ref aT]) (st1 := [.int r_115, .int r_112, .ref aT]) (wc := [oX2 aD aDc D_writesDone D_writesLeft D_down, rI aDc cI 4096 D_cells, oX4 aG aD G_logged]) (w1 := [oX2 aD aDc D_writesDone D_writesLeft D_down, rI aDc cI 4096 D_cells, oX4 aG aD G_logged]) (wr := [oX9 aP P_seriesCount P_most P_ratio aD aI aG aU aT aQ aC P_recoveries, oX7 aT aD aI aK aO aTi aTp aTt T_chunks_81 T_chunksMade_82 T_openFrom_5 T_lacksSpace_83, oX5 aK aKc K_used_7 K_bitsFree_8 K_full_9 K_time_10 K_value_11 K_rise_12, rI aKc cI 1661 K_cells_13, oX6 aO O_first_84 O_last_85 O_points_86 O_least_87 O_greatest_88 O_sum_89, rI aTi cI 961 T_image_90, rI aTp cI 96 T_packedFrom_91, rI aTt cZ 1661 T_taken_92]) (wb := [oX9 aP P_seriesCount P_most P_ratio aD aI aG aU aT aQ aC P_recoveries, oX2 aD aDc D_writesDone D_writesLeft D_down, rI aDc cI 4096 D_cells, oX4 aG aD G_logged, oX7 aT aD aI aK aO aTi aTp aTt T_chunks_81 T_chunksMade_82 T_openFrom_5 T_lacksSpace_83, oX5 aK aKc K_used_7 K_bitsFree_8 K_full_9 K_time_10 K_value_11 K_rise_12, rI aKc cI 1661 K_cells_13, oX6 aO O_first_84 O_last_85 O_points_86 O_least_87 O_greatest_88 O_sum_89, rI aTi cI 961 T_image_90, rI aTp cI 96 T_packedFrom_91, rI aTt cZ 1661 T_taken_92]) (v := (some (.int r_115))) hx hb hml hown htc hN (c_X4_at l G cI cZ cJ aD aDc aG D_writesDone D_writesLeft D_down D_cells G_logged v2_2 (2 : Int32) hE_114) mw_369 mw_362 mw_363 mw_5 mw_364 hd_X4_at ⟨rfl, rfl⟩ ⟨Nat.le_of_ble_eq_true rfl, Nat.le_of_ble_eq_true rfl⟩ hK hw113 hA [1, 2, 3] [0, 4, 5, 6, 7, 8, 9, 10] [0, 8, 9, 10, 1, 2, 3, 4, 5, 6, 7] rfl rfl rfl rfl rfl (by decide) rfl rfl rfl 2 rfl rfl rfl rfl hl110.1 rfl rfl (Nat.le_of_ble_eq_true rfl) dX9_sealHead_67 ⟨Nat.zero_le _, Nat.zero_le _⟩ (fun H116 locs116 hw116 => ?_)
            clear hw113 H113 locs113
            replace hJ_75 := ob14_some hJ_75
            obtain ⟨T_openFrom_118, K_used_119, K_bitsFree_120, K_full_121, K_time_122, K_value_123, K_rise_124, K_cells_125, O_first_126, O_last_127, O_points_128, O_least_129, O_greatest_130, O_sum_131, hE_117, hJ_75⟩ := hJ_75
            refine ctV (a := aT) (As := [.int r_112, .int r_115]) (rest := []) (st1 := []) (wc := [oX7 aT aD aI aK aO aTi aTp aTt T_chunks_81 T_chunksMade_82 T_openFrom_5 T_lacksSpace_83, oX5 aK aKc K_used_7 K_bitsFree_8 K_full_9 K_time_10 K_value_11 K_rise_12, rI aKc cI 1661 K_cells_13, oX6 aO O_first_84 O_last_85 O_points_86 O_least_87 O_greatest_88 O_sum_89]) (w1 := [oX7 aT aD aI aK aO aTi aTp aTt T_chunks_81 T_chunksMade_82 T_openFrom_118 T_lacksSpace_83, oX5 aK aKc K_used_119 K_bitsFree_120 K_full_121 K_time_122 K_value_123 K_rise_124, rI aKc cI 1661 K_cells_125, oX6 aO O_first_126 O_last_127 O_points_128 O_least_129 O_greatest_130 O_sum_131]) (wr := [oX9 aP P_seriesCount P_most P_ratio aD aI aG aU aT aQ aC P_recoveries, oX2 aD aDc D_writesDone D_writesLeft D_down, rI aDc cI 4096 D_cells, oX4 aG aD G_logged, rI aTi cI 961 T_image_90, rI aTp cI 96 T_packedFrom_91, rI aTt cZ 1661 T_taken_92]) (wb := [oX9 aP P_seriesCount P_most P_ratio aD aI aG aU aT aQ aC P_recoveries, oX2 aD aDc D_writesDone D_writesLeft D_down, rI aDc cI 4096 D_cells, oX4 aG aD G_logged, oX7 aT aD aI aK aO aTi aTp aTt T_chunks_81 T_chunksMade_82 T_openFrom_118 T_lacksSpace_83, oX5 aK aKc K_used_119 K_bitsFree_120 K_full_121 K_time_122 K_value_123 K_rise_124, rI aKc cI 1661 K_cells_125, oX6 aO O_first_126 O_last_127 O_points_128 O_least_129 O_greatest_130 O_sum_131, rI aTi cI 961 T_image_90, rI aTp cI 96 T_packedFrom_91, rI aTt cZ 1661 T_taken_92]) (v := none) hx hb hml hown htc hN (c_X7_pack l G cI cZ cJ aT aD aI aK aO aTi aTp aTt aKc T_chunks_81 T_chunksMade_82 T_openFrom_5 T_lacksSpace_83 K_used_7 K_bitsFree_8 K_full_9 K_time_10 K_value_11 K_rise_12 K_cells_13 O_first_84 O_last_85 O_points_86 O_least_87 O_greatest_88 O_sum_89 r_112 r_115 hE_117) mw_474 mw_475 mw_476 mw_7 mw_477 hd_X7_pack ⟨rfl, rfl⟩ ⟨Nat.le_of_ble_eq_true rfl, Nat.le_of_ble_eq_true rfl⟩ hK hw116 hA [4, 5, 6, 7] [0, 1, 2, 3, 8, 9, 10] [0, 1, 2, 3, 7, 8, 9, 10, 4, 5, 6] rfl rfl rfl rfl rfl (by decide) rfl rfl rfl 0 rfl rfl rfl rfl hl110.1 rfl rfl (Nat.le_of_ble_eq_true rfl) dX9_sealHead_70 ⟨Nat.zero_le _, Nat.zero_le _⟩ (fun H132 locs132 hw132 => ?_)
            clear hw116 H116 locs116
            cases hJ_75
            exact kj_76 _ _ _ hw132 (lv_sub hl110 [0, 1, 2] rfl)
          clear hJ_75
          refine lv_icmp_ne (tgt := 48) hx hb dX9_sealHead_37 (by decide) (fun c_95 => ?_) (fun c_95 => ?_)
          · replace hJ_93 := it_f c_95 hJ_93
            cases hJ_93
            exact kj_94 _ _ _ hw80 (lv_sub hl47 [0, 1, 2] rfl)
          · replace hJ_93 := it_t c_95 hJ_93
            refine lv_aload_n hx hb dX9_sealHead_40 rfl (lv_at hl47 0 rfl) ?_
            refine va_get (D := G) (ci := 9) (v := .ref aT) (C := RX9) (T := TX9) (N := 11) hx hb htc iX9 hown hK hw80.1 0 rfl rfl 7 (by decide) (htc _ mw_310) (fun _ h9 => h9) rfl dX9_sealHead_41 ?_
            refine lv_iload_n hx hb dX9_sealHead_44 rfl (lv_at hl47 1 rfl) ?_
            replace hJ_93 := ob12_some hJ_93
            obtain ⟨T_chunks_97, T_chunksMade_98, T_lacksSpace_99, O_first_100, O_last_101, O_points_102, O_least_103, O_greatest_104, O_sum_105, T_image_106, T_packedFrom_107, T_taken_108, hE_96, hJ_93⟩ := hJ_93
            refine ctV (a := aT) (As := [.int p0]) (rest := []) (st1 := []) (wc := [oX7 aT aD aI aK aO aTi aTp aTt T_chunks_3 T_chunksMade_4 T_openFrom_5 T_lacksSpace_6, oX5 aK aKc K_used_7 K_bitsFree_8 K_full_9 K_time_10 K_value_11 K_rise_12, oX6 aO O_first_14 O_last_15 O_points_16 O_least_17 O_greatest_18 O_sum_19, rI aTi cI 961 T_image_20, rI aTp cI 96 T_packedFrom_21, rI aTt cZ 1661 T_taken_22]) (w1 := [oX7 aT aD aI aK aO aTi aTp aTt T_chunks_97 T_chunksMade_98 T_openFrom_5 T_lacksSpace_99, oX5 aK aKc K_used_7 K_bitsFree_8 K_full_9 K_time_10 K_value_11 K_rise_12, oX6 aO O_first_100 O_last_101 O_points_102 O_least_103 O_greatest_104 O_sum_105, rI aTi cI 961 T_image_106, rI aTp cI 96 T_packedFrom_107, rI aTt cZ 1661 T_taken_108]) (wr := [oX9 aP P_seriesCount P_most P_ratio aD aI aG aU aT aQ aC P_recoveries, oX2 aD aDc D_writesDone D_writesLeft D_down, rI aDc cI 4096 D_cells, oX4 aG aD G_logged, rI aKc cI 1661 K_cells_13]) (wb := [oX9 aP P_seriesCount P_most P_ratio aD aI aG aU aT aQ aC P_recoveries, oX2 aD aDc D_writesDone D_writesLeft D_down, rI aDc cI 4096 D_cells, oX4 aG aD G_logged, oX7 aT aD aI aK aO aTi aTp aTt T_chunks_97 T_chunksMade_98 T_openFrom_5 T_lacksSpace_99, oX5 aK aKc K_used_7 K_bitsFree_8 K_full_9 K_time_10 K_value_11 K_rise_12, rI aKc cI 1661 K_cells_13, oX6 aO O_first_100 O_last_101 O_points_102 O_least_103 O_greatest_104 O_sum_105, rI aTi cI 961 T_image_106, rI aTp cI 96 T_packedFrom_107, rI aTt cZ 1661 T_taken_108]) (v := none) hx hb hml hown htc hN (c_X7_seal l G cI cZ cJ aT aD aI aK aO aTi aTp aTt aKc T_chunks_3 T_chunksMade_4 T_openFrom_5 T_lacksSpace_6 K_used_7 K_bitsFree_8 K_full_9 K_time_10 K_value_11 K_rise_12 O_first_14 O_last_15 O_points_16 O_least_17 O_greatest_18 O_sum_19 T_image_20 T_packedFrom_21 T_taken_22 p0 hE_96) mw_454 mw_455 mw_456 mw_7 mw_457 hd_X7_seal ⟨rfl, rfl⟩ ⟨Nat.le_of_ble_eq_true rfl, Nat.le_of_ble_eq_true rfl⟩ hK hw80 hA [4, 5, 7, 8, 9, 10] [0, 1, 2, 3, 6] [0, 1, 2, 3, 5, 6, 4, 7, 8, 9, 10] rfl rfl rfl rfl rfl (by decide) rfl rfl rfl 0 rfl rfl rfl rfl hl47.1 rfl rfl (Nat.le_of_ble_eq_true rfl) dX9_sealHead_45 ⟨Nat.zero_le _, Nat.zero_le _⟩ (fun H109 locs109 hw109 => ?_)
            clear hw80 H80 locs80
            cases hJ_93
            exact kj_94 _ _ _ hw109 (lv_sub hl47 [0, 1, 2] rfl)
  exact lp_25 NN (0 : Int32) T_chunks T_chunksMade T_openFrom T_lacksSpace K_used K_bitsFree K_full K_time K_value K_rise K_cells O_first O_last O_points O_least O_greatest O_sum T_image T_packedFrom T_taken hL_23 _ _ _ hw0 (lv_sub hl1 [1, 2, 0] rfl)
abbrev rm_X9_turnDisk : Room := { frames := 4, cells := 0, slots := 0, locals := 90 }
theorem hd_X9_turnDisk : yX9_turnDisk.cls = RX9 ∧ yX9_turnDisk.cls ≠ "java/lang/invoke/MethodHandle" ∧ yX9_turnDisk.cls ≠ "java/lang/invoke/VarHandle" ∧ (parseMethodDescriptor yX9_turnDisk.desc).map (fun d => d.parameters.length) = some 2 := by decide +kernel
set_option maxHeartbeats 4000000 in
set_option maxRecDepth 100000 in
theorem c_X9_turnDisk (l : Launch) (G : va_G) (cI cZ cJ : ClassId) (aP aD aI aG aU aT aQ aC aDc aK aO aTi aTp aTt aKc : Nat) (P_seriesCount : Int32) (P_most : Int32) (P_ratio : Int32) (P_recoveries : Int32) (D_writesDone : Int32) (D_writesLeft : Int32) (D_down : Int32) (D_cells : Nat → Int32) (T_chunks : Int32) (T_chunksMade : Int32) (T_openFrom : Int32) (T_lacksSpace : Int32) (K_used : Int32) (K_bitsFree : Int32) (K_full : Int32) (K_time : Int32) (K_value : Int32) (K_rise : Int64) (K_cells : Nat → Int32) (T_image : Nat → Int32) (T_packedFrom : Nat → Int32) (p0 : Int32) (p1 : Int32) {r : Int32} {o_D_writesDone : Int32} {o_D_writesLeft : Int32} {o_D_down : Int32} {o_D_cells : Nat → Int32} {o_T_image : Nat → Int32} (hfin : m_X9_turnDisk D_writesDone D_writesLeft D_down D_cells T_chunks T_lacksSpace K_used K_cells T_image T_packedFrom p0 p1 = some (r, o_D_writesDone, o_D_writesLeft, o_D_down, o_D_cells, o_T_image)) : CT l yX9_turnDisk cX9_turnDisk 3 (some .int) rm_X9_turnDisk G (tyC cI cZ cJ) [.ref aP, .int p0, .int p1] [oX9 aP P_seriesCount P_most P_ratio aD aI aG aU aT aQ aC P_recoveries, oX2 aD aDc D_writesDone D_writesLeft D_down, rI aDc cI 4096 D_cells, oX7 aT aD aI aK aO aTi aTp aTt T_chunks T_chunksMade T_openFrom T_lacksSpace, oX5 aK aKc K_used K_bitsFree K_full K_time K_value K_rise, rI aKc cI 1661 K_cells, rI aTi cI 961 T_image, rI aTp cI 96 T_packedFrom] (some (.int r)) [oX9 aP P_seriesCount P_most P_ratio aD aI aG aU aT aQ aC P_recoveries, oX2 aD aDc o_D_writesDone o_D_writesLeft o_D_down, rI aDc cI 4096 o_D_cells, oX7 aT aD aI aK aO aTi aTp aTt T_chunks T_chunksMade T_openFrom T_lacksSpace, oX5 aK aKc K_used K_bitsFree K_full K_time K_value K_rise, rI aKc cI 1661 K_cells, rI aTi cI 961 o_T_image, rI aTp cI 96 T_packedFrom] := by
  refine CT.ofW (lvl := [(0, .ref aP), (1, .int p0), (2, .int p1)]) (by decide) (Nat.le_of_ble_eq_true rfl) rfl ?_
  intro p e s m args below meth c A ls0 QQ hQQ hx hb hml hr hlocks htc hN hown hK hA hw0 hl0
  rw [m_X9_turnDisk] at hfin
  refine lv_aload_n hx hb dX9_turnDisk_0 rfl (lv_at hl0 0 rfl) ?_
  refine va_get (D := G) (ci := 9) (v := .ref aT) (C := RX9) (T := TX9) (N := 11) hx hb htc iX9 hown hK hw0.1 0 rfl rfl 7 (by decide) (htc _ mw_310) (fun _ h9 => h9) rfl dX9_turnDisk_1 ?_
  replace hfin := ob1_some hfin
  obtain ⟨r_2, hE_1, hfin⟩ := hfin
  refine ctV (a := aT) (As := []) (rest := []) (st1 := [.int r_2]) (wc := [oX7 aT aD aI aK aO aTi aTp aTt T_chunks T_chunksMade T_openFrom T_lacksSpace]) (w1 := [oX7 aT aD aI aK aO aTi aTp aTt T_chunks T_chunksMade T_openFrom T_lacksSpace]) (wr := [oX9 aP P_seriesCount P_most P_ratio aD aI aG aU aT aQ aC P_recoveries, oX2 aD aDc D_writesDone D_writesLeft D_down, rI aDc cI 4096 D_cells, oX5 aK aKc K_used K_bitsFree K_full K_time K_value K_rise, rI aKc cI 1661 K_cells, rI aTi cI 961 T_image, rI aTp cI 96 T_packedFrom]) (wb := [oX9 aP P_seriesCount P_most P_ratio aD aI aG aU aT aQ aC P_recoveries, oX2 aD aDc D_writesDone D_writesLeft D_down, rI aDc cI 4096 D_cells, oX7 aT aD aI aK aO aTi aTp aTt T_chunks T_chunksMade T_openFrom T_lacksSpace, oX5 aK aKc K_used K_bitsFree K_full K_time K_value K_rise, rI aKc cI 1661 K_cells, rI aTi cI 961 T_image, rI aTp cI 96 T_packedFrom]) (v := (some (.int r_2))) hx hb hml hown htc hN (c_X7_lacksSpace l G cI cZ cJ aT aD aI aK aO aTi aTp aTt T_chunks T_chunksMade T_openFrom T_lacksSpace  hE_1) mw_532 mw_533 mw_534 mw_7 mw_535 hd_X7_lacksSpace ⟨rfl, rfl⟩ ⟨Nat.le_of_ble_eq_true rfl, Nat.le_of_ble_eq_true rfl⟩ hK hw0 hA [3] [0, 1, 2, 4, 5, 6, 7] [0, 1, 2, 7, 3, 4, 5, 6] rfl rfl rfl rfl rfl (by decide) rfl rfl rfl 0 rfl rfl rfl rfl hl0.1 rfl rfl (Nat.le_of_ble_eq_true rfl) dX9_turnDisk_4 ⟨Nat.zero_le _, Nat.zero_le _⟩ (fun H3 locs3 hw3 => ?_)
  clear hw0
  refine lv_if_eq (tgt := 13) hx hb dX9_turnDisk_7 (by decide) (fun c_4 => ?_) (fun c_4 => ?_)
  · replace hfin := it_t c_4 hfin
    refine lv_aload_n hx hb dX9_turnDisk_13 rfl (lv_at hl0 0 rfl) ?_
    refine va_get (D := G) (ci := 9) (v := .ref aT) (C := RX9) (T := TX9) (N := 11) hx hb htc iX9 hown hK hw3.1 0 rfl rfl 7 (by decide) (htc _ mw_310) (fun _ h9 => h9) rfl dX9_turnDisk_14 ?_
    refine lv_iload_n hx hb dX9_turnDisk_17 rfl (lv_at hl0 1 rfl) ?_
    replace hfin := ob6_some hfin
    obtain ⟨r_6, D_writesDone_7, D_writesLeft_8, D_down_9, D_cells_10, T_image_11, hE_5, hfin⟩ := hfin
    refine ctV (a := aT) (As := [.int p0]) (rest := []) (st1 := [.int r_6]) (wc := [oX2 aD aDc D_writesDone D_writesLeft D_down, rI aDc cI 4096 D_cells, oX7 aT aD aI aK aO aTi aTp aTt T_chunks T_chunksMade T_openFrom T_lacksSpace, oX5 aK aKc K_used K_bitsFree K_full K_time K_value K_rise, rI aKc cI 1661 K_cells, rI aTi cI 961 T_image, rI aTp cI 96 T_packedFrom]) (w1 := [oX2 aD aDc D_writesDone_7 D_writesLeft_8 D_down_9, rI aDc cI 4096 D_cells_10, oX7 aT aD aI aK aO aTi aTp aTt T_chunks T_chunksMade T_openFrom T_lacksSpace, oX5 aK aKc K_used K_bitsFree K_full K_time K_value K_rise, rI aKc cI 1661 K_cells, rI aTi cI 961 T_image_11, rI aTp cI 96 T_packedFrom]) (wr := [oX9 aP P_seriesCount P_most P_ratio aD aI aG aU aT aQ aC P_recoveries]) (wb := [oX9 aP P_seriesCount P_most P_ratio aD aI aG aU aT aQ aC P_recoveries, oX2 aD aDc D_writesDone_7 D_writesLeft_8 D_down_9, rI aDc cI 4096 D_cells_10, oX7 aT aD aI aK aO aTi aTp aTt T_chunks T_chunksMade T_openFrom T_lacksSpace, oX5 aK aKc K_used K_bitsFree K_full K_time K_value K_rise, rI aKc cI 1661 K_cells, rI aTi cI 961 T_image_11, rI aTp cI 96 T_packedFrom]) (v := (some (.int r_6))) hx hb hml hown htc hN (c_X7_writeOut l G cI cZ cJ aD aDc aT aI aK aO aTi aTp aTt aKc D_writesDone D_writesLeft D_down D_cells T_chunks T_chunksMade T_openFrom T_lacksSpace K_used K_bitsFree K_full K_time K_value K_rise K_cells T_image T_packedFrom p0 hE_5) mw_536 mw_537 mw_538 mw_7 mw_539 hd_X7_writeOut ⟨rfl, rfl⟩ ⟨Nat.le_of_ble_eq_true rfl, Nat.le_of_ble_eq_true rfl⟩ hK hw3 hA [1, 2, 3, 4, 5, 6, 7] [0] [0, 1, 2, 3, 4, 5, 6, 7] rfl rfl rfl rfl rfl (by decide) rfl rfl rfl 2 rfl rfl rfl rfl hl0.1 rfl rfl (Nat.le_of_ble_eq_true rfl) dX9_turnDisk_18 ⟨Nat.zero_le _, Nat.zero_le _⟩ (fun H12 locs12 hw12 => ?_)
    clear hw3 H3 locs3
    replace hfin := ob1_some hfin
    obtain ⟨s_13, hJ_14, hfin⟩ := hfin
    have kj_15 : ∀ (H : Heap) (locs : List Loc) (ls : Array Slot), wS G A s H locs [oX9 aP P_seriesCount P_most P_ratio aD aI aG aU aT aQ aC P_recoveries, oX2 aD aDc D_writesDone_7 D_writesLeft_8 D_down_9, rI aDc cI 4096 D_cells_10, oX7 aT aD aI aK aO aTi aTp aTt T_chunks T_chunksMade T_openFrom T_lacksSpace, oX5 aK aKc K_used K_bitsFree K_full K_time K_value K_rise, rI aKc cI 1661 K_cells, rI aTi cI 961 T_image_11, rI aTp cI 96 T_packedFrom] → lv_has ls 3 [] → W p l e rm_X9_turnDisk s m args below meth c H locs 0 0 QQ (F0 m 30 ls [.int s_13]) := by
      clear hw12 H12 locs12 hl0 ls0 hJ_14
      intro H17 locs17 ls17 hw17 hl17
      cases hfin
      rw [hQQ]
      exact ct_iret hx hb hr hlocks hw17.1 hw17.2.1 hw17.2.2 dX9_turnDisk_30
    clear hfin
    refine lv_if_eq (tgt := 28) hx hb dX9_turnDisk_21 (by decide) (fun c_16 => ?_) (fun c_16 => ?_)
    · replace hJ_14 := it_t c_16 hJ_14
      refine lv_bipush (v := (-9 : Int32)) hx hb dX9_turnDisk_28 (by decide) ?_
      cases hJ_14
      exact kj_15 _ _ _ hw12 (lv_sub hl0 [] rfl)
    · replace hJ_14 := it_f c_16 hJ_14
      refine lv_iload_n hx hb dX9_turnDisk_24 rfl (lv_at hl0 2 rfl) ?_
      refine lv_goto (tgt := 30) hx hb dX9_turnDisk_25 (by decide) ?_
      cases hJ_14
      exact kj_15 _ _ _ hw12 (lv_sub hl0 [] rfl)
  · replace hfin := it_f c_4 hfin
    refine lv_bipush (v := (-3 : Int32)) hx hb dX9_turnDisk_10 (by decide) ?_
    cases hfin
    rw [hQQ]
    exact ct_iret hx hb hr hlocks hw3.1 hw3.2.1 hw3.2.2 dX9_turnDisk_12
abbrev rm_X9_flush : Room := { frames := 6, cells := 0, slots := 0, locals := 136 }
theorem hd_X9_flush : yX9_flush.cls = RX9 ∧ yX9_flush.cls ≠ "java/lang/invoke/MethodHandle" ∧ yX9_flush.cls ≠ "java/lang/invoke/VarHandle" ∧ (parseMethodDescriptor yX9_flush.desc).map (fun d => d.parameters.length) = some 0 := by decide +kernel
set_option maxHeartbeats 4000000 in
set_option maxRecDepth 100000 in
theorem c_X9_flush (l : Launch) (G : va_G) (cI cZ cJ : ClassId) (aP aD aI aG aU aT aQ aC aDc aK aO aTi aTp aTt aKc aV : Nat) (P_seriesCount : Int32) (P_most : Int32) (P_ratio : Int32) (P_recoveries : Int32) (D_writesDone : Int32) (D_writesLeft : Int32) (D_down : Int32) (D_cells : Nat → Int32) (G_logged : Int32) (T_chunks : Int32) (T_chunksMade : Int32) (T_openFrom : Int32) (T_lacksSpace : Int32) (K_used : Int32) (K_bitsFree : Int32) (K_full : Int32) (K_time : Int32) (K_value : Int32) (K_rise : Int64) (K_cells : Nat → Int32) (O_first : Int32) (O_last : Int32) (O_points : Int32) (O_least : Int32) (O_greatest : Int32) (O_sum : Int64) (T_image : Nat → Int32) (T_packedFrom : Nat → Int32) (T_taken : Nat → Int32) (C_isOpen : Int32) (C_series : Int32) (C_from : Int32) (C_to : Int32) (C_entry : Int32) (C_entriesEnd : Int32) (C_pointsLeft : Int32) (C_block : Int32) (C_time : Int32) (C_value : Int32)  {r : Int32} {o_D_writesDone : Int32} {o_D_writesLeft : Int32} {o_D_down : Int32} {o_D_cells : Nat → Int32} {o_G_logged : Int32} {o_T_chunks : Int32} {o_T_chunksMade : Int32} {o_T_openFrom : Int32} {o_T_lacksSpace : Int32} {o_K_used : Int32} {o_K_bitsFree : Int32} {o_K_full : Int32} {o_K_time : Int32} {o_K_value : Int32} {o_K_rise : Int64} {o_K_cells : Nat → Int32} {o_O_first : Int32} {o_O_last : Int32} {o_O_points : Int32} {o_O_least : Int32} {o_O_greatest : Int32} {o_O_sum : Int64} {o_T_image : Nat → Int32} {o_T_packedFrom : Nat → Int32} {o_T_taken : Nat → Int32} {o_C_isOpen : Int32} {o_C_time : Int32} {o_C_value : Int32} (hfin : m_X9_flush P_seriesCount P_most D_writesDone D_writesLeft D_down D_cells G_logged T_chunks T_chunksMade T_openFrom T_lacksSpace K_used K_bitsFree K_full K_time K_value K_rise K_cells O_first O_last O_points O_least O_greatest O_sum T_image T_packedFrom T_taken C_isOpen C_time C_value = some (r, o_D_writesDone, o_D_writesLeft, o_D_down, o_D_cells, o_G_logged, o_T_chunks, o_T_chunksMade, o_T_openFrom, o_T_lacksSpace, o_K_used, o_K_bitsFree, o_K_full, o_K_time, o_K_value, o_K_rise, o_K_cells, o_O_first, o_O_last, o_O_points, o_O_least, o_O_greatest, o_O_sum, o_T_image, o_T_packedFrom, o_T_taken, o_C_isOpen, o_C_time, o_C_value)) : CT l yX9_flush cX9_flush 2 (some .int) rm_X9_flush G (tyC cI cZ cJ) [.ref aP] [oX9 aP P_seriesCount P_most P_ratio aD aI aG aU aT aQ aC P_recoveries, oX2 aD aDc D_writesDone D_writesLeft D_down, rI aDc cI 4096 D_cells, oX3 aI aD, oX4 aG aD G_logged, oX7 aT aD aI aK aO aTi aTp aTt T_chunks T_chunksMade T_openFrom T_lacksSpace, oX5 aK aKc K_used K_bitsFree K_full K_time K_value K_rise, rI aKc cI 1661 K_cells, oX6 aO O_first O_last O_points O_least O_greatest O_sum, rI aTi cI 961 T_image, rI aTp cI 96 T_packedFrom, rI aTt cZ 1661 T_taken, oX1 aC aI aG aV C_isOpen C_series C_from C_to C_entry C_entriesEnd C_pointsLeft C_block C_time C_value] (some (.int r)) [oX9 aP P_seriesCount P_most P_ratio aD aI aG aU aT aQ aC P_recoveries, oX2 aD aDc o_D_writesDone o_D_writesLeft o_D_down, rI aDc cI 4096 o_D_cells, oX3 aI aD, oX4 aG aD o_G_logged, oX7 aT aD aI aK aO aTi aTp aTt o_T_chunks o_T_chunksMade o_T_openFrom o_T_lacksSpace, oX5 aK aKc o_K_used o_K_bitsFree o_K_full o_K_time o_K_value o_K_rise, rI aKc cI 1661 o_K_cells, oX6 aO o_O_first o_O_last o_O_points o_O_least o_O_greatest o_O_sum, rI aTi cI 961 o_T_image, rI aTp cI 96 o_T_packedFrom, rI aTt cZ 1661 o_T_taken, oX1 aC aI aG aV o_C_isOpen C_series C_from C_to C_entry C_entriesEnd C_pointsLeft C_block o_C_time o_C_value] := by
  refine CT.ofW (lvl := [(0, .ref aP)]) (by decide) (Nat.le_of_ble_eq_true rfl) rfl ?_
  intro p e s m args below meth c A ls0 QQ hQQ hx hb hml hr hlocks htc hN hown hK hA hw0 hl0
  rw [m_X9_flush] at hfin
  refine lv_aload_n hx hb dX9_flush_0 rfl (lv_at hl0 0 rfl) ?_
  refine va_get (D := G) (ci := 9) (v := .ref aC) (C := RX9) (T := TX9) (N := 11) hx hb htc iX9 hown hK hw0.1 0 rfl rfl 9 (by decide) (htc _ mw_312) (fun _ h9 => h9) rfl dX9_flush_1 ?_
  replace hfin := ob3_some hfin
  obtain ⟨C_isOpen_2, C_time_3, C_value_4, hE_1, hfin⟩ := hfin
  refine ctV (a := aC) (As := []) (rest := []) (st1 := []) (wc := [oX1 aC aI aG aV C_isOpen C_series C_from C_to C_entry C_entriesEnd C_pointsLeft C_block C_time C_value]) (w1 := [oX1 aC aI aG aV C_isOpen_2 C_series C_from C_to C_entry C_entriesEnd C_pointsLeft C_block C_time_3 C_value_4]) (wr := [oX9 aP P_seriesCount P_most P_ratio aD aI aG aU aT aQ aC P_recoveries, oX2 aD aDc D_writesDone D_writesLeft D_down, rI aDc cI 4096 D_cells, oX3 aI aD, oX4 aG aD G_logged, oX7 aT aD aI aK aO aTi aTp aTt T_chunks T_chunksMade T_openFrom T_lacksSpace, oX5 aK aKc K_used K_bitsFree K_full K_time K_value K_rise, rI aKc cI 1661 K_cells, oX6 aO O_first O_last O_points O_least O_greatest O_sum, rI aTi cI 961 T_image, rI aTp cI 96 T_packedFrom, rI aTt cZ 1661 T_taken]) (wb := [oX9 aP P_seriesCount P_most P_ratio aD aI aG aU aT aQ aC P_recoveries, oX2 aD aDc D_writesDone D_writesLeft D_down, rI aDc cI 4096 D_cells, oX3 aI aD, oX4 aG aD G_logged, oX7 aT aD aI aK aO aTi aTp aTt T_chunks T_chunksMade T_openFrom T_lacksSpace, oX5 aK aKc K_used K_bitsFree K_full K_time K_value K_rise, rI aKc cI 1661 K_cells, oX6 aO O_first O_last O_points O_least O_greatest O_sum, rI aTi cI 961 T_image, rI aTp cI 96 T_packedFrom, rI aTt cZ 1661 T_taken, oX1 aC aI aG aV C_isOpen_2 C_series C_from C_to C_entry C_entriesEnd C_pointsLeft C_block C_time_3 C_value_4]) (v := none) hx hb hml hown htc hN (c_X1_close l G cI cZ cJ aC aI aG aV C_isOpen C_series C_from C_to C_entry C_entriesEnd C_pointsLeft C_block C_time C_value  hE_1) mw_341 mw_342 mw_343 mw_11 mw_344 hd_X1_close ⟨rfl, rfl⟩ ⟨Nat.le_of_ble_eq_true rfl, Nat.le_of_ble_eq_true rfl⟩ hK hw0 hA [12] [0, 1, 2, 3, 4, 5, 6, 7, 8, 9, 10, 11] [0, 1, 2, 3, 4, 5, 6, 7, 8, 9, 10, 11, 12] rfl rfl rfl rfl rfl (by decide) rfl rfl rfl 0 rfl rfl rfl rfl hl0.1 rfl rfl (Nat.le_of_ble_eq_true rfl) dX9_flush_4 ⟨Nat.zero_le _, Nat.zero_le _⟩ (fun H5 locs5 hw5 => ?_)
  clear hw0
  refine lv_aload_n hx hb dX9_flush_7 rfl (lv_at hl0 0 rfl) ?_
  refine va_get (D := G) (ci := 9) (v := .ref aD) (C := RX9) (T := TX9) (N := 11) hx hb htc iX9 hown hK hw5.1 0 rfl rfl 3 (by decide) (htc _ mw_306) (fun _ h9 => h9) rfl dX9_flush_8 ?_
  replace hfin := ob1_some hfin
  obtain ⟨r_7, hE_6, hfin⟩ := hfin
  refine ctV (a := aD) (As := []) (rest := []) (st1 := [.int r_7]) (wc := [oX2 aD aDc D_writesDone D_writesLeft D_down]) (w1 := [oX2 aD aDc D_writesDone D_writesLeft D_down]) (wr := [oX9 aP P_seriesCount P_most P_ratio aD aI aG aU aT aQ aC P_recoveries, rI aDc cI 4096 D_cells, oX3 aI aD, oX4 aG aD G_logged, oX7 aT aD aI aK aO aTi aTp aTt T_chunks T_chunksMade T_openFrom T_lacksSpace, oX5 aK aKc K_used K_bitsFree K_full K_time K_value K_rise, rI aKc cI 1661 K_cells, oX6 aO O_first O_last O_points O_least O_greatest O_sum, rI aTi cI 961 T_image, rI aTp cI 96 T_packedFrom, rI aTt cZ 1661 T_taken, oX1 aC aI aG aV C_isOpen_2 C_series C_from C_to C_entry C_entriesEnd C_pointsLeft C_block C_time_3 C_value_4]) (wb := [oX9 aP P_seriesCount P_most P_ratio aD aI aG aU aT aQ aC P_recoveries, oX2 aD aDc D_writesDone D_writesLeft D_down, rI aDc cI 4096 D_cells, oX3 aI aD, oX4 aG aD G_logged, oX7 aT aD aI aK aO aTi aTp aTt T_chunks T_chunksMade T_openFrom T_lacksSpace, oX5 aK aKc K_used K_bitsFree K_full K_time K_value K_rise, rI aKc cI 1661 K_cells, oX6 aO O_first O_last O_points O_least O_greatest O_sum, rI aTi cI 961 T_image, rI aTp cI 96 T_packedFrom, rI aTt cZ 1661 T_taken, oX1 aC aI aG aV C_isOpen_2 C_series C_from C_to C_entry C_entriesEnd C_pointsLeft C_block C_time_3 C_value_4]) (v := (some (.int r_7))) hx hb hml hown htc hN (c_X2_isDown l G cI cZ cJ aD aDc D_writesDone D_writesLeft D_down  hE_6) mw_345 mw_346 mw_347 mw_3 mw_348 hd_X2_isDown ⟨rfl, rfl⟩ ⟨Nat.le_of_ble_eq_true rfl, Nat.le_of_ble_eq_true rfl⟩ hK hw5 hA [1] [0, 2, 3, 4, 5, 6, 7, 8, 9, 10, 11, 12] [0, 12, 1, 2, 3, 4, 5, 6, 7, 8, 9, 10, 11] rfl rfl rfl rfl rfl (by decide) rfl rfl rfl 0 rfl rfl rfl rfl hl0.1 rfl rfl (Nat.le_of_ble_eq_true rfl) dX9_flush_11 ⟨Nat.zero_le _, Nat.zero_le _⟩ (fun H8 locs8 hw8 => ?_)
  clear hw5 H5 locs5
  refine lv_if_eq (tgt := 20) hx hb dX9_flush_14 (by decide) (fun c_9 => ?_) (fun c_9 => ?_)
  · replace hfin := it_t c_9 hfin
    refine lv_aload_n hx hb dX9_flush_20 rfl (lv_at hl0 0 rfl) ?_
    refine va_get (D := G) (ci := 9) (v := .ref aG) (C := RX9) (T := TX9) (N := 11) hx hb htc iX9 hown hK hw8.1 0 rfl rfl 5 (by decide) (htc _ mw_308) (fun _ h9 => h9) rfl dX9_flush_21 ?_
    replace hfin := ob1_some hfin
    obtain ⟨r_11, hE_10, hfin⟩ := hfin
    refine ctV (a := aG) (As := []) (rest := []) (st1 := [.int r_11]) (wc := [oX4 aG aD G_logged]) (w1 := [oX4 aG aD G_logged]) (wr := [oX9 aP P_seriesCount P_most P_ratio aD aI aG aU aT aQ aC P_recoveries, oX2 aD aDc D_writesDone D_writesLeft D_down, rI aDc cI 4096 D_cells, oX3 aI aD, oX7 aT aD aI aK aO aTi aTp aTt T_chunks T_chunksMade T_openFrom T_lacksSpace, oX5 aK aKc K_used K_bitsFree K_full K_time K_value K_rise, rI aKc cI 1661 K_cells, oX6 aO O_first O_last O_points O_least O_greatest O_sum, rI aTi cI 961 T_image, rI aTp cI 96 T_packedFrom, rI aTt cZ 1661 T_taken, oX1 aC aI aG aV C_isOpen_2 C_series C_from C_to C_entry C_entriesEnd C_pointsLeft C_block C_time_3 C_value_4]) (wb := [oX9 aP P_seriesCount P_most P_ratio aD aI aG aU aT aQ aC P_recoveries, oX2 aD aDc D_writesDone D_writesLeft D_down, rI aDc cI 4096 D_cells, oX3 aI aD, oX4 aG aD G_logged, oX7 aT aD aI aK aO aTi aTp aTt T_chunks T_chunksMade T_openFrom T_lacksSpace, oX5 aK aKc K_used K_bitsFree K_full K_time K_value K_rise, rI aKc cI 1661 K_cells, oX6 aO O_first O_last O_points O_least O_greatest O_sum, rI aTi cI 961 T_image, rI aTp cI 96 T_packedFrom, rI aTt cZ 1661 T_taken, oX1 aC aI aG aV C_isOpen_2 C_series C_from C_to C_entry C_entriesEnd C_pointsLeft C_block C_time_3 C_value_4]) (v := (some (.int r_11))) hx hb hml hown htc hN (c_X4_logged l G cI cZ cJ aG aD G_logged  hE_10) mw_416 mw_417 mw_418 mw_5 mw_419 hd_X4_logged ⟨rfl, rfl⟩ ⟨Nat.le_of_ble_eq_true rfl, Nat.le_of_ble_eq_true rfl⟩ hK hw8 hA [4] [0, 1, 2, 3, 5, 6, 7, 8, 9, 10, 11, 12] [0, 1, 2, 3, 12, 4, 5, 6, 7, 8, 9, 10, 11] rfl rfl rfl rfl rfl (by decide) rfl rfl rfl 0 rfl rfl rfl rfl hl0.1 rfl rfl (Nat.le_of_ble_eq_true rfl) dX9_flush_24 ⟨Nat.zero_le _, Nat.zero_le _⟩ (fun H12 locs12 hw12 => ?_)
    clear hw8 H8 locs8
    refine lv_if_ne (tgt := 32) hx hb dX9_flush_27 (by decide) (fun c_13 => ?_) (fun c_13 => ?_)
    · replace hfin := it_f c_13 hfin
      refine lv_aload_n hx hb dX9_flush_32 rfl (lv_at hl0 0 rfl) ?_
      refine va_get (D := G) (ci := 9) (v := .ref aT) (C := RX9) (T := TX9) (N := 11) hx hb htc iX9 hown hK hw12.1 0 rfl rfl 7 (by decide) (htc _ mw_310) (fun _ h9 => h9) rfl dX9_flush_33 ?_
      replace hfin := ob13_some hfin
      obtain ⟨T_chunks_15, T_chunksMade_16, T_lacksSpace_17, K_used_18, K_bitsFree_19, K_full_20, O_first_21, O_last_22, O_points_23, O_least_24, O_greatest_25, O_sum_26, T_taken_27, hE_14, hfin⟩ := hfin
      refine ctV (a := aT) (As := []) (rest := []) (st1 := []) (wc := [oX2 aD aDc D_writesDone D_writesLeft D_down, rI aDc cI 4096 D_cells, oX3 aI aD, oX7 aT aD aI aK aO aTi aTp aTt T_chunks T_chunksMade T_openFrom T_lacksSpace, oX5 aK aKc K_used K_bitsFree K_full K_time K_value K_rise, oX6 aO O_first O_last O_points O_least O_greatest O_sum, rI aTt cZ 1661 T_taken]) (w1 := [oX2 aD aDc D_writesDone D_writesLeft D_down, rI aDc cI 4096 D_cells, oX3 aI aD, oX7 aT aD aI aK aO aTi aTp aTt T_chunks_15 T_chunksMade_16 T_openFrom T_lacksSpace_17, oX5 aK aKc K_used_18 K_bitsFree_19 K_full_20 K_time K_value K_rise, oX6 aO O_first_21 O_last_22 O_points_23 O_least_24 O_greatest_25 O_sum_26, rI aTt cZ 1661 T_taken_27]) (wr := [oX9 aP P_seriesCount P_most P_ratio aD aI aG aU aT aQ aC P_recoveries, oX4 aG aD G_logged, rI aKc cI 1661 K_cells, rI aTi cI 961 T_image, rI aTp cI 96 T_packedFrom, oX1 aC aI aG aV C_isOpen_2 C_series C_from C_to C_entry C_entriesEnd C_pointsLeft C_block C_time_3 C_value_4]) (wb := [oX9 aP P_seriesCount P_most P_ratio aD aI aG aU aT aQ aC P_recoveries, oX2 aD aDc D_writesDone D_writesLeft D_down, rI aDc cI 4096 D_cells, oX3 aI aD, oX4 aG aD G_logged, oX7 aT aD aI aK aO aTi aTp aTt T_chunks_15 T_chunksMade_16 T_openFrom T_lacksSpace_17, oX5 aK aKc K_used_18 K_bitsFree_19 K_full_20 K_time K_value K_rise, rI aKc cI 1661 K_cells, oX6 aO O_first_21 O_last_22 O_points_23 O_least_24 O_greatest_25 O_sum_26, rI aTi cI 961 T_image, rI aTp cI 96 T_packedFrom, rI aTt cZ 1661 T_taken_27, oX1 aC aI aG aV C_isOpen_2 C_series C_from C_to C_entry C_entriesEnd C_pointsLeft C_block C_time_3 C_value_4]) (v := none) hx hb hml hown htc hN (c_X7_begin l G cI cZ cJ aD aDc aI aT aK aO aTi aTp aTt aKc D_writesDone D_writesLeft D_down D_cells T_chunks T_chunksMade T_openFrom T_lacksSpace K_used K_bitsFree K_full K_time K_value K_rise O_first O_last O_points O_least O_greatest O_sum T_taken  hE_14) mw_420 mw_421 mw_422 mw_7 mw_423 hd_X7_begin ⟨rfl, rfl⟩ ⟨Nat.le_of_ble_eq_true rfl, Nat.le_of_ble_eq_true rfl⟩ hK hw12 hA [1, 2, 3, 5, 6, 8, 11] [0, 4, 7, 9, 10, 12] [0, 6, 7, 8, 1, 9, 10, 2, 11, 3, 4, 12, 5] rfl rfl rfl rfl rfl (by decide) rfl rfl rfl 3 rfl rfl rfl rfl hl0.1 rfl rfl (Nat.le_of_ble_eq_true rfl) dX9_flush_36 ⟨Nat.zero_le _, Nat.zero_le _⟩ (fun H28 locs28 hw28 => ?_)
      clear hw12 H12 locs12
      refine lv_iconst (v := (0 : Int32)) hx hb dX9_flush_39 (by decide) ?_
      refine lv_istore_n (lv' := [(1, .int (0 : Int32)), (0, .ref aP)]) hx hb dX9_flush_40 rfl hl0 (by decide) rfl (fun ls29 hl29 => ?_)
      clear hl0 ls0
      replace hfin := ob20_some hfin
      obtain ⟨T_chunks_55, T_chunksMade_56, T_openFrom_57, T_lacksSpace_58, K_used_59, K_bitsFree_60, K_full_61, K_time_62, K_value_63, K_rise_64, K_cells_65, O_first_66, O_last_67, O_points_68, O_least_69, O_greatest_70, O_sum_71, T_image_72, T_packedFrom_73, T_taken_74, hL_51, hfin⟩ := hfin
      have kx_52 : ∀ (H : Heap) (locs : List Loc) (ls : Array Slot), wS G A s H locs [oX9 aP P_seriesCount P_most P_ratio aD aI aG aU aT aQ aC P_recoveries, oX2 aD aDc D_writesDone D_writesLeft D_down, rI aDc cI 4096 D_cells, oX3 aI aD, oX4 aG aD G_logged, oX7 aT aD aI aK aO aTi aTp aTt T_chunks_55 T_chunksMade_56 T_openFrom_57 T_lacksSpace_58, oX5 aK aKc K_used_59 K_bitsFree_60 K_full_61 K_time_62 K_value_63 K_rise_64, rI aKc cI 1661 K_cells_65, oX6 aO O_first_66 O_last_67 O_points_68 O_least_69 O_greatest_70 O_sum_71, rI aTi cI 961 T_image_72, rI aTp cI 96 T_packedFrom_73, rI aTt cZ 1661 T_taken_74, oX1 aC aI aG aV C_isOpen_2 C_series C_from C_to C_entry C_entriesEnd C_pointsLeft C_block C_time_3 C_value_4] → lv_has ls 2 [(0, .ref aP)] → W p l e rm_X9_flush s m args below meth c H locs 0 0 QQ (F0 m 80 ls []) := by
        clear hw28 H28 locs28 hl29 ls29 hL_51
        intro H112 locs112 ls112 hw112 hl112
        refine lv_aload_n hx hb dX9_flush_80 rfl (lv_at hl112 0 rfl) ?_
        refine lv_aload_n hx hb dX9_flush_81 rfl (lv_at hl112 0 rfl) ?_
        refine va_get (D := G) (ci := 9) (v := .ref aD) (C := RX9) (T := TX9) (N := 11) hx hb htc iX9 hown hK hw112.1 0 rfl rfl 3 (by decide) (htc _ mw_306) (fun _ h9 => h9) rfl dX9_flush_82 ?_
        replace hfin := ob1_some hfin
        obtain ⟨r_114, hE_113, hfin⟩ := hfin
        refine ctV (a := aD) (As := []) (rest := [.ref aP]) (st1 := [.int r_114, .ref aP]) (wc := [oX2 aD aDc D_writesDone D_writesLeft D_down, rI aDc cI 4096 D_cells]) (w1 := [oX2 aD aDc D_writesDone D_writesLeft D_down, rI aDc cI 4096 D_cells]) (wr := [oX9 aP P_seriesCount P_most P_ratio aD aI aG aU aT aQ aC P_recoveries, oX3 aI aD, oX4 aG aD G_logged, oX7 aT aD aI aK aO aTi aTp aTt T_chunks_55 T_chunksMade_56 T_openFrom_57 T_lacksSpace_58, oX5 aK aKc K_used_59 K_bitsFree_60 K_full_61 K_time_62 K_value_63 K_rise_64, rI aKc cI 1661 K_cells_65, oX6 aO O_first_66 O_last_67 O_points_68 O_least_69 O_greatest_70 O_sum_71, rI aTi cI 961 T_image_72, rI aTp cI 96 T_packedFrom_73, rI aTt cZ 1661 T_taken_74, oX1 aC aI aG aV C_isOpen_2 C_series C_from C_to C_entry C_entriesEnd C_pointsLeft C_block C_time_3 C_value_4]) (wb := [oX9 aP P_seriesCount P_most P_ratio aD aI aG aU aT aQ aC P_recoveries, oX2 aD aDc D_writesDone D_writesLeft D_down, rI aDc cI 4096 D_cells, oX3 aI aD, oX4 aG aD G_logged, oX7 aT aD aI aK aO aTi aTp aTt T_chunks_55 T_chunksMade_56 T_openFrom_57 T_lacksSpace_58, oX5 aK aKc K_used_59 K_bitsFree_60 K_full_61 K_time_62 K_value_63 K_rise_64, rI aKc cI 1661 K_cells_65, oX6 aO O_first_66 O_last_67 O_points_68 O_least_69 O_greatest_70 O_sum_71, rI aTi cI 961 T_image_72, rI aTp cI 96 T_packedFrom_73, rI aTt cZ 1661 T_taken_74, oX1 aC aI aG aV C_isOpen_2 C_series C_from C_to C_entry C_entriesEnd C_pointsLeft C_block C_time_3 C_value_4]) (v := (some (.int r_114))) hx hb hml hown htc hN (c_X2_epoch l G cI cZ cJ aD aDc D_writesDone D_writesLeft D_down D_cells  hE_113) mw_523 mw_409 mw_410 mw_3 mw_411 hd_X2_epoch ⟨rfl, rfl⟩ ⟨Nat.le_of_ble_eq_true rfl, Nat.le_of_ble_eq_true rfl⟩ hK hw112 hA [1, 2] [0, 3, 4, 5, 6, 7, 8, 9, 10, 11, 12] [0, 11, 12, 1, 2, 3, 4, 5, 6, 7, 8, 9, 10] rfl rfl rfl rfl rfl (by decide) rfl rfl rfl 0 rfl rfl rfl rfl hl112.1 rfl rfl (Nat.le_of_ble_eq_true rfl) dX9_flush_85 ⟨Nat.zero_le _, Nat.zero_le _⟩ (fun H115 locs115 hw115 => ?_)
        clear hw112 H112 locs112
        refine lv_iconst (v := (1 : Int32)) hx hb dX9_flush_88 (by decide) ?_
        refine lv_iadd hx hb dX9_flush_89 ?_
        refine lv_aload_n hx hb dX9_flush_90 rfl (lv_at hl112 0 rfl) ?_
        refine va_get (D := G) (ci := 9) (v := .ref aT) (C := RX9) (T := TX9) (N := 11) hx hb htc iX9 hown hK hw115.1 0 rfl rfl 7 (by decide) (htc _ mw_310) (fun _ h9 => h9) rfl dX9_flush_91 ?_
        replace hfin := ob1_some hfin
        obtain ⟨r_117, hE_116, hfin⟩ := hfin
        refine ctV (a := aT) (As := []) (rest := [.int (r_114 + (1 : Int32)), .ref aP]) (st1 := [.int r_117, .int (r_114 + (1 : Int32)), .ref aP]) (wc := [oX7 aT aD aI aK aO aTi aTp aTt T_chunks_55 T_chunksMade_56 T_openFrom_57 T_lacksSpace_58]) (w1 := [oX7 aT aD aI aK aO aTi aTp aTt T_chunks_55 T_chunksMade_56 T_openFrom_57 T_lacksSpace_58]) (wr := [oX9 aP P_seriesCount P_most P_ratio aD aI aG aU aT aQ aC P_recoveries, oX2 aD aDc D_writesDone D_writesLeft D_down, rI aDc cI 4096 D_cells, oX3 aI aD, oX4 aG aD G_logged, oX5 aK aKc K_used_59 K_bitsFree_60 K_full_61 K_time_62 K_value_63 K_rise_64, rI aKc cI 1661 K_cells_65, oX6 aO O_first_66 O_last_67 O_points_68 O_least_69 O_greatest_70 O_sum_71, rI aTi cI 961 T_image_72, rI aTp cI 96 T_packedFrom_73, rI aTt cZ 1661 T_taken_74, oX1 aC aI aG aV C_isOpen_2 C_series C_from C_to C_entry C_entriesEnd C_pointsLeft C_block C_time_3 C_value_4]) (wb := [oX9 aP P_seriesCount P_most P_ratio aD aI aG aU aT aQ aC P_recoveries, oX2 aD aDc D_writesDone D_writesLeft D_down, rI aDc cI 4096 D_cells, oX3 aI aD, oX4 aG aD G_logged, oX7 aT aD aI aK aO aTi aTp aTt T_chunks_55 T_chunksMade_56 T_openFrom_57 T_lacksSpace_58, oX5 aK aKc K_used_59 K_bitsFree_60 K_full_61 K_time_62 K_value_63 K_rise_64, rI aKc cI 1661 K_cells_65, oX6 aO O_first_66 O_last_67 O_points_68 O_least_69 O_greatest_70 O_sum_71, rI aTi cI 961 T_image_72, rI aTp cI 96 T_packedFrom_73, rI aTt cZ 1661 T_taken_74, oX1 aC aI aG aV C_isOpen_2 C_series C_from C_to C_entry C_entriesEnd C_pointsLeft C_block C_time_3 C_value_4]) (v := (some (.int r_117))) hx hb hml hown htc hN (c_X7_chunksMade l G cI cZ cJ aT aD aI aK aO aTi aTp aTt T_chunks_55 T_chunksMade_56 T_openFrom_57 T_lacksSpace_58  hE_116) mw_524 mw_525 mw_526 mw_7 mw_527 hd_X7_chunksMade ⟨rfl, rfl⟩ ⟨Nat.le_of_ble_eq_true rfl, Nat.le_of_ble_eq_true rfl⟩ hK hw115 hA [5] [0, 1, 2, 3, 4, 6, 7, 8, 9, 10, 11, 12] [0, 1, 2, 3, 4, 12, 5, 6, 7, 8, 9, 10, 11] rfl rfl rfl rfl rfl (by decide) rfl rfl rfl 0 rfl rfl rfl rfl hl112.1 rfl rfl (Nat.le_of_ble_eq_true rfl) dX9_flush_94 ⟨Nat.zero_le _, Nat.zero_le _⟩ (fun H118 locs118 hw118 => ?_)
        clear hw115 H115 locs115
        replace hfin := ob6_some hfin
        obtain ⟨r_120, D_writesDone_121, D_writesLeft_122, D_down_123, D_cells_124, T_image_125, hE_119, hfin⟩ := hfin
        refine ctV (a := aP) (As := [.int (r_114 + (1 : Int32)), .int r_117]) (rest := []) (st1 := [.int r_120]) (wc := [oX9 aP P_seriesCount P_most P_ratio aD aI aG aU aT aQ aC P_recoveries, oX2 aD aDc D_writesDone D_writesLeft D_down, rI aDc cI 4096 D_cells, oX7 aT aD aI aK aO aTi aTp aTt T_chunks_55 T_chunksMade_56 T_openFrom_57 T_lacksSpace_58, oX5 aK aKc K_used_59 K_bitsFree_60 K_full_61 K_time_62 K_value_63 K_rise_64, rI aKc cI 1661 K_cells_65, rI aTi cI 961 T_image_72, rI aTp cI 96 T_packedFrom_73]) (w1 := [oX9 aP P_seriesCount P_most P_ratio aD aI aG aU aT aQ aC P_recoveries, oX2 aD aDc D_writesDone_121 D_writesLeft_122 D_down_123, rI aDc cI 4096 D_cells_124, oX7 aT aD aI aK aO aTi aTp aTt T_chunks_55 T_chunksMade_56 T_openFrom_57 T_lacksSpace_58, oX5 aK aKc K_used_59 K_bitsFree_60 K_full_61 K_time_62 K_value_63 K_rise_64, rI aKc cI 1661 K_cells_65, rI aTi cI 961 T_image_125, rI aTp cI 96 T_packedFrom_73]) (wr := [oX3 aI aD, oX4 aG aD G_logged, oX6 aO O_first_66 O_last_67 O_points_68 O_least_69 O_greatest_70 O_sum_71, rI aTt cZ 1661 T_taken_74, oX1 aC aI aG aV C_isOpen_2 C_series C_from C_to C_entry C_entriesEnd C_pointsLeft C_block C_time_3 C_value_4]) (wb := [oX9 aP P_seriesCount P_most P_ratio aD aI aG aU aT aQ aC P_recoveries, oX2 aD aDc D_writesDone_121 D_writesLeft_122 D_down_123, rI aDc cI 4096 D_cells_124, oX3 aI aD, oX4 aG aD G_logged, oX7 aT aD aI aK aO aTi aTp aTt T_chunks_55 T_chunksMade_56 T_openFrom_57 T_lacksSpace_58, oX5 aK aKc K_used_59 K_bitsFree_60 K_full_61 K_time_62 K_value_63 K_rise_64, rI aKc cI 1661 K_cells_65, oX6 aO O_first_66 O_last_67 O_points_68 O_least_69 O_greatest_70 O_sum_71, rI aTi cI 961 T_image_125, rI aTp cI 96 T_packedFrom_73, rI aTt cZ 1661 T_taken_74, oX1 aC aI aG aV C_isOpen_2 C_series C_from C_to C_entry C_entriesEnd C_pointsLeft C_block C_time_3 C_value_4]) (v := (some (.int r_120))) hx hb hml hown htc hN (c_X9_turnDisk l G cI cZ cJ aP aD aI aG aU aT aQ aC aDc aK aO aTi aTp aTt aKc P_seriesCount P_most P_ratio P_recoveries D_writesDone D_writesLeft D_down D_cells T_chunks_55 T_chunksMade_56 T_openFrom_57 T_lacksSpace_58 K_used_59 K_bitsFree_60 K_full_61 K_time_62 K_value_63 K_rise_64 K_cells_65 T_image_72 T_packedFrom_73 (r_114 + (1 : Int32)) r_117 hE_119) mw_528 mw_530 mp_12 mw_1 mw_531 hd_X9_turnDisk ⟨rfl, rfl⟩ ⟨Nat.le_of_ble_eq_true rfl, Nat.le_of_ble_eq_true rfl⟩ hK hw118 hA [0, 1, 2, 5, 6, 7, 9, 10] [3, 4, 8, 11, 12] [5, 6, 7, 0, 1, 8, 9, 10, 2, 11, 12, 3, 4] rfl rfl rfl rfl rfl (by decide) rfl rfl rfl 0 rfl rfl rfl rfl hl112.1 rfl rfl (Nat.le_of_ble_eq_true rfl) dX9_flush_97 ⟨Nat.zero_le _, Nat.zero_le _⟩ (fun H126 locs126 hw126 => ?_)
        clear hw118 H118 locs118
        refine lv_istore_n (lv' := [(1, .int r_120), (0, .ref aP)]) hx hb dX9_flush_100 rfl hl112 (by decide) rfl (fun ls127 hl127 => ?_)
        clear hl112 ls112
        refine lv_aload_n hx hb dX9_flush_101 rfl (lv_at hl127 1 rfl) ?_
        refine va_get (D := G) (ci := 9) (v := .ref aG) (C := RX9) (T := TX9) (N := 11) hx hb htc iX9 hown hK hw126.1 0 rfl rfl 5 (by decide) (htc _ mw_308) (fun _ h9 => h9) rfl dX9_flush_102 ?_
        replace hfin := ob1_some hfin
        obtain ⟨G_logged_129, hE_128, hfin⟩ := hfin
        refine ctV (a := aG) (As := []) (rest := []) (st1 := []) (wc := [oX2 aD aDc D_writesDone_121 D_writesLeft_122 D_down_123, rI aDc cI 4096 D_cells_124, oX4 aG aD G_logged]) (w1 := [oX2 aD aDc D_writesDone_121 D_writesLeft_122 D_down_123, rI aDc cI 4096 D_cells_124, oX4 aG aD G_logged_129]) (wr := [oX9 aP P_seriesCount P_most P_ratio aD aI aG aU aT aQ aC P_recoveries, oX3 aI aD, oX7 aT aD aI aK aO aTi aTp aTt T_chunks_55 T_chunksMade_56 T_openFrom_57 T_lacksSpace_58, oX5 aK aKc K_used_59 K_bitsFree_60 K_full_61 K_time_62 K_value_63 K_rise_64, rI aKc cI 1661 K_cells_65, oX6 aO O_first_66 O_last_67 O_points_68 O_least_69 O_greatest_70 O_sum_71, rI aTi cI 961 T_image_125, rI aTp cI 96 T_packedFrom_73, rI aTt cZ 1661 T_taken_74, oX1 aC aI aG aV C_isOpen_2 C_series C_from C_to C_entry C_entriesEnd C_pointsLeft C_block C_time_3 C_value_4]) (wb := [oX9 aP P_seriesCount P_most P_ratio aD aI aG aU aT aQ aC P_recoveries, oX2 aD aDc D_writesDone_121 D_writesLeft_122 D_down_123, rI aDc cI 4096 D_cells_124, oX3 aI aD, oX4 aG aD G_logged_129, oX7 aT aD aI aK aO aTi aTp aTt T_chunks_55 T_chunksMade_56 T_openFrom_57 T_lacksSpace_58, oX5 aK aKc K_used_59 K_bitsFree_60 K_full_61 K_time_62 K_value_63 K_rise_64, rI aKc cI 1661 K_cells_65, oX6 aO O_first_66 O_last_67 O_points_68 O_least_69 O_greatest_70 O_sum_71, rI aTi cI 961 T_image_125, rI aTp cI 96 T_packedFrom_73, rI aTt cZ 1661 T_taken_74, oX1 aC aI aG aV C_isOpen_2 C_series C_from C_to C_entry C_entriesEnd C_pointsLeft C_block C_time_3 C_value_4]) (v := none) hx hb hml hown htc hN (c_X4_readAgain l G cI cZ cJ aD aDc aG D_writesDone_121 D_writesLeft_122 D_down_123 D_cells_124 G_logged  hE_128) mw_559 mw_560 mw_561 mw_5 mw_562 hd_X4_readAgain ⟨rfl, rfl⟩ ⟨Nat.le_of_ble_eq_true rfl, Nat.le_of_ble_eq_true rfl⟩ hK hw126 hA [1, 2, 4] [0, 3, 5, 6, 7, 8, 9, 10, 11, 12] [0, 10, 11, 1, 12, 2, 3, 4, 5, 6, 7, 8, 9] rfl rfl rfl rfl rfl (by decide) rfl rfl rfl 2 rfl rfl rfl rfl hl127.1 rfl rfl (Nat.le_of_ble_eq_true rfl) dX9_flush_105 ⟨Nat.zero_le _, Nat.zero_le _⟩ (fun H130 locs130 hw130 => ?_)
        clear hw126 H126 locs126
        refine lv_iload_n hx hb dX9_flush_108 rfl (lv_at hl127 0 rfl) ?_
        cases hfin
        rw [hQQ]
        exact ct_iret hx hb hr hlocks hw130.1 hw130.2.1 hw130.2.2 dX9_flush_109
      have lp_53 : ∀ (n : Nat) (v1_30 : Int32) (T_chunks_31 : Int32) (T_chunksMade_32 : Int32) (T_openFrom_33 : Int32) (T_lacksSpace_34 : Int32) (K_used_35 : Int32) (K_bitsFree_36 : Int32) (K_full_37 : Int32) (K_time_38 : Int32) (K_value_39 : Int32) (K_rise_40 : Int64) (K_cells_41 : Nat → Int32) (O_first_42 : Int32) (O_last_43 : Int32) (O_points_44 : Int32) (O_least_45 : Int32) (O_greatest_46 : Int32) (O_sum_47 : Int64) (T_image_48 : Nat → Int32) (T_packedFrom_49 : Nat → Int32) (T_taken_50 : Nat → Int32), lp_X9_flush_41 P_seriesCount P_most D_cells G_logged n v1_30 T_chunks_31 T_chunksMade_32 T_openFrom_33 T_lacksSpace_34 K_used_35 K_bitsFree_36 K_full_37 K_time_38 K_value_39 K_rise_40 K_cells_41 O_first_42 O_last_43 O_points_44 O_least_45 O_greatest_46 O_sum_47 T_image_48 T_packedFrom_49 T_taken_50 = some (T_chunks_55, T_chunksMade_56, T_openFrom_57, T_lacksSpace_58, K_used_59, K_bitsFree_60, K_full_61, K_time_62, K_value_63, K_rise_64, K_cells_65, O_first_66, O_last_67, O_points_68, O_least_69, O_greatest_70, O_sum_71, T_image_72, T_packedFrom_73, T_taken_74) → ∀ (H : Heap) (locs : List Loc) (ls : Array Slot), wS G A s H locs [oX9 aP P_seriesCount P_most P_ratio aD aI aG aU aT aQ aC P_recoveries, oX2 aD aDc D_writesDone D_writesLeft D_down, rI aDc cI 4096 D_cells, oX3 aI aD, oX4 aG aD G_logged, oX7 aT aD aI aK aO aTi aTp aTt T_chunks_31 T_chunksMade_32 T_openFrom_33 T_lacksSpace_34, oX5 aK aKc K_used_35 K_bitsFree_36 K_full_37 K_time_38 K_value_39 K_rise_40, rI aKc cI 1661 K_cells_41, oX6 aO O_first_42 O_last_43 O_points_44 O_least_45 O_greatest_46 O_sum_47, rI aTi cI 961 T_image_48, rI aTp cI 96 T_packedFrom_49, rI aTt cZ 1661 T_taken_50, oX1 aC aI aG aV C_isOpen_2 C_series C_from C_to C_entry C_entriesEnd C_pointsLeft C_block C_time_3 C_value_4] → lv_has ls 2 [(0, .ref aP), (1, .int v1_30)] → W p l e rm_X9_flush s m args below meth c H locs 0 0 QQ (F0 m 41 ls []) := by
        clear hw28 H28 locs28 hl29 ls29 hfin
        intro n
        induction n with
        | zero =>
          intro v1_30 T_chunks_31 T_chunksMade_32 T_openFrom_33 T_lacksSpace_34 K_used_35 K_bitsFree_36 K_full_37 K_time_38 K_value_39 K_rise_40 K_cells_41 O_first_42 O_last_43 O_points_44 O_least_45 O_greatest_46 O_sum_47 T_image_48 T_packedFrom_49 T_taken_50 hB_54
          exact absurd hB_54 (by rw [lp_X9_flush_41]; exact fun h9 => nomatch h9)
        | succ n ih =>
          intro v1_30 T_chunks_31 T_chunksMade_32 T_openFrom_33 T_lacksSpace_34 K_used_35 K_bitsFree_36 K_full_37 K_time_38 K_value_39 K_rise_40 K_cells_41 O_first_42 O_last_43 O_points_44 O_least_45 O_greatest_46 O_sum_47 T_image_48 T_packedFrom_49 T_taken_50 hB_54 H75 locs75 ls75 hw75 hl75
          rw [lp_X9_flush_41] at hB_54
          refine lv_iload_n hx hb dX9_flush_41 rfl (lv_at hl75 1 rfl) ?_
          refine lv_aload_n hx hb dX9_flush_42 rfl (lv_at hl75 0 rfl) ?_
          refine va_get (D := G) (ci := 9) (v := .int P_seriesCount) (C := RX9) (T := TX9) (N := 11) hx hb htc iX9 hown hK hw75.1 0 rfl rfl 0 (by decide) (htc _ mw_303) (fun _ h9 => h9) rfl dX9_flush_43 ?_
          refine lv_icmp_ge (tgt := 80) hx hb dX9_flush_46 (by decide) (fun c_76 => ?_) (fun c_76 => ?_)
          · replace hB_54 := it_t c_76 hB_54
            cases hB_54
            exact kx_52 _ _ _ hw75 (lv_sub hl75 [0] rfl)
          · replace hB_54 := it_f c_76 hB_54
            refine lv_aload_n hx hb dX9_flush_49 rfl (lv_at hl75 0 rfl) ?_
            refine lv_aload_n hx hb dX9_flush_50 rfl (lv_at hl75 0 rfl) ?_
            refine va_get (D := G) (ci := 9) (v := .ref aI) (C := RX9) (T := TX9) (N := 11) hx hb htc iX9 hown hK hw75.1 0 rfl rfl 4 (by decide) (htc _ mw_307) (fun _ h9 => h9) rfl dX9_flush_51 ?_
            refine lv_iload_n hx hb dX9_flush_54 rfl (lv_at hl75 1 rfl) ?_
            replace hB_54 := ob1_some hB_54
            obtain ⟨r_78, hE_77, hB_54⟩ := hB_54
            refine ctV (a := aI) (As := [.int v1_30]) (rest := [.ref aP]) (st1 := [.int r_78, .ref aP]) (wc := [oX2 aD aDc D_writesDone D_writesLeft D_down, rI aDc cI 4096 D_cells, oX3 aI aD]) (w1 := [oX2 aD aDc D_writesDone D_writesLeft D_down, rI aDc cI 4096 D_cells, oX3 aI aD]) (wr := [oX9 aP P_seriesCount P_most P_ratio aD aI aG aU aT aQ aC P_recoveries, oX4 aG aD G_logged, oX7 aT aD aI aK aO aTi aTp aTt T_chunks_31 T_chunksMade_32 T_openFrom_33 T_lacksSpace_34, oX5 aK aKc K_used_35 K_bitsFree_36 K_full_37 K_time_38 K_value_39 K_rise_40, rI aKc cI 1661 K_cells_41, oX6 aO O_first_42 O_last_43 O_points_44 O_least_45 O_greatest_46 O_sum_47, rI aTi cI 961 T_image_48, rI aTp cI 96 T_packedFrom_49, rI aTt cZ 1661 T_taken_50, oX1 aC aI aG aV C_isOpen_2 C_series C_from C_to C_entry C_entriesEnd C_pointsLeft C_block C_time_3 C_value_4]) (wb := [oX9 aP P_seriesCount P_most P_ratio aD aI aG aU aT aQ aC P_recoveries, oX2 aD aDc D_writesDone D_writesLeft D_down, rI aDc cI 4096 D_cells, oX3 aI aD, oX4 aG aD G_logged, oX7 aT aD aI aK aO aTi aTp aTt T_chunks_31 T_chunksMade_32 T_openFrom_33 T_lacksSpace_34, oX5 aK aKc K_used_35 K_bitsFree_36 K_full_37 K_time_38 K_value_39 K_rise_40, rI aKc cI 1661 K_cells_41, oX6 aO O_first_42 O_last_43 O_points_44 O_least_45 O_greatest_46 O_sum_47, rI aTi cI 961 T_image_48, rI aTp cI 96 T_packedFrom_49, rI aTt cZ 1661 T_taken_50, oX1 aC aI aG aV C_isOpen_2 C_series C_from C_to C_entry C_entriesEnd C_pointsLeft C_block C_time_3 C_value_4]) (v := (some (.int r_78))) hx hb hml hown htc hN (c_X3_firstOf l G cI cZ cJ aD aDc aI D_writesDone D_writesLeft D_down D_cells v1_30 hE_77) mw_394 mw_375 mw_376 mw_4 mw_377 hd_X3_firstOf ⟨rfl, rfl⟩ ⟨Nat.le_of_ble_eq_true rfl, Nat.le_of_ble_eq_true rfl⟩ hK hw75 hA [1, 2, 3] [0, 4, 5, 6, 7, 8, 9, 10, 11, 12] [0, 10, 11, 12, 1, 2, 3, 4, 5, 6, 7, 8, 9] rfl rfl rfl rfl rfl (by decide) rfl rfl rfl 2 rfl rfl rfl rfl hl75.1 rfl rfl (Nat.le_of_ble_eq_true rfl) dX9_flush_55 ⟨Nat.zero_le _, Nat.zero_le _⟩ (fun H79 locs79 hw79 => ?_)
            clear hw75 H75 locs75
            refine lv_aload_n hx hb dX9_flush_58 rfl (lv_at hl75 0 rfl) ?_
            refine va_get (D := G) (ci := 9) (v := .ref aI) (C := RX9) (T := TX9) (N := 11) hx hb htc iX9 hown hK hw79.1 0 rfl rfl 4 (by decide) (htc _ mw_307) (fun _ h9 => h9) rfl dX9_flush_59 ?_
            refine lv_iload_n hx hb dX9_flush_62 rfl (lv_at hl75 1 rfl) ?_
            replace hB_54 := ob1_some hB_54
            obtain ⟨r_81, hE_80, hB_54⟩ := hB_54
            refine ctV (a := aI) (As := [.int v1_30]) (rest := [.int r_78, .ref aP]) (st1 := [.int r_81, .int r_78, .ref aP]) (wc := [oX2 aD aDc D_writesDone D_writesLeft D_down, rI aDc cI 4096 D_cells, oX3 aI aD]) (w1 := [oX2 aD aDc D_writesDone D_writesLeft D_down, rI aDc cI 4096 D_cells, oX3 aI aD]) (wr := [oX9 aP P_seriesCount P_most P_ratio aD aI aG aU aT aQ aC P_recoveries, oX4 aG aD G_logged, oX7 aT aD aI aK aO aTi aTp aTt T_chunks_31 T_chunksMade_32 T_openFrom_33 T_lacksSpace_34, oX5 aK aKc K_used_35 K_bitsFree_36 K_full_37 K_time_38 K_value_39 K_rise_40, rI aKc cI 1661 K_cells_41, oX6 aO O_first_42 O_last_43 O_points_44 O_least_45 O_greatest_46 O_sum_47, rI aTi cI 961 T_image_48, rI aTp cI 96 T_packedFrom_49, rI aTt cZ 1661 T_taken_50, oX1 aC aI aG aV C_isOpen_2 C_series C_from C_to C_entry C_entriesEnd C_pointsLeft C_block C_time_3 C_value_4]) (wb := [oX9 aP P_seriesCount P_most P_ratio aD aI aG aU aT aQ aC P_recoveries, oX2 aD aDc D_writesDone D_writesLeft D_down, rI aDc cI 4096 D_cells, oX3 aI aD, oX4 aG aD G_logged, oX7 aT aD aI aK aO aTi aTp aTt T_chunks_31 T_chunksMade_32 T_openFrom_33 T_lacksSpace_34, oX5 aK aKc K_used_35 K_bitsFree_36 K_full_37 K_time_38 K_value_39 K_rise_40, rI aKc cI 1661 K_cells_41, oX6 aO O_first_42 O_last_43 O_points_44 O_least_45 O_greatest_46 O_sum_47, rI aTi cI 961 T_image_48, rI aTp cI 96 T_packedFrom_49, rI aTt cZ 1661 T_taken_50, oX1 aC aI aG aV C_isOpen_2 C_series C_from C_to C_entry C_entriesEnd C_pointsLeft C_block C_time_3 C_value_4]) (v := (some (.int r_81))) hx hb hml hown htc hN (c_X3_endOf l G cI cZ cJ aD aDc aI D_writesDone D_writesLeft D_down D_cells v1_30 hE_80) mw_370 mw_371 mw_372 mw_4 mw_373 hd_X3_endOf ⟨rfl, rfl⟩ ⟨Nat.le_of_ble_eq_true rfl, Nat.le_of_ble_eq_true rfl⟩ hK hw79 hA [1, 2, 3] [0, 4, 5, 6, 7, 8, 9, 10, 11, 12] [0, 10, 11, 12, 1, 2, 3, 4, 5, 6, 7, 8, 9] rfl rfl rfl rfl rfl (by decide) rfl rfl rfl 2 rfl rfl rfl rfl hl75.1 rfl rfl (Nat.le_of_ble_eq_true rfl) dX9_flush_63 ⟨Nat.zero_le _, Nat.zero_le _⟩ (fun H82 locs82 hw82 => ?_)
            clear hw79 H79 locs79
            replace hB_54 := ob4_some hB_54
            obtain ⟨T_chunks_84, T_lacksSpace_85, T_image_86, T_packedFrom_87, hE_83, hB_54⟩ := hB_54
            refine ctV (a := aP) (As := [.int r_78, .int r_81]) (rest := []) (st1 := []) (wc := [oX9 aP P_seriesCount P_most P_ratio aD aI aG aU aT aQ aC P_recoveries, oX2 aD aDc D_writesDone D_writesLeft D_down, rI aDc cI 4096 D_cells, oX3 aI aD, oX7 aT aD aI aK aO aTi aTp aTt T_chunks_31 T_chunksMade_32 T_openFrom_33 T_lacksSpace_34, rI aTi cI 961 T_image_48, rI aTp cI 96 T_packedFrom_49]) (w1 := [oX9 aP P_seriesCount P_most P_ratio aD aI aG aU aT aQ aC P_recoveries, oX2 aD aDc D_writesDone D_writesLeft D_down, rI aDc cI 4096 D_cells, oX3 aI aD, oX7 aT aD aI aK aO aTi aTp aTt T_chunks_84 T_chunksMade_32 T_openFrom_33 T_lacksSpace_85, rI aTi cI 961 T_image_86, rI aTp cI 96 T_packedFrom_87]) (wr := [oX4 aG aD G_logged, oX5 aK aKc K_used_35 K_bitsFree_36 K_full_37 K_time_38 K_value_39 K_rise_40, rI aKc cI 1661 K_cells_41, oX6 aO O_first_42 O_last_43 O_points_44 O_least_45 O_greatest_46 O_sum_47, rI aTt cZ 1661 T_taken_50, oX1 aC aI aG aV C_isOpen_2 C_series C_from C_to C_entry C_entriesEnd C_pointsLeft C_block C_time_3 C_value_4]) (wb := [oX9 aP P_seriesCount P_most P_ratio aD aI aG aU aT aQ aC P_recoveries, oX2 aD aDc D_writesDone D_writesLeft D_down, rI aDc cI 4096 D_cells, oX3 aI aD, oX4 aG aD G_logged, oX7 aT aD aI aK aO aTi aTp aTt T_chunks_84 T_chunksMade_32 T_openFrom_33 T_lacksSpace_85, oX5 aK aKc K_used_35 K_bitsFree_36 K_full_37 K_time_38 K_value_39 K_rise_40, rI aKc cI 1661 K_cells_41, oX6 aO O_first_42 O_last_43 O_points_44 O_least_45 O_greatest_46 O_sum_47, rI aTi cI 961 T_image_86, rI aTp cI 96 T_packedFrom_87, rI aTt cZ 1661 T_taken_50, oX1 aC aI aG aV C_isOpen_2 C_series C_from C_to C_entry C_entriesEnd C_pointsLeft C_block C_time_3 C_value_4]) (v := none) hx hb hml hown htc hN (c_X9_keepEntries l G cI cZ cJ aP aD aI aG aU aT aQ aC aDc aK aO aTi aTp aTt P_seriesCount P_most P_ratio P_recoveries D_writesDone D_writesLeft D_down D_cells T_chunks_31 T_chunksMade_32 T_openFrom_33 T_lacksSpace_34 T_image_48 T_packedFrom_49 r_78 r_81 hE_83) mw_438 mw_440 mp_3 mw_1 mw_441 hd_X9_keepEntries ⟨rfl, rfl⟩ ⟨Nat.le_of_ble_eq_true rfl, Nat.le_of_ble_eq_true rfl⟩ hK hw82 hA [0, 1, 2, 3, 5, 9, 10] [4, 6, 7, 8, 11, 12] [6, 7, 8, 9, 0, 10, 1, 2, 3, 11, 12, 4, 5] rfl rfl rfl rfl rfl (by decide) rfl rfl rfl 0 rfl rfl rfl rfl hl75.1 rfl rfl (Nat.le_of_ble_eq_true rfl) dX9_flush_66 ⟨Nat.zero_le _, Nat.zero_le _⟩ (fun H88 locs88 hw88 => ?_)
            clear hw82 H82 locs82
            refine lv_aload_n hx hb dX9_flush_69 rfl (lv_at hl75 0 rfl) ?_
            refine lv_iload_n hx hb dX9_flush_70 rfl (lv_at hl75 1 rfl) ?_
            replace hB_54 := ob20_some hB_54
            obtain ⟨T_chunks_90, T_chunksMade_91, T_openFrom_92, T_lacksSpace_93, K_used_94, K_bitsFree_95, K_full_96, K_time_97, K_value_98, K_rise_99, K_cells_100, O_first_101, O_last_102, O_points_103, O_least_104, O_greatest_105, O_sum_106, T_image_107, T_packedFrom_108, T_taken_109, hE_89, hB_54⟩ := hB_54
            refine ctV (a := aP) (As := [.int v1_30]) (rest := []) (st1 := []) (wc := [oX9 aP P_seriesCount P_most P_ratio aD aI aG aU aT aQ aC P_recoveries, oX2 aD aDc D_writesDone D_writesLeft D_down, rI aDc cI 4096 D_cells, oX4 aG aD G_logged, oX7 aT aD aI aK aO aTi aTp aTt T_chunks_84 T_chunksMade_32 T_openFrom_33 T_lacksSpace_85, oX5 aK aKc K_used_35 K_bitsFree_36 K_full_37 K_time_38 K_value_39 K_rise_40, rI aKc cI 1661 K_cells_41, oX6 aO O_first_42 O_last_43 O_points_44 O_least_45 O_greatest_46 O_sum_47, rI aTi cI 961 T_image_86, rI aTp cI 96 T_packedFrom_87, rI aTt cZ 1661 T_taken_50]) (w1 := [oX9 aP P_seriesCount P_most P_ratio aD aI aG aU aT aQ aC P_recoveries, oX2 aD aDc D_writesDone D_writesLeft D_down, rI aDc cI 4096 D_cells, oX4 aG aD G_logged, oX7 aT aD aI aK aO aTi aTp aTt T_chunks_90 T_chunksMade_91 T_openFrom_92 T_lacksSpace_93, oX5 aK aKc K_used_94 K_bitsFree_95 K_full_96 K_time_97 K_value_98 K_rise_99, rI aKc cI 1661 K_cells_100, oX6 aO O_first_101 O_last_102 O_points_103 O_least_104 O_greatest_105 O_sum_106, rI aTi cI 961 T_image_107, rI aTp cI 96 T_packedFrom_108, rI aTt cZ 1661 T_taken_109]) (wr := [oX3 aI aD, oX1 aC aI aG aV C_isOpen_2 C_series C_from C_to C_entry C_entriesEnd C_pointsLeft C_block C_time_3 C_value_4]) (wb := [oX9 aP P_seriesCount P_most P_ratio aD aI aG aU aT aQ aC P_recoveries, oX2 aD aDc D_writesDone D_writesLeft D_down, rI aDc cI 4096 D_cells, oX3 aI aD, oX4 aG aD G_logged, oX7 aT aD aI aK aO aTi aTp aTt T_chunks_90 T_chunksMade_91 T_openFrom_92 T_lacksSpace_93, oX5 aK aKc K_used_94 K_bitsFree_95 K_full_96 K_time_97 K_value_98 K_rise_99, rI aKc cI 1661 K_cells_100, oX6 aO O_first_101 O_last_102 O_points_103 O_least_104 O_greatest_105 O_sum_106, rI aTi cI 961 T_image_107, rI aTp cI 96 T_packedFrom_108, rI aTt cZ 1661 T_taken_109, oX1 aC aI aG aV C_isOpen_2 C_series C_from C_to C_entry C_entriesEnd C_pointsLeft C_block C_time_3 C_value_4]) (v := none) hx hb hml hown htc hN (c_X9_sealHead l G cI cZ cJ aP aD aI aG aU aT aQ aC aDc aK aO aTi aTp aTt aKc P_seriesCount P_most P_ratio P_recoveries D_writesDone D_writesLeft D_down D_cells G_logged T_chunks_84 T_chunksMade_32 T_openFrom_33 T_lacksSpace_85 K_used_35 K_bitsFree_36 K_full_37 K_time_38 K_value_39 K_rise_40 K_cells_41 O_first_42 O_last_43 O_points_44 O_least_45 O_greatest_46 O_sum_47 T_image_86 T_packedFrom_87 T_taken_50 v1_30 hE_89) mw_446 mw_448 mp_4 mw_1 mw_449 hd_X9_sealHead ⟨rfl, rfl⟩ ⟨Nat.le_of_ble_eq_true rfl, Nat.le_of_ble_eq_true rfl⟩ hK hw88 hA [0, 1, 2, 4, 5, 6, 7, 8, 9, 10, 11] [3, 12] [2, 3, 4, 0, 5, 6, 7, 8, 9, 10, 11, 12, 1] rfl rfl rfl rfl rfl (by decide) rfl rfl rfl 0 rfl rfl rfl rfl hl75.1 rfl rfl (Nat.le_of_ble_eq_true rfl) dX9_flush_71 ⟨Nat.zero_le _, Nat.zero_le _⟩ (fun H110 locs110 hw110 => ?_)
            clear hw88 H88 locs88
            refine lv_iinc (v := (v1_30 + (1 : Int32))) (lv' := [(1, .int (v1_30 + (1 : Int32))), (0, .ref aP)]) hx hb dX9_flush_74 hl75 (k := 1) rfl rfl (by decide) rfl (fun ls111 hl111 => ?_)
            clear hl75 ls75
            refine lv_goto (tgt := 41) hx hb dX9_flush_77 (by decide) ?_
            exact ih (v1_30 + (1 : Int32)) T_chunks_90 T_chunksMade_91 T_openFrom_92 T_lacksSpace_93 K_used_94 K_bitsFree_95 K_full_96 K_time_97 K_value_98 K_rise_99 K_cells_100 O_first_101 O_last_102 O_points_103 O_least_104 O_greatest_105 O_sum_106 T_image_107 T_packedFrom_108 T_taken_109 hB_54 _ _ _ hw110 (lv_sub hl111 [1, 0] rfl)
      exact lp_53 NN (0 : Int32) T_chunks_15 T_chunksMade_16 T_openFrom T_lacksSpace_17 K_used_18 K_bitsFree_19 K_full_20 K_time K_value K_rise K_cells O_first_21 O_last_22 O_points_23 O_least_24 O_greatest_25 O_sum_26 T_image T_packedFrom T_taken_27 hL_51 _ _ _ hw28 (lv_sub hl29 [1, 0] rfl)
    · replace hfin := it_t c_13 hfin
      refine lv_iconst (v := (0 : Int32)) hx hb dX9_flush_30 (by decide) ?_
      cases hfin
      rw [hQQ]
      exact ct_iret hx hb hr hlocks hw12.1 hw12.2.1 hw12.2.2 dX9_flush_31
  · replace hfin := it_f c_9 hfin
    refine lv_bipush (v := (-9 : Int32)) hx hb dX9_flush_17 (by decide) ?_
    cases hfin
    rw [hQQ]
    exact ct_iret hx hb hr hlocks hw8.1 hw8.2.1 hw8.2.2 dX9_flush_19
abbrev rm_X9_makeOneOf : Room := { frames := 5, cells := 0, slots := 0, locals := 114 }
theorem hd_X9_makeOneOf : yX9_makeOneOf.cls = RX9 ∧ yX9_makeOneOf.cls ≠ "java/lang/invoke/MethodHandle" ∧ yX9_makeOneOf.cls ≠ "java/lang/invoke/VarHandle" ∧ (parseMethodDescriptor yX9_makeOneOf.desc).map (fun d => d.parameters.length) = some 3 := by decide +kernel
set_option maxHeartbeats 4000000 in
set_option maxRecDepth 100000 in
theorem c_X9_makeOneOf (l : Launch) (G : va_G) (cI cZ cJ : ClassId) (aP aD aI aG aU aT aQ aC aDc aK aO aTi aTp aTt aKc : Nat) (P_seriesCount : Int32) (P_most : Int32) (P_ratio : Int32) (P_recoveries : Int32) (D_writesDone : Int32) (D_writesLeft : Int32) (D_down : Int32) (D_cells : Nat → Int32) (U_place : Int32) (U_bitsRead : Int32) (U_started : Int32) (U_time : Int32) (U_value : Int32) (U_rise : Int64) (T_chunks : Int32) (T_chunksMade : Int32) (T_openFrom : Int32) (T_lacksSpace : Int32) (K_used : Int32) (K_bitsFree : Int32) (K_full : Int32) (K_time : Int32) (K_value : Int32) (K_rise : Int64) (K_cells : Nat → Int32) (O_first : Int32) (O_last : Int32) (O_points : Int32) (O_least : Int32) (O_greatest : Int32) (O_sum : Int64) (T_image : Nat → Int32) (T_packedFrom : Nat → Int32) (T_taken : Nat → Int32) (p0 : Int32) (p1 : Int32) (p2 : Int32) {o_U_place : Int32} {o_U_bitsRead : Int32} {o_U_started : Int32} {o_U_time : Int32} {o_U_value : Int32} {o_U_rise : Int64} {o_T_chunks : Int32} {o_T_chunksMade : Int32} {o_T_openFrom : Int32} {o_T_lacksSpace : Int32} {o_K_used : Int32} {o_K_bitsFree : Int32} {o_K_full : Int32} {o_K_time : Int32} {o_K_value : Int32} {o_K_rise : Int64} {o_K_cells : Nat → Int32} {o_O_first : Int32} {o_O_last : Int32} {o_O_points : Int32} {o_O_least : Int32} {o_O_greatest : Int32} {o_O_sum : Int64} {o_T_image : Nat → Int32} {o_T_packedFrom : Nat → Int32} {o_T_taken : Nat → Int32} (hfin : m_X9_makeOneOf D_cells U_place U_bitsRead U_started U_time U_value U_rise T_chunks T_chunksMade T_openFrom T_lacksSpace K_used K_bitsFree K_full K_time K_value K_rise K_cells O_first O_last O_points O_least O_greatest O_sum T_image T_packedFrom T_taken p0 p1 p2 = some (o_U_place, o_U_bitsRead, o_U_started, o_U_time, o_U_value, o_U_rise, o_T_chunks, o_T_chunksMade, o_T_openFrom, o_T_lacksSpace, o_K_used, o_K_bitsFree, o_K_full, o_K_time, o_K_value, o_K_rise, o_K_cells, o_O_first, o_O_last, o_O_points, o_O_least, o_O_greatest, o_O_sum, o_T_image, o_T_packedFrom, o_T_taken)) : CT l yX9_makeOneOf cX9_makeOneOf 7 none rm_X9_makeOneOf G (tyC cI cZ cJ) [.ref aP, .int p0, .int p1, .int p2] [oX9 aP P_seriesCount P_most P_ratio aD aI aG aU aT aQ aC P_recoveries, oX2 aD aDc D_writesDone D_writesLeft D_down, rI aDc cI 4096 D_cells, oX3 aI aD, oX8 aU aD U_place U_bitsRead U_started U_time U_value U_rise, oX7 aT aD aI aK aO aTi aTp aTt T_chunks T_chunksMade T_openFrom T_lacksSpace, oX5 aK aKc K_used K_bitsFree K_full K_time K_value K_rise, rI aKc cI 1661 K_cells, oX6 aO O_first O_last O_points O_least O_greatest O_sum, rI aTi cI 961 T_image, rI aTp cI 96 T_packedFrom, rI aTt cZ 1661 T_taken] none [oX9 aP P_seriesCount P_most P_ratio aD aI aG aU aT aQ aC P_recoveries, oX2 aD aDc D_writesDone D_writesLeft D_down, rI aDc cI 4096 D_cells, oX3 aI aD, oX8 aU aD o_U_place o_U_bitsRead o_U_started o_U_time o_U_value o_U_rise, oX7 aT aD aI aK aO aTi aTp aTt o_T_chunks o_T_chunksMade o_T_openFrom o_T_lacksSpace, oX5 aK aKc o_K_used o_K_bitsFree o_K_full o_K_time o_K_value o_K_rise, rI aKc cI 1661 o_K_cells, oX6 aO o_O_first o_O_last o_O_points o_O_least o_O_greatest o_O_sum, rI aTi cI 961 o_T_image, rI aTp cI 96 o_T_packedFrom, rI aTt cZ 1661 o_T_taken] := by
  refine CT.ofW (lvl := [(0, .ref aP), (1, .int p0), (2, .int p1), (3, .int p2)]) (by decide) (Nat.le_of_ble_eq_true rfl) rfl ?_
  intro p e s m args below meth c A ls0 QQ hQQ hx hb hml hr hlocks htc hN hown hK hA hw0 hl0
  rw [m_X9_makeOneOf] at hfin
  refine lv_iload_n hx hb dX9_makeOneOf_0 rfl (lv_at hl0 3 rfl) ?_
  refine lv_iload_n hx hb dX9_makeOneOf_1 rfl (lv_at hl0 2 rfl) ?_
  refine lv_isub hx hb dX9_makeOneOf_2 ?_
  refine lv_iconst (v := (1 : Int32)) hx hb dX9_makeOneOf_3 (by decide) ?_
  refine lv_icmp_gt (tgt := 14) hx hb dX9_makeOneOf_4 (by decide) (fun c_1 => ?_) (fun c_1 => ?_)
  · replace hfin := it_t c_1 hfin
    refine lv_iload_n hx hb dX9_makeOneOf_14 rfl (lv_at hl0 2 rfl) ?_
    refine lv_istore (lv' := [(4, .int p1), (0, .ref aP), (1, .int p0), (2, .int p1), (3, .int p2)]) hx hb dX9_makeOneOf_15 hl0 (by decide) rfl (fun ls2 hl2 => ?_)
    clear hl0 ls0
    replace hfin := ob20_some hfin
    obtain ⟨U_place_28, U_bitsRead_29, U_started_30, U_time_31, U_value_32, U_rise_33, T_openFrom_34, K_used_35, K_bitsFree_36, K_full_37, K_time_38, K_value_39, K_rise_40, K_cells_41, O_first_42, O_last_43, O_points_44, O_least_45, O_greatest_46, O_sum_47, hL_24, hfin⟩ := hfin
    have kx_25 : ∀ (H : Heap) (locs : List Loc) (ls : Array Slot), wS G A s H locs [oX9 aP P_seriesCount P_most P_ratio aD aI aG aU aT aQ aC P_recoveries, oX2 aD aDc D_writesDone D_writesLeft D_down, rI aDc cI 4096 D_cells, oX3 aI aD, oX8 aU aD U_place_28 U_bitsRead_29 U_started_30 U_time_31 U_value_32 U_rise_33, oX7 aT aD aI aK aO aTi aTp aTt T_chunks T_chunksMade T_openFrom_34 T_lacksSpace, oX5 aK aKc K_used_35 K_bitsFree_36 K_full_37 K_time_38 K_value_39 K_rise_40, rI aKc cI 1661 K_cells_41, oX6 aO O_first_42 O_last_43 O_points_44 O_least_45 O_greatest_46 O_sum_47, rI aTi cI 961 T_image, rI aTp cI 96 T_packedFrom, rI aTt cZ 1661 T_taken] → lv_has ls 7 [(0, .ref aP), (1, .int p0)] → W p l e rm_X9_makeOneOf s m args below meth c H locs 0 0 QQ (F0 m 103 ls []) := by
      clear hw0 hl2 ls2 hL_24
      intro H134 locs134 ls134 hw134 hl134
      refine lv_aload_n hx hb dX9_makeOneOf_103 rfl (lv_at hl134 0 rfl) ?_
      refine va_get (D := G) (ci := 9) (v := .ref aT) (C := RX9) (T := TX9) (N := 11) hx hb htc iX9 hown hK hw134.1 0 rfl rfl 7 (by decide) (htc _ mw_310) (fun _ h9 => h9) rfl dX9_makeOneOf_104 ?_
      refine lv_iload_n hx hb dX9_makeOneOf_107 rfl (lv_at hl134 1 rfl) ?_
      replace hfin := ob12_some hfin
      obtain ⟨T_chunks_136, T_chunksMade_137, T_lacksSpace_138, O_first_139, O_last_140, O_points_141, O_least_142, O_greatest_143, O_sum_144, T_image_145, T_packedFrom_146, T_taken_147, hE_135, hfin⟩ := hfin
      refine ctV (a := aT) (As := [.int p0]) (rest := []) (st1 := []) (wc := [oX7 aT aD aI aK aO aTi aTp aTt T_chunks T_chunksMade T_openFrom_34 T_lacksSpace, oX5 aK aKc K_used_35 K_bitsFree_36 K_full_37 K_time_38 K_value_39 K_rise_40, oX6 aO O_first_42 O_last_43 O_points_44 O_least_45 O_greatest_46 O_sum_47, rI aTi cI 961 T_image, rI aTp cI 96 T_packedFrom, rI aTt cZ 1661 T_taken]) (w1 := [oX7 aT aD aI aK aO aTi aTp aTt T_chunks_136 T_chunksMade_137 T_openFrom_34 T_lacksSpace_138, oX5 aK aKc K_used_35 K_bitsFree_36 K_full_37 K_time_38 K_value_39 K_rise_40, oX6 aO O_first_139 O_last_140 O_points_141 O_least_142 O_greatest_143 O_sum_144, rI aTi cI 961 T_image_145, rI aTp cI 96 T_packedFrom_146, rI aTt cZ 1661 T_taken_147]) (wr := [oX9 aP P_seriesCount P_most P_ratio aD aI aG aU aT aQ aC P_recoveries, oX2 aD aDc D_writesDone D_writesLeft D_down, rI aDc cI 4096 D_cells, oX3 aI aD, oX8 aU aD U_place_28 U_bitsRead_29 U_started_30 U_time_31 U_value_32 U_rise_33, rI aKc cI 1661 K_cells_41]) (wb := [oX9 aP P_seriesCount P_most P_ratio aD aI aG aU aT aQ aC P_recoveries, oX2 aD aDc D_writesDone D_writesLeft D_down, rI aDc cI 4096 D_cells, oX3 aI aD, oX8 aU aD U_place_28 U_bitsRead_29 U_started_30 U_time_31 U_value_32 U_rise_33, oX7 aT aD aI aK aO aTi aTp aTt T_chunks_136 T_chunksMade_137 T_openFrom_34 T_lacksSpace_138, oX5 aK aKc K_used_35 K_bitsFree_36 K_full_37 K_time_38 K_value_39 K_rise_40, rI aKc cI 1661 K_cells_41, oX6 aO O_first_139 O_last_140 O_points_141 O_least_142 O_greatest_143 O_sum_144, rI aTi cI 961 T_image_145, rI aTp cI 96 T_packedFrom_146, rI aTt cZ 1661 T_taken_147]) (v := none) hx hb hml hown htc hN (c_X7_seal l G cI cZ cJ aT aD aI aK aO aTi aTp aTt aKc T_chunks T_chunksMade T_openFrom_34 T_lacksSpace K_used_35 K_bitsFree_36 K_full_37 K_time_38 K_value_39 K_rise_40 O_first_42 O_last_43 O_points_44 O_least_45 O_greatest_46 O_sum_47 T_image T_packedFrom T_taken p0 hE_135) mw_454 mw_455 mw_456 mw_7 mw_457 hd_X7_seal ⟨rfl, rfl⟩ ⟨Nat.le_of_ble_eq_true rfl, Nat.le_of_ble_eq_true rfl⟩ hK hw134 hA [5, 6, 8, 9, 10, 11] [0, 1, 2, 3, 4, 7] [0, 1, 2, 3, 4, 6, 7, 5, 8, 9, 10, 11] rfl rfl rfl rfl rfl (by decide) rfl rfl rfl 0 rfl rfl rfl rfl hl134.1 rfl rfl (Nat.le_of_ble_eq_true rfl) dX9_makeOneOf_108 ⟨Nat.zero_le _, Nat.zero_le _⟩ (fun H148 locs148 hw148 => ?_)
      clear hw134 H134 locs134
      cases hfin
      rw [hQQ]
      exact ct_vret hx hb hr hlocks hw148.1 hw148.2.1 hw148.2.2 dX9_makeOneOf_111
    have lp_26 : ∀ (n : Nat) (v4_3 : Int32) (U_place_4 : Int32) (U_bitsRead_5 : Int32) (U_started_6 : Int32) (U_time_7 : Int32) (U_value_8 : Int32) (U_rise_9 : Int64) (T_openFrom_10 : Int32) (K_used_11 : Int32) (K_bitsFree_12 : Int32) (K_full_13 : Int32) (K_time_14 : Int32) (K_value_15 : Int32) (K_rise_16 : Int64) (K_cells_17 : Nat → Int32) (O_first_18 : Int32) (O_last_19 : Int32) (O_points_20 : Int32) (O_least_21 : Int32) (O_greatest_22 : Int32) (O_sum_23 : Int64), lp_X9_makeOneOf_17 D_cells p2 n v4_3 U_place_4 U_bitsRead_5 U_started_6 U_time_7 U_value_8 U_rise_9 T_openFrom_10 K_used_11 K_bitsFree_12 K_full_13 K_time_14 K_value_15 K_rise_16 K_cells_17 O_first_18 O_last_19 O_points_20 O_least_21 O_greatest_22 O_sum_23 = some (U_place_28, U_bitsRead_29, U_started_30, U_time_31, U_value_32, U_rise_33, T_openFrom_34, K_used_35, K_bitsFree_36, K_full_37, K_time_38, K_value_39, K_rise_40, K_cells_41, O_first_42, O_last_43, O_points_44, O_least_45, O_greatest_46, O_sum_47) → ∀ (H : Heap) (locs : List Loc) (ls : Array Slot), wS G A s H locs [oX9 aP P_seriesCount P_most P_ratio aD aI aG aU aT aQ aC P_recoveries, oX2 aD aDc D_writesDone D_writesLeft D_down, rI aDc cI 4096 D_cells, oX3 aI aD, oX8 aU aD U_place_4 U_bitsRead_5 U_started_6 U_time_7 U_value_8 U_rise_9, oX7 aT aD aI aK aO aTi aTp aTt T_chunks T_chunksMade T_openFrom_10 T_lacksSpace, oX5 aK aKc K_used_11 K_bitsFree_12 K_full_13 K_time_14 K_value_15 K_rise_16, rI aKc cI 1661 K_cells_17, oX6 aO O_first_18 O_last_19 O_points_20 O_least_21 O_greatest_22 O_sum_23, rI aTi cI 961 T_image, rI aTp cI 96 T_packedFrom, rI aTt cZ 1661 T_taken] → lv_has ls 7 [(0, .ref aP), (1, .int p0), (3, .int p2), (4, .int v4_3)] → W p l e rm_X9_makeOneOf s m args below meth c H locs 0 0 QQ (F0 m 17 ls []) := by
      clear hw0 hl2 ls2 hfin
      intro n
      induction n with
      | zero =>
        intro v4_3 U_place_4 U_bitsRead_5 U_started_6 U_time_7 U_value_8 U_rise_9 T_openFrom_10 K_used_11 K_bitsFree_12 K_full_13 K_time_14 K_value_15 K_rise_16 K_cells_17 O_first_18 O_last_19 O_points_20 O_least_21 O_greatest_22 O_sum_23 hB_27
        exact absurd hB_27 (by rw [lp_X9_makeOneOf_17]; exact fun h9 => nomatch h9)
      | succ n ih =>
        intro v4_3 U_place_4 U_bitsRead_5 U_started_6 U_time_7 U_value_8 U_rise_9 T_openFrom_10 K_used_11 K_bitsFree_12 K_full_13 K_time_14 K_value_15 K_rise_16 K_cells_17 O_first_18 O_last_19 O_points_20 O_least_21 O_greatest_22 O_sum_23 hB_27 H48 locs48 ls48 hw48 hl48
        rw [lp_X9_makeOneOf_17] at hB_27
        refine lv_iload hx hb dX9_makeOneOf_17 (lv_at hl48 3 rfl) ?_
        refine lv_iload_n hx hb dX9_makeOneOf_19 rfl (lv_at hl48 2 rfl) ?_
        refine lv_icmp_ge (tgt := 103) hx hb dX9_makeOneOf_20 (by decide) (fun c_49 => ?_) (fun c_49 => ?_)
        · replace hB_27 := it_t c_49 hB_27
          cases hB_27
          exact kx_25 _ _ _ hw48 (lv_sub hl48 [0, 1] rfl)
        · replace hB_27 := it_f c_49 hB_27
          refine lv_aload_n hx hb dX9_makeOneOf_23 rfl (lv_at hl48 0 rfl) ?_
          refine va_get (D := G) (ci := 9) (v := .ref aI) (C := RX9) (T := TX9) (N := 11) hx hb htc iX9 hown hK hw48.1 0 rfl rfl 4 (by decide) (htc _ mw_307) (fun _ h9 => h9) rfl dX9_makeOneOf_24 ?_
          refine lv_iload hx hb dX9_makeOneOf_27 (lv_at hl48 3 rfl) ?_
          refine lv_iconst (v := (3 : Int32)) hx hb dX9_makeOneOf_29 (by decide) ?_
          replace hB_27 := ob1_some hB_27
          obtain ⟨r_51, hE_50, hB_27⟩ := hB_27
          refine ctV (a := aI) (As := [.int v4_3, .int (3 : Int32)]) (rest := []) (st1 := [.int r_51]) (wc := [oX2 aD aDc D_writesDone D_writesLeft D_down, rI aDc cI 4096 D_cells, oX3 aI aD]) (w1 := [oX2 aD aDc D_writesDone D_writesLeft D_down, rI aDc cI 4096 D_cells, oX3 aI aD]) (wr := [oX9 aP P_seriesCount P_most P_ratio aD aI aG aU aT aQ aC P_recoveries, oX8 aU aD U_place_4 U_bitsRead_5 U_started_6 U_time_7 U_value_8 U_rise_9, oX7 aT aD aI aK aO aTi aTp aTt T_chunks T_chunksMade T_openFrom_10 T_lacksSpace, oX5 aK aKc K_used_11 K_bitsFree_12 K_full_13 K_time_14 K_value_15 K_rise_16, rI aKc cI 1661 K_cells_17, oX6 aO O_first_18 O_last_19 O_points_20 O_least_21 O_greatest_22 O_sum_23, rI aTi cI 961 T_image, rI aTp cI 96 T_packedFrom, rI aTt cZ 1661 T_taken]) (wb := [oX9 aP P_seriesCount P_most P_ratio aD aI aG aU aT aQ aC P_recoveries, oX2 aD aDc D_writesDone D_writesLeft D_down, rI aDc cI 4096 D_cells, oX3 aI aD, oX8 aU aD U_place_4 U_bitsRead_5 U_started_6 U_time_7 U_value_8 U_rise_9, oX7 aT aD aI aK aO aTi aTp aTt T_chunks T_chunksMade T_openFrom_10 T_lacksSpace, oX5 aK aKc K_used_11 K_bitsFree_12 K_full_13 K_time_14 K_value_15 K_rise_16, rI aKc cI 1661 K_cells_17, oX6 aO O_first_18 O_last_19 O_points_20 O_least_21 O_greatest_22 O_sum_23, rI aTi cI 961 T_image, rI aTp cI 96 T_packedFrom, rI aTt cZ 1661 T_taken]) (v := (some (.int r_51))) hx hb hml hown htc hN (c_X3_at l G cI cZ cJ aD aDc aI D_writesDone D_writesLeft D_down D_cells v4_3 (3 : Int32) hE_50) mw_395 mw_391 mw_392 mw_4 mw_393 hd_X3_at ⟨rfl, rfl⟩ ⟨Nat.le_of_ble_eq_true rfl, Nat.le_of_ble_eq_true rfl⟩ hK hw48 hA [1, 2, 3] [0, 4, 5, 6, 7, 8, 9, 10, 11] [0, 9, 10, 11, 1, 2, 3, 4, 5, 6, 7, 8] rfl rfl rfl rfl rfl (by decide) rfl rfl rfl 2 rfl rfl rfl rfl hl48.1 rfl rfl (Nat.le_of_ble_eq_true rfl) dX9_makeOneOf_30 ⟨Nat.zero_le _, Nat.zero_le _⟩ (fun H52 locs52 hw52 => ?_)
          clear hw48 H48 locs48
          refine lv_istore (lv' := [(5, .int r_51), (0, .ref aP), (1, .int p0), (3, .int p2), (4, .int v4_3)]) hx hb dX9_makeOneOf_33 hl48 (by decide) rfl (fun ls53 hl53 => ?_)
          clear hl48 ls48
          refine lv_aload_n hx hb dX9_makeOneOf_35 rfl (lv_at hl53 1 rfl) ?_
          refine va_get (D := G) (ci := 9) (v := .ref aU) (C := RX9) (T := TX9) (N := 11) hx hb htc iX9 hown hK hw52.1 0 rfl rfl 6 (by decide) (htc _ mw_309) (fun _ h9 => h9) rfl dX9_makeOneOf_36 ?_
          refine lv_aload_n hx hb dX9_makeOneOf_39 rfl (lv_at hl53 1 rfl) ?_
          refine va_get (D := G) (ci := 9) (v := .ref aI) (C := RX9) (T := TX9) (N := 11) hx hb htc iX9 hown hK hw52.1 0 rfl rfl 4 (by decide) (htc _ mw_307) (fun _ h9 => h9) rfl dX9_makeOneOf_40 ?_
          refine lv_iload hx hb dX9_makeOneOf_43 (lv_at hl53 4 rfl) ?_
          refine lv_bipush (v := (8 : Int32)) hx hb dX9_makeOneOf_45 (by decide) ?_
          replace hB_27 := ob1_some hB_27
          obtain ⟨r_55, hE_54, hB_27⟩ := hB_27
          refine ctV (a := aI) (As := [.int v4_3, .int (8 : Int32)]) (rest := [.ref aU]) (st1 := [.int r_55, .ref aU]) (wc := [oX2 aD aDc D_writesDone D_writesLeft D_down, rI aDc cI 4096 D_cells, oX3 aI aD]) (w1 := [oX2 aD aDc D_writesDone D_writesLeft D_down, rI aDc cI 4096 D_cells, oX3 aI aD]) (wr := [oX9 aP P_seriesCount P_most P_ratio aD aI aG aU aT aQ aC P_recoveries, oX8 aU aD U_place_4 U_bitsRead_5 U_started_6 U_time_7 U_value_8 U_rise_9, oX7 aT aD aI aK aO aTi aTp aTt T_chunks T_chunksMade T_openFrom_10 T_lacksSpace, oX5 aK aKc K_used_11 K_bitsFree_12 K_full_13 K_time_14 K_value_15 K_rise_16, rI aKc cI 1661 K_cells_17, oX6 aO O_first_18 O_last_19 O_points_20 O_least_21 O_greatest_22 O_sum_23, rI aTi cI 961 T_image, rI aTp cI 96 T_packedFrom, rI aTt cZ 1661 T_taken]) (wb := [oX9 aP P_seriesCount P_most P_ratio aD aI aG aU aT aQ aC P_recoveries, oX2 aD aDc D_writesDone D_writesLeft D_down, rI aDc cI 4096 D_cells, oX3 aI aD, oX8 aU aD U_place_4 U_bitsRead_5 U_started_6 U_time_7 U_value_8 U_rise_9, oX7 aT aD aI aK aO aTi aTp aTt T_chunks T_chunksMade T_openFrom_10 T_lacksSpace, oX5 aK aKc K_used_11 K_bitsFree_12 K_full_13 K_time_14 K_value_15 K_rise_16, rI aKc cI 1661 K_cells_17, oX6 aO O_first_18 O_last_19 O_points_20 O_least_21 O_greatest_22 O_sum_23, rI aTi cI 961 T_image, rI aTp cI 96 T_packedFrom, rI aTt cZ 1661 T_taken]) (v := (some (.int r_55))) hx hb hml hown htc hN (c_X3_at l G cI cZ cJ aD aDc aI D_writesDone D_writesLeft D_down D_cells v4_3 (8 : Int32) hE_54) mw_395 mw_391 mw_392 mw_4 mw_393 hd_X3_at ⟨rfl, rfl⟩ ⟨Nat.le_of_ble_eq_true rfl, Nat.le_of_ble_eq_true rfl⟩ hK hw52 hA [1, 2, 3] [0, 4, 5, 6, 7, 8, 9, 10, 11] [0, 9, 10, 11, 1, 2, 3, 4, 5, 6, 7, 8] rfl rfl rfl rfl rfl (by decide) rfl rfl rfl 2 rfl rfl rfl rfl hl53.1 rfl rfl (Nat.le_of_ble_eq_true rfl) dX9_makeOneOf_47 ⟨Nat.zero_le _, Nat.zero_le _⟩ (fun H56 locs56 hw56 => ?_)
          clear hw52 H52 locs52
          replace hB_27 := ob3_some hB_27
          obtain ⟨U_place_58, U_bitsRead_59, U_started_60, hE_57, hB_27⟩ := hB_27
          refine ctV (a := aU) (As := [.int r_55]) (rest := []) (st1 := []) (wc := [oX8 aU aD U_place_4 U_bitsRead_5 U_started_6 U_time_7 U_value_8 U_rise_9]) (w1 := [oX8 aU aD U_place_58 U_bitsRead_59 U_started_60 U_time_7 U_value_8 U_rise_9]) (wr := [oX9 aP P_seriesCount P_most P_ratio aD aI aG aU aT aQ aC P_recoveries, oX2 aD aDc D_writesDone D_writesLeft D_down, rI aDc cI 4096 D_cells, oX3 aI aD, oX7 aT aD aI aK aO aTi aTp aTt T_chunks T_chunksMade T_openFrom_10 T_lacksSpace, oX5 aK aKc K_used_11 K_bitsFree_12 K_full_13 K_time_14 K_value_15 K_rise_16, rI aKc cI 1661 K_cells_17, oX6 aO O_first_18 O_last_19 O_points_20 O_least_21 O_greatest_22 O_sum_23, rI aTi cI 961 T_image, rI aTp cI 96 T_packedFrom, rI aTt cZ 1661 T_taken]) (wb := [oX9 aP P_seriesCount P_most P_ratio aD aI aG aU aT aQ aC P_recoveries, oX2 aD aDc D_writesDone D_writesLeft D_down, rI aDc cI 4096 D_cells, oX3 aI aD, oX8 aU aD U_place_58 U_bitsRead_59 U_started_60 U_time_7 U_value_8 U_rise_9, oX7 aT aD aI aK aO aTi aTp aTt T_chunks T_chunksMade T_openFrom_10 T_lacksSpace, oX5 aK aKc K_used_11 K_bitsFree_12 K_full_13 K_time_14 K_value_15 K_rise_16, rI aKc cI 1661 K_cells_17, oX6 aO O_first_18 O_last_19 O_points_20 O_least_21 O_greatest_22 O_sum_23, rI aTi cI 961 T_image, rI aTp cI 96 T_packedFrom, rI aTt cZ 1661 T_taken]) (v := none) hx hb hml hown htc hN (c_X8_open l G cI cZ cJ aU aD U_place_4 U_bitsRead_5 U_started_6 U_time_7 U_value_8 U_rise_9 r_55 hE_57) mw_575 mw_576 mw_577 mw_6 mw_578 hd_X8_open ⟨rfl, rfl⟩ ⟨Nat.le_of_ble_eq_true rfl, Nat.le_of_ble_eq_true rfl⟩ hK hw56 hA [4] [0, 1, 2, 3, 5, 6, 7, 8, 9, 10, 11] [0, 1, 2, 3, 11, 4, 5, 6, 7, 8, 9, 10] rfl rfl rfl rfl rfl (by decide) rfl rfl rfl 0 rfl rfl rfl rfl hl53.1 rfl rfl (Nat.le_of_ble_eq_true rfl) dX9_makeOneOf_50 ⟨Nat.zero_le _, Nat.zero_le _⟩ (fun H61 locs61 hw61 => ?_)
          clear hw56 H56 locs56
          refine lv_iconst (v := (0 : Int32)) hx hb dX9_makeOneOf_53 (by decide) ?_
          refine lv_istore (lv' := [(6, .int (0 : Int32)), (5, .int r_51), (0, .ref aP), (1, .int p0), (3, .int p2), (4, .int v4_3)]) hx hb dX9_makeOneOf_54 hl53 (by decide) rfl (fun ls62 hl62 => ?_)
          clear hl53 ls53
          replace hB_27 := ob19_some hB_27
          obtain ⟨U_bitsRead_87, U_started_88, U_time_89, U_value_90, U_rise_91, T_openFrom_92, K_used_93, K_bitsFree_94, K_full_95, K_time_96, K_value_97, K_rise_98, K_cells_99, O_first_100, O_last_101, O_points_102, O_least_103, O_greatest_104, O_sum_105, hL_83, hB_27⟩ := hB_27
          have kx_84 : ∀ (H : Heap) (locs : List Loc) (ls : Array Slot), wS G A s H locs [oX9 aP P_seriesCount P_most P_ratio aD aI aG aU aT aQ aC P_recoveries, oX2 aD aDc D_writesDone D_writesLeft D_down, rI aDc cI 4096 D_cells, oX3 aI aD, oX8 aU aD U_place_58 U_bitsRead_87 U_started_88 U_time_89 U_value_90 U_rise_91, oX7 aT aD aI aK aO aTi aTp aTt T_chunks T_chunksMade T_openFrom_92 T_lacksSpace, oX5 aK aKc K_used_93 K_bitsFree_94 K_full_95 K_time_96 K_value_97 K_rise_98, rI aKc cI 1661 K_cells_99, oX6 aO O_first_100 O_last_101 O_points_102 O_least_103 O_greatest_104 O_sum_105, rI aTi cI 961 T_image, rI aTp cI 96 T_packedFrom, rI aTt cZ 1661 T_taken] → lv_has ls 7 [(0, .ref aP), (1, .int p0), (3, .int p2), (4, .int v4_3)] → W p l e rm_X9_makeOneOf s m args below meth c H locs 0 0 QQ (F0 m 97 ls []) := by
            clear hw61 H61 locs61 hl62 ls62 hL_83
            intro H132 locs132 ls132 hw132 hl132
            refine lv_iinc (v := (v4_3 + (1 : Int32))) (lv' := [(4, .int (v4_3 + (1 : Int32))), (0, .ref aP), (1, .int p0), (3, .int p2)]) hx hb dX9_makeOneOf_97 hl132 (k := 3) rfl rfl (by decide) rfl (fun ls133 hl133 => ?_)
            clear hl132 ls132
            refine lv_goto (tgt := 17) hx hb dX9_makeOneOf_100 (by decide) ?_
            exact ih (v4_3 + (1 : Int32)) U_place_58 U_bitsRead_87 U_started_88 U_time_89 U_value_90 U_rise_91 T_openFrom_92 K_used_93 K_bitsFree_94 K_full_95 K_time_96 K_value_97 K_rise_98 K_cells_99 O_first_100 O_last_101 O_points_102 O_least_103 O_greatest_104 O_sum_105 hB_27 _ _ _ hw132 (lv_sub hl133 [1, 2, 3, 0] rfl)
          have lp_85 : ∀ (n : Nat) (v6_63 : Int32) (U_bitsRead_64 : Int32) (U_started_65 : Int32) (U_time_66 : Int32) (U_value_67 : Int32) (U_rise_68 : Int64) (T_openFrom_69 : Int32) (K_used_70 : Int32) (K_bitsFree_71 : Int32) (K_full_72 : Int32) (K_time_73 : Int32) (K_value_74 : Int32) (K_rise_75 : Int64) (K_cells_76 : Nat → Int32) (O_first_77 : Int32) (O_last_78 : Int32) (O_points_79 : Int32) (O_least_80 : Int32) (O_greatest_81 : Int32) (O_sum_82 : Int64), lp_X9_makeOneOf_56 D_cells r_51 U_place_58 n v6_63 U_bitsRead_64 U_started_65 U_time_66 U_value_67 U_rise_68 T_openFrom_69 K_used_70 K_bitsFree_71 K_full_72 K_time_73 K_value_74 K_rise_75 K_cells_76 O_first_77 O_last_78 O_points_79 O_least_80 O_greatest_81 O_sum_82 = some (U_bitsRead_87, U_started_88, U_time_89, U_value_90, U_rise_91, T_openFrom_92, K_used_93, K_bitsFree_94, K_full_95, K_time_96, K_value_97, K_rise_98, K_cells_99, O_first_100, O_last_101, O_points_102, O_least_103, O_greatest_104, O_sum_105) → ∀ (H : Heap) (locs : List Loc) (ls : Array Slot), wS G A s H locs [oX9 aP P_seriesCount P_most P_ratio aD aI aG aU aT aQ aC P_recoveries, oX2 aD aDc D_writesDone D_writesLeft D_down, rI aDc cI 4096 D_cells, oX3 aI aD, oX8 aU aD U_place_58 U_bitsRead_64 U_started_65 U_time_66 U_value_67 U_rise_68, oX7 aT aD aI aK aO aTi aTp aTt T_chunks T_chunksMade T_openFrom_69 T_lacksSpace, oX5 aK aKc K_used_70 K_bitsFree_71 K_full_72 K_time_73 K_value_74 K_rise_75, rI aKc cI 1661 K_cells_76, oX6 aO O_first_77 O_last_78 O_points_79 O_least_80 O_greatest_81 O_sum_82, rI aTi cI 961 T_image, rI aTp cI 96 T_packedFrom, rI aTt cZ 1661 T_taken] → lv_has ls 7 [(0, .ref aP), (1, .int p0), (3, .int p2), (4, .int v4_3), (5, .int r_51), (6, .int v6_63)] → W p l e rm_X9_makeOneOf s m args below meth c H locs 0 0 QQ (F0 m 56 ls []) := by
            clear hw61 H61 locs61 hl62 ls62 hB_27
            intro n
            induction n with
            | zero =>
              intro v6_63 U_bitsRead_64 U_started_65 U_time_66 U_value_67 U_rise_68 T_openFrom_69 K_used_70 K_bitsFree_71 K_full_72 K_time_73 K_value_74 K_rise_75 K_cells_76 O_first_77 O_last_78 O_points_79 O_least_80 O_greatest_81 O_sum_82 hB_86
              exact absurd hB_86 (by rw [lp_X9_makeOneOf_56]; exact fun h9 => nomatch h9)
            | succ n ih =>
              intro v6_63 U_bitsRead_64 U_started_65 U_time_66 U_value_67 U_rise_68 T_openFrom_69 K_used_70 K_bitsFree_71 K_full_72 K_time_73 K_value_74 K_rise_75 K_cells_76 O_first_77 O_last_78 O_points_79 O_least_80 O_greatest_81 O_sum_82 hB_86 H106 locs106 ls106 hw106 hl106
              rw [lp_X9_makeOneOf_56] at hB_86
              refine lv_iload hx hb dX9_makeOneOf_56 (lv_at hl106 5 rfl) ?_
              refine lv_iload hx hb dX9_makeOneOf_58 (lv_at hl106 4 rfl) ?_
              refine lv_icmp_ge (tgt := 97) hx hb dX9_makeOneOf_60 (by decide) (fun c_107 => ?_) (fun c_107 => ?_)
              · replace hB_86 := it_t c_107 hB_86
                cases hB_86
                exact kx_84 _ _ _ hw106 (lv_sub hl106 [0, 1, 2, 3] rfl)
              · replace hB_86 := it_f c_107 hB_86
                refine lv_aload_n hx hb dX9_makeOneOf_63 rfl (lv_at hl106 0 rfl) ?_
                refine va_get (D := G) (ci := 9) (v := .ref aU) (C := RX9) (T := TX9) (N := 11) hx hb htc iX9 hown hK hw106.1 0 rfl rfl 6 (by decide) (htc _ mw_309) (fun _ h9 => h9) rfl dX9_makeOneOf_64 ?_
                replace hB_86 := ob5_some hB_86
                obtain ⟨U_bitsRead_109, U_started_110, U_time_111, U_value_112, U_rise_113, hE_108, hB_86⟩ := hB_86
                refine ctV (a := aU) (As := []) (rest := []) (st1 := []) (wc := [oX2 aD aDc D_writesDone D_writesLeft D_down, rI aDc cI 4096 D_cells, oX8 aU aD U_place_58 U_bitsRead_64 U_started_65 U_time_66 U_value_67 U_rise_68]) (w1 := [oX2 aD aDc D_writesDone D_writesLeft D_down, rI aDc cI 4096 D_cells, oX8 aU aD U_place_58 U_bitsRead_109 U_started_110 U_time_111 U_value_112 U_rise_113]) (wr := [oX9 aP P_seriesCount P_most P_ratio aD aI aG aU aT aQ aC P_recoveries, oX3 aI aD, oX7 aT aD aI aK aO aTi aTp aTt T_chunks T_chunksMade T_openFrom_69 T_lacksSpace, oX5 aK aKc K_used_70 K_bitsFree_71 K_full_72 K_time_73 K_value_74 K_rise_75, rI aKc cI 1661 K_cells_76, oX6 aO O_first_77 O_last_78 O_points_79 O_least_80 O_greatest_81 O_sum_82, rI aTi cI 961 T_image, rI aTp cI 96 T_packedFrom, rI aTt cZ 1661 T_taken]) (wb := [oX9 aP P_seriesCount P_most P_ratio aD aI aG aU aT aQ aC P_recoveries, oX2 aD aDc D_writesDone D_writesLeft D_down, rI aDc cI 4096 D_cells, oX3 aI aD, oX8 aU aD U_place_58 U_bitsRead_109 U_started_110 U_time_111 U_value_112 U_rise_113, oX7 aT aD aI aK aO aTi aTp aTt T_chunks T_chunksMade T_openFrom_69 T_lacksSpace, oX5 aK aKc K_used_70 K_bitsFree_71 K_full_72 K_time_73 K_value_74 K_rise_75, rI aKc cI 1661 K_cells_76, oX6 aO O_first_77 O_last_78 O_points_79 O_least_80 O_greatest_81 O_sum_82, rI aTi cI 961 T_image, rI aTp cI 96 T_packedFrom, rI aTt cZ 1661 T_taken]) (v := none) hx hb hml hown htc hN (c_X8_step l G cI cZ cJ aD aDc aU D_writesDone D_writesLeft D_down D_cells U_place_58 U_bitsRead_64 U_started_65 U_time_66 U_value_67 U_rise_68  hE_108) mw_579 mw_580 mw_581 mw_6 mw_582 hd_X8_step ⟨rfl, rfl⟩ ⟨Nat.le_of_ble_eq_true rfl, Nat.le_of_ble_eq_true rfl⟩ hK hw106 hA [1, 2, 4] [0, 3, 5, 6, 7, 8, 9, 10, 11] [0, 9, 10, 1, 11, 2, 3, 4, 5, 6, 7, 8] rfl rfl rfl rfl rfl (by decide) rfl rfl rfl 2 rfl rfl rfl rfl hl106.1 rfl rfl (Nat.le_of_ble_eq_true rfl) dX9_makeOneOf_67 ⟨Nat.zero_le _, Nat.zero_le _⟩ (fun H114 locs114 hw114 => ?_)
                clear hw106 H106 locs106
                refine lv_aload_n hx hb dX9_makeOneOf_70 rfl (lv_at hl106 0 rfl) ?_
                refine va_get (D := G) (ci := 9) (v := .ref aT) (C := RX9) (T := TX9) (N := 11) hx hb htc iX9 hown hK hw114.1 0 rfl rfl 7 (by decide) (htc _ mw_310) (fun _ h9 => h9) rfl dX9_makeOneOf_71 ?_
                refine lv_aload_n hx hb dX9_makeOneOf_74 rfl (lv_at hl106 0 rfl) ?_
                refine va_get (D := G) (ci := 9) (v := .ref aU) (C := RX9) (T := TX9) (N := 11) hx hb htc iX9 hown hK hw114.1 0 rfl rfl 6 (by decide) (htc _ mw_309) (fun _ h9 => h9) rfl dX9_makeOneOf_75 ?_
                refine va_getN (D := G) (ci := 8) (v := .int U_time_111) (C := RX8) (T := TX8) (N := 7) hx hb htc iX8 hown hK hw114.1 4 rfl rfl 4 (by decide) (va_Nw.use rfl (hN _ mn_3)) (fun _ h9 => h9) rfl dX9_makeOneOf_78 ?_
                refine lv_aload_n hx hb dX9_makeOneOf_81 rfl (lv_at hl106 0 rfl) ?_
                refine va_get (D := G) (ci := 9) (v := .ref aU) (C := RX9) (T := TX9) (N := 11) hx hb htc iX9 hown hK hw114.1 0 rfl rfl 6 (by decide) (htc _ mw_309) (fun _ h9 => h9) rfl dX9_makeOneOf_82 ?_
                refine va_getN (D := G) (ci := 8) (v := .int U_value_112) (C := RX8) (T := TX8) (N := 7) hx hb htc iX8 hown hK hw114.1 4 rfl rfl 5 (by decide) (va_Nw.use rfl (hN _ mn_6)) (fun _ h9 => h9) rfl dX9_makeOneOf_85 ?_
                replace hB_86 := ob14_some hB_86
                obtain ⟨T_openFrom_116, K_used_117, K_bitsFree_118, K_full_119, K_time_120, K_value_121, K_rise_122, K_cells_123, O_first_124, O_last_125, O_points_126, O_least_127, O_greatest_128, O_sum_129, hE_115, hB_86⟩ := hB_86
                refine ctV (a := aT) (As := [.int U_time_111, .int U_value_112]) (rest := []) (st1 := []) (wc := [oX7 aT aD aI aK aO aTi aTp aTt T_chunks T_chunksMade T_openFrom_69 T_lacksSpace, oX5 aK aKc K_used_70 K_bitsFree_71 K_full_72 K_time_73 K_value_74 K_rise_75, rI aKc cI 1661 K_cells_76, oX6 aO O_first_77 O_last_78 O_points_79 O_least_80 O_greatest_81 O_sum_82]) (w1 := [oX7 aT aD aI aK aO aTi aTp aTt T_chunks T_chunksMade T_openFrom_116 T_lacksSpace, oX5 aK aKc K_used_117 K_bitsFree_118 K_full_119 K_time_120 K_value_121 K_rise_122, rI aKc cI 1661 K_cells_123, oX6 aO O_first_124 O_last_125 O_points_126 O_least_127 O_greatest_128 O_sum_129]) (wr := [oX9 aP P_seriesCount P_most P_ratio aD aI aG aU aT aQ aC P_recoveries, oX2 aD aDc D_writesDone D_writesLeft D_down, rI aDc cI 4096 D_cells, oX3 aI aD, oX8 aU aD U_place_58 U_bitsRead_109 U_started_110 U_time_111 U_value_112 U_rise_113, rI aTi cI 961 T_image, rI aTp cI 96 T_packedFrom, rI aTt cZ 1661 T_taken]) (wb := [oX9 aP P_seriesCount P_most P_ratio aD aI aG aU aT aQ aC P_recoveries, oX2 aD aDc D_writesDone D_writesLeft D_down, rI aDc cI 4096 D_cells, oX3 aI aD, oX8 aU aD U_place_58 U_bitsRead_109 U_started_110 U_time_111 U_value_112 U_rise_113, oX7 aT aD aI aK aO aTi aTp aTt T_chunks T_chunksMade T_openFrom_116 T_lacksSpace, oX5 aK aKc K_used_117 K_bitsFree_118 K_full_119 K_time_120 K_value_121 K_rise_122, rI aKc cI 1661 K_cells_123, oX6 aO O_first_124 O_last_125 O_points_126 O_least_127 O_greatest_128 O_sum_129, rI aTi cI 961 T_image, rI aTp cI 96 T_packedFrom, rI aTt cZ 1661 T_taken]) (v := none) hx hb hml hown htc hN (c_X7_pack l G cI cZ cJ aT aD aI aK aO aTi aTp aTt aKc T_chunks T_chunksMade T_openFrom_69 T_lacksSpace K_used_70 K_bitsFree_71 K_full_72 K_time_73 K_value_74 K_rise_75 K_cells_76 O_first_77 O_last_78 O_points_79 O_least_80 O_greatest_81 O_sum_82 U_time_111 U_value_112 hE_115) mw_474 mw_475 mw_476 mw_7 mw_477 hd_X7_pack ⟨rfl, rfl⟩ ⟨Nat.le_of_ble_eq_true rfl, Nat.le_of_ble_eq_true rfl⟩ hK hw114 hA [5, 6, 7, 8] [0, 1, 2, 3, 4, 9, 10, 11] [0, 1, 2, 3, 4, 8, 9, 10, 11, 5, 6, 7] rfl rfl rfl rfl rfl (by decide) rfl rfl rfl 0 rfl rfl rfl rfl hl106.1 rfl rfl (Nat.le_of_ble_eq_true rfl) dX9_makeOneOf_88 ⟨Nat.zero_le _, Nat.zero_le _⟩ (fun H130 locs130 hw130 => ?_)
                clear hw114 H114 locs114
                refine lv_iinc (v := (v6_63 + (1 : Int32))) (lv' := [(6, .int (v6_63 + (1 : Int32))), (0, .ref aP), (1, .int p0), (3, .int p2), (4, .int v4_3), (5, .int r_51)]) hx hb dX9_makeOneOf_91 hl106 (k := 5) rfl rfl (by decide) rfl (fun ls131 hl131 => ?_)
                clear hl106 ls106
                refine lv_goto (tgt := 56) hx hb dX9_makeOneOf_94 (by decide) ?_
                exact ih (v6_63 + (1 : Int32)) U_bitsRead_109 U_started_110 U_time_111 U_value_112 U_rise_113 T_openFrom_116 K_used_117 K_bitsFree_118 K_full_119 K_time_120 K_value_121 K_rise_122 K_cells_123 O_first_124 O_last_125 O_points_126 O_least_127 O_greatest_128 O_sum_129 hB_86 _ _ _ hw130 (lv_sub hl131 [1, 2, 3, 4, 5, 0] rfl)
          exact lp_85 NN (0 : Int32) U_bitsRead_59 U_started_60 U_time_7 U_value_8 U_rise_9 T_openFrom_10 K_used_11 K_bitsFree_12 K_full_13 K_time_14 K_value_15 K_rise_16 K_cells_17 O_first_18 O_last_19 O_points_20 O_least_21 O_greatest_22 O_sum_23 hL_83 _ _ _ hw61 (lv_sub hl62 [2, 3, 4, 5, 1, 0] rfl)
    exact lp_26 NN p1 U_place U_bitsRead U_started U_time U_value U_rise T_openFrom K_used K_bitsFree K_full K_time K_value K_rise K_cells O_first O_last O_points O_least O_greatest O_sum hL_24 _ _ _ hw0 (lv_sub hl2 [1, 2, 4, 0] rfl)
  · replace hfin := it_f c_1 hfin
    refine lv_aload_n hx hb dX9_makeOneOf_7 rfl (lv_at hl0 0 rfl) ?_
    refine lv_iload_n hx hb dX9_makeOneOf_8 rfl (lv_at hl0 2 rfl) ?_
    refine lv_iload_n hx hb dX9_makeOneOf_9 rfl (lv_at hl0 3 rfl) ?_
    replace hfin := ob4_some hfin
    obtain ⟨T_chunks_150, T_lacksSpace_151, T_image_152, T_packedFrom_153, hE_149, hfin⟩ := hfin
    refine ctV (a := aP) (As := [.int p1, .int p2]) (rest := []) (st1 := []) (wc := [oX9 aP P_seriesCount P_most P_ratio aD aI aG aU aT aQ aC P_recoveries, oX2 aD aDc D_writesDone D_writesLeft D_down, rI aDc cI 4096 D_cells, oX3 aI aD, oX7 aT aD aI aK aO aTi aTp aTt T_chunks T_chunksMade T_openFrom T_lacksSpace, rI aTi cI 961 T_image, rI aTp cI 96 T_packedFrom]) (w1 := [oX9 aP P_seriesCount P_most P_ratio aD aI aG aU aT aQ aC P_recoveries, oX2 aD aDc D_writesDone D_writesLeft D_down, rI aDc cI 4096 D_cells, oX3 aI aD, oX7 aT aD aI aK aO aTi aTp aTt T_chunks_150 T_chunksMade T_openFrom T_lacksSpace_151, rI aTi cI 961 T_image_152, rI aTp cI 96 T_packedFrom_153]) (wr := [oX8 aU aD U_place U_bitsRead U_started U_time U_value U_rise, oX5 aK aKc K_used K_bitsFree K_full K_time K_value K_rise, rI aKc cI 1661 K_cells, oX6 aO O_first O_last O_points O_least O_greatest O_sum, rI aTt cZ 1661 T_taken]) (wb := [oX9 aP P_seriesCount P_most P_ratio aD aI aG aU aT aQ aC P_recoveries, oX2 aD aDc D_writesDone D_writesLeft D_down, rI aDc cI 4096 D_cells, oX3 aI aD, oX8 aU aD U_place U_bitsRead U_started U_time U_value U_rise, oX7 aT aD aI aK aO aTi aTp aTt T_chunks_150 T_chunksMade T_openFrom T_lacksSpace_151, oX5 aK aKc K_used K_bitsFree K_full K_time K_value K_rise, rI aKc cI 1661 K_cells, oX6 aO O_first O_last O_points O_least O_greatest O_sum, rI aTi cI 961 T_image_152, rI aTp cI 96 T_packedFrom_153, rI aTt cZ 1661 T_taken]) (v := none) hx hb hml hown htc hN (c_X9_keepEntries l G cI cZ cJ aP aD aI aG aU aT aQ aC aDc aK aO aTi aTp aTt P_seriesCount P_most P_ratio P_recoveries D_writesDone D_writesLeft D_down D_cells T_chunks T_chunksMade T_openFrom T_lacksSpace T_image T_packedFrom p1 p2 hE_149) mw_438 mw_440 mp_3 mw_1 mw_441 hd_X9_keepEntries ⟨rfl, rfl⟩ ⟨Nat.le_of_ble_eq_true rfl, Nat.le_of_ble_eq_true rfl⟩ hK hw0 hA [0, 1, 2, 3, 5, 9, 10] [4, 6, 7, 8, 11] [5, 6, 7, 8, 0, 9, 1, 2, 3, 10, 11, 4] rfl rfl rfl rfl rfl (by decide) rfl rfl rfl 0 rfl rfl rfl rfl hl0.1 rfl rfl (Nat.le_of_ble_eq_true rfl) dX9_makeOneOf_10 ⟨Nat.zero_le _, Nat.zero_le _⟩ (fun H154 locs154 hw154 => ?_)
    clear hw0
    cases hfin
    rw [hQQ]
    exact ct_vret hx hb hr hlocks hw154.1 hw154.2.1 hw154.2.2 dX9_makeOneOf_13
abbrev rm_X9_joinEntries : Room := { frames := 6, cells := 0, slots := 0, locals := 140 }
theorem hd_X9_joinEntries : yX9_joinEntries.cls = RX9 ∧ yX9_joinEntries.cls ≠ "java/lang/invoke/MethodHandle" ∧ yX9_joinEntries.cls ≠ "java/lang/invoke/VarHandle" ∧ (parseMethodDescriptor yX9_joinEntries.desc).map (fun d => d.parameters.length) = some 3 := by decide +kernel
set_option maxHeartbeats 4000000 in
set_option maxRecDepth 100000 in
theorem c_X9_joinEntries (l : Launch) (G : va_G) (cI cZ cJ : ClassId) (aP aD aI aG aU aT aQ aC aDc aK aO aTi aTp aTt aKc : Nat) (P_seriesCount : Int32) (P_most : Int32) (P_ratio : Int32) (P_recoveries : Int32) (D_writesDone : Int32) (D_writesLeft : Int32) (D_down : Int32) (D_cells : Nat → Int32) (U_place : Int32) (U_bitsRead : Int32) (U_started : Int32) (U_time : Int32) (U_value : Int32) (U_rise : Int64) (T_chunks : Int32) (T_chunksMade : Int32) (T_openFrom : Int32) (T_lacksSpace : Int32) (K_used : Int32) (K_bitsFree : Int32) (K_full : Int32) (K_time : Int32) (K_value : Int32) (K_rise : Int64) (K_cells : Nat → Int32) (O_first : Int32) (O_last : Int32) (O_points : Int32) (O_least : Int32) (O_greatest : Int32) (O_sum : Int64) (T_image : Nat → Int32) (T_packedFrom : Nat → Int32) (T_taken : Nat → Int32) (p0 : Int32) (p1 : Int32) (p2 : Int32) {o_U_place : Int32} {o_U_bitsRead : Int32} {o_U_started : Int32} {o_U_time : Int32} {o_U_value : Int32} {o_U_rise : Int64} {o_T_chunks : Int32} {o_T_chunksMade : Int32} {o_T_openFrom : Int32} {o_T_lacksSpace : Int32} {o_K_used : Int32} {o_K_bitsFree : Int32} {o_K_full : Int32} {o_K_time : Int32} {o_K_value : Int32} {o_K_rise : Int64} {o_K_cells : Nat → Int32} {o_O_first : Int32} {o_O_last : Int32} {o_O_points : Int32} {o_O_least : Int32} {o_O_greatest : Int32} {o_O_sum : Int64} {o_T_image : Nat → Int32} {o_T_packedFrom : Nat → Int32} {o_T_taken : Nat → Int32} (hfin : m_X9_joinEntries P_most D_cells U_place U_bitsRead U_started U_time U_value U_rise T_chunks T_chunksMade T_openFrom T_lacksSpace K_used K_bitsFree K_full K_time K_value K_rise K_cells O_first O_last O_points O_least O_greatest O_sum T_image T_packedFrom T_taken p0 p1 p2 = some (o_U_place, o_U_bitsRead, o_U_started, o_U_time, o_U_value, o_U_rise, o_T_chunks, o_T_chunksMade, o_T_openFrom, o_T_lacksSpace, o_K_used, o_K_bitsFree, o_K_full, o_K_time, o_K_value, o_K_rise, o_K_cells, o_O_first, o_O_last, o_O_points, o_O_least, o_O_greatest, o_O_sum, o_T_image, o_T_packedFrom, o_T_taken)) : CT l yX9_joinEntries cX9_joinEntries 8 none rm_X9_joinEntries G (tyC cI cZ cJ) [.ref aP, .int p0, .int p1, .int p2] [oX9 aP P_seriesCount P_most P_ratio aD aI aG aU aT aQ aC P_recoveries, oX2 aD aDc D_writesDone D_writesLeft D_down, rI aDc cI 4096 D_cells, oX3 aI aD, oX8 aU aD U_place U_bitsRead U_started U_time U_value U_rise, oX7 aT aD aI aK aO aTi aTp aTt T_chunks T_chunksMade T_openFrom T_lacksSpace, oX5 aK aKc K_used K_bitsFree K_full K_time K_value K_rise, rI aKc cI 1661 K_cells, oX6 aO O_first O_last O_points O_least O_greatest O_sum, rI aTi cI 961 T_image, rI aTp cI 96 T_packedFrom, rI aTt cZ 1661 T_taken] none [oX9 aP P_seriesCount P_most P_ratio aD aI aG aU aT aQ aC P_recoveries, oX2 aD aDc D_writesDone D_writesLeft D_down, rI aDc cI 4096 D_cells, oX3 aI aD, oX8 aU aD o_U_place o_U_bitsRead o_U_started o_U_time o_U_value o_U_rise, oX7 aT aD aI aK aO aTi aTp aTt o_T_chunks o_T_chunksMade o_T_openFrom o_T_lacksSpace, oX5 aK aKc o_K_used o_K_bitsFree o_K_full o_K_time o_K_value o_K_rise, rI aKc cI 1661 o_K_cells, oX6 aO o_O_first o_O_last o_O_points o_O_least o_O_greatest o_O_sum, rI aTi cI 961 o_T_image, rI aTp cI 96 o_T_packedFrom, rI aTt cZ 1661 o_T_taken] := by
  refine CT.ofW (lvl := [(0, .ref aP), (1, .int p0), (2, .int p1), (3, .int p2)]) (by decide) (Nat.le_of_ble_eq_true rfl) rfl ?_
  intro p e s m args below meth c A ls0 QQ hQQ hx hb hml hr hlocks htc hN hown hK hA hw0 hl0
  rw [m_X9_joinEntries] at hfin
  refine lv_iload_n hx hb dX9_joinEntries_0 rfl (lv_at hl0 2 rfl) ?_
  refine lv_istore (lv' := [(4, .int p1), (0, .ref aP), (1, .int p0), (2, .int p1), (3, .int p2)]) hx hb dX9_joinEntries_1 hl0 (by decide) rfl (fun ls1 hl1 => ?_)
  clear hl0 ls0
  refine lv_iconst (v := (0 : Int32)) hx hb dX9_joinEntries_3 (by decide) ?_
  refine lv_istore (lv' := [(5, .int (0 : Int32)), (4, .int p1), (0, .ref aP), (1, .int p0), (2, .int p1), (3, .int p2)]) hx hb dX9_joinEntries_4 hl1 (by decide) rfl (fun ls2 hl2 => ?_)
  clear hl1 ls1
  refine lv_iload_n hx hb dX9_joinEntries_6 rfl (lv_at hl2 4 rfl) ?_
  refine lv_istore (lv' := [(6, .int p1), (5, .int (0 : Int32)), (4, .int p1), (0, .ref aP), (1, .int p0), (2, .int p1), (3, .int p2)]) hx hb dX9_joinEntries_7 hl2 (by decide) rfl (fun ls3 hl3 => ?_)
  clear hl2 ls2
  replace hfin := ob27_some hfin
  obtain ⟨v4_37, U_place_38, U_bitsRead_39, U_started_40, U_time_41, U_value_42, U_rise_43, T_chunks_44, T_chunksMade_45, T_openFrom_46, T_lacksSpace_47, K_used_48, K_bitsFree_49, K_full_50, K_time_51, K_value_52, K_rise_53, K_cells_54, O_first_55, O_last_56, O_points_57, O_least_58, O_greatest_59, O_sum_60, T_image_61, T_packedFrom_62, T_taken_63, hL_33, hfin⟩ := hfin
  have kx_34 : ∀ (H : Heap) (locs : List Loc) (ls : Array Slot), wS G A s H locs [oX9 aP P_seriesCount P_most P_ratio aD aI aG aU aT aQ aC P_recoveries, oX2 aD aDc D_writesDone D_writesLeft D_down, rI aDc cI 4096 D_cells, oX3 aI aD, oX8 aU aD U_place_38 U_bitsRead_39 U_started_40 U_time_41 U_value_42 U_rise_43, oX7 aT aD aI aK aO aTi aTp aTt T_chunks_44 T_chunksMade_45 T_openFrom_46 T_lacksSpace_47, oX5 aK aKc K_used_48 K_bitsFree_49 K_full_50 K_time_51 K_value_52 K_rise_53, rI aKc cI 1661 K_cells_54, oX6 aO O_first_55 O_last_56 O_points_57 O_least_58 O_greatest_59 O_sum_60, rI aTi cI 961 T_image_61, rI aTp cI 96 T_packedFrom_62, rI aTt cZ 1661 T_taken_63] → lv_has ls 8 [(0, .ref aP), (1, .int p0), (3, .int p2), (4, .int v4_37)] → W p l e rm_X9_joinEntries s m args below meth c H locs 0 0 QQ (F0 m 68 ls []) := by
    clear hw0 hl3 ls3 hL_33
    intro H134 locs134 ls134 hw134 hl134
    refine lv_aload_n hx hb dX9_joinEntries_68 rfl (lv_at hl134 0 rfl) ?_
    refine lv_iload_n hx hb dX9_joinEntries_69 rfl (lv_at hl134 1 rfl) ?_
    refine lv_iload hx hb dX9_joinEntries_70 (lv_at hl134 3 rfl) ?_
    refine lv_iload_n hx hb dX9_joinEntries_72 rfl (lv_at hl134 2 rfl) ?_
    replace hfin := ob26_some hfin
    obtain ⟨U_place_136, U_bitsRead_137, U_started_138, U_time_139, U_value_140, U_rise_141, T_chunks_142, T_chunksMade_143, T_openFrom_144, T_lacksSpace_145, K_used_146, K_bitsFree_147, K_full_148, K_time_149, K_value_150, K_rise_151, K_cells_152, O_first_153, O_last_154, O_points_155, O_least_156, O_greatest_157, O_sum_158, T_image_159, T_packedFrom_160, T_taken_161, hE_135, hfin⟩ := hfin
    refine ctV (a := aP) (As := [.int p0, .int v4_37, .int p2]) (rest := []) (st1 := []) (wc := [oX9 aP P_seriesCount P_most P_ratio aD aI aG aU aT aQ aC P_recoveries, oX2 aD aDc D_writesDone D_writesLeft D_down, rI aDc cI 4096 D_cells, oX3 aI aD, oX8 aU aD U_place_38 U_bitsRead_39 U_started_40 U_time_41 U_value_42 U_rise_43, oX7 aT aD aI aK aO aTi aTp aTt T_chunks_44 T_chunksMade_45 T_openFrom_46 T_lacksSpace_47, oX5 aK aKc K_used_48 K_bitsFree_49 K_full_50 K_time_51 K_value_52 K_rise_53, rI aKc cI 1661 K_cells_54, oX6 aO O_first_55 O_last_56 O_points_57 O_least_58 O_greatest_59 O_sum_60, rI aTi cI 961 T_image_61, rI aTp cI 96 T_packedFrom_62, rI aTt cZ 1661 T_taken_63]) (w1 := [oX9 aP P_seriesCount P_most P_ratio aD aI aG aU aT aQ aC P_recoveries, oX2 aD aDc D_writesDone D_writesLeft D_down, rI aDc cI 4096 D_cells, oX3 aI aD, oX8 aU aD U_place_136 U_bitsRead_137 U_started_138 U_time_139 U_value_140 U_rise_141, oX7 aT aD aI aK aO aTi aTp aTt T_chunks_142 T_chunksMade_143 T_openFrom_144 T_lacksSpace_145, oX5 aK aKc K_used_146 K_bitsFree_147 K_full_148 K_time_149 K_value_150 K_rise_151, rI aKc cI 1661 K_cells_152, oX6 aO O_first_153 O_last_154 O_points_155 O_least_156 O_greatest_157 O_sum_158, rI aTi cI 961 T_image_159, rI aTp cI 96 T_packedFrom_160, rI aTt cZ 1661 T_taken_161]) (wr := []) (wb := [oX9 aP P_seriesCount P_most P_ratio aD aI aG aU aT aQ aC P_recoveries, oX2 aD aDc D_writesDone D_writesLeft D_down, rI aDc cI 4096 D_cells, oX3 aI aD, oX8 aU aD U_place_136 U_bitsRead_137 U_started_138 U_time_139 U_value_140 U_rise_141, oX7 aT aD aI aK aO aTi aTp aTt T_chunks_142 T_chunksMade_143 T_openFrom_144 T_lacksSpace_145, oX5 aK aKc K_used_146 K_bitsFree_147 K_full_148 K_time_149 K_value_150 K_rise_151, rI aKc cI 1661 K_cells_152, oX6 aO O_first_153 O_last_154 O_points_155 O_least_156 O_greatest_157 O_sum_158, rI aTi cI 961 T_image_159, rI aTp cI 96 T_packedFrom_160, rI aTt cZ 1661 T_taken_161]) (v := none) hx hb hml hown htc hN (c_X9_makeOneOf l G cI cZ cJ aP aD aI aG aU aT aQ aC aDc aK aO aTi aTp aTt aKc P_seriesCount P_most P_ratio P_recoveries D_writesDone D_writesLeft D_down D_cells U_place_38 U_bitsRead_39 U_started_40 U_time_41 U_value_42 U_rise_43 T_chunks_44 T_chunksMade_45 T_openFrom_46 T_lacksSpace_47 K_used_48 K_bitsFree_49 K_full_50 K_time_51 K_value_52 K_rise_53 K_cells_54 O_first_55 O_last_56 O_points_57 O_least_58 O_greatest_59 O_sum_60 T_image_61 T_packedFrom_62 T_taken_63 p0 v4_37 p2 hE_135) mw_571 mw_573 mp_17 mw_1 mw_574 hd_X9_makeOneOf ⟨rfl, rfl⟩ ⟨Nat.le_of_ble_eq_true rfl, Nat.le_of_ble_eq_true rfl⟩ hK hw134 hA [0, 1, 2, 3, 4, 5, 6, 7, 8, 9, 10, 11] [] [0, 1, 2, 3, 4, 5, 6, 7, 8, 9, 10, 11] rfl rfl rfl rfl rfl (by decide) rfl rfl rfl 0 rfl rfl rfl rfl hl134.1 rfl rfl (Nat.le_of_ble_eq_true rfl) dX9_joinEntries_73 ⟨Nat.zero_le _, Nat.zero_le _⟩ (fun H162 locs162 hw162 => ?_)
    clear hw134 H134 locs134
    cases hfin
    rw [hQQ]
    exact ct_vret hx hb hr hlocks hw162.1 hw162.2.1 hw162.2.2 dX9_joinEntries_76
  have lp_35 : ∀ (n : Nat) (v4_4 : Int32) (v5_5 : Int32) (v6_6 : Int32) (U_place_7 : Int32) (U_bitsRead_8 : Int32) (U_started_9 : Int32) (U_time_10 : Int32) (U_value_11 : Int32) (U_rise_12 : Int64) (T_chunks_13 : Int32) (T_chunksMade_14 : Int32) (T_openFrom_15 : Int32) (T_lacksSpace_16 : Int32) (K_used_17 : Int32) (K_bitsFree_18 : Int32) (K_full_19 : Int32) (K_time_20 : Int32) (K_value_21 : Int32) (K_rise_22 : Int64) (K_cells_23 : Nat → Int32) (O_first_24 : Int32) (O_last_25 : Int32) (O_points_26 : Int32) (O_least_27 : Int32) (O_greatest_28 : Int32) (O_sum_29 : Int64) (T_image_30 : Nat → Int32) (T_packedFrom_31 : Nat → Int32) (T_taken_32 : Nat → Int32), lp_X9_joinEntries_9 P_most D_cells p0 p2 n v4_4 v5_5 v6_6 U_place_7 U_bitsRead_8 U_started_9 U_time_10 U_value_11 U_rise_12 T_chunks_13 T_chunksMade_14 T_openFrom_15 T_lacksSpace_16 K_used_17 K_bitsFree_18 K_full_19 K_time_20 K_value_21 K_rise_22 K_cells_23 O_first_24 O_last_25 O_points_26 O_least_27 O_greatest_28 O_sum_29 T_image_30 T_packedFrom_31 T_taken_32 = some (v4_37, U_place_38, U_bitsRead_39, U_started_40, U_time_41, U_value_42, U_rise_43, T_chunks_44, T_chunksMade_45, T_openFrom_46, T_lacksSpace_47, K_used_48, K_bitsFree_49, K_full_50, K_time_51, K_value_52, K_rise_53, K_cells_54, O_first_55, O_last_56, O_points_57, O_least_58, O_greatest_59, O_sum_60, T_image_61, T_packedFrom_62, T_taken_63) → ∀ (H : Heap) (locs : List Loc) (ls : Array Slot), wS G A s H locs [oX9 aP P_seriesCount P_most P_ratio aD aI aG aU aT aQ aC P_recoveries, oX2 aD aDc D_writesDone D_writesLeft D_down, rI aDc cI 4096 D_cells, oX3 aI aD, oX8 aU aD U_place_7 U_bitsRead_8 U_started_9 U_time_10 U_value_11 U_rise_12, oX7 aT aD aI aK aO aTi aTp aTt T_chunks_13 T_chunksMade_14 T_openFrom_15 T_lacksSpace_16, oX5 aK aKc K_used_17 K_bitsFree_18 K_full_19 K_time_20 K_value_21 K_rise_22, rI aKc cI 1661 K_cells_23, oX6 aO O_first_24 O_last_25 O_points_26 O_least_27 O_greatest_28 O_sum_29, rI aTi cI 961 T_image_30, rI aTp cI 96 T_packedFrom_31, rI aTt cZ 1661 T_taken_32] → lv_has ls 8 [(0, .ref aP), (1, .int p0), (3, .int p2), (4, .int v4_4), (5, .int v5_5), (6, .int v6_6)] → W p l e rm_X9_joinEntries s m args below meth c H locs 0 0 QQ (F0 m 9 ls []) := by
    clear hw0 hl3 ls3 hfin
    intro n
    induction n with
    | zero =>
      intro v4_4 v5_5 v6_6 U_place_7 U_bitsRead_8 U_started_9 U_time_10 U_value_11 U_rise_12 T_chunks_13 T_chunksMade_14 T_openFrom_15 T_lacksSpace_16 K_used_17 K_bitsFree_18 K_full_19 K_time_20 K_value_21 K_rise_22 K_cells_23 O_first_24 O_last_25 O_points_26 O_least_27 O_greatest_28 O_sum_29 T_image_30 T_packedFrom_31 T_taken_32 hB_36
      exact absurd hB_36 (by rw [lp_X9_joinEntries_9]; exact fun h9 => nomatch h9)
    | succ n ih =>
      intro v4_4 v5_5 v6_6 U_place_7 U_bitsRead_8 U_started_9 U_time_10 U_value_11 U_rise_12 T_chunks_13 T_chunksMade_14 T_openFrom_15 T_lacksSpace_16 K_used_17 K_bitsFree_18 K_full_19 K_time_20 K_value_21 K_rise_22 K_cells_23 O_first_24 O_last_25 O_points_26 O_least_27 O_greatest_28 O_sum_29 T_image_30 T_packedFrom_31 T_taken_32 hB_36 H64 locs64 ls64 hw64 hl64
      rw [lp_X9_joinEntries_9] at hB_36
      refine lv_iload hx hb dX9_joinEntries_9 (lv_at hl64 5 rfl) ?_
      refine lv_iload_n hx hb dX9_joinEntries_11 rfl (lv_at hl64 2 rfl) ?_
      refine lv_icmp_ge (tgt := 68) hx hb dX9_joinEntries_12 (by decide) (fun c_65 => ?_) (fun c_65 => ?_)
      · replace hB_36 := it_t c_65 hB_36
        cases hB_36
        exact kx_34 _ _ _ hw64 (lv_sub hl64 [0, 1, 2, 3] rfl)
      · replace hB_36 := it_f c_65 hB_36
        refine lv_aload_n hx hb dX9_joinEntries_15 rfl (lv_at hl64 0 rfl) ?_
        refine va_get (D := G) (ci := 9) (v := .ref aI) (C := RX9) (T := TX9) (N := 11) hx hb htc iX9 hown hK hw64.1 0 rfl rfl 4 (by decide) (htc _ mw_307) (fun _ h9 => h9) rfl dX9_joinEntries_16 ?_
        refine lv_iload hx hb dX9_joinEntries_19 (lv_at hl64 5 rfl) ?_
        refine lv_iconst (v := (3 : Int32)) hx hb dX9_joinEntries_21 (by decide) ?_
        replace hB_36 := ob1_some hB_36
        obtain ⟨r_67, hE_66, hB_36⟩ := hB_36
        refine ctV (a := aI) (As := [.int v6_6, .int (3 : Int32)]) (rest := []) (st1 := [.int r_67]) (wc := [oX2 aD aDc D_writesDone D_writesLeft D_down, rI aDc cI 4096 D_cells, oX3 aI aD]) (w1 := [oX2 aD aDc D_writesDone D_writesLeft D_down, rI aDc cI 4096 D_cells, oX3 aI aD]) (wr := [oX9 aP P_seriesCount P_most P_ratio aD aI aG aU aT aQ aC P_recoveries, oX8 aU aD U_place_7 U_bitsRead_8 U_started_9 U_time_10 U_value_11 U_rise_12, oX7 aT aD aI aK aO aTi aTp aTt T_chunks_13 T_chunksMade_14 T_openFrom_15 T_lacksSpace_16, oX5 aK aKc K_used_17 K_bitsFree_18 K_full_19 K_time_20 K_value_21 K_rise_22, rI aKc cI 1661 K_cells_23, oX6 aO O_first_24 O_last_25 O_points_26 O_least_27 O_greatest_28 O_sum_29, rI aTi cI 961 T_image_30, rI aTp cI 96 T_packedFrom_31, rI aTt cZ 1661 T_taken_32]) (wb := [oX9 aP P_seriesCount P_most P_ratio aD aI aG aU aT aQ aC P_recoveries, oX2 aD aDc D_writesDone D_writesLeft D_down, rI aDc cI 4096 D_cells, oX3 aI aD, oX8 aU aD U_place_7 U_bitsRead_8 U_started_9 U_time_10 U_value_11 U_rise_12, oX7 aT aD aI aK aO aTi aTp aTt T_chunks_13 T_chunksMade_14 T_openFrom_15 T_lacksSpace_16, oX5 aK aKc K_used_17 K_bitsFree_18 K_full_19 K_time_20 K_value_21 K_rise_22, rI aKc cI 1661 K_cells_23, oX6 aO O_first_24 O_last_25 O_points_26 O_least_27 O_greatest_28 O_sum_29, rI aTi cI 961 T_image_30, rI aTp cI 96 T_packedFrom_31, rI aTt cZ 1661 T_taken_32]) (v := (some (.int r_67))) hx hb hml hown htc hN (c_X3_at l G cI cZ cJ aD aDc aI D_writesDone D_writesLeft D_down D_cells v6_6 (3 : Int32) hE_66) mw_395 mw_391 mw_392 mw_4 mw_393 hd_X3_at ⟨rfl, rfl⟩ ⟨Nat.le_of_ble_eq_true rfl, Nat.le_of_ble_eq_true rfl⟩ hK hw64 hA [1, 2, 3] [0, 4, 5, 6, 7, 8, 9, 10, 11] [0, 9, 10, 11, 1, 2, 3, 4, 5, 6, 7, 8] rfl rfl rfl rfl rfl (by decide) rfl rfl rfl 2 rfl rfl rfl rfl hl64.1 rfl rfl (Nat.le_of_ble_eq_true rfl) dX9_joinEntries_22 ⟨Nat.zero_le _, Nat.zero_le _⟩ (fun H68 locs68 hw68 => ?_)
        clear hw64 H64 locs64
        refine lv_istore (lv' := [(7, .int r_67), (0, .ref aP), (1, .int p0), (3, .int p2), (4, .int v4_4), (5, .int v5_5), (6, .int v6_6)]) hx hb dX9_joinEntries_25 hl64 (by decide) rfl (fun ls69 hl69 => ?_)
        clear hl64 ls64
        refine lv_iload hx hb dX9_joinEntries_27 (lv_at hl69 5 rfl) ?_
        refine lv_iload hx hb dX9_joinEntries_29 (lv_at hl69 0 rfl) ?_
        refine lv_iadd hx hb dX9_joinEntries_31 ?_
        refine lv_aload_n hx hb dX9_joinEntries_32 rfl (lv_at hl69 1 rfl) ?_
        refine va_get (D := G) (ci := 9) (v := .int P_most) (C := RX9) (T := TX9) (N := 11) hx hb htc iX9 hown hK hw68.1 0 rfl rfl 1 (by decide) (htc _ mw_304) (fun _ h9 => h9) rfl dX9_joinEntries_33 ?_
        replace hB_36 := ob28_some hB_36
        obtain ⟨v4_70, v5_71, U_place_72, U_bitsRead_73, U_started_74, U_time_75, U_value_76, U_rise_77, T_chunks_78, T_chunksMade_79, T_openFrom_80, T_lacksSpace_81, K_used_82, K_bitsFree_83, K_full_84, K_time_85, K_value_86, K_rise_87, K_cells_88, O_first_89, O_last_90, O_points_91, O_least_92, O_greatest_93, O_sum_94, T_image_95, T_packedFrom_96, T_taken_97, hJ_98, hB_36⟩ := hB_36
        have kj_99 : ∀ (H : Heap) (locs : List Loc) (ls : Array Slot), wS G A s H locs [oX9 aP P_seriesCount P_most P_ratio aD aI aG aU aT aQ aC P_recoveries, oX2 aD aDc D_writesDone D_writesLeft D_down, rI aDc cI 4096 D_cells, oX3 aI aD, oX8 aU aD U_place_72 U_bitsRead_73 U_started_74 U_time_75 U_value_76 U_rise_77, oX7 aT aD aI aK aO aTi aTp aTt T_chunks_78 T_chunksMade_79 T_openFrom_80 T_lacksSpace_81, oX5 aK aKc K_used_82 K_bitsFree_83 K_full_84 K_time_85 K_value_86 K_rise_87, rI aKc cI 1661 K_cells_88, oX6 aO O_first_89 O_last_90 O_points_91 O_least_92 O_greatest_93 O_sum_94, rI aTi cI 961 T_image_95, rI aTp cI 96 T_packedFrom_96, rI aTt cZ 1661 T_taken_97] → lv_has ls 8 [(0, .ref aP), (1, .int p0), (3, .int p2), (4, .int v4_70), (5, .int v5_71), (6, .int v6_6), (7, .int r_67)] → W p l e rm_X9_joinEntries s m args below meth c H locs 0 0 QQ (F0 m 55 ls []) := by
          clear hw68 H68 locs68 hl69 ls69 hJ_98
          intro H131 locs131 ls131 hw131 hl131
          refine lv_iload hx hb dX9_joinEntries_55 (lv_at hl131 4 rfl) ?_
          refine lv_iload hx hb dX9_joinEntries_57 (lv_at hl131 6 rfl) ?_
          refine lv_iadd hx hb dX9_joinEntries_59 ?_
          refine lv_istore (lv' := [(5, .int (v5_71 + r_67)), (0, .ref aP), (1, .int p0), (3, .int p2), (4, .int v4_70), (6, .int v6_6), (7, .int r_67)]) hx hb dX9_joinEntries_60 hl131 (by decide) rfl (fun ls132 hl132 => ?_)
          clear hl131 ls131
          refine lv_iinc (v := (v6_6 + (1 : Int32))) (lv' := [(6, .int (v6_6 + (1 : Int32))), (5, .int (v5_71 + r_67)), (0, .ref aP), (1, .int p0), (3, .int p2), (4, .int v4_70), (7, .int r_67)]) hx hb dX9_joinEntries_62 hl132 (k := 5) rfl rfl (by decide) rfl (fun ls133 hl133 => ?_)
          clear hl132 ls132
          refine lv_goto (tgt := 9) hx hb dX9_joinEntries_65 (by decide) ?_
          exact ih v4_70 (v5_71 + r_67) (v6_6 + (1 : Int32)) U_place_72 U_bitsRead_73 U_started_74 U_time_75 U_value_76 U_rise_77 T_chunks_78 T_chunksMade_79 T_openFrom_80 T_lacksSpace_81 K_used_82 K_bitsFree_83 K_full_84 K_time_85 K_value_86 K_rise_87 K_cells_88 O_first_89 O_last_90 O_points_91 O_least_92 O_greatest_93 O_sum_94 T_image_95 T_packedFrom_96 T_taken_97 hB_36 _ _ _ hw131 (lv_sub hl133 [2, 3, 4, 5, 1, 0] rfl)
        clear hB_36
        refine lv_icmp_le (tgt := 55) hx hb dX9_joinEntries_36 (by decide) (fun c_100 => ?_) (fun c_100 => ?_)
        · replace hJ_98 := it_t c_100 hJ_98
          cases hJ_98
          exact kj_99 _ _ _ hw68 (lv_sub hl69 [1, 2, 3, 4, 5, 6, 0] rfl)
        · replace hJ_98 := it_f c_100 hJ_98
          refine lv_aload_n hx hb dX9_joinEntries_39 rfl (lv_at hl69 1 rfl) ?_
          refine lv_iload_n hx hb dX9_joinEntries_40 rfl (lv_at hl69 2 rfl) ?_
          refine lv_iload hx hb dX9_joinEntries_41 (lv_at hl69 4 rfl) ?_
          refine lv_iload hx hb dX9_joinEntries_43 (lv_at hl69 6 rfl) ?_
          replace hJ_98 := ob26_some hJ_98
          obtain ⟨U_place_102, U_bitsRead_103, U_started_104, U_time_105, U_value_106, U_rise_107, T_chunks_108, T_chunksMade_109, T_openFrom_110, T_lacksSpace_111, K_used_112, K_bitsFree_113, K_full_114, K_time_115, K_value_116, K_rise_117, K_cells_118, O_first_119, O_last_120, O_points_121, O_least_122, O_greatest_123, O_sum_124, T_image_125, T_packedFrom_126, T_taken_127, hE_101, hJ_98⟩ := hJ_98
          refine ctV (a := aP) (As := [.int p0, .int v4_4, .int v6_6]) (rest := []) (st1 := []) (wc := [oX9 aP P_seriesCount P_most P_ratio aD aI aG aU aT aQ aC P_recoveries, oX2 aD aDc D_writesDone D_writesLeft D_down, rI aDc cI 4096 D_cells, oX3 aI aD, oX8 aU aD U_place_7 U_bitsRead_8 U_started_9 U_time_10 U_value_11 U_rise_12, oX7 aT aD aI aK aO aTi aTp aTt T_chunks_13 T_chunksMade_14 T_openFrom_15 T_lacksSpace_16, oX5 aK aKc K_used_17 K_bitsFree_18 K_full_19 K_time_20 K_value_21 K_rise_22, rI aKc cI 1661 K_cells_23, oX6 aO O_first_24 O_last_25 O_points_26 O_least_27 O_greatest_28 O_sum_29, rI aTi cI 961 T_image_30, rI aTp cI 96 T_packedFrom_31, rI aTt cZ 1661 T_taken_32]) (w1 := [oX9 aP P_seriesCount P_most P_ratio aD aI aG aU aT aQ aC P_recoveries, oX2 aD aDc D_writesDone D_writesLeft D_down, rI aDc cI 4096 D_cells, oX3 aI aD, oX8 aU aD U_place_102 U_bitsRead_103 U_started_104 U_time_105 U_value_106 U_rise_107, oX7 aT aD aI aK aO aTi aTp aTt T_chunks_108 T_chunksMade_109 T_openFrom_110 T_lacksSpace_111, oX5 aK aKc K_used_112 K_bitsFree_113 K_full_114 K_time_115 K_value_116 K_rise_117, rI aKc cI 1661 K_cells_118, oX6 aO O_first_119 O_last_120 O_points_121 O_least_122 O_greatest_123 O_sum_124, rI aTi cI 961 T_image_125, rI aTp cI 96 T_packedFrom_126, rI aTt cZ 1661 T_taken_127]) (wr := []) (wb := [oX9 aP P_seriesCount P_most P_ratio aD aI aG aU aT aQ aC P_recoveries, oX2 aD aDc D_writesDone D_writesLeft D_down, rI aDc cI 4096 D_cells, oX3 aI aD, oX8 aU aD U_place_102 U_bitsRead_103 U_started_104 U_time_105 U_value_106 U_rise_107, oX7 aT aD aI aK aO aTi aTp aTt T_chunks_108 T_chunksMade_109 T_openFrom_110 T_lacksSpace_111, oX5 aK aKc K_used_112 K_bitsFree_113 K_full_114 K_time_115 K_value_116 K_rise_117, rI aKc cI 1661 K_cells_118, oX6 aO O_first_119 O_last_120 O_points_121 O_least_122 O_greatest_123 O_sum_124, rI aTi cI 961 T_image_125, rI aTp cI 96 T_packedFrom_126, rI aTt cZ 1661 T_taken_127]) (v := none) hx hb hml hown htc hN (c_X9_makeOneOf l G cI cZ cJ aP aD aI aG aU aT aQ aC aDc aK aO aTi aTp aTt aKc P_seriesCount P_most P_ratio P_recoveries D_writesDone D_writesLeft D_down D_cells U_place_7 U_bitsRead_8 U_started_9 U_time_10 U_value_11 U_rise_12 T_chunks_13 T_chunksMade_14 T_openFrom_15 T_lacksSpace_16 K_used_17 K_bitsFree_18 K_full_19 K_time_20 K_value_21 K_rise_22 K_cells_23 O_first_24 O_last_25 O_points_26 O_least_27 O_greatest_28 O_sum_29 T_image_30 T_packedFrom_31 T_taken_32 p0 v4_4 v6_6 hE_101) mw_571 mw_573 mp_17 mw_1 mw_574 hd_X9_makeOneOf ⟨rfl, rfl⟩ ⟨Nat.le_of_ble_eq_true rfl, Nat.le_of_ble_eq_true rfl⟩ hK hw68 hA [0, 1, 2, 3, 4, 5, 6, 7, 8, 9, 10, 11] [] [0, 1, 2, 3, 4, 5, 6, 7, 8, 9, 10, 11] rfl rfl rfl rfl rfl (by decide) rfl rfl rfl 0 rfl rfl rfl rfl hl69.1 rfl rfl (Nat.le_of_ble_eq_true rfl) dX9_joinEntries_45 ⟨Nat.zero_le _, Nat.zero_le _⟩ (fun H128 locs128 hw128 => ?_)
          clear hw68 H68 locs68
          refine lv_iload hx hb dX9_joinEntries_48 (lv_at hl69 6 rfl) ?_
          refine lv_istore (lv' := [(4, .int v6_6), (7, .int r_67), (0, .ref aP), (1, .int p0), (3, .int p2), (5, .int v5_5), (6, .int v6_6)]) hx hb dX9_joinEntries_50 hl69 (by decide) rfl (fun ls129 hl129 => ?_)
          clear hl69 ls69
          refine lv_iconst (v := (0 : Int32)) hx hb dX9_joinEntries_52 (by decide) ?_
          refine lv_istore (lv' := [(5, .int (0 : Int32)), (4, .int v6_6), (7, .int r_67), (0, .ref aP), (1, .int p0), (3, .int p2), (6, .int v6_6)]) hx hb dX9_joinEntries_53 hl129 (by decide) rfl (fun ls130 hl130 => ?_)
          clear hl129 ls129
          cases hJ_98
          exact kj_99 _ _ _ hw128 (lv_sub hl130 [3, 4, 5, 1, 0, 6, 2] rfl)
  exact lp_35 NN p1 (0 : Int32) p1 U_place U_bitsRead U_started U_time U_value U_rise T_chunks T_chunksMade T_openFrom T_lacksSpace K_used K_bitsFree K_full K_time K_value K_rise K_cells O_first O_last O_points O_least O_greatest O_sum T_image T_packedFrom T_taken hL_33 _ _ _ hw0 (lv_sub hl3 [3, 4, 6, 2, 1, 0] rfl)
abbrev rm_X9_compact : Room := { frames := 7, cells := 0, slots := 0, locals := 167 }
theorem hd_X9_compact : yX9_compact.cls = RX9 ∧ yX9_compact.cls ≠ "java/lang/invoke/MethodHandle" ∧ yX9_compact.cls ≠ "java/lang/invoke/VarHandle" ∧ (parseMethodDescriptor yX9_compact.desc).map (fun d => d.parameters.length) = some 1 := by decide +kernel
set_option maxHeartbeats 4000000 in
set_option maxRecDepth 100000 in
theorem c_X9_compact (l : Launch) (G : va_G) (cI cZ cJ : ClassId) (aP aD aI aG aU aT aQ aC aDc aK aO aTi aTp aTt aKc aV : Nat) (P_seriesCount : Int32) (P_most : Int32) (P_ratio : Int32) (P_recoveries : Int32) (D_writesDone : Int32) (D_writesLeft : Int32) (D_down : Int32) (D_cells : Nat → Int32) (U_place : Int32) (U_bitsRead : Int32) (U_started : Int32) (U_time : Int32) (U_value : Int32) (U_rise : Int64) (T_chunks : Int32) (T_chunksMade : Int32) (T_openFrom : Int32) (T_lacksSpace : Int32) (K_used : Int32) (K_bitsFree : Int32) (K_full : Int32) (K_time : Int32) (K_value : Int32) (K_rise : Int64) (K_cells : Nat → Int32) (O_first : Int32) (O_last : Int32) (O_points : Int32) (O_least : Int32) (O_greatest : Int32) (O_sum : Int64) (T_image : Nat → Int32) (T_packedFrom : Nat → Int32) (T_taken : Nat → Int32) (C_isOpen : Int32) (C_series : Int32) (C_from : Int32) (C_to : Int32) (C_entry : Int32) (C_entriesEnd : Int32) (C_pointsLeft : Int32) (C_block : Int32) (C_time : Int32) (C_value : Int32) (p0 : Int32) {r : Int32} {o_D_writesDone : Int32} {o_D_writesLeft : Int32} {o_D_down : Int32} {o_D_cells : Nat → Int32} {o_U_place : Int32} {o_U_bitsRead : Int32} {o_U_started : Int32} {o_U_time : Int32} {o_U_value : Int32} {o_U_rise : Int64} {o_T_chunks : Int32} {o_T_chunksMade : Int32} {o_T_openFrom : Int32} {o_T_lacksSpace : Int32} {o_K_used : Int32} {o_K_bitsFree : Int32} {o_K_full : Int32} {o_K_time : Int32} {o_K_value : Int32} {o_K_rise : Int64} {o_K_cells : Nat → Int32} {o_O_first : Int32} {o_O_last : Int32} {o_O_points : Int32} {o_O_least : Int32} {o_O_greatest : Int32} {o_O_sum : Int64} {o_T_image : Nat → Int32} {o_T_packedFrom : Nat → Int32} {o_T_taken : Nat → Int32} {o_C_isOpen : Int32} {o_C_time : Int32} {o_C_value : Int32} (hfin : m_X9_compact P_seriesCount P_most D_writesDone D_writesLeft D_down D_cells U_place U_bitsRead U_started U_time U_value U_rise T_chunks T_chunksMade T_openFrom T_lacksSpace K_used K_bitsFree K_full K_time K_value K_rise K_cells O_first O_last O_points O_least O_greatest O_sum T_image T_packedFrom T_taken C_isOpen C_time C_value p0 = some (r, o_D_writesDone, o_D_writesLeft, o_D_down, o_D_cells, o_U_place, o_U_bitsRead, o_U_started, o_U_time, o_U_value, o_U_rise, o_T_chunks, o_T_chunksMade, o_T_openFrom, o_T_lacksSpace, o_K_used, o_K_bitsFree, o_K_full, o_K_time, o_K_value, o_K_rise, o_K_cells, o_O_first, o_O_last, o_O_points, o_O_least, o_O_greatest, o_O_sum, o_T_image, o_T_packedFrom, o_T_taken, o_C_isOpen, o_C_time, o_C_value)) : CT l yX9_compact cX9_compact 4 (some .int) rm_X9_compact G (tyC cI cZ cJ) [.ref aP, .int p0] [oX9 aP P_seriesCount P_most P_ratio aD aI aG aU aT aQ aC P_recoveries, oX2 aD aDc D_writesDone D_writesLeft D_down, rI aDc cI 4096 D_cells, oX3 aI aD, oX8 aU aD U_place U_bitsRead U_started U_time U_value U_rise, oX7 aT aD aI aK aO aTi aTp aTt T_chunks T_chunksMade T_openFrom T_lacksSpace, oX5 aK aKc K_used K_bitsFree K_full K_time K_value K_rise, rI aKc cI 1661 K_cells, oX6 aO O_first O_last O_points O_least O_greatest O_sum, rI aTi cI 961 T_image, rI aTp cI 96 T_packedFrom, rI aTt cZ 1661 T_taken, oX1 aC aI aG aV C_isOpen C_series C_from C_to C_entry C_entriesEnd C_pointsLeft C_block C_time C_value] (some (.int r)) [oX9 aP P_seriesCount P_most P_ratio aD aI aG aU aT aQ aC P_recoveries, oX2 aD aDc o_D_writesDone o_D_writesLeft o_D_down, rI aDc cI 4096 o_D_cells, oX3 aI aD, oX8 aU aD o_U_place o_U_bitsRead o_U_started o_U_time o_U_value o_U_rise, oX7 aT aD aI aK aO aTi aTp aTt o_T_chunks o_T_chunksMade o_T_openFrom o_T_lacksSpace, oX5 aK aKc o_K_used o_K_bitsFree o_K_full o_K_time o_K_value o_K_rise, rI aKc cI 1661 o_K_cells, oX6 aO o_O_first o_O_last o_O_points o_O_least o_O_greatest o_O_sum, rI aTi cI 961 o_T_image, rI aTp cI 96 o_T_packedFrom, rI aTt cZ 1661 o_T_taken, oX1 aC aI aG aV o_C_isOpen C_series C_from C_to C_entry C_entriesEnd C_pointsLeft C_block o_C_time o_C_value] := by
  refine CT.ofW (lvl := [(0, .ref aP), (1, .int p0)]) (by decide) (Nat.le_of_ble_eq_true rfl) rfl ?_
  intro p e s m args below meth c A ls0 QQ hQQ hx hb hml hr hlocks htc hN hown hK hA hw0 hl0
  rw [m_X9_compact] at hfin
  refine lv_aload_n hx hb dX9_compact_0 rfl (lv_at hl0 0 rfl) ?_
  refine va_get (D := G) (ci := 9) (v := .ref aC) (C := RX9) (T := TX9) (N := 11) hx hb htc iX9 hown hK hw0.1 0 rfl rfl 9 (by decide) (htc _ mw_312) (fun _ h9 => h9) rfl dX9_compact_1 ?_
  replace hfin := ob3_some hfin
  obtain ⟨C_isOpen_2, C_time_3, C_value_4, hE_1, hfin⟩ := hfin
  refine ctV (a := aC) (As := []) (rest := []) (st1 := []) (wc := [oX1 aC aI aG aV C_isOpen C_series C_from C_to C_entry C_entriesEnd C_pointsLeft C_block C_time C_value]) (w1 := [oX1 aC aI aG aV C_isOpen_2 C_series C_from C_to C_entry C_entriesEnd C_pointsLeft C_block C_time_3 C_value_4]) (wr := [oX9 aP P_seriesCount P_most P_ratio aD aI aG aU aT aQ aC P_recoveries, oX2 aD aDc D_writesDone D_writesLeft D_down, rI aDc cI 4096 D_cells, oX3 aI aD, oX8 aU aD U_place U_bitsRead U_started U_time U_value U_rise, oX7 aT aD aI aK aO aTi aTp aTt T_chunks T_chunksMade T_openFrom T_lacksSpace, oX5 aK aKc K_used K_bitsFree K_full K_time K_value K_rise, rI aKc cI 1661 K_cells, oX6 aO O_first O_last O_points O_least O_greatest O_sum, rI aTi cI 961 T_image, rI aTp cI 96 T_packedFrom, rI aTt cZ 1661 T_taken]) (wb := [oX9 aP P_seriesCount P_most P_ratio aD aI aG aU aT aQ aC P_recoveries, oX2 aD aDc D_writesDone D_writesLeft D_down, rI aDc cI 4096 D_cells, oX3 aI aD, oX8 aU aD U_place U_bitsRead U_started U_time U_value U_rise, oX7 aT aD aI aK aO aTi aTp aTt T_chunks T_chunksMade T_openFrom T_lacksSpace, oX5 aK aKc K_used K_bitsFree K_full K_time K_value K_rise, rI aKc cI 1661 K_cells, oX6 aO O_first O_last O_points O_least O_greatest O_sum, rI aTi cI 961 T_image, rI aTp cI 96 T_packedFrom, rI aTt cZ 1661 T_taken, oX1 aC aI aG aV C_isOpen_2 C_series C_from C_to C_entry C_entriesEnd C_pointsLeft C_block C_time_3 C_value_4]) (v := none) hx hb hml hown htc hN (c_X1_close l G cI cZ cJ aC aI aG aV C_isOpen C_series C_from C_to C_entry C_entriesEnd C_pointsLeft C_block C_time C_value  hE_1) mw_341 mw_342 mw_343 mw_11 mw_344 hd_X1_close ⟨rfl, rfl⟩ ⟨Nat.le_of_ble_eq_true rfl, Nat.le_of_ble_eq_true rfl⟩ hK hw0 hA [12] [0, 1, 2, 3, 4, 5, 6, 7, 8, 9, 10, 11] [0, 1, 2, 3, 4, 5, 6, 7, 8, 9, 10, 11, 12] rfl rfl rfl rfl rfl (by decide) rfl rfl rfl 0 rfl rfl rfl rfl hl0.1 rfl rfl (Nat.le_of_ble_eq_true rfl) dX9_compact_4 ⟨Nat.zero_le _, Nat.zero_le _⟩ (fun H5 locs5 hw5 => ?_)
  clear hw0
  refine lv_aload_n hx hb dX9_compact_7 rfl (lv_at hl0 0 rfl) ?_
  refine va_get (D := G) (ci := 9) (v := .ref aD) (C := RX9) (T := TX9) (N := 11) hx hb htc iX9 hown hK hw5.1 0 rfl rfl 3 (by decide) (htc _ mw_306) (fun _ h9 => h9) rfl dX9_compact_8 ?_
  replace hfin := ob1_some hfin
  obtain ⟨r_7, hE_6, hfin⟩ := hfin
  refine ctV (a := aD) (As := []) (rest := []) (st1 := [.int r_7]) (wc := [oX2 aD aDc D_writesDone D_writesLeft D_down]) (w1 := [oX2 aD aDc D_writesDone D_writesLeft D_down]) (wr := [oX9 aP P_seriesCount P_most P_ratio aD aI aG aU aT aQ aC P_recoveries, rI aDc cI 4096 D_cells, oX3 aI aD, oX8 aU aD U_place U_bitsRead U_started U_time U_value U_rise, oX7 aT aD aI aK aO aTi aTp aTt T_chunks T_chunksMade T_openFrom T_lacksSpace, oX5 aK aKc K_used K_bitsFree K_full K_time K_value K_rise, rI aKc cI 1661 K_cells, oX6 aO O_first O_last O_points O_least O_greatest O_sum, rI aTi cI 961 T_image, rI aTp cI 96 T_packedFrom, rI aTt cZ 1661 T_taken, oX1 aC aI aG aV C_isOpen_2 C_series C_from C_to C_entry C_entriesEnd C_pointsLeft C_block C_time_3 C_value_4]) (wb := [oX9 aP P_seriesCount P_most P_ratio aD aI aG aU aT aQ aC P_recoveries, oX2 aD aDc D_writesDone D_writesLeft D_down, rI aDc cI 4096 D_cells, oX3 aI aD, oX8 aU aD U_place U_bitsRead U_started U_time U_value U_rise, oX7 aT aD aI aK aO aTi aTp aTt T_chunks T_chunksMade T_openFrom T_lacksSpace, oX5 aK aKc K_used K_bitsFree K_full K_time K_value K_rise, rI aKc cI 1661 K_cells, oX6 aO O_first O_last O_points O_least O_greatest O_sum, rI aTi cI 961 T_image, rI aTp cI 96 T_packedFrom, rI aTt cZ 1661 T_taken, oX1 aC aI aG aV C_isOpen_2 C_series C_from C_to C_entry C_entriesEnd C_pointsLeft C_block C_time_3 C_value_4]) (v := (some (.int r_7))) hx hb hml hown htc hN (c_X2_isDown l G cI cZ cJ aD aDc D_writesDone D_writesLeft D_down  hE_6) mw_345 mw_346 mw_347 mw_3 mw_348 hd_X2_isDown ⟨rfl, rfl⟩ ⟨Nat.le_of_ble_eq_true rfl, Nat.le_of_ble_eq_true rfl⟩ hK hw5 hA [1] [0, 2, 3, 4, 5, 6, 7, 8, 9, 10, 11, 12] [0, 12, 1, 2, 3, 4, 5, 6, 7, 8, 9, 10, 11] rfl rfl rfl rfl rfl (by decide) rfl rfl rfl 0 rfl rfl rfl rfl hl0.1 rfl rfl (Nat.le_of_ble_eq_true rfl) dX9_compact_11 ⟨Nat.zero_le _, Nat.zero_le _⟩ (fun H8 locs8 hw8 => ?_)
  clear hw5 H5 locs5
  refine lv_if_eq (tgt := 20) hx hb dX9_compact_14 (by decide) (fun c_9 => ?_) (fun c_9 => ?_)
  · replace hfin := it_t c_9 hfin
    refine lv_aload_n hx hb dX9_compact_20 rfl (lv_at hl0 0 rfl) ?_
    refine lv_iload_n hx hb dX9_compact_21 rfl (lv_at hl0 1 rfl) ?_
    replace hfin := ob1_some hfin
    obtain ⟨r_11, hE_10, hfin⟩ := hfin
    refine ctV (a := aP) (As := [.int p0]) (rest := []) (st1 := [.int r_11]) (wc := [oX9 aP P_seriesCount P_most P_ratio aD aI aG aU aT aQ aC P_recoveries]) (w1 := [oX9 aP P_seriesCount P_most P_ratio aD aI aG aU aT aQ aC P_recoveries]) (wr := [oX2 aD aDc D_writesDone D_writesLeft D_down, rI aDc cI 4096 D_cells, oX3 aI aD, oX8 aU aD U_place U_bitsRead U_started U_time U_value U_rise, oX7 aT aD aI aK aO aTi aTp aTt T_chunks T_chunksMade T_openFrom T_lacksSpace, oX5 aK aKc K_used K_bitsFree K_full K_time K_value K_rise, rI aKc cI 1661 K_cells, oX6 aO O_first O_last O_points O_least O_greatest O_sum, rI aTi cI 961 T_image, rI aTp cI 96 T_packedFrom, rI aTt cZ 1661 T_taken, oX1 aC aI aG aV C_isOpen_2 C_series C_from C_to C_entry C_entriesEnd C_pointsLeft C_block C_time_3 C_value_4]) (wb := [oX9 aP P_seriesCount P_most P_ratio aD aI aG aU aT aQ aC P_recoveries, oX2 aD aDc D_writesDone D_writesLeft D_down, rI aDc cI 4096 D_cells, oX3 aI aD, oX8 aU aD U_place U_bitsRead U_started U_time U_value U_rise, oX7 aT aD aI aK aO aTi aTp aTt T_chunks T_chunksMade T_openFrom T_lacksSpace, oX5 aK aKc K_used K_bitsFree K_full K_time K_value K_rise, rI aKc cI 1661 K_cells, oX6 aO O_first O_last O_points O_least O_greatest O_sum, rI aTi cI 961 T_image, rI aTp cI 96 T_packedFrom, rI aTt cZ 1661 T_taken, oX1 aC aI aG aV C_isOpen_2 C_series C_from C_to C_entry C_entriesEnd C_pointsLeft C_block C_time_3 C_value_4]) (v := (some (.int r_11))) hx hb hml hown htc hN (c_X9_isSeries l G cI cZ cJ aP aD aI aG aU aT aQ aC P_seriesCount P_most P_ratio P_recoveries p0 hE_10) mw_349 mw_351 mp_0 mw_1 mw_352 hd_X9_isSeries ⟨rfl, rfl⟩ ⟨Nat.le_of_ble_eq_true rfl, Nat.le_of_ble_eq_true rfl⟩ hK hw8 hA [0] [1, 2, 3, 4, 5, 6, 7, 8, 9, 10, 11, 12] [12, 0, 1, 2, 3, 4, 5, 6, 7, 8, 9, 10, 11] rfl rfl rfl rfl rfl (by decide) rfl rfl rfl 0 rfl rfl rfl rfl hl0.1 rfl rfl (Nat.le_of_ble_eq_true rfl) dX9_compact_22 ⟨Nat.zero_le _, Nat.zero_le _⟩ (fun H12 locs12 hw12 => ?_)
    clear hw8 H8 locs8
    refine lv_if_ne (tgt := 31) hx hb dX9_compact_25 (by decide) (fun c_13 => ?_) (fun c_13 => ?_)
    · replace hfin := it_f c_13 hfin
      refine lv_aload_n hx hb dX9_compact_31 rfl (lv_at hl0 0 rfl) ?_
      refine va_get (D := G) (ci := 9) (v := .ref aI) (C := RX9) (T := TX9) (N := 11) hx hb htc iX9 hown hK hw12.1 0 rfl rfl 4 (by decide) (htc _ mw_307) (fun _ h9 => h9) rfl dX9_compact_32 ?_
      refine lv_iload_n hx hb dX9_compact_35 rfl (lv_at hl0 1 rfl) ?_
      replace hfin := ob1_some hfin
      obtain ⟨r_15, hE_14, hfin⟩ := hfin
      refine ctV (a := aI) (As := [.int p0]) (rest := []) (st1 := [.int r_15]) (wc := [oX2 aD aDc D_writesDone D_writesLeft D_down, rI aDc cI 4096 D_cells, oX3 aI aD]) (w1 := [oX2 aD aDc D_writesDone D_writesLeft D_down, rI aDc cI 4096 D_cells, oX3 aI aD]) (wr := [oX9 aP P_seriesCount P_most P_ratio aD aI aG aU aT aQ aC P_recoveries, oX8 aU aD U_place U_bitsRead U_started U_time U_value U_rise, oX7 aT aD aI aK aO aTi aTp aTt T_chunks T_chunksMade T_openFrom T_lacksSpace, oX5 aK aKc K_used K_bitsFree K_full K_time K_value K_rise, rI aKc cI 1661 K_cells, oX6 aO O_first O_last O_points O_least O_greatest O_sum, rI aTi cI 961 T_image, rI aTp cI 96 T_packedFrom, rI aTt cZ 1661 T_taken, oX1 aC aI aG aV C_isOpen_2 C_series C_from C_to C_entry C_entriesEnd C_pointsLeft C_block C_time_3 C_value_4]) (wb := [oX9 aP P_seriesCount P_most P_ratio aD aI aG aU aT aQ aC P_recoveries, oX2 aD aDc D_writesDone D_writesLeft D_down, rI aDc cI 4096 D_cells, oX3 aI aD, oX8 aU aD U_place U_bitsRead U_started U_time U_value U_rise, oX7 aT aD aI aK aO aTi aTp aTt T_chunks T_chunksMade T_openFrom T_lacksSpace, oX5 aK aKc K_used K_bitsFree K_full K_time K_value K_rise, rI aKc cI 1661 K_cells, oX6 aO O_first O_last O_points O_least O_greatest O_sum, rI aTi cI 961 T_image, rI aTp cI 96 T_packedFrom, rI aTt cZ 1661 T_taken, oX1 aC aI aG aV C_isOpen_2 C_series C_from C_to C_entry C_entriesEnd C_pointsLeft C_block C_time_3 C_value_4]) (v := (some (.int r_15))) hx hb hml hown htc hN (c_X3_firstOf l G cI cZ cJ aD aDc aI D_writesDone D_writesLeft D_down D_cells p0 hE_14) mw_394 mw_375 mw_376 mw_4 mw_377 hd_X3_firstOf ⟨rfl, rfl⟩ ⟨Nat.le_of_ble_eq_true rfl, Nat.le_of_ble_eq_true rfl⟩ hK hw12 hA [1, 2, 3] [0, 4, 5, 6, 7, 8, 9, 10, 11, 12] [0, 10, 11, 12, 1, 2, 3, 4, 5, 6, 7, 8, 9] rfl rfl rfl rfl rfl (by decide) rfl rfl rfl 2 rfl rfl rfl rfl hl0.1 rfl rfl (Nat.le_of_ble_eq_true rfl) dX9_compact_36 ⟨Nat.zero_le _, Nat.zero_le _⟩ (fun H16 locs16 hw16 => ?_)
      clear hw12 H12 locs12
      refine lv_istore_n (lv' := [(2, .int r_15), (0, .ref aP), (1, .int p0)]) hx hb dX9_compact_39 rfl hl0 (by decide) rfl (fun ls17 hl17 => ?_)
      clear hl0 ls0
      refine lv_aload_n hx hb dX9_compact_40 rfl (lv_at hl17 1 rfl) ?_
      refine va_get (D := G) (ci := 9) (v := .ref aI) (C := RX9) (T := TX9) (N := 11) hx hb htc iX9 hown hK hw16.1 0 rfl rfl 4 (by decide) (htc _ mw_307) (fun _ h9 => h9) rfl dX9_compact_41 ?_
      refine lv_iload_n hx hb dX9_compact_44 rfl (lv_at hl17 2 rfl) ?_
      replace hfin := ob1_some hfin
      obtain ⟨r_19, hE_18, hfin⟩ := hfin
      refine ctV (a := aI) (As := [.int p0]) (rest := []) (st1 := [.int r_19]) (wc := [oX2 aD aDc D_writesDone D_writesLeft D_down, rI aDc cI 4096 D_cells, oX3 aI aD]) (w1 := [oX2 aD aDc D_writesDone D_writesLeft D_down, rI aDc cI 4096 D_cells, oX3 aI aD]) (wr := [oX9 aP P_seriesCount P_most P_ratio aD aI aG aU aT aQ aC P_recoveries, oX8 aU aD U_place U_bitsRead U_started U_time U_value U_rise, oX7 aT aD aI aK aO aTi aTp aTt T_chunks T_chunksMade T_openFrom T_lacksSpace, oX5 aK aKc K_used K_bitsFree K_full K_time K_value K_rise, rI aKc cI 1661 K_cells, oX6 aO O_first O_last O_points O_least O_greatest O_sum, rI aTi cI 961 T_image, rI aTp cI 96 T_packedFrom, rI aTt cZ 1661 T_taken, oX1 aC aI aG aV C_isOpen_2 C_series C_from C_to C_entry C_entriesEnd C_pointsLeft C_block C_time_3 C_value_4]) (wb := [oX9 aP P_seriesCount P_most P_ratio aD aI aG aU aT aQ aC P_recoveries, oX2 aD aDc D_writesDone D_writesLeft D_down, rI aDc cI 4096 D_cells, oX3 aI aD, oX8 aU aD U_place U_bitsRead U_started U_time U_value U_rise, oX7 aT aD aI aK aO aTi aTp aTt T_chunks T_chunksMade T_openFrom T_lacksSpace, oX5 aK aKc K_used K_bitsFree K_full K_time K_value K_rise, rI aKc cI 1661 K_cells, oX6 aO O_first O_last O_points O_least O_greatest O_sum, rI aTi cI 961 T_image, rI aTp cI 96 T_packedFrom, rI aTt cZ 1661 T_taken, oX1 aC aI aG aV C_isOpen_2 C_series C_from C_to C_entry C_entriesEnd C_pointsLeft C_block C_time_3 C_value_4]) (v := (some (.int r_19))) hx hb hml hown htc hN (c_X3_endOf l G cI cZ cJ aD aDc aI D_writesDone D_writesLeft D_down D_cells p0 hE_18) mw_370 mw_371 mw_372 mw_4 mw_373 hd_X3_endOf ⟨rfl, rfl⟩ ⟨Nat.le_of_ble_eq_true rfl, Nat.le_of_ble_eq_true rfl⟩ hK hw16 hA [1, 2, 3] [0, 4, 5, 6, 7, 8, 9, 10, 11, 12] [0, 10, 11, 12, 1, 2, 3, 4, 5, 6, 7, 8, 9] rfl rfl rfl rfl rfl (by decide) rfl rfl rfl 2 rfl rfl rfl rfl hl17.1 rfl rfl (Nat.le_of_ble_eq_true rfl) dX9_compact_45 ⟨Nat.zero_le _, Nat.zero_le _⟩ (fun H20 locs20 hw20 => ?_)
      clear hw16 H16 locs16
      refine lv_istore_n (lv' := [(3, .int r_19), (2, .int r_15), (0, .ref aP), (1, .int p0)]) hx hb dX9_compact_48 rfl hl17 (by decide) rfl (fun ls21 hl21 => ?_)
      clear hl17 ls17
      refine lv_aload_n hx hb dX9_compact_49 rfl (lv_at hl21 2 rfl) ?_
      refine va_get (D := G) (ci := 9) (v := .ref aT) (C := RX9) (T := TX9) (N := 11) hx hb htc iX9 hown hK hw20.1 0 rfl rfl 7 (by decide) (htc _ mw_310) (fun _ h9 => h9) rfl dX9_compact_50 ?_
      replace hfin := ob13_some hfin
      obtain ⟨T_chunks_23, T_chunksMade_24, T_lacksSpace_25, K_used_26, K_bitsFree_27, K_full_28, O_first_29, O_last_30, O_points_31, O_least_32, O_greatest_33, O_sum_34, T_taken_35, hE_22, hfin⟩ := hfin
      refine ctV (a := aT) (As := []) (rest := []) (st1 := []) (wc := [oX2 aD aDc D_writesDone D_writesLeft D_down, rI aDc cI 4096 D_cells, oX3 aI aD, oX7 aT aD aI aK aO aTi aTp aTt T_chunks T_chunksMade T_openFrom T_lacksSpace, oX5 aK aKc K_used K_bitsFree K_full K_time K_value K_rise, oX6 aO O_first O_last O_points O_least O_greatest O_sum, rI aTt cZ 1661 T_taken]) (w1 := [oX2 aD aDc D_writesDone D_writesLeft D_down, rI aDc cI 4096 D_cells, oX3 aI aD, oX7 aT aD aI aK aO aTi aTp aTt T_chunks_23 T_chunksMade_24 T_openFrom T_lacksSpace_25, oX5 aK aKc K_used_26 K_bitsFree_27 K_full_28 K_time K_value K_rise, oX6 aO O_first_29 O_last_30 O_points_31 O_least_32 O_greatest_33 O_sum_34, rI aTt cZ 1661 T_taken_35]) (wr := [oX9 aP P_seriesCount P_most P_ratio aD aI aG aU aT aQ aC P_recoveries, oX8 aU aD U_place U_bitsRead U_started U_time U_value U_rise, rI aKc cI 1661 K_cells, rI aTi cI 961 T_image, rI aTp cI 96 T_packedFrom, oX1 aC aI aG aV C_isOpen_2 C_series C_from C_to C_entry C_entriesEnd C_pointsLeft C_block C_time_3 C_value_4]) (wb := [oX9 aP P_seriesCount P_most P_ratio aD aI aG aU aT aQ aC P_recoveries, oX2 aD aDc D_writesDone D_writesLeft D_down, rI aDc cI 4096 D_cells, oX3 aI aD, oX8 aU aD U_place U_bitsRead U_started U_time U_value U_rise, oX7 aT aD aI aK aO aTi aTp aTt T_chunks_23 T_chunksMade_24 T_openFrom T_lacksSpace_25, oX5 aK aKc K_used_26 K_bitsFree_27 K_full_28 K_time K_value K_rise, rI aKc cI 1661 K_cells, oX6 aO O_first_29 O_last_30 O_points_31 O_least_32 O_greatest_33 O_sum_34, rI aTi cI 961 T_image, rI aTp cI 96 T_packedFrom, rI aTt cZ 1661 T_taken_35, oX1 aC aI aG aV C_isOpen_2 C_series C_from C_to C_entry C_entriesEnd C_pointsLeft C_block C_time_3 C_value_4]) (v := none) hx hb hml hown htc hN (c_X7_begin l G cI cZ cJ aD aDc aI aT aK aO aTi aTp aTt aKc D_writesDone D_writesLeft D_down D_cells T_chunks T_chunksMade T_openFrom T_lacksSpace K_used K_bitsFree K_full K_time K_value K_rise O_first O_last O_points O_least O_greatest O_sum T_taken  hE_22) mw_420 mw_421 mw_422 mw_7 mw_423 hd_X7_begin ⟨rfl, rfl⟩ ⟨Nat.le_of_ble_eq_true rfl, Nat.le_of_ble_eq_true rfl⟩ hK hw20 hA [1, 2, 3, 5, 6, 8, 11] [0, 4, 7, 9, 10, 12] [0, 6, 7, 8, 1, 9, 10, 2, 11, 3, 4, 12, 5] rfl rfl rfl rfl rfl (by decide) rfl rfl rfl 3 rfl rfl rfl rfl hl21.1 rfl rfl (Nat.le_of_ble_eq_true rfl) dX9_compact_53 ⟨Nat.zero_le _, Nat.zero_le _⟩ (fun H36 locs36 hw36 => ?_)
      clear hw20 H20 locs20
      refine lv_aload_n hx hb dX9_compact_56 rfl (lv_at hl21 2 rfl) ?_
      refine lv_iconst (v := (0 : Int32)) hx hb dX9_compact_57 (by decide) ?_
      refine lv_iload_n hx hb dX9_compact_58 rfl (lv_at hl21 1 rfl) ?_
      replace hfin := ob4_some hfin
      obtain ⟨T_chunks_38, T_lacksSpace_39, T_image_40, T_packedFrom_41, hE_37, hfin⟩ := hfin
      refine ctV (a := aP) (As := [.int (0 : Int32), .int r_15]) (rest := []) (st1 := []) (wc := [oX9 aP P_seriesCount P_most P_ratio aD aI aG aU aT aQ aC P_recoveries, oX2 aD aDc D_writesDone D_writesLeft D_down, rI aDc cI 4096 D_cells, oX3 aI aD, oX7 aT aD aI aK aO aTi aTp aTt T_chunks_23 T_chunksMade_24 T_openFrom T_lacksSpace_25, rI aTi cI 961 T_image, rI aTp cI 96 T_packedFrom]) (w1 := [oX9 aP P_seriesCount P_most P_ratio aD aI aG aU aT aQ aC P_recoveries, oX2 aD aDc D_writesDone D_writesLeft D_down, rI aDc cI 4096 D_cells, oX3 aI aD, oX7 aT aD aI aK aO aTi aTp aTt T_chunks_38 T_chunksMade_24 T_openFrom T_lacksSpace_39, rI aTi cI 961 T_image_40, rI aTp cI 96 T_packedFrom_41]) (wr := [oX8 aU aD U_place U_bitsRead U_started U_time U_value U_rise, oX5 aK aKc K_used_26 K_bitsFree_27 K_full_28 K_time K_value K_rise, rI aKc cI 1661 K_cells, oX6 aO O_first_29 O_last_30 O_points_31 O_least_32 O_greatest_33 O_sum_34, rI aTt cZ 1661 T_taken_35, oX1 aC aI aG aV C_isOpen_2 C_series C_from C_to C_entry C_entriesEnd C_pointsLeft C_block C_time_3 C_value_4]) (wb := [oX9 aP P_seriesCount P_most P_ratio aD aI aG aU aT aQ aC P_recoveries, oX2 aD aDc D_writesDone D_writesLeft D_down, rI aDc cI 4096 D_cells, oX3 aI aD, oX8 aU aD U_place U_bitsRead U_started U_time U_value U_rise, oX7 aT aD aI aK aO aTi aTp aTt T_chunks_38 T_chunksMade_24 T_openFrom T_lacksSpace_39, oX5 aK aKc K_used_26 K_bitsFree_27 K_full_28 K_time K_value K_rise, rI aKc cI 1661 K_cells, oX6 aO O_first_29 O_last_30 O_points_31 O_least_32 O_greatest_33 O_sum_34, rI aTi cI 961 T_image_40, rI aTp cI 96 T_packedFrom_41, rI aTt cZ 1661 T_taken_35, oX1 aC aI aG aV C_isOpen_2 C_series C_from C_to C_entry C_entriesEnd C_pointsLeft C_block C_time_3 C_value_4]) (v := none) hx hb hml hown htc hN (c_X9_keepEntries l G cI cZ cJ aP aD aI aG aU aT aQ aC aDc aK aO aTi aTp aTt P_seriesCount P_most P_ratio P_recoveries D_writesDone D_writesLeft D_down D_cells T_chunks_23 T_chunksMade_24 T_openFrom T_lacksSpace_25 T_image T_packedFrom (0 : Int32) r_15 hE_37) mw_438 mw_440 mp_3 mw_1 mw_441 hd_X9_keepEntries ⟨rfl, rfl⟩ ⟨Nat.le_of_ble_eq_true rfl, Nat.le_of_ble_eq_true rfl⟩ hK hw36 hA [0, 1, 2, 3, 5, 9, 10] [4, 6, 7, 8, 11, 12] [6, 7, 8, 9, 0, 10, 1, 2, 3, 11, 12, 4, 5] rfl rfl rfl rfl rfl (by decide) rfl rfl rfl 0 rfl rfl rfl rfl hl21.1 rfl rfl (Nat.le_of_ble_eq_true rfl) dX9_compact_59 ⟨Nat.zero_le _, Nat.zero_le _⟩ (fun H42 locs42 hw42 => ?_)
      clear hw36 H36 locs36
      refine lv_aload_n hx hb dX9_compact_62 rfl (lv_at hl21 2 rfl) ?_
      refine lv_iload_n hx hb dX9_compact_63 rfl (lv_at hl21 3 rfl) ?_
      refine lv_iload_n hx hb dX9_compact_64 rfl (lv_at hl21 1 rfl) ?_
      refine lv_iload_n hx hb dX9_compact_65 rfl (lv_at hl21 0 rfl) ?_
      replace hfin := ob26_some hfin
      obtain ⟨U_place_44, U_bitsRead_45, U_started_46, U_time_47, U_value_48, U_rise_49, T_chunks_50, T_chunksMade_51, T_openFrom_52, T_lacksSpace_53, K_used_54, K_bitsFree_55, K_full_56, K_time_57, K_value_58, K_rise_59, K_cells_60, O_first_61, O_last_62, O_points_63, O_least_64, O_greatest_65, O_sum_66, T_image_67, T_packedFrom_68, T_taken_69, hE_43, hfin⟩ := hfin
      refine ctV (a := aP) (As := [.int p0, .int r_15, .int r_19]) (rest := []) (st1 := []) (wc := [oX9 aP P_seriesCount P_most P_ratio aD aI aG aU aT aQ aC P_recoveries, oX2 aD aDc D_writesDone D_writesLeft D_down, rI aDc cI 4096 D_cells, oX3 aI aD, oX8 aU aD U_place U_bitsRead U_started U_time U_value U_rise, oX7 aT aD aI aK aO aTi aTp aTt T_chunks_38 T_chunksMade_24 T_openFrom T_lacksSpace_39, oX5 aK aKc K_used_26 K_bitsFree_27 K_full_28 K_time K_value K_rise, rI aKc cI 1661 K_cells, oX6 aO O_first_29 O_last_30 O_points_31 O_least_32 O_greatest_33 O_sum_34, rI aTi cI 961 T_image_40, rI aTp cI 96 T_packedFrom_41, rI aTt cZ 1661 T_taken_35]) (w1 := [oX9 aP P_seriesCount P_most P_ratio aD aI aG aU aT aQ aC P_recoveries, oX2 aD aDc D_writesDone D_writesLeft D_down, rI aDc cI 4096 D_cells, oX3 aI aD, oX8 aU aD U_place_44 U_bitsRead_45 U_started_46 U_time_47 U_value_48 U_rise_49, oX7 aT aD aI aK aO aTi aTp aTt T_chunks_50 T_chunksMade_51 T_openFrom_52 T_lacksSpace_53, oX5 aK aKc K_used_54 K_bitsFree_55 K_full_56 K_time_57 K_value_58 K_rise_59, rI aKc cI 1661 K_cells_60, oX6 aO O_first_61 O_last_62 O_points_63 O_least_64 O_greatest_65 O_sum_66, rI aTi cI 961 T_image_67, rI aTp cI 96 T_packedFrom_68, rI aTt cZ 1661 T_taken_69]) (wr := [oX1 aC aI aG aV C_isOpen_2 C_series C_from C_to C_entry C_entriesEnd C_pointsLeft C_block C_time_3 C_value_4]) (wb := [oX9 aP P_seriesCount P_most P_ratio aD aI aG aU aT aQ aC P_recoveries, oX2 aD aDc D_writesDone D_writesLeft D_down, rI aDc cI 4096 D_cells, oX3 aI aD, oX8 aU aD U_place_44 U_bitsRead_45 U_started_46 U_time_47 U_value_48 U_rise_49, oX7 aT aD aI aK aO aTi aTp aTt T_chunks_50 T_chunksMade_51 T_openFrom_52 T_lacksSpace_53, oX5 aK aKc K_used_54 K_bitsFree_55 K_full_56 K_time_57 K_value_58 K_rise_59, rI aKc cI 1661 K_cells_60, oX6 aO O_first_61 O_last_62 O_points_63 O_least_64 O_greatest_65 O_sum_66, rI aTi cI 961 T_image_67, rI aTp cI 96 T_packedFrom_68, rI aTt cZ 1661 T_taken_69, oX1 aC aI aG aV C_isOpen_2 C_series C_from C_to C_entry C_entriesEnd C_pointsLeft C_block C_time_3 C_value_4]) (v := none) hx hb hml hown htc hN (c_X9_joinEntries l G cI cZ cJ aP aD aI aG aU aT aQ aC aDc aK aO aTi aTp aTt aKc P_seriesCount P_most P_ratio P_recoveries D_writesDone D_writesLeft D_down D_cells U_place U_bitsRead U_started U_time U_value U_rise T_chunks_38 T_chunksMade_24 T_openFrom T_lacksSpace_39 K_used_26 K_bitsFree_27 K_full_28 K_time K_value K_rise K_cells O_first_29 O_last_30 O_points_31 O_least_32 O_greatest_33 O_sum_34 T_image_40 T_packedFrom_41 T_taken_35 p0 r_15 r_19 hE_43) mw_567 mw_569 mp_16 mw_1 mw_570 hd_X9_joinEntries ⟨rfl, rfl⟩ ⟨Nat.le_of_ble_eq_true rfl, Nat.le_of_ble_eq_true rfl⟩ hK hw42 hA [0, 1, 2, 3, 4, 5, 6, 7, 8, 9, 10, 11] [12] [1, 2, 3, 4, 5, 6, 7, 8, 9, 10, 11, 12, 0] rfl rfl rfl rfl rfl (by decide) rfl rfl rfl 0 rfl rfl rfl rfl hl21.1 rfl rfl (Nat.le_of_ble_eq_true rfl) dX9_compact_66 ⟨Nat.zero_le _, Nat.zero_le _⟩ (fun H70 locs70 hw70 => ?_)
      clear hw42 H42 locs42
      refine lv_aload_n hx hb dX9_compact_69 rfl (lv_at hl21 2 rfl) ?_
      refine lv_iload_n hx hb dX9_compact_70 rfl (lv_at hl21 0 rfl) ?_
      refine lv_aload_n hx hb dX9_compact_71 rfl (lv_at hl21 2 rfl) ?_
      refine va_get (D := G) (ci := 9) (v := .ref aI) (C := RX9) (T := TX9) (N := 11) hx hb htc iX9 hown hK hw70.1 0 rfl rfl 4 (by decide) (htc _ mw_307) (fun _ h9 => h9) rfl dX9_compact_72 ?_
      replace hfin := ob1_some hfin
      obtain ⟨r_72, hE_71, hfin⟩ := hfin
      refine ctV (a := aI) (As := []) (rest := [.int r_19, .ref aP]) (st1 := [.int r_72, .int r_19, .ref aP]) (wc := [oX2 aD aDc D_writesDone D_writesLeft D_down, rI aDc cI 4096 D_cells, oX3 aI aD]) (w1 := [oX2 aD aDc D_writesDone D_writesLeft D_down, rI aDc cI 4096 D_cells, oX3 aI aD]) (wr := [oX9 aP P_seriesCount P_most P_ratio aD aI aG aU aT aQ aC P_recoveries, oX8 aU aD U_place_44 U_bitsRead_45 U_started_46 U_time_47 U_value_48 U_rise_49, oX7 aT aD aI aK aO aTi aTp aTt T_chunks_50 T_chunksMade_51 T_openFrom_52 T_lacksSpace_53, oX5 aK aKc K_used_54 K_bitsFree_55 K_full_56 K_time_57 K_value_58 K_rise_59, rI aKc cI 1661 K_cells_60, oX6 aO O_first_61 O_last_62 O_points_63 O_least_64 O_greatest_65 O_sum_66, rI aTi cI 961 T_image_67, rI aTp cI 96 T_packedFrom_68, rI aTt cZ 1661 T_taken_69, oX1 aC aI aG aV C_isOpen_2 C_series C_from C_to C_entry C_entriesEnd C_pointsLeft C_block C_time_3 C_value_4]) (wb := [oX9 aP P_seriesCount P_most P_ratio aD aI aG aU aT aQ aC P_recoveries, oX2 aD aDc D_writesDone D_writesLeft D_down, rI aDc cI 4096 D_cells, oX3 aI aD, oX8 aU aD U_place_44 U_bitsRead_45 U_started_46 U_time_47 U_value_48 U_rise_49, oX7 aT aD aI aK aO aTi aTp aTt T_chunks_50 T_chunksMade_51 T_openFrom_52 T_lacksSpace_53, oX5 aK aKc K_used_54 K_bitsFree_55 K_full_56 K_time_57 K_value_58 K_rise_59, rI aKc cI 1661 K_cells_60, oX6 aO O_first_61 O_last_62 O_points_63 O_least_64 O_greatest_65 O_sum_66, rI aTi cI 961 T_image_67, rI aTp cI 96 T_packedFrom_68, rI aTt cZ 1661 T_taken_69, oX1 aC aI aG aV C_isOpen_2 C_series C_from C_to C_entry C_entriesEnd C_pointsLeft C_block C_time_3 C_value_4]) (v := (some (.int r_72))) hx hb hml hown htc hN (c_X3_chunks l G cI cZ cJ aD aDc aI D_writesDone D_writesLeft D_down D_cells  hE_71) mw_601 mw_379 mw_380 mw_4 mw_381 hd_X3_chunks ⟨rfl, rfl⟩ ⟨Nat.le_of_ble_eq_true rfl, Nat.le_of_ble_eq_true rfl⟩ hK hw70 hA [1, 2, 3] [0, 4, 5, 6, 7, 8, 9, 10, 11, 12] [0, 10, 11, 12, 1, 2, 3, 4, 5, 6, 7, 8, 9] rfl rfl rfl rfl rfl (by decide) rfl rfl rfl 2 rfl rfl rfl rfl hl21.1 rfl rfl (Nat.le_of_ble_eq_true rfl) dX9_compact_75 ⟨Nat.zero_le _, Nat.zero_le _⟩ (fun H73 locs73 hw73 => ?_)
      clear hw70 H70 locs70
      replace hfin := ob4_some hfin
      obtain ⟨T_chunks_75, T_lacksSpace_76, T_image_77, T_packedFrom_78, hE_74, hfin⟩ := hfin
      refine ctV (a := aP) (As := [.int r_19, .int r_72]) (rest := []) (st1 := []) (wc := [oX9 aP P_seriesCount P_most P_ratio aD aI aG aU aT aQ aC P_recoveries, oX2 aD aDc D_writesDone D_writesLeft D_down, rI aDc cI 4096 D_cells, oX3 aI aD, oX7 aT aD aI aK aO aTi aTp aTt T_chunks_50 T_chunksMade_51 T_openFrom_52 T_lacksSpace_53, rI aTi cI 961 T_image_67, rI aTp cI 96 T_packedFrom_68]) (w1 := [oX9 aP P_seriesCount P_most P_ratio aD aI aG aU aT aQ aC P_recoveries, oX2 aD aDc D_writesDone D_writesLeft D_down, rI aDc cI 4096 D_cells, oX3 aI aD, oX7 aT aD aI aK aO aTi aTp aTt T_chunks_75 T_chunksMade_51 T_openFrom_52 T_lacksSpace_76, rI aTi cI 961 T_image_77, rI aTp cI 96 T_packedFrom_78]) (wr := [oX8 aU aD U_place_44 U_bitsRead_45 U_started_46 U_time_47 U_value_48 U_rise_49, oX5 aK aKc K_used_54 K_bitsFree_55 K_full_56 K_time_57 K_value_58 K_rise_59, rI aKc cI 1661 K_cells_60, oX6 aO O_first_61 O_last_62 O_points_63 O_least_64 O_greatest_65 O_sum_66, rI aTt cZ 1661 T_taken_69, oX1 aC aI aG aV C_isOpen_2 C_series C_from C_to C_entry C_entriesEnd C_pointsLeft C_block C_time_3 C_value_4]) (wb := [oX9 aP P_seriesCount P_most P_ratio aD aI aG aU aT aQ aC P_recoveries, oX2 aD aDc D_writesDone D_writesLeft D_down, rI aDc cI 4096 D_cells, oX3 aI aD, oX8 aU aD U_place_44 U_bitsRead_45 U_started_46 U_time_47 U_value_48 U_rise_49, oX7 aT aD aI aK aO aTi aTp aTt T_chunks_75 T_chunksMade_51 T_openFrom_52 T_lacksSpace_76, oX5 aK aKc K_used_54 K_bitsFree_55 K_full_56 K_time_57 K_value_58 K_rise_59, rI aKc cI 1661 K_cells_60, oX6 aO O_first_61 O_last_62 O_points_63 O_least_64 O_greatest_65 O_sum_66, rI aTi cI 961 T_image_77, rI aTp cI 96 T_packedFrom_78, rI aTt cZ 1661 T_taken_69, oX1 aC aI aG aV C_isOpen_2 C_series C_from C_to C_entry C_entriesEnd C_pointsLeft C_block C_time_3 C_value_4]) (v := none) hx hb hml hown htc hN (c_X9_keepEntries l G cI cZ cJ aP aD aI aG aU aT aQ aC aDc aK aO aTi aTp aTt P_seriesCount P_most P_ratio P_recoveries D_writesDone D_writesLeft D_down D_cells T_chunks_50 T_chunksMade_51 T_openFrom_52 T_lacksSpace_53 T_image_67 T_packedFrom_68 r_19 r_72 hE_74) mw_438 mw_440 mp_3 mw_1 mw_441 hd_X9_keepEntries ⟨rfl, rfl⟩ ⟨Nat.le_of_ble_eq_true rfl, Nat.le_of_ble_eq_true rfl⟩ hK hw73 hA [0, 1, 2, 3, 5, 9, 10] [4, 6, 7, 8, 11, 12] [6, 7, 8, 9, 0, 10, 1, 2, 3, 11, 12, 4, 5] rfl rfl rfl rfl rfl (by decide) rfl rfl rfl 0 rfl rfl rfl rfl hl21.1 rfl rfl (Nat.le_of_ble_eq_true rfl) dX9_compact_78 ⟨Nat.zero_le _, Nat.zero_le _⟩ (fun H79 locs79 hw79 => ?_)
      clear hw73 H73 locs73
      refine lv_aload_n hx hb dX9_compact_81 rfl (lv_at hl21 2 rfl) ?_
      refine va_get (D := G) (ci := 9) (v := .ref aT) (C := RX9) (T := TX9) (N := 11) hx hb htc iX9 hown hK hw79.1 0 rfl rfl 7 (by decide) (htc _ mw_310) (fun _ h9 => h9) rfl dX9_compact_82 ?_
      replace hfin := ob1_some hfin
      obtain ⟨r_81, hE_80, hfin⟩ := hfin
      refine ctV (a := aT) (As := []) (rest := []) (st1 := [.int r_81]) (wc := [oX7 aT aD aI aK aO aTi aTp aTt T_chunks_75 T_chunksMade_51 T_openFrom_52 T_lacksSpace_76]) (w1 := [oX7 aT aD aI aK aO aTi aTp aTt T_chunks_75 T_chunksMade_51 T_openFrom_52 T_lacksSpace_76]) (wr := [oX9 aP P_seriesCount P_most P_ratio aD aI aG aU aT aQ aC P_recoveries, oX2 aD aDc D_writesDone D_writesLeft D_down, rI aDc cI 4096 D_cells, oX3 aI aD, oX8 aU aD U_place_44 U_bitsRead_45 U_started_46 U_time_47 U_value_48 U_rise_49, oX5 aK aKc K_used_54 K_bitsFree_55 K_full_56 K_time_57 K_value_58 K_rise_59, rI aKc cI 1661 K_cells_60, oX6 aO O_first_61 O_last_62 O_points_63 O_least_64 O_greatest_65 O_sum_66, rI aTi cI 961 T_image_77, rI aTp cI 96 T_packedFrom_78, rI aTt cZ 1661 T_taken_69, oX1 aC aI aG aV C_isOpen_2 C_series C_from C_to C_entry C_entriesEnd C_pointsLeft C_block C_time_3 C_value_4]) (wb := [oX9 aP P_seriesCount P_most P_ratio aD aI aG aU aT aQ aC P_recoveries, oX2 aD aDc D_writesDone D_writesLeft D_down, rI aDc cI 4096 D_cells, oX3 aI aD, oX8 aU aD U_place_44 U_bitsRead_45 U_started_46 U_time_47 U_value_48 U_rise_49, oX7 aT aD aI aK aO aTi aTp aTt T_chunks_75 T_chunksMade_51 T_openFrom_52 T_lacksSpace_76, oX5 aK aKc K_used_54 K_bitsFree_55 K_full_56 K_time_57 K_value_58 K_rise_59, rI aKc cI 1661 K_cells_60, oX6 aO O_first_61 O_last_62 O_points_63 O_least_64 O_greatest_65 O_sum_66, rI aTi cI 961 T_image_77, rI aTp cI 96 T_packedFrom_78, rI aTt cZ 1661 T_taken_69, oX1 aC aI aG aV C_isOpen_2 C_series C_from C_to C_entry C_entriesEnd C_pointsLeft C_block C_time_3 C_value_4]) (v := (some (.int r_81))) hx hb hml hown htc hN (c_X7_chunksMade l G cI cZ cJ aT aD aI aK aO aTi aTp aTt T_chunks_75 T_chunksMade_51 T_openFrom_52 T_lacksSpace_76  hE_80) mw_524 mw_525 mw_526 mw_7 mw_527 hd_X7_chunksMade ⟨rfl, rfl⟩ ⟨Nat.le_of_ble_eq_true rfl, Nat.le_of_ble_eq_true rfl⟩ hK hw79 hA [5] [0, 1, 2, 3, 4, 6, 7, 8, 9, 10, 11, 12] [0, 1, 2, 3, 4, 12, 5, 6, 7, 8, 9, 10, 11] rfl rfl rfl rfl rfl (by decide) rfl rfl rfl 0 rfl rfl rfl rfl hl21.1 rfl rfl (Nat.le_of_ble_eq_true rfl) dX9_compact_85 ⟨Nat.zero_le _, Nat.zero_le _⟩ (fun H82 locs82 hw82 => ?_)
      clear hw79 H79 locs79
      refine lv_if_ne (tgt := 93) hx hb dX9_compact_88 (by decide) (fun c_83 => ?_) (fun c_83 => ?_)
      · replace hfin := it_f c_83 hfin
        refine lv_aload_n hx hb dX9_compact_93 rfl (lv_at hl21 2 rfl) ?_
        refine lv_aload_n hx hb dX9_compact_94 rfl (lv_at hl21 2 rfl) ?_
        refine va_get (D := G) (ci := 9) (v := .ref aD) (C := RX9) (T := TX9) (N := 11) hx hb htc iX9 hown hK hw82.1 0 rfl rfl 3 (by decide) (htc _ mw_306) (fun _ h9 => h9) rfl dX9_compact_95 ?_
        replace hfin := ob1_some hfin
        obtain ⟨r_85, hE_84, hfin⟩ := hfin
        refine ctV (a := aD) (As := []) (rest := [.ref aP]) (st1 := [.int r_85, .ref aP]) (wc := [oX2 aD aDc D_writesDone D_writesLeft D_down, rI aDc cI 4096 D_cells]) (w1 := [oX2 aD aDc D_writesDone D_writesLeft D_down, rI aDc cI 4096 D_cells]) (wr := [oX9 aP P_seriesCount P_most P_ratio aD aI aG aU aT aQ aC P_recoveries, oX3 aI aD, oX8 aU aD U_place_44 U_bitsRead_45 U_started_46 U_time_47 U_value_48 U_rise_49, oX7 aT aD aI aK aO aTi aTp aTt T_chunks_75 T_chunksMade_51 T_openFrom_52 T_lacksSpace_76, oX5 aK aKc K_used_54 K_bitsFree_55 K_full_56 K_time_57 K_value_58 K_rise_59, rI aKc cI 1661 K_cells_60, oX6 aO O_first_61 O_last_62 O_points_63 O_least_64 O_greatest_65 O_sum_66, rI aTi cI 961 T_image_77, rI aTp cI 96 T_packedFrom_78, rI aTt cZ 1661 T_taken_69, oX1 aC aI aG aV C_isOpen_2 C_series C_from C_to C_entry C_entriesEnd C_pointsLeft C_block C_time_3 C_value_4]) (wb := [oX9 aP P_seriesCount P_most P_ratio aD aI aG aU aT aQ aC P_recoveries, oX2 aD aDc D_writesDone D_writesLeft D_down, rI aDc cI 4096 D_cells, oX3 aI aD, oX8 aU aD U_place_44 U_bitsRead_45 U_started_46 U_time_47 U_value_48 U_rise_49, oX7 aT aD aI aK aO aTi aTp aTt T_chunks_75 T_chunksMade_51 T_openFrom_52 T_lacksSpace_76, oX5 aK aKc K_used_54 K_bitsFree_55 K_full_56 K_time_57 K_value_58 K_rise_59, rI aKc cI 1661 K_cells_60, oX6 aO O_first_61 O_last_62 O_points_63 O_least_64 O_greatest_65 O_sum_66, rI aTi cI 961 T_image_77, rI aTp cI 96 T_packedFrom_78, rI aTt cZ 1661 T_taken_69, oX1 aC aI aG aV C_isOpen_2 C_series C_from C_to C_entry C_entriesEnd C_pointsLeft C_block C_time_3 C_value_4]) (v := (some (.int r_85))) hx hb hml hown htc hN (c_X2_epoch l G cI cZ cJ aD aDc D_writesDone D_writesLeft D_down D_cells  hE_84) mw_523 mw_409 mw_410 mw_3 mw_411 hd_X2_epoch ⟨rfl, rfl⟩ ⟨Nat.le_of_ble_eq_true rfl, Nat.le_of_ble_eq_true rfl⟩ hK hw82 hA [1, 2] [0, 3, 4, 5, 6, 7, 8, 9, 10, 11, 12] [0, 11, 12, 1, 2, 3, 4, 5, 6, 7, 8, 9, 10] rfl rfl rfl rfl rfl (by decide) rfl rfl rfl 0 rfl rfl rfl rfl hl21.1 rfl rfl (Nat.le_of_ble_eq_true rfl) dX9_compact_98 ⟨Nat.zero_le _, Nat.zero_le _⟩ (fun H86 locs86 hw86 => ?_)
        clear hw82 H82 locs82
        refine lv_aload_n hx hb dX9_compact_101 rfl (lv_at hl21 2 rfl) ?_
        refine va_get (D := G) (ci := 9) (v := .ref aI) (C := RX9) (T := TX9) (N := 11) hx hb htc iX9 hown hK hw86.1 0 rfl rfl 4 (by decide) (htc _ mw_307) (fun _ h9 => h9) rfl dX9_compact_102 ?_
        replace hfin := ob1_some hfin
        obtain ⟨r_88, hE_87, hfin⟩ := hfin
        refine ctV (a := aI) (As := []) (rest := [.int r_85, .ref aP]) (st1 := [.int r_88, .int r_85, .ref aP]) (wc := [oX2 aD aDc D_writesDone D_writesLeft D_down, rI aDc cI 4096 D_cells, oX3 aI aD]) (w1 := [oX2 aD aDc D_writesDone D_writesLeft D_down, rI aDc cI 4096 D_cells, oX3 aI aD]) (wr := [oX9 aP P_seriesCount P_most P_ratio aD aI aG aU aT aQ aC P_recoveries, oX8 aU aD U_place_44 U_bitsRead_45 U_started_46 U_time_47 U_value_48 U_rise_49, oX7 aT aD aI aK aO aTi aTp aTt T_chunks_75 T_chunksMade_51 T_openFrom_52 T_lacksSpace_76, oX5 aK aKc K_used_54 K_bitsFree_55 K_full_56 K_time_57 K_value_58 K_rise_59, rI aKc cI 1661 K_cells_60, oX6 aO O_first_61 O_last_62 O_points_63 O_least_64 O_greatest_65 O_sum_66, rI aTi cI 961 T_image_77, rI aTp cI 96 T_packedFrom_78, rI aTt cZ 1661 T_taken_69, oX1 aC aI aG aV C_isOpen_2 C_series C_from C_to C_entry C_entriesEnd C_pointsLeft C_block C_time_3 C_value_4]) (wb := [oX9 aP P_seriesCount P_most P_ratio aD aI aG aU aT aQ aC P_recoveries, oX2 aD aDc D_writesDone D_writesLeft D_down, rI aDc cI 4096 D_cells, oX3 aI aD, oX8 aU aD U_place_44 U_bitsRead_45 U_started_46 U_time_47 U_value_48 U_rise_49, oX7 aT aD aI aK aO aTi aTp aTt T_chunks_75 T_chunksMade_51 T_openFrom_52 T_lacksSpace_76, oX5 aK aKc K_used_54 K_bitsFree_55 K_full_56 K_time_57 K_value_58 K_rise_59, rI aKc cI 1661 K_cells_60, oX6 aO O_first_61 O_last_62 O_points_63 O_least_64 O_greatest_65 O_sum_66, rI aTi cI 961 T_image_77, rI aTp cI 96 T_packedFrom_78, rI aTt cZ 1661 T_taken_69, oX1 aC aI aG aV C_isOpen_2 C_series C_from C_to C_entry C_entriesEnd C_pointsLeft C_block C_time_3 C_value_4]) (v := (some (.int r_88))) hx hb hml hown htc hN (c_X3_chunks l G cI cZ cJ aD aDc aI D_writesDone D_writesLeft D_down D_cells  hE_87) mw_601 mw_379 mw_380 mw_4 mw_381 hd_X3_chunks ⟨rfl, rfl⟩ ⟨Nat.le_of_ble_eq_true rfl, Nat.le_of_ble_eq_true rfl⟩ hK hw86 hA [1, 2, 3] [0, 4, 5, 6, 7, 8, 9, 10, 11, 12] [0, 10, 11, 12, 1, 2, 3, 4, 5, 6, 7, 8, 9] rfl rfl rfl rfl rfl (by decide) rfl rfl rfl 2 rfl rfl rfl rfl hl21.1 rfl rfl (Nat.le_of_ble_eq_true rfl) dX9_compact_105 ⟨Nat.zero_le _, Nat.zero_le _⟩ (fun H89 locs89 hw89 => ?_)
        clear hw86 H86 locs86
        refine lv_aload_n hx hb dX9_compact_108 rfl (lv_at hl21 2 rfl) ?_
        refine va_get (D := G) (ci := 9) (v := .ref aT) (C := RX9) (T := TX9) (N := 11) hx hb htc iX9 hown hK hw89.1 0 rfl rfl 7 (by decide) (htc _ mw_310) (fun _ h9 => h9) rfl dX9_compact_109 ?_
        replace hfin := ob1_some hfin
        obtain ⟨r_91, hE_90, hfin⟩ := hfin
        refine ctV (a := aT) (As := []) (rest := [.int r_88, .int r_85, .ref aP]) (st1 := [.int r_91, .int r_88, .int r_85, .ref aP]) (wc := [oX7 aT aD aI aK aO aTi aTp aTt T_chunks_75 T_chunksMade_51 T_openFrom_52 T_lacksSpace_76]) (w1 := [oX7 aT aD aI aK aO aTi aTp aTt T_chunks_75 T_chunksMade_51 T_openFrom_52 T_lacksSpace_76]) (wr := [oX9 aP P_seriesCount P_most P_ratio aD aI aG aU aT aQ aC P_recoveries, oX2 aD aDc D_writesDone D_writesLeft D_down, rI aDc cI 4096 D_cells, oX3 aI aD, oX8 aU aD U_place_44 U_bitsRead_45 U_started_46 U_time_47 U_value_48 U_rise_49, oX5 aK aKc K_used_54 K_bitsFree_55 K_full_56 K_time_57 K_value_58 K_rise_59, rI aKc cI 1661 K_cells_60, oX6 aO O_first_61 O_last_62 O_points_63 O_least_64 O_greatest_65 O_sum_66, rI aTi cI 961 T_image_77, rI aTp cI 96 T_packedFrom_78, rI aTt cZ 1661 T_taken_69, oX1 aC aI aG aV C_isOpen_2 C_series C_from C_to C_entry C_entriesEnd C_pointsLeft C_block C_time_3 C_value_4]) (wb := [oX9 aP P_seriesCount P_most P_ratio aD aI aG aU aT aQ aC P_recoveries, oX2 aD aDc D_writesDone D_writesLeft D_down, rI aDc cI 4096 D_cells, oX3 aI aD, oX8 aU aD U_place_44 U_bitsRead_45 U_started_46 U_time_47 U_value_48 U_rise_49, oX7 aT aD aI aK aO aTi aTp aTt T_chunks_75 T_chunksMade_51 T_openFrom_52 T_lacksSpace_76, oX5 aK aKc K_used_54 K_bitsFree_55 K_full_56 K_time_57 K_value_58 K_rise_59, rI aKc cI 1661 K_cells_60, oX6 aO O_first_61 O_last_62 O_points_63 O_least_64 O_greatest_65 O_sum_66, rI aTi cI 961 T_image_77, rI aTp cI 96 T_packedFrom_78, rI aTt cZ 1661 T_taken_69, oX1 aC aI aG aV C_isOpen_2 C_series C_from C_to C_entry C_entriesEnd C_pointsLeft C_block C_time_3 C_value_4]) (v := (some (.int r_91))) hx hb hml hown htc hN (c_X7_chunks l G cI cZ cJ aT aD aI aK aO aTi aTp aTt T_chunks_75 T_chunksMade_51 T_openFrom_52 T_lacksSpace_76  hE_90) mw_602 mw_603 mw_604 mw_7 mw_605 hd_X7_chunks ⟨rfl, rfl⟩ ⟨Nat.le_of_ble_eq_true rfl, Nat.le_of_ble_eq_true rfl⟩ hK hw89 hA [5] [0, 1, 2, 3, 4, 6, 7, 8, 9, 10, 11, 12] [0, 1, 2, 3, 4, 12, 5, 6, 7, 8, 9, 10, 11] rfl rfl rfl rfl rfl (by decide) rfl rfl rfl 0 rfl rfl rfl rfl hl21.1 rfl rfl (Nat.le_of_ble_eq_true rfl) dX9_compact_112 ⟨Nat.zero_le _, Nat.zero_le _⟩ (fun H92 locs92 hw92 => ?_)
        clear hw89 H89 locs89
        refine lv_isub hx hb dX9_compact_115 ?_
        replace hfin := ob6_some hfin
        obtain ⟨r_94, D_writesDone_95, D_writesLeft_96, D_down_97, D_cells_98, T_image_99, hE_93, hfin⟩ := hfin
        refine ctV (a := aP) (As := [.int r_85, .int (r_88 - r_91)]) (rest := []) (st1 := [.int r_94]) (wc := [oX9 aP P_seriesCount P_most P_ratio aD aI aG aU aT aQ aC P_recoveries, oX2 aD aDc D_writesDone D_writesLeft D_down, rI aDc cI 4096 D_cells, oX7 aT aD aI aK aO aTi aTp aTt T_chunks_75 T_chunksMade_51 T_openFrom_52 T_lacksSpace_76, oX5 aK aKc K_used_54 K_bitsFree_55 K_full_56 K_time_57 K_value_58 K_rise_59, rI aKc cI 1661 K_cells_60, rI aTi cI 961 T_image_77, rI aTp cI 96 T_packedFrom_78]) (w1 := [oX9 aP P_seriesCount P_most P_ratio aD aI aG aU aT aQ aC P_recoveries, oX2 aD aDc D_writesDone_95 D_writesLeft_96 D_down_97, rI aDc cI 4096 D_cells_98, oX7 aT aD aI aK aO aTi aTp aTt T_chunks_75 T_chunksMade_51 T_openFrom_52 T_lacksSpace_76, oX5 aK aKc K_used_54 K_bitsFree_55 K_full_56 K_time_57 K_value_58 K_rise_59, rI aKc cI 1661 K_cells_60, rI aTi cI 961 T_image_99, rI aTp cI 96 T_packedFrom_78]) (wr := [oX3 aI aD, oX8 aU aD U_place_44 U_bitsRead_45 U_started_46 U_time_47 U_value_48 U_rise_49, oX6 aO O_first_61 O_last_62 O_points_63 O_least_64 O_greatest_65 O_sum_66, rI aTt cZ 1661 T_taken_69, oX1 aC aI aG aV C_isOpen_2 C_series C_from C_to C_entry C_entriesEnd C_pointsLeft C_block C_time_3 C_value_4]) (wb := [oX9 aP P_seriesCount P_most P_ratio aD aI aG aU aT aQ aC P_recoveries, oX2 aD aDc D_writesDone_95 D_writesLeft_96 D_down_97, rI aDc cI 4096 D_cells_98, oX3 aI aD, oX8 aU aD U_place_44 U_bitsRead_45 U_started_46 U_time_47 U_value_48 U_rise_49, oX7 aT aD aI aK aO aTi aTp aTt T_chunks_75 T_chunksMade_51 T_openFrom_52 T_lacksSpace_76, oX5 aK aKc K_used_54 K_bitsFree_55 K_full_56 K_time_57 K_value_58 K_rise_59, rI aKc cI 1661 K_cells_60, oX6 aO O_first_61 O_last_62 O_points_63 O_least_64 O_greatest_65 O_sum_66, rI aTi cI 961 T_image_99, rI aTp cI 96 T_packedFrom_78, rI aTt cZ 1661 T_taken_69, oX1 aC aI aG aV C_isOpen_2 C_series C_from C_to C_entry C_entriesEnd C_pointsLeft C_block C_time_3 C_value_4]) (v := (some (.int r_94))) hx hb hml hown htc hN (c_X9_turnDisk l G cI cZ cJ aP aD aI aG aU aT aQ aC aDc aK aO aTi aTp aTt aKc P_seriesCount P_most P_ratio P_recoveries D_writesDone D_writesLeft D_down D_cells T_chunks_75 T_chunksMade_51 T_openFrom_52 T_lacksSpace_76 K_used_54 K_bitsFree_55 K_full_56 K_time_57 K_value_58 K_rise_59 K_cells_60 T_image_77 T_packedFrom_78 r_85 (r_88 - r_91) hE_93) mw_528 mw_530 mp_12 mw_1 mw_531 hd_X9_turnDisk ⟨rfl, rfl⟩ ⟨Nat.le_of_ble_eq_true rfl, Nat.le_of_ble_eq_true rfl⟩ hK hw92 hA [0, 1, 2, 5, 6, 7, 9, 10] [3, 4, 8, 11, 12] [5, 6, 7, 0, 1, 8, 9, 10, 2, 11, 12, 3, 4] rfl rfl rfl rfl rfl (by decide) rfl rfl rfl 0 rfl rfl rfl rfl hl21.1 rfl rfl (Nat.le_of_ble_eq_true rfl) dX9_compact_116 ⟨Nat.zero_le _, Nat.zero_le _⟩ (fun H100 locs100 hw100 => ?_)
        clear hw92 H92 locs92
        cases hfin
        rw [hQQ]
        exact ct_iret hx hb hr hlocks hw100.1 hw100.2.1 hw100.2.2 dX9_compact_119
      · replace hfin := it_t c_83 hfin
        refine lv_iconst (v := (0 : Int32)) hx hb dX9_compact_91 (by decide) ?_
        cases hfin
        rw [hQQ]
        exact ct_iret hx hb hr hlocks hw82.1 hw82.2.1 hw82.2.2 dX9_compact_92
    · replace hfin := it_t c_13 hfin
      refine lv_bipush (v := (-2 : Int32)) hx hb dX9_compact_28 (by decide) ?_
      cases hfin
      rw [hQQ]
      exact ct_iret hx hb hr hlocks hw12.1 hw12.2.1 hw12.2.2 dX9_compact_30
  · replace hfin := it_f c_9 hfin
    refine lv_bipush (v := (-9 : Int32)) hx hb dX9_compact_17 (by decide) ?_
    cases hfin
    rw [hQQ]
    exact ct_iret hx hb hr hlocks hw8.1 hw8.2.1 hw8.2.2 dX9_compact_19
abbrev rm_X9_expire : Room := { frames := 5, cells := 0, slots := 0, locals := 112 }
theorem hd_X9_expire : yX9_expire.cls = RX9 ∧ yX9_expire.cls ≠ "java/lang/invoke/MethodHandle" ∧ yX9_expire.cls ≠ "java/lang/invoke/VarHandle" ∧ (parseMethodDescriptor yX9_expire.desc).map (fun d => d.parameters.length) = some 1 := by decide +kernel
set_option maxHeartbeats 4000000 in
set_option maxRecDepth 100000 in
theorem c_X9_expire (l : Launch) (G : va_G) (cI cZ cJ : ClassId) (aP aD aI aG aU aT aQ aC aDc aK aO aTi aTp aTt aKc aV : Nat) (P_seriesCount : Int32) (P_most : Int32) (P_ratio : Int32) (P_recoveries : Int32) (D_writesDone : Int32) (D_writesLeft : Int32) (D_down : Int32) (D_cells : Nat → Int32) (T_chunks : Int32) (T_chunksMade : Int32) (T_openFrom : Int32) (T_lacksSpace : Int32) (K_used : Int32) (K_bitsFree : Int32) (K_full : Int32) (K_time : Int32) (K_value : Int32) (K_rise : Int64) (K_cells : Nat → Int32) (O_first : Int32) (O_last : Int32) (O_points : Int32) (O_least : Int32) (O_greatest : Int32) (O_sum : Int64) (T_image : Nat → Int32) (T_packedFrom : Nat → Int32) (T_taken : Nat → Int32) (C_isOpen : Int32) (C_series : Int32) (C_from : Int32) (C_to : Int32) (C_entry : Int32) (C_entriesEnd : Int32) (C_pointsLeft : Int32) (C_block : Int32) (C_time : Int32) (C_value : Int32) (p0 : Int32) {r : Int32} {o_D_writesDone : Int32} {o_D_writesLeft : Int32} {o_D_down : Int32} {o_D_cells : Nat → Int32} {o_T_chunks : Int32} {o_T_chunksMade : Int32} {o_T_lacksSpace : Int32} {o_K_used : Int32} {o_K_bitsFree : Int32} {o_K_full : Int32} {o_O_first : Int32} {o_O_last : Int32} {o_O_points : Int32} {o_O_least : Int32} {o_O_greatest : Int32} {o_O_sum : Int64} {o_T_image : Nat → Int32} {o_T_packedFrom : Nat → Int32} {o_T_taken : Nat → Int32} {o_C_isOpen : Int32} {o_C_time : Int32} {o_C_value : Int32} (hfin : m_X9_expire D_writesDone D_writesLeft D_down D_cells T_chunks T_chunksMade T_lacksSpace K_used K_bitsFree K_full K_cells O_first O_last O_points O_least O_greatest O_sum T_image T_packedFrom T_taken C_isOpen C_time C_value p0 = some (r, o_D_writesDone, o_D_writesLeft, o_D_down, o_D_cells, o_T_chunks, o_T_chunksMade, o_T_lacksSpace, o_K_used, o_K_bitsFree, o_K_full, o_O_first, o_O_last, o_O_points, o_O_least, o_O_greatest, o_O_sum, o_T_image, o_T_packedFrom, o_T_taken, o_C_isOpen, o_C_time, o_C_value)) : CT l yX9_expire cX9_expire 4 (some .int) rm_X9_expire G (tyC cI cZ cJ) [.ref aP, .int p0] [oX9 aP P_seriesCount P_most P_ratio aD aI aG aU aT aQ aC P_recoveries, oX2 aD aDc D_writesDone D_writesLeft D_down, rI aDc cI 4096 D_cells, oX3 aI aD, oX7 aT aD aI aK aO aTi aTp aTt T_chunks T_chunksMade T_openFrom T_lacksSpace, oX5 aK aKc K_used K_bitsFree K_full K_time K_value K_rise, rI aKc cI 1661 K_cells, oX6 aO O_first O_last O_points O_least O_greatest O_sum, rI aTi cI 961 T_image, rI aTp cI 96 T_packedFrom, rI aTt cZ 1661 T_taken, oX1 aC aI aG aV C_isOpen C_series C_from C_to C_entry C_entriesEnd C_pointsLeft C_block C_time C_value] (some (.int r)) [oX9 aP P_seriesCount P_most P_ratio aD aI aG aU aT aQ aC P_recoveries, oX2 aD aDc o_D_writesDone o_D_writesLeft o_D_down, rI aDc cI 4096 o_D_cells, oX3 aI aD, oX7 aT aD aI aK aO aTi aTp aTt o_T_chunks o_T_chunksMade T_openFrom o_T_lacksSpace, oX5 aK aKc o_K_used o_K_bitsFree o_K_full K_time K_value K_rise, rI aKc cI 1661 K_cells, oX6 aO o_O_first o_O_last o_O_points o_O_least o_O_greatest o_O_sum, rI aTi cI 961 o_T_image, rI aTp cI 96 o_T_packedFrom, rI aTt cZ 1661 o_T_taken, oX1 aC aI aG aV o_C_isOpen C_series C_from C_to C_entry C_entriesEnd C_pointsLeft C_block o_C_time o_C_value] := by
  refine CT.ofW (lvl := [(0, .ref aP), (1, .int p0)]) (by decide) (Nat.le_of_ble_eq_true rfl) rfl ?_
  intro p e s m args below meth c A ls0 QQ hQQ hx hb hml hr hlocks htc hN hown hK hA hw0 hl0
  rw [m_X9_expire] at hfin
  refine lv_aload_n hx hb dX9_expire_0 rfl (lv_at hl0 0 rfl) ?_
  refine va_get (D := G) (ci := 9) (v := .ref aC) (C := RX9) (T := TX9) (N := 11) hx hb htc iX9 hown hK hw0.1 0 rfl rfl 9 (by decide) (htc _ mw_312) (fun _ h9 => h9) rfl dX9_expire_1 ?_
  replace hfin := ob3_some hfin
  obtain ⟨C_isOpen_2, C_time_3, C_value_4, hE_1, hfin⟩ := hfin
  refine ctV (a := aC) (As := []) (rest := []) (st1 := []) (wc := [oX1 aC aI aG aV C_isOpen C_series C_from C_to C_entry C_entriesEnd C_pointsLeft C_block C_time C_value]) (w1 := [oX1 aC aI aG aV C_isOpen_2 C_series C_from C_to C_entry C_entriesEnd C_pointsLeft C_block C_time_3 C_value_4]) (wr := [oX9 aP P_seriesCount P_most P_ratio aD aI aG aU aT aQ aC P_recoveries, oX2 aD aDc D_writesDone D_writesLeft D_down, rI aDc cI 4096 D_cells, oX3 aI aD, oX7 aT aD aI aK aO aTi aTp aTt T_chunks T_chunksMade T_openFrom T_lacksSpace, oX5 aK aKc K_used K_bitsFree K_full K_time K_value K_rise, rI aKc cI 1661 K_cells, oX6 aO O_first O_last O_points O_least O_greatest O_sum, rI aTi cI 961 T_image, rI aTp cI 96 T_packedFrom, rI aTt cZ 1661 T_taken]) (wb := [oX9 aP P_seriesCount P_most P_ratio aD aI aG aU aT aQ aC P_recoveries, oX2 aD aDc D_writesDone D_writesLeft D_down, rI aDc cI 4096 D_cells, oX3 aI aD, oX7 aT aD aI aK aO aTi aTp aTt T_chunks T_chunksMade T_openFrom T_lacksSpace, oX5 aK aKc K_used K_bitsFree K_full K_time K_value K_rise, rI aKc cI 1661 K_cells, oX6 aO O_first O_last O_points O_least O_greatest O_sum, rI aTi cI 961 T_image, rI aTp cI 96 T_packedFrom, rI aTt cZ 1661 T_taken, oX1 aC aI aG aV C_isOpen_2 C_series C_from C_to C_entry C_entriesEnd C_pointsLeft C_block C_time_3 C_value_4]) (v := none) hx hb hml hown htc hN (c_X1_close l G cI cZ cJ aC aI aG aV C_isOpen C_series C_from C_to C_entry C_entriesEnd C_pointsLeft C_block C_time C_value  hE_1) mw_341 mw_342 mw_343 mw_11 mw_344 hd_X1_close ⟨rfl, rfl⟩ ⟨Nat.le_of_ble_eq_true rfl, Nat.le_of_ble_eq_true rfl⟩ hK hw0 hA [11] [0, 1, 2, 3, 4, 5, 6, 7, 8, 9, 10] [0, 1, 2, 3, 4, 5, 6, 7, 8, 9, 10, 11] rfl rfl rfl rfl rfl (by decide) rfl rfl rfl 0 rfl rfl rfl rfl hl0.1 rfl rfl (Nat.le_of_ble_eq_true rfl) dX9_expire_4 ⟨Nat.zero_le _, Nat.zero_le _⟩ (fun H5 locs5 hw5 => ?_)
  clear hw0
  refine lv_aload_n hx hb dX9_expire_7 rfl (lv_at hl0 0 rfl) ?_
  refine va_get (D := G) (ci := 9) (v := .ref aD) (C := RX9) (T := TX9) (N := 11) hx hb htc iX9 hown hK hw5.1 0 rfl rfl 3 (by decide) (htc _ mw_306) (fun _ h9 => h9) rfl dX9_expire_8 ?_
  replace hfin := ob1_some hfin
  obtain ⟨r_7, hE_6, hfin⟩ := hfin
  refine ctV (a := aD) (As := []) (rest := []) (st1 := [.int r_7]) (wc := [oX2 aD aDc D_writesDone D_writesLeft D_down]) (w1 := [oX2 aD aDc D_writesDone D_writesLeft D_down]) (wr := [oX9 aP P_seriesCount P_most P_ratio aD aI aG aU aT aQ aC P_recoveries, rI aDc cI 4096 D_cells, oX3 aI aD, oX7 aT aD aI aK aO aTi aTp aTt T_chunks T_chunksMade T_openFrom T_lacksSpace, oX5 aK aKc K_used K_bitsFree K_full K_time K_value K_rise, rI aKc cI 1661 K_cells, oX6 aO O_first O_last O_points O_least O_greatest O_sum, rI aTi cI 961 T_image, rI aTp cI 96 T_packedFrom, rI aTt cZ 1661 T_taken, oX1 aC aI aG aV C_isOpen_2 C_series C_from C_to C_entry C_entriesEnd C_pointsLeft C_block C_time_3 C_value_4]) (wb := [oX9 aP P_seriesCount P_most P_ratio aD aI aG aU aT aQ aC P_recoveries, oX2 aD aDc D_writesDone D_writesLeft D_down, rI aDc cI 4096 D_cells, oX3 aI aD, oX7 aT aD aI aK aO aTi aTp aTt T_chunks T_chunksMade T_openFrom T_lacksSpace, oX5 aK aKc K_used K_bitsFree K_full K_time K_value K_rise, rI aKc cI 1661 K_cells, oX6 aO O_first O_last O_points O_least O_greatest O_sum, rI aTi cI 961 T_image, rI aTp cI 96 T_packedFrom, rI aTt cZ 1661 T_taken, oX1 aC aI aG aV C_isOpen_2 C_series C_from C_to C_entry C_entriesEnd C_pointsLeft C_block C_time_3 C_value_4]) (v := (some (.int r_7))) hx hb hml hown htc hN (c_X2_isDown l G cI cZ cJ aD aDc D_writesDone D_writesLeft D_down  hE_6) mw_345 mw_346 mw_347 mw_3 mw_348 hd_X2_isDown ⟨rfl, rfl⟩ ⟨Nat.le_of_ble_eq_true rfl, Nat.le_of_ble_eq_true rfl⟩ hK hw5 hA [1] [0, 2, 3, 4, 5, 6, 7, 8, 9, 10, 11] [0, 11, 1, 2, 3, 4, 5, 6, 7, 8, 9, 10] rfl rfl rfl rfl rfl (by decide) rfl rfl rfl 0 rfl rfl rfl rfl hl0.1 rfl rfl (Nat.le_of_ble_eq_true rfl) dX9_expire_11 ⟨Nat.zero_le _, Nat.zero_le _⟩ (fun H8 locs8 hw8 => ?_)
  clear hw5 H5 locs5
  refine lv_if_eq (tgt := 20) hx hb dX9_expire_14 (by decide) (fun c_9 => ?_) (fun c_9 => ?_)
  · replace hfin := it_t c_9 hfin
    refine lv_iconst (v := (0 : Int32)) hx hb dX9_expire_20 (by decide) ?_
    refine lv_istore_n (lv' := [(2, .int (0 : Int32)), (0, .ref aP), (1, .int p0)]) hx hb dX9_expire_21 rfl hl0 (by decide) rfl (fun ls10 hl10 => ?_)
    clear hl0 ls0
    refine lv_aload_n hx hb dX9_expire_22 rfl (lv_at hl10 1 rfl) ?_
    refine va_get (D := G) (ci := 9) (v := .ref aT) (C := RX9) (T := TX9) (N := 11) hx hb htc iX9 hown hK hw8.1 0 rfl rfl 7 (by decide) (htc _ mw_310) (fun _ h9 => h9) rfl dX9_expire_23 ?_
    replace hfin := ob13_some hfin
    obtain ⟨T_chunks_12, T_chunksMade_13, T_lacksSpace_14, K_used_15, K_bitsFree_16, K_full_17, O_first_18, O_last_19, O_points_20, O_least_21, O_greatest_22, O_sum_23, T_taken_24, hE_11, hfin⟩ := hfin
    refine ctV (a := aT) (As := []) (rest := []) (st1 := []) (wc := [oX2 aD aDc D_writesDone D_writesLeft D_down, rI aDc cI 4096 D_cells, oX3 aI aD, oX7 aT aD aI aK aO aTi aTp aTt T_chunks T_chunksMade T_openFrom T_lacksSpace, oX5 aK aKc K_used K_bitsFree K_full K_time K_value K_rise, oX6 aO O_first O_last O_points O_least O_greatest O_sum, rI aTt cZ 1661 T_taken]) (w1 := [oX2 aD aDc D_writesDone D_writesLeft D_down, rI aDc cI 4096 D_cells, oX3 aI aD, oX7 aT aD aI aK aO aTi aTp aTt T_chunks_12 T_chunksMade_13 T_openFrom T_lacksSpace_14, oX5 aK aKc K_used_15 K_bitsFree_16 K_full_17 K_time K_value K_rise, oX6 aO O_first_18 O_last_19 O_points_20 O_least_21 O_greatest_22 O_sum_23, rI aTt cZ 1661 T_taken_24]) (wr := [oX9 aP P_seriesCount P_most P_ratio aD aI aG aU aT aQ aC P_recoveries, rI aKc cI 1661 K_cells, rI aTi cI 961 T_image, rI aTp cI 96 T_packedFrom, oX1 aC aI aG aV C_isOpen_2 C_series C_from C_to C_entry C_entriesEnd C_pointsLeft C_block C_time_3 C_value_4]) (wb := [oX9 aP P_seriesCount P_most P_ratio aD aI aG aU aT aQ aC P_recoveries, oX2 aD aDc D_writesDone D_writesLeft D_down, rI aDc cI 4096 D_cells, oX3 aI aD, oX7 aT aD aI aK aO aTi aTp aTt T_chunks_12 T_chunksMade_13 T_openFrom T_lacksSpace_14, oX5 aK aKc K_used_15 K_bitsFree_16 K_full_17 K_time K_value K_rise, rI aKc cI 1661 K_cells, oX6 aO O_first_18 O_last_19 O_points_20 O_least_21 O_greatest_22 O_sum_23, rI aTi cI 961 T_image, rI aTp cI 96 T_packedFrom, rI aTt cZ 1661 T_taken_24, oX1 aC aI aG aV C_isOpen_2 C_series C_from C_to C_entry C_entriesEnd C_pointsLeft C_block C_time_3 C_value_4]) (v := none) hx hb hml hown htc hN (c_X7_begin l G cI cZ cJ aD aDc aI aT aK aO aTi aTp aTt aKc D_writesDone D_writesLeft D_down D_cells T_chunks T_chunksMade T_openFrom T_lacksSpace K_used K_bitsFree K_full K_time K_value K_rise O_first O_last O_points O_least O_greatest O_sum T_taken  hE_11) mw_420 mw_421 mw_422 mw_7 mw_423 hd_X7_begin ⟨rfl, rfl⟩ ⟨Nat.le_of_ble_eq_true rfl, Nat.le_of_ble_eq_true rfl⟩ hK hw8 hA [1, 2, 3, 4, 5, 7, 10] [0, 6, 8, 9, 11] [0, 5, 6, 7, 8, 9, 1, 10, 2, 3, 11, 4] rfl rfl rfl rfl rfl (by decide) rfl rfl rfl 3 rfl rfl rfl rfl hl10.1 rfl rfl (Nat.le_of_ble_eq_true rfl) dX9_expire_26 ⟨Nat.zero_le _, Nat.zero_le _⟩ (fun H25 locs25 hw25 => ?_)
    clear hw8 H8 locs8
    refine lv_iconst (v := (0 : Int32)) hx hb dX9_expire_29 (by decide) ?_
    refine lv_istore_n (lv' := [(3, .int (0 : Int32)), (2, .int (0 : Int32)), (0, .ref aP), (1, .int p0)]) hx hb dX9_expire_30 rfl hl10 (by decide) rfl (fun ls26 hl26 => ?_)
    clear hl10 ls10
    replace hfin := ob5_some hfin
    obtain ⟨v2_37, T_chunks_38, T_lacksSpace_39, T_image_40, T_packedFrom_41, hL_33, hfin⟩ := hfin
    have kx_34 : ∀ (H : Heap) (locs : List Loc) (ls : Array Slot), wS G A s H locs [oX9 aP P_seriesCount P_most P_ratio aD aI aG aU aT aQ aC P_recoveries, oX2 aD aDc D_writesDone D_writesLeft D_down, rI aDc cI 4096 D_cells, oX3 aI aD, oX7 aT aD aI aK aO aTi aTp aTt T_chunks_38 T_chunksMade_13 T_openFrom T_lacksSpace_39, oX5 aK aKc K_used_15 K_bitsFree_16 K_full_17 K_time K_value K_rise, rI aKc cI 1661 K_cells, oX6 aO O_first_18 O_last_19 O_points_20 O_least_21 O_greatest_22 O_sum_23, rI aTi cI 961 T_image_40, rI aTp cI 96 T_packedFrom_41, rI aTt cZ 1661 T_taken_24, oX1 aC aI aG aV C_isOpen_2 C_series C_from C_to C_entry C_entriesEnd C_pointsLeft C_block C_time_3 C_value_4] → lv_has ls 4 [(0, .ref aP), (2, .int v2_37)] → W p l e rm_X9_expire s m args below meth c H locs 0 0 QQ (F0 m 84 ls []) := by
      clear hw25 H25 locs25 hl26 ls26 hL_33
      intro H70 locs70 ls70 hw70 hl70
      refine lv_iload_n hx hb dX9_expire_84 rfl (lv_at hl70 1 rfl) ?_
      refine lv_if_ne (tgt := 90) hx hb dX9_expire_85 (by decide) (fun c_71 => ?_) (fun c_71 => ?_)
      · replace hfin := it_f c_71 hfin
        refine lv_aload_n hx hb dX9_expire_90 rfl (lv_at hl70 0 rfl) ?_
        refine lv_aload_n hx hb dX9_expire_91 rfl (lv_at hl70 0 rfl) ?_
        refine va_get (D := G) (ci := 9) (v := .ref aD) (C := RX9) (T := TX9) (N := 11) hx hb htc iX9 hown hK hw70.1 0 rfl rfl 3 (by decide) (htc _ mw_306) (fun _ h9 => h9) rfl dX9_expire_92 ?_
        replace hfin := ob1_some hfin
        obtain ⟨r_73, hE_72, hfin⟩ := hfin
        refine ctV (a := aD) (As := []) (rest := [.ref aP]) (st1 := [.int r_73, .ref aP]) (wc := [oX2 aD aDc D_writesDone D_writesLeft D_down, rI aDc cI 4096 D_cells]) (w1 := [oX2 aD aDc D_writesDone D_writesLeft D_down, rI aDc cI 4096 D_cells]) (wr := [oX9 aP P_seriesCount P_most P_ratio aD aI aG aU aT aQ aC P_recoveries, oX3 aI aD, oX7 aT aD aI aK aO aTi aTp aTt T_chunks_38 T_chunksMade_13 T_openFrom T_lacksSpace_39, oX5 aK aKc K_used_15 K_bitsFree_16 K_full_17 K_time K_value K_rise, rI aKc cI 1661 K_cells, oX6 aO O_first_18 O_last_19 O_points_20 O_least_21 O_greatest_22 O_sum_23, rI aTi cI 961 T_image_40, rI aTp cI 96 T_packedFrom_41, rI aTt cZ 1661 T_taken_24, oX1 aC aI aG aV C_isOpen_2 C_series C_from C_to C_entry C_entriesEnd C_pointsLeft C_block C_time_3 C_value_4]) (wb := [oX9 aP P_seriesCount P_most P_ratio aD aI aG aU aT aQ aC P_recoveries, oX2 aD aDc D_writesDone D_writesLeft D_down, rI aDc cI 4096 D_cells, oX3 aI aD, oX7 aT aD aI aK aO aTi aTp aTt T_chunks_38 T_chunksMade_13 T_openFrom T_lacksSpace_39, oX5 aK aKc K_used_15 K_bitsFree_16 K_full_17 K_time K_value K_rise, rI aKc cI 1661 K_cells, oX6 aO O_first_18 O_last_19 O_points_20 O_least_21 O_greatest_22 O_sum_23, rI aTi cI 961 T_image_40, rI aTp cI 96 T_packedFrom_41, rI aTt cZ 1661 T_taken_24, oX1 aC aI aG aV C_isOpen_2 C_series C_from C_to C_entry C_entriesEnd C_pointsLeft C_block C_time_3 C_value_4]) (v := (some (.int r_73))) hx hb hml hown htc hN (c_X2_epoch l G cI cZ cJ aD aDc D_writesDone D_writesLeft D_down D_cells  hE_72) mw_523 mw_409 mw_410 mw_3 mw_411 hd_X2_epoch ⟨rfl, rfl⟩ ⟨Nat.le_of_ble_eq_true rfl, Nat.le_of_ble_eq_true rfl⟩ hK hw70 hA [1, 2] [0, 3, 4, 5, 6, 7, 8, 9, 10, 11] [0, 10, 11, 1, 2, 3, 4, 5, 6, 7, 8, 9] rfl rfl rfl rfl rfl (by decide) rfl rfl rfl 0 rfl rfl rfl rfl hl70.1 rfl rfl (Nat.le_of_ble_eq_true rfl) dX9_expire_95 ⟨Nat.zero_le _, Nat.zero_le _⟩ (fun H74 locs74 hw74 => ?_)
        clear hw70 H70 locs70
        refine lv_iload_n hx hb dX9_expire_98 rfl (lv_at hl70 1 rfl) ?_
        replace hfin := ob6_some hfin
        obtain ⟨r_76, D_writesDone_77, D_writesLeft_78, D_down_79, D_cells_80, T_image_81, hE_75, hfin⟩ := hfin
        refine ctV (a := aP) (As := [.int r_73, .int v2_37]) (rest := []) (st1 := [.int r_76]) (wc := [oX9 aP P_seriesCount P_most P_ratio aD aI aG aU aT aQ aC P_recoveries, oX2 aD aDc D_writesDone D_writesLeft D_down, rI aDc cI 4096 D_cells, oX7 aT aD aI aK aO aTi aTp aTt T_chunks_38 T_chunksMade_13 T_openFrom T_lacksSpace_39, oX5 aK aKc K_used_15 K_bitsFree_16 K_full_17 K_time K_value K_rise, rI aKc cI 1661 K_cells, rI aTi cI 961 T_image_40, rI aTp cI 96 T_packedFrom_41]) (w1 := [oX9 aP P_seriesCount P_most P_ratio aD aI aG aU aT aQ aC P_recoveries, oX2 aD aDc D_writesDone_77 D_writesLeft_78 D_down_79, rI aDc cI 4096 D_cells_80, oX7 aT aD aI aK aO aTi aTp aTt T_chunks_38 T_chunksMade_13 T_openFrom T_lacksSpace_39, oX5 aK aKc K_used_15 K_bitsFree_16 K_full_17 K_time K_value K_rise, rI aKc cI 1661 K_cells, rI aTi cI 961 T_image_81, rI aTp cI 96 T_packedFrom_41]) (wr := [oX3 aI aD, oX6 aO O_first_18 O_last_19 O_points_20 O_least_21 O_greatest_22 O_sum_23, rI aTt cZ 1661 T_taken_24, oX1 aC aI aG aV C_isOpen_2 C_series C_from C_to C_entry C_entriesEnd C_pointsLeft C_block C_time_3 C_value_4]) (wb := [oX9 aP P_seriesCount P_most P_ratio aD aI aG aU aT aQ aC P_recoveries, oX2 aD aDc D_writesDone_77 D_writesLeft_78 D_down_79, rI aDc cI 4096 D_cells_80, oX3 aI aD, oX7 aT aD aI aK aO aTi aTp aTt T_chunks_38 T_chunksMade_13 T_openFrom T_lacksSpace_39, oX5 aK aKc K_used_15 K_bitsFree_16 K_full_17 K_time K_value K_rise, rI aKc cI 1661 K_cells, oX6 aO O_first_18 O_last_19 O_points_20 O_least_21 O_greatest_22 O_sum_23, rI aTi cI 961 T_image_81, rI aTp cI 96 T_packedFrom_41, rI aTt cZ 1661 T_taken_24, oX1 aC aI aG aV C_isOpen_2 C_series C_from C_to C_entry C_entriesEnd C_pointsLeft C_block C_time_3 C_value_4]) (v := (some (.int r_76))) hx hb hml hown htc hN (c_X9_turnDisk l G cI cZ cJ aP aD aI aG aU aT aQ aC aDc aK aO aTi aTp aTt aKc P_seriesCount P_most P_ratio P_recoveries D_writesDone D_writesLeft D_down D_cells T_chunks_38 T_chunksMade_13 T_openFrom T_lacksSpace_39 K_used_15 K_bitsFree_16 K_full_17 K_time K_value K_rise K_cells T_image_40 T_packedFrom_41 r_73 v2_37 hE_75) mw_528 mw_530 mp_12 mw_1 mw_531 hd_X9_turnDisk ⟨rfl, rfl⟩ ⟨Nat.le_of_ble_eq_true rfl, Nat.le_of_ble_eq_true rfl⟩ hK hw74 hA [0, 1, 2, 4, 5, 6, 8, 9] [3, 7, 10, 11] [4, 5, 6, 0, 7, 8, 9, 1, 10, 11, 2, 3] rfl rfl rfl rfl rfl (by decide) rfl rfl rfl 0 rfl rfl rfl rfl hl70.1 rfl rfl (Nat.le_of_ble_eq_true rfl) dX9_expire_99 ⟨Nat.zero_le _, Nat.zero_le _⟩ (fun H82 locs82 hw82 => ?_)
        clear hw74 H74 locs74
        cases hfin
        rw [hQQ]
        exact ct_iret hx hb hr hlocks hw82.1 hw82.2.1 hw82.2.2 dX9_expire_102
      · replace hfin := it_t c_71 hfin
        refine lv_iconst (v := (0 : Int32)) hx hb dX9_expire_88 (by decide) ?_
        cases hfin
        rw [hQQ]
        exact ct_iret hx hb hr hlocks hw70.1 hw70.2.1 hw70.2.2 dX9_expire_89
    have lp_35 : ∀ (n : Nat) (v2_27 : Int32) (v3_28 : Int32) (T_chunks_29 : Int32) (T_lacksSpace_30 : Int32) (T_image_31 : Nat → Int32) (T_packedFrom_32 : Nat → Int32), lp_X9_expire_31 D_cells p0 n v2_27 v3_28 T_chunks_29 T_lacksSpace_30 T_image_31 T_packedFrom_32 = some (v2_37, T_chunks_38, T_lacksSpace_39, T_image_40, T_packedFrom_41) → ∀ (H : Heap) (locs : List Loc) (ls : Array Slot), wS G A s H locs [oX9 aP P_seriesCount P_most P_ratio aD aI aG aU aT aQ aC P_recoveries, oX2 aD aDc D_writesDone D_writesLeft D_down, rI aDc cI 4096 D_cells, oX3 aI aD, oX7 aT aD aI aK aO aTi aTp aTt T_chunks_29 T_chunksMade_13 T_openFrom T_lacksSpace_30, oX5 aK aKc K_used_15 K_bitsFree_16 K_full_17 K_time K_value K_rise, rI aKc cI 1661 K_cells, oX6 aO O_first_18 O_last_19 O_points_20 O_least_21 O_greatest_22 O_sum_23, rI aTi cI 961 T_image_31, rI aTp cI 96 T_packedFrom_32, rI aTt cZ 1661 T_taken_24, oX1 aC aI aG aV C_isOpen_2 C_series C_from C_to C_entry C_entriesEnd C_pointsLeft C_block C_time_3 C_value_4] → lv_has ls 4 [(0, .ref aP), (1, .int p0), (2, .int v2_27), (3, .int v3_28)] → W p l e rm_X9_expire s m args below meth c H locs 0 0 QQ (F0 m 31 ls []) := by
      clear hw25 H25 locs25 hl26 ls26 hfin
      intro n
      induction n with
      | zero =>
        intro v2_27 v3_28 T_chunks_29 T_lacksSpace_30 T_image_31 T_packedFrom_32 hB_36
        exact absurd hB_36 (by rw [lp_X9_expire_31]; exact fun h9 => nomatch h9)
      | succ n ih =>
        intro v2_27 v3_28 T_chunks_29 T_lacksSpace_30 T_image_31 T_packedFrom_32 hB_36 H42 locs42 ls42 hw42 hl42
        rw [lp_X9_expire_31] at hB_36
        refine lv_iload_n hx hb dX9_expire_31 rfl (lv_at hl42 3 rfl) ?_
        refine lv_aload_n hx hb dX9_expire_32 rfl (lv_at hl42 0 rfl) ?_
        refine va_get (D := G) (ci := 9) (v := .ref aI) (C := RX9) (T := TX9) (N := 11) hx hb htc iX9 hown hK hw42.1 0 rfl rfl 4 (by decide) (htc _ mw_307) (fun _ h9 => h9) rfl dX9_expire_33 ?_
        replace hB_36 := ob1_some hB_36
        obtain ⟨r_44, hE_43, hB_36⟩ := hB_36
        refine ctV (a := aI) (As := []) (rest := [.int v3_28]) (st1 := [.int r_44, .int v3_28]) (wc := [oX2 aD aDc D_writesDone D_writesLeft D_down, rI aDc cI 4096 D_cells, oX3 aI aD]) (w1 := [oX2 aD aDc D_writesDone D_writesLeft D_down, rI aDc cI 4096 D_cells, oX3 aI aD]) (wr := [oX9 aP P_seriesCount P_most P_ratio aD aI aG aU aT aQ aC P_recoveries, oX7 aT aD aI aK aO aTi aTp aTt T_chunks_29 T_chunksMade_13 T_openFrom T_lacksSpace_30, oX5 aK aKc K_used_15 K_bitsFree_16 K_full_17 K_time K_value K_rise, rI aKc cI 1661 K_cells, oX6 aO O_first_18 O_last_19 O_points_20 O_least_21 O_greatest_22 O_sum_23, rI aTi cI 961 T_image_31, rI aTp cI 96 T_packedFrom_32, rI aTt cZ 1661 T_taken_24, oX1 aC aI aG aV C_isOpen_2 C_series C_from C_to C_entry C_entriesEnd C_pointsLeft C_block C_time_3 C_value_4]) (wb := [oX9 aP P_seriesCount P_most P_ratio aD aI aG aU aT aQ aC P_recoveries, oX2 aD aDc D_writesDone D_writesLeft D_down, rI aDc cI 4096 D_cells, oX3 aI aD, oX7 aT aD aI aK aO aTi aTp aTt T_chunks_29 T_chunksMade_13 T_openFrom T_lacksSpace_30, oX5 aK aKc K_used_15 K_bitsFree_16 K_full_17 K_time K_value K_rise, rI aKc cI 1661 K_cells, oX6 aO O_first_18 O_last_19 O_points_20 O_least_21 O_greatest_22 O_sum_23, rI aTi cI 961 T_image_31, rI aTp cI 96 T_packedFrom_32, rI aTt cZ 1661 T_taken_24, oX1 aC aI aG aV C_isOpen_2 C_series C_from C_to C_entry C_entriesEnd C_pointsLeft C_block C_time_3 C_value_4]) (v := (some (.int r_44))) hx hb hml hown htc hN (c_X3_chunks l G cI cZ cJ aD aDc aI D_writesDone D_writesLeft D_down D_cells  hE_43) mw_601 mw_379 mw_380 mw_4 mw_381 hd_X3_chunks ⟨rfl, rfl⟩ ⟨Nat.le_of_ble_eq_true rfl, Nat.le_of_ble_eq_true rfl⟩ hK hw42 hA [1, 2, 3] [0, 4, 5, 6, 7, 8, 9, 10, 11] [0, 9, 10, 11, 1, 2, 3, 4, 5, 6, 7, 8] rfl rfl rfl rfl rfl (by decide) rfl rfl rfl 2 rfl rfl rfl rfl hl42.1 rfl rfl (Nat.le_of_ble_eq_true rfl) dX9_expire_36 ⟨Nat.zero_le _, Nat.zero_le _⟩ (fun H45 locs45 hw45 => ?_)
        clear hw42 H42 locs42
        refine lv_icmp_ge (tgt := 84) hx hb dX9_expire_39 (by decide) (fun c_46 => ?_) (fun c_46 => ?_)
        · replace hB_36 := it_t c_46 hB_36
          cases hB_36
          exact kx_34 _ _ _ hw45 (lv_sub hl42 [0, 2] rfl)
        · replace hB_36 := it_f c_46 hB_36
          refine lv_aload_n hx hb dX9_expire_42 rfl (lv_at hl42 0 rfl) ?_
          refine va_get (D := G) (ci := 9) (v := .ref aI) (C := RX9) (T := TX9) (N := 11) hx hb htc iX9 hown hK hw45.1 0 rfl rfl 4 (by decide) (htc _ mw_307) (fun _ h9 => h9) rfl dX9_expire_43 ?_
          refine lv_iload_n hx hb dX9_expire_46 rfl (lv_at hl42 3 rfl) ?_
          refine lv_iconst (v := (2 : Int32)) hx hb dX9_expire_47 (by decide) ?_
          replace hB_36 := ob1_some hB_36
          obtain ⟨r_48, hE_47, hB_36⟩ := hB_36
          refine ctV (a := aI) (As := [.int v3_28, .int (2 : Int32)]) (rest := []) (st1 := [.int r_48]) (wc := [oX2 aD aDc D_writesDone D_writesLeft D_down, rI aDc cI 4096 D_cells, oX3 aI aD]) (w1 := [oX2 aD aDc D_writesDone D_writesLeft D_down, rI aDc cI 4096 D_cells, oX3 aI aD]) (wr := [oX9 aP P_seriesCount P_most P_ratio aD aI aG aU aT aQ aC P_recoveries, oX7 aT aD aI aK aO aTi aTp aTt T_chunks_29 T_chunksMade_13 T_openFrom T_lacksSpace_30, oX5 aK aKc K_used_15 K_bitsFree_16 K_full_17 K_time K_value K_rise, rI aKc cI 1661 K_cells, oX6 aO O_first_18 O_last_19 O_points_20 O_least_21 O_greatest_22 O_sum_23, rI aTi cI 961 T_image_31, rI aTp cI 96 T_packedFrom_32, rI aTt cZ 1661 T_taken_24, oX1 aC aI aG aV C_isOpen_2 C_series C_from C_to C_entry C_entriesEnd C_pointsLeft C_block C_time_3 C_value_4]) (wb := [oX9 aP P_seriesCount P_most P_ratio aD aI aG aU aT aQ aC P_recoveries, oX2 aD aDc D_writesDone D_writesLeft D_down, rI aDc cI 4096 D_cells, oX3 aI aD, oX7 aT aD aI aK aO aTi aTp aTt T_chunks_29 T_chunksMade_13 T_openFrom T_lacksSpace_30, oX5 aK aKc K_used_15 K_bitsFree_16 K_full_17 K_time K_value K_rise, rI aKc cI 1661 K_cells, oX6 aO O_first_18 O_last_19 O_points_20 O_least_21 O_greatest_22 O_sum_23, rI aTi cI 961 T_image_31, rI aTp cI 96 T_packedFrom_32, rI aTt cZ 1661 T_taken_24, oX1 aC aI aG aV C_isOpen_2 C_series C_from C_to C_entry C_entriesEnd C_pointsLeft C_block C_time_3 C_value_4]) (v := (some (.int r_48))) hx hb hml hown htc hN (c_X3_at l G cI cZ cJ aD aDc aI D_writesDone D_writesLeft D_down D_cells v3_28 (2 : Int32) hE_47) mw_395 mw_391 mw_392 mw_4 mw_393 hd_X3_at ⟨rfl, rfl⟩ ⟨Nat.le_of_ble_eq_true rfl, Nat.le_of_ble_eq_true rfl⟩ hK hw45 hA [1, 2, 3] [0, 4, 5, 6, 7, 8, 9, 10, 11] [0, 9, 10, 11, 1, 2, 3, 4, 5, 6, 7, 8] rfl rfl rfl rfl rfl (by decide) rfl rfl rfl 2 rfl rfl rfl rfl hl42.1 rfl rfl (Nat.le_of_ble_eq_true rfl) dX9_expire_48 ⟨Nat.zero_le _, Nat.zero_le _⟩ (fun H49 locs49 hw49 => ?_)
          clear hw45 H45 locs45
          refine lv_iload_n hx hb dX9_expire_51 rfl (lv_at hl42 1 rfl) ?_
          replace hB_36 := ob5_some hB_36
          obtain ⟨v2_50, T_chunks_51, T_lacksSpace_52, T_image_53, T_packedFrom_54, hJ_55, hB_36⟩ := hB_36
          have kj_56 : ∀ (H : Heap) (locs : List Loc) (ls : Array Slot), wS G A s H locs [oX9 aP P_seriesCount P_most P_ratio aD aI aG aU aT aQ aC P_recoveries, oX2 aD aDc D_writesDone D_writesLeft D_down, rI aDc cI 4096 D_cells, oX3 aI aD, oX7 aT aD aI aK aO aTi aTp aTt T_chunks_51 T_chunksMade_13 T_openFrom T_lacksSpace_52, oX5 aK aKc K_used_15 K_bitsFree_16 K_full_17 K_time K_value K_rise, rI aKc cI 1661 K_cells, oX6 aO O_first_18 O_last_19 O_points_20 O_least_21 O_greatest_22 O_sum_23, rI aTi cI 961 T_image_53, rI aTp cI 96 T_packedFrom_54, rI aTt cZ 1661 T_taken_24, oX1 aC aI aG aV C_isOpen_2 C_series C_from C_to C_entry C_entriesEnd C_pointsLeft C_block C_time_3 C_value_4] → lv_has ls 4 [(0, .ref aP), (1, .int p0), (2, .int v2_50), (3, .int v3_28)] → W p l e rm_X9_expire s m args below meth c H locs 0 0 QQ (F0 m 78 ls []) := by
            clear hw49 H49 locs49 hl42 ls42 hJ_55
            intro H68 locs68 ls68 hw68 hl68
            refine lv_iinc (v := (v3_28 + (1 : Int32))) (lv' := [(3, .int (v3_28 + (1 : Int32))), (0, .ref aP), (1, .int p0), (2, .int v2_50)]) hx hb dX9_expire_78 hl68 (k := 3) rfl rfl (by decide) rfl (fun ls69 hl69 => ?_)
            clear hl68 ls68
            refine lv_goto (tgt := 31) hx hb dX9_expire_81 (by decide) ?_
            exact ih v2_50 (v3_28 + (1 : Int32)) T_chunks_51 T_lacksSpace_52 T_image_53 T_packedFrom_54 hB_36 _ _ _ hw68 (lv_sub hl69 [1, 2, 3, 0] rfl)
          clear hB_36
          refine lv_icmp_ge (tgt := 70) hx hb dX9_expire_52 (by decide) (fun c_57 => ?_) (fun c_57 => ?_)
          · replace hJ_55 := it_t c_57 hJ_55
            refine lv_aload_n hx hb dX9_expire_70 rfl (lv_at hl42 0 rfl) ?_
            refine va_get (D := G) (ci := 9) (v := .ref aT) (C := RX9) (T := TX9) (N := 11) hx hb htc iX9 hown hK hw49.1 0 rfl rfl 7 (by decide) (htc _ mw_310) (fun _ h9 => h9) rfl dX9_expire_71 ?_
            refine lv_iload_n hx hb dX9_expire_74 rfl (lv_at hl42 3 rfl) ?_
            replace hJ_55 := ob4_some hJ_55
            obtain ⟨T_chunks_59, T_lacksSpace_60, T_image_61, T_packedFrom_62, hE_58, hJ_55⟩ := hJ_55
            refine ctV (a := aT) (As := [.int v3_28]) (rest := []) (st1 := []) (wc := [oX2 aD aDc D_writesDone D_writesLeft D_down, rI aDc cI 4096 D_cells, oX3 aI aD, oX7 aT aD aI aK aO aTi aTp aTt T_chunks_29 T_chunksMade_13 T_openFrom T_lacksSpace_30, rI aTi cI 961 T_image_31, rI aTp cI 96 T_packedFrom_32]) (w1 := [oX2 aD aDc D_writesDone D_writesLeft D_down, rI aDc cI 4096 D_cells, oX3 aI aD, oX7 aT aD aI aK aO aTi aTp aTt T_chunks_59 T_chunksMade_13 T_openFrom T_lacksSpace_60, rI aTi cI 961 T_image_61, rI aTp cI 96 T_packedFrom_62]) (wr := [oX9 aP P_seriesCount P_most P_ratio aD aI aG aU aT aQ aC P_recoveries, oX5 aK aKc K_used_15 K_bitsFree_16 K_full_17 K_time K_value K_rise, rI aKc cI 1661 K_cells, oX6 aO O_first_18 O_last_19 O_points_20 O_least_21 O_greatest_22 O_sum_23, rI aTt cZ 1661 T_taken_24, oX1 aC aI aG aV C_isOpen_2 C_series C_from C_to C_entry C_entriesEnd C_pointsLeft C_block C_time_3 C_value_4]) (wb := [oX9 aP P_seriesCount P_most P_ratio aD aI aG aU aT aQ aC P_recoveries, oX2 aD aDc D_writesDone D_writesLeft D_down, rI aDc cI 4096 D_cells, oX3 aI aD, oX7 aT aD aI aK aO aTi aTp aTt T_chunks_59 T_chunksMade_13 T_openFrom T_lacksSpace_60, oX5 aK aKc K_used_15 K_bitsFree_16 K_full_17 K_time K_value K_rise, rI aKc cI 1661 K_cells, oX6 aO O_first_18 O_last_19 O_points_20 O_least_21 O_greatest_22 O_sum_23, rI aTi cI 961 T_image_61, rI aTp cI 96 T_packedFrom_62, rI aTt cZ 1661 T_taken_24, oX1 aC aI aG aV C_isOpen_2 C_series C_from C_to C_entry C_entriesEnd C_pointsLeft C_block C_time_3 C_value_4]) (v := none) hx hb hml hown htc hN (c_X7_keep l G cI cZ cJ aD aDc aI aT aK aO aTi aTp aTt D_writesDone D_writesLeft D_down D_cells T_chunks_29 T_chunksMade_13 T_openFrom T_lacksSpace_30 T_image_31 T_packedFrom_32 v3_28 hE_58) mw_442 mw_443 mw_444 mw_7 mw_445 hd_X7_keep ⟨rfl, rfl⟩ ⟨Nat.le_of_ble_eq_true rfl, Nat.le_of_ble_eq_true rfl⟩ hK hw49 hA [1, 2, 3, 4, 8, 9] [0, 5, 6, 7, 10, 11] [0, 6, 7, 8, 9, 1, 2, 3, 10, 11, 4, 5] rfl rfl rfl rfl rfl (by decide) rfl rfl rfl 3 rfl rfl rfl rfl hl42.1 rfl rfl (Nat.le_of_ble_eq_true rfl) dX9_expire_75 ⟨Nat.zero_le _, Nat.zero_le _⟩ (fun H63 locs63 hw63 => ?_)
            clear hw49 H49 locs49
            cases hJ_55
            exact kj_56 _ _ _ hw63 (lv_sub hl42 [0, 1, 2, 3] rfl)
          · replace hJ_55 := it_f c_57 hJ_55
            refine lv_iload_n hx hb dX9_expire_55 rfl (lv_at hl42 2 rfl) ?_
            refine lv_aload_n hx hb dX9_expire_56 rfl (lv_at hl42 0 rfl) ?_
            refine va_get (D := G) (ci := 9) (v := .ref aI) (C := RX9) (T := TX9) (N := 11) hx hb htc iX9 hown hK hw49.1 0 rfl rfl 4 (by decide) (htc _ mw_307) (fun _ h9 => h9) rfl dX9_expire_57 ?_
            refine lv_iload_n hx hb dX9_expire_60 rfl (lv_at hl42 3 rfl) ?_
            refine lv_iconst (v := (3 : Int32)) hx hb dX9_expire_61 (by decide) ?_
            replace hJ_55 := ob1_some hJ_55
            obtain ⟨r_65, hE_64, hJ_55⟩ := hJ_55
            refine ctV (a := aI) (As := [.int v3_28, .int (3 : Int32)]) (rest := [.int v2_27]) (st1 := [.int r_65, .int v2_27]) (wc := [oX2 aD aDc D_writesDone D_writesLeft D_down, rI aDc cI 4096 D_cells, oX3 aI aD]) (w1 := [oX2 aD aDc D_writesDone D_writesLeft D_down, rI aDc cI 4096 D_cells, oX3 aI aD]) (wr := [oX9 aP P_seriesCount P_most P_ratio aD aI aG aU aT aQ aC P_recoveries, oX7 aT aD aI aK aO aTi aTp aTt T_chunks_29 T_chunksMade_13 T_openFrom T_lacksSpace_30, oX5 aK aKc K_used_15 K_bitsFree_16 K_full_17 K_time K_value K_rise, rI aKc cI 1661 K_cells, oX6 aO O_first_18 O_last_19 O_points_20 O_least_21 O_greatest_22 O_sum_23, rI aTi cI 961 T_image_31, rI aTp cI 96 T_packedFrom_32, rI aTt cZ 1661 T_taken_24, oX1 aC aI aG aV C_isOpen_2 C_series C_from C_to C_entry C_entriesEnd C_pointsLeft C_block C_time_3 C_value_4]) (wb := [oX9 aP P_seriesCount P_most P_ratio aD aI aG aU aT aQ aC P_recoveries, oX2 aD aDc D_writesDone D_writesLeft D_down, rI aDc cI 4096 D_cells, oX3 aI aD, oX7 aT aD aI aK aO aTi aTp aTt T_chunks_29 T_chunksMade_13 T_openFrom T_lacksSpace_30, oX5 aK aKc K_used_15 K_bitsFree_16 K_full_17 K_time K_value K_rise, rI aKc cI 1661 K_cells, oX6 aO O_first_18 O_last_19 O_points_20 O_least_21 O_greatest_22 O_sum_23, rI aTi cI 961 T_image_31, rI aTp cI 96 T_packedFrom_32, rI aTt cZ 1661 T_taken_24, oX1 aC aI aG aV C_isOpen_2 C_series C_from C_to C_entry C_entriesEnd C_pointsLeft C_block C_time_3 C_value_4]) (v := (some (.int r_65))) hx hb hml hown htc hN (c_X3_at l G cI cZ cJ aD aDc aI D_writesDone D_writesLeft D_down D_cells v3_28 (3 : Int32) hE_64) mw_395 mw_391 mw_392 mw_4 mw_393 hd_X3_at ⟨rfl, rfl⟩ ⟨Nat.le_of_ble_eq_true rfl, Nat.le_of_ble_eq_true rfl⟩ hK hw49 hA [1, 2, 3] [0, 4, 5, 6, 7, 8, 9, 10, 11] [0, 9, 10, 11, 1, 2, 3, 4, 5, 6, 7, 8] rfl rfl rfl rfl rfl (by decide) rfl rfl rfl 2 rfl rfl rfl rfl hl42.1 rfl rfl (Nat.le_of_ble_eq_true rfl) dX9_expire_62 ⟨Nat.zero_le _, Nat.zero_le _⟩ (fun H66 locs66 hw66 => ?_)
            clear hw49 H49 locs49
            refine lv_iadd hx hb dX9_expire_65 ?_
            refine lv_istore_n (lv' := [(2, .int (v2_27 + r_65)), (0, .ref aP), (1, .int p0), (3, .int v3_28)]) hx hb dX9_expire_66 rfl hl42 (by decide) rfl (fun ls67 hl67 => ?_)
            clear hl42 ls42
            refine lv_goto (tgt := 78) hx hb dX9_expire_67 (by decide) ?_
            cases hJ_55
            exact kj_56 _ _ _ hw66 (lv_sub hl67 [1, 2, 0, 3] rfl)
    exact lp_35 NN (0 : Int32) (0 : Int32) T_chunks_12 T_lacksSpace_14 T_image T_packedFrom hL_33 _ _ _ hw25 (lv_sub hl26 [2, 3, 1, 0] rfl)
  · replace hfin := it_f c_9 hfin
    refine lv_bipush (v := (-9 : Int32)) hx hb dX9_expire_17 (by decide) ?_
    cases hfin
    rw [hQQ]
    exact ct_iret hx hb hr hlocks hw8.1 hw8.2.1 hw8.2.2 dX9_expire_19
abbrev rm_X9_seek : Room := { frames := 6, cells := 0, slots := 0, locals := 153 }
theorem hd_X9_seek : yX9_seek.cls = RX9 ∧ yX9_seek.cls ≠ "java/lang/invoke/MethodHandle" ∧ yX9_seek.cls ≠ "java/lang/invoke/VarHandle" ∧ (parseMethodDescriptor yX9_seek.desc).map (fun d => d.parameters.length) = some 3 := by decide +kernel
set_option maxHeartbeats 4000000 in
set_option maxRecDepth 100000 in
theorem c_X9_seek (l : Launch) (G : va_G) (cI cZ cJ : ClassId) (aP aD aI aG aU aT aQ aC aDc aF aZ aV : Nat) (P_seriesCount : Int32) (P_most : Int32) (P_ratio : Int32) (P_recoveries : Int32) (D_writesDone : Int32) (D_writesLeft : Int32) (D_down : Int32) (D_cells : Nat → Int32) (G_logged : Int32) (U_place : Int32) (U_bitsRead : Int32) (U_started : Int32) (U_time : Int32) (U_value : Int32) (U_rise : Int64) (Q_ratio : Int32) (Q_looks : Int32) (Q_unpacked : Int32) (F_first : Int32) (F_last : Int32) (F_points : Int32) (F_least : Int32) (F_greatest : Int32) (F_sum : Int64) (Z_first : Int32) (Z_last : Int32) (Z_points : Int32) (Z_least : Int32) (Z_greatest : Int32) (Z_sum : Int64) (C_isOpen : Int32) (C_series : Int32) (C_from : Int32) (C_to : Int32) (C_entry : Int32) (C_entriesEnd : Int32) (C_pointsLeft : Int32) (C_block : Int32) (C_time : Int32) (C_value : Int32) (p0 : Int32) (p1 : Int32) (p2 : Int32) {r : Int32} {o_U_place : Int32} {o_U_bitsRead : Int32} {o_U_started : Int32} {o_U_time : Int32} {o_U_value : Int32} {o_U_rise : Int64} {o_Q_looks : Int32} {o_Q_unpacked : Int32} {o_F_first : Int32} {o_F_last : Int32} {o_F_points : Int32} {o_F_least : Int32} {o_F_greatest : Int32} {o_F_sum : Int64} {o_Z_first : Int32} {o_Z_last : Int32} {o_Z_points : Int32} {o_Z_least : Int32} {o_Z_greatest : Int32} {o_Z_sum : Int64} {o_C_isOpen : Int32} {o_C_series : Int32} {o_C_from : Int32} {o_C_to : Int32} {o_C_entry : Int32} {o_C_entriesEnd : Int32} {o_C_pointsLeft : Int32} {o_C_block : Int32} {o_C_time : Int32} {o_C_value : Int32} (hfin : m_X9_seek P_seriesCount D_down D_cells G_logged U_place U_bitsRead U_started U_time U_value U_rise Q_ratio Q_looks Q_unpacked F_first F_last F_points F_least F_greatest F_sum Z_first Z_last Z_points Z_least Z_greatest Z_sum C_isOpen C_series C_from C_to C_entry C_entriesEnd C_pointsLeft C_block C_time C_value p0 p1 p2 = some (r, o_U_place, o_U_bitsRead, o_U_started, o_U_time, o_U_value, o_U_rise, o_Q_looks, o_Q_unpacked, o_F_first, o_F_last, o_F_points, o_F_least, o_F_greatest, o_F_sum, o_Z_first, o_Z_last, o_Z_points, o_Z_least, o_Z_greatest, o_Z_sum, o_C_isOpen, o_C_series, o_C_from, o_C_to, o_C_entry, o_C_entriesEnd, o_C_pointsLeft, o_C_block, o_C_time, o_C_value)) : CT l yX9_seek cX9_seek 4 (some .int) rm_X9_seek G (tyC cI cZ cJ) [.ref aP, .int p0, .int p1, .int p2] [oX9 aP P_seriesCount P_most P_ratio aD aI aG aU aT aQ aC P_recoveries, oX2 aD aDc D_writesDone D_writesLeft D_down, rI aDc cI 4096 D_cells, oX3 aI aD, oX4 aG aD G_logged, oX8 aU aD U_place U_bitsRead U_started U_time U_value U_rise, oX0 aQ aI aG aU Q_ratio aF aZ Q_looks Q_unpacked, oX6 aF F_first F_last F_points F_least F_greatest F_sum, oX6 aZ Z_first Z_last Z_points Z_least Z_greatest Z_sum, oX1 aC aI aG aV C_isOpen C_series C_from C_to C_entry C_entriesEnd C_pointsLeft C_block C_time C_value] (some (.int r)) [oX9 aP P_seriesCount P_most P_ratio aD aI aG aU aT aQ aC P_recoveries, oX2 aD aDc D_writesDone D_writesLeft D_down, rI aDc cI 4096 D_cells, oX3 aI aD, oX4 aG aD G_logged, oX8 aU aD o_U_place o_U_bitsRead o_U_started o_U_time o_U_value o_U_rise, oX0 aQ aI aG aU Q_ratio aF aZ o_Q_looks o_Q_unpacked, oX6 aF o_F_first o_F_last o_F_points o_F_least o_F_greatest o_F_sum, oX6 aZ o_Z_first o_Z_last o_Z_points o_Z_least o_Z_greatest o_Z_sum, oX1 aC aI aG aV o_C_isOpen o_C_series o_C_from o_C_to o_C_entry o_C_entriesEnd o_C_pointsLeft o_C_block o_C_time o_C_value] := by
  refine CT.ofW (lvl := [(0, .ref aP), (1, .int p0), (2, .int p1), (3, .int p2)]) (by decide) (Nat.le_of_ble_eq_true rfl) rfl ?_
  intro p e s m args below meth c A ls0 QQ hQQ hx hb hml hr hlocks htc hN hown hK hA hw0 hl0
  rw [m_X9_seek] at hfin
  refine lv_aload_n hx hb dX9_seek_0 rfl (lv_at hl0 0 rfl) ?_
  refine va_get (D := G) (ci := 9) (v := .ref aC) (C := RX9) (T := TX9) (N := 11) hx hb htc iX9 hown hK hw0.1 0 rfl rfl 9 (by decide) (htc _ mw_312) (fun _ h9 => h9) rfl dX9_seek_1 ?_
  replace hfin := ob3_some hfin
  obtain ⟨C_isOpen_2, C_time_3, C_value_4, hE_1, hfin⟩ := hfin
  refine ctV (a := aC) (As := []) (rest := []) (st1 := []) (wc := [oX1 aC aI aG aV C_isOpen C_series C_from C_to C_entry C_entriesEnd C_pointsLeft C_block C_time C_value]) (w1 := [oX1 aC aI aG aV C_isOpen_2 C_series C_from C_to C_entry C_entriesEnd C_pointsLeft C_block C_time_3 C_value_4]) (wr := [oX9 aP P_seriesCount P_most P_ratio aD aI aG aU aT aQ aC P_recoveries, oX2 aD aDc D_writesDone D_writesLeft D_down, rI aDc cI 4096 D_cells, oX3 aI aD, oX4 aG aD G_logged, oX8 aU aD U_place U_bitsRead U_started U_time U_value U_rise, oX0 aQ aI aG aU Q_ratio aF aZ Q_looks Q_unpacked, oX6 aF F_first F_last F_points F_least F_greatest F_sum, oX6 aZ Z_first Z_last Z_points Z_least Z_greatest Z_sum]) (wb := [oX9 aP P_seriesCount P_most P_ratio aD aI aG aU aT aQ aC P_recoveries, oX2 aD aDc D_writesDone D_writesLeft D_down, rI aDc cI 4096 D_cells, oX3 aI aD, oX4 aG aD G_logged, oX8 aU aD U_place U_bitsRead U_started U_time U_value U_rise, oX0 aQ aI aG aU Q_ratio aF aZ Q_looks Q_unpacked, oX6 aF F_first F_last F_points F_least F_greatest F_sum, oX6 aZ Z_first Z_last Z_points Z_least Z_greatest Z_sum, oX1 aC aI aG aV C_isOpen_2 C_series C_from C_to C_entry C_entriesEnd C_pointsLeft C_block C_time_3 C_value_4]) (v := none) hx hb hml hown htc hN (c_X1_close l G cI cZ cJ aC aI aG aV C_isOpen C_series C_from C_to C_entry C_entriesEnd C_pointsLeft C_block C_time C_value  hE_1) mw_341 mw_342 mw_343 mw_11 mw_344 hd_X1_close ⟨rfl, rfl⟩ ⟨Nat.le_of_ble_eq_true rfl, Nat.le_of_ble_eq_true rfl⟩ hK hw0 hA [9] [0, 1, 2, 3, 4, 5, 6, 7, 8] [0, 1, 2, 3, 4, 5, 6, 7, 8, 9] rfl rfl rfl rfl rfl (by decide) rfl rfl rfl 0 rfl rfl rfl rfl hl0.1 rfl rfl (Nat.le_of_ble_eq_true rfl) dX9_seek_4 ⟨Nat.zero_le _, Nat.zero_le _⟩ (fun H5 locs5 hw5 => ?_)
  clear hw0
  refine lv_aload_n hx hb dX9_seek_7 rfl (lv_at hl0 0 rfl) ?_
  refine va_get (D := G) (ci := 9) (v := .ref aD) (C := RX9) (T := TX9) (N := 11) hx hb htc iX9 hown hK hw5.1 0 rfl rfl 3 (by decide) (htc _ mw_306) (fun _ h9 => h9) rfl dX9_seek_8 ?_
  replace hfin := ob1_some hfin
  obtain ⟨r_7, hE_6, hfin⟩ := hfin
  refine ctV (a := aD) (As := []) (rest := []) (st1 := [.int r_7]) (wc := [oX2 aD aDc D_writesDone D_writesLeft D_down]) (w1 := [oX2 aD aDc D_writesDone D_writesLeft D_down]) (wr := [oX9 aP P_seriesCount P_most P_ratio aD aI aG aU aT aQ aC P_recoveries, rI aDc cI 4096 D_cells, oX3 aI aD, oX4 aG aD G_logged, oX8 aU aD U_place U_bitsRead U_started U_time U_value U_rise, oX0 aQ aI aG aU Q_ratio aF aZ Q_looks Q_unpacked, oX6 aF F_first F_last F_points F_least F_greatest F_sum, oX6 aZ Z_first Z_last Z_points Z_least Z_greatest Z_sum, oX1 aC aI aG aV C_isOpen_2 C_series C_from C_to C_entry C_entriesEnd C_pointsLeft C_block C_time_3 C_value_4]) (wb := [oX9 aP P_seriesCount P_most P_ratio aD aI aG aU aT aQ aC P_recoveries, oX2 aD aDc D_writesDone D_writesLeft D_down, rI aDc cI 4096 D_cells, oX3 aI aD, oX4 aG aD G_logged, oX8 aU aD U_place U_bitsRead U_started U_time U_value U_rise, oX0 aQ aI aG aU Q_ratio aF aZ Q_looks Q_unpacked, oX6 aF F_first F_last F_points F_least F_greatest F_sum, oX6 aZ Z_first Z_last Z_points Z_least Z_greatest Z_sum, oX1 aC aI aG aV C_isOpen_2 C_series C_from C_to C_entry C_entriesEnd C_pointsLeft C_block C_time_3 C_value_4]) (v := (some (.int r_7))) hx hb hml hown htc hN (c_X2_isDown l G cI cZ cJ aD aDc D_writesDone D_writesLeft D_down  hE_6) mw_345 mw_346 mw_347 mw_3 mw_348 hd_X2_isDown ⟨rfl, rfl⟩ ⟨Nat.le_of_ble_eq_true rfl, Nat.le_of_ble_eq_true rfl⟩ hK hw5 hA [1] [0, 2, 3, 4, 5, 6, 7, 8, 9] [0, 9, 1, 2, 3, 4, 5, 6, 7, 8] rfl rfl rfl rfl rfl (by decide) rfl rfl rfl 0 rfl rfl rfl rfl hl0.1 rfl rfl (Nat.le_of_ble_eq_true rfl) dX9_seek_11 ⟨Nat.zero_le _, Nat.zero_le _⟩ (fun H8 locs8 hw8 => ?_)
  clear hw5 H5 locs5
  refine lv_if_eq (tgt := 20) hx hb dX9_seek_14 (by decide) (fun c_9 => ?_) (fun c_9 => ?_)
  · replace hfin := it_t c_9 hfin
    refine lv_aload_n hx hb dX9_seek_20 rfl (lv_at hl0 0 rfl) ?_
    refine lv_iload_n hx hb dX9_seek_21 rfl (lv_at hl0 1 rfl) ?_
    replace hfin := ob1_some hfin
    obtain ⟨r_11, hE_10, hfin⟩ := hfin
    refine ctV (a := aP) (As := [.int p0]) (rest := []) (st1 := [.int r_11]) (wc := [oX9 aP P_seriesCount P_most P_ratio aD aI aG aU aT aQ aC P_recoveries]) (w1 := [oX9 aP P_seriesCount P_most P_ratio aD aI aG aU aT aQ aC P_recoveries]) (wr := [oX2 aD aDc D_writesDone D_writesLeft D_down, rI aDc cI 4096 D_cells, oX3 aI aD, oX4 aG aD G_logged, oX8 aU aD U_place U_bitsRead U_started U_time U_value U_rise, oX0 aQ aI aG aU Q_ratio aF aZ Q_looks Q_unpacked, oX6 aF F_first F_last F_points F_least F_greatest F_sum, oX6 aZ Z_first Z_last Z_points Z_least Z_greatest Z_sum, oX1 aC aI aG aV C_isOpen_2 C_series C_from C_to C_entry C_entriesEnd C_pointsLeft C_block C_time_3 C_value_4]) (wb := [oX9 aP P_seriesCount P_most P_ratio aD aI aG aU aT aQ aC P_recoveries, oX2 aD aDc D_writesDone D_writesLeft D_down, rI aDc cI 4096 D_cells, oX3 aI aD, oX4 aG aD G_logged, oX8 aU aD U_place U_bitsRead U_started U_time U_value U_rise, oX0 aQ aI aG aU Q_ratio aF aZ Q_looks Q_unpacked, oX6 aF F_first F_last F_points F_least F_greatest F_sum, oX6 aZ Z_first Z_last Z_points Z_least Z_greatest Z_sum, oX1 aC aI aG aV C_isOpen_2 C_series C_from C_to C_entry C_entriesEnd C_pointsLeft C_block C_time_3 C_value_4]) (v := (some (.int r_11))) hx hb hml hown htc hN (c_X9_isSeries l G cI cZ cJ aP aD aI aG aU aT aQ aC P_seriesCount P_most P_ratio P_recoveries p0 hE_10) mw_349 mw_351 mp_0 mw_1 mw_352 hd_X9_isSeries ⟨rfl, rfl⟩ ⟨Nat.le_of_ble_eq_true rfl, Nat.le_of_ble_eq_true rfl⟩ hK hw8 hA [0] [1, 2, 3, 4, 5, 6, 7, 8, 9] [9, 0, 1, 2, 3, 4, 5, 6, 7, 8] rfl rfl rfl rfl rfl (by decide) rfl rfl rfl 0 rfl rfl rfl rfl hl0.1 rfl rfl (Nat.le_of_ble_eq_true rfl) dX9_seek_22 ⟨Nat.zero_le _, Nat.zero_le _⟩ (fun H12 locs12 hw12 => ?_)
    clear hw8 H8 locs8
    refine lv_if_ne (tgt := 31) hx hb dX9_seek_25 (by decide) (fun c_13 => ?_) (fun c_13 => ?_)
    · replace hfin := it_f c_13 hfin
      refine lv_aload_n hx hb dX9_seek_31 rfl (lv_at hl0 0 rfl) ?_
      refine va_get (D := G) (ci := 9) (v := .ref aC) (C := RX9) (T := TX9) (N := 11) hx hb htc iX9 hown hK hw12.1 0 rfl rfl 9 (by decide) (htc _ mw_312) (fun _ h9 => h9) rfl dX9_seek_32 ?_
      refine lv_iload_n hx hb dX9_seek_35 rfl (lv_at hl0 1 rfl) ?_
      refine lv_iload_n hx hb dX9_seek_36 rfl (lv_at hl0 2 rfl) ?_
      refine lv_iload_n hx hb dX9_seek_37 rfl (lv_at hl0 3 rfl) ?_
      replace hfin := ob8_some hfin
      obtain ⟨C_isOpen_15, C_series_16, C_from_17, C_to_18, C_entry_19, C_entriesEnd_20, C_pointsLeft_21, C_block_22, hE_14, hfin⟩ := hfin
      refine ctV (a := aC) (As := [.int p0, .int p1, .int p2]) (rest := []) (st1 := []) (wc := [oX2 aD aDc D_writesDone D_writesLeft D_down, rI aDc cI 4096 D_cells, oX3 aI aD, oX1 aC aI aG aV C_isOpen_2 C_series C_from C_to C_entry C_entriesEnd C_pointsLeft C_block C_time_3 C_value_4]) (w1 := [oX2 aD aDc D_writesDone D_writesLeft D_down, rI aDc cI 4096 D_cells, oX3 aI aD, oX1 aC aI aG aV C_isOpen_15 C_series_16 C_from_17 C_to_18 C_entry_19 C_entriesEnd_20 C_pointsLeft_21 C_block_22 C_time_3 C_value_4]) (wr := [oX9 aP P_seriesCount P_most P_ratio aD aI aG aU aT aQ aC P_recoveries, oX4 aG aD G_logged, oX8 aU aD U_place U_bitsRead U_started U_time U_value U_rise, oX0 aQ aI aG aU Q_ratio aF aZ Q_looks Q_unpacked, oX6 aF F_first F_last F_points F_least F_greatest F_sum, oX6 aZ Z_first Z_last Z_points Z_least Z_greatest Z_sum]) (wb := [oX9 aP P_seriesCount P_most P_ratio aD aI aG aU aT aQ aC P_recoveries, oX2 aD aDc D_writesDone D_writesLeft D_down, rI aDc cI 4096 D_cells, oX3 aI aD, oX4 aG aD G_logged, oX8 aU aD U_place U_bitsRead U_started U_time U_value U_rise, oX0 aQ aI aG aU Q_ratio aF aZ Q_looks Q_unpacked, oX6 aF F_first F_last F_points F_least F_greatest F_sum, oX6 aZ Z_first Z_last Z_points Z_least Z_greatest Z_sum, oX1 aC aI aG aV C_isOpen_15 C_series_16 C_from_17 C_to_18 C_entry_19 C_entriesEnd_20 C_pointsLeft_21 C_block_22 C_time_3 C_value_4]) (v := none) hx hb hml hown htc hN (c_X1_open l G cI cZ cJ aD aDc aI aC aG aV D_writesDone D_writesLeft D_down D_cells C_isOpen_2 C_series C_from C_to C_entry C_entriesEnd C_pointsLeft C_block C_time_3 C_value_4 p0 p1 p2 hE_14) mw_614 mw_615 mw_616 mw_11 mw_617 hd_X1_open ⟨rfl, rfl⟩ ⟨Nat.le_of_ble_eq_true rfl, Nat.le_of_ble_eq_true rfl⟩ hK hw12 hA [1, 2, 3, 9] [0, 4, 5, 6, 7, 8] [0, 6, 7, 8, 1, 2, 3, 4, 5, 9] rfl rfl rfl rfl rfl (by decide) rfl rfl rfl 3 rfl rfl rfl rfl hl0.1 rfl rfl (Nat.le_of_ble_eq_true rfl) dX9_seek_38 ⟨Nat.zero_le _, Nat.zero_le _⟩ (fun H23 locs23 hw23 => ?_)
      clear hw12 H12 locs12
      refine lv_aload_n hx hb dX9_seek_41 rfl (lv_at hl0 0 rfl) ?_
      refine va_get (D := G) (ci := 9) (v := .ref aQ) (C := RX9) (T := TX9) (N := 11) hx hb htc iX9 hown hK hw23.1 0 rfl rfl 8 (by decide) (htc _ mw_311) (fun _ h9 => h9) rfl dX9_seek_42 ?_
      refine lv_iload_n hx hb dX9_seek_45 rfl (lv_at hl0 1 rfl) ?_
      refine lv_iload_n hx hb dX9_seek_46 rfl (lv_at hl0 2 rfl) ?_
      refine lv_iload_n hx hb dX9_seek_47 rfl (lv_at hl0 3 rfl) ?_
      replace hfin := ob20_some hfin
      obtain ⟨U_place_25, U_bitsRead_26, U_started_27, U_time_28, U_value_29, U_rise_30, Q_looks_31, Q_unpacked_32, F_first_33, F_last_34, F_points_35, F_least_36, F_greatest_37, F_sum_38, Z_first_39, Z_last_40, Z_points_41, Z_least_42, Z_greatest_43, Z_sum_44, hE_24, hfin⟩ := hfin
      refine ctV (a := aQ) (As := [.int p0, .int p1, .int p2]) (rest := []) (st1 := [.ref aF]) (wc := [oX2 aD aDc D_writesDone D_writesLeft D_down, rI aDc cI 4096 D_cells, oX3 aI aD, oX4 aG aD G_logged, oX8 aU aD U_place U_bitsRead U_started U_time U_value U_rise, oX0 aQ aI aG aU Q_ratio aF aZ Q_looks Q_unpacked, oX6 aF F_first F_last F_points F_least F_greatest F_sum, oX6 aZ Z_first Z_last Z_points Z_least Z_greatest Z_sum]) (w1 := [oX2 aD aDc D_writesDone D_writesLeft D_down, rI aDc cI 4096 D_cells, oX3 aI aD, oX4 aG aD G_logged, oX8 aU aD U_place_25 U_bitsRead_26 U_started_27 U_time_28 U_value_29 U_rise_30, oX0 aQ aI aG aU Q_ratio aF aZ Q_looks_31 Q_unpacked_32, oX6 aF F_first_33 F_last_34 F_points_35 F_least_36 F_greatest_37 F_sum_38, oX6 aZ Z_first_39 Z_last_40 Z_points_41 Z_least_42 Z_greatest_43 Z_sum_44]) (wr := [oX9 aP P_seriesCount P_most P_ratio aD aI aG aU aT aQ aC P_recoveries, oX1 aC aI aG aV C_isOpen_15 C_series_16 C_from_17 C_to_18 C_entry_19 C_entriesEnd_20 C_pointsLeft_21 C_block_22 C_time_3 C_value_4]) (wb := [oX9 aP P_seriesCount P_most P_ratio aD aI aG aU aT aQ aC P_recoveries, oX2 aD aDc D_writesDone D_writesLeft D_down, rI aDc cI 4096 D_cells, oX3 aI aD, oX4 aG aD G_logged, oX8 aU aD U_place_25 U_bitsRead_26 U_started_27 U_time_28 U_value_29 U_rise_30, oX0 aQ aI aG aU Q_ratio aF aZ Q_looks_31 Q_unpacked_32, oX6 aF F_first_33 F_last_34 F_points_35 F_least_36 F_greatest_37 F_sum_38, oX6 aZ Z_first_39 Z_last_40 Z_points_41 Z_least_42 Z_greatest_43 Z_sum_44, oX1 aC aI aG aV C_isOpen_15 C_series_16 C_from_17 C_to_18 C_entry_19 C_entriesEnd_20 C_pointsLeft_21 C_block_22 C_time_3 C_value_4]) (v := (some (.ref aF))) hx hb hml hown htc hN (c_X0_ask l G cI cZ cJ aD aDc aI aG aU aQ aF aZ D_writesDone D_writesLeft D_down D_cells G_logged U_place U_bitsRead U_started U_time U_value U_rise Q_ratio Q_looks Q_unpacked F_first F_last F_points F_least F_greatest F_sum Z_first Z_last Z_points Z_least Z_greatest Z_sum p0 p1 p2 hE_24) mw_620 mw_621 mw_622 mw_10 mw_623 hd_X0_ask ⟨rfl, rfl⟩ ⟨Nat.le_of_ble_eq_true rfl, Nat.le_of_ble_eq_true rfl⟩ hK hw23 hA [1, 2, 3, 4, 5, 6, 7, 8] [0, 9] [0, 2, 3, 4, 5, 6, 7, 8, 9, 1] rfl rfl rfl rfl rfl (by decide) rfl rfl rfl 5 rfl rfl rfl rfl hl0.1 rfl rfl (Nat.le_of_ble_eq_true rfl) dX9_seek_48 ⟨Nat.zero_le _, Nat.zero_le _⟩ (fun H45 locs45 hw45 => ?_)
      clear hw23 H23 locs23
      refine va_getN (D := G) (ci := 6) (v := .int F_points_35) (C := RX6) (T := TX6) (N := 6) hx hb htc iX6 hown hK hw45.1 7 rfl rfl 2 (by decide) (va_Nw.use rfl (hN _ mn_14)) (fun _ h9 => h9) rfl dX9_seek_51 ?_
      cases hfin
      rw [hQQ]
      exact ct_iret hx hb hr hlocks hw45.1 hw45.2.1 hw45.2.2 dX9_seek_54
    · replace hfin := it_t c_13 hfin
      refine lv_bipush (v := (-2 : Int32)) hx hb dX9_seek_28 (by decide) ?_
      cases hfin
      rw [hQQ]
      exact ct_iret hx hb hr hlocks hw12.1 hw12.2.1 hw12.2.2 dX9_seek_30
  · replace hfin := it_f c_9 hfin
    refine lv_bipush (v := (-9 : Int32)) hx hb dX9_seek_17 (by decide) ?_
    cases hfin
    rw [hQQ]
    exact ct_iret hx hb hr hlocks hw8.1 hw8.2.1 hw8.2.2 dX9_seek_19
abbrev rm_X9_next : Room := { frames := 6, cells := 0, slots := 0, locals := 130 }
theorem hd_X9_next : yX9_next.cls = RX9 ∧ yX9_next.cls ≠ "java/lang/invoke/MethodHandle" ∧ yX9_next.cls ≠ "java/lang/invoke/VarHandle" ∧ (parseMethodDescriptor yX9_next.desc).map (fun d => d.parameters.length) = some 0 := by decide +kernel
set_option maxHeartbeats 4000000 in
set_option maxRecDepth 100000 in
theorem c_X9_next (l : Launch) (G : va_G) (cI cZ cJ : ClassId) (aP aD aI aG aU aT aQ aC aDc aV : Nat) (P_seriesCount : Int32) (P_most : Int32) (P_ratio : Int32) (P_recoveries : Int32) (D_writesDone : Int32) (D_writesLeft : Int32) (D_down : Int32) (D_cells : Nat → Int32) (G_logged : Int32) (V_place : Int32) (V_bitsRead : Int32) (V_started : Int32) (V_time : Int32) (V_value : Int32) (V_rise : Int64) (C_isOpen : Int32) (C_series : Int32) (C_from : Int32) (C_to : Int32) (C_entry : Int32) (C_entriesEnd : Int32) (C_pointsLeft : Int32) (C_block : Int32) (C_time : Int32) (C_value : Int32)  {r : Int32} {o_V_place : Int32} {o_V_bitsRead : Int32} {o_V_started : Int32} {o_V_time : Int32} {o_V_value : Int32} {o_V_rise : Int64} {o_C_isOpen : Int32} {o_C_entry : Int32} {o_C_pointsLeft : Int32} {o_C_block : Int32} {o_C_time : Int32} {o_C_value : Int32} (hfin : m_X9_next D_cells G_logged V_place V_bitsRead V_started V_time V_value V_rise C_isOpen C_series C_from C_to C_entry C_entriesEnd C_pointsLeft C_block C_time C_value = some (r, o_V_place, o_V_bitsRead, o_V_started, o_V_time, o_V_value, o_V_rise, o_C_isOpen, o_C_entry, o_C_pointsLeft, o_C_block, o_C_time, o_C_value)) : CT l yX9_next cX9_next 1 (some .boolean) rm_X9_next G (tyC cI cZ cJ) [.ref aP] [oX9 aP P_seriesCount P_most P_ratio aD aI aG aU aT aQ aC P_recoveries, oX2 aD aDc D_writesDone D_writesLeft D_down, rI aDc cI 4096 D_cells, oX3 aI aD, oX4 aG aD G_logged, oX8 aV aD V_place V_bitsRead V_started V_time V_value V_rise, oX1 aC aI aG aV C_isOpen C_series C_from C_to C_entry C_entriesEnd C_pointsLeft C_block C_time C_value] (some (.int r)) [oX9 aP P_seriesCount P_most P_ratio aD aI aG aU aT aQ aC P_recoveries, oX2 aD aDc D_writesDone D_writesLeft D_down, rI aDc cI 4096 D_cells, oX3 aI aD, oX4 aG aD G_logged, oX8 aV aD o_V_place o_V_bitsRead o_V_started o_V_time o_V_value o_V_rise, oX1 aC aI aG aV o_C_isOpen C_series C_from C_to o_C_entry C_entriesEnd o_C_pointsLeft o_C_block o_C_time o_C_value] := by
  refine CT.ofW (lvl := [(0, .ref aP)]) (by decide) (Nat.le_of_ble_eq_true rfl) rfl ?_
  intro p e s m args below meth c A ls0 QQ hQQ hx hb hml hr hlocks htc hN hown hK hA hw0 hl0
  rw [m_X9_next] at hfin
  refine lv_aload_n hx hb dX9_next_0 rfl (lv_at hl0 0 rfl) ?_
  refine va_get (D := G) (ci := 9) (v := .ref aC) (C := RX9) (T := TX9) (N := 11) hx hb htc iX9 hown hK hw0.1 0 rfl rfl 9 (by decide) (htc _ mw_312) (fun _ h9 => h9) rfl dX9_next_1 ?_
  replace hfin := ob13_some hfin
  obtain ⟨r_2, V_place_3, V_bitsRead_4, V_started_5, V_time_6, V_value_7, V_rise_8, C_isOpen_9, C_entry_10, C_pointsLeft_11, C_block_12, C_time_13, C_value_14, hE_1, hfin⟩ := hfin
  refine ctV (a := aC) (As := []) (rest := []) (st1 := [.int r_2]) (wc := [oX2 aD aDc D_writesDone D_writesLeft D_down, rI aDc cI 4096 D_cells, oX3 aI aD, oX4 aG aD G_logged, oX8 aV aD V_place V_bitsRead V_started V_time V_value V_rise, oX1 aC aI aG aV C_isOpen C_series C_from C_to C_entry C_entriesEnd C_pointsLeft C_block C_time C_value]) (w1 := [oX2 aD aDc D_writesDone D_writesLeft D_down, rI aDc cI 4096 D_cells, oX3 aI aD, oX4 aG aD G_logged, oX8 aV aD V_place_3 V_bitsRead_4 V_started_5 V_time_6 V_value_7 V_rise_8, oX1 aC aI aG aV C_isOpen_9 C_series C_from C_to C_entry_10 C_entriesEnd C_pointsLeft_11 C_block_12 C_time_13 C_value_14]) (wr := [oX9 aP P_seriesCount P_most P_ratio aD aI aG aU aT aQ aC P_recoveries]) (wb := [oX9 aP P_seriesCount P_most P_ratio aD aI aG aU aT aQ aC P_recoveries, oX2 aD aDc D_writesDone D_writesLeft D_down, rI aDc cI 4096 D_cells, oX3 aI aD, oX4 aG aD G_logged, oX8 aV aD V_place_3 V_bitsRead_4 V_started_5 V_time_6 V_value_7 V_rise_8, oX1 aC aI aG aV C_isOpen_9 C_series C_from C_to C_entry_10 C_entriesEnd C_pointsLeft_11 C_block_12 C_time_13 C_value_14]) (v := (some (.int r_2))) hx hb hml hown htc hN (c_X1_advance l G cI cZ cJ aD aDc aI aG aV aC D_writesDone D_writesLeft D_down D_cells G_logged V_place V_bitsRead V_started V_time V_value V_rise C_isOpen C_series C_from C_to C_entry C_entriesEnd C_pointsLeft C_block C_time C_value  hE_1) mw_673 mw_674 mw_675 mw_11 mw_676 hd_X1_advance ⟨rfl, rfl⟩ ⟨Nat.le_of_ble_eq_true rfl, Nat.le_of_ble_eq_true rfl⟩ hK hw0 hA [1, 2, 3, 4, 5, 6] [0] [0, 1, 2, 3, 4, 5, 6] rfl rfl rfl rfl rfl (by decide) rfl rfl rfl 5 rfl rfl rfl rfl hl0.1 rfl rfl (Nat.le_of_ble_eq_true rfl) dX9_next_4 ⟨Nat.zero_le _, Nat.zero_le _⟩ (fun H15 locs15 hw15 => ?_)
  clear hw0
  replace hfin := ckz_some hfin
  obtain ⟨hz_16, hfin⟩ := hfin
  cases hfin
  rw [hQQ]
  exact ct_zret hx hb hr hlocks hz_16 hw15.1 hw15.2.1 hw15.2.2 dX9_next_7
abbrev rm_X9_curTime : Room := { frames := 0, cells := 0, slots := 0, locals := 0 }
theorem hd_X9_curTime : yX9_curTime.cls = RX9 ∧ yX9_curTime.cls ≠ "java/lang/invoke/MethodHandle" ∧ yX9_curTime.cls ≠ "java/lang/invoke/VarHandle" ∧ (parseMethodDescriptor yX9_curTime.desc).map (fun d => d.parameters.length) = some 0 := by decide +kernel
set_option maxHeartbeats 4000000 in
set_option maxRecDepth 100000 in
theorem c_X9_curTime (l : Launch) (G : va_G) (cI cZ cJ : ClassId) (aP aD aI aG aU aT aQ aC aV : Nat) (P_seriesCount : Int32) (P_most : Int32) (P_ratio : Int32) (P_recoveries : Int32) (C_isOpen : Int32) (C_series : Int32) (C_from : Int32) (C_to : Int32) (C_entry : Int32) (C_entriesEnd : Int32) (C_pointsLeft : Int32) (C_block : Int32) (C_time : Int32) (C_value : Int32)  {r : Int32} (hfin : m_X9_curTime C_time = some (r)) : CT l yX9_curTime cX9_curTime 1 (some .int) rm_X9_curTime G (tyC cI cZ cJ) [.ref aP] [oX9 aP P_seriesCount P_most P_ratio aD aI aG aU aT aQ aC P_recoveries, oX1 aC aI aG aV C_isOpen C_series C_from C_to C_entry C_entriesEnd C_pointsLeft C_block C_time C_value] (some (.int r)) [oX9 aP P_seriesCount P_most P_ratio aD aI aG aU aT aQ aC P_recoveries, oX1 aC aI aG aV C_isOpen C_series C_from C_to C_entry C_entriesEnd C_pointsLeft C_block C_time C_value] := by
  refine CT.ofW (lvl := [(0, .ref aP)]) (by decide) (Nat.le_of_ble_eq_true rfl) rfl ?_
  intro p e s m args below meth c A ls0 QQ hQQ hx hb hml hr hlocks htc hN hown hK hA hw0 hl0
  rw [m_X9_curTime] at hfin
  refine lv_aload_n hx hb dX9_curTime_0 rfl (lv_at hl0 0 rfl) ?_
  refine va_get (D := G) (ci := 9) (v := .ref aC) (C := RX9) (T := TX9) (N := 11) hx hb htc iX9 hown hK hw0.1 0 rfl rfl 9 (by decide) (htc _ mw_312) (fun _ h9 => h9) rfl dX9_curTime_1 ?_
  refine va_getN (D := G) (ci := 1) (v := .int C_time) (C := RX1) (T := TX1) (N := 13) hx hb htc iX1 hown hK hw0.1 1 rfl rfl 11 (by decide) (va_Nw.use rfl (hN _ mn_23)) (fun _ h9 => h9) rfl dX9_curTime_4 ?_
  cases hfin
  rw [hQQ]
  exact ct_iret hx hb hr hlocks hw0.1 hw0.2.1 hw0.2.2 dX9_curTime_7
abbrev rm_X9_curVal : Room := { frames := 0, cells := 0, slots := 0, locals := 0 }
theorem hd_X9_curVal : yX9_curVal.cls = RX9 ∧ yX9_curVal.cls ≠ "java/lang/invoke/MethodHandle" ∧ yX9_curVal.cls ≠ "java/lang/invoke/VarHandle" ∧ (parseMethodDescriptor yX9_curVal.desc).map (fun d => d.parameters.length) = some 0 := by decide +kernel
set_option maxHeartbeats 4000000 in
set_option maxRecDepth 100000 in
theorem c_X9_curVal (l : Launch) (G : va_G) (cI cZ cJ : ClassId) (aP aD aI aG aU aT aQ aC aV : Nat) (P_seriesCount : Int32) (P_most : Int32) (P_ratio : Int32) (P_recoveries : Int32) (C_isOpen : Int32) (C_series : Int32) (C_from : Int32) (C_to : Int32) (C_entry : Int32) (C_entriesEnd : Int32) (C_pointsLeft : Int32) (C_block : Int32) (C_time : Int32) (C_value : Int32)  {r : Int32} (hfin : m_X9_curVal C_value = some (r)) : CT l yX9_curVal cX9_curVal 1 (some .int) rm_X9_curVal G (tyC cI cZ cJ) [.ref aP] [oX9 aP P_seriesCount P_most P_ratio aD aI aG aU aT aQ aC P_recoveries, oX1 aC aI aG aV C_isOpen C_series C_from C_to C_entry C_entriesEnd C_pointsLeft C_block C_time C_value] (some (.int r)) [oX9 aP P_seriesCount P_most P_ratio aD aI aG aU aT aQ aC P_recoveries, oX1 aC aI aG aV C_isOpen C_series C_from C_to C_entry C_entriesEnd C_pointsLeft C_block C_time C_value] := by
  refine CT.ofW (lvl := [(0, .ref aP)]) (by decide) (Nat.le_of_ble_eq_true rfl) rfl ?_
  intro p e s m args below meth c A ls0 QQ hQQ hx hb hml hr hlocks htc hN hown hK hA hw0 hl0
  rw [m_X9_curVal] at hfin
  refine lv_aload_n hx hb dX9_curVal_0 rfl (lv_at hl0 0 rfl) ?_
  refine va_get (D := G) (ci := 9) (v := .ref aC) (C := RX9) (T := TX9) (N := 11) hx hb htc iX9 hown hK hw0.1 0 rfl rfl 9 (by decide) (htc _ mw_312) (fun _ h9 => h9) rfl dX9_curVal_1 ?_
  refine va_getN (D := G) (ci := 1) (v := .int C_value) (C := RX1) (T := TX1) (N := 13) hx hb htc iX1 hown hK hw0.1 1 rfl rfl 12 (by decide) (va_Nw.use rfl (hN _ mn_24)) (fun _ h9 => h9) rfl dX9_curVal_4 ?_
  cases hfin
  rw [hQQ]
  exact ct_iret hx hb hr hlocks hw0.1 hw0.2.1 hw0.2.2 dX9_curVal_7
abbrev rm_X9_aggCount : Room := { frames := 6, cells := 0, slots := 0, locals := 153 }
theorem hd_X9_aggCount : yX9_aggCount.cls = RX9 ∧ yX9_aggCount.cls ≠ "java/lang/invoke/MethodHandle" ∧ yX9_aggCount.cls ≠ "java/lang/invoke/VarHandle" ∧ (parseMethodDescriptor yX9_aggCount.desc).map (fun d => d.parameters.length) = some 3 := by decide +kernel
set_option maxHeartbeats 4000000 in
set_option maxRecDepth 100000 in
theorem c_X9_aggCount (l : Launch) (G : va_G) (cI cZ cJ : ClassId) (aP aD aI aG aU aT aQ aC aDc aF aZ : Nat) (P_seriesCount : Int32) (P_most : Int32) (P_ratio : Int32) (P_recoveries : Int32) (D_writesDone : Int32) (D_writesLeft : Int32) (D_down : Int32) (D_cells : Nat → Int32) (G_logged : Int32) (U_place : Int32) (U_bitsRead : Int32) (U_started : Int32) (U_time : Int32) (U_value : Int32) (U_rise : Int64) (Q_ratio : Int32) (Q_looks : Int32) (Q_unpacked : Int32) (F_first : Int32) (F_last : Int32) (F_points : Int32) (F_least : Int32) (F_greatest : Int32) (F_sum : Int64) (Z_first : Int32) (Z_last : Int32) (Z_points : Int32) (Z_least : Int32) (Z_greatest : Int32) (Z_sum : Int64) (p0 : Int32) (p1 : Int32) (p2 : Int32) {r : Int32} {o_U_place : Int32} {o_U_bitsRead : Int32} {o_U_started : Int32} {o_U_time : Int32} {o_U_value : Int32} {o_U_rise : Int64} {o_Q_looks : Int32} {o_Q_unpacked : Int32} {o_F_first : Int32} {o_F_last : Int32} {o_F_points : Int32} {o_F_least : Int32} {o_F_greatest : Int32} {o_F_sum : Int64} {o_Z_first : Int32} {o_Z_last : Int32} {o_Z_points : Int32} {o_Z_least : Int32} {o_Z_greatest : Int32} {o_Z_sum : Int64} (hfin : m_X9_aggCount P_seriesCount D_down D_cells G_logged U_place U_bitsRead U_started U_time U_value U_rise Q_ratio Q_looks Q_unpacked F_first F_last F_points F_least F_greatest F_sum Z_first Z_last Z_points Z_least Z_greatest Z_sum p0 p1 p2 = some (r, o_U_place, o_U_bitsRead, o_U_started, o_U_time, o_U_value, o_U_rise, o_Q_looks, o_Q_unpacked, o_F_first, o_F_last, o_F_points, o_F_least, o_F_greatest, o_F_sum, o_Z_first, o_Z_last, o_Z_points, o_Z_least, o_Z_greatest, o_Z_sum)) : CT l yX9_aggCount cX9_aggCount 4 (some .int) rm_X9_aggCount G (tyC cI cZ cJ) [.ref aP, .int p0, .int p1, .int p2] [oX9 aP P_seriesCount P_most P_ratio aD aI aG aU aT aQ aC P_recoveries, oX2 aD aDc D_writesDone D_writesLeft D_down, rI aDc cI 4096 D_cells, oX3 aI aD, oX4 aG aD G_logged, oX8 aU aD U_place U_bitsRead U_started U_time U_value U_rise, oX0 aQ aI aG aU Q_ratio aF aZ Q_looks Q_unpacked, oX6 aF F_first F_last F_points F_least F_greatest F_sum, oX6 aZ Z_first Z_last Z_points Z_least Z_greatest Z_sum] (some (.int r)) [oX9 aP P_seriesCount P_most P_ratio aD aI aG aU aT aQ aC P_recoveries, oX2 aD aDc D_writesDone D_writesLeft D_down, rI aDc cI 4096 D_cells, oX3 aI aD, oX4 aG aD G_logged, oX8 aU aD o_U_place o_U_bitsRead o_U_started o_U_time o_U_value o_U_rise, oX0 aQ aI aG aU Q_ratio aF aZ o_Q_looks o_Q_unpacked, oX6 aF o_F_first o_F_last o_F_points o_F_least o_F_greatest o_F_sum, oX6 aZ o_Z_first o_Z_last o_Z_points o_Z_least o_Z_greatest o_Z_sum] := by
  refine CT.ofW (lvl := [(0, .ref aP), (1, .int p0), (2, .int p1), (3, .int p2)]) (by decide) (Nat.le_of_ble_eq_true rfl) rfl ?_
  intro p e s m args below meth c A ls0 QQ hQQ hx hb hml hr hlocks htc hN hown hK hA hw0 hl0
  rw [m_X9_aggCount] at hfin
  refine lv_aload_n hx hb dX9_aggCount_0 rfl (lv_at hl0 0 rfl) ?_
  refine va_get (D := G) (ci := 9) (v := .ref aD) (C := RX9) (T := TX9) (N := 11) hx hb htc iX9 hown hK hw0.1 0 rfl rfl 3 (by decide) (htc _ mw_306) (fun _ h9 => h9) rfl dX9_aggCount_1 ?_
  replace hfin := ob1_some hfin
  obtain ⟨r_2, hE_1, hfin⟩ := hfin
  refine ctV (a := aD) (As := []) (rest := []) (st1 := [.int r_2]) (wc := [oX2 aD aDc D_writesDone D_writesLeft D_down]) (w1 := [oX2 aD aDc D_writesDone D_writesLeft D_down]) (wr := [oX9 aP P_seriesCount P_most P_ratio aD aI aG aU aT aQ aC P_recoveries, rI aDc cI 4096 D_cells, oX3 aI aD, oX4 aG aD G_logged, oX8 aU aD U_place U_bitsRead U_started U_time U_value U_rise, oX0 aQ aI aG aU Q_ratio aF aZ Q_looks Q_unpacked, oX6 aF F_first F_last F_points F_least F_greatest F_sum, oX6 aZ Z_first Z_last Z_points Z_least Z_greatest Z_sum]) (wb := [oX9 aP P_seriesCount P_most P_ratio aD aI aG aU aT aQ aC P_recoveries, oX2 aD aDc D_writesDone D_writesLeft D_down, rI aDc cI 4096 D_cells, oX3 aI aD, oX4 aG aD G_logged, oX8 aU aD U_place U_bitsRead U_started U_time U_value U_rise, oX0 aQ aI aG aU Q_ratio aF aZ Q_looks Q_unpacked, oX6 aF F_first F_last F_points F_least F_greatest F_sum, oX6 aZ Z_first Z_last Z_points Z_least Z_greatest Z_sum]) (v := (some (.int r_2))) hx hb hml hown htc hN (c_X2_isDown l G cI cZ cJ aD aDc D_writesDone D_writesLeft D_down  hE_1) mw_345 mw_346 mw_347 mw_3 mw_348 hd_X2_isDown ⟨rfl, rfl⟩ ⟨Nat.le_of_ble_eq_true rfl, Nat.le_of_ble_eq_true rfl⟩ hK hw0 hA [1] [0, 2, 3, 4, 5, 6, 7, 8] [0, 8, 1, 2, 3, 4, 5, 6, 7] rfl rfl rfl rfl rfl (by decide) rfl rfl rfl 0 rfl rfl rfl rfl hl0.1 rfl rfl (Nat.le_of_ble_eq_true rfl) dX9_aggCount_4 ⟨Nat.zero_le _, Nat.zero_le _⟩ (fun H3 locs3 hw3 => ?_)
  clear hw0
  refine lv_if_eq (tgt := 13) hx hb dX9_aggCount_7 (by decide) (fun c_4 => ?_) (fun c_4 => ?_)
  · replace hfin := it_t c_4 hfin
    refine lv_aload_n hx hb dX9_aggCount_13 rfl (lv_at hl0 0 rfl) ?_
    refine lv_iload_n hx hb dX9_aggCount_14 rfl (lv_at hl0 1 rfl) ?_
    replace hfin := ob1_some hfin
    obtain ⟨r_6, hE_5, hfin⟩ := hfin
    refine ctV (a := aP) (As := [.int p0]) (rest := []) (st1 := [.int r_6]) (wc := [oX9 aP P_seriesCount P_most P_ratio aD aI aG aU aT aQ aC P_recoveries]) (w1 := [oX9 aP P_seriesCount P_most P_ratio aD aI aG aU aT aQ aC P_recoveries]) (wr := [oX2 aD aDc D_writesDone D_writesLeft D_down, rI aDc cI 4096 D_cells, oX3 aI aD, oX4 aG aD G_logged, oX8 aU aD U_place U_bitsRead U_started U_time U_value U_rise, oX0 aQ aI aG aU Q_ratio aF aZ Q_looks Q_unpacked, oX6 aF F_first F_last F_points F_least F_greatest F_sum, oX6 aZ Z_first Z_last Z_points Z_least Z_greatest Z_sum]) (wb := [oX9 aP P_seriesCount P_most P_ratio aD aI aG aU aT aQ aC P_recoveries, oX2 aD aDc D_writesDone D_writesLeft D_down, rI aDc cI 4096 D_cells, oX3 aI aD, oX4 aG aD G_logged, oX8 aU aD U_place U_bitsRead U_started U_time U_value U_rise, oX0 aQ aI aG aU Q_ratio aF aZ Q_looks Q_unpacked, oX6 aF F_first F_last F_points F_least F_greatest F_sum, oX6 aZ Z_first Z_last Z_points Z_least Z_greatest Z_sum]) (v := (some (.int r_6))) hx hb hml hown htc hN (c_X9_isSeries l G cI cZ cJ aP aD aI aG aU aT aQ aC P_seriesCount P_most P_ratio P_recoveries p0 hE_5) mw_349 mw_351 mp_0 mw_1 mw_352 hd_X9_isSeries ⟨rfl, rfl⟩ ⟨Nat.le_of_ble_eq_true rfl, Nat.le_of_ble_eq_true rfl⟩ hK hw3 hA [0] [1, 2, 3, 4, 5, 6, 7, 8] [8, 0, 1, 2, 3, 4, 5, 6, 7] rfl rfl rfl rfl rfl (by decide) rfl rfl rfl 0 rfl rfl rfl rfl hl0.1 rfl rfl (Nat.le_of_ble_eq_true rfl) dX9_aggCount_15 ⟨Nat.zero_le _, Nat.zero_le _⟩ (fun H7 locs7 hw7 => ?_)
    clear hw3 H3 locs3
    refine lv_if_ne (tgt := 24) hx hb dX9_aggCount_18 (by decide) (fun c_8 => ?_) (fun c_8 => ?_)
    · replace hfin := it_f c_8 hfin
      refine lv_aload_n hx hb dX9_aggCount_24 rfl (lv_at hl0 0 rfl) ?_
      refine va_get (D := G) (ci := 9) (v := .ref aQ) (C := RX9) (T := TX9) (N := 11) hx hb htc iX9 hown hK hw7.1 0 rfl rfl 8 (by decide) (htc _ mw_311) (fun _ h9 => h9) rfl dX9_aggCount_25 ?_
      refine lv_iload_n hx hb dX9_aggCount_28 rfl (lv_at hl0 1 rfl) ?_
      refine lv_iload_n hx hb dX9_aggCount_29 rfl (lv_at hl0 2 rfl) ?_
      refine lv_iload_n hx hb dX9_aggCount_30 rfl (lv_at hl0 3 rfl) ?_
      replace hfin := ob20_some hfin
      obtain ⟨U_place_10, U_bitsRead_11, U_started_12, U_time_13, U_value_14, U_rise_15, Q_looks_16, Q_unpacked_17, F_first_18, F_last_19, F_points_20, F_least_21, F_greatest_22, F_sum_23, Z_first_24, Z_last_25, Z_points_26, Z_least_27, Z_greatest_28, Z_sum_29, hE_9, hfin⟩ := hfin
      refine ctV (a := aQ) (As := [.int p0, .int p1, .int p2]) (rest := []) (st1 := [.ref aF]) (wc := [oX2 aD aDc D_writesDone D_writesLeft D_down, rI aDc cI 4096 D_cells, oX3 aI aD, oX4 aG aD G_logged, oX8 aU aD U_place U_bitsRead U_started U_time U_value U_rise, oX0 aQ aI aG aU Q_ratio aF aZ Q_looks Q_unpacked, oX6 aF F_first F_last F_points F_least F_greatest F_sum, oX6 aZ Z_first Z_last Z_points Z_least Z_greatest Z_sum]) (w1 := [oX2 aD aDc D_writesDone D_writesLeft D_down, rI aDc cI 4096 D_cells, oX3 aI aD, oX4 aG aD G_logged, oX8 aU aD U_place_10 U_bitsRead_11 U_started_12 U_time_13 U_value_14 U_rise_15, oX0 aQ aI aG aU Q_ratio aF aZ Q_looks_16 Q_unpacked_17, oX6 aF F_first_18 F_last_19 F_points_20 F_least_21 F_greatest_22 F_sum_23, oX6 aZ Z_first_24 Z_last_25 Z_points_26 Z_least_27 Z_greatest_28 Z_sum_29]) (wr := [oX9 aP P_seriesCount P_most P_ratio aD aI aG aU aT aQ aC P_recoveries]) (wb := [oX9 aP P_seriesCount P_most P_ratio aD aI aG aU aT aQ aC P_recoveries, oX2 aD aDc D_writesDone D_writesLeft D_down, rI aDc cI 4096 D_cells, oX3 aI aD, oX4 aG aD G_logged, oX8 aU aD U_place_10 U_bitsRead_11 U_started_12 U_time_13 U_value_14 U_rise_15, oX0 aQ aI aG aU Q_ratio aF aZ Q_looks_16 Q_unpacked_17, oX6 aF F_first_18 F_last_19 F_points_20 F_least_21 F_greatest_22 F_sum_23, oX6 aZ Z_first_24 Z_last_25 Z_points_26 Z_least_27 Z_greatest_28 Z_sum_29]) (v := (some (.ref aF))) hx hb hml hown htc hN (c_X0_ask l G cI cZ cJ aD aDc aI aG aU aQ aF aZ D_writesDone D_writesLeft D_down D_cells G_logged U_place U_bitsRead U_started U_time U_value U_rise Q_ratio Q_looks Q_unpacked F_first F_last F_points F_least F_greatest F_sum Z_first Z_last Z_points Z_least Z_greatest Z_sum p0 p1 p2 hE_9) mw_620 mw_621 mw_622 mw_10 mw_623 hd_X0_ask ⟨rfl, rfl⟩ ⟨Nat.le_of_ble_eq_true rfl, Nat.le_of_ble_eq_true rfl⟩ hK hw7 hA [1, 2, 3, 4, 5, 6, 7, 8] [0] [0, 1, 2, 3, 4, 5, 6, 7, 8] rfl rfl rfl rfl rfl (by decide) rfl rfl rfl 5 rfl rfl rfl rfl hl0.1 rfl rfl (Nat.le_of_ble_eq_true rfl) dX9_aggCount_31 ⟨Nat.zero_le _, Nat.zero_le _⟩ (fun H30 locs30 hw30 => ?_)
      clear hw7 H7 locs7
      refine va_getN (D := G) (ci := 6) (v := .int F_points_20) (C := RX6) (T := TX6) (N := 6) hx hb htc iX6 hown hK hw30.1 7 rfl rfl 2 (by decide) (va_Nw.use rfl (hN _ mn_14)) (fun _ h9 => h9) rfl dX9_aggCount_34 ?_
      cases hfin
      rw [hQQ]
      exact ct_iret hx hb hr hlocks hw30.1 hw30.2.1 hw30.2.2 dX9_aggCount_37
    · replace hfin := it_t c_8 hfin
      refine lv_bipush (v := (-2 : Int32)) hx hb dX9_aggCount_21 (by decide) ?_
      cases hfin
      rw [hQQ]
      exact ct_iret hx hb hr hlocks hw7.1 hw7.2.1 hw7.2.2 dX9_aggCount_23
  · replace hfin := it_f c_4 hfin
    refine lv_bipush (v := (-9 : Int32)) hx hb dX9_aggCount_10 (by decide) ?_
    cases hfin
    rw [hQQ]
    exact ct_iret hx hb hr hlocks hw3.1 hw3.2.1 hw3.2.2 dX9_aggCount_12
abbrev rm_X9_crashAfter : Room := { frames := 1, cells := 0, slots := 0, locals := 21 }
theorem hd_X9_crashAfter : yX9_crashAfter.cls = RX9 ∧ yX9_crashAfter.cls ≠ "java/lang/invoke/MethodHandle" ∧ yX9_crashAfter.cls ≠ "java/lang/invoke/VarHandle" ∧ (parseMethodDescriptor yX9_crashAfter.desc).map (fun d => d.parameters.length) = some 1 := by decide +kernel
set_option maxHeartbeats 4000000 in
set_option maxRecDepth 100000 in
theorem c_X9_crashAfter (l : Launch) (G : va_G) (cI cZ cJ : ClassId) (aP aD aI aG aU aT aQ aC aDc : Nat) (P_seriesCount : Int32) (P_most : Int32) (P_ratio : Int32) (P_recoveries : Int32) (D_writesDone : Int32) (D_writesLeft : Int32) (D_down : Int32) (p0 : Int32) {r : Int32} {o_D_writesLeft : Int32} (hfin : m_X9_crashAfter D_writesLeft D_down p0 = some (r, o_D_writesLeft)) : CT l yX9_crashAfter cX9_crashAfter 2 (some .boolean) rm_X9_crashAfter G (tyC cI cZ cJ) [.ref aP, .int p0] [oX9 aP P_seriesCount P_most P_ratio aD aI aG aU aT aQ aC P_recoveries, oX2 aD aDc D_writesDone D_writesLeft D_down] (some (.int r)) [oX9 aP P_seriesCount P_most P_ratio aD aI aG aU aT aQ aC P_recoveries, oX2 aD aDc D_writesDone o_D_writesLeft D_down] := by
  refine CT.ofW (lvl := [(0, .ref aP), (1, .int p0)]) (by decide) (Nat.le_of_ble_eq_true rfl) rfl ?_
  intro p e s m args below meth c A ls0 QQ hQQ hx hb hml hr hlocks htc hN hown hK hA hw0 hl0
  rw [m_X9_crashAfter] at hfin
  refine lv_aload_n hx hb dX9_crashAfter_0 rfl (lv_at hl0 0 rfl) ?_
  refine va_get (D := G) (ci := 9) (v := .ref aD) (C := RX9) (T := TX9) (N := 11) hx hb htc iX9 hown hK hw0.1 0 rfl rfl 3 (by decide) (htc _ mw_306) (fun _ h9 => h9) rfl dX9_crashAfter_1 ?_
  replace hfin := ob1_some hfin
  obtain ⟨r_2, hE_1, hfin⟩ := hfin
  refine ctV (a := aD) (As := []) (rest := []) (st1 := [.int r_2]) (wc := [oX2 aD aDc D_writesDone D_writesLeft D_down]) (w1 := [oX2 aD aDc D_writesDone D_writesLeft D_down]) (wr := [oX9 aP P_seriesCount P_most P_ratio aD aI aG aU aT aQ aC P_recoveries]) (wb := [oX9 aP P_seriesCount P_most P_ratio aD aI aG aU aT aQ aC P_recoveries, oX2 aD aDc D_writesDone D_writesLeft D_down]) (v := (some (.int r_2))) hx hb hml hown htc hN (c_X2_isDown l G cI cZ cJ aD aDc D_writesDone D_writesLeft D_down  hE_1) mw_345 mw_346 mw_347 mw_3 mw_348 hd_X2_isDown ⟨rfl, rfl⟩ ⟨Nat.le_of_ble_eq_true rfl, Nat.le_of_ble_eq_true rfl⟩ hK hw0 hA [1] [0] [0, 1] rfl rfl rfl rfl rfl (by decide) rfl rfl rfl 0 rfl rfl rfl rfl hl0.1 rfl rfl (Nat.le_of_ble_eq_true rfl) dX9_crashAfter_4 ⟨Nat.zero_le _, Nat.zero_le _⟩ (fun H3 locs3 hw3 => ?_)
  clear hw0
  refine lv_if_ne (tgt := 20) hx hb dX9_crashAfter_7 (by decide) (fun c_4 => ?_) (fun c_4 => ?_)
  · replace hfin := it_f c_4 hfin
    refine lv_iconst (v := (0 : Int32)) hx hb dX9_crashAfter_20 (by decide) ?_
    cases hfin
    rw [hQQ]
    exact ct_zret hx hb hr hlocks (Or.inl rfl) hw3.1 hw3.2.1 hw3.2.2 dX9_crashAfter_21
  · replace hfin := it_t c_4 hfin
    refine lv_iload_n hx hb dX9_crashAfter_10 rfl (lv_at hl0 1 rfl) ?_
    refine lv_if_lt (tgt := 20) hx hb dX9_crashAfter_11 (by decide) (fun c_5 => ?_) (fun c_5 => ?_)
    · replace hfin := it_t c_5 hfin
      refine lv_iconst (v := (0 : Int32)) hx hb dX9_crashAfter_20 (by decide) ?_
      cases hfin
      rw [hQQ]
      exact ct_zret hx hb hr hlocks (Or.inl rfl) hw3.1 hw3.2.1 hw3.2.2 dX9_crashAfter_21
    · replace hfin := it_f c_5 hfin
      refine lv_iload_n hx hb dX9_crashAfter_14 rfl (lv_at hl0 1 rfl) ?_
      refine lv_ldc (v := (1000000 : Int32)) hx hb hown (htc _ mw_715) dX9_crashAfter_15 ?_
      refine lv_icmp_le (tgt := 22) hx hb dX9_crashAfter_17 (by decide) (fun c_6 => ?_) (fun c_6 => ?_)
      · replace hfin := it_t c_6 hfin
        refine lv_aload_n hx hb dX9_crashAfter_22 rfl (lv_at hl0 0 rfl) ?_
        refine va_get (D := G) (ci := 9) (v := .ref aD) (C := RX9) (T := TX9) (N := 11) hx hb htc iX9 hown hK hw3.1 0 rfl rfl 3 (by decide) (htc _ mw_306) (fun _ h9 => h9) rfl dX9_crashAfter_23 ?_
        refine lv_iload_n hx hb dX9_crashAfter_26 rfl (lv_at hl0 1 rfl) ?_
        replace hfin := ob1_some hfin
        obtain ⟨D_writesLeft_8, hE_7, hfin⟩ := hfin
        refine ctV (a := aD) (As := [.int p0]) (rest := []) (st1 := []) (wc := [oX2 aD aDc D_writesDone D_writesLeft D_down]) (w1 := [oX2 aD aDc D_writesDone D_writesLeft_8 D_down]) (wr := [oX9 aP P_seriesCount P_most P_ratio aD aI aG aU aT aQ aC P_recoveries]) (wb := [oX9 aP P_seriesCount P_most P_ratio aD aI aG aU aT aQ aC P_recoveries, oX2 aD aDc D_writesDone D_writesLeft_8 D_down]) (v := none) hx hb hml hown htc hN (c_X2_limitWrites l G cI cZ cJ aD aDc D_writesDone D_writesLeft D_down p0 hE_7) mw_716 mw_717 mw_718 mw_3 mw_719 hd_X2_limitWrites ⟨rfl, rfl⟩ ⟨Nat.le_of_ble_eq_true rfl, Nat.le_of_ble_eq_true rfl⟩ hK hw3 hA [1] [0] [0, 1] rfl rfl rfl rfl rfl (by decide) rfl rfl rfl 0 rfl rfl rfl rfl hl0.1 rfl rfl (Nat.le_of_ble_eq_true rfl) dX9_crashAfter_27 ⟨Nat.zero_le _, Nat.zero_le _⟩ (fun H9 locs9 hw9 => ?_)
        clear hw3 H3 locs3
        refine lv_iconst (v := (1 : Int32)) hx hb dX9_crashAfter_30 (by decide) ?_
        cases hfin
        rw [hQQ]
        exact ct_zret hx hb hr hlocks (Or.inr rfl) hw9.1 hw9.2.1 hw9.2.2 dX9_crashAfter_31
      · replace hfin := it_f c_6 hfin
        refine lv_iconst (v := (0 : Int32)) hx hb dX9_crashAfter_20 (by decide) ?_
        cases hfin
        rw [hQQ]
        exact ct_zret hx hb hr hlocks (Or.inl rfl) hw3.1 hw3.2.1 hw3.2.2 dX9_crashAfter_21
abbrev rm_X9_recover : Room := { frames := 4, cells := 0, slots := 0, locals := 87 }
theorem hd_X9_recover : yX9_recover.cls = RX9 ∧ yX9_recover.cls ≠ "java/lang/invoke/MethodHandle" ∧ yX9_recover.cls ≠ "java/lang/invoke/VarHandle" ∧ (parseMethodDescriptor yX9_recover.desc).map (fun d => d.parameters.length) = some 0 := by decide +kernel
set_option maxHeartbeats 4000000 in
set_option maxRecDepth 100000 in
theorem c_X9_recover (l : Launch) (G : va_G) (cI cZ cJ : ClassId) (aP aD aI aG aU aT aQ aC aDc aV : Nat) (P_seriesCount : Int32) (P_most : Int32) (P_ratio : Int32) (P_recoveries : Int32) (D_writesDone : Int32) (D_writesLeft : Int32) (D_down : Int32) (D_cells : Nat → Int32) (G_logged : Int32) (C_isOpen : Int32) (C_series : Int32) (C_from : Int32) (C_to : Int32) (C_entry : Int32) (C_entriesEnd : Int32) (C_pointsLeft : Int32) (C_block : Int32) (C_time : Int32) (C_value : Int32)  {r : Int32} {o_P_recoveries : Int32} {o_D_writesLeft : Int32} {o_D_down : Int32} {o_G_logged : Int32} {o_C_isOpen : Int32} {o_C_time : Int32} {o_C_value : Int32} (hfin : m_X9_recover P_recoveries D_writesLeft D_down D_cells G_logged C_isOpen C_time C_value = some (r, o_P_recoveries, o_D_writesLeft, o_D_down, o_G_logged, o_C_isOpen, o_C_time, o_C_value)) : CT l yX9_recover cX9_recover 1 (some .int) rm_X9_recover G (tyC cI cZ cJ) [.ref aP] [oX9 aP P_seriesCount P_most P_ratio aD aI aG aU aT aQ aC P_recoveries, oX2 aD aDc D_writesDone D_writesLeft D_down, rI aDc cI 4096 D_cells, oX3 aI aD, oX4 aG aD G_logged, oX1 aC aI aG aV C_isOpen C_series C_from C_to C_entry C_entriesEnd C_pointsLeft C_block C_time C_value] (some (.int r)) [oX9 aP P_seriesCount P_most P_ratio aD aI aG aU aT aQ aC o_P_recoveries, oX2 aD aDc D_writesDone o_D_writesLeft o_D_down, rI aDc cI 4096 D_cells, oX3 aI aD, oX4 aG aD o_G_logged, oX1 aC aI aG aV o_C_isOpen C_series C_from C_to C_entry C_entriesEnd C_pointsLeft C_block o_C_time o_C_value] := by
  refine CT.ofW (lvl := [(0, .ref aP)]) (by decide) (Nat.le_of_ble_eq_true rfl) rfl ?_
  intro p e s m args below meth c A ls0 QQ hQQ hx hb hml hr hlocks htc hN hown hK hA hw0 hl0
  rw [m_X9_recover] at hfin
  refine lv_aload_n hx hb dX9_recover_0 rfl (lv_at hl0 0 rfl) ?_
  refine va_get (D := G) (ci := 9) (v := .ref aC) (C := RX9) (T := TX9) (N := 11) hx hb htc iX9 hown hK hw0.1 0 rfl rfl 9 (by decide) (htc _ mw_312) (fun _ h9 => h9) rfl dX9_recover_1 ?_
  replace hfin := ob3_some hfin
  obtain ⟨C_isOpen_2, C_time_3, C_value_4, hE_1, hfin⟩ := hfin
  refine ctV (a := aC) (As := []) (rest := []) (st1 := []) (wc := [oX1 aC aI aG aV C_isOpen C_series C_from C_to C_entry C_entriesEnd C_pointsLeft C_block C_time C_value]) (w1 := [oX1 aC aI aG aV C_isOpen_2 C_series C_from C_to C_entry C_entriesEnd C_pointsLeft C_block C_time_3 C_value_4]) (wr := [oX9 aP P_seriesCount P_most P_ratio aD aI aG aU aT aQ aC P_recoveries, oX2 aD aDc D_writesDone D_writesLeft D_down, rI aDc cI 4096 D_cells, oX3 aI aD, oX4 aG aD G_logged]) (wb := [oX9 aP P_seriesCount P_most P_ratio aD aI aG aU aT aQ aC P_recoveries, oX2 aD aDc D_writesDone D_writesLeft D_down, rI aDc cI 4096 D_cells, oX3 aI aD, oX4 aG aD G_logged, oX1 aC aI aG aV C_isOpen_2 C_series C_from C_to C_entry C_entriesEnd C_pointsLeft C_block C_time_3 C_value_4]) (v := none) hx hb hml hown htc hN (c_X1_close l G cI cZ cJ aC aI aG aV C_isOpen C_series C_from C_to C_entry C_entriesEnd C_pointsLeft C_block C_time C_value  hE_1) mw_341 mw_342 mw_343 mw_11 mw_344 hd_X1_close ⟨rfl, rfl⟩ ⟨Nat.le_of_ble_eq_true rfl, Nat.le_of_ble_eq_true rfl⟩ hK hw0 hA [5] [0, 1, 2, 3, 4] [0, 1, 2, 3, 4, 5] rfl rfl rfl rfl rfl (by decide) rfl rfl rfl 0 rfl rfl rfl rfl hl0.1 rfl rfl (Nat.le_of_ble_eq_true rfl) dX9_recover_4 ⟨Nat.zero_le _, Nat.zero_le _⟩ (fun H5 locs5 hw5 => ?_)
  clear hw0
  refine lv_aload_n hx hb dX9_recover_7 rfl (lv_at hl0 0 rfl) ?_
  refine lv_dup hx hb dX9_recover_8 rfl ?_
  refine va_get (D := G) (ci := 9) (v := .int P_recoveries) (C := RX9) (T := TX9) (N := 11) hx hb htc iX9 hown hK hw5.1 0 rfl rfl 10 (by decide) (htc _ mw_313) (fun _ h9 => h9) rfl dX9_recover_9 ?_
  refine lv_iconst (v := (1 : Int32)) hx hb dX9_recover_12 (by decide) ?_
  refine lv_iadd hx hb dX9_recover_13 ?_
  refine va_put (D := G) (ci := 9) (v := .int (P_recoveries + (1 : Int32))) (ty := .int) (C := RX9) (T := TX9) (N := 11) hx hb htc iX9 tyX9 tyX9_ok nmX9 hown hK hw5.1 hw5.2.1 hw5.2.2 0 rfl rfl 10 (by decide) (htc _ mw_313) (fun _ h9 => h9) rfl (tyX9_ok 10 (by decide)) rfl rfl (Nat.le_of_ble_eq_true rfl) dX9_recover_14 (fun H6 locs6 hP hD hS => ?_)
  have hw6 : wS G A s H6 locs6 [oX9 aP P_seriesCount P_most P_ratio aD aI aG aU aT aQ aC (P_recoveries + (1 : Int32)), oX2 aD aDc D_writesDone D_writesLeft D_down, rI aDc cI 4096 D_cells, oX3 aI aD, oX4 aG aD G_logged, oX1 aC aI aG aV C_isOpen_2 C_series C_from C_to C_entry C_entriesEnd C_pointsLeft C_block C_time_3 C_value_4] := ⟨hP, hD, hS⟩
  clear hP hD hS hw5 H5 locs5
  refine lv_aload_n hx hb dX9_recover_17 rfl (lv_at hl0 0 rfl) ?_
  refine va_get (D := G) (ci := 9) (v := .ref aD) (C := RX9) (T := TX9) (N := 11) hx hb htc iX9 hown hK hw6.1 0 rfl rfl 3 (by decide) (htc _ mw_306) (fun _ h9 => h9) rfl dX9_recover_18 ?_
  replace hfin := ob2_some hfin
  obtain ⟨D_writesLeft_8, D_down_9, hE_7, hfin⟩ := hfin
  refine ctV (a := aD) (As := []) (rest := []) (st1 := []) (wc := [oX2 aD aDc D_writesDone D_writesLeft D_down]) (w1 := [oX2 aD aDc D_writesDone D_writesLeft_8 D_down_9]) (wr := [oX9 aP P_seriesCount P_most P_ratio aD aI aG aU aT aQ aC (P_recoveries + (1 : Int32)), rI aDc cI 4096 D_cells, oX3 aI aD, oX4 aG aD G_logged, oX1 aC aI aG aV C_isOpen_2 C_series C_from C_to C_entry C_entriesEnd C_pointsLeft C_block C_time_3 C_value_4]) (wb := [oX9 aP P_seriesCount P_most P_ratio aD aI aG aU aT aQ aC (P_recoveries + (1 : Int32)), oX2 aD aDc D_writesDone D_writesLeft_8 D_down_9, rI aDc cI 4096 D_cells, oX3 aI aD, oX4 aG aD G_logged, oX1 aC aI aG aV C_isOpen_2 C_series C_from C_to C_entry C_entriesEnd C_pointsLeft C_block C_time_3 C_value_4]) (v := none) hx hb hml hown htc hN (c_X2_powerOn l G cI cZ cJ aD aDc D_writesDone D_writesLeft D_down  hE_7) mw_724 mw_725 mw_726 mw_3 mw_727 hd_X2_powerOn ⟨rfl, rfl⟩ ⟨Nat.le_of_ble_eq_true rfl, Nat.le_of_ble_eq_true rfl⟩ hK hw6 hA [1] [0, 2, 3, 4, 5] [0, 5, 1, 2, 3, 4] rfl rfl rfl rfl rfl (by decide) rfl rfl rfl 0 rfl rfl rfl rfl hl0.1 rfl rfl (Nat.le_of_ble_eq_true rfl) dX9_recover_21 ⟨Nat.zero_le _, Nat.zero_le _⟩ (fun H10 locs10 hw10 => ?_)
  clear hw6 H6 locs6
  refine lv_aload_n hx hb dX9_recover_24 rfl (lv_at hl0 0 rfl) ?_
  refine va_get (D := G) (ci := 9) (v := .ref aG) (C := RX9) (T := TX9) (N := 11) hx hb htc iX9 hown hK hw10.1 0 rfl rfl 5 (by decide) (htc _ mw_308) (fun _ h9 => h9) rfl dX9_recover_25 ?_
  replace hfin := ob1_some hfin
  obtain ⟨G_logged_12, hE_11, hfin⟩ := hfin
  refine ctV (a := aG) (As := []) (rest := []) (st1 := []) (wc := [oX2 aD aDc D_writesDone D_writesLeft_8 D_down_9, rI aDc cI 4096 D_cells, oX4 aG aD G_logged]) (w1 := [oX2 aD aDc D_writesDone D_writesLeft_8 D_down_9, rI aDc cI 4096 D_cells, oX4 aG aD G_logged_12]) (wr := [oX9 aP P_seriesCount P_most P_ratio aD aI aG aU aT aQ aC (P_recoveries + (1 : Int32)), oX3 aI aD, oX1 aC aI aG aV C_isOpen_2 C_series C_from C_to C_entry C_entriesEnd C_pointsLeft C_block C_time_3 C_value_4]) (wb := [oX9 aP P_seriesCount P_most P_ratio aD aI aG aU aT aQ aC (P_recoveries + (1 : Int32)), oX2 aD aDc D_writesDone D_writesLeft_8 D_down_9, rI aDc cI 4096 D_cells, oX3 aI aD, oX4 aG aD G_logged_12, oX1 aC aI aG aV C_isOpen_2 C_series C_from C_to C_entry C_entriesEnd C_pointsLeft C_block C_time_3 C_value_4]) (v := none) hx hb hml hown htc hN (c_X4_readAgain l G cI cZ cJ aD aDc aG D_writesDone D_writesLeft_8 D_down_9 D_cells G_logged  hE_11) mw_559 mw_560 mw_561 mw_5 mw_562 hd_X4_readAgain ⟨rfl, rfl⟩ ⟨Nat.le_of_ble_eq_true rfl, Nat.le_of_ble_eq_true rfl⟩ hK hw10 hA [1, 2, 4] [0, 3, 5] [0, 3, 4, 1, 5, 2] rfl rfl rfl rfl rfl (by decide) rfl rfl rfl 2 rfl rfl rfl rfl hl0.1 rfl rfl (Nat.le_of_ble_eq_true rfl) dX9_recover_28 ⟨Nat.zero_le _, Nat.zero_le _⟩ (fun H13 locs13 hw13 => ?_)
  clear hw10 H10 locs10
  refine lv_aload_n hx hb dX9_recover_31 rfl (lv_at hl0 0 rfl) ?_
  refine va_get (D := G) (ci := 9) (v := .ref aI) (C := RX9) (T := TX9) (N := 11) hx hb htc iX9 hown hK hw13.1 0 rfl rfl 4 (by decide) (htc _ mw_307) (fun _ h9 => h9) rfl dX9_recover_32 ?_
  replace hfin := ob1_some hfin
  obtain ⟨r_15, hE_14, hfin⟩ := hfin
  refine ctV (a := aI) (As := []) (rest := []) (st1 := [.int r_15]) (wc := [oX2 aD aDc D_writesDone D_writesLeft_8 D_down_9, rI aDc cI 4096 D_cells, oX3 aI aD]) (w1 := [oX2 aD aDc D_writesDone D_writesLeft_8 D_down_9, rI aDc cI 4096 D_cells, oX3 aI aD]) (wr := [oX9 aP P_seriesCount P_most P_ratio aD aI aG aU aT aQ aC (P_recoveries + (1 : Int32)), oX4 aG aD G_logged_12, oX1 aC aI aG aV C_isOpen_2 C_series C_from C_to C_entry C_entriesEnd C_pointsLeft C_block C_time_3 C_value_4]) (wb := [oX9 aP P_seriesCount P_most P_ratio aD aI aG aU aT aQ aC (P_recoveries + (1 : Int32)), oX2 aD aDc D_writesDone D_writesLeft_8 D_down_9, rI aDc cI 4096 D_cells, oX3 aI aD, oX4 aG aD G_logged_12, oX1 aC aI aG aV C_isOpen_2 C_series C_from C_to C_entry C_entriesEnd C_pointsLeft C_block C_time_3 C_value_4]) (v := (some (.int r_15))) hx hb hml hown htc hN (c_X3_points l G cI cZ cJ aD aDc aI D_writesDone D_writesLeft_8 D_down_9 D_cells  hE_14) mw_728 mw_729 mw_730 mw_4 mw_731 hd_X3_points ⟨rfl, rfl⟩ ⟨Nat.le_of_ble_eq_true rfl, Nat.le_of_ble_eq_true rfl⟩ hK hw13 hA [1, 2, 3] [0, 4, 5] [0, 3, 4, 5, 1, 2] rfl rfl rfl rfl rfl (by decide) rfl rfl rfl 2 rfl rfl rfl rfl hl0.1 rfl rfl (Nat.le_of_ble_eq_true rfl) dX9_recover_35 ⟨Nat.zero_le _, Nat.zero_le _⟩ (fun H16 locs16 hw16 => ?_)
  clear hw13 H13 locs13
  refine lv_aload_n hx hb dX9_recover_38 rfl (lv_at hl0 0 rfl) ?_
  refine va_get (D := G) (ci := 9) (v := .ref aG) (C := RX9) (T := TX9) (N := 11) hx hb htc iX9 hown hK hw16.1 0 rfl rfl 5 (by decide) (htc _ mw_308) (fun _ h9 => h9) rfl dX9_recover_39 ?_
  replace hfin := ob1_some hfin
  obtain ⟨r_18, hE_17, hfin⟩ := hfin
  refine ctV (a := aG) (As := []) (rest := [.int r_15]) (st1 := [.int r_18, .int r_15]) (wc := [oX4 aG aD G_logged_12]) (w1 := [oX4 aG aD G_logged_12]) (wr := [oX9 aP P_seriesCount P_most P_ratio aD aI aG aU aT aQ aC (P_recoveries + (1 : Int32)), oX2 aD aDc D_writesDone D_writesLeft_8 D_down_9, rI aDc cI 4096 D_cells, oX3 aI aD, oX1 aC aI aG aV C_isOpen_2 C_series C_from C_to C_entry C_entriesEnd C_pointsLeft C_block C_time_3 C_value_4]) (wb := [oX9 aP P_seriesCount P_most P_ratio aD aI aG aU aT aQ aC (P_recoveries + (1 : Int32)), oX2 aD aDc D_writesDone D_writesLeft_8 D_down_9, rI aDc cI 4096 D_cells, oX3 aI aD, oX4 aG aD G_logged_12, oX1 aC aI aG aV C_isOpen_2 C_series C_from C_to C_entry C_entriesEnd C_pointsLeft C_block C_time_3 C_value_4]) (v := (some (.int r_18))) hx hb hml hown htc hN (c_X4_logged l G cI cZ cJ aG aD G_logged_12  hE_17) mw_416 mw_417 mw_418 mw_5 mw_419 hd_X4_logged ⟨rfl, rfl⟩ ⟨Nat.le_of_ble_eq_true rfl, Nat.le_of_ble_eq_true rfl⟩ hK hw16 hA [4] [0, 1, 2, 3, 5] [0, 1, 2, 3, 5, 4] rfl rfl rfl rfl rfl (by decide) rfl rfl rfl 0 rfl rfl rfl rfl hl0.1 rfl rfl (Nat.le_of_ble_eq_true rfl) dX9_recover_42 ⟨Nat.zero_le _, Nat.zero_le _⟩ (fun H19 locs19 hw19 => ?_)
  clear hw16 H16 locs16
  refine lv_iadd hx hb dX9_recover_45 ?_
  cases hfin
  rw [hQQ]
  exact ct_iret hx hb hr hlocks hw19.1 hw19.2.1 hw19.2.2 dX9_recover_46
abbrev rm_X9_cell : Room := { frames := 1, cells := 0, slots := 0, locals := 21 }
theorem hd_X9_cell : yX9_cell.cls = RX9 ∧ yX9_cell.cls ≠ "java/lang/invoke/MethodHandle" ∧ yX9_cell.cls ≠ "java/lang/invoke/VarHandle" ∧ (parseMethodDescriptor yX9_cell.desc).map (fun d => d.parameters.length) = some 1 := by decide +kernel
set_option maxHeartbeats 4000000 in
set_option maxRecDepth 100000 in
theorem c_X9_cell (l : Launch) (G : va_G) (cI cZ cJ : ClassId) (aP aD aI aG aU aT aQ aC aDc : Nat) (P_seriesCount : Int32) (P_most : Int32) (P_ratio : Int32) (P_recoveries : Int32) (D_writesDone : Int32) (D_writesLeft : Int32) (D_down : Int32) (D_cells : Nat → Int32) (p0 : Int32) {r : Int32} (hfin : m_X9_cell D_cells p0 = some (r)) : CT l yX9_cell cX9_cell 2 (some .int) rm_X9_cell G (tyC cI cZ cJ) [.ref aP, .int p0] [oX9 aP P_seriesCount P_most P_ratio aD aI aG aU aT aQ aC P_recoveries, oX2 aD aDc D_writesDone D_writesLeft D_down, rI aDc cI 4096 D_cells] (some (.int r)) [oX9 aP P_seriesCount P_most P_ratio aD aI aG aU aT aQ aC P_recoveries, oX2 aD aDc D_writesDone D_writesLeft D_down, rI aDc cI 4096 D_cells] := by
  refine CT.ofW (lvl := [(0, .ref aP), (1, .int p0)]) (by decide) (Nat.le_of_ble_eq_true rfl) rfl ?_
  intro p e s m args below meth c A ls0 QQ hQQ hx hb hml hr hlocks htc hN hown hK hA hw0 hl0
  rw [m_X9_cell] at hfin
  refine lv_aload_n hx hb dX9_cell_0 rfl (lv_at hl0 0 rfl) ?_
  refine va_get (D := G) (ci := 9) (v := .ref aD) (C := RX9) (T := TX9) (N := 11) hx hb htc iX9 hown hK hw0.1 0 rfl rfl 3 (by decide) (htc _ mw_306) (fun _ h9 => h9) rfl dX9_cell_1 ?_
  refine lv_iload_n hx hb dX9_cell_4 rfl (lv_at hl0 1 rfl) ?_
  replace hfin := ob1_some hfin
  obtain ⟨r_2, hE_1, hfin⟩ := hfin
  refine ctV (a := aD) (As := [.int p0]) (rest := []) (st1 := [.int r_2]) (wc := [oX2 aD aDc D_writesDone D_writesLeft D_down, rI aDc cI 4096 D_cells]) (w1 := [oX2 aD aDc D_writesDone D_writesLeft D_down, rI aDc cI 4096 D_cells]) (wr := [oX9 aP P_seriesCount P_most P_ratio aD aI aG aU aT aQ aC P_recoveries]) (wb := [oX9 aP P_seriesCount P_most P_ratio aD aI aG aU aT aQ aC P_recoveries, oX2 aD aDc D_writesDone D_writesLeft D_down, rI aDc cI 4096 D_cells]) (v := (some (.int r_2))) hx hb hml hown htc hN (c_X2_read l G cI cZ cJ aD aDc D_writesDone D_writesLeft D_down D_cells p0 hE_1) mw_740 mw_366 mw_367 mw_3 mw_368 hd_X2_read ⟨rfl, rfl⟩ ⟨Nat.le_of_ble_eq_true rfl, Nat.le_of_ble_eq_true rfl⟩ hK hw0 hA [1, 2] [0] [0, 1, 2] rfl rfl rfl rfl rfl (by decide) rfl rfl rfl 0 rfl rfl rfl rfl hl0.1 rfl rfl (Nat.le_of_ble_eq_true rfl) dX9_cell_5 ⟨Nat.zero_le _, Nat.zero_le _⟩ (fun H3 locs3 hw3 => ?_)
  clear hw0
  cases hfin
  rw [hQQ]
  exact ct_iret hx hb hr hlocks hw3.1 hw3.2.1 hw3.2.2 dX9_cell_8
abbrev rm_X9_chunksOf : Room := { frames := 4, cells := 0, slots := 0, locals := 87 }
theorem hd_X9_chunksOf : yX9_chunksOf.cls = RX9 ∧ yX9_chunksOf.cls ≠ "java/lang/invoke/MethodHandle" ∧ yX9_chunksOf.cls ≠ "java/lang/invoke/VarHandle" ∧ (parseMethodDescriptor yX9_chunksOf.desc).map (fun d => d.parameters.length) = some 1 := by decide +kernel
set_option maxHeartbeats 4000000 in
set_option maxRecDepth 100000 in
theorem c_X9_chunksOf (l : Launch) (G : va_G) (cI cZ cJ : ClassId) (aP aD aI aG aU aT aQ aC aDc : Nat) (P_seriesCount : Int32) (P_most : Int32) (P_ratio : Int32) (P_recoveries : Int32) (D_writesDone : Int32) (D_writesLeft : Int32) (D_down : Int32) (D_cells : Nat → Int32) (p0 : Int32) {r : Int32} (hfin : m_X9_chunksOf D_cells p0 = some (r)) : CT l yX9_chunksOf cX9_chunksOf 2 (some .int) rm_X9_chunksOf G (tyC cI cZ cJ) [.ref aP, .int p0] [oX9 aP P_seriesCount P_most P_ratio aD aI aG aU aT aQ aC P_recoveries, oX2 aD aDc D_writesDone D_writesLeft D_down, rI aDc cI 4096 D_cells, oX3 aI aD] (some (.int r)) [oX9 aP P_seriesCount P_most P_ratio aD aI aG aU aT aQ aC P_recoveries, oX2 aD aDc D_writesDone D_writesLeft D_down, rI aDc cI 4096 D_cells, oX3 aI aD] := by
  refine CT.ofW (lvl := [(0, .ref aP), (1, .int p0)]) (by decide) (Nat.le_of_ble_eq_true rfl) rfl ?_
  intro p e s m args below meth c A ls0 QQ hQQ hx hb hml hr hlocks htc hN hown hK hA hw0 hl0
  rw [m_X9_chunksOf] at hfin
  refine lv_aload_n hx hb dX9_chunksOf_0 rfl (lv_at hl0 0 rfl) ?_
  refine va_get (D := G) (ci := 9) (v := .ref aI) (C := RX9) (T := TX9) (N := 11) hx hb htc iX9 hown hK hw0.1 0 rfl rfl 4 (by decide) (htc _ mw_307) (fun _ h9 => h9) rfl dX9_chunksOf_1 ?_
  refine lv_iload_n hx hb dX9_chunksOf_4 rfl (lv_at hl0 1 rfl) ?_
  replace hfin := ob1_some hfin
  obtain ⟨r_2, hE_1, hfin⟩ := hfin
  refine ctV (a := aI) (As := [.int p0]) (rest := []) (st1 := [.int r_2]) (wc := [oX2 aD aDc D_writesDone D_writesLeft D_down, rI aDc cI 4096 D_cells, oX3 aI aD]) (w1 := [oX2 aD aDc D_writesDone D_writesLeft D_down, rI aDc cI 4096 D_cells, oX3 aI aD]) (wr := [oX9 aP P_seriesCount P_most P_ratio aD aI aG aU aT aQ aC P_recoveries]) (wb := [oX9 aP P_seriesCount P_most P_ratio aD aI aG aU aT aQ aC P_recoveries, oX2 aD aDc D_writesDone D_writesLeft D_down, rI aDc cI 4096 D_cells, oX3 aI aD]) (v := (some (.int r_2))) hx hb hml hown htc hN (c_X3_endOf l G cI cZ cJ aD aDc aI D_writesDone D_writesLeft D_down D_cells p0 hE_1) mw_370 mw_371 mw_372 mw_4 mw_373 hd_X3_endOf ⟨rfl, rfl⟩ ⟨Nat.le_of_ble_eq_true rfl, Nat.le_of_ble_eq_true rfl⟩ hK hw0 hA [1, 2, 3] [0] [0, 1, 2, 3] rfl rfl rfl rfl rfl (by decide) rfl rfl rfl 2 rfl rfl rfl rfl hl0.1 rfl rfl (Nat.le_of_ble_eq_true rfl) dX9_chunksOf_5 ⟨Nat.zero_le _, Nat.zero_le _⟩ (fun H3 locs3 hw3 => ?_)
  clear hw0
  refine lv_aload_n hx hb dX9_chunksOf_8 rfl (lv_at hl0 0 rfl) ?_
  refine va_get (D := G) (ci := 9) (v := .ref aI) (C := RX9) (T := TX9) (N := 11) hx hb htc iX9 hown hK hw3.1 0 rfl rfl 4 (by decide) (htc _ mw_307) (fun _ h9 => h9) rfl dX9_chunksOf_9 ?_
  refine lv_iload_n hx hb dX9_chunksOf_12 rfl (lv_at hl0 1 rfl) ?_
  replace hfin := ob1_some hfin
  obtain ⟨r_5, hE_4, hfin⟩ := hfin
  refine ctV (a := aI) (As := [.int p0]) (rest := [.int r_2]) (st1 := [.int r_5, .int r_2]) (wc := [oX2 aD aDc D_writesDone D_writesLeft D_down, rI aDc cI 4096 D_cells, oX3 aI aD]) (w1 := [oX2 aD aDc D_writesDone D_writesLeft D_down, rI aDc cI 4096 D_cells, oX3 aI aD]) (wr := [oX9 aP P_seriesCount P_most P_ratio aD aI aG aU aT aQ aC P_recoveries]) (wb := [oX9 aP P_seriesCount P_most P_ratio aD aI aG aU aT aQ aC P_recoveries, oX2 aD aDc D_writesDone D_writesLeft D_down, rI aDc cI 4096 D_cells, oX3 aI aD]) (v := (some (.int r_5))) hx hb hml hown htc hN (c_X3_firstOf l G cI cZ cJ aD aDc aI D_writesDone D_writesLeft D_down D_cells p0 hE_4) mw_394 mw_375 mw_376 mw_4 mw_377 hd_X3_firstOf ⟨rfl, rfl⟩ ⟨Nat.le_of_ble_eq_true rfl, Nat.le_of_ble_eq_true rfl⟩ hK hw3 hA [1, 2, 3] [0] [0, 1, 2, 3] rfl rfl rfl rfl rfl (by decide) rfl rfl rfl 2 rfl rfl rfl rfl hl0.1 rfl rfl (Nat.le_of_ble_eq_true rfl) dX9_chunksOf_13 ⟨Nat.zero_le _, Nat.zero_le _⟩ (fun H6 locs6 hw6 => ?_)
  clear hw3 H3 locs3
  refine lv_isub hx hb dX9_chunksOf_16 ?_
  cases hfin
  rw [hQQ]
  exact ct_iret hx hb hr hlocks hw6.1 hw6.2.1 hw6.2.2 dX9_chunksOf_17
abbrev rm_X9_groupsOf : Room := { frames := 5, cells := 0, slots := 0, locals := 108 }
theorem hd_X9_groupsOf : yX9_groupsOf.cls = RX9 ∧ yX9_groupsOf.cls ≠ "java/lang/invoke/MethodHandle" ∧ yX9_groupsOf.cls ≠ "java/lang/invoke/VarHandle" ∧ (parseMethodDescriptor yX9_groupsOf.desc).map (fun d => d.parameters.length) = some 1 := by decide +kernel
set_option maxHeartbeats 4000000 in
set_option maxRecDepth 100000 in
theorem c_X9_groupsOf (l : Launch) (G : va_G) (cI cZ cJ : ClassId) (aP aD aI aG aU aT aQ aC aDc : Nat) (P_seriesCount : Int32) (P_most : Int32) (P_ratio : Int32) (P_recoveries : Int32) (D_writesDone : Int32) (D_writesLeft : Int32) (D_down : Int32) (D_cells : Nat → Int32) (p0 : Int32) {r : Int32} (hfin : m_X9_groupsOf P_ratio D_cells p0 = some (r)) : CT l yX9_groupsOf cX9_groupsOf 2 (some .int) rm_X9_groupsOf G (tyC cI cZ cJ) [.ref aP, .int p0] [oX9 aP P_seriesCount P_most P_ratio aD aI aG aU aT aQ aC P_recoveries, oX2 aD aDc D_writesDone D_writesLeft D_down, rI aDc cI 4096 D_cells, oX3 aI aD] (some (.int r)) [oX9 aP P_seriesCount P_most P_ratio aD aI aG aU aT aQ aC P_recoveries, oX2 aD aDc D_writesDone D_writesLeft D_down, rI aDc cI 4096 D_cells, oX3 aI aD] := by
  refine CT.ofW (lvl := [(0, .ref aP), (1, .int p0)]) (by decide) (Nat.le_of_ble_eq_true rfl) rfl ?_
  intro p e s m args below meth c A ls0 QQ hQQ hx hb hml hr hlocks htc hN hown hK hA hw0 hl0
  rw [m_X9_groupsOf] at hfin
  refine lv_aload_n hx hb dX9_groupsOf_0 rfl (lv_at hl0 0 rfl) ?_
  refine va_get (D := G) (ci := 9) (v := .int P_ratio) (C := RX9) (T := TX9) (N := 11) hx hb htc iX9 hown hK hw0.1 0 rfl rfl 2 (by decide) (htc _ mw_305) (fun _ h9 => h9) rfl dX9_groupsOf_1 ?_
  refine lv_iconst (v := (2 : Int32)) hx hb dX9_groupsOf_4 (by decide) ?_
  replace hfin := ob1_some hfin
  obtain ⟨s_1, hJ_2, hfin⟩ := hfin
  have kj_3 : ∀ (H : Heap) (locs : List Loc) (ls : Array Slot), wS G A s H locs [oX9 aP P_seriesCount P_most P_ratio aD aI aG aU aT aQ aC P_recoveries, oX2 aD aDc D_writesDone D_writesLeft D_down, rI aDc cI 4096 D_cells, oX3 aI aD] → lv_has ls 2 [] → W p l e rm_X9_groupsOf s m args below meth c H locs 0 0 QQ (F0 m 29 ls [.int s_1]) := by
    clear hw0 hl0 ls0 hJ_2
    intro H9 locs9 ls9 hw9 hl9
    cases hfin
    rw [hQQ]
    exact ct_iret hx hb hr hlocks hw9.1 hw9.2.1 hw9.2.2 dX9_groupsOf_29
  clear hfin
  refine lv_icmp_ge (tgt := 12) hx hb dX9_groupsOf_5 (by decide) (fun c_4 => ?_) (fun c_4 => ?_)
  · replace hJ_2 := it_t c_4 hJ_2
    refine lv_aload_n hx hb dX9_groupsOf_12 rfl (lv_at hl0 0 rfl) ?_
    refine lv_iload_n hx hb dX9_groupsOf_13 rfl (lv_at hl0 1 rfl) ?_
    replace hJ_2 := ob1_some hJ_2
    obtain ⟨r_6, hE_5, hJ_2⟩ := hJ_2
    refine ctV (a := aP) (As := [.int p0]) (rest := []) (st1 := [.int r_6]) (wc := [oX9 aP P_seriesCount P_most P_ratio aD aI aG aU aT aQ aC P_recoveries, oX2 aD aDc D_writesDone D_writesLeft D_down, rI aDc cI 4096 D_cells, oX3 aI aD]) (w1 := [oX9 aP P_seriesCount P_most P_ratio aD aI aG aU aT aQ aC P_recoveries, oX2 aD aDc D_writesDone D_writesLeft D_down, rI aDc cI 4096 D_cells, oX3 aI aD]) (wr := []) (wb := [oX9 aP P_seriesCount P_most P_ratio aD aI aG aU aT aQ aC P_recoveries, oX2 aD aDc D_writesDone D_writesLeft D_down, rI aDc cI 4096 D_cells, oX3 aI aD]) (v := (some (.int r_6))) hx hb hml hown htc hN (c_X9_chunksOf l G cI cZ cJ aP aD aI aG aU aT aQ aC aDc P_seriesCount P_most P_ratio P_recoveries D_writesDone D_writesLeft D_down D_cells p0 hE_5) mw_891 mw_893 mp_32 mw_1 mw_894 hd_X9_chunksOf ⟨rfl, rfl⟩ ⟨Nat.le_of_ble_eq_true rfl, Nat.le_of_ble_eq_true rfl⟩ hK hw0 hA [0, 1, 2, 3] [] [0, 1, 2, 3] rfl rfl rfl rfl rfl (by decide) rfl rfl rfl 0 rfl rfl rfl rfl hl0.1 rfl rfl (Nat.le_of_ble_eq_true rfl) dX9_groupsOf_14 ⟨Nat.zero_le _, Nat.zero_le _⟩ (fun H7 locs7 hw7 => ?_)
    clear hw0
    refine lv_aload_n hx hb dX9_groupsOf_17 rfl (lv_at hl0 0 rfl) ?_
    refine va_get (D := G) (ci := 9) (v := .int P_ratio) (C := RX9) (T := TX9) (N := 11) hx hb htc iX9 hown hK hw7.1 0 rfl rfl 2 (by decide) (htc _ mw_305) (fun _ h9 => h9) rfl dX9_groupsOf_18 ?_
    refine lv_iadd hx hb dX9_groupsOf_21 ?_
    refine lv_iconst (v := (1 : Int32)) hx hb dX9_groupsOf_22 (by decide) ?_
    refine lv_isub hx hb dX9_groupsOf_23 ?_
    refine lv_aload_n hx hb dX9_groupsOf_24 rfl (lv_at hl0 0 rfl) ?_
    refine va_get (D := G) (ci := 9) (v := .int P_ratio) (C := RX9) (T := TX9) (N := 11) hx hb htc iX9 hown hK hw7.1 0 rfl rfl 2 (by decide) (htc _ mw_305) (fun _ h9 => h9) rfl dX9_groupsOf_25 ?_
    replace hJ_2 := ckn_some hJ_2
    obtain ⟨hne_8, hJ_2⟩ := hJ_2
    refine lv_idiv hx hb dX9_groupsOf_28 hne_8 ?_
    cases hJ_2
    exact kj_3 _ _ _ hw7 (lv_sub hl0 [] rfl)
  · replace hJ_2 := it_f c_4 hJ_2
    refine lv_iconst (v := (0 : Int32)) hx hb dX9_groupsOf_8 (by decide) ?_
    refine lv_goto (tgt := 29) hx hb dX9_groupsOf_9 (by decide) ?_
    cases hJ_2
    exact kj_3 _ _ _ hw0 (lv_sub hl0 [] rfl)
abbrev rm_X9_look : Room := { frames := 4, cells := 0, slots := 0, locals := 87 }
theorem hd_X9_look : yX9_look.cls = RX9 ∧ yX9_look.cls ≠ "java/lang/invoke/MethodHandle" ∧ yX9_look.cls ≠ "java/lang/invoke/VarHandle" ∧ (parseMethodDescriptor yX9_look.desc).map (fun d => d.parameters.length) = some 1 := by decide +kernel
set_option maxHeartbeats 4000000 in
set_option maxRecDepth 100000 in
theorem c_X9_look (l : Launch) (G : va_G) (cI cZ cJ : ClassId) (aP aD aI aG aU aT aQ aC aDc aF aZ : Nat) (P_seriesCount : Int32) (P_most : Int32) (P_ratio : Int32) (P_recoveries : Int32) (D_writesDone : Int32) (D_writesLeft : Int32) (D_down : Int32) (D_cells : Nat → Int32) (G_logged : Int32) (Q_ratio : Int32) (Q_looks : Int32) (Q_unpacked : Int32) (p0 : Int32) {r : Int32} (hfin : m_X9_look P_recoveries D_writesDone D_writesLeft D_down D_cells G_logged Q_looks Q_unpacked p0 = some (r)) : CT l yX9_look cX9_look 2 (some .int) rm_X9_look G (tyC cI cZ cJ) [.ref aP, .int p0] [oX9 aP P_seriesCount P_most P_ratio aD aI aG aU aT aQ aC P_recoveries, oX2 aD aDc D_writesDone D_writesLeft D_down, rI aDc cI 4096 D_cells, oX3 aI aD, oX4 aG aD G_logged, oX0 aQ aI aG aU Q_ratio aF aZ Q_looks Q_unpacked] (some (.int r)) [oX9 aP P_seriesCount P_most P_ratio aD aI aG aU aT aQ aC P_recoveries, oX2 aD aDc D_writesDone D_writesLeft D_down, rI aDc cI 4096 D_cells, oX3 aI aD, oX4 aG aD G_logged, oX0 aQ aI aG aU Q_ratio aF aZ Q_looks Q_unpacked] := by
  refine CT.ofW (lvl := [(0, .ref aP), (1, .int p0)]) (by decide) (Nat.le_of_ble_eq_true rfl) rfl ?_
  intro p e s m args below meth c A ls0 QQ hQQ hx hb hml hr hlocks htc hN hown hK hA hw0 hl0
  rw [m_X9_look] at hfin
  refine lv_iload_n hx hb dX9_look_0 rfl (lv_at hl0 1 rfl) ?_
  by_cases c_1 : p0 = (0 : Int32)
  · replace hfin := it_t c_1 hfin
    refine lv_tableIn (tgt := 52) hx hb dX9_look_1 (by rw [c_1]; decide) (by rw [c_1]; decide) (by rw [c_1]; rfl) (by decide) ?_
    refine lv_aload_n hx hb dX9_look_52 rfl (lv_at hl0 0 rfl) ?_
    refine va_get (D := G) (ci := 9) (v := .ref aD) (C := RX9) (T := TX9) (N := 11) hx hb htc iX9 hown hK hw0.1 0 rfl rfl 3 (by decide) (htc _ mw_306) (fun _ h9 => h9) rfl dX9_look_53 ?_
    replace hfin := ob1_some hfin
    obtain ⟨r_3, hE_2, hfin⟩ := hfin
    refine ctV (a := aD) (As := []) (rest := []) (st1 := [.int r_3]) (wc := [oX2 aD aDc D_writesDone D_writesLeft D_down]) (w1 := [oX2 aD aDc D_writesDone D_writesLeft D_down]) (wr := [oX9 aP P_seriesCount P_most P_ratio aD aI aG aU aT aQ aC P_recoveries, rI aDc cI 4096 D_cells, oX3 aI aD, oX4 aG aD G_logged, oX0 aQ aI aG aU Q_ratio aF aZ Q_looks Q_unpacked]) (wb := [oX9 aP P_seriesCount P_most P_ratio aD aI aG aU aT aQ aC P_recoveries, oX2 aD aDc D_writesDone D_writesLeft D_down, rI aDc cI 4096 D_cells, oX3 aI aD, oX4 aG aD G_logged, oX0 aQ aI aG aU Q_ratio aF aZ Q_looks Q_unpacked]) (v := (some (.int r_3))) hx hb hml hown htc hN (c_X2_writesDone l G cI cZ cJ aD aDc D_writesDone D_writesLeft D_down  hE_2) mw_745 mw_746 mw_747 mw_3 mw_748 hd_X2_writesDone ⟨rfl, rfl⟩ ⟨Nat.le_of_ble_eq_true rfl, Nat.le_of_ble_eq_true rfl⟩ hK hw0 hA [1] [0, 2, 3, 4, 5] [0, 5, 1, 2, 3, 4] rfl rfl rfl rfl rfl (by decide) rfl rfl rfl 0 rfl rfl rfl rfl hl0.1 rfl rfl (Nat.le_of_ble_eq_true rfl) dX9_look_56 ⟨Nat.zero_le _, Nat.zero_le _⟩ (fun H4 locs4 hw4 => ?_)
    clear hw0
    cases hfin
    rw [hQQ]
    exact ct_iret hx hb hr hlocks hw4.1 hw4.2.1 hw4.2.2 dX9_look_59
  · replace hfin := it_f c_1 hfin
    by_cases c_5 : p0 = (1 : Int32)
    · replace hfin := it_t c_5 hfin
      refine lv_tableIn (tgt := 60) hx hb dX9_look_1 (by rw [c_5]; decide) (by rw [c_5]; decide) (by rw [c_5]; rfl) (by decide) ?_
      refine lv_aload_n hx hb dX9_look_60 rfl (lv_at hl0 0 rfl) ?_
      refine va_get (D := G) (ci := 9) (v := .ref aG) (C := RX9) (T := TX9) (N := 11) hx hb htc iX9 hown hK hw0.1 0 rfl rfl 5 (by decide) (htc _ mw_308) (fun _ h9 => h9) rfl dX9_look_61 ?_
      replace hfin := ob1_some hfin
      obtain ⟨r_7, hE_6, hfin⟩ := hfin
      refine ctV (a := aG) (As := []) (rest := []) (st1 := [.int r_7]) (wc := [oX4 aG aD G_logged]) (w1 := [oX4 aG aD G_logged]) (wr := [oX9 aP P_seriesCount P_most P_ratio aD aI aG aU aT aQ aC P_recoveries, oX2 aD aDc D_writesDone D_writesLeft D_down, rI aDc cI 4096 D_cells, oX3 aI aD, oX0 aQ aI aG aU Q_ratio aF aZ Q_looks Q_unpacked]) (wb := [oX9 aP P_seriesCount P_most P_ratio aD aI aG aU aT aQ aC P_recoveries, oX2 aD aDc D_writesDone D_writesLeft D_down, rI aDc cI 4096 D_cells, oX3 aI aD, oX4 aG aD G_logged, oX0 aQ aI aG aU Q_ratio aF aZ Q_looks Q_unpacked]) (v := (some (.int r_7))) hx hb hml hown htc hN (c_X4_logged l G cI cZ cJ aG aD G_logged  hE_6) mw_416 mw_417 mw_418 mw_5 mw_419 hd_X4_logged ⟨rfl, rfl⟩ ⟨Nat.le_of_ble_eq_true rfl, Nat.le_of_ble_eq_true rfl⟩ hK hw0 hA [4] [0, 1, 2, 3, 5] [0, 1, 2, 3, 5, 4] rfl rfl rfl rfl rfl (by decide) rfl rfl rfl 0 rfl rfl rfl rfl hl0.1 rfl rfl (Nat.le_of_ble_eq_true rfl) dX9_look_64 ⟨Nat.zero_le _, Nat.zero_le _⟩ (fun H8 locs8 hw8 => ?_)
      clear hw0
      cases hfin
      rw [hQQ]
      exact ct_iret hx hb hr hlocks hw8.1 hw8.2.1 hw8.2.2 dX9_look_67
    · replace hfin := it_f c_5 hfin
      by_cases c_9 : p0 = (2 : Int32)
      · replace hfin := it_t c_9 hfin
        refine lv_tableIn (tgt := 68) hx hb dX9_look_1 (by rw [c_9]; decide) (by rw [c_9]; decide) (by rw [c_9]; rfl) (by decide) ?_
        refine lv_aload_n hx hb dX9_look_68 rfl (lv_at hl0 0 rfl) ?_
        refine va_get (D := G) (ci := 9) (v := .ref aI) (C := RX9) (T := TX9) (N := 11) hx hb htc iX9 hown hK hw0.1 0 rfl rfl 4 (by decide) (htc _ mw_307) (fun _ h9 => h9) rfl dX9_look_69 ?_
        replace hfin := ob1_some hfin
        obtain ⟨r_11, hE_10, hfin⟩ := hfin
        refine ctV (a := aI) (As := []) (rest := []) (st1 := [.int r_11]) (wc := [oX2 aD aDc D_writesDone D_writesLeft D_down, rI aDc cI 4096 D_cells, oX3 aI aD]) (w1 := [oX2 aD aDc D_writesDone D_writesLeft D_down, rI aDc cI 4096 D_cells, oX3 aI aD]) (wr := [oX9 aP P_seriesCount P_most P_ratio aD aI aG aU aT aQ aC P_recoveries, oX4 aG aD G_logged, oX0 aQ aI aG aU Q_ratio aF aZ Q_looks Q_unpacked]) (wb := [oX9 aP P_seriesCount P_most P_ratio aD aI aG aU aT aQ aC P_recoveries, oX2 aD aDc D_writesDone D_writesLeft D_down, rI aDc cI 4096 D_cells, oX3 aI aD, oX4 aG aD G_logged, oX0 aQ aI aG aU Q_ratio aF aZ Q_looks Q_unpacked]) (v := (some (.int r_11))) hx hb hml hown htc hN (c_X3_chunks l G cI cZ cJ aD aDc aI D_writesDone D_writesLeft D_down D_cells  hE_10) mw_601 mw_379 mw_380 mw_4 mw_381 hd_X3_chunks ⟨rfl, rfl⟩ ⟨Nat.le_of_ble_eq_true rfl, Nat.le_of_ble_eq_true rfl⟩ hK hw0 hA [1, 2, 3] [0, 4, 5] [0, 3, 4, 5, 1, 2] rfl rfl rfl rfl rfl (by decide) rfl rfl rfl 2 rfl rfl rfl rfl hl0.1 rfl rfl (Nat.le_of_ble_eq_true rfl) dX9_look_72 ⟨Nat.zero_le _, Nat.zero_le _⟩ (fun H12 locs12 hw12 => ?_)
        clear hw0
        cases hfin
        rw [hQQ]
        exact ct_iret hx hb hr hlocks hw12.1 hw12.2.1 hw12.2.2 dX9_look_75
      · replace hfin := it_f c_9 hfin
        by_cases c_13 : p0 = (3 : Int32)
        · replace hfin := it_t c_13 hfin
          refine lv_tableIn (tgt := 76) hx hb dX9_look_1 (by rw [c_13]; decide) (by rw [c_13]; decide) (by rw [c_13]; rfl) (by decide) ?_
          refine lv_aload_n hx hb dX9_look_76 rfl (lv_at hl0 0 rfl) ?_
          refine va_get (D := G) (ci := 9) (v := .ref aI) (C := RX9) (T := TX9) (N := 11) hx hb htc iX9 hown hK hw0.1 0 rfl rfl 4 (by decide) (htc _ mw_307) (fun _ h9 => h9) rfl dX9_look_77 ?_
          replace hfin := ob1_some hfin
          obtain ⟨r_15, hE_14, hfin⟩ := hfin
          refine ctV (a := aI) (As := []) (rest := []) (st1 := [.int r_15]) (wc := [oX2 aD aDc D_writesDone D_writesLeft D_down, rI aDc cI 4096 D_cells, oX3 aI aD]) (w1 := [oX2 aD aDc D_writesDone D_writesLeft D_down, rI aDc cI 4096 D_cells, oX3 aI aD]) (wr := [oX9 aP P_seriesCount P_most P_ratio aD aI aG aU aT aQ aC P_recoveries, oX4 aG aD G_logged, oX0 aQ aI aG aU Q_ratio aF aZ Q_looks Q_unpacked]) (wb := [oX9 aP P_seriesCount P_most P_ratio aD aI aG aU aT aQ aC P_recoveries, oX2 aD aDc D_writesDone D_writesLeft D_down, rI aDc cI 4096 D_cells, oX3 aI aD, oX4 aG aD G_logged, oX0 aQ aI aG aU Q_ratio aF aZ Q_looks Q_unpacked]) (v := (some (.int r_15))) hx hb hml hown htc hN (c_X3_cellsOfChunks l G cI cZ cJ aD aDc aI D_writesDone D_writesLeft D_down D_cells  hE_14) mw_749 mw_750 mw_751 mw_4 mw_752 hd_X3_cellsOfChunks ⟨rfl, rfl⟩ ⟨Nat.le_of_ble_eq_true rfl, Nat.le_of_ble_eq_true rfl⟩ hK hw0 hA [1, 2, 3] [0, 4, 5] [0, 3, 4, 5, 1, 2] rfl rfl rfl rfl rfl (by decide) rfl rfl rfl 2 rfl rfl rfl rfl hl0.1 rfl rfl (Nat.le_of_ble_eq_true rfl) dX9_look_80 ⟨Nat.zero_le _, Nat.zero_le _⟩ (fun H16 locs16 hw16 => ?_)
          clear hw0
          cases hfin
          rw [hQQ]
          exact ct_iret hx hb hr hlocks hw16.1 hw16.2.1 hw16.2.2 dX9_look_83
        · replace hfin := it_f c_13 hfin
          by_cases c_17 : p0 = (4 : Int32)
          · replace hfin := it_t c_17 hfin
            refine lv_tableIn (tgt := 84) hx hb dX9_look_1 (by rw [c_17]; decide) (by rw [c_17]; decide) (by rw [c_17]; rfl) (by decide) ?_
            refine lv_aload_n hx hb dX9_look_84 rfl (lv_at hl0 0 rfl) ?_
            refine va_get (D := G) (ci := 9) (v := .ref aQ) (C := RX9) (T := TX9) (N := 11) hx hb htc iX9 hown hK hw0.1 0 rfl rfl 8 (by decide) (htc _ mw_311) (fun _ h9 => h9) rfl dX9_look_85 ?_
            replace hfin := ob1_some hfin
            obtain ⟨r_19, hE_18, hfin⟩ := hfin
            refine ctV (a := aQ) (As := []) (rest := []) (st1 := [.int r_19]) (wc := [oX0 aQ aI aG aU Q_ratio aF aZ Q_looks Q_unpacked]) (w1 := [oX0 aQ aI aG aU Q_ratio aF aZ Q_looks Q_unpacked]) (wr := [oX9 aP P_seriesCount P_most P_ratio aD aI aG aU aT aQ aC P_recoveries, oX2 aD aDc D_writesDone D_writesLeft D_down, rI aDc cI 4096 D_cells, oX3 aI aD, oX4 aG aD G_logged]) (wb := [oX9 aP P_seriesCount P_most P_ratio aD aI aG aU aT aQ aC P_recoveries, oX2 aD aDc D_writesDone D_writesLeft D_down, rI aDc cI 4096 D_cells, oX3 aI aD, oX4 aG aD G_logged, oX0 aQ aI aG aU Q_ratio aF aZ Q_looks Q_unpacked]) (v := (some (.int r_19))) hx hb hml hown htc hN (c_X0_looks l G cI cZ cJ aQ aI aG aU aF aZ Q_ratio Q_looks Q_unpacked  hE_18) mw_753 mw_754 mw_755 mw_10 mw_756 hd_X0_looks ⟨rfl, rfl⟩ ⟨Nat.le_of_ble_eq_true rfl, Nat.le_of_ble_eq_true rfl⟩ hK hw0 hA [5] [0, 1, 2, 3, 4] [0, 1, 2, 3, 4, 5] rfl rfl rfl rfl rfl (by decide) rfl rfl rfl 0 rfl rfl rfl rfl hl0.1 rfl rfl (Nat.le_of_ble_eq_true rfl) dX9_look_88 ⟨Nat.zero_le _, Nat.zero_le _⟩ (fun H20 locs20 hw20 => ?_)
            clear hw0
            cases hfin
            rw [hQQ]
            exact ct_iret hx hb hr hlocks hw20.1 hw20.2.1 hw20.2.2 dX9_look_91
          · replace hfin := it_f c_17 hfin
            by_cases c_21 : p0 = (5 : Int32)
            · replace hfin := it_t c_21 hfin
              refine lv_tableIn (tgt := 92) hx hb dX9_look_1 (by rw [c_21]; decide) (by rw [c_21]; decide) (by rw [c_21]; rfl) (by decide) ?_
              refine lv_aload_n hx hb dX9_look_92 rfl (lv_at hl0 0 rfl) ?_
              refine va_get (D := G) (ci := 9) (v := .ref aQ) (C := RX9) (T := TX9) (N := 11) hx hb htc iX9 hown hK hw0.1 0 rfl rfl 8 (by decide) (htc _ mw_311) (fun _ h9 => h9) rfl dX9_look_93 ?_
              replace hfin := ob1_some hfin
              obtain ⟨r_23, hE_22, hfin⟩ := hfin
              refine ctV (a := aQ) (As := []) (rest := []) (st1 := [.int r_23]) (wc := [oX0 aQ aI aG aU Q_ratio aF aZ Q_looks Q_unpacked]) (w1 := [oX0 aQ aI aG aU Q_ratio aF aZ Q_looks Q_unpacked]) (wr := [oX9 aP P_seriesCount P_most P_ratio aD aI aG aU aT aQ aC P_recoveries, oX2 aD aDc D_writesDone D_writesLeft D_down, rI aDc cI 4096 D_cells, oX3 aI aD, oX4 aG aD G_logged]) (wb := [oX9 aP P_seriesCount P_most P_ratio aD aI aG aU aT aQ aC P_recoveries, oX2 aD aDc D_writesDone D_writesLeft D_down, rI aDc cI 4096 D_cells, oX3 aI aD, oX4 aG aD G_logged, oX0 aQ aI aG aU Q_ratio aF aZ Q_looks Q_unpacked]) (v := (some (.int r_23))) hx hb hml hown htc hN (c_X0_unpacked l G cI cZ cJ aQ aI aG aU aF aZ Q_ratio Q_looks Q_unpacked  hE_22) mw_757 mw_758 mw_759 mw_10 mw_760 hd_X0_unpacked ⟨rfl, rfl⟩ ⟨Nat.le_of_ble_eq_true rfl, Nat.le_of_ble_eq_true rfl⟩ hK hw0 hA [5] [0, 1, 2, 3, 4] [0, 1, 2, 3, 4, 5] rfl rfl rfl rfl rfl (by decide) rfl rfl rfl 0 rfl rfl rfl rfl hl0.1 rfl rfl (Nat.le_of_ble_eq_true rfl) dX9_look_96 ⟨Nat.zero_le _, Nat.zero_le _⟩ (fun H24 locs24 hw24 => ?_)
              clear hw0
              cases hfin
              rw [hQQ]
              exact ct_iret hx hb hr hlocks hw24.1 hw24.2.1 hw24.2.2 dX9_look_99
            · replace hfin := it_f c_21 hfin
              by_cases c_25 : p0 = (6 : Int32)
              · replace hfin := it_t c_25 hfin
                refine lv_tableIn (tgt := 100) hx hb dX9_look_1 (by rw [c_25]; decide) (by rw [c_25]; decide) (by rw [c_25]; rfl) (by decide) ?_
                refine lv_aload_n hx hb dX9_look_100 rfl (lv_at hl0 0 rfl) ?_
                refine va_get (D := G) (ci := 9) (v := .ref aD) (C := RX9) (T := TX9) (N := 11) hx hb htc iX9 hown hK hw0.1 0 rfl rfl 3 (by decide) (htc _ mw_306) (fun _ h9 => h9) rfl dX9_look_101 ?_
                replace hfin := ob1_some hfin
                obtain ⟨r_27, hE_26, hfin⟩ := hfin
                refine ctV (a := aD) (As := []) (rest := []) (st1 := [.int r_27]) (wc := [oX2 aD aDc D_writesDone D_writesLeft D_down]) (w1 := [oX2 aD aDc D_writesDone D_writesLeft D_down]) (wr := [oX9 aP P_seriesCount P_most P_ratio aD aI aG aU aT aQ aC P_recoveries, rI aDc cI 4096 D_cells, oX3 aI aD, oX4 aG aD G_logged, oX0 aQ aI aG aU Q_ratio aF aZ Q_looks Q_unpacked]) (wb := [oX9 aP P_seriesCount P_most P_ratio aD aI aG aU aT aQ aC P_recoveries, oX2 aD aDc D_writesDone D_writesLeft D_down, rI aDc cI 4096 D_cells, oX3 aI aD, oX4 aG aD G_logged, oX0 aQ aI aG aU Q_ratio aF aZ Q_looks Q_unpacked]) (v := (some (.int r_27))) hx hb hml hown htc hN (c_X2_isDown l G cI cZ cJ aD aDc D_writesDone D_writesLeft D_down  hE_26) mw_345 mw_346 mw_347 mw_3 mw_348 hd_X2_isDown ⟨rfl, rfl⟩ ⟨Nat.le_of_ble_eq_true rfl, Nat.le_of_ble_eq_true rfl⟩ hK hw0 hA [1] [0, 2, 3, 4, 5] [0, 5, 1, 2, 3, 4] rfl rfl rfl rfl rfl (by decide) rfl rfl rfl 0 rfl rfl rfl rfl hl0.1 rfl rfl (Nat.le_of_ble_eq_true rfl) dX9_look_104 ⟨Nat.zero_le _, Nat.zero_le _⟩ (fun H28 locs28 hw28 => ?_)
                clear hw0
                replace hfin := ob1_some hfin
                obtain ⟨s_29, hJ_30, hfin⟩ := hfin
                have kj_31 : ∀ (H : Heap) (locs : List Loc) (ls : Array Slot), wS G A s H locs [oX9 aP P_seriesCount P_most P_ratio aD aI aG aU aT aQ aC P_recoveries, oX2 aD aDc D_writesDone D_writesLeft D_down, rI aDc cI 4096 D_cells, oX3 aI aD, oX4 aG aD G_logged, oX0 aQ aI aG aU Q_ratio aF aZ Q_looks Q_unpacked] → lv_has ls 2 [] → W p l e rm_X9_look s m args below meth c H locs 0 0 QQ (F0 m 115 ls [.int s_29]) := by
                  clear hw28 H28 locs28 hl0 ls0 hJ_30
                  intro H33 locs33 ls33 hw33 hl33
                  cases hfin
                  rw [hQQ]
                  exact ct_iret hx hb hr hlocks hw33.1 hw33.2.1 hw33.2.2 dX9_look_115
                clear hfin
                refine lv_if_eq (tgt := 114) hx hb dX9_look_107 (by decide) (fun c_32 => ?_) (fun c_32 => ?_)
                · replace hJ_30 := it_t c_32 hJ_30
                  refine lv_iconst (v := (0 : Int32)) hx hb dX9_look_114 (by decide) ?_
                  cases hJ_30
                  exact kj_31 _ _ _ hw28 (lv_sub hl0 [] rfl)
                · replace hJ_30 := it_f c_32 hJ_30
                  refine lv_iconst (v := (1 : Int32)) hx hb dX9_look_110 (by decide) ?_
                  refine lv_goto (tgt := 115) hx hb dX9_look_111 (by decide) ?_
                  cases hJ_30
                  exact kj_31 _ _ _ hw28 (lv_sub hl0 [] rfl)
              · replace hfin := it_f c_25 hfin
                by_cases c_34 : p0 = (7 : Int32)
                · replace hfin := it_t c_34 hfin
                  refine lv_tableIn (tgt := 116) hx hb dX9_look_1 (by rw [c_34]; decide) (by rw [c_34]; decide) (by rw [c_34]; rfl) (by decide) ?_
                  refine lv_aload_n hx hb dX9_look_116 rfl (lv_at hl0 0 rfl) ?_
                  refine va_get (D := G) (ci := 9) (v := .ref aD) (C := RX9) (T := TX9) (N := 11) hx hb htc iX9 hown hK hw0.1 0 rfl rfl 3 (by decide) (htc _ mw_306) (fun _ h9 => h9) rfl dX9_look_117 ?_
                  replace hfin := ob1_some hfin
                  obtain ⟨r_36, hE_35, hfin⟩ := hfin
                  refine ctV (a := aD) (As := []) (rest := []) (st1 := [.int r_36]) (wc := [oX2 aD aDc D_writesDone D_writesLeft D_down]) (w1 := [oX2 aD aDc D_writesDone D_writesLeft D_down]) (wr := [oX9 aP P_seriesCount P_most P_ratio aD aI aG aU aT aQ aC P_recoveries, rI aDc cI 4096 D_cells, oX3 aI aD, oX4 aG aD G_logged, oX0 aQ aI aG aU Q_ratio aF aZ Q_looks Q_unpacked]) (wb := [oX9 aP P_seriesCount P_most P_ratio aD aI aG aU aT aQ aC P_recoveries, oX2 aD aDc D_writesDone D_writesLeft D_down, rI aDc cI 4096 D_cells, oX3 aI aD, oX4 aG aD G_logged, oX0 aQ aI aG aU Q_ratio aF aZ Q_looks Q_unpacked]) (v := (some (.int r_36))) hx hb hml hown htc hN (c_X2_writesLeft l G cI cZ cJ aD aDc D_writesDone D_writesLeft D_down  hE_35) mw_761 mw_762 mw_763 mw_3 mw_764 hd_X2_writesLeft ⟨rfl, rfl⟩ ⟨Nat.le_of_ble_eq_true rfl, Nat.le_of_ble_eq_true rfl⟩ hK hw0 hA [1] [0, 2, 3, 4, 5] [0, 5, 1, 2, 3, 4] rfl rfl rfl rfl rfl (by decide) rfl rfl rfl 0 rfl rfl rfl rfl hl0.1 rfl rfl (Nat.le_of_ble_eq_true rfl) dX9_look_120 ⟨Nat.zero_le _, Nat.zero_le _⟩ (fun H37 locs37 hw37 => ?_)
                  clear hw0
                  cases hfin
                  rw [hQQ]
                  exact ct_iret hx hb hr hlocks hw37.1 hw37.2.1 hw37.2.2 dX9_look_123
                · replace hfin := it_f c_34 hfin
                  by_cases c_38 : p0 = (8 : Int32)
                  · replace hfin := it_t c_38 hfin
                    refine lv_tableIn (tgt := 124) hx hb dX9_look_1 (by rw [c_38]; decide) (by rw [c_38]; decide) (by rw [c_38]; rfl) (by decide) ?_
                    refine lv_aload_n hx hb dX9_look_124 rfl (lv_at hl0 0 rfl) ?_
                    refine va_get (D := G) (ci := 9) (v := .int P_recoveries) (C := RX9) (T := TX9) (N := 11) hx hb htc iX9 hown hK hw0.1 0 rfl rfl 10 (by decide) (htc _ mw_313) (fun _ h9 => h9) rfl dX9_look_125 ?_
                    cases hfin
                    rw [hQQ]
                    exact ct_iret hx hb hr hlocks hw0.1 hw0.2.1 hw0.2.2 dX9_look_128
                  · replace hfin := it_f c_38 hfin
                    refine lv_tableOut (tgt := 129) hx hb dX9_look_1 (sw_out8 c_1 c_5 c_9 c_13 c_17 c_21 c_25 c_34 c_38) (by decide) ?_
                    refine lv_iconst (v := (-1 : Int32)) hx hb dX9_look_129 (by decide) ?_
                    cases hfin
                    rw [hQQ]
                    exact ct_iret hx hb hr hlocks hw0.1 hw0.2.1 hw0.2.2 dX9_look_130
